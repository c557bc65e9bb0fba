-- the corners of a triangle
def jn2 (T : Nat) (lo hi : Nat → Nat) (i j : Nat) : Bool := an (fun t => joins lo hi t i j) T
theorem x_find2 {N T i j : Nat} {lo hi co : Nat → Nat} {e : Nat → Int32} (hN : 1000 ≤ N) (hw : wt T lo hi co) (he : XE T lo hi e) (hij : i < j) (hj : j < 14) : ∃ R, m_X2_find N (nI T) e (nI (2 ^ i + 2 ^ j)) = some R ∧ (R < 0 ↔ jn2 T lo hi i j = false) := by
  have hT := hw.1
  have p1 := p2lt hij
  have p2 := p2le (show j ≤ 13 by omega)
  have eq : ∀ t, t < T → (em lo hi t = 2 ^ i + 2 ^ j ↔ joins lo hi t i j = true) := fun t ht => by
    rw [← em_joins (hw.2 t ht).1 (by omega), or_bit p1]
  rcases first_of (fun t => joins lo hi t i j) T with ⟨t, h1, h2, h3⟩ | h
  · refine ⟨nI t, x_find hN hw he (by omega) (Or.inl ⟨t, h1, (eq t h1).mpr h2, fun u hu => fun w => ?_, rfl⟩), ?_⟩
    · have := (eq u (by omega)).mp w
      rw [h3 u hu] at this
      cases this
    · have : jn2 T lo hi i j = true := (an_iff _ _).mpr ⟨t, h1, h2⟩
      rw [this]
      exact ⟨fun q => absurd q (nI_pos (by omega)), fun q => by cases q⟩
  · refine ⟨-1, x_find hN hw he (by omega) (Or.inr ⟨fun u hu => fun w => ?_, rfl⟩), ?_⟩
    · have := (eq u hu).mp w
      rw [h u hu] at this
      cases this
    · have : jn2 T lo hi i j = false := by
        cases q : jn2 T lo hi i j with
        | false => rfl
        | true =>
          obtain ⟨t, h1, h2⟩ := (an_iff _ _).mp q
          rw [h t h1] at h2
          cases h2
      rw [this]
      exact ⟨fun _ => rfl, fun _ => by decide⟩
theorem m_find2 {N K T i j : Nat} {lo hi co : Nat → Nat} {s : Nat → Int32} (hN : 1000 ≤ N) (hw : wt T lo hi co) (hs : MN K T lo hi co s) (hi' : i < 14) (hj : j < 14) : ∃ R, m_X7_threadBetween N s (nI i) (nI j) = some R ∧ (R < 0 ↔ jn2 T lo hi i j = false) := by
  have hT := hw.1
  rcases first_of (fun t => joins lo hi t i j) T with ⟨t, h1, h2, h3⟩ | h
  · refine ⟨nI t, m_between hN hw hs (by omega) (by omega) (Or.inl ⟨t, h1, h2, h3, rfl⟩), ?_⟩
    have : jn2 T lo hi i j = true := (an_iff _ _).mpr ⟨t, h1, h2⟩
    rw [this]
    exact ⟨fun q => absurd q (nI_pos (by omega)), fun q => by cases q⟩
  · refine ⟨-5, m_between hN hw hs (by omega) (by omega) (Or.inr ⟨h, rfl⟩), ?_⟩
    have : jn2 T lo hi i j = false := by
      cases q : jn2 T lo hi i j with
      | false => rfl
      | true =>
        obtain ⟨t, h1, h2⟩ := (an_iff _ _).mp q
        rw [h t h1] at h2
        cases h2
    rw [this]
    exact ⟨fun _ => rfl, fun _ => by decide⟩
def gd (T : Nat) (lo hi : Nat → Nat) (k i j : Nat) : Bool := (nb T lo hi k).testBit i && (nb T lo hi k).testBit j && jn2 T lo hi i j && (deg T lo hi i == 3) && (deg T lo hi j == 3)
def fj (g : Nat → Bool) : Nat → Nat → Option Nat
  | 0, _ => none
  | d + 1, j => if g j then some j else fj g d (j + 1)
def fij (K : Nat) (g : Nat → Nat → Bool) : Nat → Nat → Option (Nat × Nat)
  | 0, _ => none
  | d + 1, i => match fj (g i) (K - (i + 1)) (i + 1) with
    | some j => some (i, j)
    | none => fij K g d (i + 1)
def crn (K T : Nat) (lo hi : Nat → Nat) (k : Nat) : Nat := if deg T lo hi k = 3 then (match fij K (gd T lo hi k) K 0 with | some p => 2 ^ p.1 + 2 ^ p.2 | none => 0) else 0
theorem has2 {x i j : Nat} (h : i < j) : (x &&& (2 ^ i + 2 ^ j) = 2 ^ i + 2 ^ j) ↔ (x.testBit i && x.testBit j) = true := by
  constructor
  · intro q
    have a := congrArg (fun n => n.testBit i) q
    have b := congrArg (fun n => n.testBit j) q
    simp only [Nat.testBit_and, t2 h] at a b
    simp at a b
    rw [a, b]; rfl
  · intro q
    rw [Bool.and_eq_true] at q
    apply Nat.eq_of_testBit_eq
    intro l
    rw [Nat.testBit_and, t2 h]
    by_cases g : i = l
    · subst g; rw [q.1]; simp
    · by_cases g2 : j = l
      · subst g2; rw [q.2]; simp
      · have e1 : (i == l) = false := by simp [g]
        have e2 : (j == l) = false := by simp [g2]
        rw [e1, e2]; simp
theorem x_corners {N K T k : Nat} {lo hi co : Nat → Nat} {e : Nat → Int32} (hN : 1000 ≤ N) (hw : wf K T lo hi co) (he : XE T lo hi e) (hk : k < 14) : m_X2_cornersBeside N (nI K) (nI T) e (nI k) = some (nI (crn K T lo hi k)) := by
  have hK := hw.1
  have d3 := hw.2.2.2.2
  have ful : ∀ i, i < 14 → m_X2_isFullKnot N (nI T) e (nI i) = some (if deg T lo hi i == 3 then 1 else 0) := fun i hi' => by
    rw [x_isFullKnot hN hw.t he (by omega)]
    by_cases q : deg T lo hi i = 3
    · rw [if_pos (by omega), if_pos (by simp [q])]
    · rw [if_neg (by have := d3 i; omega), if_neg (by simp [q])]
  have inner : ∀ (i : Nat) (J : Option Int32), i < K → ∀ (d n j : Nat), i < j → j + d = K → d < n → m_X2_cornersBeside_L31 N (nI K) (nI T) e (nI (nb T lo hi k)) (nI i) J n (nI j) = (match fj (gd T lo hi k i) d j with | some j => some (nI (2 ^ i + 2 ^ j)) | none => J) := by
    intro i J hi' d
    induction d with
    | zero =>
      intro n j hij hj hn
      obtain ⟨n, rfl⟩ : ∃ m, n = m + 1 := ⟨n - 1, by omega⟩
      have : j = K := by omega
      subst this
      rw [m_X2_cornersBeside_L31, if_pos (nI_le (Nat.le_refl _) (by omega))]
      rfl
    | succ d ih =>
      intro n j hij hj hn
      obtain ⟨n, rfl⟩ : ∃ m, n = m + 1 := ⟨n - 1, by omega⟩
      have nx := ih n (j + 1) (by omega) (by omega) (by omega)
      obtain ⟨R, hR, hR2⟩ := x_find2 hN hw.t he hij (show j < 14 by omega)
      have p1 := p2lt hij
      have p2 := p2le (show j ≤ 13 by omega)
      have nl := nb_lt (k := k) hw.t
      rw [m_X2_cornersBeside_L31, if_neg (nI_ge (show j < K by omega) (by omega)), m_bit (by omega), r_bind, m_bit (by omega), r_bind, nor_bit p1]
      simp only [nm]
      rw [nand, nI_1, nx]
      show _ = (match (if gd T lo hi k i j then some j else fj (gd T lo hi k i) d (j + 1)) with | some j => some (nI (2 ^ i + 2 ^ j)) | none => J)
      have bit : (nI (nb T lo hi k &&& (2 ^ i + 2 ^ j)) = nI (2 ^ i + 2 ^ j)) ↔ ((nb T lo hi k).testBit i && (nb T lo hi k).testBit j) = true := by
        rw [nI_eq (Nat.lt_of_le_of_lt Nat.and_le_left (by omega)) (by omega), has2 hij]
      unfold gd
      cases q : ((nb T lo hi k).testBit i && (nb T lo hi k).testBit j) with
      | false =>
        rw [if_neg (fun w => by rw [bit, q] at w; cases w)]
        rfl
      | true =>
        rw [if_pos (bit.mpr q), hR, r_bind]
        cases q2 : jn2 T lo hi i j with
        | false => rw [if_pos (hR2.mpr q2)]; rfl
        | true =>
          rw [if_neg (fun w => by rw [hR2, q2] at w; cases w), ful i (by omega), r_bind, sel]
          cases q3 : (deg T lo hi i == 3) with
          | false => rw [if_neg (by decide)]; rfl
          | true =>
            rw [if_pos rfl, ful j (by omega), r_bind, sel]
            cases q4 : (deg T lo hi j == 3) with
            | false => rw [if_neg (by decide)]; rfl
            | true => rw [if_pos rfl]; rfl
  have outer : ∀ (d n i : Nat), i + d = K → d < n → m_X2_cornersBeside_L18 N (nI K) (nI T) e (nI (nb T lo hi k)) n (nI i) = some (nI (match fij K (gd T lo hi k) d i with | some p => 2 ^ p.1 + 2 ^ p.2 | none => 0)) := by
    intro d
    induction d with
    | zero =>
      intro n i hi' hn
      obtain ⟨n, rfl⟩ : ∃ m, n = m + 1 := ⟨n - 1, by omega⟩
      have : i = K := by omega
      subst this
      rw [m_X2_cornersBeside_L18, if_pos (nI_le (Nat.le_refl _) (by omega))]
      rfl
    | succ d ih =>
      intro n i hi' hn
      obtain ⟨n, rfl⟩ : ∃ m, n = m + 1 := ⟨n - 1, by omega⟩
      rw [m_X2_cornersBeside_L18, if_neg (nI_ge (show i < K by omega) (by omega))]
      simp only [nm, jn]
      rw [nI_1, ih n (i + 1) (by omega) (by omega), inner i _ (by omega) (K - (i + 1)) N (i + 1) (by omega) (by omega) (by omega)]
      show _ = some (nI (match (match fj (gd T lo hi k i) (K - (i + 1)) (i + 1) with | some j => some (i, j) | none => fij K (gd T lo hi k) d (i + 1)) with | some p => 2 ^ p.1 + 2 ^ p.2 | none => 0))
      cases fj (gd T lo hi k i) (K - (i + 1)) (i + 1) <;> rfl
  unfold m_X2_cornersBeside crn
  rw [ful k hk, r_bind, sel]
  by_cases q : deg T lo hi k = 3
  · rw [if_pos (by simp [q]), if_pos q, x_neighbours hN hw.t he (by omega), r_bind]
    exact outer K N 0 (by omega) (by omega)
  · rw [if_neg (by simp [q]), if_neg q]; rfl
theorem m_corners {N K T k : Nat} {lo hi co : Nat → Nat} {s : Nat → Int32} (hN : 1000 ≤ N) (hw : wf K T lo hi co) (hs : MN K T lo hi co s) (hk : k < K) : m_X7_corners N s (nI k) = some (nI (crn K T lo hi k)) := by
  have hK := hw.1
  have d3 := hw.2.2.2.2
  have inner : ∀ (i : Nat) (J : Option Int32), i < K → ∀ (d n j : Nat), i < j → j + d = K → d < n → m_X7_corners_L32 N s (nI (nb T lo hi k)) (fun x y => some ((sh 1 x) ||| (sh 1 y))) (nI i) J n (nI j) = (match fj (gd T lo hi k i) d j with | some j => some (nI (2 ^ i + 2 ^ j)) | none => J) := by
    intro i J hi' d
    induction d with
    | zero =>
      intro n j hij hj hn
      obtain ⟨n, rfl⟩ : ∃ m, n = m + 1 := ⟨n - 1, by omega⟩
      have : j = K := by omega
      subst this
      rw [m_X7_corners_L32, r_0 (by decide), hs.1, if_pos (nI_le (Nat.le_refl _) (by omega))]
      rfl
    | succ d ih =>
      intro n j hij hj hn
      obtain ⟨n, rfl⟩ : ∃ m, n = m + 1 := ⟨n - 1, by omega⟩
      have nx := ih n (j + 1) (by omega) (by omega) (by omega)
      obtain ⟨R, hR, hR2⟩ := m_find2 hN hw.t hs (show i < 14 by omega) (show j < 14 by omega)
      have p1 := p2lt hij
      have nl := nb_lt (k := k) hw.t
      rw [m_X7_corners_L32, r_0 (by decide), hs.1, if_neg (nI_ge (show j < K by omega) (by omega)), m_has (by omega) (by omega), r_bind]
      simp only [jn]
      rw [if_pos trivial, nI_1, nx, sel]
      show _ = (match (if gd T lo hi k i j then some j else fj (gd T lo hi k i) d (j + 1)) with | some j => some (nI (2 ^ i + 2 ^ j)) | none => J)
      unfold gd
      cases q : (nb T lo hi k).testBit i with
      | false => rw [if_neg (by decide)]; rfl
      | true =>
        rw [if_pos rfl, m_has (by omega) (by omega), r_bind, sel]
        cases q1 : (nb T lo hi k).testBit j with
        | false => rw [if_neg (by decide)]; rfl
        | true =>
          rw [if_pos rfl, hR, r_bind]
          cases q2 : jn2 T lo hi i j with
          | false => rw [if_pos (hR2.mpr q2)]; rfl
          | true =>
            rw [if_neg (fun w => by rw [hR2, q2] at w; cases w), if_neg (by decide), m_degree hN hw.t hs (by omega), r_bind]
            by_cases q3 : deg T lo hi i = 3
            · rw [if_pos (by rw [q3]; rfl), m_degree hN hw.t hs (by omega), r_bind]
              by_cases q4 : deg T lo hi j = 3
              · rw [if_pos (by rw [q4]; rfl), q3, q4, sh1 (by omega), sh1 (by omega), nor_bit p1]; rfl
              · rw [if_neg (fun w => q4 ((nI3 (by have := d3 j; omega)).mp w)), show (deg T lo hi j == 3) = false by simp [q4], q3]; rfl
            · rw [if_neg (fun w => q3 ((nI3 (by have := d3 i; omega)).mp w)), show (deg T lo hi i == 3) = false by simp [q3]]; rfl
  have outer : deg T lo hi k = 3 → ∀ (d n i : Nat), i + d = K → d < n → m_X7_corners_L8 N s (nI k) (nI (nb T lo hi k)) (fun x y => some ((sh 1 x) ||| (sh 1 y))) n (nI i) = some (nI (match fij K (gd T lo hi k) d i with | some p => 2 ^ p.1 + 2 ^ p.2 | none => 0)) := by
    intro hd d
    induction d with
    | zero =>
      intro n i hi' hn
      obtain ⟨n, rfl⟩ : ∃ m, n = m + 1 := ⟨n - 1, by omega⟩
      have : i = K := by omega
      subst this
      rw [m_X7_corners_L8, r_0 (by decide), hs.1, if_pos (nI_le (Nat.le_refl _) (by omega))]
      rfl
    | succ d ih =>
      intro n i hi' hn
      obtain ⟨n, rfl⟩ : ∃ m, n = m + 1 := ⟨n - 1, by omega⟩
      rw [m_X7_corners_L8, r_0 (by decide), hs.1, if_neg (nI_ge (show i < K by omega) (by omega)), m_degree hN hw.t hs (by omega), r_bind, if_pos (by rw [hd]; rfl)]
      simp only [nm, jn]
      rw [nI_1, ih n (i + 1) (by omega) (by omega), inner i _ (by omega) (K - (i + 1)) N (i + 1) (by omega) (by omega) (by omega)]
      show _ = some (nI (match (match fj (gd T lo hi k i) (K - (i + 1)) (i + 1) with | some j => some (i, j) | none => fij K (gd T lo hi k) d (i + 1)) with | some p => 2 ^ p.1 + 2 ^ p.2 | none => 0))
      cases fj (gd T lo hi k i) (K - (i + 1)) (i + 1) <;> rfl
  unfold m_X7_corners crn
  rw [m_neighbours hN hw.t hs (by omega), r_bind]
  unfold jn
  by_cases q : deg T lo hi k = 3
  · rw [if_pos q]
    exact outer q K N 0 (by omega) (by omega)
  · rw [if_neg q]
    obtain ⟨n, hn⟩ : ∃ m, N = m + 1 := ⟨N - 1, by omega⟩
    show m_X7_corners_L8 N s (nI k) (nI (nb T lo hi k)) (fun x y => some ((sh 1 x) ||| (sh 1 y))) N (nI 0) = _
    rw [show m_X7_corners_L8 N s (nI k) (nI (nb T lo hi k)) (fun x y => some ((sh 1 x) ||| (sh 1 y))) N (nI 0) = m_X7_corners_L8 N s (nI k) (nI (nb T lo hi k)) (fun x y => some ((sh 1 x) ||| (sh 1 y))) (n + 1) (nI 0) by rw [← hn]]
    rw [m_X7_corners_L8, r_0 (by decide), hs.1, if_neg (nI_ge (show 0 < K by omega) (by omega)), m_degree hN hw.t hs (by omega), r_bind, if_neg (fun w => q ((nI3 (by have := d3 k; omega)).mp w))]
    rfl
