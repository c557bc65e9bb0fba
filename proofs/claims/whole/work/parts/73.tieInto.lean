/-! pure: threads that are tied one by one -/
def tieOK (L : List TH) (a b : Nat) : Bool := !an (fun t => joins (fl L) (fh L) t a b) L.length && decide (L.countP (atk a) < 3) && decide (L.countP (atk b) < 3)
theorem x_mayTie {N K a b : Nat} {L : List TH} {e c : Nat → Int32} (hN : 1000 ≤ N) (hW : WL K L) (hX : XL L e c) (hab : a < b) (hb : b < 14) : m_X2_mayTie N (nI L.length) e (nI (2 ^ a + 2 ^ b)) = some (if tieOK L a b then 1 else 0) := by
  obtain ⟨hE, -⟩ := XL_iff.mp hX
  have hw := hW.wt
  have l21 := hW.len21
  have p0 := Nat.two_pow_pos a
  have p00 := Nat.two_pow_pos b
  have lt : 2 ^ a + 2 ^ b < 2 ^ 14 := by
    have h1 := p2lt hab
    have h2 := p2le (show b + 1 ≤ 14 by omega)
    rw [Nat.pow_succ] at h2
    omega
  have ej : ∀ i, i < L.length → (em (fl L) (fh L) i = 2 ^ a + 2 ^ b ↔ joins (fl L) (fh L) i a b = true) := fun i hi => by
    rw [← or_bit (p2lt hab)]
    exact em_joins (hw.2 i hi).1 (by omega)
  unfold m_X2_mayTie tieOK
  rcases first_of (fun t => joins (fl L) (fh L) t a b) L.length with ⟨i, h1, h2, h3⟩ | h
  · rw [x_find hN hw hE (R := nI i) (by omega) (Or.inl ⟨i, h1, (ej i h1).mpr h2, fun j hj g => by
      have := (ej j (by omega)).mp g
      have := h3 j hj
      simp_all, rfl⟩), r_bind, if_neg (nI_pos (by omega))]
    have : an (fun t => joins (fl L) (fh L) t a b) L.length = true := (an_iff _ _).mpr ⟨i, h1, h2⟩
    rw [this]
    rfl
  · have e0 : an (fun t => joins (fl L) (fh L) t a b) L.length = false := by
      cases q : an (fun t => joins (fl L) (fh L) t a b) L.length with
      | false => rfl
      | true =>
        obtain ⟨i, h1, h2⟩ := (an_iff _ _).mp q
        have := h i h1
        simp_all
    rw [x_find hN hw hE (R := -1) (by omega) (Or.inr ⟨fun i hi g => by
      have := (ej i hi).mp g
      have := h i hi
      simp_all, rfl⟩), r_bind, if_pos (show (-1 : Int32) < 0 by decide), m_ntz (by omega) (by omega), r_bind, m_nlz (by omega) (by omega), r_bind, lb2 hab (by omega), lg2 hab]
    simp only [nm]
    rw [show (31 : Int32) = nI 31 from rfl, pk_sub (by omega), show 31 - (31 - b) = b by omega, x_isFullKnot hN hw hE (by omega), r_bind, x_isFullKnot hN hw hE (by omega), deg_L, deg_L, e0]
    by_cases q1 : L.countP (atk a) < 3
    · rw [if_neg (show ¬ 3 ≤ L.countP (atk a) by omega), if_pos rfl, r_bind]
      by_cases q2 : L.countP (atk b) < 3
      · rw [if_neg (show ¬ 3 ≤ L.countP (atk b) by omega), if_pos rfl]
        simp [q1, q2]
      · rw [if_pos (show 3 ≤ L.countP (atk b) by omega), if_neg n10]
        simp [q2]
    · rw [if_pos (show 3 ≤ L.countP (atk a) by omega), if_neg n10]
      simp [q1]
theorem tie_WL {K a b : Nat} {L : List TH} (hW : WL K L) (hab : a < b) (hb : b < K) : tieOK L a b = true ↔ WL K (L ++ [(a, b, 3)]) := by
  have hj : ∀ x ∈ L, apart x (a, b, 3) ↔ ¬ (x.1 = a ∧ x.2.1 = b) := fun x _ => Iff.rfl
  unfold tieOK
  rw [Bool.and_eq_true, Bool.and_eq_true, decide_eq_true_iff, decide_eq_true_iff]
  constructor
  · rintro ⟨⟨h1, h2⟩, h3⟩
    refine hW.app (Nat.le_refl _) hW.1 ⟨hab, hb, Nat.le_refl _⟩ (fun x hx g => ?_) (fun k hk => ?_)
    · obtain ⟨i, hi⟩ := List.mem_iff_getElem?.mp hx
      have : an (fun t => joins (fl L) (fh L) t a b) L.length = true := (an_iff _ _).mpr ⟨i, lt_of hi, by
        unfold joins fl fh
        rw [getD_some hi]
        have g1 : x.1 = a := g.1
        have g2 : x.2.1 = b := g.2
        simp [g1, g2]⟩
      rw [this] at h1
      cases h1
    · unfold atk at hk
      simp at hk
      rcases hk with g | g
      · rw [← g]; omega
      · rw [← g]; omega
  · intro h
    have cnt := h.2.2.2
    refine ⟨⟨?_, ?_⟩, ?_⟩
    · have e0 : an (fun t => joins (fl L) (fh L) t a b) L.length = false := by
        cases q : an (fun t => joins (fl L) (fh L) t a b) L.length with
        | false => rfl
        | true =>
          obtain ⟨i, h1, h2⟩ := (an_iff _ _).mp q
          obtain ⟨x, hx⟩ := some_of h1
          have hm := List.mem_of_getElem? hx
          have ho := hW.2.1 x hm
          unfold joins fl fh at h2
          rw [getD_some hx] at h2
          simp at h2
          have pw := (List.pairwise_append.mp h.2.2.1).2.2 x hm (a, b, 3) (by simp)
          have := ho.1
          exact absurd (show x.1 = a ∧ x.2.1 = b by omega) pw
      rw [e0]
      rfl
    · have := cnt a
      rw [cnt_app, if_pos (by unfold atk; simp)] at this
      omega
    · have := cnt b
      rw [cnt_app, if_pos (by unfold atk; simp)] at this
      omega
/-- the threads of the pairs -/
def prT (p : PR) : TH := (min p.1 p.2, max p.1 p.2, 3)
def nl (P : List PR) : List TH := P.map prT
theorem nl_app (P : List PR) (p : PR) : nl (P ++ [p]) = nl P ++ [prT p] := by unfold nl; simp
theorem nl_len (P : List PR) : (nl P).length = P.length := by unfold nl; simp
theorem WL.front {K : Nat} {L M : List TH} (h : WL K (L ++ M)) : WL K L := h.sub (List.sublist_append_left L M)
theorem prT_lt {p : PR} (h : p.1 ≠ p.2) : (prT p).1 < (prT p).2.1 := by
  show min p.1 p.2 < max p.1 p.2
  omega
theorem prT_or {p : PR} (h : p.1 ≠ p.2) : 2 ^ p.1 ||| 2 ^ p.2 = 2 ^ (prT p).1 + 2 ^ (prT p).2.1 := by
  show _ = 2 ^ min p.1 p.2 + 2 ^ max p.1 p.2
  rcases Nat.lt_or_ge p.1 p.2 with g | g
  · rw [Nat.min_eq_left (by omega), Nat.max_eq_right (by omega), or_bit (p2lt g)]
  · rw [Nat.min_eq_right (by omega), Nat.max_eq_left (by omega), Nat.or_comm, or_bit (p2lt (by omega))]
/-- the knots of the pairs: one more than the greatest -/
def topP : List PR → Nat
  | [] => 0
  | p :: P => max (max p.1 p.2 + 1) (topP P)
theorem topP_app (P : List PR) (p : PR) : topP (P ++ [p]) = max (topP P) (max p.1 p.2 + 1) := by
  induction P with
  | nil => show max (max p.1 p.2 + 1) 0 = max 0 _; omega
  | cons q P ih => show max (max q.1 q.2 + 1) (topP (P ++ [p])) = max (max (max q.1 q.2 + 1) (topP P)) _; rw [ih]; omega
theorem topP_le {P : List PR} (hB : BP P) : topP P ≤ 14 := by
  induction P with
  | nil => exact Nat.zero_le _
  | cons q P ih =>
    have a := hB q List.mem_cons_self
    have b := ih (fun p hp => hB p (List.mem_cons_of_mem _ hp))
    show max (max q.1 q.2 + 1) (topP P) ≤ 14
    omega
/-- a set whose greatest element is known -/
def tops (u K : Nat) : Prop := u < 2 ^ K ∧ (0 < K → 2 ^ (K - 1) ≤ u)
theorem tops_or {u K v M : Nat} (h : tops u K) (h2 : tops v M) : tops (u ||| v) (max K M) := by
  refine ⟨or_lt (Nat.lt_of_lt_of_le h.1 (p2le (by omega))) (Nat.lt_of_lt_of_le h2.1 (p2le (by omega))), fun h0 => ?_⟩
  rcases Nat.le_total K M with g | g
  · rw [Nat.max_eq_right g] at h0 ⊢
    exact Nat.le_trans (h2.2 h0) (Nat.right_le_or)
  · rw [Nat.max_eq_left g] at h0 ⊢
    exact Nat.le_trans (h.2 h0) (Nat.left_le_or)
theorem tops_p {p : PR} (h : p.1 ≠ p.2) : tops (2 ^ p.1 ||| 2 ^ p.2) (max p.1 p.2 + 1) := by
  have l := prT_lt h
  rw [prT_or h]
  have a := p2lt l
  have a0 := Nat.two_pow_pos (prT p).1
  show tops (2 ^ (prT p).1 + 2 ^ (prT p).2.1) ((prT p).2.1 + 1)
  refine ⟨by rw [Nat.pow_succ]; omega, fun _ => by rw [Nat.add_sub_cancel]; omega⟩
theorem tops_log {u K : Nat} (h : tops u K) (h0 : 0 < K) : Nat.log2 u = K - 1 ∧ 0 < u := by
  have b := h.2 h0
  have p := Nat.two_pow_pos (K - 1)
  have u0 : u ≠ 0 := by omega
  have l1 : K - 1 ≤ Nat.log2 u := (Nat.le_log2 u0).mpr b
  have l2 : Nat.log2 u < K := (Nat.log2_lt u0).mpr h.1
  omega
theorem x_addKn {N K d : Nat} (hK : K + d ≤ 14) : m_X2_addKnots N (nI K) (nI d) = some (nI (K + d)) := by
  unfold m_X2_addKnots mni
  simp only [nm]
  rw [nI_add, if_neg (show ¬ (14 : Int32) < nI (K + d) from nI_nlt (b := K + d) (a := 14) (by omega) (by omega))]
abbrev R5 : Type := Option (Int32 × Int32 × Int32 × (Nat → Int32) × (Nat → Int32))
theorem x_tieLoop {N : Nat} {P : List PR} {px : Nat → Int32} {k0 : Int32} {J : Int32 → Int32 → (Nat → Int32) → (Nat → Int32) → R5} (hN : 1000 ≤ N) (hX : XP P px) (hB : BP P) (hL : ∀ p ∈ P, p.1 ≠ p.2) (hm : P.length ≤ 15) : ∀ (R A : List PR), A ++ R = P → ∀ (u f : Nat) (e c : Nat → Int32), WL 14 (nl A) → XL (nl A) e c → tops u (topP A) → R.length < f →
    (WL 14 (nl P) ∧ ∃ u' e' c', m_X4_tieInto_L8 N px (nI P.length) k0 J f (nI A.length) (nI u) (nI A.length) e c = J (nI u') (nI P.length) e' c' ∧ XL (nl P) e' c' ∧ tops u' (topP P)) ∨ (¬ WL 14 (nl P) ∧ ∃ t' e' c', m_X4_tieInto_L8 N px (nI P.length) k0 J f (nI A.length) (nI u) (nI A.length) e c = some (0, k0, t', e', c')) := by
  intro R
  induction R with
  | nil =>
    intro A hA u f e c hW hXL hu hf
    obtain ⟨f, rfl⟩ : ∃ m, f = m + 1 := ⟨f - 1, by omega⟩
    rw [List.append_nil] at hA
    subst hA
    left
    exact ⟨hW, u, e, c, by rw [m_X4_tieInto_L8, if_pos (nI_le (Nat.le_refl _) (by omega))], hXL, hu⟩
  | cons p R ih =>
    intro A hA u f e c hW hXL hu hf
    obtain ⟨f, rfl⟩ : ∃ m, f = m + 1 := ⟨f - 1, by omega⟩
    have hp : P[A.length]? = some p := by
      rw [← hA, List.getElem?_append_right (Nat.le_refl _), Nat.sub_self]
      rfl
    have hlt := pr_lt hp
    have hmem := List.mem_of_getElem? hp
    have hne := hL p hmem
    have hb := hB p hmem
    have l := prT_lt hne
    have l14 : (prT p).2.1 < 14 := by
      show max p.1 p.2 < 14
      omega
    have at1 : m_X6_at N 21 px (nI A.length) = some (nI (2 ^ (prT p).1 + 2 ^ (prT p).2.1)) := by
      rw [x_at (by omega) (by decide), hX _ _ hp, prT_or hne]
    have hA' : (A ++ [p]) ++ R = P := by rw [List.append_assoc]; exact hA
    have may := x_mayTie hN hW hXL l l14
    rw [nl_len] at may
    have eP : nl P = nl (A ++ [p]) ++ nl R := by rw [← hA']; unfold nl; simp
    rw [m_X4_tieInto_L8, if_neg (nI_ge hlt (by omega)), at1, r_bind, may, r_bind]
    by_cases q : tieOK (nl A) (prT p).1 (prT p).2.1 = true
    · rw [if_pos q, if_neg n10, r_bind]
      obtain ⟨e', c', h1, h2⟩ := x_tie (N := N) (L := nl A) (e := e) (c := c) (by rw [nl_len]; omega) hXL (a := (prT p).1) (b := (prT p).2.1) rfl
      have ep : ((prT p).1, (prT p).2.1, 3) = prT p := rfl
      rw [nl_len, ep, ← nl_app, nl_len] at h1
      rw [ep, ← nl_app] at h2
      rw [h1, r_bind]
      have W' : WL 14 (nl (A ++ [p])) := by
        rw [nl_app]
        exact (tie_WL hW l l14).mp q
      have T' : tops (u ||| (2 ^ (prT p).1 + 2 ^ (prT p).2.1)) (topP (A ++ [p])) := by
        rw [topP_app, ← prT_or hne]
        exact tops_or hu (tops_p hne)
      have := ih (A ++ [p]) hA' (u ||| (2 ^ (prT p).1 + 2 ^ (prT p).2.1)) f e' c' W' h2 T' (by simp at hf; omega)
      have len : (A ++ [p]).length = A.length + 1 := by simp
      rw [len] at this
      simp only [nm]
      rw [r_bind, nI_1, nor, len]
      exact this
    · right
      refine ⟨fun hWP => q ((tie_WL hW l l14).mpr ?_), nI A.length, e, c, ?_⟩
      · have := hWP
        rw [eP, nl_app] at this
        exact this.front
      · rw [if_neg q, if_pos rfl]
theorem x_tieInto {N : Nat} {P : List PR} {px e c : Nat → Int32} {k0 t0 : Int32} (hN : 1000 ≤ N) (hX : XP P px) (hB : BP P) (hL : ∀ p ∈ P, p.1 ≠ p.2) (hm : P.length ≤ 15) (h0 : P ≠ []) :
    (WL 14 (nl P) ∧ ∃ e' c', m_X4_tieInto N px (nI P.length) k0 t0 e c = some (1, nI (topP P), nI P.length, e', c') ∧ XL (nl P) e' c') ∨ (¬ WL 14 (nl P) ∧ ∃ k' t' e' c', m_X4_tieInto N px (nI P.length) k0 t0 e c = some (0, k', t', e', c')) := by
  have t1 : 0 < topP P := by
    cases P with
    | nil => exact absurd rfl h0
    | cons p P => show 0 < max _ _; omega
  have t2 := topP_le hB
  have W0 : WL 14 (nl []) := ⟨Nat.le_refl _, fun x hx => (by cases hx), List.Pairwise.nil, fun k => Nat.zero_le _⟩
  have := x_tieLoop (N := N) (k0 := nI 0) (J := fun x2 t e c => Option.bind (m_J6_numberOfLeadingZeros_0f7a4 N x2) (fun r_8 => Option.bind (m_X2_addKnots N (nI 0) (32 - r_8)) (fun k => some (1, k, t, e, c)))) hN hX hB hL hm P [] rfl 0 N e c W0 (fun i x hx => by simp [nl] at hx) ⟨by decide, fun h => absurd h (by decide)⟩ (by omega)
  rcases this with ⟨hW, u', e', c', h1, h2, h3⟩ | ⟨hW, t', e', c', h1⟩
  · left
    refine ⟨hW, e', c', Eq.trans h1 ?_, h2⟩
    obtain ⟨l1, l2⟩ := tops_log h3 t1
    have l3 : u' < 16384 := Nat.lt_of_lt_of_le h3.1 (p2le (b := 14) t2)
    rw [m_nlz l3 l2, r_bind, l1, show (32 : Int32) = nI 32 from rfl, pk_sub (by omega), show 32 - (31 - (topP P - 1)) = topP P by omega, x_addKn (by omega), r_bind, Nat.zero_add]
  · right
    exact ⟨hW, _, t', e', c', h1⟩
