-- 43.net.lean.txt
section
/-! pure: nets. T threads, lo, hi, co: each thread's lesser and greater knot and its colour -/
def em (lo hi : Nat → Nat) (t : Nat) : Nat := 2 ^ lo t + 2 ^ hi t
def isat (lo hi : Nat → Nat) (t k : Nat) : Bool := lo t == k || hi t == k
def acr (lo hi : Nat → Nat) (t k : Nat) : Nat := if lo t = k then hi t else lo t
def deg (T : Nat) (lo hi : Nat → Nat) (k : Nat) : Nat := ct (fun t => isat lo hi t k) T
/-- a net as the document has it -/
def wf (K T : Nat) (lo hi co : Nat → Nat) : Prop := K ≤ 14 ∧ T ≤ 21 ∧ (∀ i, i < T → lo i < hi i ∧ hi i < K ∧ co i ≤ 3) ∧ (∀ i j, i < T → j < T → lo i = lo j → hi i = hi j → i = j) ∧ ∀ k, deg T lo hi k ≤ 3
/-- the threads alone -/
def wt (T : Nat) (lo hi co : Nat → Nat) : Prop := T ≤ 21 ∧ ∀ i, i < T → lo i < hi i ∧ hi i < 14 ∧ co i ≤ 3
def XE (T : Nat) (lo hi : Nat → Nat) (e : Nat → Int32) : Prop := ∀ i, i < T → e i = nI (em lo hi i)
def XC (T : Nat) (co : Nat → Nat) (c : Nat → Int32) : Prop := ∀ i, i < T → c i = nI (co i)
def MN (K T : Nat) (lo hi co : Nat → Nat) (s : Nat → Int32) : Prop := s 0 = nI K ∧ s 1 = nI T ∧ ∀ i, i < T → s (2 + 3 * i) = nI (lo i) ∧ s (2 + 3 * i + 1) = nI (hi i) ∧ s (2 + 3 * i + 2) = nI (co i)
theorem wf.t {K T : Nat} {lo hi co : Nat → Nat} (h : wf K T lo hi co) : wt T lo hi co := ⟨h.2.1, fun i hi => ⟨(h.2.2.1 i hi).1, by have := (h.2.2.1 i hi).2.1; have := h.1; omega, (h.2.2.1 i hi).2.2⟩⟩
def an (p : Nat → Bool) : Nat → Bool
  | 0 => false
  | n + 1 => an p n || p n
theorem an_iff (p : Nat → Bool) : ∀ n, an p n = true ↔ ∃ i, i < n ∧ p i = true
  | 0 => by simp [an]
  | n + 1 => by
    rw [an, Bool.or_eq_true, an_iff p n]
    constructor
    · rintro (⟨i, h, q⟩ | q)
      · exact ⟨i, by omega, q⟩
      · exact ⟨n, by omega, q⟩
    · rintro ⟨i, h, q⟩
      rcases Nat.lt_or_ge i n with g | g
      · exact Or.inl ⟨i, g, q⟩
      · exact Or.inr (by rw [show n = i by omega]; exact q)
theorem an_cong {p q : Nat → Bool} : ∀ {n : Nat}, (∀ i, i < n → p i = q i) → an p n = an q n
  | 0, _ => rfl
  | n + 1, h => by rw [an, an, an_cong (fun i hi => h i (by omega)), h n (by omega)]
def oa (f : Nat → Nat) : Nat → Nat
  | 0 => 0
  | n + 1 => oa f n ||| f n
theorem tb_oa (f : Nat → Nat) : ∀ n j, (oa f n).testBit j = an (fun i => (f i).testBit j) n
  | 0, j => by simp [oa, an]
  | n + 1, j => by rw [oa, an, Nat.testBit_or, tb_oa f n j]
theorem oa_lt {f : Nat → Nat} {m : Nat} : ∀ {n : Nat}, (∀ i, i < n → f i < 2 ^ m) → oa f n < 2 ^ m
  | 0, _ => Nat.two_pow_pos m
  | n + 1, h => or_lt (oa_lt (fun i hi => h i (by omega))) (h n (by omega))
theorem tb_em {lo hi : Nat → Nat} {t : Nat} (h : lo t < hi t) (k : Nat) : (em lo hi t).testBit k = isat lo hi t k := by
  unfold em isat
  rw [tb_add (p2lt h), Nat.testBit_two_pow]
  have e1 : (hi t == k) = decide (k = hi t) := by
    rw [Bool.eq_iff_iff]; simp; exact eq_comm
  rw [e1]
  rfl
theorem em_lt {lo hi : Nat → Nat} {t n : Nat} (h : lo t < hi t) (h2 : hi t < n) : em lo hi t < 2 ^ n := by
  unfold em
  have a := p2lt h
  have b := p2le (show hi t + 1 ≤ n by omega)
  rw [Nat.pow_succ] at b
  omega
theorem em_pos {lo hi : Nat → Nat} {t : Nat} : 0 < em lo hi t := Nat.add_pos_left (Nat.two_pow_pos _) _
theorem isat_lt {lo hi : Nat → Nat} {t k n : Nat} (h : lo t < hi t) (h2 : hi t < n) (h3 : isat lo hi t k = true) : k < n := by
  unfold isat at h3
  simp at h3
  omega
theorem and_p2 (x k : Nat) : (x &&& 2 ^ k = 0) ↔ x.testBit k = false := fb_bit_nat' x k where
  fb_bit_nat' (x k : Nat) : (x &&& 2 ^ k = 0) ↔ x.testBit k = false := by
    constructor
    · intro h
      have := Nat.testBit_and x (2 ^ k) k
      rw [h, Nat.testBit_two_pow] at this
      simpa using this.symm
    · intro h
      apply Nat.eq_of_testBit_eq
      intro i
      rw [Nat.testBit_and, Nat.testBit_two_pow, Nat.zero_testBit]
      rcases Nat.decEq k i with q | q
      · simp [q]
      · subst q; simp [h]
-- the class's threads
theorem x_ends {N T i : Nat} {lo hi : Nat → Nat} {e : Nat → Int32} (hT : T ≤ 21) (he : XE T lo hi e) (h : i < T) : m_X2_ends N e (nI i) = some (nI (em lo hi i)) := by
  unfold m_X2_ends
  rw [x_at (by omega) (by decide), r_bind, he i h]
theorem x_colour {N T i : Nat} {co : Nat → Nat} {c : Nat → Int32} (hT : T ≤ 21) (hc : XC T co c) (h : i < T) : m_X2_colour N c (nI i) = some (nI (co i)) := by
  unfold m_X2_colour
  rw [x_at (by omega) (by decide), r_bind, hc i h]
theorem x_lesser {N T i : Nat} {lo hi co : Nat → Nat} {e : Nat → Int32} (hw : wt T lo hi co) (he : XE T lo hi e) (h : i < T) : m_X2_lesserKnot N e (nI i) = some (nI (lo i)) := by
  obtain ⟨h1, h2, -⟩ := hw.2 i h
  unfold m_X2_lesserKnot
  have := em_lt (n := 31) h1 (by omega)
  rw [x_ends hw.1 he h, r_bind, m_ntz this (em_pos), r_bind]
  unfold em
  rw [lb2 h1 (by omega)]
theorem x_greater {N T i : Nat} {lo hi co : Nat → Nat} {e : Nat → Int32} (hw : wt T lo hi co) (he : XE T lo hi e) (h : i < T) : m_X2_greaterKnot N e (nI i) = some (nI (hi i)) := by
  obtain ⟨h1, h2, -⟩ := hw.2 i h
  unfold m_X2_greaterKnot
  have := em_lt (n := 14) h1 h2
  rw [x_ends hw.1 he h, r_bind, m_nlz (by omega) (em_pos), r_bind]
  unfold em
  rw [lg2 h1, show (31 : Int32) = nI 31 from rfl, pk_sub (by omega), show 31 - (31 - hi i) = hi i by omega]
theorem x_hasThread {N T : Nat} {t : Int32} (hT : T ≤ 21) : m_X2_hasThread N (nI T) t = some (if ∃ i, i < T ∧ t = nI i then 1 else 0) := by
  unfold m_X2_hasThread
  rcases pk_ix t (show T < 2 ^ 31 by omega) with h | h | ⟨j, hj, rfl⟩
  · rw [if_pos h, if_neg]
    rintro ⟨i, hi, rfl⟩
    exact nI_pos (n := i) (by omega) h
  · split
    · rw [if_neg]
      rintro ⟨i, hi, rfl⟩
      exact nI_pos (n := i) (by omega) ‹_›
    · rw [if_neg]
      rintro ⟨i, hi, rfl⟩
      exact nI_ge hi (by omega) h
  · rw [if_neg (nI_pos (by omega)), if_neg (nI_ge hj (by omega)), if_pos ⟨j, hj, rfl⟩]
theorem x_hasKnot {N K : Nat} {k : Int32} (hK : K ≤ 21) : m_X2_hasKnot N (nI K) k = some (if ∃ i, i < K ∧ k = nI i then 1 else 0) := x_hasThread (N := N) (t := k) hK
theorem x_coloured {N T : Nat} {co : Nat → Nat} {c : Nat → Int32} {v : Nat} (hN : 1000 ≤ N) (hT : T ≤ 21) (hc : XC T co c) (hv : v < 4) (hco : ∀ i, i < T → co i ≤ 3) : m_X2_coloured N (nI T) c (nI v) = some (nI (bs (fun t => co t == v) T)) := by
  unfold m_X2_coloured
  refine for_up (fun n i (acc : Nat) => m_X2_coloured_L4 N (nI T) c (nI v) n (nI i) (nI acc)) T (fun i => bs (fun t => co t == v) i) _ ?_ ?_ T N 0 (by omega) (by omega)
  · intro n
    show m_X2_coloured_L4 N (nI T) c (nI v) (n + 1) (nI T) _ = _
    rw [m_X2_coloured_L4, if_pos (nI_le (Nat.le_refl _) (by omega))]
  · intro n i hi
    show m_X2_coloured_L4 N (nI T) c (nI v) (n + 1) (nI i) _ = m_X2_coloured_L4 N (nI T) c (nI v) n (nI (i + 1)) _
    have := hco i hi
    rw [m_X2_coloured_L4, if_neg (nI_ge hi (by omega)), x_colour hT hc hi, r_bind, bs]
    by_cases q : co i = v
    · rw [if_pos (by rw [q]), m_bit (by omega), r_bind]
      simp only [nm]
      rw [nor_bit (bs_lt _ _), nI_1, if_pos (by simp [q])]
    · rw [if_neg (fun g => q ((nI_eq (by omega) (by omega)).mp g)), nI_1, if_neg (by simp [q])]; rfl
theorem x_threadsAt {N T ks : Nat} {lo hi : Nat → Nat} {e : Nat → Int32} (hN : 1000 ≤ N) (hT : T ≤ 21) (he : XE T lo hi e) (hk : ks < 2 ^ 31) : m_X2_threadsAt N (nI T) e (nI ks) = some (nI (bs (fun t => em lo hi t &&& ks != 0) T)) := by
  unfold m_X2_threadsAt
  refine for_up (fun n i (acc : Nat) => m_X2_threadsAt_L4 N (nI T) e (nI ks) n (nI i) (nI acc)) T (fun i => bs (fun t => em lo hi t &&& ks != 0) i) _ ?_ ?_ T N 0 (by omega) (by omega)
  · intro n
    show m_X2_threadsAt_L4 N (nI T) e (nI ks) (n + 1) (nI T) _ = _
    rw [m_X2_threadsAt_L4, if_pos (nI_le (Nat.le_refl _) (by omega))]
  · intro n i hj
    show m_X2_threadsAt_L4 N (nI T) e (nI ks) (n + 1) (nI i) _ = m_X2_threadsAt_L4 N (nI T) e (nI ks) n (nI (i + 1)) _
    rw [m_X2_threadsAt_L4, if_neg (nI_ge hj (by omega)), x_ends hT he hj, r_bind, bs, nand]
    have l : em lo hi i &&& ks < 2 ^ 31 := Nat.lt_of_le_of_lt Nat.and_le_right hk
    by_cases q : em lo hi i &&& ks = 0
    · rw [if_pos ((nI_eq0 l).mpr q), nI_1, if_neg (by simp [q])]; rfl
    · rw [if_neg (fun g => q ((nI_eq0 l).mp g)), m_bit (by omega), r_bind]
      simp only [nm]
      rw [nor_bit (bs_lt _ _), nI_1, if_pos (by simp [q])]
theorem x_threadsAt1 {N T k : Nat} {lo hi co : Nat → Nat} {e : Nat → Int32} (hN : 1000 ≤ N) (hw : wt T lo hi co) (he : XE T lo hi e) (hk : k < 31) : m_X2_threadsAt N (nI T) e (nI (2 ^ k)) = some (nI (bs (fun t => isat lo hi t k) T)) := by
  rw [x_threadsAt hN hw.1 he (p2_31 hk)]
  congr 2
  apply bs_cong
  intro i hi'
  rw [← tb_em (hw.2 i hi').1]
  cases q : (em lo hi i).testBit k with
  | false => simp [(and_p2 _ _).mpr q]
  | true =>
    simp only [bne_iff_ne, ne_eq]
    intro g
    rw [(and_p2 _ _).mp g] at q
    cases q
theorem ct_pos {p : Nat → Bool} : ∀ {n : Nat}, (0 < ct p n) ↔ ∃ i, i < n ∧ p i = true
  | 0 => by simp [ct]
  | n + 1 => by
    rw [ct]
    constructor
    · intro h
      by_cases q : p n = true
      · exact ⟨n, by omega, q⟩
      · rw [if_neg q, Nat.add_zero] at h
        obtain ⟨i, hi, g⟩ := ct_pos.mp h
        exact ⟨i, by omega, g⟩
    · rintro ⟨i, hi, g⟩
      rcases Nat.lt_or_ge i n with q | q
      · have := ct_pos.mpr ⟨i, q, g⟩; omega
      · rw [show n = i by omega, if_pos g]; omega
theorem x_isFullKnot {N T k : Nat} {lo hi co : Nat → Nat} {e : Nat → Int32} (hN : 1000 ≤ N) (hw : wt T lo hi co) (he : XE T lo hi e) (hk : k < 31) : m_X2_isFullKnot N (nI T) e (nI k) = some (if 3 ≤ deg T lo hi k then 1 else 0) := by
  unfold m_X2_isFullKnot
  have hT := hw.1
  have l := bs_lt (fun t => isat lo hi t k) T
  have l2 : 2 ^ T ≤ 2 ^ 24 := p2le (by omega)
  rw [m_bit hk, r_bind, x_threadsAt1 hN hw he hk, r_bind, m_bitCount (by omega), r_bind, pop_bs _ _ _ (by omega)]
  have := ct_le (fun t => isat lo hi t k) T
  unfold deg
  by_cases q : 3 ≤ ct (fun t => isat lo hi t k) T
  · rw [if_neg (show ¬ nI (ct (fun t => isat lo hi t k) T) < (3 : Int32) from nI_nlt (b := 3) q (by omega)), if_pos q]
  · rw [if_pos (show nI (ct (fun t => isat lo hi t k) T) < (3 : Int32) from nI_lt (b := 3) (by omega) (by omega)), if_neg q]
end
-- 44.model.lean.txt
section
/-! pure: the reference's small functions over the same nets -/
theorem ix3 (t w : Nat) : (2 + (3 * nI t)) + nI w = nI (2 + 3 * t + w) := by
  show (nI 2 + (nI 3 * nI t)) + nI w = _
  rw [pk_mul, nI_add, nI_add]
theorem m_of {N t w : Nat} {s : Nat → Int32} (h : t ≤ 20) (hw : w ≤ 2) : m_X7_of N s (nI t) (nI w) = some (s (2 + 3 * t + w)) := by
  unfold m_X7_of
  rw [ix3, r_ard (by omega) (by omega)]
theorem m_of0 {N K T t : Nat} {lo hi co : Nat → Nat} {s : Nat → Int32} (hT : T ≤ 21) (hs : MN K T lo hi co s) (h : t < T) : m_X7_of N s (nI t) 0 = some (nI (lo t)) := by
  have := m_of (N := N) (s := s) (t := t) (w := 0) (by omega) (by omega)
  rw [show 2 + 3 * t + 0 = 2 + 3 * t from rfl, (hs.2.2 t h).1] at this
  exact this
theorem m_of1 {N K T t : Nat} {lo hi co : Nat → Nat} {s : Nat → Int32} (hT : T ≤ 21) (hs : MN K T lo hi co s) (h : t < T) : m_X7_of N s (nI t) 1 = some (nI (hi t)) := by
  have := m_of (N := N) (s := s) (t := t) (w := 1) (by omega) (by omega)
  rw [(hs.2.2 t h).2.1] at this
  exact this
theorem m_of2 {N K T t : Nat} {lo hi co : Nat → Nat} {s : Nat → Int32} (hT : T ≤ 21) (hs : MN K T lo hi co s) (h : t < T) : m_X7_of N s (nI t) 2 = some (nI (co t)) := by
  have := m_of (N := N) (s := s) (t := t) (w := 2) (by omega) (by omega)
  rw [(hs.2.2 t h).2.2] at this
  exact this
theorem r_0 {β : Type} {f : Nat → Int32} {n : Nat} {k : Int32 → Option β} (h : 0 < n) : ard f n 0 k = k (f 0) := r_ard (i := 0) h (by decide)
theorem r_1 {β : Type} {f : Nat → Int32} {n : Nat} {k : Int32 → Option β} (h : 1 < n) : ard f n 1 k = k (f 1) := r_ard (i := 1) h (by decide)
theorem m_isAt {N K T t k : Nat} {lo hi co : Nat → Nat} {s : Nat → Int32} (hw : wt T lo hi co) (hs : MN K T lo hi co s) (h : t < T) (hk : k < 2 ^ 31) : m_X7_isAt N s (nI t) (nI k) = some (if isat lo hi t k then 1 else 0) := by
  obtain ⟨h1, h2, -⟩ := hw.2 t h
  unfold m_X7_isAt isat
  rw [m_of0 hw.1 hs h, r_bind, m_of1 hw.1 hs h]
  by_cases q : lo t = k
  · rw [if_pos (by rw [q])]; simp [q]
  · rw [if_neg (fun g => q ((nI_eq (by omega) hk).mp g)), r_bind]
    by_cases q2 : hi t = k
    · rw [if_pos (by rw [q2])]; simp [q2]
    · rw [if_neg (fun g => q2 ((nI_eq (by omega) hk).mp g))]; simp [q, q2]
theorem m_across {N K T t k : Nat} {lo hi co : Nat → Nat} {s : Nat → Int32} (hw : wt T lo hi co) (hs : MN K T lo hi co s) (h : t < T) (hk : k < 2 ^ 31) : m_X7_across N s (nI t) (nI k) = some (nI (acr lo hi t k)) := by
  obtain ⟨h1, h2, -⟩ := hw.2 t h
  unfold m_X7_across acr
  rw [m_of0 hw.1 hs h, r_bind, m_of1 hw.1 hs h]
  by_cases q : lo t = k
  · rw [if_pos (by rw [q]), r_bind, if_pos q]
  · rw [if_neg (fun g => q ((nI_eq (by omega) hk).mp g)), r_bind, if_neg q]
theorem or_zero (x : Nat) : nI x ||| 0 = nI x := by
  have := nor x 0
  rw [Nat.or_zero] at this
  exact this
theorem m_threadsOf {N K T k : Nat} {lo hi co : Nat → Nat} {s : Nat → Int32} (hN : 1000 ≤ N) (hw : wt T lo hi co) (hs : MN K T lo hi co s) (hk : k < 2 ^ 31) : m_X7_threadsOf N s (nI k) = some (nI (bs (fun t => isat lo hi t k) T)) := by
  have hT := hw.1
  unfold m_X7_threadsOf
  refine for_up (fun n i (acc : Nat) => m_X7_threadsOf_L4 N s (nI k) n (nI i) (nI acc)) T (fun i => bs (fun t => isat lo hi t k) i) _ ?_ ?_ T N 0 (by omega) (by omega)
  · intro n
    show m_X7_threadsOf_L4 N s (nI k) (n + 1) (nI T) _ = _
    rw [m_X7_threadsOf_L4, r_1 (by decide), hs.2.1, if_pos (nI_le (Nat.le_refl _) (by omega))]
  · intro n i hj
    show m_X7_threadsOf_L4 N s (nI k) (n + 1) (nI i) _ = m_X7_threadsOf_L4 N s (nI k) n (nI (i + 1)) _
    rw [m_X7_threadsOf_L4, r_1 (by decide), hs.2.1, if_neg (nI_ge hj (by omega)), m_isAt hw hs hj hk, r_bind, bs]
    simp only [nm]
    cases q : isat lo hi i k with
    | false => simp only [Bool.false_eq_true, if_false, if_true, or_zero, nI_1, Nat.add_zero]
    | true =>
      rw [if_pos rfl, if_neg (by decide), if_pos rfl, sh1 (by omega), nor_bit (bs_lt _ _), nI_1]
theorem m_degree {N K T k : Nat} {lo hi co : Nat → Nat} {s : Nat → Int32} (hN : 1000 ≤ N) (hw : wt T lo hi co) (hs : MN K T lo hi co s) (hk : k < 2 ^ 31) : m_X7_degree N s (nI k) = some (nI (deg T lo hi k)) := by
  unfold m_X7_degree
  have l := bs_lt (fun t => isat lo hi t k) T
  have l2 : 2 ^ T ≤ 2 ^ 24 := p2le (by have := hw.1; omega)
  have c := ct_le (fun t => isat lo hi t k) T
  have e := pop_bs (fun t => isat lo hi t k) 31 T (by have := hw.1; omega)
  rw [m_threadsOf hN hw hs hk, r_bind, r_ones hN (by omega) (by have := hw.1; omega), r_bind, e]
  rfl
theorem m_isThread {N K T : Nat} {lo hi co : Nat → Nat} {s : Nat → Int32} {t : Int32} (hT : T ≤ 21) (hs : MN K T lo hi co s) : m_X7_isThread N s t = some (if ∃ i, i < T ∧ t = nI i then 1 else 0) := by
  unfold m_X7_isThread m_X7_in
  rw [r_1 (by decide), hs.2.1]
  rcases pk_ix t (show T < 2 ^ 31 by omega) with h | h | ⟨j, hj, rfl⟩
  · rw [if_pos h, r_bind, if_neg]
    · rfl
    · rintro ⟨i, hi, rfl⟩
      exact nI_pos (n := i) (by omega) h
  · have e : nI T - 1 < t := by
      rw [Int32.lt_iff_toInt_lt]
      have h := Int32.le_iff_toInt_le.mp h
      have e : (nI T - 1).toInt = (T : Int) - 1 := pk_sub_toInt (a := T) (b := 1) (by omega) (by omega)
      rw [nI_toInt (by omega)] at h
      omega
    have e2 : ¬ t < 0 := by
      intro g
      have h := Int32.le_iff_toInt_le.mp h
      have g := Int32.lt_iff_toInt_lt.mp g
      rw [nI_toInt (by omega)] at h
      have : (0 : Int32).toInt = 0 := rfl
      omega
    rw [if_neg e2, if_pos e, r_bind, if_neg]
    · rfl
    · rintro ⟨i, hi, rfl⟩
      exact nI_ge hi (by omega) h
  · have e : ¬ nI T - 1 < nI j := by
      intro g
      have g := Int32.lt_iff_toInt_lt.mp g
      have e : (nI T - 1).toInt = (T : Int) - 1 := pk_sub_toInt (a := T) (b := 1) (by omega) (by omega)
      rw [nI_toInt (by omega)] at g
      omega
    rw [if_neg (nI_pos (by omega)), if_neg e, r_bind, if_pos ⟨j, hj, rfl⟩]
    rfl
theorem m_isKnot {N K T : Nat} {lo hi co : Nat → Nat} {s : Nat → Int32} {t : Int32} (hK : K ≤ 14) (hs : MN K T lo hi co s) : m_X7_isKnot N s t = some (if ∃ i, i < K ∧ t = nI i then 1 else 0) := by
  have h2 : MN T K (fun _ => 0) (fun _ => 0) (fun _ => 0) (fun i => if i = 0 then s 1 else if i = 1 then s 0 else nI 0) := by
    refine ⟨?_, ?_, ?_⟩
    · exact hs.2.1
    · exact hs.1
    · intro i _
      refine ⟨?_, ?_, ?_⟩ <;> (show (if _ then _ else if _ then _ else _) = _) <;> rw [if_neg (by omega), if_neg (by omega)]
  have := m_isThread (N := N) (t := t) (show K ≤ 21 by omega) h2
  unfold m_X7_isThread at this
  unfold m_X7_isKnot
  rw [r_1 (by decide)] at this
  rw [r_0 (by decide)]
  exact this
theorem x_find {N T a : Nat} {lo hi co : Nat → Nat} {e : Nat → Int32} {R : Int32} (hN : 1000 ≤ N) (hw : wt T lo hi co) (he : XE T lo hi e) (ha : a < 2 ^ 31) (h : (∃ i, i < T ∧ em lo hi i = a ∧ (∀ j, j < i → em lo hi j ≠ a) ∧ R = nI i) ∨ ((∀ i, i < T → em lo hi i ≠ a) ∧ R = -1)) : m_X2_find N (nI T) e (nI a) = some R := by
  have hT := hw.1
  have lt : ∀ i, i < T → em lo hi i < 2 ^ 31 := fun i hi' => em_lt (hw.2 i hi').1 (by have := (hw.2 i hi').2.1; omega)
  unfold m_X2_find
  rcases h with ⟨m, hm, e1, e2, rfl⟩ | ⟨e1, rfl⟩
  · refine for_up (fun n i (_ : Unit) => m_X2_find_L2 N (nI T) e (nI a) n (nI i)) m (fun _ => ()) _ ?_ ?_ m N 0 (by omega) (by omega)
    · intro n
      show m_X2_find_L2 N (nI T) e (nI a) (n + 1) (nI m) = _
      rw [m_X2_find_L2, if_neg (nI_ge hm (by omega)), x_ends hT he hm, r_bind, if_pos (by rw [e1])]
    · intro n i hj
      show m_X2_find_L2 N (nI T) e (nI a) (n + 1) (nI i) = m_X2_find_L2 N (nI T) e (nI a) n (nI (i + 1))
      rw [m_X2_find_L2, if_neg (nI_ge (show i < T by omega) (by omega)), x_ends hT he (by omega), r_bind, if_neg (fun g => e2 i hj ((nI_eq (lt i (by omega)) ha).mp g)), nI_1]
  · refine for_up (fun n i (_ : Unit) => m_X2_find_L2 N (nI T) e (nI a) n (nI i)) T (fun _ => ()) _ ?_ ?_ T N 0 (by omega) (by omega)
    · intro n
      show m_X2_find_L2 N (nI T) e (nI a) (n + 1) (nI T) = _
      rw [m_X2_find_L2, if_pos (nI_le (Nat.le_refl _) (by omega))]
    · intro n i hj
      show m_X2_find_L2 N (nI T) e (nI a) (n + 1) (nI i) = m_X2_find_L2 N (nI T) e (nI a) n (nI (i + 1))
      rw [m_X2_find_L2, if_neg (nI_ge hj (by omega)), x_ends hT he hj, r_bind, if_neg (fun g => e1 i hj ((nI_eq (lt i hj) ha).mp g)), nI_1]
/-- the thread between two knots -/
def joins (lo hi : Nat → Nat) (t a b : Nat) : Bool := (lo t == a && hi t == b) || (lo t == b && hi t == a)
theorem m_between {N K T a b : Nat} {lo hi co : Nat → Nat} {s : Nat → Int32} {R : Int32} (hN : 1000 ≤ N) (hw : wt T lo hi co) (hs : MN K T lo hi co s) (ha : a < 2 ^ 31) (hb : b < 2 ^ 31) (h : (∃ i, i < T ∧ joins lo hi i a b = true ∧ (∀ j, j < i → joins lo hi j a b = false) ∧ R = nI i) ∨ ((∀ i, i < T → joins lo hi i a b = false) ∧ R = -5)) : m_X7_threadBetween N s (nI a) (nI b) = some R := by
  have hT := hw.1
  have step : ∀ n i, i < T → joins lo hi i a b = false → m_X7_threadBetween_L2 N s (nI a) (nI b) (n + 1) (nI i) = m_X7_threadBetween_L2 N s (nI a) (nI b) n (nI (i + 1)) := by
    intro n i hj hf
    obtain ⟨h1, h2, -⟩ := hw.2 i hj
    rw [m_X7_threadBetween_L2, r_1 (by decide), hs.2.1, if_neg (nI_ge hj (by omega)), m_isAt hw hs hj ha, r_bind, m_isAt hw hs hj hb, nI_1]
    by_cases q : a = b
    · rw [if_pos (by rw [q])]
    · rw [if_neg (fun g => q ((nI_eq ha hb).mp g))]
      cases qa : isat lo hi i a with
      | false => simp
      | true =>
        cases qb : isat lo hi i b with
        | false => simp [r_bind]
        | true =>
          exfalso
          unfold isat at qa qb
          unfold joins at hf
          simp at qa qb hf
          omega
  unfold m_X7_threadBetween
  rcases h with ⟨m, hm, e1, e2, rfl⟩ | ⟨e1, rfl⟩
  · refine for_up (fun n i (_ : Unit) => m_X7_threadBetween_L2 N s (nI a) (nI b) n (nI i)) m (fun _ => ()) _ ?_ ?_ m N 0 (by omega) (by omega)
    · intro n
      show m_X7_threadBetween_L2 N s (nI a) (nI b) (n + 1) (nI m) = _
      obtain ⟨h1, h2, -⟩ := hw.2 m hm
      have q : a ≠ b := by unfold joins at e1; simp at e1; omega
      have qa : isat lo hi m a = true := by unfold joins at e1; unfold isat; simp at e1 ⊢; omega
      have qb : isat lo hi m b = true := by unfold joins at e1; unfold isat; simp at e1 ⊢; omega
      rw [m_X7_threadBetween_L2, r_1 (by decide), hs.2.1, if_neg (nI_ge hm (by omega)), m_isAt hw hs hm ha, r_bind, m_isAt hw hs hm hb, if_neg (fun g => q ((nI_eq ha hb).mp g)), qa, qb]
      rfl
    · intro n i hj
      exact step n i (by omega) (e2 i hj)
  · refine for_up (fun n i (_ : Unit) => m_X7_threadBetween_L2 N s (nI a) (nI b) n (nI i)) T (fun _ => ()) _ ?_ ?_ T N 0 (by omega) (by omega)
    · intro n
      show m_X7_threadBetween_L2 N s (nI a) (nI b) (n + 1) (nI T) = _
      rw [m_X7_threadBetween_L2, r_1 (by decide), hs.2.1, if_pos (nI_le (Nat.le_refl _) (by omega))]
    · intro n i hj
      exact step n i hj (e1 i hj)
theorem em_joins {lo hi : Nat → Nat} {t a b : Nat} (h : lo t < hi t) (hab : a ≠ b) : em lo hi t = 2 ^ a ||| 2 ^ b ↔ joins lo hi t a b = true := by
  have key : ∀ k, (2 ^ a ||| 2 ^ b).testBit k = (a == k || b == k) := by
    intro k
    rw [Nat.testBit_or, Nat.testBit_two_pow, Nat.testBit_two_pow]
    rfl
  constructor
  · intro g
    have f : ∀ k, isat lo hi t k = (a == k || b == k) := fun k => by rw [← tb_em h, g, key]
    have f1 := f a
    have f2 := f b
    have f3 := f (lo t)
    have f4 := f (hi t)
    unfold isat at f1 f2 f3 f4
    unfold joins
    simp at f1 f2 f3 f4 ⊢
    omega
  · intro g
    apply Nat.eq_of_testBit_eq
    intro k
    rw [tb_em h, key]
    unfold joins at g
    unfold isat
    simp at g
    rcases g with ⟨rfl, rfl⟩ | ⟨rfl, rfl⟩
    · rfl
    · rw [Bool.or_comm]
/-- the first thread of a kind -/
theorem first_of (p : Nat → Bool) : ∀ T, (∃ i, i < T ∧ p i = true ∧ ∀ j, j < i → p j = false) ∨ ∀ i, i < T → p i = false
  | 0 => Or.inr (fun i h => absurd h (Nat.not_lt_zero i))
  | T + 1 => by
    rcases first_of p T with ⟨i, h1, h2⟩ | h
    · exact Or.inl ⟨i, by omega, h2⟩
    · cases q : p T with
      | true => exact Or.inl ⟨T, by omega, q, h⟩
      | false =>
        refine Or.inr (fun i hi => ?_)
        rcases Nat.lt_or_ge i T with g | g
        · exact h i g
        · rw [show i = T by omega]; exact q
end
-- 45.query.lean.txt
section
/-! pure: neighbours, wrong knots, full nets, the thread between two knots: both classes answer alike -/
theorem sel {α : Type} (b : Bool) (A B : α) : (if (if b = true then (1 : Int32) else 0) = 0 then A else B) = (if b = true then B else A) := by cases b <;> rfl
theorem sel1 {α : Type} (b : Bool) (A B : α) : (if (if b = true then (1 : Int32) else 0) = 1 then A else B) = (if b = true then A else B) := by cases b <;> rfl
theorem nI3 {a : Nat} (h : a < 2 ^ 31) : nI a = 3 ↔ a = 3 := nI_eq (b := 3) h (by decide)
/-- a knot's neighbours -/
def nb (T : Nat) (lo hi : Nat → Nat) (k : Nat) : Nat := ad (oa (fun t => if isat lo hi t k then em lo hi t else 0) T) (2 ^ k)
theorem nb_lt {T k : Nat} {lo hi co : Nat → Nat} (hw : wt T lo hi co) : nb T lo hi k < 2 ^ 14 := by
  refine ad_lt (oa_lt (fun i hj => ?_))
  show (if isat lo hi i k then em lo hi i else 0) < _
  split
  · exact em_lt (hw.2 i hj).1 (hw.2 i hj).2.1
  · exact Nat.two_pow_pos _
theorem tb_nb {T k j : Nat} {lo hi co : Nat → Nat} (hw : wt T lo hi co) : (nb T lo hi k).testBit j = true ↔ j ≠ k ∧ ∃ t, t < T ∧ isat lo hi t k = true ∧ isat lo hi t j = true := by
  unfold nb
  rw [tb_ad, tb_oa, Bool.and_eq_true, an_iff, Nat.testBit_two_pow]
  constructor
  · rintro ⟨⟨t, ht, h⟩, h2⟩
    refine ⟨by simp at h2; exact fun q => h2 q.symm, t, ht, ?_⟩
    cases q : isat lo hi t k with
    | false => rw [q] at h; simp at h
    | true => rw [q] at h; simp at h; rw [tb_em (hw.2 t ht).1] at h; exact ⟨rfl, h⟩
  · rintro ⟨h2, t, ht, h, h3⟩
    refine ⟨⟨t, ht, ?_⟩, by simp; exact fun q => h2 q.symm⟩
    rw [h]; simp; rw [tb_em (hw.2 t ht).1]; exact h3
theorem x_neighbours {N T k : Nat} {lo hi co : Nat → Nat} {e : Nat → Int32} (hN : 1000 ≤ N) (hw : wt T lo hi co) (he : XE T lo hi e) (hk : k < 31) : m_X2_neighbours N (nI T) e (nI k) = some (nI (nb T lo hi k)) := by
  have hT := hw.1
  unfold m_X2_neighbours
  simp only [jn]
  refine for_up (fun n i (acc : Nat) => m_X2_neighbours_L4 N (nI T) e (nI k) (fun x => Option.bind (m_X6_bit N (nI k)) (fun r => some (x &&& (r ^^^ (-1))))) n (nI i) (nI acc)) T (fun i => oa (fun t => if isat lo hi t k then em lo hi t else 0) i) _ ?_ ?_ T N 0 (by omega) (by omega)
  · intro n
    show m_X2_neighbours_L4 N (nI T) e (nI k) _ (n + 1) (nI T) _ = _
    rw [m_X2_neighbours_L4, if_pos (nI_le (Nat.le_refl _) (by omega)), m_bit hk, r_bind, nandn]
    rfl
  · intro n i hj
    show m_X2_neighbours_L4 N (nI T) e (nI k) _ (n + 1) (nI i) _ = m_X2_neighbours_L4 N (nI T) e (nI k) _ n (nI (i + 1)) _
    obtain ⟨h1, h2, -⟩ := hw.2 i hj
    rw [m_X2_neighbours_L4, if_neg (nI_ge hj (by omega)), x_ends hT he hj, r_bind, m_holds (em_lt h1 (by omega)) (by omega), r_bind, tb_em h1, oa]
    simp only [nm]
    cases q : isat lo hi i k with
    | false => rw [sel, if_neg (by decide), nI_1]; simp
    | true => rw [sel, if_pos rfl, r_bind, nor, nI_1]; simp
theorem m_neighbours {N K T k : Nat} {lo hi co : Nat → Nat} {s : Nat → Int32} (hN : 1000 ≤ N) (hw : wt T lo hi co) (hs : MN K T lo hi co s) (hk : k < 31) : m_X7_neighbours N s (nI k) = some (nI (nb T lo hi k)) := by
  have hT := hw.1
  have e : nb T lo hi k = oa (fun t => if isat lo hi t k then 2 ^ acr lo hi t k else 0) T := by
    apply Nat.eq_of_testBit_eq
    intro j
    rw [Bool.eq_iff_iff, tb_nb hw, tb_oa, an_iff]
    constructor
    · rintro ⟨h, t, ht, h2, h3⟩
      refine ⟨t, ht, ?_⟩
      rw [h2]; simp; rw [Nat.testBit_two_pow]
      unfold acr; unfold isat at h2 h3
      simp at h2 h3 ⊢
      split <;> omega
    · rintro ⟨t, ht, h⟩
      obtain ⟨h1, h2, -⟩ := hw.2 t ht
      cases q : isat lo hi t k with
      | false => rw [q] at h; simp at h
      | true =>
        rw [q] at h; simp at h; rw [Nat.testBit_two_pow] at h
        have h := of_decide_eq_true h
        unfold acr at h
        unfold isat at q
        simp at q
        refine ⟨?_, t, ht, ?_, ?_⟩
        · split at h <;> omega
        · unfold isat; simp; exact q
        · unfold isat; simp; split at h <;> omega
  rw [e]
  unfold m_X7_neighbours
  refine for_up (fun n i (acc : Nat) => m_X7_neighbours_L4 N s (nI k) n (nI i) (nI acc)) T (fun i => oa (fun t => if isat lo hi t k then 2 ^ acr lo hi t k else 0) i) _ ?_ ?_ T N 0 (by omega) (by omega)
  · intro n
    show m_X7_neighbours_L4 N s (nI k) (n + 1) (nI T) _ = _
    rw [m_X7_neighbours_L4, r_1 (by decide), hs.2.1, if_pos (nI_le (Nat.le_refl _) (by omega))]
  · intro n i hj
    show m_X7_neighbours_L4 N s (nI k) (n + 1) (nI i) _ = m_X7_neighbours_L4 N s (nI k) n (nI (i + 1)) _
    obtain ⟨h1, h2, -⟩ := hw.2 i hj
    rw [m_X7_neighbours_L4, r_1 (by decide), hs.2.1, if_neg (nI_ge hj (by omega)), m_isAt hw hs hj (by omega), r_bind, oa]
    simp only [nm]
    cases q : isat lo hi i k with
    | false => rw [sel, if_neg (by decide), or_zero, nI_1]; simp
    | true =>
      have : acr lo hi i k < 31 := by unfold acr; split <;> omega
      rw [sel, if_pos rfl, m_across hw hs hj (by omega), r_bind, sh1 this, nor, nI_1]; simp
-- wrong knots
/-- the colours that the threads before i have at a knot; whether two of them are the same -/
def seenC (lo hi co : Nat → Nat) (k : Nat) : Nat → Nat := oa (fun t => if isat lo hi t k && (co t != 3) then 2 ^ co t else 0)
def wr1 (lo hi co : Nat → Nat) (k : Nat) : Nat → Bool := an (fun t => isat lo hi t k && (co t != 3) && (seenC lo hi co k t).testBit (co t))
theorem seenC_lt {T k : Nat} {lo hi co : Nat → Nat} (hw : wt T lo hi co) {i : Nat} (h : i ≤ T) : seenC lo hi co k i < 2 ^ 4 := by
  refine oa_lt (fun j hj => ?_)
  show (if isat lo hi j k && (co j != 3) then 2 ^ co j else 0) < _
  split
  · exact p2lt (by have := (hw.2 j (by omega)).2.2; omega)
  · exact Nat.two_pow_pos _
theorem x_isWrong {N T k : Nat} {lo hi co : Nat → Nat} {e c : Nat → Int32} (hN : 1000 ≤ N) (hw : wt T lo hi co) (he : XE T lo hi e) (hc : XC T co c) (hk : k < 31) : m_X2_isWrong N (nI T) e c (nI k) = some (if wr1 lo hi co k T then 1 else 0) := by
  have hT := hw.1
  have key : ∀ (d n i : Nat), i + d = T → d < n → wr1 lo hi co k i = false → m_X2_isWrong_L4 N (nI T) e c (nI k) n (nI i) (nI (seenC lo hi co k i)) = some (if wr1 lo hi co k T then 1 else 0) := by
    intro d
    induction d with
    | zero =>
      intro n i hi' hn hf
      obtain ⟨n, rfl⟩ : ∃ m, n = m + 1 := ⟨n - 1, by omega⟩
      have : i = T := by omega
      subst this
      rw [m_X2_isWrong_L4, if_pos (nI_le (Nat.le_refl _) (by omega)), hf]; rfl
    | succ d ih =>
      intro n i hi' hn hf
      obtain ⟨n, rfl⟩ : ∃ m, n = m + 1 := ⟨n - 1, by omega⟩
      have hj : i < T := by omega
      obtain ⟨h1, h2, h3⟩ := hw.2 i hj
      have l := seenC_lt (k := k) hw (show i ≤ T by omega)
      have stepS : seenC lo hi co k (i + 1) = seenC lo hi co k i ||| (if isat lo hi i k && (co i != 3) then 2 ^ co i else 0) := rfl
      have stepW : wr1 lo hi co k (i + 1) = (wr1 lo hi co k i || (isat lo hi i k && (co i != 3) && (seenC lo hi co k i).testBit (co i))) := rfl
      rw [m_X2_isWrong_L4, if_neg (nI_ge hj (by omega)), x_colour hT hc hj, r_bind, x_ends hT he hj, r_bind, m_holds (em_lt h1 (by omega)) (by omega), r_bind, tb_em h1]
      simp only [nm]
      cases q : isat lo hi i k with
      | false =>
        rw [sel, if_neg (by decide), nI_1]
        rw [q] at stepS stepW
        rw [Bool.false_and, if_neg (by decide), Nat.or_zero] at stepS
        rw [← stepS]
        exact ih n (i + 1) (by omega) (by omega) (by rw [stepW, hf]; rfl)
      | true =>
        rw [sel, if_pos rfl]
        by_cases q3 : co i = 3
        · rw [if_pos (by rw [q3]; rfl), nI_1]
          rw [q, q3] at stepS stepW
          rw [show (true && (3 != 3 : Bool)) = false from rfl, if_neg (by decide), Nat.or_zero] at stepS
          rw [← stepS]
          exact ih n (i + 1) (by omega) (by omega) (by rw [stepW, hf]; rfl)
        · have b3 : (co i != 3) = true := by simp [q3]
          rw [if_neg (fun g => q3 ((nI3 (by omega)).mp g)), m_holds (by omega) (by omega), r_bind]
          rw [q, b3] at stepS stepW
          cases q4 : (seenC lo hi co k i).testBit (co i) with
          | false =>
            rw [sel, if_neg (by decide), m_bit (by omega), r_bind, nor, nI_1]
            rw [show (true && true) = true from rfl, if_pos rfl] at stepS
            rw [← stepS]
            exact ih n (i + 1) (by omega) (by omega) (by rw [stepW, hf, q4]; rfl)
          | true =>
            rw [sel, if_pos rfl]
            have : wr1 lo hi co k T = true := by
              refine (an_iff _ _).mpr ⟨i, hj, ?_⟩
              rw [q, b3, q4]; rfl
            rw [this]; rfl
  exact key T N 0 (by omega) (by omega) rfl
theorem b01 (b : Bool) : ((if b then 1 else 0 : Int32) = 0) ↔ b = false := by cases b <;> simp
theorem zb01 {β : Type} (b : Bool) {k : Option β} : zb (if b then 1 else 0) k = k := by
  unfold zb
  cases b <;> simp
theorem m_isWrong {N K T k : Nat} {lo hi co : Nat → Nat} {s : Nat → Int32} (hN : 1000 ≤ N) (hw : wt T lo hi co) (hs : MN K T lo hi co s) (hk : k < 31) : m_X7_isWrong N s (nI k) = some (if wr1 lo hi co k T then 1 else 0) := by
  have hT := hw.1
  unfold m_X7_isWrong
  refine for_up (fun n i (acc : Bool × Nat) => m_X7_isWrong_L7 N s (nI k) n (nI i) (if acc.1 then 1 else 0) (nI acc.2)) T (fun i => (wr1 lo hi co k i, seenC lo hi co k i)) _ ?_ ?_ T N 0 (by omega) (by omega)
  · intro n
    show m_X7_isWrong_L7 N s (nI k) (n + 1) (nI T) (if wr1 lo hi co k T then 1 else 0) _ = _
    rw [m_X7_isWrong_L7, r_1 (by decide), hs.2.1, if_pos (nI_le (Nat.le_refl _) (by omega)), zb01]
  · intro n i hj
    show m_X7_isWrong_L7 N s (nI k) (n + 1) (nI i) (if wr1 lo hi co k i then 1 else 0) (nI (seenC lo hi co k i)) = m_X7_isWrong_L7 N s (nI k) n (nI (i + 1)) (if wr1 lo hi co k (i + 1) then 1 else 0) (nI (seenC lo hi co k (i + 1)))
    obtain ⟨h1, h2, h3⟩ := hw.2 i hj
    have l := seenC_lt (k := k) hw (show i ≤ T by omega)
    have stepS : seenC lo hi co k (i + 1) = seenC lo hi co k i ||| (if isat lo hi i k && (co i != 3) then 2 ^ co i else 0) := rfl
    have stepW : wr1 lo hi co k (i + 1) = (wr1 lo hi co k i || (isat lo hi i k && (co i != 3) && (seenC lo hi co k i).testBit (co i))) := rfl
    rw [m_X7_isWrong_L7, r_1 (by decide), hs.2.1, if_neg (nI_ge hj (by omega)), m_isAt hw hs hj (by omega), r_bind, m_of2 hT hs hj, stepS, stepW]
    simp only [nm, jn]
    cases q : isat lo hi i k with
    | false => rw [sel, if_neg (by decide), nI_1]; simp
    | true =>
      rw [sel, if_pos rfl, r_bind]
      by_cases q3 : co i = 3
      · rw [if_pos (by rw [q3]; rfl), nI_1, q3]; simp
      · have b3 : (co i != 3) = true := by simp [q3]
        rw [if_neg (fun g => q3 ((nI3 (by omega)).mp g)), b3]
        simp only [r_bind]
        rw [m_has (by omega) (by omega), r_bind, sh1 (by omega), nor, nI_1]
        cases q5 : wr1 lo hi co k i <;> cases q4 : (seenC lo hi co k i).testBit (co i) <;> simp
end
