/-! pure: nets. T threads, lo, hi, co: each thread's lesser and greater knot and its colour -/
def em (lo hi : Nat → Nat) (t : Nat) : Nat := 2 ^ lo t + 2 ^ hi t
def isat (lo hi : Nat → Nat) (t k : Nat) : Bool := lo t == k || hi t == k
def acr (lo hi : Nat → Nat) (t k : Nat) : Nat := if lo t = k then hi t else lo t
def deg (T : Nat) (lo hi : Nat → Nat) (k : Nat) : Nat := ct (fun t => isat lo hi t k) T
/-- a net as the document has it -/
def wf (K T : Nat) (lo hi co : Nat → Nat) : Prop := K ≤ 14 ∧ T ≤ 21 ∧ (∀ i, i < T → lo i < hi i ∧ hi i < K ∧ co i ≤ 3) ∧ (∀ i j, i < T → j < T → lo i = lo j → hi i = hi j → i = j) ∧ ∀ k, deg T lo hi k ≤ 3
/-- the threads alone -/
def wt (T : Nat) (lo hi co : Nat → Nat) : Prop := T ≤ 21 ∧ ∀ i, i < T → lo i < hi i ∧ hi i < 14 ∧ co i ≤ 3
def XE (T : Nat) (lo hi : Nat → Nat) (e : Nat → Int32) : Prop := ∀ i, i < T → e i = nI (em lo hi i)
def XC (T : Nat) (co : Nat → Nat) (c : Nat → Int32) : Prop := ∀ i, i < T → c i = nI (co i)
def MN (K T : Nat) (lo hi co : Nat → Nat) (s : Nat → Int32) : Prop := s 0 = nI K ∧ s 1 = nI T ∧ ∀ i, i < T → s (2 + 3 * i) = nI (lo i) ∧ s (2 + 3 * i + 1) = nI (hi i) ∧ s (2 + 3 * i + 2) = nI (co i)
theorem wf.t {K T : Nat} {lo hi co : Nat → Nat} (h : wf K T lo hi co) : wt T lo hi co := ⟨h.2.1, fun i hi => ⟨(h.2.2.1 i hi).1, by have := (h.2.2.1 i hi).2.1; have := h.1; omega, (h.2.2.1 i hi).2.2⟩⟩
def an (p : Nat → Bool) : Nat → Bool
  | 0 => false
  | n + 1 => an p n || p n
theorem an_iff (p : Nat → Bool) : ∀ n, an p n = true ↔ ∃ i, i < n ∧ p i = true
  | 0 => by simp [an]
  | n + 1 => by
    rw [an, Bool.or_eq_true, an_iff p n]
    constructor
    · rintro (⟨i, h, q⟩ | q)
      · exact ⟨i, by omega, q⟩
      · exact ⟨n, by omega, q⟩
    · rintro ⟨i, h, q⟩
      rcases Nat.lt_or_ge i n with g | g
      · exact Or.inl ⟨i, g, q⟩
      · exact Or.inr (by rw [show n = i by omega]; exact q)
theorem an_cong {p q : Nat → Bool} : ∀ {n : Nat}, (∀ i, i < n → p i = q i) → an p n = an q n
  | 0, _ => rfl
  | n + 1, h => by rw [an, an, an_cong (fun i hi => h i (by omega)), h n (by omega)]
def oa (f : Nat → Nat) : Nat → Nat
  | 0 => 0
  | n + 1 => oa f n ||| f n
theorem tb_oa (f : Nat → Nat) : ∀ n j, (oa f n).testBit j = an (fun i => (f i).testBit j) n
  | 0, j => by simp [oa, an]
  | n + 1, j => by rw [oa, an, Nat.testBit_or, tb_oa f n j]
theorem oa_lt {f : Nat → Nat} {m : Nat} : ∀ {n : Nat}, (∀ i, i < n → f i < 2 ^ m) → oa f n < 2 ^ m
  | 0, _ => Nat.two_pow_pos m
  | n + 1, h => or_lt (oa_lt (fun i hi => h i (by omega))) (h n (by omega))
theorem tb_em {lo hi : Nat → Nat} {t : Nat} (h : lo t < hi t) (k : Nat) : (em lo hi t).testBit k = isat lo hi t k := by
  unfold em isat
  rw [tb_add (p2lt h), Nat.testBit_two_pow]
  have e1 : (hi t == k) = decide (k = hi t) := by
    rw [Bool.eq_iff_iff]; simp; exact eq_comm
  rw [e1]
  rfl
theorem em_lt {lo hi : Nat → Nat} {t n : Nat} (h : lo t < hi t) (h2 : hi t < n) : em lo hi t < 2 ^ n := by
  unfold em
  have a := p2lt h
  have b := p2le (show hi t + 1 ≤ n by omega)
  rw [Nat.pow_succ] at b
  omega
theorem em_pos {lo hi : Nat → Nat} {t : Nat} : 0 < em lo hi t := Nat.add_pos_left (Nat.two_pow_pos _) _
theorem isat_lt {lo hi : Nat → Nat} {t k n : Nat} (h : lo t < hi t) (h2 : hi t < n) (h3 : isat lo hi t k = true) : k < n := by
  unfold isat at h3
  simp at h3
  omega
theorem and_p2 (x k : Nat) : (x &&& 2 ^ k = 0) ↔ x.testBit k = false := fb_bit_nat' x k where
  fb_bit_nat' (x k : Nat) : (x &&& 2 ^ k = 0) ↔ x.testBit k = false := by
    constructor
    · intro h
      have := Nat.testBit_and x (2 ^ k) k
      rw [h, Nat.testBit_two_pow] at this
      simpa using this.symm
    · intro h
      apply Nat.eq_of_testBit_eq
      intro i
      rw [Nat.testBit_and, Nat.testBit_two_pow, Nat.zero_testBit]
      rcases Nat.decEq k i with q | q
      · simp [q]
      · subst q; simp [h]
-- the class's threads
theorem x_ends {N T i : Nat} {lo hi : Nat → Nat} {e : Nat → Int32} (hT : T ≤ 21) (he : XE T lo hi e) (h : i < T) : m_X2_ends N e (nI i) = some (nI (em lo hi i)) := by
  unfold m_X2_ends
  rw [x_at (by omega) (by decide), r_bind, he i h]
theorem x_colour {N T i : Nat} {co : Nat → Nat} {c : Nat → Int32} (hT : T ≤ 21) (hc : XC T co c) (h : i < T) : m_X2_colour N c (nI i) = some (nI (co i)) := by
  unfold m_X2_colour
  rw [x_at (by omega) (by decide), r_bind, hc i h]
theorem x_lesser {N T i : Nat} {lo hi co : Nat → Nat} {e : Nat → Int32} (hw : wt T lo hi co) (he : XE T lo hi e) (h : i < T) : m_X2_lesserKnot N e (nI i) = some (nI (lo i)) := by
  obtain ⟨h1, h2, -⟩ := hw.2 i h
  unfold m_X2_lesserKnot
  have := em_lt (n := 31) h1 (by omega)
  rw [x_ends hw.1 he h, r_bind, m_ntz this (em_pos), r_bind]
  unfold em
  rw [lb2 h1 (by omega)]
theorem x_greater {N T i : Nat} {lo hi co : Nat → Nat} {e : Nat → Int32} (hw : wt T lo hi co) (he : XE T lo hi e) (h : i < T) : m_X2_greaterKnot N e (nI i) = some (nI (hi i)) := by
  obtain ⟨h1, h2, -⟩ := hw.2 i h
  unfold m_X2_greaterKnot
  have := em_lt (n := 14) h1 h2
  rw [x_ends hw.1 he h, r_bind, m_nlz (by omega) (em_pos), r_bind]
  unfold em
  rw [lg2 h1, show (31 : Int32) = nI 31 from rfl, pk_sub (by omega), show 31 - (31 - hi i) = hi i by omega]
theorem x_hasThread {N T : Nat} {t : Int32} (hT : T ≤ 21) : m_X2_hasThread N (nI T) t = some (if ∃ i, i < T ∧ t = nI i then 1 else 0) := by
  unfold m_X2_hasThread
  rcases pk_ix t (show T < 2 ^ 31 by omega) with h | h | ⟨j, hj, rfl⟩
  · rw [if_pos h, if_neg]
    rintro ⟨i, hi, rfl⟩
    exact nI_pos (n := i) (by omega) h
  · split
    · rw [if_neg]
      rintro ⟨i, hi, rfl⟩
      exact nI_pos (n := i) (by omega) ‹_›
    · rw [if_neg]
      rintro ⟨i, hi, rfl⟩
      exact nI_ge hi (by omega) h
  · rw [if_neg (nI_pos (by omega)), if_neg (nI_ge hj (by omega)), if_pos ⟨j, hj, rfl⟩]
theorem x_hasKnot {N K : Nat} {k : Int32} (hK : K ≤ 21) : m_X2_hasKnot N (nI K) k = some (if ∃ i, i < K ∧ k = nI i then 1 else 0) := x_hasThread (N := N) (t := k) hK
theorem x_coloured {N T : Nat} {co : Nat → Nat} {c : Nat → Int32} {v : Nat} (hN : 1000 ≤ N) (hT : T ≤ 21) (hc : XC T co c) (hv : v < 4) (hco : ∀ i, i < T → co i ≤ 3) : m_X2_coloured N (nI T) c (nI v) = some (nI (bs (fun t => co t == v) T)) := by
  unfold m_X2_coloured
  refine for_up (fun n i (acc : Nat) => m_X2_coloured_L4 N (nI T) c (nI v) n (nI i) (nI acc)) T (fun i => bs (fun t => co t == v) i) _ ?_ ?_ T N 0 (by omega) (by omega)
  · intro n
    show m_X2_coloured_L4 N (nI T) c (nI v) (n + 1) (nI T) _ = _
    rw [m_X2_coloured_L4, if_pos (nI_le (Nat.le_refl _) (by omega))]
  · intro n i hi
    show m_X2_coloured_L4 N (nI T) c (nI v) (n + 1) (nI i) _ = m_X2_coloured_L4 N (nI T) c (nI v) n (nI (i + 1)) _
    have := hco i hi
    rw [m_X2_coloured_L4, if_neg (nI_ge hi (by omega)), x_colour hT hc hi, r_bind, bs]
    by_cases q : co i = v
    · rw [if_pos (by rw [q]), m_bit (by omega), r_bind]
      simp only [nm]
      rw [nor_bit (bs_lt _ _), nI_1, if_pos (by simp [q])]
    · rw [if_neg (fun g => q ((nI_eq (by omega) (by omega)).mp g)), nI_1, if_neg (by simp [q])]; rfl
theorem x_threadsAt {N T ks : Nat} {lo hi : Nat → Nat} {e : Nat → Int32} (hN : 1000 ≤ N) (hT : T ≤ 21) (he : XE T lo hi e) (hk : ks < 2 ^ 31) : m_X2_threadsAt N (nI T) e (nI ks) = some (nI (bs (fun t => em lo hi t &&& ks != 0) T)) := by
  unfold m_X2_threadsAt
  refine for_up (fun n i (acc : Nat) => m_X2_threadsAt_L4 N (nI T) e (nI ks) n (nI i) (nI acc)) T (fun i => bs (fun t => em lo hi t &&& ks != 0) i) _ ?_ ?_ T N 0 (by omega) (by omega)
  · intro n
    show m_X2_threadsAt_L4 N (nI T) e (nI ks) (n + 1) (nI T) _ = _
    rw [m_X2_threadsAt_L4, if_pos (nI_le (Nat.le_refl _) (by omega))]
  · intro n i hj
    show m_X2_threadsAt_L4 N (nI T) e (nI ks) (n + 1) (nI i) _ = m_X2_threadsAt_L4 N (nI T) e (nI ks) n (nI (i + 1)) _
    rw [m_X2_threadsAt_L4, if_neg (nI_ge hj (by omega)), x_ends hT he hj, r_bind, bs, nand]
    have l : em lo hi i &&& ks < 2 ^ 31 := Nat.lt_of_le_of_lt Nat.and_le_right hk
    by_cases q : em lo hi i &&& ks = 0
    · rw [if_pos ((nI_eq0 l).mpr q), nI_1, if_neg (by simp [q])]; rfl
    · rw [if_neg (fun g => q ((nI_eq0 l).mp g)), m_bit (by omega), r_bind]
      simp only [nm]
      rw [nor_bit (bs_lt _ _), nI_1, if_pos (by simp [q])]
theorem x_threadsAt1 {N T k : Nat} {lo hi co : Nat → Nat} {e : Nat → Int32} (hN : 1000 ≤ N) (hw : wt T lo hi co) (he : XE T lo hi e) (hk : k < 31) : m_X2_threadsAt N (nI T) e (nI (2 ^ k)) = some (nI (bs (fun t => isat lo hi t k) T)) := by
  rw [x_threadsAt hN hw.1 he (p2_31 hk)]
  congr 2
  apply bs_cong
  intro i hi'
  rw [← tb_em (hw.2 i hi').1]
  cases q : (em lo hi i).testBit k with
  | false => simp [(and_p2 _ _).mpr q]
  | true =>
    simp only [bne_iff_ne, ne_eq]
    intro g
    rw [(and_p2 _ _).mp g] at q
    cases q
theorem ct_pos {p : Nat → Bool} : ∀ {n : Nat}, (0 < ct p n) ↔ ∃ i, i < n ∧ p i = true
  | 0 => by simp [ct]
  | n + 1 => by
    rw [ct]
    constructor
    · intro h
      by_cases q : p n = true
      · exact ⟨n, by omega, q⟩
      · rw [if_neg q, Nat.add_zero] at h
        obtain ⟨i, hi, g⟩ := ct_pos.mp h
        exact ⟨i, by omega, g⟩
    · rintro ⟨i, hi, g⟩
      rcases Nat.lt_or_ge i n with q | q
      · have := ct_pos.mpr ⟨i, q, g⟩; omega
      · rw [show n = i by omega, if_pos g]; omega
theorem x_isFullKnot {N T k : Nat} {lo hi co : Nat → Nat} {e : Nat → Int32} (hN : 1000 ≤ N) (hw : wt T lo hi co) (he : XE T lo hi e) (hk : k < 31) : m_X2_isFullKnot N (nI T) e (nI k) = some (if 3 ≤ deg T lo hi k then 1 else 0) := by
  unfold m_X2_isFullKnot
  have hT := hw.1
  have l := bs_lt (fun t => isat lo hi t k) T
  have l2 : 2 ^ T ≤ 2 ^ 24 := p2le (by omega)
  rw [m_bit hk, r_bind, x_threadsAt1 hN hw he hk, r_bind, m_bitCount (by omega), r_bind, pop_bs _ _ _ (by omega)]
  have := ct_le (fun t => isat lo hi t k) T
  unfold deg
  by_cases q : 3 ≤ ct (fun t => isat lo hi t k) T
  · rw [if_neg (show ¬ nI (ct (fun t => isat lo hi t k) T) < (3 : Int32) from nI_nlt (b := 3) q (by omega)), if_pos q]
  · rw [if_pos (show nI (ct (fun t => isat lo hi t k) T) < (3 : Int32) from nI_lt (b := 3) (by omega) (by omega)), if_neg q]
