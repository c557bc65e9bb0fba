/-! pure: growing and joining, by both classes -/
theorem oth_lt {K k : Nat} {x : TH} (h : okx K x) : oth k x < K := by
  obtain ⟨h1, h2, -⟩ := h
  unfold oth
  split <;> omega
theorem x_addKnots {N K : Nat} (hK : K + 2 ≤ 14) : m_X2_addKnots N (nI K) 2 = some (nI (K + 2)) := by
  unfold m_X2_addKnots mni
  simp only [nm]
  have e : nI K + 2 = nI (K + 2) := nI_add K 2
  rw [e, if_neg (show ¬ (14 : Int32) < nI (K + 2) from nI_nlt (b := K + 2) (a := 14) (by omega) (by omega))]
theorem x_tie2 {N a b : Nat} {L : List TH} {e c : Nat → Int32} (hT : L.length ≤ 20) (hab : a < b) (h : XL L e c) : ∃ e' c', m_X2_tie N (nI L.length) e c (nI (2 ^ a) ||| nI (2 ^ b)) = some (nI (L ++ [(a, b, 3)]).length, e', c') ∧ XL (L ++ [(a, b, 3)]) e' c' := x_tie hT h (by rw [nor, or_bit (p2lt hab)])
theorem len_add3 (L : List TH) (a b c : TH) : (add3 L a b c).length = L.length + 3 := by simp [add3]
theorem x_add3 {N a1 b1 a2 b2 a3 b3 : Nat} {L : List TH} {e c : Nat → Int32} (hT : L.length ≤ 18) (h1 : a1 < b1) (h2 : a2 < b2) (h3 : a3 < b3) (h : XL L e c) : ∃ t1 e1 c1 t2 e2 c2 e3 c3, m_X2_tie N (nI L.length) e c (nI (2 ^ a1) ||| nI (2 ^ b1)) = some (t1, e1, c1) ∧ m_X2_tie N t1 e1 c1 (nI (2 ^ a2) ||| nI (2 ^ b2)) = some (t2, e2, c2) ∧ m_X2_tie N t2 e2 c2 (nI (2 ^ a3) ||| nI (2 ^ b3)) = some (nI (add3 L (a1, b1, 3) (a2, b2, 3) (a3, b3, 3)).length, e3, c3) ∧ XL (add3 L (a1, b1, 3) (a2, b2, 3) (a3, b3, 3)) e3 c3 := by
  obtain ⟨e1, c1, g1, x1⟩ := x_tie2 (N := N) (by omega) h1 h
  obtain ⟨e2, c2, g2, x2⟩ := x_tie2 (N := N) (by simp; omega) h2 x1
  obtain ⟨e3, c3, g3, x3⟩ := x_tie2 (N := N) (by simp; omega) h3 x2
  exact ⟨_, e1, c1, _, e2, c2, e3, c3, g1, g2, g3, x3⟩
theorem m_add3 {N K a1 b1 a2 b2 a3 b3 : Nat} {L : List TH} {s : Nat → Int32} (hT : L.length ≤ 18) (h1 : a1 < 14) (g1 : b1 < 14) (h2 : a2 < 14) (g2 : b2 < 14) (h3 : a3 < 14) (g3 : b3 < 14) (h : ML K L s) : ∃ s1 s2 s3, m_X7_adds N s (nI a1) (nI b1) = some s1 ∧ m_X7_adds N s1 (nI a2) (nI b2) = some s2 ∧ m_X7_adds N s2 (nI a3) (nI b3) = some s3 ∧ ML K (add3 L (min a1 b1, max a1 b1, 3) (min a2 b2, max a2 b2, 3) (min a3 b3, max a3 b3, 3)) s3 := by
  obtain ⟨s1, q1, x1⟩ := m_adds (N := N) (a := a1) (b := b1) (by omega) h (by omega) (by omega)
  obtain ⟨s2, q2, x2⟩ := m_adds (N := N) (a := a2) (b := b2) (by simp; omega) x1 (by omega) (by omega)
  obtain ⟨s3, q3, x3⟩ := m_adds (N := N) (a := a3) (b := b3) (by simp; omega) x2 (by omega) (by omega)
  exact ⟨s1, s2, s3, q1, q2, q3, x3⟩
theorem nI_m1 {n : Nat} (h : 0 < n) : nI n - 1 = nI (n - 1) := by
  have := nI_pred (n - 1)
  rw [show n - 1 + 1 = n by omega] at this
  exact this
theorem x_grow {N K k t2 t3 F2 F3 : Nat} {L : List TH} {x2 x3 : TH} {e c : Nat → Int32} (hN : 1000 ≤ N) (hW : WL K L) (hK : K + 2 ≤ 14) (hk : k < K) (hX : XL L e c) (f1 : bs (fun t => atk k (L.getD t (0, 0, 0))) L.length &&& (bs (fun t => atk k (L.getD t (0, 0, 0))) L.length - 1) = F2) (f2 : F2 &&& (F2 - 1) = F3) (p1 : 0 < bs (fun t => atk k (L.getD t (0, 0, 0))) L.length) (p2 : 0 < F2) (p3 : 0 < F3) (l2 : F2 < 2 ^ 21) (l3 : F3 < 2 ^ 21) (i2 : lb 31 F2 = t2) (i3 : lb 31 F3 = t3) (hne : t2 ≠ t3) (h2 : L[t2]? = some x2) (h3 : L[t3]? = some x3) (a2 : atk k x2 = true) (a3 : atk k x3 = true) : ∃ e' c', m_X2_growInto N (nI K) (nI L.length) e c (nI k) = some (nI (K + 2), nI (grown K k t2 t3 x2 x3 L).length, e', c') ∧ XL (grown K k t2 t3 x2 x3 L) e' c' := by
  have h21 := hW.len21
  have hlen := hW.len
  have o2 := hW.2.1 x2 (List.mem_of_getElem? h2)
  have o3 := hW.2.1 x3 (List.mem_of_getElem? h3)
  have b2 := oth_lt (k := k) o2
  have b3 := oth_lt (k := k) o3
  have lt2 := lt_of h2
  have lt3 := lt_of h3
  have m2 := x_moveEnd (N := N) (m := K) h21 hX h2 o2 a2 (Nat.le_refl K) (by omega)
  have X1 : XL (L.set t2 (oth k x2, K, x2.2.2)) (upd e t2 (nI (2 ^ oth k x2 + 2 ^ K))) c := XL_set hX lt2 rfl (fun y hy => by rw [h2] at hy; cases hy; rfl)
  have h3' : (L.set t2 (oth k x2, K, x2.2.2))[t3]? = some x3 := by rw [List.getElem?_set, if_neg hne]; exact h3
  have m3 := x_moveEnd (N := N) (m := K + 1) (by rw [List.length_set]; exact h21) X1 h3' o3 a3 (by omega) (by omega)
  have X2 : XL ((L.set t2 (oth k x2, K, x2.2.2)).set t3 (oth k x3, K + 1, x3.2.2)) (upd (upd e t2 (nI (2 ^ oth k x2 + 2 ^ K))) t3 (nI (2 ^ oth k x3 + 2 ^ (K + 1)))) c := XL_set X1 (by rw [List.length_set]; exact lt3) rfl (fun y hy => by rw [h3'] at hy; cases hy; rfl)
  obtain ⟨u1, v1, w1, u2, v2, w2, v3, w3, q1, q2, q3, X3⟩ := x_add3 (N := N) (a1 := k) (b1 := K) (a2 := k) (b2 := K + 1) (a3 := K) (b3 := K + 1) (by rw [List.length_set, List.length_set]; omega) hk (by omega) (by omega) X2
  rw [List.length_set, List.length_set] at q1
  refine ⟨v3, w3, ?_, X3⟩
  have hXE := XL_iff.mp hX
  have bsE : bs (fun t => isat (fl L) (fh L) t k) L.length = bs (fun t => atk k (L.getD t (0, 0, 0))) L.length := rfl
  have e1 : nI K + 1 = nI (K + 1) := nI_add K 1
  unfold m_X2_growInto
  simp only [nm]
  rw [m_bit (by omega), r_bind, x_threadsAt1 hN hW.wt hXE.1 (by omega), r_bind, bsE, nI_m1 p1, nand, f1, nI_m1 p2, nand, f2, x_addKnots hK, r_bind, m_ntz (by omega) p2, r_bind, i2, m2, r_bind, m_ntz (by omega) p3, r_bind, i3, e1, m3, r_bind, r_bind, m_bit (by omega), r_bind, q1, r_bind, r_bind, m_bit (by omega), r_bind, q2]
  simp only [r_bind]
  rw [q3]
  rfl
theorem m_threadAt {N K k : Nat} {L : List TH} {s : Nat → Int32} {F2 F3 t2 t3 : Nat} (hN : 1000 ≤ N) (hW : WL K L) (hk : k < K) (hM : ML K L s) (f1 : bs (fun t => atk k (L.getD t (0, 0, 0))) L.length &&& (bs (fun t => atk k (L.getD t (0, 0, 0))) L.length - 1) = F2) (f2 : F2 &&& (F2 - 1) = F3) (p1 : 0 < bs (fun t => atk k (L.getD t (0, 0, 0))) L.length) (p2 : 0 < F2) (p3 : 0 < F3) (l2 : F2 < 2 ^ 21) (l3 : F3 < 2 ^ 21) (i2 : lb 31 F2 = t2) (i3 : lb 31 F3 = t3) : m_X7_threadAt N s (nI k) 1 = some (nI t2) ∧ m_X7_threadAt N s (nI k) 2 = some (nI t3) := by
  have hK := hW.1
  have bsE : bs (fun t => isat (fl L) (fh L) t k) L.length = bs (fun t => atk k (L.getD t (0, 0, 0))) L.length := rfl
  obtain ⟨n, hn⟩ : ∃ m, N = m + 3 := ⟨N - 3, by omega⟩
  have c1 : (nI 0 + 1) = nI 1 := rfl
  have c2 : (nI 1 + 1) = nI 2 := rfl
  constructor
  · unfold m_X7_threadAt
    rw [m_threadsOf hN hW.wt (ML_iff.mp hM) (by omega), r_bind, bsE]
    simp only [jn]
    have : ∀ J, m_X7_threadAt_L9 N 1 J N 0 (nI (bs (fun t => atk k (L.getD t (0, 0, 0))) L.length)) = J (nI F2) := by
      intro J
      rw [show m_X7_threadAt_L9 N 1 J N 0 = m_X7_threadAt_L9 N 1 J (n + 3) (nI 0) by rw [← hn]; rfl]
      rw [m_X7_threadAt_L9, if_neg (show ¬ (1 : Int32) ≤ nI 0 by decide)]
      simp only [nm]
      rw [nI_m1 p1, nand, f1, c1, m_X7_threadAt_L9, if_pos (show (1 : Int32) ≤ nI 1 by decide)]
    rw [this, m_lowest hN (by omega) p2, r_bind, i2]
  · unfold m_X7_threadAt
    rw [m_threadsOf hN hW.wt (ML_iff.mp hM) (by omega), r_bind, bsE]
    simp only [jn]
    have : ∀ J, m_X7_threadAt_L9 N 2 J N 0 (nI (bs (fun t => atk k (L.getD t (0, 0, 0))) L.length)) = J (nI F3) := by
      intro J
      rw [show m_X7_threadAt_L9 N 2 J N 0 = m_X7_threadAt_L9 N 2 J (n + 3) (nI 0) by rw [← hn]; rfl]
      rw [m_X7_threadAt_L9, if_neg (show ¬ (2 : Int32) ≤ nI 0 by decide)]
      simp only [nm]
      rw [nI_m1 p1, nand, f1, c1, m_X7_threadAt_L9, if_neg (show ¬ (2 : Int32) ≤ nI 1 by decide)]
      simp only [nm]
      rw [nI_m1 p2, nand, f2, c2, m_X7_threadAt_L9, if_pos (show (2 : Int32) ≤ nI 2 by decide)]
    rw [this, m_lowest hN (by omega) p3, r_bind, i3]
/-- what is read of a thread of the list -/
theorem ml_0 {N K t : Nat} {L : List TH} {s : Nat → Int32} {x : TH} (hT : L.length ≤ 21) (hM : ML K L s) (hx : L[t]? = some x) : m_X7_of N s (nI t) 0 = some (nI x.1) := by
  have := m_of (N := N) (s := s) (t := t) (w := 0) (by have := lt_of hx; omega) (by omega)
  rw [show 2 + 3 * t + 0 = 2 + 3 * t from rfl, (hM.2.2 t x hx).1] at this
  exact this
theorem ml_1 {N K t : Nat} {L : List TH} {s : Nat → Int32} {x : TH} (hT : L.length ≤ 21) (hM : ML K L s) (hx : L[t]? = some x) : m_X7_of N s (nI t) 1 = some (nI x.2.1) := by
  have := m_of (N := N) (s := s) (t := t) (w := 1) (by have := lt_of hx; omega) (by omega)
  rw [(hM.2.2 t x hx).2.1] at this
  exact this
theorem ml_2 {N K t : Nat} {L : List TH} {s : Nat → Int32} {x : TH} (hT : L.length ≤ 21) (hM : ML K L s) (hx : L[t]? = some x) : m_X7_of N s (nI t) 2 = some (nI x.2.2) := by
  have := m_of (N := N) (s := s) (t := t) (w := 2) (by have := lt_of hx; omega) (by omega)
  rw [(hM.2.2 t x hx).2.2] at this
  exact this
theorem ml_across {N K t k : Nat} {L : List TH} {s : Nat → Int32} {x : TH} (hT : L.length ≤ 21) (hM : ML K L s) (hx : L[t]? = some x) (ho : okx 14 x) (hk : k < 14) : m_X7_across N s (nI t) (nI k) = some (nI (oth k x)) := by
  unfold m_X7_across oth
  rw [ml_0 hT hM hx, r_bind, ml_1 hT hM hx]
  obtain ⟨h1, h2, -⟩ := ho
  by_cases q : x.1 = k
  · rw [if_pos (by rw [q]), r_bind, if_pos q]
  · rw [if_neg (fun g => q ((nI_eq (by omega) (by omega)).mp g)), r_bind, if_neg q]
theorem okx.le {K K' : Nat} {x : TH} (h : okx K x) (hK : K ≤ K') : okx K' x := ⟨h.1, by have := h.2.1; omega, h.2.2⟩
-- joining
def joined (K t1 t2 : Nat) (x1 x2 : TH) (L : List TH) : List TH := add3 ((L.set t1 (x1.1, K, x1.2.2)).set t2 (x2.1, K + 1, x2.2.2)) (x1.2.1, K, 3) (x2.2.1, K + 1, 3) (K, K + 1, 3)
theorem oth_hi {K : Nat} {x : TH} (h : okx K x) : oth x.2.1 x = x.1 := by
  obtain ⟨h1, -, -⟩ := h
  unfold oth
  rw [if_neg (by omega)]
theorem atk_hi (x : TH) : atk x.2.1 x = true := by unfold atk; simp
theorem WL.join {K t1 t2 : Nat} {L : List TH} {x1 x2 : TH} (hW : WL K L) (hK : K + 2 ≤ 14) (hne : t1 ≠ t2) (h1 : L[t1]? = some x1) (h2 : L[t2]? = some x2) : WL (K + 2) (joined K t1 t2 x1 x2 L) := by
  have o1 := hW.2.1 x1 (List.mem_of_getElem? h1)
  have o2 := hW.2.1 x2 (List.mem_of_getElem? h2)
  have W0 := hW.more (K' := K + 2) (by omega) hK
  have f0 : ∀ z ∈ L, z.1 < K ∧ z.2.1 < K := fun z hz => by obtain ⟨p, q, -⟩ := hW.2.1 z hz; omega
  have W1 := W0.move h1 (atk_hi x1) (m := K) (by omega) f0
  have m1 := fun j => cnt_move (k := x1.2.1) (m := K) (j := j) h1
  rw [oth_hi o1] at W1 m1
  have h2' : (L.set t1 (x1.1, K, x1.2.2))[t2]? = some x2 := by rw [List.getElem?_set, if_neg hne]; exact h2
  have f1 : ∀ z ∈ L.set t1 (x1.1, K, x1.2.2), z.1 < K + 1 ∧ z.2.1 < K + 1 := fun z hz => by
    rcases List.mem_or_eq_of_mem_set hz with g | g
    · have := f0 z g; omega
    · rw [g]; obtain ⟨p, q, -⟩ := o1; exact ⟨by show x1.1 < K + 1; omega, by show K < K + 1; omega⟩
  have W2 := W1.move h2' (atk_hi x2) (m := K + 1) (by omega) f1
  have m2 := fun j => cnt_move (k := x2.2.1) (m := K + 1) (j := j) h2'
  rw [oth_hi o2] at W2 m2
  obtain ⟨p1, p2, -⟩ := o1
  obtain ⟨r1, r2, -⟩ := o2
  have mem2 : ∀ z ∈ (L.set t1 (x1.1, K, x1.2.2)).set t2 (x2.1, K + 1, x2.2.2), (z.1 < K ∧ z.2.1 < K) ∨ (z.1 = x1.1 ∧ z.2.1 = K) ∨ (z.1 = x2.1 ∧ z.2.1 = K + 1) := fun z hz => by
    rcases List.mem_or_eq_of_mem_set hz with g | g
    · rcases List.mem_or_eq_of_mem_set g with g | g
      · exact Or.inl (f0 z g)
      · rw [g]; exact Or.inr (Or.inl ⟨rfl, rfl⟩)
    · rw [g]; exact Or.inr (Or.inr ⟨rfl, rfl⟩)
  have c : ∀ j, ((L.set t1 (x1.1, K, x1.2.2)).set t2 (x2.1, K + 1, x2.2.2)).countP (atk j) + (if atk j x2 then 1 else 0) + (if atk j x1 then 1 else 0) = L.countP (atk j) + (if atk j (x1.1, K, x1.2.2) then 1 else 0) + (if atk j (x2.1, K + 1, x2.2.2) then 1 else 0) := fun j => by
    have e1 := m1 j
    have e2 := m2 j
    omega
  have c0 : ∀ j, K ≤ j → L.countP (atk j) = 0 := fun j hj => by
    rw [List.countP_eq_zero]
    intro z hz
    have := f0 z hz
    unfold atk
    simp
    omega
  have l3 := hW.2.2.2
  have ce : ∀ j, j < K → ((L.set t1 (x1.1, K, x1.2.2)).set t2 (x2.1, K + 1, x2.2.2)).countP (atk j) + (if x2.2.1 = j then 1 else 0) + (if x1.2.1 = j then 1 else 0) ≤ 3 := fun j hj => by
    have a := c j
    have b := l3 j
    unfold atk at a b ⊢
    simp only [Bool.or_eq_true, beq_iff_eq] at a ⊢
    split <;> split <;> split at a <;> split at a <;> split at a <;> split at a <;> omega
  have cK : ((L.set t1 (x1.1, K, x1.2.2)).set t2 (x2.1, K + 1, x2.2.2)).countP (atk K) ≤ 1 := by
    have a := c K
    rw [c0 K (Nat.le_refl K), show atk K x2 = false by unfold atk; simp; omega, show atk K x1 = false by unfold atk; simp; omega, show atk K (x1.1, K, x1.2.2) = true by unfold atk; simp, show atk K (x2.1, K + 1, x2.2.2) = false by unfold atk; simp; omega] at a
    simp at a
    omega
  have cK1 : ((L.set t1 (x1.1, K, x1.2.2)).set t2 (x2.1, K + 1, x2.2.2)).countP (atk (K + 1)) ≤ 1 := by
    have a := c (K + 1)
    rw [c0 (K + 1) (by omega), show atk (K + 1) x2 = false by unfold atk; simp; omega, show atk (K + 1) x1 = false by unfold atk; simp; omega, show atk (K + 1) (x2.1, K + 1, x2.2.2) = true by unfold atk; simp, show atk (K + 1) (x1.1, K, x1.2.2) = false by unfold atk; simp; omega] at a
    simp at a
    omega
  unfold joined add3
  generalize (L.set t1 (x1.1, K, x1.2.2)).set t2 (x2.1, K + 1, x2.2.2) = M at *
  have ends : ∀ (a b j : Nat), atk j (a, b, 3) = true → j = a ∨ j = b := fun a b j h => by unfold atk at h; simp at h; omega
  have V1 : WL (K + 2) (M ++ [(x1.2.1, K, 3)]) := by
    refine W2.app (Nat.le_refl _) hK ⟨p2, by show K < K + 2; omega, Nat.le_refl 3⟩ (fun y hy => ?_) (fun j hj => ?_)
    · have := mem2 y hy
      unfold apart
      show ¬ (y.1 = x1.2.1 ∧ y.2.1 = K)
      omega
    · rcases ends _ K j hj with q | rfl
      · have := ce j (by omega)
        rw [if_pos q.symm] at this
        omega
      · omega
  have V2 : WL (K + 2) (M ++ [(x1.2.1, K, 3)] ++ [(x2.2.1, K + 1, 3)]) := by
    refine V1.app (Nat.le_refl _) hK ⟨by show x2.2.1 < K + 1; omega, by show K + 1 < K + 2; omega, Nat.le_refl 3⟩ (fun y hy => ?_) (fun j hj => ?_)
    · rw [List.mem_append, List.mem_singleton] at hy
      unfold apart
      show ¬ (y.1 = x2.2.1 ∧ y.2.1 = K + 1)
      rcases hy with g | g
      · have := mem2 y g; omega
      · rw [g]; show ¬ (x1.2.1 = x2.2.1 ∧ K = K + 1); omega
    · rw [cnt_app]
      rcases ends _ (K + 1) j hj with q | rfl
      · have := ce j (by omega)
        rw [if_pos q.symm] at this
        unfold atk at *
        simp only [Bool.or_eq_true, beq_iff_eq]
        split <;> split at this <;> omega
      · rw [show atk (K + 1) (x1.2.1, K, 3) = false by unfold atk; simp; omega]; simp; omega
  refine V2.app (Nat.le_refl _) hK ⟨by show K < K + 1; omega, by show K + 1 < K + 2; omega, Nat.le_refl 3⟩ (fun y hy => ?_) (fun j hj => ?_)
  · rw [List.mem_append, List.mem_singleton, List.mem_append, List.mem_singleton] at hy
    unfold apart
    show ¬ (y.1 = K ∧ y.2.1 = K + 1)
    rcases hy with (g | g) | g
    · have := mem2 y g; omega
    · rw [g]; show ¬ (x1.2.1 = K ∧ K = K + 1); omega
    · rw [g]; show ¬ (x2.2.1 = K ∧ K + 1 = K + 1); omega
  · rw [cnt_app, cnt_app]
    rcases ends K (K + 1) j hj with rfl | rfl
    · rw [show atk j (x1.2.1, j, 3) = true by unfold atk; simp, show atk j (x2.2.1, j + 1, 3) = false by unfold atk; simp; omega]; simp; omega
    · rw [show atk (K + 1) (x1.2.1, K, 3) = false by unfold atk; simp; omega, show atk (K + 1) (x2.2.1, K + 1, 3) = true by unfold atk; simp]; simp; omega
theorem x_join {N K t1 t2 : Nat} {L : List TH} {x1 x2 : TH} {e c : Nat → Int32} (hN : 1000 ≤ N) (hW : WL K L) (hK : K + 2 ≤ 14) (hX : XL L e c) (hne : t1 ≠ t2) (h1 : L[t1]? = some x1) (h2 : L[t2]? = some x2) : ∃ e' c', m_X2_bridgeOver N (nI K) (nI L.length) e c (nI t1) (nI t2) = some (nI (K + 2), nI (joined K t1 t2 x1 x2 L).length, e', c') ∧ XL (joined K t1 t2 x1 x2 L) e' c' := by
  have h21 := hW.len21
  have hlen := hW.len
  have o1 := hW.2.1 x1 (List.mem_of_getElem? h1)
  have o2 := hW.2.1 x2 (List.mem_of_getElem? h2)
  have lt1 := lt_of h1
  have lt2 := lt_of h2
  have m1 := x_moveEnd (N := N) (m := K) h21 hX h1 o1 (atk_hi x1) (Nat.le_refl K) (by omega)
  rw [oth_hi o1] at m1
  have X1 : XL (L.set t1 (x1.1, K, x1.2.2)) (upd e t1 (nI (2 ^ x1.1 + 2 ^ K))) c := XL_set hX lt1 rfl (fun y hy => by rw [h1] at hy; cases hy; rfl)
  have h2' : (L.set t1 (x1.1, K, x1.2.2))[t2]? = some x2 := by rw [List.getElem?_set, if_neg hne]; exact h2
  have m2 := x_moveEnd (N := N) (m := K + 1) (by rw [List.length_set]; exact h21) X1 h2' o2 (atk_hi x2) (by omega) (by omega)
  rw [oth_hi o2] at m2
  have X2 : XL ((L.set t1 (x1.1, K, x1.2.2)).set t2 (x2.1, K + 1, x2.2.2)) (upd (upd e t1 (nI (2 ^ x1.1 + 2 ^ K))) t2 (nI (2 ^ x2.1 + 2 ^ (K + 1)))) c := XL_set X1 (by rw [List.length_set]; exact lt2) rfl (fun y hy => by rw [h2'] at hy; cases hy; rfl)
  obtain ⟨u1, v1, w1, u2, v2, w2, v3, w3, q1, q2, q3, X3⟩ := x_add3 (N := N) (a1 := x1.2.1) (b1 := K) (a2 := x2.2.1) (b2 := K + 1) (a3 := K) (b3 := K + 1) (by rw [List.length_set, List.length_set]; omega) o1.2.1 (by have := o2.2.1; omega) (by omega) X2
  rw [List.length_set, List.length_set] at q1
  refine ⟨v3, w3, ?_, X3⟩
  have hXE := XL_iff.mp hX
  have e1 : nI K + 1 = nI (K + 1) := nI_add K 1
  have g1 : m_X2_greaterKnot N e (nI t1) = some (nI x1.2.1) := by
    have := x_greater (N := N) hW.wt hXE.1 lt1
    unfold fh at this
    rw [getD_some h1] at this
    exact this
  have g2 : m_X2_greaterKnot N e (nI t2) = some (nI x2.2.1) := by
    have := x_greater (N := N) hW.wt hXE.1 lt2
    unfold fh at this
    rw [getD_some h2] at this
    exact this
  have oc : ∀ a b, nI (2 ^ a) ||| nI (2 ^ b) = nI (2 ^ b) ||| nI (2 ^ a) := fun a b => by rw [nor, nor, Nat.or_comm]
  have y1 := o1.2.1
  have y2 := o2.2.1
  unfold m_X2_bridgeOver
  simp only [nm]
  rw [g1, r_bind, g2, r_bind, x_addKnots hK, r_bind, m1, r_bind, e1, m2, r_bind, m_bit (by omega), r_bind, m_bit (by omega), r_bind, oc K, q1]
  simp only [r_bind]
  rw [m_bit (by omega), r_bind, m_bit (by omega), r_bind, oc (K + 1), q2]
  simp only [r_bind]
  rw [q3]
  rfl
