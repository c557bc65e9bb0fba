-- 54.grow.lean.txt
section
/-! pure: ends that move, a knot that grows, threads that are joined -/
theorem lb_pred : ∀ (k n : Nat), n < 2 ^ k → 0 < n → (n - 1).testBit (lb k n) = false
  | 0, n, h, h0 => by simp at h; omega
  | k + 1, n, h, h0 => by
    rw [Nat.pow_succ] at h
    rw [lb]
    split
    · rw [tb0]; simp; omega
    · rw [← Nat.testBit_div_two, show (n - 1) / 2 = n / 2 - 1 by omega]
      exact lb_pred k (n / 2) (by omega) (by omega)
/-- the knot at the other end -/
def oth (k : Nat) (x : TH) : Nat := if x.1 = k then x.2.1 else x.1
theorem oth_ne {K k : Nat} {x : TH} (h : okx K x) : oth k x ≠ k := by
  obtain ⟨h1, h2, h3⟩ := h
  unfold oth
  split <;> omega
theorem em_oth {K k : Nat} {x : TH} (h : okx K x) (hk : atk k x = true) : 2 ^ x.1 + 2 ^ x.2.1 = 2 ^ oth k x ||| 2 ^ k := by
  obtain ⟨h1, h2, h3⟩ := h
  unfold atk at hk
  simp at hk
  unfold oth
  have e := or_bit (p2lt h1)
  split
  · rename_i q
    rw [← q, Nat.or_comm, e]
  · have q : x.2.1 = k := by omega
    rw [← q, e]
theorem x_moveEnd {N K t k m : Nat} {L : List TH} {e c : Nat → Int32} {x : TH} (hT : L.length ≤ 21) (hX : XL L e c) (hx : L[t]? = some x) (ho : okx K x) (hk : atk k x = true) (hKm : K ≤ m) (hm : m < 14) : m_X2_moveEnd N e (nI t) (nI k) (nI m) = some (upd e t (nI (2 ^ oth k x + 2 ^ m))) := by
  have hlt := lt_of hx
  have hk' : k < K := by
    unfold atk at hk
    simp at hk
    obtain ⟨h1, h2, -⟩ := ho
    omega
  have ha : oth k x < K := by
    obtain ⟨h1, h2, -⟩ := ho
    unfold oth
    split <;> omega
  have hne := oth_ne (k := k) ho
  unfold m_X2_moveEnd m_X2_ends
  rw [x_at (by omega) (by decide), r_bind, r_bind, m_bit (by omega), r_bind, m_bit (by omega), r_bind, (hX t x hx).1, nandn, nor, x_put (by omega) (by decide), r_bind]
  congr 3
  rw [em_oth ho hk, ← or_bit (p2lt (show oth k x < m by omega))]
  congr 1
  apply Nat.eq_of_testBit_eq
  intro i
  rw [tb_ad, Nat.testBit_or, Nat.testBit_two_pow, Nat.testBit_two_pow]
  by_cases q : k = i
  · subst q; simp [hne]
  · simp [q]
theorem WL.move {K' t k m : Nat} {L : List TH} {x : TH} (h : WL K' L) (hx : L[t]? = some x) (hk : atk k x = true) (hm : m < K') (hf : ∀ z ∈ L, z.1 < m ∧ z.2.1 < m) : WL K' (L.set t (oth k x, m, x.2.2)) := by
  have hmem := List.mem_of_getElem? hx
  have ho := h.2.1 x hmem
  have ha : oth k x < m := by
    have := hf x hmem
    unfold oth
    split <;> omega
  refine ⟨h.1, fun y hy => ?_, ?_, fun j => ?_⟩
  · rcases List.mem_or_eq_of_mem_set hy with g | g
    · exact h.2.1 y g
    · rw [g]; exact ⟨ha, hm, ho.2.2⟩
  · rw [List.pairwise_iff_getElem]
    intro i j hi hj hij
    have hi' : i < L.length := by simpa using hi
    have hj' : j < L.length := by simpa using hj
    have pw := List.pairwise_iff_getElem.mp h.2.2.1 i j hi' hj' hij
    have f1 := hf L[i] (List.getElem_mem hi')
    have f2 := hf L[j] (List.getElem_mem hj')
    rw [List.getElem_set, List.getElem_set]
    unfold apart at *
    by_cases q1 : t = i
    · rw [if_pos q1, if_neg (by omega)]
      show ¬ (oth k x = L[j].1 ∧ m = L[j].2.1)
      omega
    · rw [if_neg q1]
      by_cases q2 : t = j
      · rw [if_pos q2]
        show ¬ (L[i].1 = oth k x ∧ L[i].2.1 = m)
        omega
      · rw [if_neg q2]; exact pw
  · have e := countP_set (p := atk j) (y := (oth k x, m, x.2.2)) hx
    have l := h.2.2.2 j
    by_cases q : j = m
    · subst q
      have z : L.countP (atk j) = 0 := by
        rw [List.countP_eq_zero]
        intro z hz
        have := hf z hz
        unfold atk
        simp
        omega
      split at e <;> split at e <;> omega
    · have : atk j (oth k x, m, x.2.2) = true → atk j x = true := by
        unfold atk oth
        simp
        intro g
        split at g <;> omega
      by_cases g : atk j (oth k x, m, x.2.2) = true
      · rw [if_pos g, if_pos (this g)] at e; omega
      · rw [if_neg g] at e; omega
/-- how many threads a knot has when an end moves -/
theorem cnt_move {t k m j : Nat} {L : List TH} {x : TH} (hx : L[t]? = some x) : (L.set t (oth k x, m, x.2.2)).countP (atk j) + (if atk j x then 1 else 0) = L.countP (atk j) + (if atk j (oth k x, m, x.2.2) then 1 else 0) := countP_set hx
theorem cnt_app {j : Nat} {L : List TH} {x : TH} : (L ++ [x]).countP (atk j) = L.countP (atk j) + (if atk j x then 1 else 0) := by
  rw [List.countP_append, List.countP_singleton]
/-- the second and the third thread of a knot -/
theorem three {K k : Nat} {L : List TH} (hW : WL K L) (hd : L.countP (atk k) = 3) : ∃ F2 F3 t2 t3 x2 x3, bs (fun t => atk k (L.getD t (0, 0, 0))) L.length &&& (bs (fun t => atk k (L.getD t (0, 0, 0))) L.length - 1) = F2 ∧ F2 &&& (F2 - 1) = F3 ∧ 0 < bs (fun t => atk k (L.getD t (0, 0, 0))) L.length ∧ 0 < F2 ∧ 0 < F3 ∧ F2 < 2 ^ 21 ∧ F3 < 2 ^ 21 ∧ lb 31 F2 = t2 ∧ lb 31 F3 = t3 ∧ t2 ≠ t3 ∧ L[t2]? = some x2 ∧ L[t3]? = some x3 ∧ atk k x2 = true ∧ atk k x3 = true := by
  have h21 := hW.len21
  have l1 := bs_lt21 (fun t => atk k (L.getD t (0, 0, 0))) h21
  have p1 : pop 31 (bs (fun t => atk k (L.getD t (0, 0, 0))) L.length) = 3 := by
    rw [pop_bs _ _ _ (by omega), ct_take L.length (Nat.le_refl _), List.take_length, hd]
  have mem : ∀ t, (bs (fun t => atk k (L.getD t (0, 0, 0))) L.length).testBit t = true → ∃ x, L[t]? = some x ∧ atk k x = true := by
    intro t h
    rw [tb_bs, Bool.and_eq_true, decide_eq_true_eq] at h
    obtain ⟨x, hx⟩ := some_of h.1
    have := h.2
    rw [getD_some hx] at this
    exact ⟨x, hx, this⟩
  generalize bs (fun t => atk k (L.getD t (0, 0, 0))) L.length = F1 at *
  have z0 : pop 31 0 = 0 := by decide
  have h1 : 0 < F1 := by
    rcases Nat.eq_zero_or_pos F1 with q | q
    · rw [q, z0] at p1; omega
    · exact q
  have p2 := pop_and_pred 31 F1 (by omega) h1
  have l2 : F1 &&& (F1 - 1) < 2 ^ 21 := and_lt l1
  have h2 : 0 < F1 &&& (F1 - 1) := by
    rcases Nat.eq_zero_or_pos (F1 &&& (F1 - 1)) with q | q
    · rw [q, z0] at p2; omega
    · exact q
  have p3 := pop_and_pred 31 (F1 &&& (F1 - 1)) (by omega) h2
  have s2 : subs (F1 &&& (F1 - 1)) F1 := fun i hi => by rw [Nat.testBit_and, Bool.and_eq_true] at hi; exact hi.1
  generalize F1 &&& (F1 - 1) = F2 at *
  have l3 : F2 &&& (F2 - 1) < 2 ^ 21 := and_lt l2
  have h3 : 0 < F2 &&& (F2 - 1) := by
    rcases Nat.eq_zero_or_pos (F2 &&& (F2 - 1)) with q | q
    · rw [q, z0] at p3; omega
    · exact q
  have s3 : subs (F2 &&& (F2 - 1)) F2 := fun i hi => by rw [Nat.testBit_and, Bool.and_eq_true] at hi; exact hi.1
  have n3 : (F2 &&& (F2 - 1)).testBit (lb 31 F2) = false := by rw [Nat.testBit_and, lb_pred 31 F2 (by omega) h2, Bool.and_false]
  have i2 := lb_in 31 F2 (by omega) h2
  have i3 := lb_in 31 (F2 &&& (F2 - 1)) (by omega) h3
  obtain ⟨x2, a2, b2⟩ := mem _ (s2 _ i2)
  obtain ⟨x3, a3, b3⟩ := mem _ (s2 _ (s3 _ i3))
  refine ⟨F2, F2 &&& (F2 - 1), lb 31 F2, lb 31 (F2 &&& (F2 - 1)), x2, x3, rfl, rfl, h1, h2, h3, l2, l3, rfl, rfl, ?_, a2, a3, b2, b3⟩
  intro q
  rw [← q, n3] at i3
  cases i3
/-- three threads more -/
def add3 (L : List TH) (a b c : TH) : List TH := L ++ [a] ++ [b] ++ [c]
/-- a knot grown into three -/
def grown (K k t2 t3 : Nat) (x2 x3 : TH) (L : List TH) : List TH := add3 ((L.set t2 (oth k x2, K, x2.2.2)).set t3 (oth k x3, K + 1, x3.2.2)) (k, K, 3) (k, K + 1, 3) (K, K + 1, 3)
theorem WL.grow {K k t2 t3 : Nat} {L : List TH} {x2 x3 : TH} (hW : WL K L) (hK : K + 2 ≤ 14) (hk : k < K) (hd : L.countP (atk k) = 3) (hne : t2 ≠ t3) (h2 : L[t2]? = some x2) (h3 : L[t3]? = some x3) (a2 : atk k x2 = true) (a3 : atk k x3 = true) : WL (K + 2) (grown K k t2 t3 x2 x3 L) := by
  have o2 := hW.2.1 x2 (List.mem_of_getElem? h2)
  have o3 := hW.2.1 x3 (List.mem_of_getElem? h3)
  have b2 : oth k x2 < K ∧ oth k x2 ≠ k := ⟨by unfold oth; have := o2.1; have := o2.2.1; split <;> omega, oth_ne o2⟩
  have b3 : oth k x3 < K ∧ oth k x3 ≠ k := ⟨by unfold oth; have := o3.1; have := o3.2.1; split <;> omega, oth_ne o3⟩
  have W0 := hW.more (K' := K + 2) (by omega) hK
  have f0 : ∀ z ∈ L, z.1 < K ∧ z.2.1 < K := fun z hz => by obtain ⟨p, q, -⟩ := hW.2.1 z hz; omega
  have W1 := W0.move h2 a2 (m := K) (by omega) f0
  have h3' : (L.set t2 (oth k x2, K, x2.2.2))[t3]? = some x3 := by rw [List.getElem?_set, if_neg hne]; exact h3
  have f1 : ∀ z ∈ L.set t2 (oth k x2, K, x2.2.2), z.1 < K + 1 ∧ z.2.1 < K + 1 := fun z hz => by
    rcases List.mem_or_eq_of_mem_set hz with g | g
    · have := f0 z g; omega
    · rw [g]; exact ⟨by show oth k x2 < K + 1; omega, by show K < K + 1; omega⟩
  have W2 := W1.move h3' a3 (m := K + 1) (by omega) f1
  have mem2 : ∀ z ∈ (L.set t2 (oth k x2, K, x2.2.2)).set t3 (oth k x3, K + 1, x3.2.2), (z.1 < K ∧ z.2.1 < K) ∨ (z.1 ≠ k ∧ z.1 < K ∧ (z.2.1 = K ∨ z.2.1 = K + 1)) := fun z hz => by
    rcases List.mem_or_eq_of_mem_set hz with g | g
    · rcases List.mem_or_eq_of_mem_set g with g | g
      · exact Or.inl (f0 z g)
      · rw [g]; exact Or.inr ⟨b2.2, b2.1, Or.inl rfl⟩
    · rw [g]; exact Or.inr ⟨b3.2, b3.1, Or.inr rfl⟩
  have c : ∀ j, ((L.set t2 (oth k x2, K, x2.2.2)).set t3 (oth k x3, K + 1, x3.2.2)).countP (atk j) + (if atk j x3 then 1 else 0) + (if atk j x2 then 1 else 0) = L.countP (atk j) + (if atk j (oth k x2, K, x2.2.2) then 1 else 0) + (if atk j (oth k x3, K + 1, x3.2.2) then 1 else 0) := fun j => by
    have e1 := cnt_move (k := k) (m := K) (j := j) h2
    have e2 := cnt_move (k := k) (m := K + 1) (j := j) h3'
    omega
  have c0 : ∀ j, K ≤ j → L.countP (atk j) = 0 := fun j hj => by
    rw [List.countP_eq_zero]
    intro z hz
    have := f0 z hz
    unfold atk
    simp
    omega
  have ck := c k
  have cK := c K
  have cK1 := c (K + 1)
  rw [a2, a3, hd, show atk k (oth k x2, K, x2.2.2) = false by unfold atk; simp; omega, show atk k (oth k x3, K + 1, x3.2.2) = false by unfold atk; simp; omega] at ck
  rw [c0 K (by omega), show atk K x3 = false by unfold atk; have := o3.1; have := o3.2.1; simp; omega, show atk K x2 = false by unfold atk; have := o2.1; have := o2.2.1; simp; omega, show atk K (oth k x2, K, x2.2.2) = true by unfold atk; simp, show atk K (oth k x3, K + 1, x3.2.2) = false by unfold atk; simp; omega] at cK
  rw [c0 (K + 1) (by omega), show atk (K + 1) x3 = false by unfold atk; have := o3.1; have := o3.2.1; simp; omega, show atk (K + 1) x2 = false by unfold atk; have := o2.1; have := o2.2.1; simp; omega, show atk (K + 1) (oth k x2, K, x2.2.2) = false by unfold atk; simp; omega, show atk (K + 1) (oth k x3, K + 1, x3.2.2) = true by unfold atk; simp] at cK1
  simp at ck cK cK1
  unfold grown add3
  generalize (L.set t2 (oth k x2, K, x2.2.2)).set t3 (oth k x3, K + 1, x3.2.2) = M at *
  have ends : ∀ (a b j : Nat), atk j (a, b, 3) = true → j = a ∨ j = b := fun a b j h => by unfold atk at h; simp at h; omega
  have V1 : WL (K + 2) (M ++ [(k, K, 3)]) := by
    refine W2.app (Nat.le_refl _) hK ⟨hk, by show K < K + 2; omega, Nat.le_refl 3⟩ (fun y hy => ?_) (fun j hj => ?_)
    · have := mem2 y hy
      unfold apart
      show ¬ (y.1 = k ∧ y.2.1 = K)
      omega
    · rcases ends k K j hj with rfl | rfl <;> omega
  have V2 : WL (K + 2) (M ++ [(k, K, 3)] ++ [(k, K + 1, 3)]) := by
    refine V1.app (Nat.le_refl _) hK ⟨by show k < K + 1; omega, by show K + 1 < K + 2; omega, Nat.le_refl 3⟩ (fun y hy => ?_) (fun j hj => ?_)
    · rw [List.mem_append, List.mem_singleton] at hy
      unfold apart
      show ¬ (y.1 = k ∧ y.2.1 = K + 1)
      rcases hy with g | g
      · have := mem2 y g; omega
      · rw [g]; show ¬ (k = k ∧ K = K + 1); omega
    · rw [cnt_app]
      rcases ends k (K + 1) j hj with rfl | rfl
      · rw [show atk j (j, K, 3) = true by unfold atk; simp]; simp; omega
      · rw [show atk (K + 1) (k, K, 3) = false by unfold atk; simp; omega]; simp; omega
  refine V2.app (Nat.le_refl _) hK ⟨by show K < K + 1; omega, by show K + 1 < K + 2; omega, Nat.le_refl 3⟩ (fun y hy => ?_) (fun j hj => ?_)
  · rw [List.mem_append, List.mem_singleton, List.mem_append, List.mem_singleton] at hy
    unfold apart
    show ¬ (y.1 = K ∧ y.2.1 = K + 1)
    rcases hy with (g | g) | g
    · have := mem2 y g; omega
    · rw [g]; show ¬ (k = K ∧ K = K + 1); omega
    · rw [g]; show ¬ (k = K ∧ K + 1 = K + 1); omega
  · rw [cnt_app, cnt_app]
    rcases ends K (K + 1) j hj with rfl | rfl
    · rw [show atk j (k, j, 3) = true by unfold atk; simp, show atk j (k, j + 1, 3) = false by unfold atk; simp; omega]; simp; omega
    · rw [show atk (K + 1) (k, K, 3) = false by unfold atk; simp; omega, show atk (K + 1) (k, K + 1, 3) = true by unfold atk; simp]; simp; omega
end
-- 55.join.lean.txt
section
/-! pure: growing and joining, by both classes -/
theorem oth_lt {K k : Nat} {x : TH} (h : okx K x) : oth k x < K := by
  obtain ⟨h1, h2, -⟩ := h
  unfold oth
  split <;> omega
theorem x_addKnots {N K : Nat} (hK : K + 2 ≤ 14) : m_X2_addKnots N (nI K) 2 = some (nI (K + 2)) := by
  unfold m_X2_addKnots mni
  simp only [nm]
  have e : nI K + 2 = nI (K + 2) := nI_add K 2
  rw [e, if_neg (show ¬ (14 : Int32) < nI (K + 2) from nI_nlt (b := K + 2) (a := 14) (by omega) (by omega))]
theorem x_tie2 {N a b : Nat} {L : List TH} {e c : Nat → Int32} (hT : L.length ≤ 20) (hab : a < b) (h : XL L e c) : ∃ e' c', m_X2_tie N (nI L.length) e c (nI (2 ^ a) ||| nI (2 ^ b)) = some (nI (L ++ [(a, b, 3)]).length, e', c') ∧ XL (L ++ [(a, b, 3)]) e' c' := x_tie hT h (by rw [nor, or_bit (p2lt hab)])
theorem len_add3 (L : List TH) (a b c : TH) : (add3 L a b c).length = L.length + 3 := by simp [add3]
theorem x_add3 {N a1 b1 a2 b2 a3 b3 : Nat} {L : List TH} {e c : Nat → Int32} (hT : L.length ≤ 18) (h1 : a1 < b1) (h2 : a2 < b2) (h3 : a3 < b3) (h : XL L e c) : ∃ t1 e1 c1 t2 e2 c2 e3 c3, m_X2_tie N (nI L.length) e c (nI (2 ^ a1) ||| nI (2 ^ b1)) = some (t1, e1, c1) ∧ m_X2_tie N t1 e1 c1 (nI (2 ^ a2) ||| nI (2 ^ b2)) = some (t2, e2, c2) ∧ m_X2_tie N t2 e2 c2 (nI (2 ^ a3) ||| nI (2 ^ b3)) = some (nI (add3 L (a1, b1, 3) (a2, b2, 3) (a3, b3, 3)).length, e3, c3) ∧ XL (add3 L (a1, b1, 3) (a2, b2, 3) (a3, b3, 3)) e3 c3 := by
  obtain ⟨e1, c1, g1, x1⟩ := x_tie2 (N := N) (by omega) h1 h
  obtain ⟨e2, c2, g2, x2⟩ := x_tie2 (N := N) (by simp; omega) h2 x1
  obtain ⟨e3, c3, g3, x3⟩ := x_tie2 (N := N) (by simp; omega) h3 x2
  exact ⟨_, e1, c1, _, e2, c2, e3, c3, g1, g2, g3, x3⟩
theorem m_add3 {N K a1 b1 a2 b2 a3 b3 : Nat} {L : List TH} {s : Nat → Int32} (hT : L.length ≤ 18) (h1 : a1 < 14) (g1 : b1 < 14) (h2 : a2 < 14) (g2 : b2 < 14) (h3 : a3 < 14) (g3 : b3 < 14) (h : ML K L s) : ∃ s1 s2 s3, m_X7_adds N s (nI a1) (nI b1) = some s1 ∧ m_X7_adds N s1 (nI a2) (nI b2) = some s2 ∧ m_X7_adds N s2 (nI a3) (nI b3) = some s3 ∧ ML K (add3 L (min a1 b1, max a1 b1, 3) (min a2 b2, max a2 b2, 3) (min a3 b3, max a3 b3, 3)) s3 := by
  obtain ⟨s1, q1, x1⟩ := m_adds (N := N) (a := a1) (b := b1) (by omega) h (by omega) (by omega)
  obtain ⟨s2, q2, x2⟩ := m_adds (N := N) (a := a2) (b := b2) (by simp; omega) x1 (by omega) (by omega)
  obtain ⟨s3, q3, x3⟩ := m_adds (N := N) (a := a3) (b := b3) (by simp; omega) x2 (by omega) (by omega)
  exact ⟨s1, s2, s3, q1, q2, q3, x3⟩
theorem nI_m1 {n : Nat} (h : 0 < n) : nI n - 1 = nI (n - 1) := by
  have := nI_pred (n - 1)
  rw [show n - 1 + 1 = n by omega] at this
  exact this
theorem x_grow {N K k t2 t3 F2 F3 : Nat} {L : List TH} {x2 x3 : TH} {e c : Nat → Int32} (hN : 1000 ≤ N) (hW : WL K L) (hK : K + 2 ≤ 14) (hk : k < K) (hX : XL L e c) (f1 : bs (fun t => atk k (L.getD t (0, 0, 0))) L.length &&& (bs (fun t => atk k (L.getD t (0, 0, 0))) L.length - 1) = F2) (f2 : F2 &&& (F2 - 1) = F3) (p1 : 0 < bs (fun t => atk k (L.getD t (0, 0, 0))) L.length) (p2 : 0 < F2) (p3 : 0 < F3) (l2 : F2 < 2 ^ 21) (l3 : F3 < 2 ^ 21) (i2 : lb 31 F2 = t2) (i3 : lb 31 F3 = t3) (hne : t2 ≠ t3) (h2 : L[t2]? = some x2) (h3 : L[t3]? = some x3) (a2 : atk k x2 = true) (a3 : atk k x3 = true) : ∃ e' c', m_X2_growInto N (nI K) (nI L.length) e c (nI k) = some (nI (K + 2), nI (grown K k t2 t3 x2 x3 L).length, e', c') ∧ XL (grown K k t2 t3 x2 x3 L) e' c' := by
  have h21 := hW.len21
  have hlen := hW.len
  have o2 := hW.2.1 x2 (List.mem_of_getElem? h2)
  have o3 := hW.2.1 x3 (List.mem_of_getElem? h3)
  have b2 := oth_lt (k := k) o2
  have b3 := oth_lt (k := k) o3
  have lt2 := lt_of h2
  have lt3 := lt_of h3
  have m2 := x_moveEnd (N := N) (m := K) h21 hX h2 o2 a2 (Nat.le_refl K) (by omega)
  have X1 : XL (L.set t2 (oth k x2, K, x2.2.2)) (upd e t2 (nI (2 ^ oth k x2 + 2 ^ K))) c := XL_set hX lt2 rfl (fun y hy => by rw [h2] at hy; cases hy; rfl)
  have h3' : (L.set t2 (oth k x2, K, x2.2.2))[t3]? = some x3 := by rw [List.getElem?_set, if_neg hne]; exact h3
  have m3 := x_moveEnd (N := N) (m := K + 1) (by rw [List.length_set]; exact h21) X1 h3' o3 a3 (by omega) (by omega)
  have X2 : XL ((L.set t2 (oth k x2, K, x2.2.2)).set t3 (oth k x3, K + 1, x3.2.2)) (upd (upd e t2 (nI (2 ^ oth k x2 + 2 ^ K))) t3 (nI (2 ^ oth k x3 + 2 ^ (K + 1)))) c := XL_set X1 (by rw [List.length_set]; exact lt3) rfl (fun y hy => by rw [h3'] at hy; cases hy; rfl)
  obtain ⟨u1, v1, w1, u2, v2, w2, v3, w3, q1, q2, q3, X3⟩ := x_add3 (N := N) (a1 := k) (b1 := K) (a2 := k) (b2 := K + 1) (a3 := K) (b3 := K + 1) (by rw [List.length_set, List.length_set]; omega) hk (by omega) (by omega) X2
  rw [List.length_set, List.length_set] at q1
  refine ⟨v3, w3, ?_, X3⟩
  have hXE := XL_iff.mp hX
  have bsE : bs (fun t => isat (fl L) (fh L) t k) L.length = bs (fun t => atk k (L.getD t (0, 0, 0))) L.length := rfl
  have e1 : nI K + 1 = nI (K + 1) := nI_add K 1
  unfold m_X2_growInto
  simp only [nm]
  rw [m_bit (by omega), r_bind, x_threadsAt1 hN hW.wt hXE.1 (by omega), r_bind, bsE, nI_m1 p1, nand, f1, nI_m1 p2, nand, f2, x_addKnots hK, r_bind, m_ntz (by omega) p2, r_bind, i2, m2, r_bind, m_ntz (by omega) p3, r_bind, i3, e1, m3, r_bind, r_bind, m_bit (by omega), r_bind, q1, r_bind, r_bind, m_bit (by omega), r_bind, q2]
  simp only [r_bind]
  rw [q3]
  rfl
theorem m_threadAt {N K k : Nat} {L : List TH} {s : Nat → Int32} {F2 F3 t2 t3 : Nat} (hN : 1000 ≤ N) (hW : WL K L) (hk : k < K) (hM : ML K L s) (f1 : bs (fun t => atk k (L.getD t (0, 0, 0))) L.length &&& (bs (fun t => atk k (L.getD t (0, 0, 0))) L.length - 1) = F2) (f2 : F2 &&& (F2 - 1) = F3) (p1 : 0 < bs (fun t => atk k (L.getD t (0, 0, 0))) L.length) (p2 : 0 < F2) (p3 : 0 < F3) (l2 : F2 < 2 ^ 21) (l3 : F3 < 2 ^ 21) (i2 : lb 31 F2 = t2) (i3 : lb 31 F3 = t3) : m_X7_threadAt N s (nI k) 1 = some (nI t2) ∧ m_X7_threadAt N s (nI k) 2 = some (nI t3) := by
  have hK := hW.1
  have bsE : bs (fun t => isat (fl L) (fh L) t k) L.length = bs (fun t => atk k (L.getD t (0, 0, 0))) L.length := rfl
  obtain ⟨n, hn⟩ : ∃ m, N = m + 3 := ⟨N - 3, by omega⟩
  have c1 : (nI 0 + 1) = nI 1 := rfl
  have c2 : (nI 1 + 1) = nI 2 := rfl
  constructor
  · unfold m_X7_threadAt
    rw [m_threadsOf hN hW.wt (ML_iff.mp hM) (by omega), r_bind, bsE]
    simp only [jn]
    have : ∀ J, m_X7_threadAt_L9 N 1 J N 0 (nI (bs (fun t => atk k (L.getD t (0, 0, 0))) L.length)) = J (nI F2) := by
      intro J
      rw [show m_X7_threadAt_L9 N 1 J N 0 = m_X7_threadAt_L9 N 1 J (n + 3) (nI 0) by rw [← hn]; rfl]
      rw [m_X7_threadAt_L9, if_neg (show ¬ (1 : Int32) ≤ nI 0 by decide)]
      simp only [nm]
      rw [nI_m1 p1, nand, f1, c1, m_X7_threadAt_L9, if_pos (show (1 : Int32) ≤ nI 1 by decide)]
    rw [this, m_lowest hN (by omega) p2, r_bind, i2]
  · unfold m_X7_threadAt
    rw [m_threadsOf hN hW.wt (ML_iff.mp hM) (by omega), r_bind, bsE]
    simp only [jn]
    have : ∀ J, m_X7_threadAt_L9 N 2 J N 0 (nI (bs (fun t => atk k (L.getD t (0, 0, 0))) L.length)) = J (nI F3) := by
      intro J
      rw [show m_X7_threadAt_L9 N 2 J N 0 = m_X7_threadAt_L9 N 2 J (n + 3) (nI 0) by rw [← hn]; rfl]
      rw [m_X7_threadAt_L9, if_neg (show ¬ (2 : Int32) ≤ nI 0 by decide)]
      simp only [nm]
      rw [nI_m1 p1, nand, f1, c1, m_X7_threadAt_L9, if_neg (show ¬ (2 : Int32) ≤ nI 1 by decide)]
      simp only [nm]
      rw [nI_m1 p2, nand, f2, c2, m_X7_threadAt_L9, if_pos (show (2 : Int32) ≤ nI 2 by decide)]
    rw [this, m_lowest hN (by omega) p3, r_bind, i3]
/-- what is read of a thread of the list -/
theorem ml_0 {N K t : Nat} {L : List TH} {s : Nat → Int32} {x : TH} (hT : L.length ≤ 21) (hM : ML K L s) (hx : L[t]? = some x) : m_X7_of N s (nI t) 0 = some (nI x.1) := by
  have := m_of (N := N) (s := s) (t := t) (w := 0) (by have := lt_of hx; omega) (by omega)
  rw [show 2 + 3 * t + 0 = 2 + 3 * t from rfl, (hM.2.2 t x hx).1] at this
  exact this
theorem ml_1 {N K t : Nat} {L : List TH} {s : Nat → Int32} {x : TH} (hT : L.length ≤ 21) (hM : ML K L s) (hx : L[t]? = some x) : m_X7_of N s (nI t) 1 = some (nI x.2.1) := by
  have := m_of (N := N) (s := s) (t := t) (w := 1) (by have := lt_of hx; omega) (by omega)
  rw [(hM.2.2 t x hx).2.1] at this
  exact this
theorem ml_2 {N K t : Nat} {L : List TH} {s : Nat → Int32} {x : TH} (hT : L.length ≤ 21) (hM : ML K L s) (hx : L[t]? = some x) : m_X7_of N s (nI t) 2 = some (nI x.2.2) := by
  have := m_of (N := N) (s := s) (t := t) (w := 2) (by have := lt_of hx; omega) (by omega)
  rw [(hM.2.2 t x hx).2.2] at this
  exact this
theorem ml_across {N K t k : Nat} {L : List TH} {s : Nat → Int32} {x : TH} (hT : L.length ≤ 21) (hM : ML K L s) (hx : L[t]? = some x) (ho : okx 14 x) (hk : k < 14) : m_X7_across N s (nI t) (nI k) = some (nI (oth k x)) := by
  unfold m_X7_across oth
  rw [ml_0 hT hM hx, r_bind, ml_1 hT hM hx]
  obtain ⟨h1, h2, -⟩ := ho
  by_cases q : x.1 = k
  · rw [if_pos (by rw [q]), r_bind, if_pos q]
  · rw [if_neg (fun g => q ((nI_eq (by omega) (by omega)).mp g)), r_bind, if_neg q]
theorem okx.le {K K' : Nat} {x : TH} (h : okx K x) (hK : K ≤ K') : okx K' x := ⟨h.1, by have := h.2.1; omega, h.2.2⟩
-- joining
def joined (K t1 t2 : Nat) (x1 x2 : TH) (L : List TH) : List TH := add3 ((L.set t1 (x1.1, K, x1.2.2)).set t2 (x2.1, K + 1, x2.2.2)) (x1.2.1, K, 3) (x2.2.1, K + 1, 3) (K, K + 1, 3)
theorem oth_hi {K : Nat} {x : TH} (h : okx K x) : oth x.2.1 x = x.1 := by
  obtain ⟨h1, -, -⟩ := h
  unfold oth
  rw [if_neg (by omega)]
theorem atk_hi (x : TH) : atk x.2.1 x = true := by unfold atk; simp
theorem WL.join {K t1 t2 : Nat} {L : List TH} {x1 x2 : TH} (hW : WL K L) (hK : K + 2 ≤ 14) (hne : t1 ≠ t2) (h1 : L[t1]? = some x1) (h2 : L[t2]? = some x2) : WL (K + 2) (joined K t1 t2 x1 x2 L) := by
  have o1 := hW.2.1 x1 (List.mem_of_getElem? h1)
  have o2 := hW.2.1 x2 (List.mem_of_getElem? h2)
  have W0 := hW.more (K' := K + 2) (by omega) hK
  have f0 : ∀ z ∈ L, z.1 < K ∧ z.2.1 < K := fun z hz => by obtain ⟨p, q, -⟩ := hW.2.1 z hz; omega
  have W1 := W0.move h1 (atk_hi x1) (m := K) (by omega) f0
  have m1 := fun j => cnt_move (k := x1.2.1) (m := K) (j := j) h1
  rw [oth_hi o1] at W1 m1
  have h2' : (L.set t1 (x1.1, K, x1.2.2))[t2]? = some x2 := by rw [List.getElem?_set, if_neg hne]; exact h2
  have f1 : ∀ z ∈ L.set t1 (x1.1, K, x1.2.2), z.1 < K + 1 ∧ z.2.1 < K + 1 := fun z hz => by
    rcases List.mem_or_eq_of_mem_set hz with g | g
    · have := f0 z g; omega
    · rw [g]; obtain ⟨p, q, -⟩ := o1; exact ⟨by show x1.1 < K + 1; omega, by show K < K + 1; omega⟩
  have W2 := W1.move h2' (atk_hi x2) (m := K + 1) (by omega) f1
  have m2 := fun j => cnt_move (k := x2.2.1) (m := K + 1) (j := j) h2'
  rw [oth_hi o2] at W2 m2
  obtain ⟨p1, p2, -⟩ := o1
  obtain ⟨r1, r2, -⟩ := o2
  have mem2 : ∀ z ∈ (L.set t1 (x1.1, K, x1.2.2)).set t2 (x2.1, K + 1, x2.2.2), (z.1 < K ∧ z.2.1 < K) ∨ (z.1 = x1.1 ∧ z.2.1 = K) ∨ (z.1 = x2.1 ∧ z.2.1 = K + 1) := fun z hz => by
    rcases List.mem_or_eq_of_mem_set hz with g | g
    · rcases List.mem_or_eq_of_mem_set g with g | g
      · exact Or.inl (f0 z g)
      · rw [g]; exact Or.inr (Or.inl ⟨rfl, rfl⟩)
    · rw [g]; exact Or.inr (Or.inr ⟨rfl, rfl⟩)
  have c : ∀ j, ((L.set t1 (x1.1, K, x1.2.2)).set t2 (x2.1, K + 1, x2.2.2)).countP (atk j) + (if atk j x2 then 1 else 0) + (if atk j x1 then 1 else 0) = L.countP (atk j) + (if atk j (x1.1, K, x1.2.2) then 1 else 0) + (if atk j (x2.1, K + 1, x2.2.2) then 1 else 0) := fun j => by
    have e1 := m1 j
    have e2 := m2 j
    omega
  have c0 : ∀ j, K ≤ j → L.countP (atk j) = 0 := fun j hj => by
    rw [List.countP_eq_zero]
    intro z hz
    have := f0 z hz
    unfold atk
    simp
    omega
  have l3 := hW.2.2.2
  have ce : ∀ j, j < K → ((L.set t1 (x1.1, K, x1.2.2)).set t2 (x2.1, K + 1, x2.2.2)).countP (atk j) + (if x2.2.1 = j then 1 else 0) + (if x1.2.1 = j then 1 else 0) ≤ 3 := fun j hj => by
    have a := c j
    have b := l3 j
    unfold atk at a b ⊢
    simp only [Bool.or_eq_true, beq_iff_eq] at a ⊢
    split <;> split <;> split at a <;> split at a <;> split at a <;> split at a <;> omega
  have cK : ((L.set t1 (x1.1, K, x1.2.2)).set t2 (x2.1, K + 1, x2.2.2)).countP (atk K) ≤ 1 := by
    have a := c K
    rw [c0 K (Nat.le_refl K), show atk K x2 = false by unfold atk; simp; omega, show atk K x1 = false by unfold atk; simp; omega, show atk K (x1.1, K, x1.2.2) = true by unfold atk; simp, show atk K (x2.1, K + 1, x2.2.2) = false by unfold atk; simp; omega] at a
    simp at a
    omega
  have cK1 : ((L.set t1 (x1.1, K, x1.2.2)).set t2 (x2.1, K + 1, x2.2.2)).countP (atk (K + 1)) ≤ 1 := by
    have a := c (K + 1)
    rw [c0 (K + 1) (by omega), show atk (K + 1) x2 = false by unfold atk; simp; omega, show atk (K + 1) x1 = false by unfold atk; simp; omega, show atk (K + 1) (x2.1, K + 1, x2.2.2) = true by unfold atk; simp, show atk (K + 1) (x1.1, K, x1.2.2) = false by unfold atk; simp; omega] at a
    simp at a
    omega
  unfold joined add3
  generalize (L.set t1 (x1.1, K, x1.2.2)).set t2 (x2.1, K + 1, x2.2.2) = M at *
  have ends : ∀ (a b j : Nat), atk j (a, b, 3) = true → j = a ∨ j = b := fun a b j h => by unfold atk at h; simp at h; omega
  have V1 : WL (K + 2) (M ++ [(x1.2.1, K, 3)]) := by
    refine W2.app (Nat.le_refl _) hK ⟨p2, by show K < K + 2; omega, Nat.le_refl 3⟩ (fun y hy => ?_) (fun j hj => ?_)
    · have := mem2 y hy
      unfold apart
      show ¬ (y.1 = x1.2.1 ∧ y.2.1 = K)
      omega
    · rcases ends _ K j hj with q | rfl
      · have := ce j (by omega)
        rw [if_pos q.symm] at this
        omega
      · omega
  have V2 : WL (K + 2) (M ++ [(x1.2.1, K, 3)] ++ [(x2.2.1, K + 1, 3)]) := by
    refine V1.app (Nat.le_refl _) hK ⟨by show x2.2.1 < K + 1; omega, by show K + 1 < K + 2; omega, Nat.le_refl 3⟩ (fun y hy => ?_) (fun j hj => ?_)
    · rw [List.mem_append, List.mem_singleton] at hy
      unfold apart
      show ¬ (y.1 = x2.2.1 ∧ y.2.1 = K + 1)
      rcases hy with g | g
      · have := mem2 y g; omega
      · rw [g]; show ¬ (x1.2.1 = x2.2.1 ∧ K = K + 1); omega
    · rw [cnt_app]
      rcases ends _ (K + 1) j hj with q | rfl
      · have := ce j (by omega)
        rw [if_pos q.symm] at this
        unfold atk at *
        simp only [Bool.or_eq_true, beq_iff_eq]
        split <;> split at this <;> omega
      · rw [show atk (K + 1) (x1.2.1, K, 3) = false by unfold atk; simp; omega]; simp; omega
  refine V2.app (Nat.le_refl _) hK ⟨by show K < K + 1; omega, by show K + 1 < K + 2; omega, Nat.le_refl 3⟩ (fun y hy => ?_) (fun j hj => ?_)
  · rw [List.mem_append, List.mem_singleton, List.mem_append, List.mem_singleton] at hy
    unfold apart
    show ¬ (y.1 = K ∧ y.2.1 = K + 1)
    rcases hy with (g | g) | g
    · have := mem2 y g; omega
    · rw [g]; show ¬ (x1.2.1 = K ∧ K = K + 1); omega
    · rw [g]; show ¬ (x2.2.1 = K ∧ K + 1 = K + 1); omega
  · rw [cnt_app, cnt_app]
    rcases ends K (K + 1) j hj with rfl | rfl
    · rw [show atk j (x1.2.1, j, 3) = true by unfold atk; simp, show atk j (x2.2.1, j + 1, 3) = false by unfold atk; simp; omega]; simp; omega
    · rw [show atk (K + 1) (x1.2.1, K, 3) = false by unfold atk; simp; omega, show atk (K + 1) (x2.2.1, K + 1, 3) = true by unfold atk; simp]; simp; omega
theorem x_join {N K t1 t2 : Nat} {L : List TH} {x1 x2 : TH} {e c : Nat → Int32} (hN : 1000 ≤ N) (hW : WL K L) (hK : K + 2 ≤ 14) (hX : XL L e c) (hne : t1 ≠ t2) (h1 : L[t1]? = some x1) (h2 : L[t2]? = some x2) : ∃ e' c', m_X2_bridgeOver N (nI K) (nI L.length) e c (nI t1) (nI t2) = some (nI (K + 2), nI (joined K t1 t2 x1 x2 L).length, e', c') ∧ XL (joined K t1 t2 x1 x2 L) e' c' := by
  have h21 := hW.len21
  have hlen := hW.len
  have o1 := hW.2.1 x1 (List.mem_of_getElem? h1)
  have o2 := hW.2.1 x2 (List.mem_of_getElem? h2)
  have lt1 := lt_of h1
  have lt2 := lt_of h2
  have m1 := x_moveEnd (N := N) (m := K) h21 hX h1 o1 (atk_hi x1) (Nat.le_refl K) (by omega)
  rw [oth_hi o1] at m1
  have X1 : XL (L.set t1 (x1.1, K, x1.2.2)) (upd e t1 (nI (2 ^ x1.1 + 2 ^ K))) c := XL_set hX lt1 rfl (fun y hy => by rw [h1] at hy; cases hy; rfl)
  have h2' : (L.set t1 (x1.1, K, x1.2.2))[t2]? = some x2 := by rw [List.getElem?_set, if_neg hne]; exact h2
  have m2 := x_moveEnd (N := N) (m := K + 1) (by rw [List.length_set]; exact h21) X1 h2' o2 (atk_hi x2) (by omega) (by omega)
  rw [oth_hi o2] at m2
  have X2 : XL ((L.set t1 (x1.1, K, x1.2.2)).set t2 (x2.1, K + 1, x2.2.2)) (upd (upd e t1 (nI (2 ^ x1.1 + 2 ^ K))) t2 (nI (2 ^ x2.1 + 2 ^ (K + 1)))) c := XL_set X1 (by rw [List.length_set]; exact lt2) rfl (fun y hy => by rw [h2'] at hy; cases hy; rfl)
  obtain ⟨u1, v1, w1, u2, v2, w2, v3, w3, q1, q2, q3, X3⟩ := x_add3 (N := N) (a1 := x1.2.1) (b1 := K) (a2 := x2.2.1) (b2 := K + 1) (a3 := K) (b3 := K + 1) (by rw [List.length_set, List.length_set]; omega) o1.2.1 (by have := o2.2.1; omega) (by omega) X2
  rw [List.length_set, List.length_set] at q1
  refine ⟨v3, w3, ?_, X3⟩
  have hXE := XL_iff.mp hX
  have e1 : nI K + 1 = nI (K + 1) := nI_add K 1
  have g1 : m_X2_greaterKnot N e (nI t1) = some (nI x1.2.1) := by
    have := x_greater (N := N) hW.wt hXE.1 lt1
    unfold fh at this
    rw [getD_some h1] at this
    exact this
  have g2 : m_X2_greaterKnot N e (nI t2) = some (nI x2.2.1) := by
    have := x_greater (N := N) hW.wt hXE.1 lt2
    unfold fh at this
    rw [getD_some h2] at this
    exact this
  have oc : ∀ a b, nI (2 ^ a) ||| nI (2 ^ b) = nI (2 ^ b) ||| nI (2 ^ a) := fun a b => by rw [nor, nor, Nat.or_comm]
  have y1 := o1.2.1
  have y2 := o2.2.1
  unfold m_X2_bridgeOver
  simp only [nm]
  rw [g1, r_bind, g2, r_bind, x_addKnots hK, r_bind, m1, r_bind, e1, m2, r_bind, m_bit (by omega), r_bind, m_bit (by omega), r_bind, oc K, q1]
  simp only [r_bind]
  rw [m_bit (by omega), r_bind, m_bit (by omega), r_bind, oc (K + 1), q2]
  simp only [r_bind]
  rw [q3]
  rfl
end
-- 56.counts.lean.txt
section
-- how many
theorem ct_s (p : Nat → Bool) (n : Nat) : ct p (n + 1) = ct p n + (if p n then 1 else 0) := rfl
theorem nI_le0 {a : Nat} (h : 0 < a) (ha : a < 2 ^ 31) : ¬ nI a ≤ 0 := fun g => nI_ge (a := 0) h ha g
def lacks (T : Nat) (lo hi : Nat → Nat) (k : Nat) : Bool := deg T lo hi k != 3
def fu (K T : Nat) (lo hi : Nat → Nat) (i : Nat) : Bool := decide (0 < K) && !an (lacks T lo hi) i
theorem fu_s (K T : Nat) (lo hi : Nat → Nat) (i : Nat) : fu K T lo hi (i + 1) = (fu K T lo hi i && !lacks T lo hi i) := by
  unfold fu
  rw [show an (lacks T lo hi) (i + 1) = (an (lacks T lo hi) i || lacks T lo hi i) from rfl]
  cases an (lacks T lo hi) i <;> cases lacks T lo hi i <;> simp
theorem m_isFullNet {N K T : Nat} {lo hi co : Nat → Nat} {s : Nat → Int32} (hN : 1000 ≤ N) (hK : K ≤ 14) (hw : wt T lo hi co) (hs : MN K T lo hi co s) : m_X7_isFullNet N s = some (if fu K T lo hi K then 1 else 0) := by
  have hT := hw.1
  have dg : ∀ k, deg T lo hi k ≤ 21 := fun k => Nat.le_trans (ct_le _ _) hT
  unfold m_X7_isFullNet
  rw [r_0 (by decide), hs.1]
  have key : m_X7_isFullNet_L17 N s N (nI 0) (if fu K T lo hi 0 then 1 else 0) = some (if fu K T lo hi K then 1 else 0) := by
    refine for_up (fun n i (acc : Bool) => m_X7_isFullNet_L17 N s n (nI i) (if acc then 1 else 0)) K (fun i => fu K T lo hi i) _ ?_ ?_ K N 0 (by omega) (by omega)
    · intro n
      show m_X7_isFullNet_L17 N s (n + 1) (nI K) (if fu K T lo hi K then 1 else 0) = _
      rw [m_X7_isFullNet_L17, r_0 (by decide), hs.1, if_pos (nI_le (Nat.le_refl _) (by omega)), zb01]
    · intro n i hj
      show m_X7_isFullNet_L17 N s (n + 1) (nI i) (if fu K T lo hi i then 1 else 0) = m_X7_isFullNet_L17 N s n (nI (i + 1)) (if fu K T lo hi (i + 1) then 1 else 0)
      rw [m_X7_isFullNet_L17, r_0 (by decide), hs.1, if_neg (nI_ge hj (by omega)), m_degree hN hw hs (by omega), r_bind, fu_s, nI_1, sel]
      cases fu K T lo hi i with
      | false => simp
      | true =>
        rw [if_pos rfl]
        by_cases q : deg T lo hi i = 3
        · rw [if_pos (by rw [q]; rfl), show lacks T lo hi i = false by unfold lacks; rw [q]; rfl]; rfl
        · rw [if_neg (show ¬ nI (deg T lo hi i) = 3 from fun g => q ((nI_eq (b := 3) (by have := dg i; omega) (by decide)).mp g)), show lacks T lo hi i = true by unfold lacks; simp [q]]; rfl
  rw [← key]
  show (if nI K ≤ 0 then m_X7_isFullNet_L17 N s N 0 0 else m_X7_isFullNet_L17 N s N 0 1) = _
  by_cases q : K = 0
  · have f0 : fu K T lo hi 0 = false := by unfold fu; rw [q]; rfl
    rw [if_pos (show nI K ≤ 0 by rw [q]; decide), f0]; rfl
  · have f1 : fu K T lo hi 0 = true := by unfold fu; rw [decide_eq_true (show 0 < K by omega)]; rfl
    rw [if_neg (nI_le0 (show 0 < K by omega) (by omega)), f1]; rfl
theorem x_isFull {N K T : Nat} {lo hi co : Nat → Nat} {e : Nat → Int32} (hN : 1000 ≤ N) (hw : wf K T lo hi co) (he : XE T lo hi e) : m_X2_isFull N (nI K) (nI T) e = some (if fu K T lo hi K then 1 else 0) := by
  have hK := hw.1
  have key : ∀ (d n i : Nat), i + d = K → d < n → an (lacks T lo hi) i = false → m_X2_isFull_L2 N (nI K) (nI T) e (if nI K ≤ 0 then some 0 else some 1) n (nI i) = some (if fu K T lo hi K then 1 else 0) := by
    intro d
    induction d with
    | zero =>
      intro n i hi' hn hf
      obtain ⟨n, rfl⟩ : ∃ m, n = m + 1 := ⟨n - 1, by omega⟩
      have : i = K := by omega
      subst this
      rw [m_X2_isFull_L2, if_pos (nI_le (Nat.le_refl _) (by omega))]
      unfold fu
      rw [hf]
      by_cases q : i = 0
      · rw [if_pos (show nI i ≤ 0 by rw [q]; decide), q]; rfl
      · rw [if_neg (nI_le0 (show 0 < i by omega) (by omega)), decide_eq_true (show 0 < i by omega)]; rfl
    | succ d ih =>
      intro n i hi' hn hf
      obtain ⟨n, rfl⟩ : ∃ m, n = m + 1 := ⟨n - 1, by omega⟩
      have hj : i < K := by omega
      have d3 := hw.2.2.2.2 i
      rw [m_X2_isFull_L2, if_neg (nI_ge hj (by omega)), x_isFullKnot hN hw.t he (by omega), r_bind]
      by_cases q : deg T lo hi i = 3
      · rw [show (if 3 ≤ deg T lo hi i then (1 : Int32) else 0) = 1 from if_pos (by omega), if_neg (by decide), nI_1]
        refine ih n (i + 1) (by omega) (by omega) ?_
        rw [show an (lacks T lo hi) (i + 1) = (an (lacks T lo hi) i || lacks T lo hi i) from rfl, hf, show lacks T lo hi i = false by unfold lacks; rw [q]; rfl]
        rfl
      · rw [show (if 3 ≤ deg T lo hi i then (1 : Int32) else 0) = 0 from if_neg (by omega), if_pos rfl]
        have : an (lacks T lo hi) K = true := (an_iff _ _).mpr ⟨i, hj, by unfold lacks; simp [q]⟩
        unfold fu
        rw [this]
        simp
  unfold m_X2_isFull jn
  exact key K N 0 (by omega) (by omega) rfl
theorem m_wrongs {N K T : Nat} {lo hi co : Nat → Nat} {s : Nat → Int32} (hN : 1000 ≤ N) (hK : K ≤ 14) (hw : wt T lo hi co) (hs : MN K T lo hi co s) : m_X7_wrongs N s = some (nI (ct (fun k => wr1 lo hi co k T) K)) := by
  unfold m_X7_wrongs
  refine for_up (fun n i acc => m_X7_wrongs_L4 N s n (nI i) (nI acc)) K (fun i => ct (fun k => wr1 lo hi co k T) i) _ ?_ ?_ K N 0 (by omega) (by omega)
  · intro n
    show m_X7_wrongs_L4 N s (n + 1) (nI K) _ = _
    rw [m_X7_wrongs_L4, r_0 (by decide), hs.1, if_pos (nI_le (Nat.le_refl _) (by omega))]
  · intro n i hj
    show m_X7_wrongs_L4 N s (n + 1) (nI i) (nI (ct (fun k => wr1 lo hi co k T) i)) = m_X7_wrongs_L4 N s n (nI (i + 1)) (nI (ct (fun k => wr1 lo hi co k T) (i + 1)))
    rw [m_X7_wrongs_L4, r_0 (by decide), hs.1, if_neg (nI_ge hj (by omega)), m_isWrong hN hw hs (by omega), r_bind, ct_s]
    simp only [nm]
    rw [sel]
    cases wr1 lo hi co i T with
    | false => rw [if_neg (by decide), if_neg (by decide), nI_1, Int32.add_zero]; rfl
    | true => rw [if_pos rfl, if_pos rfl, nI_1, nI_1]
theorem x_wrongs {N K T : Nat} {lo hi co : Nat → Nat} {e c : Nat → Int32} (hN : 1000 ≤ N) (hK : K ≤ 14) (hw : wt T lo hi co) (he : XE T lo hi e) (hc : XC T co c) : m_X2_wrongKnots N (nI K) (nI T) e c = some (nI (ct (fun k => wr1 lo hi co k T) K)) := by
  unfold m_X2_wrongKnots
  refine for_up (fun n i acc => m_X2_wrongKnots_L4 N (nI K) (nI T) e c n (nI i) (nI acc)) K (fun i => ct (fun k => wr1 lo hi co k T) i) _ ?_ ?_ K N 0 (by omega) (by omega)
  · intro n
    show m_X2_wrongKnots_L4 N (nI K) (nI T) e c (n + 1) (nI K) _ = _
    rw [m_X2_wrongKnots_L4, if_pos (nI_le (Nat.le_refl _) (by omega))]
  · intro n i hj
    show m_X2_wrongKnots_L4 N (nI K) (nI T) e c (n + 1) (nI i) (nI (ct (fun k => wr1 lo hi co k T) i)) = m_X2_wrongKnots_L4 N (nI K) (nI T) e c n (nI (i + 1)) (nI (ct (fun k => wr1 lo hi co k T) (i + 1)))
    rw [m_X2_wrongKnots_L4, if_neg (nI_ge hj (by omega)), x_isWrong hN hw he hc (by omega), r_bind, ct_s, sel]
    cases wr1 lo hi co i T with
    | false => rw [if_neg (by decide), if_neg (by decide), nI_1]; rfl
    | true => rw [if_pos rfl, if_pos rfl, nI_1, nI_1]
theorem m_plainOnes {N K T : Nat} {lo hi co : Nat → Nat} {s : Nat → Int32} (hN : 1000 ≤ N) (hw : wt T lo hi co) (hs : MN K T lo hi co s) : m_X7_plainOnes N s = some (nI (ct (fun t => co t == 3) T)) := by
  have hT := hw.1
  unfold m_X7_plainOnes
  refine for_up (fun n i acc => m_X7_plainOnes_L4 N s n (nI i) (nI acc)) T (fun i => ct (fun t => co t == 3) i) _ ?_ ?_ T N 0 (by omega) (by omega)
  · intro n
    show m_X7_plainOnes_L4 N s (n + 1) (nI T) _ = _
    rw [m_X7_plainOnes_L4, r_1 (by decide), hs.2.1, if_pos (nI_le (Nat.le_refl _) (by omega))]
  · intro n i hj
    show m_X7_plainOnes_L4 N s (n + 1) (nI i) (nI (ct (fun t => co t == 3) i)) = m_X7_plainOnes_L4 N s n (nI (i + 1)) (nI (ct (fun t => co t == 3) (i + 1)))
    have h3 := (hw.2 i hj).2.2
    rw [m_X7_plainOnes_L4, r_1 (by decide), hs.2.1, if_neg (nI_ge hj (by omega)), m_of2 hT hs hj, r_bind, ct_s]
    simp only [nm]
    by_cases q : co i = 3
    · rw [if_pos (by rw [q]; rfl), nI_1, nI_1, q]; rfl
    · rw [if_neg (fun g => q ((nI3 (by omega)).mp g)), nI_1, Int32.add_zero, show (co i == 3) = false by simp [q]]; rfl
theorem x_plain {N T : Nat} {co : Nat → Nat} {c : Nat → Int32} (hN : 1000 ≤ N) (hT : T ≤ 21) (hc : XC T co c) (hco : ∀ i, i < T → co i ≤ 3) : Option.bind (m_X2_coloured N (nI T) c 3) (fun r => m_J6_bitCount_0f7a4 N r) = some (nI (ct (fun t => co t == 3) T)) := by
  rw [show (3 : Int32) = nI 3 from rfl, x_coloured hN hT hc (by decide) hco, r_bind]
  have l := bs_lt (fun t => co t == 3) T
  have p := Nat.pow_le_pow_right (show 0 < 2 by decide) hT
  rw [m_bitCount (by omega), pop_bs _ 24 T (by omega)]
end
-- 57.recolour.lean.txt
section
-- a loop with an invariant
theorem for_inv {α β : Type} (F : Nat → Nat → α → Option β) (P : Nat → α → Prop) (T : Nat) (G : α → Option β) (hend : ∀ n a, P T a → F (n + 1) T a = G a) (hstep : ∀ n i a, i < T → P i a → ∃ a', F (n + 1) i a = F n (i + 1) a' ∧ P (i + 1) a') : ∀ (d n i : Nat) (a : α), i + d = T → d < n → P i a → ∃ a', P T a' ∧ F n i a = G a' := by
  intro d
  induction d with
  | zero =>
    intro n i a hi hn hP
    obtain ⟨n, rfl⟩ : ∃ m, n = m + 1 := ⟨n - 1, by omega⟩
    have : i = T := by omega
    subst this
    exact ⟨a, hP, hend n a hP⟩
  | succ d ih =>
    intro n i a hi hn hP
    obtain ⟨n, rfl⟩ : ∃ m, n = m + 1 := ⟨n - 1, by omega⟩
    obtain ⟨a', h1, h2⟩ := hstep n i a (by omega) hP
    obtain ⟨a2, h3, h4⟩ := ih n (i + 1) a' (by omega) (by omega) h2
    exact ⟨a2, h3, by rw [h1, h4]⟩
-- the first i threads have new colours
def rc (f : Nat → Nat) (i : Nat) (L : List TH) : List TH := L.mapIdx (fun j x => if j < i then (x.1, x.2.1, f j) else x)
theorem rc_at (f : Nat → Nat) (i : Nat) (L : List TH) (j : Nat) : (rc f i L)[j]? = (L[j]?).map (fun x => if j < i then (x.1, x.2.1, f j) else x) := List.getElem?_mapIdx
theorem rc_len (f : Nat → Nat) (i : Nat) (L : List TH) : (rc f i L).length = L.length := List.length_mapIdx
theorem rc_0 (f : Nat → Nat) (L : List TH) : rc f 0 L = L := by
  apply List.ext_getElem?
  intro j
  rw [rc_at]
  cases L[j]? <;> simp
theorem rc_s {f : Nat → Nat} {i : Nat} {L : List TH} {x : TH} (h : L[i]? = some x) : rc f (i + 1) L = (rc f i L).set i (x.1, x.2.1, f i) := by
  apply List.ext_getElem?
  intro j
  rw [rc_at, List.getElem?_set, rc_at, rc_len]
  by_cases q : i = j
  · subst q
    rw [if_pos rfl, if_pos (lt_of h), h]
    simp
  · rw [if_neg q]
    cases L[j]? with
    | none => rfl
    | some y =>
      simp only [Option.map_some]
      by_cases g : j < i
      · rw [if_pos g, if_pos (by omega)]
      · rw [if_neg g, if_neg (by omega)]
theorem rc_i {f : Nat → Nat} {i : Nat} {L : List TH} {x : TH} (h : L[i]? = some x) : (rc f i L)[i]? = some x := by
  rw [rc_at, h]
  simp
theorem rc_same {f : Nat → Nat} {i : Nat} {L : List TH} {x : TH} (h : L[i]? = some x) (e : f i = x.2.2) : rc f (i + 1) L = rc f i L := by
  rw [rc_s h, e]
  apply List.ext_getElem?
  intro j
  rw [List.getElem?_set]
  by_cases q : i = j
  · subst q
    rw [if_pos rfl, rc_len, if_pos (lt_of h), rc_i h]
  · rw [if_neg q]
def en (x : TH) : Nat × Nat := (x.1, x.2.1)
theorem rc_en (f : Nat → Nat) (i : Nat) (L : List TH) : (rc f i L).map en = L.map en := by
  apply List.ext_getElem?
  intro j
  rw [List.getElem?_map, List.getElem?_map, rc_at]
  cases L[j]? with
  | none => rfl
  | some y =>
    simp only [Option.map_some]
    split <;> rfl
theorem WL.recol {K : Nat} {L L' : List TH} (h : WL K L) (e : L'.map en = L.map en) (hc : ∀ x ∈ L', x.2.2 ≤ 3) : WL K L' := by
  refine ⟨h.1, fun x hx => ?_, ?_, fun k => ?_⟩
  · have : en x ∈ L'.map en := List.mem_map_of_mem hx
    rw [e, List.mem_map] at this
    obtain ⟨y, hy, g⟩ := this
    have o := h.2.1 y hy
    have g1 : y.1 = x.1 := congrArg (fun p : Nat × Nat => p.1) g
    have g2 : y.2.1 = x.2.1 := congrArg (fun p : Nat × Nat => p.2) g
    exact ⟨by rw [← g1, ← g2]; exact o.1, by rw [← g2]; exact o.2.1, hc x hx⟩
  · have p : (L.map en).Pairwise (fun a b => ¬ (a.1 = b.1 ∧ a.2 = b.2)) := List.pairwise_map.mpr h.2.2.1
    rw [← e] at p
    exact (List.pairwise_map (f := en) (R := fun a b => ¬ (a.1 = b.1 ∧ a.2 = b.2))).mp p
  · have p : ∀ M : List TH, M.countP (atk k) = (M.map en).countP (fun a => a.1 == k || a.2 == k) := fun M => by rw [List.countP_map]; rfl
    rw [p, e, ← p]
    exact h.2.2.2 k
theorem WL.rc {K i : Nat} {L : List TH} {f : Nat → Nat} (h : WL K L) (hf : ∀ j, j < L.length → f j ≤ 3) : WL K (rc f i L) := by
  refine h.recol (rc_en f i L) (fun x hx => ?_)
  obtain ⟨j, hj⟩ := List.mem_iff_getElem?.mp hx
  rw [rc_at] at hj
  cases q : L[j]? with
  | none => rw [q] at hj; cases hj
  | some y =>
    rw [q] at hj
    simp only [Option.map_some, Option.some.injEq] at hj
    rw [← hj]
    split
    · exact hf j (lt_of q)
    · exact (h.2.1 y (List.mem_of_getElem? q)).2.2
theorem XL_rc {f : Nat → Nat} {i : Nat} {L : List TH} {e c : Nat → Int32} {x : TH} (h : XL (rc f i L) e c) (hx : L[i]? = some x) : XL (rc f (i + 1) L) e (upd c i (nI (f i))) := by
  rw [rc_s hx]
  exact XL_col h (rc_i hx)
theorem ML_rc {K : Nat} {f : Nat → Nat} {i : Nat} {L : List TH} {s : Nat → Int32} {x : TH} (h : ML K (rc f i L) s) (hx : L[i]? = some x) : ML K (rc f (i + 1) L) (upd s (2 + 3 * i + 2) (nI (f i))) := by
  rw [rc_s hx]
  exact ML_col h (rc_i hx)
-- two colours change places on a set
def swp (C a b : Nat) (L : List TH) : Nat → Nat := fun j => if C.testBit j then (if fc L j = a then b else a) else fc L j
theorem fc_some {L : List TH} {i : Nat} {x : TH} (h : L[i]? = some x) : fc L i = x.2.2 := by unfold fc; rw [getD_some h]
theorem x_swap {N C a b : Nat} {L : List TH} {e c : Nat → Int32} (hN : 1000 ≤ N) (hT : L.length ≤ 21) (h : XL L e c) (hC : C < 2 ^ 31) (hab : a ≤ 3 ∧ b ≤ 3) (hin : ∀ i, i < L.length → C.testBit i = true → fc L i = a ∨ fc L i = b) (hne : a ≠ b) : ∃ c', m_X2_swapColours N (nI L.length) c (nI C) (nI (a + b)) = some c' ∧ XL (rc (swp C a b L) L.length L) e c' := by
  have := for_inv (fun n i (c : Nat → Int32) => m_X2_swapColours_L2 N (nI L.length) (nI C) (nI (a + b)) n (nI i) c) (fun i c => XL (rc (swp C a b L) i L) e c) L.length (fun c => some c) (fun n c hP => by
      show m_X2_swapColours_L2 N (nI L.length) (nI C) (nI (a + b)) (n + 1) (nI L.length) c = _
      rw [m_X2_swapColours_L2, if_pos (nI_le (Nat.le_refl _) (by omega))]) (fun n i c hi hP => by
      show ∃ c', m_X2_swapColours_L2 N (nI L.length) (nI C) (nI (a + b)) (n + 1) (nI i) c = m_X2_swapColours_L2 N (nI L.length) (nI C) (nI (a + b)) n (nI (i + 1)) c' ∧ _
      obtain ⟨x, hx⟩ := some_of hi
      have fx := fc_some hx
      rw [m_X2_swapColours_L2, if_neg (nI_ge hi (by omega)), m_holds hC (by omega), r_bind, sel, nI_1]
      cases q : C.testBit i with
      | false =>
        rw [if_neg (by decide)]
        refine ⟨c, rfl, ?_⟩
        rw [rc_same hx (by unfold swp; rw [q, fx]; rfl)]
        exact hP
      | true =>
        have cx := (hP i x (rc_i hx)).2
        have ci : m_X2_colour N c (nI i) = some (nI x.2.2) := by unfold m_X2_colour; rw [x_at (by omega) (by decide), r_bind, cx]
        rw [if_pos rfl, ci, r_bind]
        refine ⟨upd c i (nI (swp C a b L i)), ?_, XL_rc hP hx⟩
        have v : nI (a + b) - nI x.2.2 = nI (swp C a b L i) := by
          have := hin i hi q
          rw [fx] at this
          unfold swp
          rw [q, if_pos rfl, fx]
          rcases this with g | g
          · rw [g, if_pos rfl, ← nI_add, Int32.add_comm, Int32.add_sub_cancel]
          · rw [g, if_neg (fun w => hne w.symm), ← nI_add, Int32.add_sub_cancel]
        unfold m_X2_setColour
        rw [x_put (by omega) (by decide), r_bind, r_bind, v]) L.length N 0 c (by omega) (by omega) (by rw [rc_0]; exact h)
  obtain ⟨c', h1, h2⟩ := this
  exact ⟨c', h2, h1⟩
theorem m_swap {N K C a b : Nat} {L : List TH} {s : Nat → Int32} {β : Type} {J : (Nat → Int32) → Option (Int32 × (Nat → Int32) × (Nat → Int32) × Int32)} (hN : 1000 ≤ N) (hT : L.length ≤ 21) (h : ML K L s) (hC : C < 2 ^ 31) (hab : a ≤ 3 ∧ b ≤ 3) (hco : ∀ x ∈ L, x.2.2 ≤ 3) : ∃ s', m_X7_exchange_L36 N (nI b) (nI a) (nI C) J N 0 s = J s' ∧ ML K (rc (swp C a b L) L.length L) s' := by
  have := for_inv (fun n i (s : Nat → Int32) => m_X7_exchange_L36 N (nI b) (nI a) (nI C) J n (nI i) s) (fun i s => ML K (rc (swp C a b L) i L) s) L.length (fun s => J s) (fun n s hP => by
      show m_X7_exchange_L36 N (nI b) (nI a) (nI C) J (n + 1) (nI L.length) s = _
      rw [m_X7_exchange_L36, r_1 (by decide), hP.2.1, rc_len, if_pos (nI_le (Nat.le_refl _) (by omega))]) (fun n i s hi hP => by
      show ∃ s', m_X7_exchange_L36 N (nI b) (nI a) (nI C) J (n + 1) (nI i) s = m_X7_exchange_L36 N (nI b) (nI a) (nI C) J n (nI (i + 1)) s' ∧ _
      obtain ⟨x, hx⟩ := some_of hi
      have fx := fc_some hx
      rw [m_X7_exchange_L36, r_1 (by decide), hP.2.1, rc_len, if_neg (nI_ge hi (by omega)), m_has hC (by omega), r_bind, sel, nI_1]
      cases q : C.testBit i with
      | false =>
        rw [if_neg (by decide)]
        refine ⟨s, rfl, ?_⟩
        rw [rc_same hx (by unfold swp; rw [q, fx]; rfl)]
        exact hP
      | true =>
        have cx := (hP.2.2 i x (rc_i hx)).2.2
        have c3 := hco x (List.mem_of_getElem? hx)
        rw [if_pos rfl, show (2 : Int32) = nI 2 from rfl, m_of (by omega) (by omega), r_bind, cx]
        refine ⟨upd s (2 + 3 * i + 2) (nI (swp C a b L i)), ?_, ML_rc hP hx⟩
        have ix : (nI 2 + 3 * nI i) + nI 2 = nI (2 + 3 * i + 2) := by rw [show (3 : Int32) = nI 3 from rfl, pk_mul, nI_add, nI_add]
        simp only [jn, nm]
        rw [ix, r_awr (by omega) (by omega), r_awr (by omega) (by omega), nI_clamp (by omega)]
        unfold swp
        rw [q, if_pos rfl, fx]
        by_cases g : x.2.2 = a
        · rw [if_pos (by rw [g]), if_pos g]
        · rw [if_neg (fun w => g ((nI_eq (by omega) (by omega)).mp w)), if_neg g]) L.length N 0 s (by omega) (by omega) (by rw [rc_0]; exact h)
  obtain ⟨s', h1, h2⟩ := this
  exact ⟨s', h2, h1⟩
end
-- 58.undo.lean.txt
section
-- the list of nets behind the history
def AH (Hs : List (Nat × List TH)) : List AN := Hs.map (fun p => LN p.1 p.2)
theorem xa_iff {K : Nat} {L : List TH} {k t : Int32} {e c : Nat → Int32} : XA (LN K L) k t e c ↔ k = nI K ∧ t = nI L.length ∧ XL L e c :=
  ⟨fun h => ⟨h.1, h.2.1, XL_iff.mpr h.2.2⟩, fun h => ⟨h.1, h.2.1, XL_iff.mp h.2.2⟩⟩
theorem ma_iff {K : Nat} {L : List TH} {s : Nat → Int32} : MA (LN K L) s ↔ ML K L s := ML_iff.symm
-- undo
theorem x_pop {N : Nat} {Hs : List AN} {A : AN} {z k0 t0 k1 t1 k2 t2 k3 t3 k t : Int32} {e0 c0 e1 c1 e2 c2 e3 c3 e c : Nat → Int32} (hN : 1000 ≤ N) (hWA : WA A) (h : XH (Hs ++ [A]) z k0 t0 e0 c0 k1 t1 e1 c1 k2 t2 e2 c2 k3 t3 e3 c3) : ∃ k' t' e' c', m_X1_pop N z k0 t0 e0 c0 k1 t1 e1 c1 k2 t2 e2 c2 k3 t3 e3 c3 k t e c = some (1, nI Hs.length, k', t', e', c') ∧ XA A k' t' e' c' ∧ XH Hs (nI Hs.length) k0 t0 e0 c0 k1 t1 e1 c1 k2 t2 e2 c2 k3 t3 e3 c3 := by
  obtain ⟨hz, h4, x0, x1, x2, x3⟩ := h
  have l : (Hs ++ [A]).length = Hs.length + 1 := by simp
  rw [l] at hz h4
  have la : (Hs ++ [A])[Hs.length]? = some A := by rw [List.getElem?_append_right (Nat.le_refl _), Nat.sub_self]; rfl
  have ap : ∀ j B, Hs[j]? = some B → (Hs ++ [A])[j]? = some B := fun j B hB => by
    have : j < Hs.length := by
      rcases Nat.lt_or_ge j Hs.length with g | g
      · exact g
      · rw [List.getElem?_eq_none g] at hB; cases hB
    rw [List.getElem?_append_left this]; exact hB
  have rest : XH Hs (nI Hs.length) k0 t0 e0 c0 k1 t1 e1 c1 k2 t2 e2 c2 k3 t3 e3 c3 := ⟨rfl, by omega, fun B hB => x0 B (ap 0 B hB), fun B hB => x1 B (ap 1 B hB), fun B hB => x2 B (ap 2 B hB), fun B hB => x3 B (ap 3 B hB)⟩
  have z1 : z - 1 = nI Hs.length := by rw [hz, nI_m1 (by omega)]; rfl
  have lt : Hs.length = 0 ∨ Hs.length = 1 ∨ Hs.length = 2 ∨ Hs.length = 3 := by omega
  have a1 : ¬ nI Hs.length < 0 := nI_pos (by omega)
  have a2 : nI Hs.length < 4 := by rcases lt with g | g | g | g <;> rw [g] <;> decide
  unfold m_X1_pop
  simp only [nm]
  rw [z1, if_neg a1, if_pos a2]
  rcases lt with g | g | g | g
  · rw [g] at la
    obtain ⟨d, f, y, x⟩ := x_copy (k := k) (t := t) (e := e) (c := c) hN hWA.T (x0 A la)
    refine ⟨k0, t0, d, f, ?_, x, rest⟩
    rw [g, if_pos (show nI 0 = 0 by decide), y]; rfl
  · rw [g] at la
    obtain ⟨d, f, y, x⟩ := x_copy (k := k) (t := t) (e := e) (c := c) hN hWA.T (x1 A la)
    refine ⟨k1, t1, d, f, ?_, x, rest⟩
    rw [g, if_neg (show ¬ nI 1 = 0 by decide), if_pos (show nI 1 = 1 by decide), y]; rfl
  · rw [g] at la
    obtain ⟨d, f, y, x⟩ := x_copy (k := k) (t := t) (e := e) (c := c) hN hWA.T (x2 A la)
    refine ⟨k2, t2, d, f, ?_, x, rest⟩
    rw [g, if_neg (show ¬ nI 2 = 0 by decide), if_neg (show ¬ nI 2 = 1 by decide), if_pos (show nI 2 = 2 by decide), y]; rfl
  · rw [g] at la
    obtain ⟨d, f, y, x⟩ := x_copy (k := k) (t := t) (e := e) (c := c) hN hWA.T (x3 A la)
    refine ⟨k3, t3, d, f, ?_, x, rest⟩
    rw [g, if_neg (show ¬ nI 3 = 0 by decide), if_neg (show ¬ nI 3 = 1 by decide), if_neg (show ¬ nI 3 = 2 by decide), if_pos (show nI 3 = 3 by decide), y]; rfl
theorem x_pop0 {N : Nat} {z k0 t0 k1 t1 k2 t2 k3 t3 k t : Int32} {e0 c0 e1 c1 e2 c2 e3 c3 e c : Nat → Int32} (h : XH [] z k0 t0 e0 c0 k1 t1 e1 c1 k2 t2 e2 c2 k3 t3 e3 c3) : m_X1_pop N z k0 t0 e0 c0 k1 t1 e1 c1 k2 t2 e2 c2 k3 t3 e3 c3 k t e c = some (0, z, k, t, e, c) := by
  obtain ⟨hz, -⟩ := h
  unfold m_X1_pop
  rw [hz]
  rfl
theorem m_undo {N : Nat} {Hs : List AN} {A : AN} {s past : Nat → Int32} {z : Int32} (hN : 1000 ≤ N) (hWA : WA A) (h : MH (Hs ++ [A]) past z) : ∃ s', m_X7_undo N s past z = some (nI Hs.length, s', nI Hs.length) ∧ MA A s' ∧ MH Hs past (nI Hs.length) := by
  obtain ⟨hz, h4, hP⟩ := h
  have l : (Hs ++ [A]).length = Hs.length + 1 := by simp
  rw [l] at hz h4
  have la : (Hs ++ [A])[Hs.length]? = some A := by rw [List.getElem?_append_right (Nat.le_refl _), Nat.sub_self]; rfl
  have ap : ∀ j B, Hs[j]? = some B → (Hs ++ [A])[j]? = some B := fun j B hB => by
    have : j < Hs.length := by
      rcases Nat.lt_or_ge j Hs.length with g | g
      · exact g
      · rw [List.getElem?_eq_none g] at hB; cases hB
    rw [List.getElem?_append_left this]; exact hB
  have z1 : z - 1 = nI Hs.length := by rw [hz, nI_m1 (by omega)]; rfl
  refine ⟨pu s (fun k => past (65 * Hs.length + k)) 0 65, ?_, (hP _ A la).cong hWA.T (fun i hi => ?_), rfl, by omega, fun j B hB => hP j B (ap j B hB)⟩
  · unfold m_X7_undo
    simp only [nm]
    rw [if_neg (show ¬ z = 0 by rw [hz]; exact fun g => absurd ((nI_eq0 (by omega)).mp g) (by omega)), z1]
    refine Eq.trans (b := m_X7_undo_L22 N past (nI Hs.length) N (nI 0) (pu s (fun k => past (65 * Hs.length + k)) 0 0)) (by rw [pu_0]; rfl) ?_
    refine for_up (fun n i (acc : Nat → Int32) => m_X7_undo_L22 N past (nI Hs.length) n (nI i) acc) 65 (fun i => pu s (fun k => past (65 * Hs.length + k)) 0 i) _ ?_ ?_ 65 N 0 (by omega) (by omega)
    · intro n
      show m_X7_undo_L22 N past (nI Hs.length) (n + 1) (nI 65) _ = _
      rw [m_X7_undo_L22, if_pos (show (65 : Int32) ≤ nI 65 by decide)]
    · intro n i hj
      show m_X7_undo_L22 N past (nI Hs.length) (n + 1) (nI i) _ = m_X7_undo_L22 N past (nI Hs.length) n (nI (i + 1)) _
      have e : (65 : Int32) * nI Hs.length + nI i = nI (65 * Hs.length + i) := by
        show nI 65 * nI Hs.length + nI i = _
        rw [pk_mul, nI_add]
      rw [m_X7_undo_L22, if_neg (show ¬ (65 : Int32) ≤ nI i from nI_ge (b := 65) hj (by omega)), e, r_ard (by omega) (by omega), r_awr (by omega) (by omega), nI_clamp (by omega), nI_1]
      simp only [nm]
      have a := pu_s s (fun k => past (65 * Hs.length + k)) 0 i
      rw [Nat.zero_add] at a
      rw [← a]
  · unfold pu
    rw [if_pos (by omega)]
    rfl
theorem m_undo0 {N : Nat} {s past : Nat → Int32} {z : Int32} (h : MH [] past z) : m_X7_undo N s past z = some (-5, s, z) := by
  obtain ⟨hz, -⟩ := h
  unfold m_X7_undo
  rw [hz]
  rfl
-- keep, restore
theorem m_keep {N : Nat} {A : AN} {s slot : Nat → Int32} {b : Int32} (hN : 1000 ≤ N) (hWA : WA A) (h : MA A s) : ∃ slot', m_X7_keep N s slot b = some (nI A.2.1, slot', 1) ∧ MA A slot' := by
  refine ⟨pu slot s 0 65, ?_, h.cong hWA.T (fun i hi => ?_)⟩
  · unfold m_X7_keep jn
    refine Eq.trans (b := m_X7_keep_L2 N s _ N (nI 0) (pu slot s 0 0)) (by rw [pu_0]; rfl) ?_
    refine for_up (fun n i (acc : Nat → Int32) => m_X7_keep_L2 N s _ n (nI i) acc) 65 (fun i => pu slot s 0 i) _ ?_ ?_ 65 N 0 (by omega) (by omega)
    · intro n
      show m_X7_keep_L2 N s _ (n + 1) (nI 65) _ = _
      rw [m_X7_keep_L2, if_pos (show (65 : Int32) ≤ nI 65 by decide), r_1 (by decide), h.2.1]
    · intro n i hj
      show m_X7_keep_L2 N s _ (n + 1) (nI i) _ = m_X7_keep_L2 N s _ n (nI (i + 1)) _
      rw [m_X7_keep_L2, if_neg (show ¬ (65 : Int32) ≤ nI i from nI_ge (b := 65) hj (by omega)), r_ard (by omega) (by omega), r_awr (by omega) (by omega), nI_clamp (by omega), nI_1]
      simp only [nm]
      have a := pu_s slot s 0 i
      rw [Nat.zero_add] at a
      rw [← a]
  · unfold pu
    rw [if_pos (by omega)]
    rfl
theorem m_restore {N : Nat} {A B : AN} {Hs : List AN} {s past slot : Nat → Int32} {z b : Int32} (hN : 1000 ≤ N) (hH : MH Hs past z) (hW : WH Hs) (hWA : WA A) (hWB : WA B) (h : MA A s) (hB : MA B slot) (hb : b ≠ 0) : ∃ s' past', m_X7_restore N s past z slot b = some (nI B.2.1, s', past', nI (hpush Hs A).length) ∧ MA B s' ∧ MH (hpush Hs A) past' (nI (hpush Hs A).length) := by
  obtain ⟨past', e, hM⟩ := m_records hN hH hW h hWA
  have g : MA B (pu s slot 0 65) := hB.cong hWB.T (fun i hi => by unfold pu; rw [if_pos (by omega)]; rfl)
  refine ⟨pu s slot 0 65, past', ?_, g, hM⟩
  unfold m_X7_restore
  rw [if_neg hb, e, r_bind]
  dsimp only
  refine Eq.trans (b := m_X7_restore_L16 N slot past' (nI (hpush Hs A).length) N (nI 0) (pu s slot 0 0)) (by rw [pu_0]; rfl) ?_
  refine for_up (fun n i (acc : Nat → Int32) => m_X7_restore_L16 N slot past' (nI (hpush Hs A).length) n (nI i) acc) 65 (fun i => pu s slot 0 i) _ ?_ ?_ 65 N 0 (by omega) (by omega)
  · intro n
    show m_X7_restore_L16 N slot past' _ (n + 1) (nI 65) (pu s slot 0 65) = _
    rw [m_X7_restore_L16, if_pos (show (65 : Int32) ≤ nI 65 by decide), r_1 (by decide), g.2.1]
  · intro n i hj
    show m_X7_restore_L16 N slot past' _ (n + 1) (nI i) _ = m_X7_restore_L16 N slot past' _ n (nI (i + 1)) _
    rw [m_X7_restore_L16, if_neg (show ¬ (65 : Int32) ≤ nI i from nI_ge (b := 65) hj (by omega)), r_ard (by omega) (by omega), r_awr (by omega) (by omega), nI_clamp (by omega), nI_1]
    simp only [nm]
    have a := pu_s s slot 0 i
    rw [Nat.zero_add] at a
    rw [← a]
end
-- 59.corners.lean.txt
section
-- the corners of a triangle
def jn2 (T : Nat) (lo hi : Nat → Nat) (i j : Nat) : Bool := an (fun t => joins lo hi t i j) T
theorem x_find2 {N T i j : Nat} {lo hi co : Nat → Nat} {e : Nat → Int32} (hN : 1000 ≤ N) (hw : wt T lo hi co) (he : XE T lo hi e) (hij : i < j) (hj : j < 14) : ∃ R, m_X2_find N (nI T) e (nI (2 ^ i + 2 ^ j)) = some R ∧ (R < 0 ↔ jn2 T lo hi i j = false) := by
  have hT := hw.1
  have p1 := p2lt hij
  have p2 := p2le (show j ≤ 13 by omega)
  have eq : ∀ t, t < T → (em lo hi t = 2 ^ i + 2 ^ j ↔ joins lo hi t i j = true) := fun t ht => by
    rw [← em_joins (hw.2 t ht).1 (by omega), or_bit p1]
  rcases first_of (fun t => joins lo hi t i j) T with ⟨t, h1, h2, h3⟩ | h
  · refine ⟨nI t, x_find hN hw he (by omega) (Or.inl ⟨t, h1, (eq t h1).mpr h2, fun u hu => fun w => ?_, rfl⟩), ?_⟩
    · have := (eq u (by omega)).mp w
      rw [h3 u hu] at this
      cases this
    · have : jn2 T lo hi i j = true := (an_iff _ _).mpr ⟨t, h1, h2⟩
      rw [this]
      exact ⟨fun q => absurd q (nI_pos (by omega)), fun q => by cases q⟩
  · refine ⟨-1, x_find hN hw he (by omega) (Or.inr ⟨fun u hu => fun w => ?_, rfl⟩), ?_⟩
    · have := (eq u hu).mp w
      rw [h u hu] at this
      cases this
    · have : jn2 T lo hi i j = false := by
        cases q : jn2 T lo hi i j with
        | false => rfl
        | true =>
          obtain ⟨t, h1, h2⟩ := (an_iff _ _).mp q
          rw [h t h1] at h2
          cases h2
      rw [this]
      exact ⟨fun _ => rfl, fun _ => by decide⟩
theorem m_find2 {N K T i j : Nat} {lo hi co : Nat → Nat} {s : Nat → Int32} (hN : 1000 ≤ N) (hw : wt T lo hi co) (hs : MN K T lo hi co s) (hi' : i < 14) (hj : j < 14) : ∃ R, m_X7_threadBetween N s (nI i) (nI j) = some R ∧ (R < 0 ↔ jn2 T lo hi i j = false) := by
  have hT := hw.1
  rcases first_of (fun t => joins lo hi t i j) T with ⟨t, h1, h2, h3⟩ | h
  · refine ⟨nI t, m_between hN hw hs (by omega) (by omega) (Or.inl ⟨t, h1, h2, h3, rfl⟩), ?_⟩
    have : jn2 T lo hi i j = true := (an_iff _ _).mpr ⟨t, h1, h2⟩
    rw [this]
    exact ⟨fun q => absurd q (nI_pos (by omega)), fun q => by cases q⟩
  · refine ⟨-5, m_between hN hw hs (by omega) (by omega) (Or.inr ⟨h, rfl⟩), ?_⟩
    have : jn2 T lo hi i j = false := by
      cases q : jn2 T lo hi i j with
      | false => rfl
      | true =>
        obtain ⟨t, h1, h2⟩ := (an_iff _ _).mp q
        rw [h t h1] at h2
        cases h2
    rw [this]
    exact ⟨fun _ => rfl, fun _ => by decide⟩
def gd (T : Nat) (lo hi : Nat → Nat) (k i j : Nat) : Bool := (nb T lo hi k).testBit i && (nb T lo hi k).testBit j && jn2 T lo hi i j && (deg T lo hi i == 3) && (deg T lo hi j == 3)
def fj (g : Nat → Bool) : Nat → Nat → Option Nat
  | 0, _ => none
  | d + 1, j => if g j then some j else fj g d (j + 1)
def fij (K : Nat) (g : Nat → Nat → Bool) : Nat → Nat → Option (Nat × Nat)
  | 0, _ => none
  | d + 1, i => match fj (g i) (K - (i + 1)) (i + 1) with
    | some j => some (i, j)
    | none => fij K g d (i + 1)
def crn (K T : Nat) (lo hi : Nat → Nat) (k : Nat) : Nat := if deg T lo hi k = 3 then (match fij K (gd T lo hi k) K 0 with | some p => 2 ^ p.1 + 2 ^ p.2 | none => 0) else 0
theorem has2 {x i j : Nat} (h : i < j) : (x &&& (2 ^ i + 2 ^ j) = 2 ^ i + 2 ^ j) ↔ (x.testBit i && x.testBit j) = true := by
  constructor
  · intro q
    have a := congrArg (fun n => n.testBit i) q
    have b := congrArg (fun n => n.testBit j) q
    simp only [Nat.testBit_and, t2 h] at a b
    simp at a b
    rw [a, b]; rfl
  · intro q
    rw [Bool.and_eq_true] at q
    apply Nat.eq_of_testBit_eq
    intro l
    rw [Nat.testBit_and, t2 h]
    by_cases g : i = l
    · subst g; rw [q.1]; simp
    · by_cases g2 : j = l
      · subst g2; rw [q.2]; simp
      · have e1 : (i == l) = false := by simp [g]
        have e2 : (j == l) = false := by simp [g2]
        rw [e1, e2]; simp
theorem x_corners {N K T k : Nat} {lo hi co : Nat → Nat} {e : Nat → Int32} (hN : 1000 ≤ N) (hw : wf K T lo hi co) (he : XE T lo hi e) (hk : k < 14) : m_X2_cornersBeside N (nI K) (nI T) e (nI k) = some (nI (crn K T lo hi k)) := by
  have hK := hw.1
  have d3 := hw.2.2.2.2
  have ful : ∀ i, i < 14 → m_X2_isFullKnot N (nI T) e (nI i) = some (if deg T lo hi i == 3 then 1 else 0) := fun i hi' => by
    rw [x_isFullKnot hN hw.t he (by omega)]
    by_cases q : deg T lo hi i = 3
    · rw [if_pos (by omega), if_pos (by simp [q])]
    · rw [if_neg (by have := d3 i; omega), if_neg (by simp [q])]
  have inner : ∀ (i : Nat) (J : Option Int32), i < K → ∀ (d n j : Nat), i < j → j + d = K → d < n → m_X2_cornersBeside_L31 N (nI K) (nI T) e (nI (nb T lo hi k)) (nI i) J n (nI j) = (match fj (gd T lo hi k i) d j with | some j => some (nI (2 ^ i + 2 ^ j)) | none => J) := by
    intro i J hi' d
    induction d with
    | zero =>
      intro n j hij hj hn
      obtain ⟨n, rfl⟩ : ∃ m, n = m + 1 := ⟨n - 1, by omega⟩
      have : j = K := by omega
      subst this
      rw [m_X2_cornersBeside_L31, if_pos (nI_le (Nat.le_refl _) (by omega))]
      rfl
    | succ d ih =>
      intro n j hij hj hn
      obtain ⟨n, rfl⟩ : ∃ m, n = m + 1 := ⟨n - 1, by omega⟩
      have nx := ih n (j + 1) (by omega) (by omega) (by omega)
      obtain ⟨R, hR, hR2⟩ := x_find2 hN hw.t he hij (show j < 14 by omega)
      have p1 := p2lt hij
      have p2 := p2le (show j ≤ 13 by omega)
      have nl := nb_lt (k := k) hw.t
      rw [m_X2_cornersBeside_L31, if_neg (nI_ge (show j < K by omega) (by omega)), m_bit (by omega), r_bind, m_bit (by omega), r_bind, nor_bit p1]
      simp only [nm]
      rw [nand, nI_1, nx]
      show _ = (match (if gd T lo hi k i j then some j else fj (gd T lo hi k i) d (j + 1)) with | some j => some (nI (2 ^ i + 2 ^ j)) | none => J)
      have bit : (nI (nb T lo hi k &&& (2 ^ i + 2 ^ j)) = nI (2 ^ i + 2 ^ j)) ↔ ((nb T lo hi k).testBit i && (nb T lo hi k).testBit j) = true := by
        rw [nI_eq (Nat.lt_of_le_of_lt Nat.and_le_left (by omega)) (by omega), has2 hij]
      unfold gd
      cases q : ((nb T lo hi k).testBit i && (nb T lo hi k).testBit j) with
      | false =>
        rw [if_neg (fun w => by rw [bit, q] at w; cases w)]
        rfl
      | true =>
        rw [if_pos (bit.mpr q), hR, r_bind]
        cases q2 : jn2 T lo hi i j with
        | false => rw [if_pos (hR2.mpr q2)]; rfl
        | true =>
          rw [if_neg (fun w => by rw [hR2, q2] at w; cases w), ful i (by omega), r_bind, sel]
          cases q3 : (deg T lo hi i == 3) with
          | false => rw [if_neg (by decide)]; rfl
          | true =>
            rw [if_pos rfl, ful j (by omega), r_bind, sel]
            cases q4 : (deg T lo hi j == 3) with
            | false => rw [if_neg (by decide)]; rfl
            | true => rw [if_pos rfl]; rfl
  have outer : ∀ (d n i : Nat), i + d = K → d < n → m_X2_cornersBeside_L18 N (nI K) (nI T) e (nI (nb T lo hi k)) n (nI i) = some (nI (match fij K (gd T lo hi k) d i with | some p => 2 ^ p.1 + 2 ^ p.2 | none => 0)) := by
    intro d
    induction d with
    | zero =>
      intro n i hi' hn
      obtain ⟨n, rfl⟩ : ∃ m, n = m + 1 := ⟨n - 1, by omega⟩
      have : i = K := by omega
      subst this
      rw [m_X2_cornersBeside_L18, if_pos (nI_le (Nat.le_refl _) (by omega))]
      rfl
    | succ d ih =>
      intro n i hi' hn
      obtain ⟨n, rfl⟩ : ∃ m, n = m + 1 := ⟨n - 1, by omega⟩
      rw [m_X2_cornersBeside_L18, if_neg (nI_ge (show i < K by omega) (by omega))]
      simp only [nm, jn]
      rw [nI_1, ih n (i + 1) (by omega) (by omega), inner i _ (by omega) (K - (i + 1)) N (i + 1) (by omega) (by omega) (by omega)]
      show _ = some (nI (match (match fj (gd T lo hi k i) (K - (i + 1)) (i + 1) with | some j => some (i, j) | none => fij K (gd T lo hi k) d (i + 1)) with | some p => 2 ^ p.1 + 2 ^ p.2 | none => 0))
      cases fj (gd T lo hi k i) (K - (i + 1)) (i + 1) <;> rfl
  unfold m_X2_cornersBeside crn
  rw [ful k hk, r_bind, sel]
  by_cases q : deg T lo hi k = 3
  · rw [if_pos (by simp [q]), if_pos q, x_neighbours hN hw.t he (by omega), r_bind]
    exact outer K N 0 (by omega) (by omega)
  · rw [if_neg (by simp [q]), if_neg q]; rfl
theorem m_corners {N K T k : Nat} {lo hi co : Nat → Nat} {s : Nat → Int32} (hN : 1000 ≤ N) (hw : wf K T lo hi co) (hs : MN K T lo hi co s) (hk : k < K) : m_X7_corners N s (nI k) = some (nI (crn K T lo hi k)) := by
  have hK := hw.1
  have d3 := hw.2.2.2.2
  have inner : ∀ (i : Nat) (J : Option Int32), i < K → ∀ (d n j : Nat), i < j → j + d = K → d < n → m_X7_corners_L32 N s (nI (nb T lo hi k)) (fun x y => some ((sh 1 x) ||| (sh 1 y))) (nI i) J n (nI j) = (match fj (gd T lo hi k i) d j with | some j => some (nI (2 ^ i + 2 ^ j)) | none => J) := by
    intro i J hi' d
    induction d with
    | zero =>
      intro n j hij hj hn
      obtain ⟨n, rfl⟩ : ∃ m, n = m + 1 := ⟨n - 1, by omega⟩
      have : j = K := by omega
      subst this
      rw [m_X7_corners_L32, r_0 (by decide), hs.1, if_pos (nI_le (Nat.le_refl _) (by omega))]
      rfl
    | succ d ih =>
      intro n j hij hj hn
      obtain ⟨n, rfl⟩ : ∃ m, n = m + 1 := ⟨n - 1, by omega⟩
      have nx := ih n (j + 1) (by omega) (by omega) (by omega)
      obtain ⟨R, hR, hR2⟩ := m_find2 hN hw.t hs (show i < 14 by omega) (show j < 14 by omega)
      have p1 := p2lt hij
      have nl := nb_lt (k := k) hw.t
      rw [m_X7_corners_L32, r_0 (by decide), hs.1, if_neg (nI_ge (show j < K by omega) (by omega)), m_has (by omega) (by omega), r_bind]
      simp only [jn]
      rw [if_pos trivial, nI_1, nx, sel]
      show _ = (match (if gd T lo hi k i j then some j else fj (gd T lo hi k i) d (j + 1)) with | some j => some (nI (2 ^ i + 2 ^ j)) | none => J)
      unfold gd
      cases q : (nb T lo hi k).testBit i with
      | false => rw [if_neg (by decide)]; rfl
      | true =>
        rw [if_pos rfl, m_has (by omega) (by omega), r_bind, sel]
        cases q1 : (nb T lo hi k).testBit j with
        | false => rw [if_neg (by decide)]; rfl
        | true =>
          rw [if_pos rfl, hR, r_bind]
          cases q2 : jn2 T lo hi i j with
          | false => rw [if_pos (hR2.mpr q2)]; rfl
          | true =>
            rw [if_neg (fun w => by rw [hR2, q2] at w; cases w), if_neg (by decide), m_degree hN hw.t hs (by omega), r_bind]
            by_cases q3 : deg T lo hi i = 3
            · rw [if_pos (by rw [q3]; rfl), m_degree hN hw.t hs (by omega), r_bind]
              by_cases q4 : deg T lo hi j = 3
              · rw [if_pos (by rw [q4]; rfl), q3, q4, sh1 (by omega), sh1 (by omega), nor_bit p1]; rfl
              · rw [if_neg (fun w => q4 ((nI3 (by have := d3 j; omega)).mp w)), show (deg T lo hi j == 3) = false by simp [q4], q3]; rfl
            · rw [if_neg (fun w => q3 ((nI3 (by have := d3 i; omega)).mp w)), show (deg T lo hi i == 3) = false by simp [q3]]; rfl
  have outer : deg T lo hi k = 3 → ∀ (d n i : Nat), i + d = K → d < n → m_X7_corners_L8 N s (nI k) (nI (nb T lo hi k)) (fun x y => some ((sh 1 x) ||| (sh 1 y))) n (nI i) = some (nI (match fij K (gd T lo hi k) d i with | some p => 2 ^ p.1 + 2 ^ p.2 | none => 0)) := by
    intro hd d
    induction d with
    | zero =>
      intro n i hi' hn
      obtain ⟨n, rfl⟩ : ∃ m, n = m + 1 := ⟨n - 1, by omega⟩
      have : i = K := by omega
      subst this
      rw [m_X7_corners_L8, r_0 (by decide), hs.1, if_pos (nI_le (Nat.le_refl _) (by omega))]
      rfl
    | succ d ih =>
      intro n i hi' hn
      obtain ⟨n, rfl⟩ : ∃ m, n = m + 1 := ⟨n - 1, by omega⟩
      rw [m_X7_corners_L8, r_0 (by decide), hs.1, if_neg (nI_ge (show i < K by omega) (by omega)), m_degree hN hw.t hs (by omega), r_bind, if_pos (by rw [hd]; rfl)]
      simp only [nm, jn]
      rw [nI_1, ih n (i + 1) (by omega) (by omega), inner i _ (by omega) (K - (i + 1)) N (i + 1) (by omega) (by omega) (by omega)]
      show _ = some (nI (match (match fj (gd T lo hi k i) (K - (i + 1)) (i + 1) with | some j => some (i, j) | none => fij K (gd T lo hi k) d (i + 1)) with | some p => 2 ^ p.1 + 2 ^ p.2 | none => 0))
      cases fj (gd T lo hi k i) (K - (i + 1)) (i + 1) <;> rfl
  unfold m_X7_corners crn
  rw [m_neighbours hN hw.t hs (by omega), r_bind]
  unfold jn
  by_cases q : deg T lo hi k = 3
  · rw [if_pos q]
    exact outer q K N 0 (by omega) (by omega)
  · rw [if_neg q]
    obtain ⟨n, hn⟩ : ∃ m, N = m + 1 := ⟨N - 1, by omega⟩
    show m_X7_corners_L8 N s (nI k) (nI (nb T lo hi k)) (fun x y => some ((sh 1 x) ||| (sh 1 y))) N (nI 0) = _
    rw [show m_X7_corners_L8 N s (nI k) (nI (nb T lo hi k)) (fun x y => some ((sh 1 x) ||| (sh 1 y))) N (nI 0) = m_X7_corners_L8 N s (nI k) (nI (nb T lo hi k)) (fun x y => some ((sh 1 x) ||| (sh 1 y))) (n + 1) (nI 0) by rw [← hn]]
    rw [m_X7_corners_L8, r_0 (by decide), hs.1, if_neg (nI_ge (show 0 < K by omega) (by omega)), m_degree hN hw.t hs (by omega), r_bind, if_neg (fun w => q ((nI3 (by have := d3 k; omega)).mp w))]
    rfl
end
