/-! pure: ends that move, a knot that grows, threads that are joined -/
theorem lb_pred : ∀ (k n : Nat), n < 2 ^ k → 0 < n → (n - 1).testBit (lb k n) = false
  | 0, n, h, h0 => by simp at h; omega
  | k + 1, n, h, h0 => by
    rw [Nat.pow_succ] at h
    rw [lb]
    split
    · rw [tb0]; simp; omega
    · rw [← Nat.testBit_div_two, show (n - 1) / 2 = n / 2 - 1 by omega]
      exact lb_pred k (n / 2) (by omega) (by omega)
/-- the knot at the other end -/
def oth (k : Nat) (x : TH) : Nat := if x.1 = k then x.2.1 else x.1
theorem oth_ne {K k : Nat} {x : TH} (h : okx K x) : oth k x ≠ k := by
  obtain ⟨h1, h2, h3⟩ := h
  unfold oth
  split <;> omega
theorem em_oth {K k : Nat} {x : TH} (h : okx K x) (hk : atk k x = true) : 2 ^ x.1 + 2 ^ x.2.1 = 2 ^ oth k x ||| 2 ^ k := by
  obtain ⟨h1, h2, h3⟩ := h
  unfold atk at hk
  simp at hk
  unfold oth
  have e := or_bit (p2lt h1)
  split
  · rename_i q
    rw [← q, Nat.or_comm, e]
  · have q : x.2.1 = k := by omega
    rw [← q, e]
theorem x_moveEnd {N K t k m : Nat} {L : List TH} {e c : Nat → Int32} {x : TH} (hT : L.length ≤ 21) (hX : XL L e c) (hx : L[t]? = some x) (ho : okx K x) (hk : atk k x = true) (hKm : K ≤ m) (hm : m < 14) : m_X2_moveEnd N e (nI t) (nI k) (nI m) = some (upd e t (nI (2 ^ oth k x + 2 ^ m))) := by
  have hlt := lt_of hx
  have hk' : k < K := by
    unfold atk at hk
    simp at hk
    obtain ⟨h1, h2, -⟩ := ho
    omega
  have ha : oth k x < K := by
    obtain ⟨h1, h2, -⟩ := ho
    unfold oth
    split <;> omega
  have hne := oth_ne (k := k) ho
  unfold m_X2_moveEnd m_X2_ends
  rw [x_at (by omega) (by decide), r_bind, r_bind, m_bit (by omega), r_bind, m_bit (by omega), r_bind, (hX t x hx).1, nandn, nor, x_put (by omega) (by decide), r_bind]
  congr 3
  rw [em_oth ho hk, ← or_bit (p2lt (show oth k x < m by omega))]
  congr 1
  apply Nat.eq_of_testBit_eq
  intro i
  rw [tb_ad, Nat.testBit_or, Nat.testBit_two_pow, Nat.testBit_two_pow]
  by_cases q : k = i
  · subst q; simp [hne]
  · simp [q]
theorem WL.move {K' t k m : Nat} {L : List TH} {x : TH} (h : WL K' L) (hx : L[t]? = some x) (hk : atk k x = true) (hm : m < K') (hf : ∀ z ∈ L, z.1 < m ∧ z.2.1 < m) : WL K' (L.set t (oth k x, m, x.2.2)) := by
  have hmem := List.mem_of_getElem? hx
  have ho := h.2.1 x hmem
  have ha : oth k x < m := by
    have := hf x hmem
    unfold oth
    split <;> omega
  refine ⟨h.1, fun y hy => ?_, ?_, fun j => ?_⟩
  · rcases List.mem_or_eq_of_mem_set hy with g | g
    · exact h.2.1 y g
    · rw [g]; exact ⟨ha, hm, ho.2.2⟩
  · rw [List.pairwise_iff_getElem]
    intro i j hi hj hij
    have hi' : i < L.length := by simpa using hi
    have hj' : j < L.length := by simpa using hj
    have pw := List.pairwise_iff_getElem.mp h.2.2.1 i j hi' hj' hij
    have f1 := hf L[i] (List.getElem_mem hi')
    have f2 := hf L[j] (List.getElem_mem hj')
    rw [List.getElem_set, List.getElem_set]
    unfold apart at *
    by_cases q1 : t = i
    · rw [if_pos q1, if_neg (by omega)]
      show ¬ (oth k x = L[j].1 ∧ m = L[j].2.1)
      omega
    · rw [if_neg q1]
      by_cases q2 : t = j
      · rw [if_pos q2]
        show ¬ (L[i].1 = oth k x ∧ L[i].2.1 = m)
        omega
      · rw [if_neg q2]; exact pw
  · have e := countP_set (p := atk j) (y := (oth k x, m, x.2.2)) hx
    have l := h.2.2.2 j
    by_cases q : j = m
    · subst q
      have z : L.countP (atk j) = 0 := by
        rw [List.countP_eq_zero]
        intro z hz
        have := hf z hz
        unfold atk
        simp
        omega
      split at e <;> split at e <;> omega
    · have : atk j (oth k x, m, x.2.2) = true → atk j x = true := by
        unfold atk oth
        simp
        intro g
        split at g <;> omega
      by_cases g : atk j (oth k x, m, x.2.2) = true
      · rw [if_pos g, if_pos (this g)] at e; omega
      · rw [if_neg g] at e; omega
/-- how many threads a knot has when an end moves -/
theorem cnt_move {t k m j : Nat} {L : List TH} {x : TH} (hx : L[t]? = some x) : (L.set t (oth k x, m, x.2.2)).countP (atk j) + (if atk j x then 1 else 0) = L.countP (atk j) + (if atk j (oth k x, m, x.2.2) then 1 else 0) := countP_set hx
theorem cnt_app {j : Nat} {L : List TH} {x : TH} : (L ++ [x]).countP (atk j) = L.countP (atk j) + (if atk j x then 1 else 0) := by
  rw [List.countP_append, List.countP_singleton]
/-- the second and the third thread of a knot -/
theorem three {K k : Nat} {L : List TH} (hW : WL K L) (hd : L.countP (atk k) = 3) : ∃ F2 F3 t2 t3 x2 x3, bs (fun t => atk k (L.getD t (0, 0, 0))) L.length &&& (bs (fun t => atk k (L.getD t (0, 0, 0))) L.length - 1) = F2 ∧ F2 &&& (F2 - 1) = F3 ∧ 0 < bs (fun t => atk k (L.getD t (0, 0, 0))) L.length ∧ 0 < F2 ∧ 0 < F3 ∧ F2 < 2 ^ 21 ∧ F3 < 2 ^ 21 ∧ lb 31 F2 = t2 ∧ lb 31 F3 = t3 ∧ t2 ≠ t3 ∧ L[t2]? = some x2 ∧ L[t3]? = some x3 ∧ atk k x2 = true ∧ atk k x3 = true := by
  have h21 := hW.len21
  have l1 := bs_lt21 (fun t => atk k (L.getD t (0, 0, 0))) h21
  have p1 : pop 31 (bs (fun t => atk k (L.getD t (0, 0, 0))) L.length) = 3 := by
    rw [pop_bs _ _ _ (by omega), ct_take L.length (Nat.le_refl _), List.take_length, hd]
  have mem : ∀ t, (bs (fun t => atk k (L.getD t (0, 0, 0))) L.length).testBit t = true → ∃ x, L[t]? = some x ∧ atk k x = true := by
    intro t h
    rw [tb_bs, Bool.and_eq_true, decide_eq_true_eq] at h
    obtain ⟨x, hx⟩ := some_of h.1
    have := h.2
    rw [getD_some hx] at this
    exact ⟨x, hx, this⟩
  generalize bs (fun t => atk k (L.getD t (0, 0, 0))) L.length = F1 at *
  have z0 : pop 31 0 = 0 := by decide
  have h1 : 0 < F1 := by
    rcases Nat.eq_zero_or_pos F1 with q | q
    · rw [q, z0] at p1; omega
    · exact q
  have p2 := pop_and_pred 31 F1 (by omega) h1
  have l2 : F1 &&& (F1 - 1) < 2 ^ 21 := and_lt l1
  have h2 : 0 < F1 &&& (F1 - 1) := by
    rcases Nat.eq_zero_or_pos (F1 &&& (F1 - 1)) with q | q
    · rw [q, z0] at p2; omega
    · exact q
  have p3 := pop_and_pred 31 (F1 &&& (F1 - 1)) (by omega) h2
  have s2 : subs (F1 &&& (F1 - 1)) F1 := fun i hi => by rw [Nat.testBit_and, Bool.and_eq_true] at hi; exact hi.1
  generalize F1 &&& (F1 - 1) = F2 at *
  have l3 : F2 &&& (F2 - 1) < 2 ^ 21 := and_lt l2
  have h3 : 0 < F2 &&& (F2 - 1) := by
    rcases Nat.eq_zero_or_pos (F2 &&& (F2 - 1)) with q | q
    · rw [q, z0] at p3; omega
    · exact q
  have s3 : subs (F2 &&& (F2 - 1)) F2 := fun i hi => by rw [Nat.testBit_and, Bool.and_eq_true] at hi; exact hi.1
  have n3 : (F2 &&& (F2 - 1)).testBit (lb 31 F2) = false := by rw [Nat.testBit_and, lb_pred 31 F2 (by omega) h2, Bool.and_false]
  have i2 := lb_in 31 F2 (by omega) h2
  have i3 := lb_in 31 (F2 &&& (F2 - 1)) (by omega) h3
  obtain ⟨x2, a2, b2⟩ := mem _ (s2 _ i2)
  obtain ⟨x3, a3, b3⟩ := mem _ (s2 _ (s3 _ i3))
  refine ⟨F2, F2 &&& (F2 - 1), lb 31 F2, lb 31 (F2 &&& (F2 - 1)), x2, x3, rfl, rfl, h1, h2, h3, l2, l3, rfl, rfl, ?_, a2, a3, b2, b3⟩
  intro q
  rw [← q, n3] at i3
  cases i3
/-- three threads more -/
def add3 (L : List TH) (a b c : TH) : List TH := L ++ [a] ++ [b] ++ [c]
/-- a knot grown into three -/
def grown (K k t2 t3 : Nat) (x2 x3 : TH) (L : List TH) : List TH := add3 ((L.set t2 (oth k x2, K, x2.2.2)).set t3 (oth k x3, K + 1, x3.2.2)) (k, K, 3) (k, K + 1, 3) (K, K + 1, 3)
theorem WL.grow {K k t2 t3 : Nat} {L : List TH} {x2 x3 : TH} (hW : WL K L) (hK : K + 2 ≤ 14) (hk : k < K) (hd : L.countP (atk k) = 3) (hne : t2 ≠ t3) (h2 : L[t2]? = some x2) (h3 : L[t3]? = some x3) (a2 : atk k x2 = true) (a3 : atk k x3 = true) : WL (K + 2) (grown K k t2 t3 x2 x3 L) := by
  have o2 := hW.2.1 x2 (List.mem_of_getElem? h2)
  have o3 := hW.2.1 x3 (List.mem_of_getElem? h3)
  have b2 : oth k x2 < K ∧ oth k x2 ≠ k := ⟨by unfold oth; have := o2.1; have := o2.2.1; split <;> omega, oth_ne o2⟩
  have b3 : oth k x3 < K ∧ oth k x3 ≠ k := ⟨by unfold oth; have := o3.1; have := o3.2.1; split <;> omega, oth_ne o3⟩
  have W0 := hW.more (K' := K + 2) (by omega) hK
  have f0 : ∀ z ∈ L, z.1 < K ∧ z.2.1 < K := fun z hz => by obtain ⟨p, q, -⟩ := hW.2.1 z hz; omega
  have W1 := W0.move h2 a2 (m := K) (by omega) f0
  have h3' : (L.set t2 (oth k x2, K, x2.2.2))[t3]? = some x3 := by rw [List.getElem?_set, if_neg hne]; exact h3
  have f1 : ∀ z ∈ L.set t2 (oth k x2, K, x2.2.2), z.1 < K + 1 ∧ z.2.1 < K + 1 := fun z hz => by
    rcases List.mem_or_eq_of_mem_set hz with g | g
    · have := f0 z g; omega
    · rw [g]; exact ⟨by show oth k x2 < K + 1; omega, by show K < K + 1; omega⟩
  have W2 := W1.move h3' a3 (m := K + 1) (by omega) f1
  have mem2 : ∀ z ∈ (L.set t2 (oth k x2, K, x2.2.2)).set t3 (oth k x3, K + 1, x3.2.2), (z.1 < K ∧ z.2.1 < K) ∨ (z.1 ≠ k ∧ z.1 < K ∧ (z.2.1 = K ∨ z.2.1 = K + 1)) := fun z hz => by
    rcases List.mem_or_eq_of_mem_set hz with g | g
    · rcases List.mem_or_eq_of_mem_set g with g | g
      · exact Or.inl (f0 z g)
      · rw [g]; exact Or.inr ⟨b2.2, b2.1, Or.inl rfl⟩
    · rw [g]; exact Or.inr ⟨b3.2, b3.1, Or.inr rfl⟩
  have c : ∀ j, ((L.set t2 (oth k x2, K, x2.2.2)).set t3 (oth k x3, K + 1, x3.2.2)).countP (atk j) + (if atk j x3 then 1 else 0) + (if atk j x2 then 1 else 0) = L.countP (atk j) + (if atk j (oth k x2, K, x2.2.2) then 1 else 0) + (if atk j (oth k x3, K + 1, x3.2.2) then 1 else 0) := fun j => by
    have e1 := cnt_move (k := k) (m := K) (j := j) h2
    have e2 := cnt_move (k := k) (m := K + 1) (j := j) h3'
    omega
  have c0 : ∀ j, K ≤ j → L.countP (atk j) = 0 := fun j hj => by
    rw [List.countP_eq_zero]
    intro z hz
    have := f0 z hz
    unfold atk
    simp
    omega
  have ck := c k
  have cK := c K
  have cK1 := c (K + 1)
  rw [a2, a3, hd, show atk k (oth k x2, K, x2.2.2) = false by unfold atk; simp; omega, show atk k (oth k x3, K + 1, x3.2.2) = false by unfold atk; simp; omega] at ck
  rw [c0 K (by omega), show atk K x3 = false by unfold atk; have := o3.1; have := o3.2.1; simp; omega, show atk K x2 = false by unfold atk; have := o2.1; have := o2.2.1; simp; omega, show atk K (oth k x2, K, x2.2.2) = true by unfold atk; simp, show atk K (oth k x3, K + 1, x3.2.2) = false by unfold atk; simp; omega] at cK
  rw [c0 (K + 1) (by omega), show atk (K + 1) x3 = false by unfold atk; have := o3.1; have := o3.2.1; simp; omega, show atk (K + 1) x2 = false by unfold atk; have := o2.1; have := o2.2.1; simp; omega, show atk (K + 1) (oth k x2, K, x2.2.2) = false by unfold atk; simp; omega, show atk (K + 1) (oth k x3, K + 1, x3.2.2) = true by unfold atk; simp] at cK1
  simp at ck cK cK1
  unfold grown add3
  generalize (L.set t2 (oth k x2, K, x2.2.2)).set t3 (oth k x3, K + 1, x3.2.2) = M at *
  have ends : ∀ (a b j : Nat), atk j (a, b, 3) = true → j = a ∨ j = b := fun a b j h => by unfold atk at h; simp at h; omega
  have V1 : WL (K + 2) (M ++ [(k, K, 3)]) := by
    refine W2.app (Nat.le_refl _) hK ⟨hk, by show K < K + 2; omega, Nat.le_refl 3⟩ (fun y hy => ?_) (fun j hj => ?_)
    · have := mem2 y hy
      unfold apart
      show ¬ (y.1 = k ∧ y.2.1 = K)
      omega
    · rcases ends k K j hj with rfl | rfl <;> omega
  have V2 : WL (K + 2) (M ++ [(k, K, 3)] ++ [(k, K + 1, 3)]) := by
    refine V1.app (Nat.le_refl _) hK ⟨by show k < K + 1; omega, by show K + 1 < K + 2; omega, Nat.le_refl 3⟩ (fun y hy => ?_) (fun j hj => ?_)
    · rw [List.mem_append, List.mem_singleton] at hy
      unfold apart
      show ¬ (y.1 = k ∧ y.2.1 = K + 1)
      rcases hy with g | g
      · have := mem2 y g; omega
      · rw [g]; show ¬ (k = k ∧ K = K + 1); omega
    · rw [cnt_app]
      rcases ends k (K + 1) j hj with rfl | rfl
      · rw [show atk j (j, K, 3) = true by unfold atk; simp]; simp; omega
      · rw [show atk (K + 1) (k, K, 3) = false by unfold atk; simp; omega]; simp; omega
  refine V2.app (Nat.le_refl _) hK ⟨by show K < K + 1; omega, by show K + 1 < K + 2; omega, Nat.le_refl 3⟩ (fun y hy => ?_) (fun j hj => ?_)
  · rw [List.mem_append, List.mem_singleton, List.mem_append, List.mem_singleton] at hy
    unfold apart
    show ¬ (y.1 = K ∧ y.2.1 = K + 1)
    rcases hy with (g | g) | g
    · have := mem2 y g; omega
    · rw [g]; show ¬ (k = K ∧ K = K + 1); omega
    · rw [g]; show ¬ (k = K ∧ K + 1 = K + 1); omega
  · rw [cnt_app, cnt_app]
    rcases ends K (K + 1) j hj with rfl | rfl
    · rw [show atk j (k, j, 3) = true by unfold atk; simp, show atk j (k, j + 1, 3) = false by unfold atk; simp; omega]; simp; omega
    · rw [show atk (K + 1) (k, K, 3) = false by unfold atk; simp; omega, show atk (K + 1) (k, K + 1, 3) = true by unfold atk; simp]; simp; omega
