/-! pure: a thread is added, a thread's ends or colour are changed -/
theorem app_at (L : List TH) (x : TH) (i : Nat) (y : TH) : (L ++ [x])[i]? = some y ↔ L[i]? = some y ∨ (i = L.length ∧ x = y) := by
  rcases Nat.lt_trichotomy i L.length with q | q | q
  · rw [List.getElem?_append_left q]
    exact ⟨Or.inl, fun h => h.elim id (fun h => by omega)⟩
  · subst q
    rw [List.getElem?_append_right (Nat.le_refl _), Nat.sub_self]
    constructor
    · intro h; exact Or.inr ⟨rfl, Option.some.inj h⟩
    · rintro (h | ⟨-, h⟩)
      · have := lt_of h; omega
      · rw [h]; rfl
  · rw [List.getElem?_append_right (by omega)]
    constructor
    · intro h
      have := lt_of h
      simp at this
      omega
    · rintro (h | ⟨h, -⟩)
      · have := lt_of h; omega
      · omega
theorem x_tie {N a b : Nat} {L : List TH} {e c : Nat → Int32} {v : Int32} (hT : L.length ≤ 20) (h : XL L e c) (hv : v = nI (2 ^ a + 2 ^ b)) : ∃ e' c', m_X2_tie N (nI L.length) e c v = some (nI (L ++ [(a, b, 3)]).length, e', c') ∧ XL (L ++ [(a, b, 3)]) e' c' := by
  refine ⟨upd e L.length v, upd c L.length 3, ?_, fun i x hx => ?_⟩
  · unfold m_X2_tie
    rw [if_neg (show ¬ (21 : Int32) ≤ nI L.length from nI_ge (b := 21) (by omega) (by omega)), x_put (by omega) (by decide), r_bind, x_put (by omega) (by decide), r_bind]
    simp only [nm]
    rw [nI_1, List.length_append]
    rfl
  · rcases (app_at L (a, b, 3) i x).mp hx with q | ⟨rfl, rfl⟩
    · rw [upd_n (by have := lt_of q; omega), upd_n (by have := lt_of q; omega)]
      exact h i x q
    · rw [upd_s, upd_s, hv]
      exact ⟨rfl, rfl⟩
/-- what put does: three cells -/
def p3 (s : Nat → Int32) (t : Nat) (x y z : Int32) : Nat → Int32 := upd (upd (upd s (2 + 3 * t) x) (2 + 3 * t + 1) y) (2 + 3 * t + 2) z
theorem m_put {N t a b : Nat} {s : Nat → Int32} {c : Int32} (ht : t ≤ 20) (ha : a < 2 ^ 31) (hb : b < 2 ^ 31) : m_X7_put N s (nI t) (nI a) (nI b) c = some (p3 s t (nI (min a b)) (nI (max a b)) c) := by
  have e0 : (2 : Int32) + 3 * nI t + 0 = nI (2 + 3 * t) := ix3 t 0
  have e1 : (2 : Int32) + 3 * nI t + 1 = nI (2 + 3 * t + 1) := ix3 t 1
  have e2 : (2 : Int32) + 3 * nI t + 2 = nI (2 + 3 * t + 2) := ix3 t 2
  unfold m_X7_put p3
  simp only [jn, nm]
  rw [e0, e1, e2]
  rw [nI_clamp (by omega), nI_clamp (by omega), nI_clamp (by omega)]
  by_cases q : b ≤ a
  · rw [if_pos (nI_le q ha), r_awr (by omega) (by omega), if_pos (nI_le q ha), r_awr (by omega) (by omega), r_awr (by omega) (by omega), Nat.min_eq_right q, Nat.max_eq_left q]
  · rw [if_neg (nI_ge (by omega) hb), r_awr (by omega) (by omega), if_neg (nI_ge (by omega) hb), r_awr (by omega) (by omega), r_awr (by omega) (by omega), Nat.min_eq_left (by omega), Nat.max_eq_right (by omega)]
theorem p3_0 (s : Nat → Int32) (t : Nat) (x y z : Int32) : p3 s t x y z (2 + 3 * t) = x := by
  unfold p3
  rw [upd_n (by omega), upd_n (by omega), upd_s]
theorem p3_1 (s : Nat → Int32) (t : Nat) (x y z : Int32) : p3 s t x y z (2 + 3 * t + 1) = y := by
  unfold p3
  rw [upd_n (by omega), upd_s]
theorem p3_2 (s : Nat → Int32) (t : Nat) (x y z : Int32) : p3 s t x y z (2 + 3 * t + 2) = z := by
  unfold p3
  rw [upd_s]
theorem p3_n (s : Nat → Int32) (t : Nat) (x y z : Int32) {j : Nat} (h : j < 2 + 3 * t ∨ 2 + 3 * t + 2 < j) : p3 s t x y z j = s j := by
  unfold p3
  rw [upd_n (by omega), upd_n (by omega), upd_n (by omega)]
/-- put at a thread of the list -/
theorem ML_set {K t : Nat} {L : List TH} {s : Nat → Int32} {y : TH} (h : ML K L s) (ht : t < L.length) : ML K (L.set t y) (p3 s t (nI y.1) (nI y.2.1) (nI y.2.2)) := by
  obtain ⟨h0, h1, h2⟩ := h
  refine ⟨by rw [p3_n _ _ _ _ _ (by omega)]; exact h0, by rw [p3_n _ _ _ _ _ (by omega), List.length_set]; exact h1, fun i x hx => ?_⟩
  rw [List.getElem?_set] at hx
  by_cases q : t = i
  · subst q
    rw [if_pos rfl, if_pos ht] at hx
    cases hx
    rw [p3_0, p3_1, p3_2]
    exact ⟨rfl, rfl, rfl⟩
  · rw [if_neg q] at hx
    rw [p3_n _ _ _ _ _ (by omega), p3_n _ _ _ _ _ (by omega), p3_n _ _ _ _ _ (by omega)]
    exact h2 i x hx
theorem m_adds {N K a b : Nat} {L : List TH} {s : Nat → Int32} (hT : L.length ≤ 20) (h : ML K L s) (ha : a < 2 ^ 31) (hb : b < 2 ^ 31) : ∃ s', m_X7_adds N s (nI a) (nI b) = some s' ∧ ML K (L ++ [(min a b, max a b, 3)]) s' := by
  obtain ⟨h0, h1, h2⟩ := h
  refine ⟨upd (p3 s L.length (nI (min a b)) (nI (max a b)) 3) 1 (nI (L.length + 1)), ?_, ?_, ?_, fun i x hx => ?_⟩
  · unfold m_X7_adds
    rw [r_1 (by decide), h1, m_put (by omega) ha hb, r_bind, r_1 (by decide), p3_n _ _ _ _ _ (by omega), h1, show (1 : Int32) = nI 1 from rfl, r_awr (by omega) (by omega), nI_clamp (by omega), nI_add]
    rfl
  · rw [upd_n (by decide), p3_n _ _ _ _ _ (by omega)]; exact h0
  · rw [upd_s, List.length_append]; rfl
  · rw [upd_n (by omega), upd_n (by omega), upd_n (by omega)]
    rcases (app_at L _ i x).mp hx with q | ⟨rfl, rfl⟩
    · have := lt_of q
      rw [p3_n _ _ _ _ _ (by omega), p3_n _ _ _ _ _ (by omega), p3_n _ _ _ _ _ (by omega)]
      exact h2 i x q
    · rw [p3_0, p3_1, p3_2]
      exact ⟨rfl, rfl, rfl⟩
theorem ML_knots {K K' : Nat} {L : List TH} {s : Nat → Int32} (h : ML K L s) : ML K' L (upd s 0 (nI K')) := by
  obtain ⟨h0, h1, h2⟩ := h
  refine ⟨upd_s, by rw [upd_n (by decide)]; exact h1, fun i x hx => ?_⟩
  rw [upd_n (by omega), upd_n (by omega), upd_n (by omega)]
  exact h2 i x hx
theorem XL_set {t : Nat} {L : List TH} {e c : Nat → Int32} {y : TH} {v : Int32} (h : XL L e c) (ht : t < L.length) (hv : v = nI (2 ^ y.1 + 2 ^ y.2.1)) (hc : ∀ x, L[t]? = some x → x.2.2 = y.2.2) : XL (L.set t y) (upd e t v) c := by
  intro i x hx
  rw [List.getElem?_set] at hx
  by_cases q : t = i
  · subst q
    rw [if_pos rfl, if_pos ht] at hx
    cases hx
    obtain ⟨z, hz⟩ := some_of ht
    rw [upd_s, hv]
    exact ⟨rfl, by rw [(h t z hz).2, hc z hz]⟩
  · rw [if_neg q] at hx
    rw [upd_n (fun g => q g.symm)]
    exact h i x hx
theorem XL_col {t v : Nat} {L : List TH} {e c : Nat → Int32} {x : TH} (h : XL L e c) (hx : L[t]? = some x) : XL (L.set t (x.1, x.2.1, v)) e (upd c t (nI v)) := by
  intro i y hy
  rw [List.getElem?_set] at hy
  by_cases q : t = i
  · subst q
    rw [if_pos rfl, if_pos (lt_of hx)] at hy
    cases hy
    rw [upd_s]
    exact ⟨(h t x hx).1, rfl⟩
  · rw [if_neg q] at hy
    rw [upd_n (fun g => q g.symm)]
    exact h i y hy
theorem ML_col {K t v : Nat} {L : List TH} {s : Nat → Int32} {x : TH} (h : ML K L s) (hx : L[t]? = some x) : ML K (L.set t (x.1, x.2.1, v)) (upd s (2 + 3 * t + 2) (nI v)) := by
  obtain ⟨h0, h1, h2⟩ := h
  refine ⟨by rw [upd_n (by omega)]; exact h0, by rw [upd_n (by omega), List.length_set]; exact h1, fun i y hy => ?_⟩
  rw [List.getElem?_set] at hy
  by_cases q : t = i
  · subst q
    rw [if_pos rfl, if_pos (lt_of hx)] at hy
    cases hy
    rw [upd_n (by omega), upd_n (by omega), upd_s]
    exact ⟨(h2 t x hx).1, (h2 t x hx).2.1, rfl⟩
  · rw [if_neg q] at hy
    rw [upd_n (by omega), upd_n (by omega), upd_n (by omega)]
    exact h2 i y hy
-- what becomes of a well made net
theorem countP_set {p : TH → Bool} : ∀ {L : List TH} {t : Nat} {x y : TH}, L[t]? = some x → (L.set t y).countP p + (if p x then 1 else 0) = L.countP p + (if p y then 1 else 0)
  | [], t, x, y, h => by simp at h
  | a :: L, 0, x, y, h => by
    simp at h
    subst h
    rw [List.set_cons_zero, List.countP_cons, List.countP_cons]
    omega
  | a :: L, t + 1, x, y, h => by
    have := countP_set (p := p) (L := L) (t := t) (x := x) (y := y) (by simpa using h)
    rw [List.set_cons_succ, List.countP_cons, List.countP_cons]
    omega
theorem WL.col {K t v : Nat} {L : List TH} {x : TH} (h : WL K L) (hx : L[t]? = some x) (hv : v ≤ 3) : WL K (L.set t (x.1, x.2.1, v)) := by
  have hm := h.2.1 x (List.mem_of_getElem? hx)
  refine ⟨h.1, fun y hy => ?_, ?_, fun k => ?_⟩
  · rcases List.mem_or_eq_of_mem_set hy with g | g
    · exact h.2.1 y g
    · rw [g]; exact ⟨hm.1, hm.2.1, hv⟩
  · rw [List.pairwise_iff_getElem]
    intro i j hi hj hij
    have pw := List.pairwise_iff_getElem.mp h.2.2.1 i j (by simpa using hi) (by simpa using hj) hij
    have get : ∀ i (hi : i < (L.set t (x.1, x.2.1, v)).length), (L.set t (x.1, x.2.1, v))[i].1 = (L[i]'(by simpa using hi)).1 ∧ (L.set t (x.1, x.2.1, v))[i].2.1 = (L[i]'(by simpa using hi)).2.1 := by
      intro i hi
      rw [List.getElem_set]
      split
      · rename_i q
        subst q
        have hi' : t < L.length := by simpa using hi
        rw [List.getElem?_eq_getElem hi'] at hx
        cases hx
        exact ⟨rfl, rfl⟩
      · exact ⟨rfl, rfl⟩
    unfold apart
    rw [(get i hi).1, (get i hi).2, (get j hj).1, (get j hj).2]
    exact pw
  · have := countP_set (p := atk k) (y := (x.1, x.2.1, v)) hx
    have e : atk k (x.1, x.2.1, v) = atk k x := rfl
    rw [e] at this
    have := h.2.2.2 k
    omega
theorem WL.app {K K' : Nat} {L : List TH} {x : TH} (h : WL K L) (hK : K ≤ K') (hK2 : K' ≤ 14) (hx : okx K' x) (hn : ∀ y ∈ L, apart y x) (hd : ∀ k, atk k x = true → L.countP (atk k) ≤ 2) : WL K' (L ++ [x]) := by
  refine ⟨hK2, fun y hy => ?_, ?_, fun k => ?_⟩
  · rw [List.mem_append, List.mem_singleton] at hy
    rcases hy with g | g
    · obtain ⟨a, b, c⟩ := h.2.1 y g
      exact ⟨a, by omega, c⟩
    · rw [g]; exact hx
  · rw [List.pairwise_append]
    refine ⟨h.2.2.1, List.pairwise_singleton _ _, fun y hy z hz => ?_⟩
    rw [List.mem_singleton] at hz
    rw [hz]; exact hn y hy
  · rw [List.countP_append, List.countP_singleton]
    have := h.2.2.2 k
    split
    · have := hd k ‹_›; omega
    · omega
theorem WL.more {K K' : Nat} {L : List TH} (h : WL K L) (hK : K ≤ K') (hK2 : K' ≤ 14) : WL K' L := ⟨hK2, fun y hy => ⟨(h.2.1 y hy).1, by have := (h.2.1 y hy).2.1; omega, (h.2.1 y hy).2.2⟩, h.2.2.1, h.2.2.2⟩
