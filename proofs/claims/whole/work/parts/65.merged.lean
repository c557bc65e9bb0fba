-- what the merged list is
theorem kind {K k a b tk ta tb i : Nat} {L : List TH} {xk xa xb x : TH} (h : Tri K L k a b tk ta tb xk xa xb) (hx : L[i]? = some x) : (ldx k a b x = x ∧ tr k a b x.1 = true ∧ tr k a b x.2.1 = true) ∨ (ldx k a b x = x ∧ tr k a b x.1 = false ∧ tr k a b x.2.1 = false) ∨ ∃ f, tr k a b f = false ∧ tr k a b x.1 ≠ tr k a b x.2.1 ∧ (x.1 = f ∨ x.2.1 = f) ∧ ldx k a b x = (min f k, max f k, x.2.2) ∧ ((i = tk ∧ f = oth k xk) ∨ (i = ta ∧ f = oth a xa) ∨ (i = tb ∧ f = oth b xb)) := by
  have h0 := h
  obtain ⟨hW, ⟨hk, hab, hb, hak, hbk⟩, -, lk, la, lb'⟩ := h
  have ok : ∀ {u : Nat} {y : TH}, L[u]? = some y → okx K y := fun {u y} hy => hW.2.1 y (List.mem_of_getElem? hy)
  have fin : ∀ c, atk c x = true → tr k a b c = true → tr k a b (oth c x) = false → tr k a b x.1 ≠ tr k a b x.2.1 ∧ (x.1 = oth c x ∨ x.2.1 = oth c x) := by
    intro c hc h1 h2
    unfold atk at hc
    simp at hc
    unfold oth at h2 ⊢
    by_cases q : x.1 = c
    · rw [if_pos q] at h2 ⊢
      exact ⟨by rw [q, h1, h2]; decide, Or.inr rfl⟩
    · rw [if_neg q] at h2 ⊢
      have q2 : x.2.1 = c := by omega
      exact ⟨by rw [q2, h1, h2]; decide, Or.inl rfl⟩
  rcases leaves h0 hx with g | ⟨g1, rfl⟩ | ⟨g1, rfl⟩ | ⟨g1, rfl⟩
  · have e : ldx k a b x = x := by unfold ldx; rw [if_pos g]
    cases q : tr k a b x.1 with
    | true => exact Or.inl ⟨e, rfl, by rw [← g, q]⟩
    | false => exact Or.inr (Or.inl ⟨e, rfl, by rw [← g, q]⟩)
  · have o := tr_out.mpr ⟨oth_ne (k := k) (ok hx), lk.2.2.1, lk.2.2.2.1⟩
    have f := fin k lk.2.1 (tr_in.mpr (by omega)) o
    exact Or.inr (Or.inr ⟨oth k x, o, f.1, f.2, ldx_c (ok hx) lk.2.1 (tr_in.mpr (by omega)) o, Or.inl ⟨g1, rfl⟩⟩)
  · have o := tr_out.mpr ⟨la.2.2.1, oth_ne (k := a) (ok hx), la.2.2.2.1⟩
    have f := fin a la.2.1 (tr_in.mpr (by omega)) o
    exact Or.inr (Or.inr ⟨oth a x, o, f.1, f.2, ldx_c (ok hx) la.2.1 (tr_in.mpr (by omega)) o, Or.inr (Or.inl ⟨g1, rfl⟩)⟩)
  · have o := tr_out.mpr ⟨lb'.2.2.1, lb'.2.2.2.1, oth_ne (k := b) (ok hx)⟩
    have f := fin b lb'.2.1 (tr_in.mpr (by omega)) o
    exact Or.inr (Or.inr ⟨oth b x, o, f.1, f.2, ldx_c (ok hx) lb'.2.1 (tr_in.mpr (by omega)) o, Or.inr (Or.inr ⟨g1, rfl⟩)⟩)
/-- inside the triangle: what a thread of the led list is at -/
theorem led_at {K k a b tk ta tb i : Nat} {L : List TH} {xk xa xb x : TH} (h : Tri K L k a b tk ta tb xk xa xb) (hx : L[i]? = some x) : (lnk k a (ldx k a b x) || lnk k b (ldx k a b x) || lnk a b (ldx k a b x)) = (atk a (ldx k a b x) || atk b (ldx k a b x)) := by
  have k0 := kind h hx
  obtain ⟨hW, ⟨hk, hab, hb, hak, hbk⟩, -⟩ := h
  have ho := hW.2.1 x (List.mem_of_getElem? hx)
  have hl := ldx_ok (a := a) (b := b) ho hk
  have o1 := ho.1
  rw [Bool.eq_iff_iff, Bool.or_eq_true, Bool.or_eq_true, lnk_iff hl, lnk_iff hl, lnk_iff hl, Bool.or_eq_true]
  have e : ∀ j y, atk j y = true ↔ y.1 = j ∨ y.2.1 = j := fun j y => by unfold atk; simp
  rw [e, e]
  rcases k0 with ⟨g, g1, g2⟩ | ⟨g, g1, g2⟩ | ⟨f, g1, -, -, g, -⟩
  · rw [tr_in] at g1 g2
    rw [g]
    omega
  · rw [tr_out] at g1 g2
    rw [g]
    omega
  · rw [tr_out] at g1
    rw [g]
    dsimp only
    omega
theorem led_lnk {K k a b tk ta tb i c d : Nat} {L : List TH} {xk xa xb x : TH} (h : Tri K L k a b tk ta tb xk xa xb) (hx : L[i]? = some x) (hc : tr k a b c = true) (hd : tr k a b d = true) (hne : c ≠ d) : lnk c d (ldx k a b x) = lnk c d x := by
  have k0 := kind h hx
  obtain ⟨hW, ⟨hk, hab, hb, hak, hbk⟩, -⟩ := h
  have ho := hW.2.1 x (List.mem_of_getElem? hx)
  have hl := ldx_ok (a := a) (b := b) ho hk
  have o1 := ho.1
  rcases k0 with ⟨g, -, -⟩ | ⟨g, -, -⟩ | ⟨f, g1, -, g3, g, -⟩
  · rw [g]
  · rw [g]
  · rw [Bool.eq_iff_iff, lnk_iff hl, lnk_iff ho, g]
    have hcf : c ≠ f := fun w => by rw [w, g1] at hc; cases hc
    have hdf : d ≠ f := fun w => by rw [w, g1] at hd; cases hd
    simp only
    omega
theorem led_cnt {K k a b tk ta tb c d : Nat} {L : List TH} {xk xa xb : TH} (h : Tri K L k a b tk ta tb xk xa xb) (hc : tr k a b c = true) (hd : tr k a b d = true) (hne : c ≠ d) (he : ∃ x ∈ L, lnk c d x = true) : (L.map (ldx k a b)).countP (lnk c d) = 1 := by
  rw [List.countP_map]
  have : L.countP (lnk c d ∘ ldx k a b) = L.countP (lnk c d) := by
    apply List.countP_congr
    intro x hx
    obtain ⟨i, hi⟩ := List.mem_iff_getElem?.mp hx
    show lnk c d (ldx k a b x) = true ↔ _
    rw [led_lnk h hi hc hd hne]
  rw [this]
  have a1 := lnk_one (c := c) (d := d) h.1
  have b1 := cnt_pos he
  omega
