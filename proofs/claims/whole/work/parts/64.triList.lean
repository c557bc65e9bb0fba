-- the list that is left of a triangle
theorem ldx_c {K k a b c : Nat} {x : TH} (ho : okx K x) (hc : atk c x = true) (hin : tr k a b c = true) (hout : tr k a b (oth c x) = false) : ldx k a b x = (min (oth c x) k, max (oth c x) k, x.2.2) := by
  unfold atk at hc
  simp at hc
  unfold ldx
  unfold oth at hout ⊢
  by_cases q : x.1 = c
  · rw [if_pos q] at hout ⊢
    rw [q, hin, hout, if_neg (by decide), if_pos rfl]
  · have q2 : x.2.1 = c := by omega
    rw [if_neg q] at hout ⊢
    rw [q2, hin, hout, if_neg (by decide), if_neg (by decide)]
theorem ldx_k {K k a b : Nat} {x : TH} (ho : okx K x) (hc : atk k x = true) (hout : tr k a b (oth k x) = false) : ldx k a b x = x := by
  rw [ldx_c ho hc (by unfold tr; simp) hout]
  have o1 := ho.1
  unfold atk at hc
  simp at hc
  unfold oth
  by_cases q : x.1 = k
  · rw [if_pos q, Nat.min_eq_right (by omega), Nat.max_eq_left (by omega), ← q]
  · have q2 : x.2.1 = k := by omega
    rw [if_neg q, Nat.min_eq_left (by omega), Nat.max_eq_right (by omega), ← q2]
theorem tr_out {k a b j : Nat} : tr k a b j = false ↔ j ≠ k ∧ j ≠ a ∧ j ≠ b := by
  unfold tr
  simp
  omega
theorem tr_in {k a b j : Nat} : tr k a b j = true ↔ j = k ∨ j = a ∨ j = b := by
  unfold tr
  simp
  omega
/-- a thread stays, or is one of the three that leave -/
theorem leaves {K k a b tk ta tb i : Nat} {L : List TH} {xk xa xb x : TH} (h : Tri K L k a b tk ta tb xk xa xb) (hx : L[i]? = some x) : tr k a b x.1 = tr k a b x.2.1 ∨ (i = tk ∧ x = xk) ∨ (i = ta ∧ x = xa) ∨ (i = tb ∧ x = xb) := by
  obtain ⟨hW, ⟨hk, hab, hb, hak, hbk⟩, -, lk, la, lb'⟩ := h
  have ho := hW.2.1 x (List.mem_of_getElem? hx)
  have go : ∀ c, atk c x = true → tr k a b c = true → tr k a b (oth c x) = false → (i = tk ∧ x = xk) ∨ (i = ta ∧ x = xa) ∨ (i = tb ∧ x = xb) := by
    intro c hc hin hout
    rw [tr_out] at hout
    rw [tr_in] at hin
    rcases hin with rfl | rfl | rfl
    · have := lk.2.2.2.2 i x hx hc
      have e : i = tk := by omega
      subst e
      have w := lk.1
      rw [hx] at w
      cases w
      exact Or.inl ⟨rfl, rfl⟩
    · have := la.2.2.2.2 i x hx hc
      have e : i = ta := by omega
      subst e
      have w := la.1
      rw [hx] at w
      cases w
      exact Or.inr (Or.inl ⟨rfl, rfl⟩)
    · have := lb'.2.2.2.2 i x hx hc
      have e : i = tb := by omega
      subst e
      have w := lb'.1
      rw [hx] at w
      cases w
      exact Or.inr (Or.inr ⟨rfl, rfl⟩)
  have o1 := ho.1
  cases q1 : tr k a b x.1 with
  | true =>
    cases q2 : tr k a b x.2.1 with
    | true => exact Or.inl rfl
    | false => exact Or.inr (go x.1 (by unfold atk; simp) q1 (by unfold oth; rw [if_pos rfl]; exact q2))
  | false =>
    cases q2 : tr k a b x.2.1 with
    | true => exact Or.inr (go x.2.1 (by unfold atk; simp) q2 (by unfold oth; rw [if_neg (by omega)]; exact q1))
    | false => exact Or.inl rfl
theorem lead_set {K k a b tk ta tb : Nat} {L : List TH} {xk xa xb : TH} (h : Tri K L k a b tk ta tb xk xa xb) (hne : ta ≠ tb) : (L.set ta (min (oth a xa) k, max (oth a xa) k, xa.2.2)).set tb (min (oth b xb) k, max (oth b xb) k, xb.2.2) = L.map (ldx k a b) := by
  have h0 := h
  obtain ⟨hW, ⟨hk, hab, hb, hak, hbk⟩, -, lk, la, lb'⟩ := h
  have ok : ∀ {u : Nat} {y : TH}, L[u]? = some y → okx K y := fun {u y} hy => hW.2.1 y (List.mem_of_getElem? hy)
  have na := oth_ne (k := a) (ok la.1)
  have nb' := oth_ne (k := b) (ok lb'.1)
  have nk := oth_ne (k := k) (ok lk.1)
  have ea := ldx_c (k := k) (a := a) (b := b) (ok la.1) la.2.1 (tr_in.mpr (by omega)) (tr_out.mpr ⟨la.2.2.1, na, la.2.2.2.1⟩)
  have eb := ldx_c (k := k) (a := a) (b := b) (ok lb'.1) lb'.2.1 (tr_in.mpr (by omega)) (tr_out.mpr ⟨lb'.2.2.1, lb'.2.2.2.1, nb'⟩)
  have ek := ldx_k (k := k) (a := a) (b := b) (ok lk.1) lk.2.1 (tr_out.mpr ⟨nk, lk.2.2.1, lk.2.2.2.1⟩)
  rw [← ea, ← eb]
  apply List.ext_getElem?
  intro j
  rw [List.getElem?_map, List.getElem?_set, List.length_set, List.getElem?_set]
  by_cases q : tb = j
  · subst q
    rw [if_pos rfl, if_pos (lt_of lb'.1), lb'.1]
    rfl
  · rw [if_neg q]
    by_cases q2 : ta = j
    · subst q2
      rw [if_pos rfl, if_pos (lt_of la.1), la.1]
      rfl
    · rw [if_neg q2]
      cases hx : L[j]? with
      | none => rfl
      | some x =>
        have : ldx k a b x = x := by
          rcases leaves h0 hx with g | ⟨g1, rfl⟩ | ⟨g1, -⟩ | ⟨g1, -⟩
          · unfold ldx
            rw [if_pos g]
          · exact ek
          · exact absurd g1.symm q2
          · exact absurd g1.symm q
        rw [Option.map_some, this]
