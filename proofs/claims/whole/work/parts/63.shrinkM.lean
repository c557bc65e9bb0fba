-- the reference's way of shrinking
theorem lnk_joins {K c d i : Nat} {P : List TH} {x : TH} (ho : okx K x) (h : P[i]? = some x) : joins (fl P) (fh P) i c d = lnk c d x := by
  rw [Bool.eq_iff_iff, lnk_iff ho]
  unfold joins fl fh
  rw [getD_some h]
  simp
theorem m_betw_L {N K i c d : Nat} {P : List TH} {s : Nat → Int32} {y : TH} (hN : 1000 ≤ N) (h21 : P.length ≤ 21) (hK : K ≤ 14) (hok : ∀ x ∈ P, okx K x) (hM : ML K P s) (hc : c < 14) (hd : d < 14) (hi : P[i]? = some y) (hy : lnk c d y = true) (hu : ∀ j z, P[j]? = some z → lnk c d z = true → j = i) : m_X7_threadBetween N s (nI c) (nI d) = some (nI i) := by
  have ok : ∀ {u : Nat} {z : TH}, P[u]? = some z → okx K z := fun {u z} hz => hok z (List.mem_of_getElem? hz)
  refine m_between hN (ok_wt h21 hK hok) (ML_iff.mp hM) (by omega) (by omega) (Or.inl ⟨i, lt_of hi, by rw [lnk_joins (ok hi) hi]; exact hy, fun j hj => ?_, rfl⟩)
  obtain ⟨z, hz⟩ := some_of (L := P) (i := j) (by have := lt_of hi; omega)
  rw [lnk_joins (ok hz) hz]
  cases q : lnk c d z with
  | false => rfl
  | true =>
    have := hu j z hz q
    omega
theorem erase_one {p : TH → Bool} : ∀ {P : List TH} {i : Nat} {y : TH}, P[i]? = some y → p y = true → (∀ j z, P[j]? = some z → p z = true → j = i) → P.eraseIdx i = P.filter (fun x => !p x)
  | [], i, y, h, _, _ => by simp at h
  | z :: P, 0, y, h, hy, hu => by
    simp at h
    subst h
    have f : P.filter (fun x => !p x) = P := List.filter_eq_self.mpr (fun x hx => by
      obtain ⟨j, hj⟩ := List.mem_iff_getElem?.mp hx
      cases q : p x with
      | false => rfl
      | true =>
        have := hu (j + 1) x (by simpa using hj) q
        omega)
    rw [List.filter_cons, hy]
    simp only [Bool.not_true, if_neg (show ¬ false = true by decide)]
    rw [f]
    rfl
  | z :: P, i + 1, y, h, hy, hu => by
    have hz : p z = false := by
      cases q : p z with
      | false => rfl
      | true =>
        have := hu 0 z rfl q
        omega
    have ih := erase_one (p := p) (P := P) (i := i) (y := y) (by simpa using h) hy (fun j w hj hw => by have := hu (j + 1) w (by simpa using hj) hw; omega)
    rw [List.filter_cons, hz]
    simp only [Bool.not_false, if_pos (show true = true from rfl)]
    rw [← ih]
    rfl
theorem m_leadsTo {N K t c f k : Nat} {P : List TH} {s : Nat → Int32} {x : TH} (hN : 1000 ≤ N) (h21 : P.length ≤ 21) (hK : K ≤ 14) (hok : ∀ x ∈ P, okx K x) (hM : ML K P s) (hc : c < 14) (hf : f < 14) (hk : k < 14) (hi : P[t]? = some x) (hy : lnk c f x = true) (hu : ∀ j z, P[j]? = some z → lnk c f z = true → j = t) : ∃ s', m_X7_leadsTo N s (nI c) (nI f) (nI k) = some s' ∧ ML K (P.set t (min f k, max f k, x.2.2)) s' := by
  have ht := lt_of hi
  refine ⟨p3 s t (nI (min f k)) (nI (max f k)) (nI x.2.2), ?_, ML_set (y := (min f k, max f k, x.2.2)) hM ht⟩
  unfold m_X7_leadsTo
  rw [m_betw_L hN h21 hK hok hM hc hf hi hy hu, r_bind, ml_2 h21 hM hi, r_bind, m_put (by omega) (by omega) (by omega), r_bind]
/-- one inner thread goes -/
theorem m_inner {N K c d : Nat} {P : List TH} {s : Nat → Int32} (hN : 1000 ≤ N) (h21 : P.length ≤ 21) (hK : K ≤ 14) (hok : ∀ x ∈ P, okx K x) (hM : ML K P s) (hc : c < 14) (hd : d < 14) (he : ∃ (t : Nat) (x : TH), P[t]? = some x ∧ lnk c d x = true ∧ ∀ j z, P[j]? = some z → lnk c d z = true → j = t) : ∃ r s', m_X7_threadBetween N s (nI c) (nI d) = some r ∧ m_X7_dropThread N s r = some s' ∧ ML K (P.filter (fun x => !lnk c d x)) s' := by
  obtain ⟨t, x, h1, h2, h3⟩ := he
  obtain ⟨s', g1, g2⟩ := m_dropThread hN h21 hM (lt_of h1)
  rw [erase_one h1 h2 h3] at g2
  exact ⟨nI t, s', m_betw_L hN h21 hK hok hM hc hd h1 h2 h3, g1, g2⟩
