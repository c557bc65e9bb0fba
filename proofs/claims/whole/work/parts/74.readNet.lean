/-! pure: the net that is read -/
theorem nl_get {P : List PR} {i : Nat} (h : i < P.length) : (nl P)[i]? = some (prT (pa P i, pb P i)) := by
  unfold nl
  rw [List.getElem?_map, pr_get h]
  rfl
theorem cnt_nl {P : List PR} (hL : ∀ i, i < P.length → loopP P i = false) (c : Nat) : (nl P).countP (atk c) = ct (readP P c) (2 * P.length) := by
  rw [ct_read P.length hL]
  have := ct_take (L := nl P) (p := atk c) P.length (by rw [nl_len]; exact Nat.le_refl _)
  rw [show (nl P).take P.length = nl P by rw [← nl_len P, List.take_length]] at this
  rw [← this]
  refine ct_cong (fun i hi => ?_)
  rw [getD_some (nl_get hi)]
  unfold atk atP prT
  dsimp only
  rw [Bool.eq_iff_iff]
  simp
  omega
theorem no_loop {P : List PR} (hL : ∀ i, i < P.length → loopP P i = false) : ∀ p ∈ P, p.1 ≠ p.2 := by
  intro p hp
  obtain ⟨i, hi⟩ := List.mem_iff_getElem?.mp hp
  have h := hL i (pr_lt hi)
  have e := pr_get (pr_lt hi)
  rw [hi] at e
  have e := Option.some.inj e
  unfold loopP at h
  rw [e]
  simpa using h
theorem an_false {p : Nat → Bool} {n : Nat} : an p n = false ↔ ∀ i, i < n → p i = false := by
  constructor
  · intro h i hi
    cases q : p i with
    | false => rfl
    | true => rw [(an_iff p n).mpr ⟨i, hi, q⟩] at h; cases h
  · intro h
    cases q : an p n with
    | false => rfl
    | true =>
      obtain ⟨i, h1, h2⟩ := (an_iff p n).mp q
      rw [h i h1] at h2
      cases h2
theorem WL_nl {P : List PR} (hB : BP P) (hL : ∀ i, i < P.length → loopP P i = false) : WL 14 (nl P) ↔ an (twiceP P) P.length = false ∧ an (muchP P) 14 = false := by
  have hne := no_loop hL
  have ok : ∀ x ∈ nl P, okx 14 x := by
    intro x hx
    unfold nl at hx
    rw [List.mem_map] at hx
    obtain ⟨p, hp, rfl⟩ := hx
    have := hB p hp
    exact ⟨prT_lt (hne p hp), by show max p.1 p.2 < 14; omega, Nat.le_refl _⟩
  have pw : (nl P).Pairwise apart ↔ an (twiceP P) P.length = false := by
    rw [an_false]
    unfold nl
    rw [List.pairwise_map, List.pairwise_iff_getElem]
    have ge : ∀ i (hi : i < P.length), P[i] = (pa P i, pb P i) := fun i hi => by
      have := pr_get hi
      rw [List.getElem?_eq_getElem hi] at this
      exact Option.some.inj this
    have ap : ∀ a b c d : Nat, apart (prT (a, b)) (prT (c, d)) ↔ ¬ ((c = a ∧ d = b) ∨ (c = b ∧ d = a)) := by
      intro a b c d
      show ¬ (min a b = min c d ∧ max a b = max c d) ↔ _
      omega
    constructor
    · intro h k hk
      unfold twiceP
      rw [an_false]
      intro j hj
      have := h j k (by omega) hk hj
      rw [ge, ge, ap] at this
      unfold sameP
      simp
      omega
    · intro h j k hj hk hjk
      have t := h k hk
      unfold twiceP at t
      rw [an_false] at t
      have t := t j hjk
      unfold sameP at t
      simp at t
      rw [ge, ge, ap]
      omega
  have cn : (∀ k, (nl P).countP (atk k) ≤ 3) ↔ an (muchP P) 14 = false := by
    rw [an_false]
    constructor
    · intro h i _
      have := h i
      rw [cnt_nl hL] at this
      unfold muchP
      simp
      omega
    · intro h k
      rcases Nat.lt_or_ge k 14 with g | g
      · have := h k g
        unfold muchP at this
        rw [cnt_nl hL]
        simp at this
        omega
      · have : (nl P).countP (atk k) = 0 := List.countP_eq_zero.mpr (fun x hx hk => by
          have := ok x hx
          have a := this.1
          have b := this.2.1
          unfold atk at hk
          simp at hk
          omega)
        omega
  constructor
  · intro h
    exact ⟨pw.mp h.2.2.1, cn.mp h.2.2.2⟩
  · rintro ⟨h1, h2⟩
    exact ⟨Nat.le_refl _, ok, pw.mpr h1, cn.mpr h2⟩
theorem WL.top {P : List PR} (hW : WL 14 (nl P)) (hB : BP P) : WL (topP P) (nl P) := by
  refine ⟨topP_le hB, fun x hx => ?_, hW.2.2.1, hW.2.2.2⟩
  have ho := hW.2.1 x hx
  refine ⟨ho.1, ?_, ho.2.2⟩
  have key : ∀ Q : List PR, ∀ x ∈ nl Q, x.2.1 < topP Q := by
    intro Q
    induction Q with
    | nil => intro x hx; cases hx
    | cons q Q ih =>
      intro x hx
      have hx : x ∈ prT q :: nl Q := hx
      show x.2.1 < max (max q.1 q.2 + 1) (topP Q)
      rcases List.mem_cons.mp hx with g | g
      · rw [g]
        show max q.1 q.2 < _
        omega
      · have := ih x g
        omega
  exact key P x hx
abbrev R7 : Type := Option (Int32 × (Nat → Int32) × (Nat → Int32) × Int32 × Int32 × Int32 × (Nat → Int32))
theorem m_readLoop {N : Nat} {P : List PR} {rd past : Nat → Int32} {st at' : Int32} (hM : MP P rd) (hB : BP P) (hm : P.length ≤ 15) : ∀ (R A : List PR), A ++ R = P → ∀ (f : Nat) (s : Nat → Int32), ML (topP A) (nl A) s → R.length < f → ∃ s', m_X7_readNet_L62 N at' (nI (2 * P.length)) rd past st f (nI (2 * A.length)) s = some (nI (topP P), s', past, st, at', nI (2 * P.length), rd) ∧ ML (topP P) (nl P) s' := by
  intro R
  induction R with
  | nil =>
    intro A hA f s hS hf
    obtain ⟨f, rfl⟩ : ∃ m, f = m + 1 := ⟨f - 1, by omega⟩
    rw [List.append_nil] at hA
    subst hA
    refine ⟨s, ?_, hS⟩
    rw [m_X7_readNet_L62, if_pos (nI_le (Nat.le_refl _) (by omega)), r_0 (by decide), hS.1]
  | cons p R ih =>
    intro A hA f s hS hf
    obtain ⟨f, rfl⟩ : ∃ m, f = m + 1 := ⟨f - 1, by omega⟩
    have hp : P[A.length]? = some p := by
      rw [← hA, List.getElem?_append_right (Nat.le_refl _), Nat.sub_self]
      rfl
    have hlt := pr_lt hp
    have hb := hB p (List.mem_of_getElem? hp)
    obtain ⟨r1, r2⟩ := hM _ p hp
    have hA' : (A ++ [p]) ++ R = P := by rw [List.append_assoc]; exact hA
    have lenA := nl_len A
    have hBA : BP A := fun q hq => hB q (by rw [← hA]; exact List.mem_append_left _ hq)
    have tA := topP_le hBA
    obtain ⟨s1, h1, h2⟩ := m_adds (N := N) (a := p.1) (b := p.2) (by rw [lenA]; omega) hS (by omega) (by omega)
    have ep : nl A ++ [(min p.1 p.2, max p.1 p.2, 3)] = nl (A ++ [p]) := by rw [nl_app]; rfl
    rw [ep] at h2
    have len : (nl (A ++ [p])).length = A.length + 1 := by rw [nl_len]; simp
    have gx : (nl (A ++ [p]))[A.length]? = some (prT p) := by
      rw [nl_app, List.getElem?_append_right (by rw [lenA]; exact Nat.le_refl _), lenA, Nat.sub_self]
      rfl
    have e2 : nI (2 * A.length) + (2 : Int32) = nI (2 * (A.length + 1)) := nI_add (2 * A.length) 2
    have s11 : s1 1 = nI (A.length + 1) := by rw [h2.2.1, len]
    have s10 : s1 0 = nI (topP A) := h2.1
    have e3 : nI (A.length + 1) - 1 = nI A.length := nI_pred A.length
    have lA : (A ++ [p]).length = A.length + 1 := by simp
    have hM2 : ML (topP (A ++ [p])) (nl (A ++ [p])) (upd s1 0 (nI (topP (A ++ [p])))) := ML_knots h2
    obtain ⟨s', h3, h4⟩ := ih (A ++ [p]) hA' f _ hM2 (by simp at hf; omega)
    refine ⟨s', ?_, h4⟩
    rw [lA] at h3
    rw [m_X7_readNet_L62, if_neg (nI_ge (by omega) (by omega)), nI_1, r_ard (by omega) (by omega), r_ard (by omega) (by omega), r1, r2, h1, r_bind, r_1 (by decide), s11, e3, ml_1 (by rw [len]; omega) h2 gx, r_bind, r_0 (by decide), s10, e2]
    simp only [jn, nm]
    show (if nI (max p.1 p.2) < nI (topP A) then _ else _) = _
    by_cases q : max p.1 p.2 < topP A
    · rw [if_pos (nI_lt q (by omega)), r_0 (by decide), s10, show (0 : Int32) = nI 0 from rfl, r_awr (by omega) (by omega), nI_clamp (by omega)]
      rw [topP_app, Nat.max_eq_left (by omega)] at h3
      exact h3
    · rw [if_neg (nI_nlt (by omega) (by omega)), show (0 : Int32) = nI 0 from rfl, r_awr (by omega) (by omega), nI_clamp (by omega)]
      rw [topP_app, Nat.max_eq_right (by omega)] at h3
      show m_X7_readNet_L62 N at' (nI (2 * P.length)) rd past st f (nI (2 * (A.length + 1))) (upd s1 0 (nI (max p.1 p.2) + 1)) = _
      rw [nI_1]
      exact h3
