-- shrinking: both ways to one list
theorem filt_cnt {p q : TH → Bool} {P : List TH} (h : P.countP p = 1) (hpq : ∀ y ∈ P, p y = true → q y = true) : (P.filter q).countP p = 1 := by
  rw [List.countP_filter, ← h]
  apply List.countP_congr
  intro y hy
  simp
  exact fun w => hpq y hy w
theorem drp_self {k : Nat} {Q : List TH} (h : ∀ x ∈ Q, atk k x = false) : drp k Q = Q.map (rnx k) := by
  unfold drp
  rw [List.filter_eq_self.mpr (fun x hx => by rw [h x hx]; rfl)]
theorem rn_a {a b v : Nat} (hab : a < b) (hv : v ≠ b) : (rn b v == a) = (v == a) := by
  unfold rn
  rw [Bool.eq_iff_iff, beq_iff_eq, beq_iff_eq]
  split <;> omega
theorem atk_rnx {a b : Nat} {y : TH} (hab : a < b) (hy : atk b y = false) : atk a (rnx b y) = atk a y := by
  unfold atk at hy
  simp at hy
  unfold atk rnx
  rw [rn_a hab hy.1, rn_a hab hy.2]
theorem left_no {k a b : Nat} {L : List TH} : (∀ x ∈ left k a b L, atk b x = false) ∧ ∀ x ∈ left k a b L, atk a x = false := ⟨fun y hy => by obtain ⟨-, -, -, -, -, h⟩ := left_mem hy; exact h, fun y hy => by obtain ⟨-, -, -, -, h, -⟩ := left_mem hy; exact h⟩
theorem left_no2 {k a b : Nat} {L : List TH} (hab : a < b) : ∀ x ∈ (left k a b L).map (rnx b), atk a x = false := by
  intro y hy
  rw [List.mem_map] at hy
  obtain ⟨x, hx, rfl⟩ := hy
  rw [atk_rnx hab (left_no.1 x hx)]
  exact left_no.2 x hx
def shrunk (k a b : Nat) (L : List TH) : List TH := ((left k a b L).map (rnx b)).map (rnx a)
theorem shrunk_drp {k a b : Nat} {L : List TH} (hab : a < b) : drp a (drp b (left k a b L)) = shrunk k a b L := by
  rw [drp_self left_no.1, drp_self (left_no2 hab)]
  rfl
theorem drp_shrunk {k a b : Nat} {L : List TH} (hab : a < b) : drp a (drp b (L.map (ldx k a b))) = shrunk k a b L := by
  unfold shrunk
  have e : left k a b L = ((L.map (ldx k a b)).filter (fun x => !atk b x)).filter ((fun x => !atk a x) ∘ rnx b) := by
    unfold left
    rw [List.filter_filter]
    apply List.filter_congr
    intro y _
    cases q : atk b y with
    | true => simp
    | false => simp [atk_rnx hab q]
  rw [e]
  unfold drp
  rw [List.filter_map]
theorem shrunk_WL {K k a b tk ta tb : Nat} {L : List TH} {xk xa xb : TH} (h : Tri K L k a b tk ta tb xk xa xb) (hn : ¬ (oth a xa = oth b xb ∨ oth a xa = oth k xk ∨ oth b xb = oth k xk)) : WL (K - 1 - 1) (shrunk k a b L) := by
  have h1 := h.2.1
  rw [← shrunk_drp h1.2.1]
  exact ((left_WL h hn).drop h1.2.2.1).drop (by omega)
theorem left_three {K k a b tk ta tb : Nat} {L : List TH} {xk xa xb : TH} (h : Tri K L k a b tk ta tb xk xa xb) : (((L.map (ldx k a b)).filter (fun x => !lnk k a x)).filter (fun x => !lnk k b x)).filter (fun x => !lnk a b x) = left k a b L := by
  unfold left
  rw [List.filter_filter, List.filter_filter]
  apply List.filter_congr
  intro y hy
  rw [List.mem_map] at hy
  obtain ⟨x, hx, rfl⟩ := hy
  obtain ⟨i, hi⟩ := List.mem_iff_getElem?.mp hx
  rw [← led_at h hi]
  cases lnk k a (ldx k a b x) <;> cases lnk k b (ldx k a b x) <;> cases lnk a b (ldx k a b x) <;> rfl
theorem m_three {N K k a b tk ta tb : Nat} {L : List TH} {xk xa xb : TH} {s : Nat → Int32} (hN : 1000 ≤ N) (h : Tri K L k a b tk ta tb xk xa xb) (hM : ML K (L.map (ldx k a b)) s) : ∃ r1 s1 r2 s2 r3 s3 s4 s5, m_X7_threadBetween N s (nI k) (nI a) = some r1 ∧ m_X7_dropThread N s r1 = some s1 ∧ m_X7_threadBetween N s1 (nI k) (nI b) = some r2 ∧ m_X7_dropThread N s1 r2 = some s2 ∧ m_X7_threadBetween N s2 (nI a) (nI b) = some r3 ∧ m_X7_dropThread N s2 r3 = some s3 ∧ m_X7_dropKnot N s3 (nI b) = some s4 ∧ m_X7_dropKnot N s4 (nI a) = some s5 ∧ ML (K - 1 - 1) (shrunk k a b L) s5 := by
  obtain ⟨hW, ⟨hk, hab, hb, hak, hbk⟩, ⟨i1, i2, i3⟩, -⟩ := id h
  have hK := hW.1
  have h21 := hW.len21
  have c1 := led_cnt (c := k) (d := a) h (tr_in.mpr (by omega)) (tr_in.mpr (by omega)) (by omega) i1
  have c2 := led_cnt (c := k) (d := b) h (tr_in.mpr (by omega)) (tr_in.mpr (by omega)) (by omega) i2
  have c3 := led_cnt (c := a) (d := b) h (tr_in.mpr (by omega)) (tr_in.mpr (by omega)) (by omega) i3
  have okP : ∀ x ∈ L.map (ldx k a b), okx K x := fun y hy => by
    rw [List.mem_map] at hy
    obtain ⟨x, hx, rfl⟩ := hy
    exact ldx_ok (hW.2.1 x hx) hk
  have lP : (L.map (ldx k a b)).length ≤ 21 := by rw [List.length_map]; exact h21
  have t3 := left_three h
  generalize hP : L.map (ldx k a b) = P at *
  have other : ∀ c d c' d', (c ≠ c' ∨ d ≠ d') → (c ≠ d' ∨ d ≠ c') → ∀ y ∈ P, lnk c d y = true → (!lnk c' d' y) = true := by
    intro c d c' d' n1 n2 y hy hl
    cases q : lnk c' d' y with
    | false => rfl
    | true =>
      rw [lnk_iff (okP y hy)] at hl q
      omega
  have f2 := filt_cnt c2 (other k b k a (by omega) (by omega))
  have f3 := filt_cnt c3 (other a b k a (by omega) (by omega))
  have f4 := filt_cnt f3 (fun y hy => other a b k b (by omega) (by omega) y (List.mem_filter.mp hy).1)
  obtain ⟨r1, s1, g1, g2, g3⟩ := m_inner hN lP hK okP hM (show k < 14 by omega) (show a < 14 by omega) (ks1_of c1)
  have okA : ∀ x ∈ P.filter (fun x => !lnk k a x), okx K x := fun x hx => okP x (List.mem_filter.mp hx).1
  have lA : (P.filter (fun x => !lnk k a x)).length ≤ 21 := Nat.le_trans (List.length_filter_le _ _) lP
  obtain ⟨r2, s2, g4, g5, g6⟩ := m_inner hN lA hK okA g3 (show k < 14 by omega) (show b < 14 by omega) (ks1_of f2)
  have okB : ∀ x ∈ (P.filter (fun x => !lnk k a x)).filter (fun x => !lnk k b x), okx K x := fun x hx => okA x (List.mem_filter.mp hx).1
  have lB : ((P.filter (fun x => !lnk k a x)).filter (fun x => !lnk k b x)).length ≤ 21 := Nat.le_trans (List.length_filter_le _ _) lA
  obtain ⟨r3, s3, g7, g8, g9⟩ := m_inner hN lB hK okB g6 (show a < 14 by omega) (show b < 14 by omega) (ks1_of f4)
  have okC : ∀ x ∈ ((P.filter (fun x => !lnk k a x)).filter (fun x => !lnk k b x)).filter (fun x => !lnk a b x), okx K x := fun x hx => okB x (List.mem_filter.mp hx).1
  have lC : (((P.filter (fun x => !lnk k a x)).filter (fun x => !lnk k b x)).filter (fun x => !lnk a b x)).length ≤ 21 := Nat.le_trans (List.length_filter_le _ _) lB
  rw [t3] at okC lC g9
  obtain ⟨s4, g10, g11⟩ := m_dropKnot hN lC okC hK hb left_no.1 g9
  have okD : ∀ x ∈ (left k a b L).map (rnx b), okx (K - 1) x := by
    rw [← drp_self left_no.1]
    exact drp_ok okC hb
  obtain ⟨s5, g12, g13⟩ := m_dropKnot (K := K - 1) (k := a) hN (by rw [List.length_map]; exact lC) okD (by omega) (by omega) (left_no2 hab) g11
  exact ⟨r1, s1, r2, s2, r3, s3, s4, s5, g1, g2, g4, g5, g7, g8, g10, g12, g13⟩
