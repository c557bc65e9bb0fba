/-! both classes: paint, chain, exchange, complete -/
theorem x_setC {N i : Nat} {c : Nat → Int32} {v : Int32} (h : i < 21) : m_X2_setColour N c (nI i) v = some (upd c i v) := by
  unfold m_X2_setColour
  rw [x_put h (by decide), r_bind]
theorem ix32 (i : Nat) : (2 + (3 * nI i)) + 2 = nI (2 + 3 * i + 2) := ix3 i 2
theorem bs_0 {p : Nat → Bool} {T : Nat} (hT : T ≤ 21) : bs p T = 0 ↔ ct p T = 0 := by
  constructor
  · intro h
    have := pop_bs p 24 T (by omega)
    rw [h] at this
    rw [← this]
    decide
  · intro h
    have z := ct_0 h
    apply Nat.eq_of_testBit_eq
    intro i
    rw [tb_bs, Nat.zero_testBit]
    rcases Nat.lt_or_ge i T with q | q
    · rw [z i q, Bool.and_false]
    · rw [decide_eq_false (by omega), Bool.false_and]
theorem gcl_le (p : Nat → Bool) : gcl p ≤ 2 := by
  unfold gcl
  split
  · omega
  · split <;> omega
theorem gx_le (al : TH → Nat → Bool) : ∀ (Q : List TH) (U : UC) (i v : Nat), (gx al Q U)[i]? = some v → v ≤ 2
  | [], _, i, v, h => by cases i <;> cases h
  | x :: Q, U, 0, v, h => by
    have := Option.some.inj h
    rw [← this]
    exact gcl_le _
  | x :: Q, U, i + 1, v, h => gx_le al Q _ i v h
theorem chain_val {N K i j : Nat} {L : List TH} {e c s : Nat → Int32} (hN : 1000 ≤ N) (hW : WL K L) (hX : XL L e c) (hM : ML K L s) (hi : i < L.length) (hj : j < 3) (hne : j ≠ fc L i) (h3 : fc L i ≠ 3) : ∃ C, C < 2 ^ 21 ∧ m_X6_chain N (nI L.length) e c (nI i) (nI j) = some (nI C) ∧ m_X7_chainOf N s (nI i) (nI j) = some (nI C) ∧ ∀ u, u < L.length → C.testBit u = true → fc L u = fc L i ∨ fc L u = j := by
  have h21 := hW.len21
  have hw := hW.wt
  obtain ⟨hE, hC⟩ := XL_iff.mp hX
  have co3 := (hw.2 i hi).2.2
  obtain ⟨C, g1, g2, g3⟩ := m_chainOf (N := N) hN hw (ML_iff.mp hM) hi (show j < 4 by omega)
  obtain ⟨R, k1, k2, k3⟩ := x_chainSet (N := N) hN hw hE hC hi (show j < 4 by omega) g3
  refine ⟨C, g1, ?_, g2, fun u hu hb => ?_⟩
  · have n3 : ¬ nI (fc L i) = 3 := fun g => h3 ((nI_eq (b := 3) (by omega) (by decide)).mp g)
    have el : em (fl L) (fh L) i < 2 ^ 14 := em_lt (hw.2 i hi).1 (hw.2 i hi).2.1
    unfold m_X6_chain
    rw [x_hasThread h21, r_bind, if_pos (show ∃ i', i' < L.length ∧ nI i = nI i' from ⟨i, hi, rfl⟩), if_neg n10, x_colour h21 hC hi, r_bind, if_neg (nI_pos (by omega)), if_neg (show ¬ (3 : Int32) ≤ nI j from nI_ge (b := 3) hj (by decide)), if_neg (fun g => hne ((nI_eq (by omega) (by omega)).mp g)), if_neg n3, x_coloured hN h21 hC (by omega) (fun u hu => (hw.2 u hu).2.2), r_bind, x_coloured hN h21 hC (by omega) (fun u hu => (hw.2 u hu).2.2), r_bind]
    simp only [nm]
    rw [nor, bs_or, x_ends h21 hE hi, r_bind]
    have k2' : m_X5_reached N (nI L.length) e (nI (em (fl L) (fh L) i)) (nI (bs (fun u => fc L u == fc L i || fc L u == j) L.length)) = some (nI R) := k2
    rw [k2', r_bind, x_threadsAt hN h21 hE (by omega), r_bind, nand]
    have k3' : bs (fun u => fc L u == fc L i || fc L u == j) L.length &&& bs (fun u => em (fl L) (fh L) u &&& R != 0) L.length = C := k3
    rw [k3']
  · rw [← k3, Nat.testBit_and, Bool.and_eq_true, tb_bs, Bool.and_eq_true] at hb
    have := hb.1.2
    unfold two at this
    simpa using this
section CO
variable {N K : Nat} {L : List TH} {k t z k0 t0 k1 t1 k2 t2 k3 t3 st : Int32} {e c s past e0 c0 e1 c1 e2 c2 e3 c3 : Nat → Int32}
theorem b_paint (a b : Int32) (hN : 1000 ≤ N) (hR : RN K L k t e c s) (hH : RH z k0 t0 e0 c0 k1 t1 e1 c1 k2 t2 e2 c2 k3 t3 e3 c3 past st) : ∃ r c' z' k0' t0' e0' c0' k1' t1' e1' c1' k2' t2' e2' c2' k3' t3' e3' c3' s' past' st', m_X6_paint N k t e c z k0 t0 e0 c0 k1 t1 e1 c1 k2 t2 e2 c2 k3 t3 e3 c3 a b = some (r, c', z', k0', t0', e0', c0', k1', t1', e1', c1', k2', t2', e2', c2', k3', t3', e3', c3') ∧ m_X7_paint N s past st a b = some (r, s', past', st') ∧ (∃ K' L', RN K' L' k t e c' s') ∧ RH z' k0' t0' e0' c0' k1' t1' e1' c1' k2' t2' e2' c2' k3' t3' e3' c3' past' st' := by
  obtain ⟨z', k0', t0', e0', c0', k1', t1', e1', c1', k2', t2', e2', c2', k3', t3', e3', c3', past', st', p1, p2, p3⟩ := b_push hN hR hH
  have hR0 := hR
  obtain ⟨hW, rfl, rfl, hX, hM⟩ := hR
  have h21 := hW.len21
  have hS := ML_iff.mp hM
  have fail : ∀ r : Int32, m_X6_paint N (nI K) (nI L.length) e c z k0 t0 e0 c0 k1 t1 e1 c1 k2 t2 e2 c2 k3 t3 e3 c3 a b = some (r, c, z, k0, t0, e0, c0, k1, t1, e1, c1, k2, t2, e2, c2, k3, t3, e3, c3) → m_X7_paint N s past st a b = some (r, s, past, st) → ∃ r c' z' k0' t0' e0' c0' k1' t1' e1' c1' k2' t2' e2' c2' k3' t3' e3' c3' s' past' st', m_X6_paint N (nI K) (nI L.length) e c z k0 t0 e0 c0 k1 t1 e1 c1 k2 t2 e2 c2 k3 t3 e3 c3 a b = some (r, c', z', k0', t0', e0', c0', k1', t1', e1', c1', k2', t2', e2', c2', k3', t3', e3', c3') ∧ m_X7_paint N s past st a b = some (r, s', past', st') ∧ (∃ K' L', RN K' L' (nI K) (nI L.length) e c' s') ∧ RH z' k0' t0' e0' c0' k1' t1' e1' c1' k2' t2' e2' c2' k3' t3' e3' c3' past' st' := fun r f1 f2 => ⟨r, c, z, k0, t0, e0, c0, k1, t1, e1, c1, k2, t2, e2, c2, k3, t3, e3, c3, s, past, st, f1, f2, ⟨K, L, hR0⟩, hH⟩
  by_cases qa : ∃ i, i < L.length ∧ a = nI i
  · obtain ⟨i, hi, rfl⟩ := id qa
    obtain ⟨x, hx⟩ := some_of hi
    have f2 := ml_2 (N := N) h21 hM hx
    have f2 : m_X7_of N s (nI i) 2 = some (nI x.2.2) := f2
    have xc := x_colour (N := N) h21 (XL_iff.mp hX).2 hi
    rw [fc_some hx] at xc
    have o := hW.2.1 x (List.mem_of_getElem? hx)
    rcases pk_ix b (show 4 < 2 ^ 31 by decide) with q | q | ⟨j, hj, rfl⟩
    · refine fail (-2) ?_ ?_
      · unfold m_X6_paint
        rw [x_hasThread h21, r_bind, if_pos qa, if_neg n10, if_pos q]
      · unfold m_X7_paint
        rw [m_isThread h21 hS, r_bind, if_pos qa, if_neg n10, show m_X7_in N b 0 3 = some 0 from m_inF (n := 3) (Or.inl q), r_bind, if_pos rfl]
    · have q2 : nI 3 < b := by
        rw [fa_lt, nI_toInt (by decide)]
        rw [fa_le, nI_toInt (by decide)] at q
        omega
      refine fail (-2) ?_ ?_
      · unfold m_X6_paint
        rw [x_hasThread h21, r_bind, if_pos qa, if_neg n10, if_neg, if_neg]
        · exact fun g => (fa_of_lt q2).2.1 g
        · intro g
          rw [fa_lt] at g
          rw [fa_le, nI_toInt (by decide)] at q
          have z0 : (0 : Int32).toInt = 0 := rfl
          omega
      · unfold m_X7_paint
        rw [m_isThread h21 hS, r_bind, if_pos qa, if_neg n10, show m_X7_in N b 0 3 = some 0 from m_inF (n := 3) (Or.inr q2), r_bind, if_pos rfl]
    · have hin : m_X7_in N (nI j) 0 3 = some 1 := m_inT (n := 3) (by omega) (by decide)
      have le3 : nI j ≤ 3 := nI_le (b := 3) (by omega) (by decide)
      have o3 := o.2.2
      by_cases w : x.2.2 = j
      · refine fail (-5) ?_ ?_
        · unfold m_X6_paint
          rw [x_hasThread h21, r_bind, if_pos qa, if_neg n10, if_neg (nI_pos (by omega)), if_pos le3, xc, r_bind, if_pos (by rw [w])]
        · unfold m_X7_paint
          rw [m_isThread h21 hS, r_bind, if_pos qa, if_neg n10, hin, r_bind, if_neg n10, f2, r_bind, if_pos (by rw [w])]
      · have w' : ¬ nI x.2.2 = nI j := fun g => w ((nI_eq (by omega) (by omega)).mp g)
        refine ⟨nI x.2.2, upd c i (nI j), z', k0', t0', e0', c0', k1', t1', e1', c1', k2', t2', e2', c2', k3', t3', e3', c3', upd s (2 + 3 * i + 2) (nI j), past', st', ?_, ?_, ⟨K, L.set i (x.1, x.2.1, j), hW.col hx (by omega), rfl, by rw [List.length_set], XL_col hX hx, ML_col hM hx⟩, p3⟩
        · unfold m_X6_paint
          rw [x_hasThread h21, r_bind, if_pos qa, if_neg n10, if_neg (nI_pos (by omega)), if_pos le3, xc, r_bind, if_neg w', p1, r_bind]
          dsimp only
          rw [x_setC (by omega), r_bind]
        · unfold m_X7_paint
          rw [m_isThread h21 hS, r_bind, if_pos qa, if_neg n10, hin, r_bind, if_neg n10, f2, r_bind, if_neg w', p2, r_bind]
          dsimp only
          rw [ix32, r_awr (by omega) (by omega), nI_clamp (by omega)]
          rfl
  · refine fail (-1) ?_ ?_
    · unfold m_X6_paint
      rw [x_hasThread h21, r_bind, if_neg qa, if_pos rfl]
    · unfold m_X7_paint
      rw [m_isThread h21 hS, r_bind, if_neg qa, if_pos rfl]
/-- a chain, or why there is none -/
theorem both_chain (a b : Int32) (hN : 1000 ≤ N) (hW : WL K L) (hX : XL L e c) (hM : ML K L s) : (∃ r : Int32, r < 0 ∧ m_X6_chain N (nI L.length) e c a b = some r ∧ m_X7_whyNoChain N s a b = some r) ∨ ∃ i j C, a = nI i ∧ b = nI j ∧ i < L.length ∧ j < 3 ∧ j ≠ fc L i ∧ fc L i ≤ 3 ∧ C < 2 ^ 21 ∧ m_X6_chain N (nI L.length) e c a b = some (nI C) ∧ m_X7_whyNoChain N s a b = some 0 ∧ m_X7_chainOf N s a b = some (nI C) ∧ ∀ u, u < L.length → C.testBit u = true → fc L u = fc L i ∨ fc L u = j := by
  have h21 := hW.len21
  have hS := ML_iff.mp hM
  obtain ⟨hE, hC⟩ := XL_iff.mp hX
  by_cases qa : ∃ i, i < L.length ∧ a = nI i
  · obtain ⟨i, hi, rfl⟩ := id qa
    have co3 := (hW.wt.2 i hi).2.2
    have xc := x_colour (N := N) h21 hC hi
    have f2 : m_X7_of N s (nI i) 2 = some (nI (fc L i)) := m_of2 (N := N) h21 hS hi
    rcases pk_ix b (show 3 < 2 ^ 31 by decide) with q | q | ⟨j, hj, rfl⟩
    · refine Or.inl ⟨-2, by decide, ?_, ?_⟩
      · unfold m_X6_chain
        rw [x_hasThread h21, r_bind, if_pos qa, if_neg n10, xc, r_bind, if_pos q]
      · unfold m_X7_whyNoChain
        rw [m_isThread h21 hS, r_bind, if_pos qa, if_neg n10, f2, r_bind, show m_X7_in N b 0 2 = some 0 from m_inF (n := 2) (Or.inl q), r_bind, if_pos rfl]
    · have q2 : nI 2 < b := by
        rw [fa_lt, nI_toInt (by decide)]
        rw [fa_le, nI_toInt (by decide)] at q
        omega
      refine Or.inl ⟨-2, by decide, ?_, ?_⟩
      · unfold m_X6_chain
        rw [x_hasThread h21, r_bind, if_pos qa, if_neg n10, xc, r_bind, if_neg, if_pos (show (3 : Int32) ≤ b from q)]
        intro g
        rw [fa_lt] at g
        rw [fa_le, nI_toInt (by decide)] at q
        have z0 : (0 : Int32).toInt = 0 := rfl
        omega
      · unfold m_X7_whyNoChain
        rw [m_isThread h21 hS, r_bind, if_pos qa, if_neg n10, f2, r_bind, show m_X7_in N b 0 2 = some 0 from m_inF (n := 2) (Or.inr q2), r_bind, if_pos rfl]
    · have hin : m_X7_in N (nI j) 0 2 = some 1 := m_inT (n := 2) (by omega) (by decide)
      by_cases w : j = fc L i
      · refine Or.inl ⟨-2, by decide, ?_, ?_⟩
        · unfold m_X6_chain
          rw [x_hasThread h21, r_bind, if_pos qa, if_neg n10, xc, r_bind, if_neg (nI_pos (by omega)), if_neg (show ¬ (3 : Int32) ≤ nI j from nI_ge (b := 3) hj (by decide)), if_pos (by rw [w])]
        · unfold m_X7_whyNoChain
          rw [m_isThread h21 hS, r_bind, if_pos qa, if_neg n10, f2, r_bind, hin, r_bind, if_neg n10, if_pos (by rw [w])]
      · have w' : ¬ nI j = nI (fc L i) := fun g => w ((nI_eq (by omega) (by omega)).mp g)
        by_cases v : fc L i = 3
        · refine Or.inl ⟨-4, by decide, ?_, ?_⟩
          · unfold m_X6_chain
            rw [x_hasThread h21, r_bind, if_pos qa, if_neg n10, xc, r_bind, if_neg (nI_pos (by omega)), if_neg (show ¬ (3 : Int32) ≤ nI j from nI_ge (b := 3) hj (by decide)), if_neg w', if_pos (by rw [v]; rfl)]
          · unfold m_X7_whyNoChain
            rw [m_isThread h21 hS, r_bind, if_pos qa, if_neg n10, f2, r_bind, hin, r_bind, if_neg n10, if_neg w', if_pos (by rw [v]; rfl)]
        · obtain ⟨C, g1, g2, g3, g4⟩ := chain_val (N := N) hN hW hX hM hi hj w v
          refine Or.inr ⟨i, j, C, rfl, rfl, hi, hj, w, co3, g1, g2, ?_, g3, g4⟩
          unfold m_X7_whyNoChain
          rw [m_isThread h21 hS, r_bind, if_pos qa, if_neg n10, f2, r_bind, hin, r_bind, if_neg n10, if_neg w', if_neg (show ¬ nI (fc L i) = 3 from fun g => v ((nI_eq (b := 3) (by omega) (by decide)).mp g))]
  · refine Or.inl ⟨-1, by decide, ?_, ?_⟩
    · unfold m_X6_chain
      rw [x_hasThread h21, r_bind, if_neg qa, if_pos rfl]
    · unfold m_X7_whyNoChain
      rw [m_isThread h21 hS, r_bind, if_neg qa, if_pos rfl]
theorem lt0 {r : Int32} (h : r < 0) : ¬ 0 ≤ r := (fa_of_lt h).2.1
theorem b_chain (a b : Int32) (hN : 1000 ≤ N) (hR : RN K L k t e c s) : ∃ r, m_X6_chain N t e c a b = some r ∧ m_X7_chain N s a b = some r := by
  obtain ⟨hW, rfl, rfl, hX, hM⟩ := hR
  unfold m_X7_chain
  rcases both_chain (N := N) a b hN hW hX hM with ⟨r, h1, h2, h3⟩ | ⟨i, j, C, -, -, -, -, -, -, hC, h2, h3, h4, -⟩
  · exact ⟨r, h2, by rw [h3, r_bind, if_neg (lt0 h1)]⟩
  · exact ⟨nI C, h2, by rw [h3, r_bind, if_pos (by decide), h4, r_bind]⟩
theorem b_exchange (a b : Int32) (hN : 1000 ≤ N) (hR : RN K L k t e c s) (hH : RH z k0 t0 e0 c0 k1 t1 e1 c1 k2 t2 e2 c2 k3 t3 e3 c3 past st) : ∃ r c' z' k0' t0' e0' c0' k1' t1' e1' c1' k2' t2' e2' c2' k3' t3' e3' c3' s' past' st', m_X6_exchange N k t e c z k0 t0 e0 c0 k1 t1 e1 c1 k2 t2 e2 c2 k3 t3 e3 c3 a b = some (r, c', z', k0', t0', e0', c0', k1', t1', e1', c1', k2', t2', e2', c2', k3', t3', e3', c3') ∧ m_X7_exchange N s past st a b = some (r, s', past', st') ∧ (∃ K' L', RN K' L' k t e c' s') ∧ RH z' k0' t0' e0' c0' k1' t1' e1' c1' k2' t2' e2' c2' k3' t3' e3' c3' past' st' := by
  obtain ⟨z', k0', t0', e0', c0', k1', t1', e1', c1', k2', t2', e2', c2', k3', t3', e3', c3', past', st', p1, p2, p3⟩ := b_push hN hR hH
  have hR0 := hR
  obtain ⟨hW, rfl, rfl, hX, hM⟩ := hR
  have h21 := hW.len21
  have hS := ML_iff.mp hM
  rcases both_chain (N := N) a b hN hW hX hM with ⟨r, h1, h2, h3⟩ | ⟨i, j, C, rfl, rfl, hi, hj, hne, co3, hC, h2, h3, h4, h5⟩
  · refine ⟨r, c, z, k0, t0, e0, c0, k1, t1, e1, c1, k2, t2, e2, c2, k3, t3, e3, c3, s, past, st, ?_, ?_, ⟨K, L, hR0⟩, hH⟩
    · unfold m_X6_exchange
      rw [h2, r_bind, if_neg (lt0 h1)]
    · unfold m_X7_exchange
      rw [h3, r_bind, if_neg (lt0 h1)]
  · obtain ⟨c', g1, g2⟩ := x_swap (N := N) (a := fc L i) (b := j) hN h21 hX (show C < 2 ^ 31 by omega) ⟨co3, by omega⟩ h5 (fun g => hne g.symm)
    obtain ⟨s', g3, g4⟩ := m_swap (β := Nat) (N := N) (a := fc L i) (b := j) (J := fun (f_s_10 : Nat → Int32) => (Option.bind (m_X7_ones N (nI C)) (fun r_11 => some (r_11, f_s_10, past', st')) : Option (Int32 × (Nat → Int32) × (Nat → Int32) × Int32))) hN h21 hM (show C < 2 ^ 31 by omega) ⟨co3, by omega⟩ (fun x hx => (hW.2.1 x hx).2.2)
    have hW2 : WL K (rc (swp C (fc L i) j L) L.length L) := hW.rc (fun u hu => by
      have := (hW.wt.2 u hu).2.2
      have : fc L u ≤ 3 := this
      unfold swp
      split
      · split <;> omega
      · omega)
    have pl := pop_le 31 C
    refine ⟨nI (pop 24 C), c', z', k0', t0', e0', c0', k1', t1', e1', c1', k2', t2', e2', c2', k3', t3', e3', c3', s', past', st', ?_, ?_, ⟨K, rc (swp C (fc L i) j L) L.length L, hW2, rfl, by rw [rc_len], g2, g4⟩, p3⟩
    · unfold m_X6_exchange
      rw [h2, r_bind, if_pos (nI_pos' (by omega)), p1, r_bind]
      dsimp only
      rw [x_colour h21 (XL_iff.mp hX).2 hi, r_bind, nI_add, g1, r_bind, m_bitCount (by omega), r_bind]
    · unfold m_X7_exchange
      rw [h3, r_bind, if_pos (by decide), p2, r_bind]
      dsimp only
      rw [show m_X7_of N s (nI i) 2 = some (nI (fc L i)) from m_of2 (N := N) h21 hS hi, r_bind, h4, r_bind]
      simp only [jn]
      refine Eq.trans g3 ?_
      rw [r_ones hN (by omega) (by omega), r_bind, pop_same (by omega)]
theorem b_complete {b l g so bes f tries first : Nat → Int32} {p0 gr0 : Int32} (hN : NB ≤ N) (hR : RN K L k t e c s) (hH : RH z k0 t0 e0 c0 k1 t1 e1 c1 k2 t2 e2 c2 k3 t3 e3 c3 past st) : ∃ r c' z' k0' t0' e0' c0' k1' t1' e1' c1' k2' t2' e2' c2' k3' t3' e3' c3' b' l' g' p' so' gr' bes' f' s' past' st' tries' first', m_X6_complete N k t e c z k0 t0 e0 c0 k1 t1 e1 c1 k2 t2 e2 c2 k3 t3 e3 c3 b l g p0 so gr0 bes f = some (r, c', z', k0', t0', e0', c0', k1', t1', e1', c1', k2', t2', e2', c2', k3', t3', e3', c3', b', l', g', p', so', gr', bes', f') ∧ m_X7_complete N s past st tries first = some (r, s', past', st', tries', first') ∧ (∃ K' L', RN K' L' k t e c' s') ∧ RH z' k0' t0' e0' c0' k1' t1' e1' c1' k2' t2' e2' c2' k3' t3' e3' c3' past' st' := by
  have N1 := NB_le hN
  obtain ⟨z', k0', t0', e0', c0', k1', t1', e1', c1', k2', t2', e2', c2', k3', t3', e3', c3', past', st', p1, p2, p3⟩ := b_push N1 hR hH
  have hR0 := hR
  obtain ⟨hW, rfl, rfl, hX, hM⟩ := hR
  have h21 := hW.len21
  have hS := ML_iff.mp hM
  obtain ⟨hE, hC⟩ := XL_iff.mp hX
  obtain ⟨b', l', g', p', so', gr', bes', f', h1, h2⟩ := x_findFirst (b := b) (l := l) (g := g) (st := so) (bes := bes) (p0 := p0) (gr0 := gr0) (f := f) (keep := true) N1 hW hX
  obtain ⟨t', f2, h3, h4⟩ := m_paintsB (tries := tries) (first := first) (keep := true) (skip := 0) hN hW hM (by decide)
  have fe1 : m_X3_findFirst N b l g p0 so gr0 bes f (nI L.length) e c 1 = m_X3_findFirst N b l g p0 so gr0 bes f (nI L.length) e c (bI true) := rfl
  have fe2 : m_X7_paints N s tries first 1 0 1 = m_X7_paints N s tries first (bI true) (nI 0) (bI true) := rfl
  have col : m_X2_coloured N (nI L.length) c 3 = some (nI (bs (fun t => fc L t == 3) L.length)) := x_coloured (v := 3) N1 h21 hC (by decide) (fun u hu => (hW.wt.2 u hu).2.2)
  have pl := m_plainOnes (N := N) N1 hW.wt hS
  have bl := bs_lt21 (fun t => fc L t == 3) h21
  have cl := ct_le (fun t => fc L t == 3) L.length
  unfold m_X6_complete m_X7_complete
  rw [col, r_bind, fe1, fe2, h1, h3, r_bind, r_bind]
  by_cases q : 0 < cntA L true
  · have q2 : 0 < cq (alK true) (qs L 0 (rgf L.length 0)) U0 := q
    rw [if_pos q, if_pos q2]
    dsimp only
    rw [if_neg n10, if_neg n10, pl, r_bind]
    by_cases w : ct (fun t => fc L t == 3) L.length = 0
    · have w2 := (bs_0 h21).mpr w
      rw [w, w2]
      exact ⟨-5, c, z, k0, t0, e0, c0, k1, t1, e1, c1, k2, t2, e2, c2, k3, t3, e3, c3, b', l', g', p', so', gr', bes', f', s, past, st, t', f2, rfl, rfl, ⟨K, L, hR0⟩, hH⟩
    · have w2 : ¬ bs (fun t => fc L t == 3) L.length = 0 := fun g => w ((bs_0 h21).mp g)
      rw [if_neg (fun g => w2 ((nI_eq0 (by omega)).mp g)), if_neg (fun g => w ((nI_eq0 (by omega)).mp g)), p1, p2, r_bind, r_bind]
      -- the colours of the first painting
      have val : ∀ i, i < L.length → ∃ v, v ≤ 2 ∧ (gx (alK true) (qs L 0 (rgf L.length 0)) U0).getD i 0 = v ∧ f' i = nI v ∧ f2 i = nI v := by
        intro i hi
        obtain ⟨v, hv⟩ := gx_at (keep := true) hi
        exact ⟨v, gx_le _ _ _ i v hv, getD_at hv, h2 q i v hv, h4 q2 rfl i v hv⟩
      have hW2 : WL K (rc (fun i => (gx (alK true) (qs L 0 (rgf L.length 0)) U0).getD i 0) L.length L) := hW.rc (fun u hu => by
        obtain ⟨v, v1, v2, -⟩ := val u hu
        rw [v2]
        omega)
      obtain ⟨c', g1, g2⟩ := for_inv (fun n i a => m_X6_complete_L47 N (nI L.length) f' (fun (f_net_colours_31 : Nat → Int32) => (Option.bind (m_J6_bitCount_0f7a4 N (nI (bs (fun t => fc L t == 3) L.length))) (fun r_32 => some (r_32, f_net_colours_31, z', k0', t0', e0', c0', k1', t1', e1', c1', k2', t2', e2', c2', k3', t3', e3', c3', b', l', g', p', so', gr', bes', f')))) n (nI i) a) (fun i a => XL (rc (fun i => (gx (alK true) (qs L 0 (rgf L.length 0)) U0).getD i 0) i L) e a) L.length (fun a => some (nI (ct (fun t => fc L t == 3) L.length), a, z', k0', t0', e0', c0', k1', t1', e1', c1', k2', t2', e2', c2', k3', t3', e3', c3', b', l', g', p', so', gr', bes', f'))
        (by
          intro n a _
          show m_X6_complete_L47 N (nI L.length) f' _ (n + 1) (nI L.length) a = _
          rw [m_X6_complete_L47, th_, r_bind, if_pos (nI_le (Nat.le_refl _) (by omega)), m_bitCount (by omega), r_bind, pop_bs _ _ _ (by omega)])
        (by
          intro n i a hi ha
          obtain ⟨v, v1, v2, v3, v4⟩ := val i hi
          obtain ⟨x, hx⟩ := some_of hi
          refine ⟨upd a i (nI v), ?_, by have := XL_rc ha hx; rw [v2] at this; exact this⟩
          show m_X6_complete_L47 N (nI L.length) f' _ (n + 1) (nI i) a = _
          rw [m_X6_complete_L47, th_, r_bind, if_neg (nI_ge hi (by omega))]
          unfold m_X3_foundColour
          rw [x_at (by omega) (by decide), r_bind, r_bind, v3, x_setC (by omega), r_bind, nI_1])
        L.length N 0 c (by omega) (by omega) (by rw [rc_0]; exact hX)
      obtain ⟨s', g3, g4⟩ := for_inv (fun n i a => m_X7_complete_L31 N t' f2 (nI (ct (fun t => fc L t == 3) L.length)) past' st' n (nI i) a) (fun i a => ML K (rc (fun i => (gx (alK true) (qs L 0 (rgf L.length 0)) U0).getD i 0) i L) a) L.length (fun a => some (nI (ct (fun t => fc L t == 3) L.length), a, past', st', t', f2))
        (by
          intro n a ha
          show m_X7_complete_L31 N t' f2 _ past' st' (n + 1) (nI L.length) a = _
          rw [m_X7_complete_L31, r_1 (by decide), ha.2.1, rc_len, if_pos (nI_le (Nat.le_refl _) (by omega))])
        (by
          intro n i a hi ha
          obtain ⟨v, v1, v2, v3, v4⟩ := val i hi
          obtain ⟨x, hx⟩ := some_of hi
          refine ⟨upd a (2 + 3 * i + 2) (nI v), ?_, by have := ML_rc ha hx; rw [v2] at this; exact this⟩
          show m_X7_complete_L31 N t' f2 _ past' st' (n + 1) (nI i) a = _
          rw [m_X7_complete_L31, r_1 (by decide), ha.2.1, rc_len, if_neg (nI_ge hi (by omega)), r_ard (by omega) (by omega), v4, ix32, r_awr (by omega) (by omega), nI_clamp (by omega), nI_1]
          rfl)
        L.length N 0 s (by omega) (by omega) (by rw [rc_0]; exact hM)
      refine ⟨nI (ct (fun t => fc L t == 3) L.length), c', z', k0', t0', e0', c0', k1', t1', e1', c1', k2', t2', e2', c2', k3', t3', e3', c3', b', l', g', p', so', gr', bes', f', s', past', st', t', f2, ?_, ?_, ⟨K, _, hW2, rfl, by rw [rc_len], g1, g3⟩, p3⟩
      · exact g2
      · exact g4
  · have q2 : ¬ 0 < cq (alK true) (qs L 0 (rgf L.length 0)) U0 := q
    rw [if_neg q, if_neg q2]
    exact ⟨-4, c, z, k0, t0, e0, c0, k1, t1, e1, c1, k2, t2, e2, c2, k3, t3, e3, c3, b', l', g', p', so', gr', bes', f', s, past, st, t', f2, rfl, rfl, ⟨K, L, hR0⟩, hH⟩
end CO
