/-! both classes: addThread, grow, join, shrink -/
theorem low2 {a b : Nat} (hab : a < b) (hb : b < 14) : (2 ^ a + 2 ^ b) &&& ((2 ^ a + 2 ^ b) - 1) = 2 ^ b := by
  have l : 2 ^ a + 2 ^ b < 2 ^ 31 := by
    have := p2lt hab
    have := p2lt (show b < 29 by omega)
    omega
  have p : 0 < 2 ^ a + 2 ^ b := Nat.add_pos_left (Nat.two_pow_pos _) _
  have la : lb 31 (2 ^ a + 2 ^ b) = a := lb2 hab (by omega)
  have d := lb_da 31 _ l p
  rw [la] at d
  have q1 := lb_pred 31 _ l p
  rw [la] at q1
  apply Nat.eq_of_testBit_eq
  intro i
  have di := tb_ad (2 ^ a + 2 ^ b) (2 ^ a + 2 ^ b - 1) i
  rw [d, t2 hab] at di
  rw [Nat.testBit_and, t2 hab, Nat.testBit_two_pow]
  rw [Nat.testBit_two_pow] at di
  by_cases e1 : a = i
  · subst e1
    rw [q1, Bool.and_false]
    exact (decide_eq_false (by omega)).symm
  · by_cases e2 : b = i
    · subst e2
      rw [decide_eq_false e1] at di
      have : (a == b || b == b) = true := by simp
      rw [this, Bool.true_and] at di ⊢
      rw [decide_eq_true rfl]
      cases w : (2 ^ a + 2 ^ b - 1).testBit b with
      | true => rfl
      | false => rw [w] at di; cases di
    · have : (a == i || b == i) = false := by simp [e1, e2]
      rw [this, Bool.false_and]
      exact (decide_eq_false e2).symm
theorem leads.one {K c d e' t f : Nat} {L : List TH} {x : TH} (h : leads L c d e' t x) (hf : f = oth c x) : L[t]? = some x ∧ lnk c f x = true ∧ ∀ j z, L[j]? = some z → lnk c f z = true → j = t := by
  obtain ⟨h1, h2, h3, h4, h5⟩ := h
  refine ⟨h1, by unfold lnk; rw [h2, hf]; simp, fun j z hj hz => ?_⟩
  unfold lnk at hz
  rw [Bool.and_eq_true, beq_iff_eq] at hz
  rcases h5 j z hj hz.1 with w | w | w
  · rw [hz.2, hf] at w; exact (h3 w).elim
  · rw [hz.2, hf] at w; exact (h4 w).elim
  · exact w
section AC
variable {N K : Nat} {L : List TH} {k t z k0 t0 k1 t1 k2 t2 k3 t3 st : Int32} {e c s past e0 c0 e1 c1 e2 c2 e3 c3 : Nat → Int32}
theorem joins_comm (lo hi : Nat → Nat) (t a b : Nat) : joins lo hi t a b = joins lo hi t b a := by
  unfold joins
  rw [Bool.or_comm]
theorem sel3 (b : Bool) : ¬ (if b = true then (1 : Int32) else 0) = 0 ↔ b = true := by cases b <;> simp
theorem b_addThread (a b : Int32) (hN : 1000 ≤ N) (hR : RN K L k t e c s) (hH : RH z k0 t0 e0 c0 k1 t1 e1 c1 k2 t2 e2 c2 k3 t3 e3 c3 past st) : ∃ r t' e' c' z' k0' t0' e0' c0' k1' t1' e1' c1' k2' t2' e2' c2' k3' t3' e3' c3' s' past' st', m_X6_addThread N k t e c z k0 t0 e0 c0 k1 t1 e1 c1 k2 t2 e2 c2 k3 t3 e3 c3 a b = some (r, t', e', c', z', k0', t0', e0', c0', k1', t1', e1', c1', k2', t2', e2', c2', k3', t3', e3', c3') ∧ m_X7_addThread N s past st a b = some (r, s', past', st') ∧ (∃ K' L', RN K' L' k t' e' c' s') ∧ RH z' k0' t0' e0' c0' k1' t1' e1' c1' k2' t2' e2' c2' k3' t3' e3' c3' past' st' := by
  obtain ⟨z', k0', t0', e0', c0', k1', t1', e1', c1', k2', t2', e2', c2', k3', t3', e3', c3', past', st', p1, p2, pz3⟩ := b_push hN hR hH
  have hR0 := hR
  obtain ⟨hW, rfl, rfl, hX, hM⟩ := hR
  have hK := hW.1
  have h21 := hW.len21
  have hS := ML_iff.mp hM
  have fail : ∀ r : Int32, m_X6_addThread N (nI K) (nI L.length) e c z k0 t0 e0 c0 k1 t1 e1 c1 k2 t2 e2 c2 k3 t3 e3 c3 a b = some (r, nI L.length, e, c, z, k0, t0, e0, c0, k1, t1, e1, c1, k2, t2, e2, c2, k3, t3, e3, c3) → m_X7_addThread N s past st a b = some (r, s, past, st) → ∃ r t' e' c' z' k0' t0' e0' c0' k1' t1' e1' c1' k2' t2' e2' c2' k3' t3' e3' c3' s' past' st', m_X6_addThread N (nI K) (nI L.length) e c z k0 t0 e0 c0 k1 t1 e1 c1 k2 t2 e2 c2 k3 t3 e3 c3 a b = some (r, t', e', c', z', k0', t0', e0', c0', k1', t1', e1', c1', k2', t2', e2', c2', k3', t3', e3', c3') ∧ m_X7_addThread N s past st a b = some (r, s', past', st') ∧ (∃ K' L', RN K' L' (nI K) t' e' c' s') ∧ RH z' k0' t0' e0' c0' k1' t1' e1' c1' k2' t2' e2' c2' k3' t3' e3' c3' past' st' := fun r f1 f2 => ⟨r, nI L.length, e, c, z, k0, t0, e0, c0, k1, t1, e1, c1, k2, t2, e2, c2, k3, t3, e3, c3, s, past, st, f1, f2, ⟨K, L, hR0⟩, hH⟩
  by_cases qa : ∃ i, i < K ∧ a = nI i
  · by_cases qb : ∃ i, i < K ∧ b = nI i
    · by_cases qab : a = b
      · refine fail (-2) ?_ ?_
        · unfold m_X6_addThread
          rw [x_hasKnot (by omega), x_hasKnot (by omega), r_bind, if_pos qa, if_neg n10, r_bind, if_pos qb, if_neg n10, if_pos qab]
        · unfold m_X7_addThread
          rw [m_isKnot hK hS, m_isKnot hK hS, r_bind, if_pos qa, if_neg n10, r_bind, if_pos qb, if_neg n10, if_pos qab]
      · obtain ⟨i, hi, rfl⟩ := id qa
        obtain ⟨j, hj, rfl⟩ := id qb
        have hij : i ≠ j := fun g => qab (by rw [g])
        have vv : nI (2 ^ i) ||| nI (2 ^ j) = nI (2 ^ min i j + 2 ^ max i j) := by rw [nor, two_mm hij]
        have mt := x_mayTie (N := N) (a := min i j) (b := max i j) hN hW hX (by omega) (by omega)
        obtain ⟨R, f1, f2⟩ := m_find2 (N := N) hN hW.wt hS (show i < 14 by omega) (show j < 14 by omega)
        have d1 := m_degree (N := N) hN hW.wt hS (show i < 2 ^ 31 by omega)
        have d2 := m_degree (N := N) hN hW.wt hS (show j < 2 ^ 31 by omega)
        rw [deg_L] at d1 d2
        have g1 := hW.2.2.2 i
        have g2 := hW.2.2.2 j
        have jj : an (fun t => joins (fl L) (fh L) t (min i j) (max i j)) L.length = jn2 L.length (fl L) (fh L) i j := by
          unfold jn2
          apply an_cong
          intro t ht
          rcases Nat.lt_or_ge i j with w | w
          · rw [show min i j = i by omega, show max i j = j by omega]
          · rw [show min i j = j by omega, show max i j = i by omega, joins_comm]
        have tk : tieOK L (min i j) (max i j) = (!jn2 L.length (fl L) (fh L) i j && decide (L.countP (atk i) < 3) && decide (L.countP (atk j) < 3)) := by
          unfold tieOK
          rw [jj]
          rcases Nat.lt_or_ge i j with w | w
          · rw [show min i j = i by omega, show max i j = j by omega]
          · rw [show min i j = j by omega, show max i j = i by omega, Bool.and_assoc, Bool.and_assoc, Bool.and_comm (decide (L.countP (atk j) < 3))]
        have e3n : ∀ x, x ≤ 3 → (nI x = 3 ↔ x = 3) := fun x hx => nI_eq (b := 3) (by omega) (by decide)
        by_cases ok : tieOK L (min i j) (max i j) = true
        · have hW2 := (tie_WL hW (show min i j < max i j by omega) (show max i j < K by omega)).mp ok
          have l2 := hW2.len21
          rw [List.length_append, List.length_singleton] at l2
          obtain ⟨e', c', g3, g4⟩ := x_tie (N := N) (a := min i j) (b := max i j) (show L.length ≤ 20 by omega) hX rfl
          obtain ⟨s', g5, g6⟩ := m_adds (N := N) (a := i) (b := j) (show L.length ≤ 20 by omega) hM (by omega) (by omega)
          have ok2 := ok
          rw [tk, Bool.and_eq_true, Bool.and_eq_true, Bool.not_eq_true', decide_eq_true_iff, decide_eq_true_iff] at ok2
          have len : (L ++ [(min i j, max i j, 3)]).length = L.length + 1 := by rw [List.length_append, List.length_singleton]
          refine ⟨nI L.length, nI (L ++ [(min i j, max i j, 3)]).length, e', c', z', k0', t0', e0', c0', k1', t1', e1', c1', k2', t2', e2', c2', k3', t3', e3', c3', s', past', st', ?_, ?_, ⟨K, L ++ [(min i j, max i j, 3)], hW2, rfl, rfl, g4, g6⟩, pz3⟩
          · unfold m_X6_addThread
            rw [x_hasKnot (by omega), x_hasKnot (by omega), r_bind, if_pos qa, if_neg n10, r_bind, if_pos qb, if_neg n10, if_neg qab, m_bit (by omega), r_bind, m_bit (by omega), r_bind]
            simp only [nm]
            rw [vv, mt, r_bind, if_pos ok, if_neg n10, p1, r_bind]
            dsimp only
            rw [g3, r_bind]
            dsimp only
            rw [th_, r_bind, len, nI_pred]
          · unfold m_X7_addThread
            rw [m_isKnot hK hS, m_isKnot hK hS, r_bind, if_pos qa, if_neg n10, r_bind, if_pos qb, if_neg n10, if_neg qab, f1, r_bind, if_neg, d1, r_bind, if_neg, d2, r_bind, if_neg, p2, r_bind]
            · dsimp only
              rw [g5, r_bind, r_1 (by decide), g6.2.1, len, nI_pred]
            · rw [e3n _ g2]; omega
            · rw [e3n _ g1]; omega
            · have := f2.mpr ok2.1.1
              rw [fa_lt] at this
              rw [fa_le]
              have z0 : (0 : Int32).toInt = 0 := rfl
              omega
        · refine fail (-4) ?_ ?_
          · unfold m_X6_addThread
            rw [x_hasKnot (by omega), x_hasKnot (by omega), r_bind, if_pos qa, if_neg n10, r_bind, if_pos qb, if_neg n10, if_neg qab, m_bit (by omega), r_bind, m_bit (by omega), r_bind]
            simp only [nm]
            rw [vv, mt, r_bind, if_neg ok, if_pos rfl]
          · unfold m_X7_addThread
            rw [m_isKnot hK hS, m_isKnot hK hS, r_bind, if_pos qa, if_neg n10, r_bind, if_pos qb, if_neg n10, if_neg qab, f1, r_bind]
            by_cases w : 0 ≤ R
            · rw [if_pos w]
            · rw [if_neg w, d1, r_bind]
              by_cases w1 : L.countP (atk i) = 3
              · rw [if_pos ((e3n _ g1).mpr w1)]
              · rw [if_neg (fun g => w1 ((e3n _ g1).mp g)), d2, r_bind]
                by_cases w2 : L.countP (atk j) = 3
                · rw [if_pos ((e3n _ g2).mpr w2)]
                · have w0 : R < 0 := by
                    rw [fa_le] at w
                    rw [fa_lt]
                    have z0 : (0 : Int32).toInt = 0 := rfl
                    omega
                  refine absurd ?_ ok
                  rw [tk, Bool.and_eq_true, Bool.and_eq_true, Bool.not_eq_true', decide_eq_true_iff, decide_eq_true_iff]
                  exact ⟨⟨f2.mp w0, by omega⟩, by omega⟩
    · refine fail (-1) ?_ ?_
      · unfold m_X6_addThread
        rw [x_hasKnot (by omega), x_hasKnot (by omega), r_bind, if_pos qa, if_neg n10, r_bind, if_neg qb, if_pos rfl]
      · unfold m_X7_addThread
        rw [m_isKnot hK hS, m_isKnot hK hS, r_bind, if_pos qa, if_neg n10, r_bind, if_neg qb, if_pos rfl]
  · refine fail (-1) ?_ ?_
    · unfold m_X6_addThread
      rw [x_hasKnot (by omega), r_bind, if_neg qa, if_pos rfl]
    · unfold m_X7_addThread
      rw [m_isKnot hK hS, r_bind, if_neg qa, if_pos rfl]
theorem b_grow (a : Int32) (hN : 1000 ≤ N) (hR : RN K L k t e c s) (hH : RH z k0 t0 e0 c0 k1 t1 e1 c1 k2 t2 e2 c2 k3 t3 e3 c3 past st) : ∃ r k' t' e' c' z' k0' t0' e0' c0' k1' t1' e1' c1' k2' t2' e2' c2' k3' t3' e3' c3' s' past' st', m_X6_grow N k t e c z k0 t0 e0 c0 k1 t1 e1 c1 k2 t2 e2 c2 k3 t3 e3 c3 a = some (r, k', t', e', c', z', k0', t0', e0', c0', k1', t1', e1', c1', k2', t2', e2', c2', k3', t3', e3', c3') ∧ m_X7_grow N s past st a = some (r, s', past', st') ∧ (∃ K' L', RN K' L' k' t' e' c' s') ∧ RH z' k0' t0' e0' c0' k1' t1' e1' c1' k2' t2' e2' c2' k3' t3' e3' c3' past' st' := by
  obtain ⟨z', k0', t0', e0', c0', k1', t1', e1', c1', k2', t2', e2', c2', k3', t3', e3', c3', past', st', p1, p2, pz3⟩ := b_push hN hR hH
  have hR0 := hR
  obtain ⟨hW, rfl, rfl, hX, hM⟩ := hR
  have hK := hW.1
  have h21 := hW.len21
  have hS := ML_iff.mp hM
  have hXE := XL_iff.mp hX
  have fail : ∀ r : Int32, m_X6_grow N (nI K) (nI L.length) e c z k0 t0 e0 c0 k1 t1 e1 c1 k2 t2 e2 c2 k3 t3 e3 c3 a = some (r, nI K, nI L.length, e, c, z, k0, t0, e0, c0, k1, t1, e1, c1, k2, t2, e2, c2, k3, t3, e3, c3) → m_X7_grow N s past st a = some (r, s, past, st) → ∃ r k' t' e' c' z' k0' t0' e0' c0' k1' t1' e1' c1' k2' t2' e2' c2' k3' t3' e3' c3' s' past' st', m_X6_grow N (nI K) (nI L.length) e c z k0 t0 e0 c0 k1 t1 e1 c1 k2 t2 e2 c2 k3 t3 e3 c3 a = some (r, k', t', e', c', z', k0', t0', e0', c0', k1', t1', e1', c1', k2', t2', e2', c2', k3', t3', e3', c3') ∧ m_X7_grow N s past st a = some (r, s', past', st') ∧ (∃ K' L', RN K' L' k' t' e' c' s') ∧ RH z' k0' t0' e0' c0' k1' t1' e1' c1' k2' t2' e2' c2' k3' t3' e3' c3' past' st' := fun r f1 f2 => ⟨r, nI K, nI L.length, e, c, z, k0, t0, e0, c0, k1, t1, e1, c1, k2, t2, e2, c2, k3, t3, e3, c3, s, past, st, f1, f2, ⟨K, L, hR0⟩, hH⟩
  by_cases qa : ∃ i, i < K ∧ a = nI i
  · obtain ⟨i, hi, rfl⟩ := id qa
    have fk := x_isFullKnot (N := N) hN hW.wt hXE.1 (show i < 31 by omega)
    have d1 := m_degree (N := N) hN hW.wt hS (show i < 2 ^ 31 by omega)
    rw [deg_L] at d1 fk
    have g1 := hW.2.2.2 i
    by_cases q3 : L.countP (atk i) = 3
    · have n3 : nI (L.countP (atk i)) = 3 := by rw [q3]; rfl
      have kk : nI K + 2 = nI (K + 2) := nI_add K 2
      by_cases q14 : K + 2 ≤ 14
      · obtain ⟨F2, F3, t2, t3, x2, x3, y1, y2, y3, y4, y5, y6, y7, y8, y9, y10, y11, y12, y13, y14⟩ := three hW q3
        obtain ⟨e', c', g3, g4⟩ := x_grow hN hW q14 hi hX y1 y2 y3 y4 y5 y6 y7 y8 y9 y10 y11 y12 y13 y14
        obtain ⟨a1, a2⟩ := m_threadAt hN hW hi hM y1 y2 y3 y4 y5 y6 y7 y8 y9
        have o2 := hW.2.1 x2 (List.mem_of_getElem? y11)
        have o3 := hW.2.1 x3 (List.mem_of_getElem? y12)
        have b2 := oth_lt (k := i) o2
        have b3 := oth_lt (k := i) o3
        have lt2 := lt_of y11
        have lt3 := lt_of y12
        have hlen := hW.len
        have ac2 := ml_across (N := N) h21 hM y11 (o2.le (by omega)) (show i < 14 by omega)
        have of2 := ml_2 (N := N) h21 hM y11
        have pt2 := m_put (N := N) (s := s) (c := nI x2.2.2) (show t2 ≤ 20 by omega) (show oth i x2 < 2 ^ 31 by omega) (show K < 2 ^ 31 by omega)
        rw [show min (oth i x2) K = oth i x2 by omega, show max (oth i x2) K = K by omega] at pt2
        have M1 : ML K (L.set t2 (oth i x2, K, x2.2.2)) (p3 s t2 (nI (oth i x2)) (nI K) (nI x2.2.2)) := ML_set (y := (oth i x2, K, x2.2.2)) hM lt2
        have h3' : (L.set t2 (oth i x2, K, x2.2.2))[t3]? = some x3 := by rw [List.getElem?_set, if_neg y10]; exact y12
        have l1 : (L.set t2 (oth i x2, K, x2.2.2)).length ≤ 21 := by rw [List.length_set]; exact h21
        have ac3 := ml_across (N := N) l1 M1 h3' (o3.le (by omega)) (show i < 14 by omega)
        have of3 := ml_2 (N := N) l1 M1 h3'
        have pt3 := m_put (N := N) (s := p3 s t2 (nI (oth i x2)) (nI K) (nI x2.2.2)) (c := nI x3.2.2) (show t3 ≤ 20 by omega) (show oth i x3 < 2 ^ 31 by omega) (show K + 1 < 2 ^ 31 by omega)
        rw [show min (oth i x3) (K + 1) = oth i x3 by omega, show max (oth i x3) (K + 1) = K + 1 by omega] at pt3
        have M2 := ML_set (y := (oth i x3, K + 1, x3.2.2)) M1 (by rw [List.length_set]; exact lt3)
        have M3 := ML_knots (K' := K + 2) M2
        obtain ⟨s1, s2, s3, k1, k2, k3, k4⟩ := m_add3 (N := N) (a1 := i) (b1 := K) (a2 := i) (b2 := K + 1) (a3 := K) (b3 := K + 1) (by rw [List.length_set, List.length_set]; omega) (by omega) (by omega) (by omega) (by omega) (by omega) (by omega) M3
        rw [show min i K = i by omega, show max i K = K by omega, show min i (K + 1) = i by omega, show max i (K + 1) = K + 1 by omega, show min K (K + 1) = K by omega, show max K (K + 1) = K + 1 by omega] at k4
        refine ⟨nI K, nI (K + 2), nI (grown K i t2 t3 x2 x3 L).length, e', c', z', k0', t0', e0', c0', k1', t1', e1', c1', k2', t2', e2', c2', k3', t3', e3', c3', s3, past', st', ?_, ?_, ⟨K + 2, grown K i t2 t3 x2 x3 L, hW.grow q14 hi q3 y10 y11 y12 y13 y14, rfl, rfl, g4, k4⟩, pz3⟩
        · unfold m_X6_grow
          rw [x_hasKnot (by omega), r_bind, if_pos qa, if_neg n10, fk, r_bind, if_pos (show 3 ≤ L.countP (atk i) by omega), if_neg n10, kn_, r_bind, kk, if_pos (show nI (K + 2) ≤ 14 from nI_le (b := 14) q14 (by decide)), p1, r_bind]
          dsimp only
          rw [g3, r_bind]
          dsimp only
          rw [kn_, r_bind, show nI (K + 2) - 2 = nI K from pk_sub (a := K + 2) (b := 2) (by omega)]
        · unfold m_X7_grow
          rw [m_isKnot hK hS, r_bind, if_pos qa, if_neg n10, d1, r_bind, if_pos n3, r_0 (by decide), hM.1, kk, if_pos (show nI (K + 2) ≤ 14 from nI_le (b := 14) q14 (by decide)), p2, r_bind]
          dsimp only
          rw [a1, r_bind, a2, r_bind, ac2, r_bind, show m_X7_of N s (nI t2) 2 = some (nI x2.2.2) from of2, r_bind, pt2, r_bind, ac3, r_bind, show m_X7_of N (p3 s t2 (nI (oth i x2)) (nI K) (nI x2.2.2)) (nI t3) 2 = some (nI x3.2.2) from of3, r_bind, nI_1, pt3, r_bind, r_0 (by decide), M2.1, w_0 (by decide), cl_0]
          simp only [nm]
          rw [kk, k1, r_bind, k2, r_bind, k3, r_bind]
      · refine fail (-3) ?_ ?_
        · unfold m_X6_grow
          rw [x_hasKnot (by omega), r_bind, if_pos qa, if_neg n10, fk, r_bind, if_pos (show 3 ≤ L.countP (atk i) by omega), if_neg n10, kn_, r_bind, kk, if_neg (show ¬ nI (K + 2) ≤ 14 from nI_ge (a := 14) (by omega) (by omega))]
        · unfold m_X7_grow
          rw [m_isKnot hK hS, r_bind, if_pos qa, if_neg n10, d1, r_bind, if_pos n3, r_0 (by decide), hM.1, kk, if_neg (show ¬ nI (K + 2) ≤ 14 from nI_ge (a := 14) (by omega) (by omega))]
    · refine fail (-4) ?_ ?_
      · unfold m_X6_grow
        rw [x_hasKnot (by omega), r_bind, if_pos qa, if_neg n10, fk, r_bind, if_neg (show ¬ 3 ≤ L.countP (atk i) by omega), if_pos rfl]
      · unfold m_X7_grow
        rw [m_isKnot hK hS, r_bind, if_pos qa, if_neg n10, d1, r_bind, if_neg (show ¬ nI (L.countP (atk i)) = 3 from fun g => q3 ((nI_eq (b := 3) (by omega) (by decide)).mp g))]
  · refine fail (-1) ?_ ?_
    · unfold m_X6_grow
      rw [x_hasKnot (by omega), r_bind, if_neg qa, if_pos rfl]
    · unfold m_X7_grow
      rw [m_isKnot hK hS, r_bind, if_neg qa, if_pos rfl]
theorem b_join (a b : Int32) (hN : 1000 ≤ N) (hR : RN K L k t e c s) (hH : RH z k0 t0 e0 c0 k1 t1 e1 c1 k2 t2 e2 c2 k3 t3 e3 c3 past st) : ∃ r k' t' e' c' z' k0' t0' e0' c0' k1' t1' e1' c1' k2' t2' e2' c2' k3' t3' e3' c3' s' past' st', m_X6_join N k t e c z k0 t0 e0 c0 k1 t1 e1 c1 k2 t2 e2 c2 k3 t3 e3 c3 a b = some (r, k', t', e', c', z', k0', t0', e0', c0', k1', t1', e1', c1', k2', t2', e2', c2', k3', t3', e3', c3') ∧ m_X7_join N s past st a b = some (r, s', past', st') ∧ (∃ K' L', RN K' L' k' t' e' c' s') ∧ RH z' k0' t0' e0' c0' k1' t1' e1' c1' k2' t2' e2' c2' k3' t3' e3' c3' past' st' := by
  obtain ⟨z', k0', t0', e0', c0', k1', t1', e1', c1', k2', t2', e2', c2', k3', t3', e3', c3', past', st', p1, p2, pz3⟩ := b_push hN hR hH
  have hR0 := hR
  obtain ⟨hW, rfl, rfl, hX, hM⟩ := hR
  have hK := hW.1
  have h21 := hW.len21
  have hS := ML_iff.mp hM
  have fail : ∀ r : Int32, m_X6_join N (nI K) (nI L.length) e c z k0 t0 e0 c0 k1 t1 e1 c1 k2 t2 e2 c2 k3 t3 e3 c3 a b = some (r, nI K, nI L.length, e, c, z, k0, t0, e0, c0, k1, t1, e1, c1, k2, t2, e2, c2, k3, t3, e3, c3) → m_X7_join N s past st a b = some (r, s, past, st) → ∃ r k' t' e' c' z' k0' t0' e0' c0' k1' t1' e1' c1' k2' t2' e2' c2' k3' t3' e3' c3' s' past' st', m_X6_join N (nI K) (nI L.length) e c z k0 t0 e0 c0 k1 t1 e1 c1 k2 t2 e2 c2 k3 t3 e3 c3 a b = some (r, k', t', e', c', z', k0', t0', e0', c0', k1', t1', e1', c1', k2', t2', e2', c2', k3', t3', e3', c3') ∧ m_X7_join N s past st a b = some (r, s', past', st') ∧ (∃ K' L', RN K' L' k' t' e' c' s') ∧ RH z' k0' t0' e0' c0' k1' t1' e1' c1' k2' t2' e2' c2' k3' t3' e3' c3' past' st' := fun r f1 f2 => ⟨r, nI K, nI L.length, e, c, z, k0, t0, e0, c0, k1, t1, e1, c1, k2, t2, e2, c2, k3, t3, e3, c3, s, past, st, f1, f2, ⟨K, L, hR0⟩, hH⟩
  by_cases qa : ∃ i, i < L.length ∧ a = nI i
  · by_cases qb : ∃ i, i < L.length ∧ b = nI i
    · by_cases qab : a = b
      · refine fail (-2) ?_ ?_
        · unfold m_X6_join
          rw [x_hasThread h21, x_hasThread h21, r_bind, if_pos qa, if_neg n10, r_bind, if_pos qb, if_neg n10, if_pos qab]
        · unfold m_X7_join
          rw [m_isThread h21 hS, m_isThread h21 hS, r_bind, if_pos qa, if_neg n10, r_bind, if_pos qb, if_neg n10, if_pos qab]
      · obtain ⟨i, hi, rfl⟩ := id qa
        obtain ⟨j, hj, rfl⟩ := id qb
        have hij : i ≠ j := fun g => qab (by rw [g])
        have kk : nI K + 2 = nI (K + 2) := nI_add K 2
        by_cases q14 : K + 2 ≤ 14
        · obtain ⟨x1, y1⟩ := some_of hi
          obtain ⟨x2, y2⟩ := some_of hj
          obtain ⟨e', c', g3, g4⟩ := x_join hN hW q14 hX hij y1 y2
          have o1 := hW.2.1 x1 (List.mem_of_getElem? y1)
          have o2 := hW.2.1 x2 (List.mem_of_getElem? y2)
          have u1 := o1.1
          have u2 := o1.2.1
          have u3 := o2.1
          have u4 := o2.2.1
          have hlen := hW.len
          have f1 := ml_1 (N := N) h21 hM y1
          have f2 := ml_1 (N := N) h21 hM y2
          have f3 := ml_0 (N := N) h21 hM y1
          have f4 := ml_2 (N := N) h21 hM y1
          have pt1 := m_put (N := N) (s := s) (c := nI x1.2.2) (show i ≤ 20 by omega) (show x1.1 < 2 ^ 31 by omega) (show K < 2 ^ 31 by omega)
          rw [show min x1.1 K = x1.1 by omega, show max x1.1 K = K by omega] at pt1
          have M1 : ML K (L.set i (x1.1, K, x1.2.2)) (p3 s i (nI x1.1) (nI K) (nI x1.2.2)) := ML_set (y := (x1.1, K, x1.2.2)) hM hi
          have h2' : (L.set i (x1.1, K, x1.2.2))[j]? = some x2 := by rw [List.getElem?_set, if_neg hij]; exact y2
          have l1 : (L.set i (x1.1, K, x1.2.2)).length ≤ 21 := by rw [List.length_set]; exact h21
          have f5 := ml_0 (N := N) l1 M1 h2'
          have f6 := ml_2 (N := N) l1 M1 h2'
          have pt2 := m_put (N := N) (s := p3 s i (nI x1.1) (nI K) (nI x1.2.2)) (c := nI x2.2.2) (show j ≤ 20 by omega) (show x2.1 < 2 ^ 31 by omega) (show K + 1 < 2 ^ 31 by omega)
          rw [show min x2.1 (K + 1) = x2.1 by omega, show max x2.1 (K + 1) = K + 1 by omega] at pt2
          have M2 := ML_set (y := (x2.1, K + 1, x2.2.2)) M1 (by rw [List.length_set]; exact hj)
          have M3 := ML_knots (K' := K + 2) M2
          obtain ⟨s1, s2, s3, k1, k2, k3, k4⟩ := m_add3 (N := N) (a1 := K) (b1 := x1.2.1) (a2 := K + 1) (b2 := x2.2.1) (a3 := K) (b3 := K + 1) (by rw [List.length_set, List.length_set]; omega) (by omega) (by omega) (by omega) (by omega) (by omega) (by omega) M3
          rw [show min K x1.2.1 = x1.2.1 by omega, show max K x1.2.1 = K by omega, show min (K + 1) x2.2.1 = x2.2.1 by omega, show max (K + 1) x2.2.1 = K + 1 by omega, show min K (K + 1) = K by omega, show max K (K + 1) = K + 1 by omega] at k4
          have k4' : ML (K + 2) (joined K i j x1 x2 L) s3 := k4
          have len : (joined K i j x1 x2 L).length = L.length + 3 := by
            unfold joined
            rw [len_add3, List.length_set, List.length_set]
          refine ⟨nI (L.length + 2), nI (K + 2), nI (joined K i j x1 x2 L).length, e', c', z', k0', t0', e0', c0', k1', t1', e1', c1', k2', t2', e2', c2', k3', t3', e3', c3', s3, past', st', ?_, ?_, ⟨K + 2, joined K i j x1 x2 L, hW.join q14 hij y1 y2, rfl, rfl, g4, k4'⟩, pz3⟩
          · unfold m_X6_join
            rw [x_hasThread h21, x_hasThread h21, r_bind, if_pos qa, if_neg n10, r_bind, if_pos qb, if_neg n10, if_neg qab, kn_, r_bind, kk, if_pos (show nI (K + 2) ≤ 14 from nI_le (b := 14) q14 (by decide)), p1, r_bind]
            dsimp only
            rw [g3, r_bind]
            dsimp only
            rw [th_, r_bind, len, nI_pred]
          · unfold m_X7_join
            rw [m_isThread h21 hS, m_isThread h21 hS, r_bind, if_pos qa, if_neg n10, r_bind, if_pos qb, if_neg n10, if_neg qab, r_0 (by decide), hM.1, kk, if_pos (show nI (K + 2) ≤ 14 from nI_le (b := 14) q14 (by decide)), p2, r_bind]
            dsimp only
            rw [f1, r_bind, f2, r_bind, f3, r_bind, show m_X7_of N s (nI i) 2 = some (nI x1.2.2) from f4, r_bind, pt1, r_bind, f5, r_bind, show m_X7_of N (p3 s i (nI x1.1) (nI K) (nI x1.2.2)) (nI j) 2 = some (nI x2.2.2) from f6, r_bind, nI_1, pt2, r_bind, r_0 (by decide), M2.1, w_0 (by decide), cl_0]
            simp only [nm]
            rw [kk, k1, r_bind, k2, r_bind, k3, r_bind, r_1 (by decide), k4'.2.1, len, nI_pred]
        · refine fail (-3) ?_ ?_
          · unfold m_X6_join
            rw [x_hasThread h21, x_hasThread h21, r_bind, if_pos qa, if_neg n10, r_bind, if_pos qb, if_neg n10, if_neg qab, kn_, r_bind, kk, if_neg (show ¬ nI (K + 2) ≤ 14 from nI_ge (a := 14) (by omega) (by omega))]
          · unfold m_X7_join
            rw [m_isThread h21 hS, m_isThread h21 hS, r_bind, if_pos qa, if_neg n10, r_bind, if_pos qb, if_neg n10, if_neg qab, r_0 (by decide), hM.1, kk, if_neg (show ¬ nI (K + 2) ≤ 14 from nI_ge (a := 14) (by omega) (by omega))]
    · refine fail (-1) ?_ ?_
      · unfold m_X6_join
        rw [x_hasThread h21, x_hasThread h21, r_bind, if_pos qa, if_neg n10, r_bind, if_neg qb, if_pos rfl]
      · unfold m_X7_join
        rw [m_isThread h21 hS, m_isThread h21 hS, r_bind, if_pos qa, if_neg n10, r_bind, if_neg qb, if_pos rfl]
  · refine fail (-1) ?_ ?_
    · unfold m_X6_join
      rw [x_hasThread h21, r_bind, if_neg qa, if_pos rfl]
    · unfold m_X7_join
      rw [m_isThread h21 hS, r_bind, if_neg qa, if_pos rfl]
theorem b_shrink (x : Int32) (hN : 1000 ≤ N) (hR : RN K L k t e c s) (hH : RH z k0 t0 e0 c0 k1 t1 e1 c1 k2 t2 e2 c2 k3 t3 e3 c3 past st) : ∃ r k' t' e' c' z' k0' t0' e0' c0' k1' t1' e1' c1' k2' t2' e2' c2' k3' t3' e3' c3' s' past' st', m_X6_shrink N k t e c z k0 t0 e0 c0 k1 t1 e1 c1 k2 t2 e2 c2 k3 t3 e3 c3 x = some (r, k', t', e', c', z', k0', t0', e0', c0', k1', t1', e1', c1', k2', t2', e2', c2', k3', t3', e3', c3') ∧ m_X7_shrink N s past st x = some (r, s', past', st') ∧ (∃ K' L', RN K' L' k' t' e' c' s') ∧ RH z' k0' t0' e0' c0' k1' t1' e1' c1' k2' t2' e2' c2' k3' t3' e3' c3' past' st' := by
  obtain ⟨z', k0', t0', e0', c0', k1', t1', e1', c1', k2', t2', e2', c2', k3', t3', e3', c3', past', st', p1, p2, pz3⟩ := b_push hN hR hH
  have hR0 := hR
  obtain ⟨hW, rfl, rfl, hX, hM⟩ := hR
  have hK := hW.1
  have h21 := hW.len21
  have hS := ML_iff.mp hM
  have hXE := XL_iff.mp hX
  have fail : ∀ r : Int32, m_X6_shrink N (nI K) (nI L.length) e c z k0 t0 e0 c0 k1 t1 e1 c1 k2 t2 e2 c2 k3 t3 e3 c3 x = some (r, nI K, nI L.length, e, c, z, k0, t0, e0, c0, k1, t1, e1, c1, k2, t2, e2, c2, k3, t3, e3, c3) → m_X7_shrink N s past st x = some (r, s, past, st) → ∃ r k' t' e' c' z' k0' t0' e0' c0' k1' t1' e1' c1' k2' t2' e2' c2' k3' t3' e3' c3' s' past' st', m_X6_shrink N (nI K) (nI L.length) e c z k0 t0 e0 c0 k1 t1 e1 c1 k2 t2 e2 c2 k3 t3 e3 c3 x = some (r, k', t', e', c', z', k0', t0', e0', c0', k1', t1', e1', c1', k2', t2', e2', c2', k3', t3', e3', c3') ∧ m_X7_shrink N s past st x = some (r, s', past', st') ∧ (∃ K' L', RN K' L' k' t' e' c' s') ∧ RH z' k0' t0' e0' c0' k1' t1' e1' c1' k2' t2' e2' c2' k3' t3' e3' c3' past' st' := fun r f1 f2 => ⟨r, nI K, nI L.length, e, c, z, k0, t0, e0, c0, k1, t1, e1, c1, k2, t2, e2, c2, k3, t3, e3, c3, s, past, st, f1, f2, ⟨K, L, hR0⟩, hH⟩
  by_cases qa : ∃ i, i < K ∧ x = nI i
  · obtain ⟨i, hi, rfl⟩ := id qa
    have cx := x_corners (N := N) hN hW.wa hXE.1 (show i < 14 by omega)
    have cx : m_X2_cornersBeside N (nI K) (nI L.length) e (nI i) = some (nI (crn K L.length (fl L) (fh L) i)) := cx
    have cm : m_X7_corners N s (nI i) = some (nI (crn K L.length (fl L) (fh L) i)) := m_corners (N := N) hN hW.wa hS hi
    rcases tri_of hW hi with w | ⟨a, b, tk, ta, tb, xk, xa, xb, w, tri⟩
    · rw [w] at cx cm
      refine fail (-4) ?_ ?_
      · unfold m_X6_shrink
        rw [x_hasKnot (by omega), r_bind, if_pos qa, if_neg n10, cx, r_bind, if_pos (show nI 0 = 0 from rfl)]
      · unfold m_X7_shrink
        rw [m_isKnot hK hS, r_bind, if_pos qa, if_neg n10, cm, r_bind, if_pos (show nI 0 = 0 from rfl)]
    · rw [w] at cx cm
      obtain ⟨-, ⟨-, hab, hb, hak, hbk⟩, -, lk, la, lb'⟩ := id tri
      have pab : 0 < 2 ^ a + 2 ^ b := Nat.add_pos_left (Nat.two_pow_pos _) _
      have lab : 2 ^ a + 2 ^ b < 2 ^ 15 := by
        have := p2lt hab
        have := p2le (show b ≤ 13 by omega)
        omega
      have cz : ¬ nI (2 ^ a + 2 ^ b) = 0 := fun g => by have := (nI_eq0 (by omega)).mp g; omega
      have li : 2 ^ i < 2 ^ 14 := p2lt (by omega)
      have lS : (2 ^ a + 2 ^ b) ||| 2 ^ i < 2 ^ 31 := Nat.lt_of_lt_of_le (or_lt (n := 15) lab (by omega)) (by decide)
      have mm := x_mayMerge (N := N) hN hW.wt hXE.1 lS
      have cl := clash_tri tri
      have oka := (hW.2.1 xa (List.mem_of_getElem? la.1))
      have okb := (hW.2.1 xb (List.mem_of_getElem? lb'.1))
      have okk := (hW.2.1 xk (List.mem_of_getElem? lk.1))
      have fa := oth_lt (k := a) oka
      have fb := oth_lt (k := b) okb
      have fk := oth_lt (k := i) okk
      have SS : ∀ j, ((2 ^ a + 2 ^ b) ||| 2 ^ i).testBit j = (j == i || j == a || j == b) := fun j => tri_S hab
      have b1 := m_beyond (N := N) hN hW hM (show a < 14 by omega) la (fun j => by rw [SS]; cases (j == i) <;> cases (j == a) <;> cases (j == b) <;> rfl)
      have b2 := m_beyond (N := N) hN hW hM (show b < 14 by omega) lb' (fun j => by rw [SS]; cases (j == i) <;> cases (j == a) <;> cases (j == b) <;> rfl)
      have b3 := m_beyond (N := N) hN hW hM (show i < 14 by omega) lk SS
      have lo1 : m_X7_lowest N (nI (2 ^ a + 2 ^ b)) = some (nI a) := by rw [m_lowest hN (by omega) pab, lb2 hab (by omega)]
      have lo2 : m_X7_lowest N (nI (2 ^ a + 2 ^ b) &&& (nI (2 ^ a + 2 ^ b) - 1)) = some (nI b) := by
        rw [nI_m1 pab, nand, low2 hab (by omega), m_lowest hN (p2_31 (by omega)) (Nat.two_pow_pos _), lb_p2 (by omega)]
      have eqN : ∀ u v, u < K → v < K → (nI u = nI v ↔ u = v) := fun u v h1 h2 => nI_eq (by omega) (by omega)
      by_cases q : oth a xa = oth b xb ∨ oth a xa = oth i xk ∨ oth b xb = oth i xk
      · refine fail (-4) ?_ ?_
        · unfold m_X6_shrink
          rw [x_hasKnot (by omega), r_bind, if_pos qa, if_neg n10, cx, r_bind, if_neg cz, m_bit (by omega), r_bind, nor, mm, r_bind, if_pos (cl.mpr q), if_pos rfl]
        · unfold m_X7_shrink
          rw [m_isKnot hK hS, r_bind, if_pos qa, if_neg n10, cm, r_bind, if_neg cz]
          simp only [nm]
          rw [sh1 (by omega), nor, lo1, r_bind, lo2, r_bind, b1, r_bind, b2, r_bind, b3, r_bind]
          by_cases w1 : oth a xa = oth b xb
          · rw [if_pos ((eqN _ _ fa fb).mpr w1)]
          · rw [if_neg (fun g => w1 ((eqN _ _ fa fb).mp g))]
            by_cases w2 : oth a xa = oth i xk
            · rw [if_pos ((eqN _ _ fa fk).mpr w2)]
            · rw [if_neg (fun g => w2 ((eqN _ _ fa fk).mp g)), if_pos ((eqN _ _ fb fk).mpr (by omega))]
      · -- the triangle goes
        have hne : ta ≠ tb := by
          intro g
          have e1 := la.1
          rw [g, lb'.1] at e1
          have e2 := Option.some.inj e1
          have w1 := la.2.1
          have w2 := lb'.2.1
          rw [e2] at w2
          exact la.2.2.2.1 (oth_is oka w1 w2 (by omega))
        obtain ⟨l1, l2, l3⟩ := leads.one (K := K) la rfl
        obtain ⟨l4, l5, l6⟩ := leads.one (K := K) lb' rfl
        obtain ⟨s1, g1, g2⟩ := m_leadsTo (N := N) (k := i) hN h21 hK hW.2.1 hM (show a < 14 by omega) (show oth a xa < 14 by omega) (by omega) l1 l2 l3
        have mem1 : ∀ y ∈ L.set ta (min (oth a xa) i, max (oth a xa) i, xa.2.2), okx K y := by
          intro y hy
          rcases List.mem_or_eq_of_mem_set hy with w | w
          · exact hW.2.1 y w
          · rw [w]
            have := la.2.2.1
            exact ⟨by show min _ _ < max _ _; omega, by show max _ _ < K; omega, oka.2.2⟩
        have at1 : (L.set ta (min (oth a xa) i, max (oth a xa) i, xa.2.2))[tb]? = some xb := by rw [List.getElem?_set, if_neg hne]; exact l4
        have un1 : ∀ j z, (L.set ta (min (oth a xa) i, max (oth a xa) i, xa.2.2))[j]? = some z → lnk b (oth b xb) z = true → j = tb := by
          intro j z hj hz
          by_cases w : ta = j
          · subst w
            rw [List.getElem?_set_self (lt_of l1)] at hj
            have := Option.some.inj hj
            rw [← this] at hz
            unfold lnk atk at hz
            simp only [Bool.and_eq_true, Bool.or_eq_true, beq_iff_eq] at hz
            have n1 := la.2.2.2.1
            omega
          · rw [List.getElem?_set, if_neg w] at hj
            exact l6 j z hj hz
        obtain ⟨s2, g3, g4⟩ := m_leadsTo (N := N) (k := i) hN (by rw [List.length_set]; exact h21) hK mem1 g2 (show b < 14 by omega) (show oth b xb < 14 by omega) (by omega) at1 l5 un1
        rw [lead_set tri hne] at g4
        obtain ⟨r1, u1, r2, u2, r3, u3, u4, u5, y1, y2, y3, y4, y5, y6, y7, y8, y9⟩ := m_three hN tri g4
        obtain ⟨e', c', v1, v2⟩ := x_merge (N := N) hN hW hi hab hb hX
        rw [drp_shrunk hab] at v1 v2
        refine ⟨nI (K - 1 - 1), nI (K - 1 - 1), nI (shrunk i a b L).length, e', c', z', k0', t0', e0', c0', k1', t1', e1', c1', k2', t2', e2', c2', k3', t3', e3', c3', u5, past', st', ?_, ?_, ⟨K - 1 - 1, shrunk i a b L, shrunk_WL tri q, rfl, rfl, v2, y9⟩, pz3⟩
        · unfold m_X6_shrink
          rw [x_hasKnot (by omega), r_bind, if_pos qa, if_neg n10, cx, r_bind, if_neg cz, m_bit (by omega), r_bind, nor, mm, r_bind, if_neg (fun g => q (cl.mp g)), if_neg n10, p1, r_bind]
          dsimp only
          rw [v1, r_bind]
          dsimp only
          rw [kn_, r_bind]
        · unfold m_X7_shrink
          rw [m_isKnot hK hS, r_bind, if_pos qa, if_neg n10, cm, r_bind, if_neg cz]
          simp only [nm]
          rw [sh1 (by omega), nor, lo1, r_bind, lo2, r_bind, b1, r_bind, b2, r_bind, b3, r_bind, if_neg (fun g => q (Or.inl ((eqN _ _ fa fb).mp g))), if_neg (fun g => q (Or.inr (Or.inl ((eqN _ _ fa fk).mp g)))), if_neg (fun g => q (Or.inr (Or.inr ((eqN _ _ fb fk).mp g)))), p2, r_bind]
          dsimp only
          rw [g1, r_bind, g3, r_bind, y1, r_bind, y2, r_bind, y3, r_bind, y4, r_bind, y5, r_bind, y6, r_bind, y7, r_bind, y8, r_bind, r_0 (by decide), y9.1]
  · refine fail (-1) ?_ ?_
    · unfold m_X6_shrink
      rw [x_hasKnot (by omega), r_bind, if_neg qa, if_pos rfl]
    · unfold m_X7_shrink
      rw [m_isKnot hK hS, r_bind, if_neg qa, if_pos rfl]
end AC
