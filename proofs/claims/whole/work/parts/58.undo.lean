-- the list of nets behind the history
def AH (Hs : List (Nat × List TH)) : List AN := Hs.map (fun p => LN p.1 p.2)
theorem xa_iff {K : Nat} {L : List TH} {k t : Int32} {e c : Nat → Int32} : XA (LN K L) k t e c ↔ k = nI K ∧ t = nI L.length ∧ XL L e c :=
  ⟨fun h => ⟨h.1, h.2.1, XL_iff.mpr h.2.2⟩, fun h => ⟨h.1, h.2.1, XL_iff.mp h.2.2⟩⟩
theorem ma_iff {K : Nat} {L : List TH} {s : Nat → Int32} : MA (LN K L) s ↔ ML K L s := ML_iff.symm
-- undo
theorem x_pop {N : Nat} {Hs : List AN} {A : AN} {z k0 t0 k1 t1 k2 t2 k3 t3 k t : Int32} {e0 c0 e1 c1 e2 c2 e3 c3 e c : Nat → Int32} (hN : 1000 ≤ N) (hWA : WA A) (h : XH (Hs ++ [A]) z k0 t0 e0 c0 k1 t1 e1 c1 k2 t2 e2 c2 k3 t3 e3 c3) : ∃ k' t' e' c', m_X1_pop N z k0 t0 e0 c0 k1 t1 e1 c1 k2 t2 e2 c2 k3 t3 e3 c3 k t e c = some (1, nI Hs.length, k', t', e', c') ∧ XA A k' t' e' c' ∧ XH Hs (nI Hs.length) k0 t0 e0 c0 k1 t1 e1 c1 k2 t2 e2 c2 k3 t3 e3 c3 := by
  obtain ⟨hz, h4, x0, x1, x2, x3⟩ := h
  have l : (Hs ++ [A]).length = Hs.length + 1 := by simp
  rw [l] at hz h4
  have la : (Hs ++ [A])[Hs.length]? = some A := by rw [List.getElem?_append_right (Nat.le_refl _), Nat.sub_self]; rfl
  have ap : ∀ j B, Hs[j]? = some B → (Hs ++ [A])[j]? = some B := fun j B hB => by
    have : j < Hs.length := by
      rcases Nat.lt_or_ge j Hs.length with g | g
      · exact g
      · rw [List.getElem?_eq_none g] at hB; cases hB
    rw [List.getElem?_append_left this]; exact hB
  have rest : XH Hs (nI Hs.length) k0 t0 e0 c0 k1 t1 e1 c1 k2 t2 e2 c2 k3 t3 e3 c3 := ⟨rfl, by omega, fun B hB => x0 B (ap 0 B hB), fun B hB => x1 B (ap 1 B hB), fun B hB => x2 B (ap 2 B hB), fun B hB => x3 B (ap 3 B hB)⟩
  have z1 : z - 1 = nI Hs.length := by rw [hz, nI_m1 (by omega)]; rfl
  have lt : Hs.length = 0 ∨ Hs.length = 1 ∨ Hs.length = 2 ∨ Hs.length = 3 := by omega
  have a1 : ¬ nI Hs.length < 0 := nI_pos (by omega)
  have a2 : nI Hs.length < 4 := by rcases lt with g | g | g | g <;> rw [g] <;> decide
  unfold m_X1_pop
  simp only [nm]
  rw [z1, if_neg a1, if_pos a2]
  rcases lt with g | g | g | g
  · rw [g] at la
    obtain ⟨d, f, y, x⟩ := x_copy (k := k) (t := t) (e := e) (c := c) hN hWA.T (x0 A la)
    refine ⟨k0, t0, d, f, ?_, x, rest⟩
    rw [g, if_pos (show nI 0 = 0 by decide), y]; rfl
  · rw [g] at la
    obtain ⟨d, f, y, x⟩ := x_copy (k := k) (t := t) (e := e) (c := c) hN hWA.T (x1 A la)
    refine ⟨k1, t1, d, f, ?_, x, rest⟩
    rw [g, if_neg (show ¬ nI 1 = 0 by decide), if_pos (show nI 1 = 1 by decide), y]; rfl
  · rw [g] at la
    obtain ⟨d, f, y, x⟩ := x_copy (k := k) (t := t) (e := e) (c := c) hN hWA.T (x2 A la)
    refine ⟨k2, t2, d, f, ?_, x, rest⟩
    rw [g, if_neg (show ¬ nI 2 = 0 by decide), if_neg (show ¬ nI 2 = 1 by decide), if_pos (show nI 2 = 2 by decide), y]; rfl
  · rw [g] at la
    obtain ⟨d, f, y, x⟩ := x_copy (k := k) (t := t) (e := e) (c := c) hN hWA.T (x3 A la)
    refine ⟨k3, t3, d, f, ?_, x, rest⟩
    rw [g, if_neg (show ¬ nI 3 = 0 by decide), if_neg (show ¬ nI 3 = 1 by decide), if_neg (show ¬ nI 3 = 2 by decide), if_pos (show nI 3 = 3 by decide), y]; rfl
theorem x_pop0 {N : Nat} {z k0 t0 k1 t1 k2 t2 k3 t3 k t : Int32} {e0 c0 e1 c1 e2 c2 e3 c3 e c : Nat → Int32} (h : XH [] z k0 t0 e0 c0 k1 t1 e1 c1 k2 t2 e2 c2 k3 t3 e3 c3) : m_X1_pop N z k0 t0 e0 c0 k1 t1 e1 c1 k2 t2 e2 c2 k3 t3 e3 c3 k t e c = some (0, z, k, t, e, c) := by
  obtain ⟨hz, -⟩ := h
  unfold m_X1_pop
  rw [hz]
  rfl
theorem m_undo {N : Nat} {Hs : List AN} {A : AN} {s past : Nat → Int32} {z : Int32} (hN : 1000 ≤ N) (hWA : WA A) (h : MH (Hs ++ [A]) past z) : ∃ s', m_X7_undo N s past z = some (nI Hs.length, s', nI Hs.length) ∧ MA A s' ∧ MH Hs past (nI Hs.length) := by
  obtain ⟨hz, h4, hP⟩ := h
  have l : (Hs ++ [A]).length = Hs.length + 1 := by simp
  rw [l] at hz h4
  have la : (Hs ++ [A])[Hs.length]? = some A := by rw [List.getElem?_append_right (Nat.le_refl _), Nat.sub_self]; rfl
  have ap : ∀ j B, Hs[j]? = some B → (Hs ++ [A])[j]? = some B := fun j B hB => by
    have : j < Hs.length := by
      rcases Nat.lt_or_ge j Hs.length with g | g
      · exact g
      · rw [List.getElem?_eq_none g] at hB; cases hB
    rw [List.getElem?_append_left this]; exact hB
  have z1 : z - 1 = nI Hs.length := by rw [hz, nI_m1 (by omega)]; rfl
  refine ⟨pu s (fun k => past (65 * Hs.length + k)) 0 65, ?_, (hP _ A la).cong hWA.T (fun i hi => ?_), rfl, by omega, fun j B hB => hP j B (ap j B hB)⟩
  · unfold m_X7_undo
    simp only [nm]
    rw [if_neg (show ¬ z = 0 by rw [hz]; exact fun g => absurd ((nI_eq0 (by omega)).mp g) (by omega)), z1]
    refine Eq.trans (b := m_X7_undo_L22 N past (nI Hs.length) N (nI 0) (pu s (fun k => past (65 * Hs.length + k)) 0 0)) (by rw [pu_0]; rfl) ?_
    refine for_up (fun n i (acc : Nat → Int32) => m_X7_undo_L22 N past (nI Hs.length) n (nI i) acc) 65 (fun i => pu s (fun k => past (65 * Hs.length + k)) 0 i) _ ?_ ?_ 65 N 0 (by omega) (by omega)
    · intro n
      show m_X7_undo_L22 N past (nI Hs.length) (n + 1) (nI 65) _ = _
      rw [m_X7_undo_L22, if_pos (show (65 : Int32) ≤ nI 65 by decide)]
    · intro n i hj
      show m_X7_undo_L22 N past (nI Hs.length) (n + 1) (nI i) _ = m_X7_undo_L22 N past (nI Hs.length) n (nI (i + 1)) _
      have e : (65 : Int32) * nI Hs.length + nI i = nI (65 * Hs.length + i) := by
        show nI 65 * nI Hs.length + nI i = _
        rw [pk_mul, nI_add]
      rw [m_X7_undo_L22, if_neg (show ¬ (65 : Int32) ≤ nI i from nI_ge (b := 65) hj (by omega)), e, r_ard (by omega) (by omega), r_awr (by omega) (by omega), nI_clamp (by omega), nI_1]
      simp only [nm]
      have a := pu_s s (fun k => past (65 * Hs.length + k)) 0 i
      rw [Nat.zero_add] at a
      rw [← a]
  · unfold pu
    rw [if_pos (by omega)]
    rfl
theorem m_undo0 {N : Nat} {s past : Nat → Int32} {z : Int32} (h : MH [] past z) : m_X7_undo N s past z = some (-5, s, z) := by
  obtain ⟨hz, -⟩ := h
  unfold m_X7_undo
  rw [hz]
  rfl
-- keep, restore
theorem m_keep {N : Nat} {A : AN} {s slot : Nat → Int32} {b : Int32} (hN : 1000 ≤ N) (hWA : WA A) (h : MA A s) : ∃ slot', m_X7_keep N s slot b = some (nI A.2.1, slot', 1) ∧ MA A slot' := by
  refine ⟨pu slot s 0 65, ?_, h.cong hWA.T (fun i hi => ?_)⟩
  · unfold m_X7_keep jn
    refine Eq.trans (b := m_X7_keep_L2 N s _ N (nI 0) (pu slot s 0 0)) (by rw [pu_0]; rfl) ?_
    refine for_up (fun n i (acc : Nat → Int32) => m_X7_keep_L2 N s _ n (nI i) acc) 65 (fun i => pu slot s 0 i) _ ?_ ?_ 65 N 0 (by omega) (by omega)
    · intro n
      show m_X7_keep_L2 N s _ (n + 1) (nI 65) _ = _
      rw [m_X7_keep_L2, if_pos (show (65 : Int32) ≤ nI 65 by decide), r_1 (by decide), h.2.1]
    · intro n i hj
      show m_X7_keep_L2 N s _ (n + 1) (nI i) _ = m_X7_keep_L2 N s _ n (nI (i + 1)) _
      rw [m_X7_keep_L2, if_neg (show ¬ (65 : Int32) ≤ nI i from nI_ge (b := 65) hj (by omega)), r_ard (by omega) (by omega), r_awr (by omega) (by omega), nI_clamp (by omega), nI_1]
      simp only [nm]
      have a := pu_s slot s 0 i
      rw [Nat.zero_add] at a
      rw [← a]
  · unfold pu
    rw [if_pos (by omega)]
    rfl
theorem m_restore {N : Nat} {A B : AN} {Hs : List AN} {s past slot : Nat → Int32} {z b : Int32} (hN : 1000 ≤ N) (hH : MH Hs past z) (hW : WH Hs) (hWA : WA A) (hWB : WA B) (h : MA A s) (hB : MA B slot) (hb : b ≠ 0) : ∃ s' past', m_X7_restore N s past z slot b = some (nI B.2.1, s', past', nI (hpush Hs A).length) ∧ MA B s' ∧ MH (hpush Hs A) past' (nI (hpush Hs A).length) := by
  obtain ⟨past', e, hM⟩ := m_records hN hH hW h hWA
  have g : MA B (pu s slot 0 65) := hB.cong hWB.T (fun i hi => by unfold pu; rw [if_pos (by omega)]; rfl)
  refine ⟨pu s slot 0 65, past', ?_, g, hM⟩
  unfold m_X7_restore
  rw [if_neg hb, e, r_bind]
  dsimp only
  refine Eq.trans (b := m_X7_restore_L16 N slot past' (nI (hpush Hs A).length) N (nI 0) (pu s slot 0 0)) (by rw [pu_0]; rfl) ?_
  refine for_up (fun n i (acc : Nat → Int32) => m_X7_restore_L16 N slot past' (nI (hpush Hs A).length) n (nI i) acc) 65 (fun i => pu s slot 0 i) _ ?_ ?_ 65 N 0 (by omega) (by omega)
  · intro n
    show m_X7_restore_L16 N slot past' _ (n + 1) (nI 65) (pu s slot 0 65) = _
    rw [m_X7_restore_L16, if_pos (show (65 : Int32) ≤ nI 65 by decide), r_1 (by decide), g.2.1]
  · intro n i hj
    show m_X7_restore_L16 N slot past' _ (n + 1) (nI i) _ = m_X7_restore_L16 N slot past' _ n (nI (i + 1)) _
    rw [m_X7_restore_L16, if_neg (show ¬ (65 : Int32) ≤ nI i from nI_ge (b := 65) hj (by omega)), r_ard (by omega) (by omega), r_awr (by omega) (by omega), nI_clamp (by omega), nI_1]
    simp only [nm]
    have a := pu_s s slot 0 i
    rw [Nat.zero_add] at a
    rw [← a]
