/-! both classes: texts, history, readNet -/
section TX
variable {N K : Nat} {L : List TH} {k t z k0 t0 k1 t1 k2 t2 k3 t3 st : Int32} {e c s past e0 c0 e1 c1 e2 c2 e3 c3 : Nat → Int32}
theorem b_type {g g' : Nat → Int32} {n n' : Int32} (a : Int32) (h : RT g n g' n') : ∃ r f m f' m', m_X6_type N g n a = some (r, f, m) ∧ m_X7_type N g' n' a = some (r, f', m') ∧ RT f m f' m' := by
  obtain ⟨rfl, rfl, m, hm, rfl⟩ := h
  unfold m_X6_type m_X4_append m_X7_type
  rw [if_neg (nI_pos (by omega))]
  by_cases q : m = 60
  · refine ⟨-3, g', nI m, g', nI m, ?_, ?_, ⟨rfl, rfl, m, hm, rfl⟩⟩
    · rw [if_neg (show ¬ nI m < 60 from nI_nlt (b := 60) (by omega) (by omega))]
      rfl
    · rw [if_pos (show nI m = 60 by rw [q]; rfl)]
  · refine ⟨nI (m + 1), upd g' m (vp_nar .char a), nI (m + 1), upd g' m (vp_nar .char a), nI (m + 1), ?_, ?_, ⟨rfl, rfl, m + 1, by omega, rfl⟩⟩
    · rw [if_pos (show nI m < 60 from nI_lt (b := 60) (by omega) (by omega)), r_awr (by omega) (by omega), nI_clamp (by omega), nI_1]
      rfl
    · rw [if_neg (show ¬ nI m = 60 from fun w => q ((nI_eq (b := 60) (by omega) (by decide)).mp w)), r_awr (by omega) (by omega), nI_clamp (by omega), nI_1]
      rfl
theorem b_clearText {g g' : Nat → Int32} {n n' : Int32} (h : RT g n g' n') : ∃ r m m', m_X6_clearText N n = some (r, m) ∧ m_X7_clearText N n' = some (r, m') ∧ RT g m g' m' := by
  obtain ⟨rfl, rfl, m, hm, rfl⟩ := h
  exact ⟨nI m, 0, 0, rfl, rfl, ⟨rfl, rfl, 0, by omega, rfl⟩⟩
theorem last_of {α : Type} (l : List α) : l = [] ∨ ∃ a b, l = a ++ [b] := by
  rcases List.eq_nil_or_concat l with h | ⟨a, b, h⟩
  · exact Or.inl h
  · exact Or.inr ⟨a, b, by rw [h, List.concat_eq_append]⟩
theorem b_undo (hN : 1000 ≤ N) (hR : RN K L k t e c s) (hH : RH z k0 t0 e0 c0 k1 t1 e1 c1 k2 t2 e2 c2 k3 t3 e3 c3 past st) : ∃ r k' t' e' c' z' s' st', m_X6_undo N k t e c z k0 t0 e0 c0 k1 t1 e1 c1 k2 t2 e2 c2 k3 t3 e3 c3 = some (r, k', t', e', c', z') ∧ m_X7_undo N s past st = some (r, s', st') ∧ (∃ K' L', RN K' L' k' t' e' c' s') ∧ RH z' k0 t0 e0 c0 k1 t1 e1 c1 k2 t2 e2 c2 k3 t3 e3 c3 past st' := by
  have hR0 := hR
  obtain ⟨hW, rfl, rfl, hX, hM⟩ := hR
  obtain ⟨Hs, h1, h2, h3⟩ := hH
  rcases last_of Hs with rfl | ⟨Hs', ⟨K', L'⟩, rfl⟩
  · refine ⟨-5, nI K, nI L.length, e, c, z, s, st, ?_, ?_, ⟨K, L, hR0⟩, ⟨[], h1, h2, h3⟩⟩
    · unfold m_X6_undo
      rw [x_pop0 h2, r_bind]
      rfl
    · exact m_undo0 h3
  · have e1' : AH (Hs' ++ [(K', L')]) = AH Hs' ++ [LN K' L'] := by unfold AH; rw [List.map_append]; rfl
    rw [e1'] at h2 h3
    have hW' : WL K' L' := h1 (K', L') (List.mem_append_right _ (List.mem_singleton.mpr rfl))
    obtain ⟨k', t', e', c', g1, g2, g3⟩ := x_pop (N := N) (k := nI K) (t := nI L.length) (e := e) (c := c) hN hW'.wa h2
    obtain ⟨s', g4, g5, g6⟩ := m_undo (N := N) (s := s) hN hW'.wa h3
    obtain ⟨x1, x2, x3⟩ := xa_iff.mp g2
    refine ⟨nI (AH Hs').length, k', t', e', c', nI (AH Hs').length, s', nI (AH Hs').length, ?_, g4, ⟨K', L', hW', x1, x2, x3, ma_iff.mp g5⟩, ⟨Hs', fun p hp => h1 p (List.mem_append_left _ hp), g3, g6⟩⟩
    unfold m_X6_undo
    rw [g1, r_bind]
    rfl
theorem b_keep {b sk st0 b' : Int32} {se sc slot : Nat → Int32} (hN : 1000 ≤ N) (hR : RN K L k t e c s) : ∃ r b2 k' t' e' c' slot' b3, m_X6_keep N b k t e c sk st0 se sc = some (r, b2, k', t', e', c') ∧ m_X7_keep N s slot b' = some (r, slot', b3) ∧ RS b2 k' t' e' c' slot' b3 := by
  obtain ⟨hW, rfl, rfl, hX, hM⟩ := hR
  obtain ⟨e', c', g1, g2⟩ := x_copy (N := N) (k := sk) (t := st0) (e := se) (c := sc) hN hW.wa.2.1 (xa_iff.mpr ⟨rfl, rfl, hX⟩)
  obtain ⟨slot', g3, g4⟩ := m_keep (N := N) (slot := slot) (b := b') hN hW.wa (ma_iff.mpr hM)
  obtain ⟨x1, x2, x3⟩ := xa_iff.mp g2
  refine ⟨nI L.length, 1, nI K, nI L.length, e', c', slot', 1, ?_, g3, Or.inr ⟨rfl, rfl, K, L, hW, rfl, rfl, x3, ma_iff.mp g4⟩⟩
  unfold m_X6_keep
  rw [g1, r_bind]
  rfl
theorem b_restore {b sk su b' : Int32} {se sc slot : Nat → Int32} (hN : 1000 ≤ N) (hR : RN K L k t e c s) (hH : RH z k0 t0 e0 c0 k1 t1 e1 c1 k2 t2 e2 c2 k3 t3 e3 c3 past st) (hS : RS b sk su se sc slot b') : ∃ r k' t' e' c' z' k0' t0' e0' c0' k1' t1' e1' c1' k2' t2' e2' c2' k3' t3' e3' c3' s' past' st', m_X6_restore N b k t e c sk su se sc z k0 t0 e0 c0 k1 t1 e1 c1 k2 t2 e2 c2 k3 t3 e3 c3 = some (r, k', t', e', c', z', k0', t0', e0', c0', k1', t1', e1', c1', k2', t2', e2', c2', k3', t3', e3', c3') ∧ m_X7_restore N s past st slot b' = some (r, s', past', st') ∧ (∃ K' L', RN K' L' k' t' e' c' s') ∧ RH z' k0' t0' e0' c0' k1' t1' e1' c1' k2' t2' e2' c2' k3' t3' e3' c3' past' st' := by
  have hR0 := hR
  have hH0 := hH
  obtain ⟨hW, rfl, rfl, hX, hM⟩ := hR
  rcases hS with ⟨rfl, rfl⟩ | ⟨rfl, rfl, K', L', hW', rfl, rfl, hX', hM'⟩
  · exact ⟨-5, nI K, nI L.length, e, c, z, k0, t0, e0, c0, k1, t1, e1, c1, k2, t2, e2, c2, k3, t3, e3, c3, s, past, st, rfl, rfl, ⟨K, L, hR0⟩, hH0⟩
  · obtain ⟨Hs, h1, h2, h3⟩ := hH
    obtain ⟨k0', t0', e0', c0', k1', t1', e1', c1', k2', t2', e2', c2', k3', t3', e3', c3', g1, g2⟩ := x_push hN (AH_W h1) hW.wa h2 (xa_iff.mpr ⟨rfl, rfl, hX⟩)
    obtain ⟨s', past', g3, g4, g5⟩ := m_restore (b := 1) hN h3 (AH_W h1) hW.wa hW'.wa (ma_iff.mpr hM) (ma_iff.mpr hM') (by decide)
    obtain ⟨e', c', g6, g7⟩ := x_copy (N := N) (k := nI K) (t := nI L.length) (e := e) (c := c) hN hW'.wa.2.1 (xa_iff.mpr ⟨rfl, rfl, hX'⟩)
    obtain ⟨-, -, x3⟩ := xa_iff.mp g7
    refine ⟨nI L'.length, nI K', nI L'.length, e', c', nI (hpush (AH Hs) (LN K L)).length, k0', t0', e0', c0', k1', t1', e1', c1', k2', t2', e2', c2', k3', t3', e3', c3', s', past', nI (hpush (AH Hs) (LN K L)).length, ?_, g3, ⟨K', L', hW', rfl, rfl, x3, ma_iff.mp g4⟩, ⟨(if Hs.length = 4 then Hs.drop 1 else Hs) ++ [(K, L)], fun p hp => ?_, ?_, ?_⟩⟩
    · unfold m_X6_restore
      rw [if_neg n10, g1, r_bind]
      dsimp only
      rw [g6, r_bind]
      rfl
    · rw [List.mem_append, List.mem_singleton] at hp
      rcases hp with hp | hp
      · split at hp
        · exact h1 p (List.mem_of_mem_drop hp)
        · exact h1 p hp
      · rw [hp]; exact hW
    · rw [← AH_push]; exact g2
    · rw [← AH_push]; exact g5
theorem b_readNet {g g' pairs rd dend dcol : Nat → Int32} {n n' dk dt psz at' ends : Int32} (hN : 1000 ≤ N) (hR : RN K L k t e c s) (hH : RH z k0 t0 e0 c0 k1 t1 e1 c1 k2 t2 e2 c2 k3 t3 e3 c3 past st) (hT : RT g n g' n') : ∃ r k' t' e' c' dk' dt' de' dc' z' k0' t0' e0' c0' k1' t1' e1' c1' k2' t2' e2' c2' k3' t3' e3' c3' pairs' psz' s' past' st' at2 ends' rd', m_X6_readNet N k t e c dk dt dend dcol z k0 t0 e0 c0 k1 t1 e1 c1 k2 t2 e2 c2 k3 t3 e3 c3 g n pairs psz = some (r, k', t', e', c', dk', dt', de', dc', z', k0', t0', e0', c0', k1', t1', e1', c1', k2', t2', e2', c2', k3', t3', e3', c3', pairs', psz') ∧ m_X7_readNet N s past st g' n' at' ends rd = some (r, s', past', st', at2, ends', rd') ∧ (∃ K' L', RN K' L' k' t' e' c' s') ∧ RH z' k0' t0' e0' c0' k1' t1' e1' c1' k2' t2' e2' c2' k3' t3' e3' c3' past' st' := by
  obtain ⟨z', k0', t0', e0', c0', k1', t1', e1', c1', k2', t2', e2', c2', k3', t3', e3', c3', past', st', p1, p2, p3⟩ := b_push hN hR hH
  have hR0 := hR
  obtain ⟨hW, rfl, rfl, hX, hM⟩ := hR
  obtain ⟨rfl, rfl, m, hm, rfl⟩ := hT
  unfold m_X6_readNet m_X7_readNet
  rcases text_both (N := N) (n := m) (g := g') (px := pairs) (rd := rd) (sz := psz) (a := at') (e := ends) hN hm with ⟨j, ee, px, pz, rd', hj, f1, f2⟩ | ⟨P, px, rd', P0, P15, hB, hXP, hMP, f1, f2⟩
  · refine ⟨-100 - nI j, nI K, nI L.length, e, c, dk, dt, dend, dcol, z, k0, t0, e0, c0, k1, t1, e1, c1, k2, t2, e2, c2, k3, t3, e3, c3, px, pz, s, past, st, nI j, ee, rd', ?_, ?_, ⟨K, L, hR0⟩, hH⟩
    · rw [f1, r_bind]
      dsimp only
      rw [if_neg (nI_pos (by omega))]
    · rw [f2, r_bind]
      rfl
  · have ti := x_ties (N := N) hN hXP hB P15
    have lo := m_isLoop (N := N) hN hMP hB P15
    have tw := m_isTwice (N := N) hN hMP hB P15
    have mu := m_isTooMuch (N := N) hN hMP hB P15
    have n1 : (-1 : Int32) < 0 := by decide
    have sb : ∀ b : Bool, (bI b = 0) ↔ b = false := fun b => by cases b <;> decide
    cases ql : an (loopP P) P.length with
    | true =>
      rw [ql] at ti lo
      refine ⟨-2, nI K, nI L.length, e, c, dk, dt, dend, dcol, z, k0, t0, e0, c0, k1, t1, e1, c1, k2, t2, e2, c2, k3, t3, e3, c3, px, nI P.length, s, past, st, nI m, nI (2 * P.length), rd', ?_, ?_, ⟨K, L, hR0⟩, hH⟩
      · rw [f1, r_bind]
        dsimp only
        rw [if_pos n1, ti, r_bind, if_pos btt, if_neg n10]
      · rw [f2, r_bind]
        dsimp only
        rw [if_neg n10, lo, r_bind, if_neg (by decide)]
    | false =>
      rw [ql] at ti lo
      have hL := an_false.mp ql
      have hne := no_loop hL
      have wn := WL_nl hB hL
      rcases x_tieInto (N := N) (k0 := dk) (t0 := dt) (e := dend) (c := dcol) hN hXP hB hne P15 P0 with ⟨w, de', dc', g1, g2⟩ | ⟨w, dk', dt', de', dc', g1⟩
      · have hW2 := WL.top w hB
        obtain ⟨wa, wb⟩ := wn.mp w
        rw [wa] at tw
        rw [wb] at mu
        obtain ⟨e', c', y1, y2⟩ := x_copy (N := N) (k := nI K) (t := nI L.length) (e := e) (c := c) hN hW2.wa.2.1 (xa_iff.mpr ⟨rfl, rfl, g2⟩)
        rw [nl_len] at y1
        obtain ⟨-, -, y3⟩ := xa_iff.mp y2
        have ml0 : ML (topP []) (nl []) (upd (upd s 0 0) 1 0) := by
          refine ⟨?_, ?_, fun i x hx => by simp [nl] at hx⟩
          · show upd (upd s 0 0) 1 0 0 = nI 0
            rw [upd_n (by decide), upd_s]
            rfl
          · show upd (upd s 0 0) 1 0 1 = nI 0
            rw [upd_s]
            rfl
        obtain ⟨s', y4, y5⟩ := m_readLoop (N := N) (past := past') (st := st') (at' := nI m) hMP hB P15 P [] rfl N _ ml0 (by omega)
        refine ⟨nI (topP P), nI (topP P), nI P.length, e', c', nI (topP P), nI P.length, de', dc', z', k0', t0', e0', c0', k1', t1', e1', c1', k2', t2', e2', c2', k3', t3', e3', c3', px, nI P.length, s', past', st', nI m, nI (2 * P.length), rd', ?_, ?_, ⟨topP P, nl P, hW2, rfl, by rw [nl_len], y3, y5⟩, p3⟩
        · rw [f1, r_bind]
          dsimp only
          rw [if_pos n1, ti, r_bind, if_neg bff, if_pos rfl, g1, r_bind]
          dsimp only
          rw [if_neg n10, p1, r_bind]
          dsimp only
          rw [y1, r_bind]
          rfl
        · rw [f2, r_bind]
          dsimp only
          rw [if_neg n10, lo, r_bind, if_pos ((sb false).mpr rfl), tw, r_bind, if_pos ((sb false).mpr rfl), mu, r_bind, if_pos ((sb false).mpr rfl), p2, r_bind]
          dsimp only
          rw [w_0 (by decide), cl_0]
          simp only [nm]
          rw [show (1 : Int32) = nI 1 from rfl, r_awr (i := 1) (by decide) (by decide), nI_clamp (by decide)]
          exact y4
      · refine ⟨-4, nI K, nI L.length, e, c, dk', dt', de', dc', z, k0, t0, e0, c0, k1, t1, e1, c1, k2, t2, e2, c2, k3, t3, e3, c3, px, nI P.length, s, past, st, nI m, nI (2 * P.length), rd', ?_, ?_, ⟨K, L, hR0⟩, hH⟩
        · rw [f1, r_bind]
          dsimp only
          rw [if_pos n1, ti, r_bind, if_neg bff, if_pos rfl, g1, r_bind]
          rfl
        · rw [f2, r_bind]
          dsimp only
          rw [if_neg n10, lo, r_bind, if_pos ((sb false).mpr rfl), tw, r_bind]
          cases qa : an (twiceP P) P.length with
          | true => rw [if_neg (by decide)]
          | false =>
            rw [if_pos ((sb false).mpr rfl), mu, r_bind]
            cases qb : an (muchP P) 14 with
            | true => rw [if_neg (by decide)]
            | false => exact absurd (wn.mpr ⟨qa, qb⟩) w
end TX
