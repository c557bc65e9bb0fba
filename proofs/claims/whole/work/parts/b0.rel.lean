/-! what holds between both classes, and how an act is recorded -/
def RN (K : Nat) (L : List TH) (k t : Int32) (e c s : Nat → Int32) : Prop := WL K L ∧ k = nI K ∧ t = nI L.length ∧ XL L e c ∧ ML K L s
def RH (z : Int32) (k0 t0 : Int32) (e0 c0 : Nat → Int32) (k1 t1 : Int32) (e1 c1 : Nat → Int32) (k2 t2 : Int32) (e2 c2 : Nat → Int32) (k3 t3 : Int32) (e3 c3 : Nat → Int32) (past : Nat → Int32) (st : Int32) : Prop := ∃ Hs : List (Nat × List TH), (∀ p ∈ Hs, WL p.1 p.2) ∧ XH (AH Hs) z k0 t0 e0 c0 k1 t1 e1 c1 k2 t2 e2 c2 k3 t3 e3 c3 ∧ MH (AH Hs) past st
def RS (b k t : Int32) (e c slot : Nat → Int32) (b' : Int32) : Prop := (b = 0 ∧ b' = 0) ∨ (b = 1 ∧ b' = 1 ∧ ∃ K L, WL K L ∧ k = nI K ∧ t = nI L.length ∧ XL L e c ∧ ML K L slot)
def RT (g : Nat → Int32) (n : Int32) (g' : Nat → Int32) (n' : Int32) : Prop := g' = g ∧ n' = n ∧ ∃ m, m ≤ 60 ∧ n = nI m
theorem AH_W {Hs : List (Nat × List TH)} (h : ∀ p ∈ Hs, WL p.1 p.2) : WH (AH Hs) := by
  intro A hA
  unfold AH at hA
  obtain ⟨p, hp, rfl⟩ := List.mem_map.mp hA
  exact (h p hp).wa
theorem AH_len (Hs : List (Nat × List TH)) : (AH Hs).length = Hs.length := List.length_map ..
theorem AH_push (Hs : List (Nat × List TH)) (K : Nat) (L : List TH) : hpush (AH Hs) (LN K L) = AH ((if Hs.length = 4 then Hs.drop 1 else Hs) ++ [(K, L)]) := by
  unfold hpush
  rw [AH_len]
  unfold AH
  split <;> simp [List.map_append, List.map_drop]
section RE
variable {N K : Nat} {L : List TH} {k t z k0 t0 k1 t1 k2 t2 k3 t3 st : Int32} {e c s past e0 c0 e1 c1 e2 c2 e3 c3 : Nat → Int32}
theorem kn_ (x : Int32) : m_X2_knots N x = some x := rfl
theorem th_ (x : Int32) : m_X2_threads N x = some x := rfl
theorem b_push (hN : 1000 ≤ N) (hR : RN K L k t e c s) (hH : RH z k0 t0 e0 c0 k1 t1 e1 c1 k2 t2 e2 c2 k3 t3 e3 c3 past st) : ∃ z' k0' t0' e0' c0' k1' t1' e1' c1' k2' t2' e2' c2' k3' t3' e3' c3' past' st', m_X1_push N z k0 t0 e0 c0 k1 t1 e1 c1 k2 t2 e2 c2 k3 t3 e3 c3 k t e c = some (z', k0', t0', e0', c0', k1', t1', e1', c1', k2', t2', e2', c2', k3', t3', e3', c3') ∧ m_X7_records N s past st = some (past', st') ∧ RH z' k0' t0' e0' c0' k1' t1' e1' c1' k2' t2' e2' c2' k3' t3' e3' c3' past' st' := by
  obtain ⟨hW, rfl, rfl, hX, hM⟩ := hR
  obtain ⟨Hs, h1, h2, h3⟩ := hH
  obtain ⟨k0', t0', e0', c0', k1', t1', e1', c1', k2', t2', e2', c2', k3', t3', e3', c3', g1, g2⟩ := x_push hN (AH_W h1) hW.wa h2 (xa_iff.mpr ⟨rfl, rfl, hX⟩)
  obtain ⟨past', g3, g4⟩ := m_records hN h3 (AH_W h1) (ma_iff.mpr hM) hW.wa
  refine ⟨_, k0', t0', e0', c0', k1', t1', e1', c1', k2', t2', e2', c2', k3', t3', e3', c3', past', _, g1, g3, ⟨(if Hs.length = 4 then Hs.drop 1 else Hs) ++ [(K, L)], fun p hp => ?_, ?_, ?_⟩⟩
  · rw [List.mem_append, List.mem_singleton] at hp
    rcases hp with hp | hp
    · split at hp
      · exact h1 p (List.mem_of_mem_drop hp)
      · exact h1 p hp
    · rw [hp]; exact hW
  · rw [← AH_push]; exact g2
  · rw [← AH_push]; exact g4
theorem RN.w (h : RN K L k t e c s) : WL K L := h.1
theorem b_addKnot (hN : 1000 ≤ N) (hR : RN K L k t e c s) (hH : RH z k0 t0 e0 c0 k1 t1 e1 c1 k2 t2 e2 c2 k3 t3 e3 c3 past st) : ∃ r k' z' k0' t0' e0' c0' k1' t1' e1' c1' k2' t2' e2' c2' k3' t3' e3' c3' s' past' st', m_X6_addKnot N k t e c z k0 t0 e0 c0 k1 t1 e1 c1 k2 t2 e2 c2 k3 t3 e3 c3 = some (r, k', z', k0', t0', e0', c0', k1', t1', e1', c1', k2', t2', e2', c2', k3', t3', e3', c3') ∧ m_X7_addKnot N s past st = some (r, s', past', st') ∧ (∃ K' L', RN K' L' k' t e c s') ∧ RH z' k0' t0' e0' c0' k1' t1' e1' c1' k2' t2' e2' c2' k3' t3' e3' c3' past' st' := by
  obtain ⟨z', k0', t0', e0', c0', k1', t1', e1', c1', k2', t2', e2', c2', k3', t3', e3', c3', past', st', p1, p2, p3⟩ := b_push hN hR hH
  obtain ⟨hW, rfl, rfl, hX, hM⟩ := hR
  have hK := hW.1
  unfold m_X6_addKnot m_X7_addKnot
  rw [kn_, r_bind, r_0 (by decide), hM.1]
  by_cases q : K = 14
  · refine ⟨-3, nI K, z, k0, t0, e0, c0, k1, t1, e1, c1, k2, t2, e2, c2, k3, t3, e3, c3, s, past, st, ?_, ?_, ⟨K, L, hW, rfl, rfl, hX, hM⟩, hH⟩
    · rw [if_neg (show ¬ nI K < 14 from nI_nlt (b := 14) (by omega) (by omega))]
    · rw [if_pos (show nI K = 14 by rw [q]; rfl)]
  · refine ⟨nI K, nI (K + 1), z', k0', t0', e0', c0', k1', t1', e1', c1', k2', t2', e2', c2', k3', t3', e3', c3', upd s 0 (nI (K + 1)), past', st', ?_, ?_, ⟨K + 1, L, hW.more (by omega) (by omega), rfl, rfl, hX, ML_knots hM⟩, p3⟩
    · rw [if_pos (show nI K < 14 from nI_lt (b := 14) (by omega) (by omega)), p1, r_bind]
      dsimp only
      rw [show m_X2_addKnots N (nI K) 1 = some (nI (K + 1)) from x_addKn (d := 1) (by omega), r_bind, kn_, r_bind, nI_pred]
    · rw [if_neg (show ¬ nI K = 14 from fun g => q ((nI_eq (b := 14) (by omega) (by decide)).mp g)), p2, r_bind]
      dsimp only
      rw [r_0 (by decide), hM.1, w_0 (by decide), cl_0]
      simp only [nm]
      rw [nI_1, r_0 (by decide), upd_s, nI_pred]
theorem b_removeKnot (a : Int32) (hN : 1000 ≤ N) (hR : RN K L k t e c s) (hH : RH z k0 t0 e0 c0 k1 t1 e1 c1 k2 t2 e2 c2 k3 t3 e3 c3 past st) : ∃ r k' t' e' c' z' k0' t0' e0' c0' k1' t1' e1' c1' k2' t2' e2' c2' k3' t3' e3' c3' s' past' st', m_X6_removeKnot N k t e c z k0 t0 e0 c0 k1 t1 e1 c1 k2 t2 e2 c2 k3 t3 e3 c3 a = some (r, k', t', e', c', z', k0', t0', e0', c0', k1', t1', e1', c1', k2', t2', e2', c2', k3', t3', e3', c3') ∧ m_X7_removeKnot N s past st a = some (r, s', past', st') ∧ (∃ K' L', RN K' L' k' t' e' c' s') ∧ RH z' k0' t0' e0' c0' k1' t1' e1' c1' k2' t2' e2' c2' k3' t3' e3' c3' past' st' := by
  obtain ⟨z', k0', t0', e0', c0', k1', t1', e1', c1', k2', t2', e2', c2', k3', t3', e3', c3', past', st', p1, p2, p3⟩ := b_push hN hR hH
  obtain ⟨hW, rfl, rfl, hX, hM⟩ := hR
  have hK := hW.1
  have h21 := hW.len21
  unfold m_X6_removeKnot m_X7_removeKnot
  rw [x_hasKnot (by omega), m_isKnot hK (ML_iff.mp hM), r_bind, r_bind]
  by_cases q : ∃ i, i < K ∧ a = nI i
  · obtain ⟨i, hi, rfl⟩ := id q
    obtain ⟨e', c', g1, g2⟩ := x_dropKnot hN hW hi hX
    obtain ⟨s1, g3, g4⟩ := m_removeLoop hN (show i < 14 by omega) (fun (f_s_9 : Nat → Int32) => (Option.bind (m_X7_dropKnot N f_s_9 (nI i)) (fun f_s_10 => ard f_s_10 65 1 (fun (u_13 : Int32) => some (u_13, f_s_10, past', st'))) : Option (Int32 × (Nat → Int32) × (Nat → Int32) × Int32))) L.length N L s (Nat.le_refl _) hW hM (by omega)
    rw [dropd_all] at g4
    have hW1 := hW.sub (List.filter_sublist (p := fun x => !atk i x) (l := L))
    have hno : ∀ x ∈ L.filter (fun x => !atk i x), atk i x = false := by
      intro x hx
      have := (List.mem_filter.mp hx).2
      simpa using this
    obtain ⟨s2, g5, g6⟩ := m_dropKnot hN hW1.len21 hW1.2.1 hK hi hno g4
    refine ⟨nI ((L.filter (fun x => !atk i x)).map (rnx i)).length, nI (K - 1), nI ((L.filter (fun x => !atk i x)).map (rnx i)).length, e', c', z', k0', t0', e0', c0', k1', t1', e1', c1', k2', t2', e2', c2', k3', t3', e3', c3', s2, past', st', ?_, ?_, ⟨K - 1, (L.filter (fun x => !atk i x)).map (rnx i), hW.drop hi, rfl, rfl, g2, g6⟩, p3⟩
    · rw [if_pos q, if_neg n10, p1, r_bind]
      dsimp only
      rw [g1, r_bind]
      dsimp only
      rw [th_, r_bind]
    · rw [if_pos q, if_neg n10, p2, r_bind]
      dsimp only
      rw [r_1 (by decide), hM.2.1]
      simp only [nm, jn]
      refine Eq.trans g3 ?_
      rw [g5, r_bind, r_1 (by decide), g6.2.1]
  · refine ⟨-1, nI K, nI L.length, e, c, z, k0, t0, e0, c0, k1, t1, e1, c1, k2, t2, e2, c2, k3, t3, e3, c3, s, past, st, ?_, ?_, ⟨K, L, hW, rfl, rfl, hX, hM⟩, hH⟩
    · rw [if_neg q, if_pos rfl]
    · rw [if_neg q, if_pos rfl]
theorem b_removeThread (a : Int32) (hN : 1000 ≤ N) (hR : RN K L k t e c s) (hH : RH z k0 t0 e0 c0 k1 t1 e1 c1 k2 t2 e2 c2 k3 t3 e3 c3 past st) : ∃ r t' e' c' z' k0' t0' e0' c0' k1' t1' e1' c1' k2' t2' e2' c2' k3' t3' e3' c3' s' past' st', m_X6_removeThread N k t e c z k0 t0 e0 c0 k1 t1 e1 c1 k2 t2 e2 c2 k3 t3 e3 c3 a = some (r, t', e', c', z', k0', t0', e0', c0', k1', t1', e1', c1', k2', t2', e2', c2', k3', t3', e3', c3') ∧ m_X7_removeThread N s past st a = some (r, s', past', st') ∧ (∃ K' L', RN K' L' k t' e' c' s') ∧ RH z' k0' t0' e0' c0' k1' t1' e1' c1' k2' t2' e2' c2' k3' t3' e3' c3' past' st' := by
  obtain ⟨z', k0', t0', e0', c0', k1', t1', e1', c1', k2', t2', e2', c2', k3', t3', e3', c3', past', st', p1, p2, p3⟩ := b_push hN hR hH
  obtain ⟨hW, rfl, rfl, hX, hM⟩ := hR
  have h21 := hW.len21
  unfold m_X6_removeThread m_X7_removeThread
  rw [x_hasThread h21, m_isThread h21 (ML_iff.mp hM), r_bind, r_bind]
  by_cases q : ∃ i, i < L.length ∧ a = nI i
  · obtain ⟨i, hi, rfl⟩ := id q
    obtain ⟨e', c', g1, g2⟩ := x_dropThread hN h21 hX hi
    obtain ⟨s', g3, g4⟩ := m_dropThread hN h21 hM hi
    have len : (L.eraseIdx i).length = L.length - 1 := List.length_eraseIdx_of_lt hi
    refine ⟨nI (L.length - 1), nI (L.length - 1), e', c', z', k0', t0', e0', c0', k1', t1', e1', c1', k2', t2', e2', c2', k3', t3', e3', c3', s', past', st', ?_, ?_, ⟨K, L.eraseIdx i, hW.sub (List.eraseIdx_sublist L i), rfl, by rw [len], g2, g4⟩, p3⟩
    · rw [if_pos q, if_neg n10, p1, r_bind]
      dsimp only
      rw [g1, r_bind]
      dsimp only
      rw [th_, r_bind]
    · rw [if_pos q, if_neg n10, p2, r_bind]
      dsimp only
      rw [g3, r_bind, r_1 (by decide), g4.2.1, len]
  · refine ⟨-1, nI L.length, e, c, z, k0, t0, e0, c0, k1, t1, e1, c1, k2, t2, e2, c2, k3, t3, e3, c3, s, past, st, ?_, ?_, ⟨K, L, hW, rfl, rfl, hX, hM⟩, hH⟩
    · rw [if_neg q, if_pos rfl]
    · rw [if_neg q, if_pos rfl]
end RE
