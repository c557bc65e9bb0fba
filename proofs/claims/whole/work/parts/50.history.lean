/-! pure: copies, the history, the snapshot -/
abbrev AN : Type := Nat × Nat × (Nat → Nat) × (Nat → Nat) × (Nat → Nat)
def WA (A : AN) : Prop := wf A.1 A.2.1 A.2.2.1 A.2.2.2.1 A.2.2.2.2
def XA (A : AN) (k t : Int32) (e c : Nat → Int32) : Prop := k = nI A.1 ∧ t = nI A.2.1 ∧ XE A.2.1 A.2.2.1 A.2.2.2.1 e ∧ XC A.2.1 A.2.2.2.2 c
def MA (A : AN) (s : Nat → Int32) : Prop := MN A.1 A.2.1 A.2.2.1 A.2.2.2.1 A.2.2.2.2 s
def pu (f g : Nat → Int32) (a n : Nat) : Nat → Int32 := fun k => if a ≤ k ∧ k < a + n then g (k - a) else f k
theorem pu_0 (f g : Nat → Int32) (a : Nat) : pu f g a 0 = f := by
  funext k
  unfold pu
  rw [if_neg (by omega)]
theorem pu_s (f g : Nat → Int32) (a n : Nat) : upd (pu f g a n) (a + n) (g n) = pu f g a (n + 1) := by
  funext k
  by_cases h : k = a + n
  · subst h
    rw [upd_s]
    unfold pu
    rw [if_pos (by omega), show a + n - a = n by omega]
  · rw [upd_n h]
    unfold pu
    by_cases q : a ≤ k ∧ k < a + n
    · rw [if_pos q, if_pos (by omega)]
    · rw [if_neg q, if_neg (by omega)]
theorem MA.cong {A : AN} {s s' : Nat → Int32} (hT : A.2.1 ≤ 21) (h : MA A s) (e : ∀ i, i < 65 → s' i = s i) : MA A s' := by
  refine ⟨by rw [e 0 (by omega)]; exact h.1, by rw [e 1 (by omega)]; exact h.2.1, fun i hi => ?_⟩
  rw [e _ (by omega), e _ (by omega), e _ (by omega)]
  exact h.2.2 i hi
theorem x_copy {N : Nat} {A : AN} {k t ok ot : Int32} {e c oe oc : Nat → Int32} (hN : 1000 ≤ N) (hT : A.2.1 ≤ 21) (h : XA A ok ot oe oc) : ∃ e' c', m_X2_copyFrom N k t e c ok ot oe oc = some (ok, ot, e', c') ∧ XA A ok ot e' c' := by
  obtain ⟨K, T, lo, hi, co⟩ := A
  obtain ⟨rfl, rfl, he, hc⟩ := h
  have hT : T ≤ 21 := hT
  refine ⟨pu e oe 0 T, pu c oc 0 T, ?_, rfl, rfl, fun i hi' => ?_, fun i hi' => ?_⟩
  · unfold m_X2_copyFrom
    refine Eq.trans (b := m_X2_copyFrom_L18 N (nI K) (nI T) oe oc N (nI 0) (pu e oe 0 0) (pu c oc 0 0)) (by rw [pu_0, pu_0]; rfl) ?_
    refine for_up (fun n i (acc : (Nat → Int32) × (Nat → Int32)) => m_X2_copyFrom_L18 N (nI K) (nI T) oe oc n (nI i) acc.1 acc.2) T (fun i => (pu e oe 0 i, pu c oc 0 i)) _ ?_ ?_ T N 0 (by omega) (by omega)
    · intro n
      show m_X2_copyFrom_L18 N (nI K) (nI T) oe oc (n + 1) (nI T) _ _ = _
      rw [m_X2_copyFrom_L18, if_pos (nI_le (Nat.le_refl _) (by omega))]
    · intro n i hj
      show m_X2_copyFrom_L18 N (nI K) (nI T) oe oc (n + 1) (nI i) _ _ = m_X2_copyFrom_L18 N (nI K) (nI T) oe oc n (nI (i + 1)) _ _
      rw [m_X2_copyFrom_L18, if_neg (nI_ge hj (by omega)), x_ends hT he hj, r_bind, x_put (by omega) (by decide), r_bind, x_colour hT hc hj, r_bind, x_put (by omega) (by decide), r_bind, nI_1]
      have a := pu_s e oe 0 i
      have b := pu_s c oc 0 i
      rw [Nat.zero_add] at a b
      rw [← a, ← b, he i hj, hc i hj]
  · show pu e oe 0 T i = _
    unfold pu
    rw [if_pos (by exact ⟨Nat.zero_le _, by rw [Nat.zero_add]; exact hi'⟩)]
    exact he i hi'
  · show pu c oc 0 T i = _
    unfold pu
    rw [if_pos (by exact ⟨Nat.zero_le _, by rw [Nat.zero_add]; exact hi'⟩)]
    exact hc i hi'
def XH (Hs : List AN) (z k0 t0 : Int32) (e0 c0 : Nat → Int32) (k1 t1 : Int32) (e1 c1 : Nat → Int32) (k2 t2 : Int32) (e2 c2 : Nat → Int32) (k3 t3 : Int32) (e3 c3 : Nat → Int32) : Prop :=
  z = nI Hs.length ∧ Hs.length ≤ 4 ∧ (∀ A, Hs[0]? = some A → XA A k0 t0 e0 c0) ∧ (∀ A, Hs[1]? = some A → XA A k1 t1 e1 c1) ∧ (∀ A, Hs[2]? = some A → XA A k2 t2 e2 c2) ∧ ∀ A, Hs[3]? = some A → XA A k3 t3 e3 c3
def MH (Hs : List AN) (past : Nat → Int32) (z : Int32) : Prop := z = nI Hs.length ∧ Hs.length ≤ 4 ∧ ∀ j A, Hs[j]? = some A → MA A (fun i => past (65 * j + i))
def WH (Hs : List AN) : Prop := ∀ A ∈ Hs, WA A
def hpush (Hs : List AN) (A : AN) : List AN := (if Hs.length = 4 then Hs.drop 1 else Hs) ++ [A]
theorem WA.T {A : AN} (h : WA A) : A.2.1 ≤ 21 := h.2.1
theorem hpush_len {Hs : List AN} {A : AN} (h : Hs.length ≤ 4) : (hpush Hs A).length ≤ 4 := by
  unfold hpush
  split <;> simp <;> omega
theorem WH.push {Hs : List AN} {A : AN} (h : WH Hs) (hA : WA A) : WH (hpush Hs A) := by
  intro B hB
  unfold hpush at hB
  rw [List.mem_append] at hB
  rcases hB with hB | hB
  · split at hB
    · exact h B (List.mem_of_mem_drop hB)
    · exact h B hB
  · rw [List.mem_singleton] at hB
    rw [hB]; exact hA
theorem at_push {Hs : List AN} {A B : AN} {j : Nat} (h4 : Hs.length ≤ 4) (h : (hpush Hs A)[j]? = some B) : (j + 1 = (hpush Hs A).length ∧ B = A) ∨ (Hs.length = 4 ∧ j < 3 ∧ Hs[j + 1]? = some B) ∨ (Hs.length < 4 ∧ j < Hs.length ∧ Hs[j]? = some B) := by
  unfold hpush at h ⊢
  by_cases q : Hs.length = 4
  · rw [if_pos q] at h ⊢
    by_cases g : j < 3
    · rw [List.getElem?_append_left (by simp; omega), List.getElem?_drop] at h
      exact Or.inr (Or.inl ⟨q, g, by rw [Nat.add_comm]; exact h⟩)
    · rw [List.getElem?_append_right (by simp; omega)] at h
      have : j - (Hs.drop 1).length = 0 := by
        rcases Nat.eq_zero_or_pos (j - (Hs.drop 1).length) with z | z
        · exact z
        · rw [List.getElem?_eq_none (by simp at z ⊢; omega)] at h; cases h
      rw [this] at h
      simp at h this
      exact Or.inl ⟨by simp; omega, h.symm⟩
  · rw [if_neg q] at h ⊢
    by_cases g : j < Hs.length
    · rw [List.getElem?_append_left g] at h
      exact Or.inr (Or.inr ⟨by omega, g, h⟩)
    · rw [List.getElem?_append_right (by omega)] at h
      have : j - Hs.length = 0 := by
        rcases Nat.eq_zero_or_pos (j - Hs.length) with z | z
        · exact z
        · rw [List.getElem?_eq_none (by simp; omega)] at h; cases h
      rw [this] at h
      simp at h
      exact Or.inl ⟨by simp; omega, h.symm⟩
theorem m_records {N : Nat} {Hs : List AN} {A : AN} {s past : Nat → Int32} {z : Int32} (hN : 1000 ≤ N) (hH : MH Hs past z) (hW : WH Hs) (hA : MA A s) (hWA : WA A) : ∃ past', m_X7_records N s past z = some (past', nI (hpush Hs A).length) ∧ MH (hpush Hs A) past' (nI (hpush Hs A).length) := by
  obtain ⟨rfl, h4, hP⟩ := hH
  -- the last step: s goes to the row st
  have put : ∀ (p : Nat → Int32) (st : Nat) (J : (Nat → Int32) → Option ((Nat → Int32) × Int32)), st ≤ 3 → m_X7_records_L50 N s (nI st) J N 0 p = J (pu p s (65 * st) 65) := by
    intro p st J hst
    refine Eq.trans (b := m_X7_records_L50 N s (nI st) J N (nI 0) (pu p s (65 * st) 0)) (by rw [pu_0]; rfl) ?_
    refine for_up (fun n i (acc : Nat → Int32) => m_X7_records_L50 N s (nI st) J n (nI i) acc) 65 (fun i => pu p s (65 * st) i) _ ?_ ?_ 65 N 0 (by omega) (by omega)
    · intro n
      show m_X7_records_L50 N s (nI st) J (n + 1) (nI 65) _ = _
      rw [m_X7_records_L50, if_pos (show (65 : Int32) ≤ nI 65 by decide)]
    · intro n i hj
      show m_X7_records_L50 N s (nI st) J (n + 1) (nI i) _ = m_X7_records_L50 N s (nI st) J n (nI (i + 1)) _
      have e : (65 : Int32) * nI st + nI i = nI (65 * st + i) := by
        show nI 65 * nI st + nI i = _
        rw [pk_mul, nI_add]
      rw [m_X7_records_L50, if_neg (show ¬ (65 : Int32) ≤ nI i from nI_ge (b := 65) hj (by omega)), r_ard hj (by omega), e, r_awr (by omega) (by omega), nI_clamp (by omega), nI_1]
      simp only [nm]
      rw [pu_s]
  have shift : ∀ (J : (Nat → Int32) → Option ((Nat → Int32) × Int32)), m_X7_records_L10 N J N 0 past = J (pu past (fun k => past (k + 65)) 0 195) := by
    intro J
    refine Eq.trans (b := m_X7_records_L10 N J N (nI 0) (pu past (fun k => past (k + 65)) 0 0)) (by rw [pu_0]; rfl) ?_
    refine for_up (fun n i (acc : Nat → Int32) => m_X7_records_L10 N J n (nI i) acc) 195 (fun i => pu past (fun k => past (k + 65)) 0 i) _ ?_ ?_ 195 N 0 (by omega) (by omega)
    · intro n
      show m_X7_records_L10 N J (n + 1) (nI 195) _ = _
      rw [m_X7_records_L10, if_pos (show (195 : Int32) ≤ nI 195 by decide)]
    · intro n i hj
      show m_X7_records_L10 N J (n + 1) (nI i) _ = m_X7_records_L10 N J n (nI (i + 1)) _
      have e : nI i + (65 : Int32) = nI (i + 65) := nI_add i 65
      rw [m_X7_records_L10, if_neg (show ¬ (195 : Int32) ≤ nI i from nI_ge (b := 195) hj (by omega)), e, r_ard (by omega) (by omega), r_awr (by omega) (by omega), nI_clamp (by omega), nI_1]
      simp only [nm]
      have a := pu_s past (fun k => past (k + 65)) 0 i
      rw [Nat.zero_add] at a
      rw [← a]
      congr 2
      unfold pu
      rw [if_neg (by omega)]
  unfold m_X7_records
  simp only [jn, nm]
  by_cases q : Hs.length = 4
  · have l : (hpush Hs A).length = 4 := by unfold hpush; rw [if_pos q]; simp; omega
    refine ⟨pu (pu past (fun k => past (k + 65)) 0 195) s (65 * 3) 65, ?_, rfl, by rw [l]; omega, ?_⟩
    · rw [if_pos (by rw [q]; rfl), shift, q]
      rw [show nI 4 - 1 = nI 3 from rfl, put _ 3 _ (by omega), l]
      rfl
    · intro j B hB
      have hTB : B.2.1 ≤ 21 := (WH.push hW hWA B (List.mem_of_getElem? hB)).T
      rcases at_push h4 hB with ⟨e1, rfl⟩ | ⟨-, e2, e3⟩ | ⟨e1, -, -⟩
      · have : j = 3 := by omega
        subst this
        refine hA.cong hTB (fun i hi => ?_)
        unfold pu
        rw [if_pos (by omega), show 65 * 3 + i - 65 * 3 = i by omega]
      · refine (hP (j + 1) B e3).cong hTB (fun i hi => ?_)
        unfold pu
        rw [if_neg (by omega), if_pos (by omega)]
        show past (65 * j + i - 0 + 65) = past (65 * (j + 1) + i)
        rw [show 65 * j + i - 0 + 65 = 65 * (j + 1) + i by omega]
      · omega
  · have l : (hpush Hs A).length = Hs.length + 1 := by unfold hpush; rw [if_neg q]; simp
    refine ⟨pu past s (65 * Hs.length) 65, ?_, rfl, by rw [l]; omega, ?_⟩
    · rw [if_neg (show ¬ nI Hs.length = 4 from fun g => q ((nI_eq (b := 4) (by omega) (by omega)).mp g)), put _ _ _ (by omega), nI_1, l]
    · intro j B hB
      have hTB : B.2.1 ≤ 21 := (WH.push hW hWA B (List.mem_of_getElem? hB)).T
      rcases at_push h4 hB with ⟨e1, rfl⟩ | ⟨e1, -, -⟩ | ⟨-, e2, e3⟩
      · have : j = Hs.length := by omega
        subst this
        refine hA.cong hTB (fun i hi => ?_)
        unfold pu
        rw [if_pos (by omega), show 65 * Hs.length + i - 65 * Hs.length = i by omega]
      · omega
      · refine (hP j B e3).cong hTB (fun i hi => ?_)
        unfold pu
        rw [if_neg (by omega)]

theorem x_dropOldest {N : Nat} {Hs : List AN} {z k0 t0 k1 t1 k2 t2 k3 t3 : Int32} {e0 c0 e1 c1 e2 c2 e3 c3 : Nat → Int32} (hN : 1000 ≤ N) (hW : WH Hs) (h : XH Hs z k0 t0 e0 c0 k1 t1 e1 c1 k2 t2 e2 c2 k3 t3 e3 c3) (h4 : Hs.length = 4) : ∃ a0 b0 d0 f0 a1 b1 d1 f1 a2 b2 d2 f2, m_X1_dropOldest N z k0 t0 e0 c0 k1 t1 e1 c1 k2 t2 e2 c2 k3 t3 e3 c3 = some (3, a0, b0, d0, f0, a1, b1, d1, f1, a2, b2, d2, f2, k3, t3, e3, c3) ∧ XH (Hs.drop 1) 3 a0 b0 d0 f0 a1 b1 d1 f1 a2 b2 d2 f2 k3 t3 e3 c3 := by
  obtain ⟨hz, -, h0, h1, h2, h3⟩ := h
  have g : ∀ j, j < 4 → ∃ A, Hs[j]? = some A ∧ A.2.1 ≤ 21 := fun j hj => ⟨Hs[j]'(by omega), List.getElem?_eq_getElem (by omega), (hW _ (List.getElem_mem (by omega))).T⟩
  obtain ⟨A1, g1, w1⟩ := g 1 (by omega)
  obtain ⟨A2, g2, w2⟩ := g 2 (by omega)
  obtain ⟨A3, g3, w3⟩ := g 3 (by omega)
  obtain ⟨d0, f0, y0, x0⟩ := x_copy (k := k0) (t := t0) (e := e0) (c := c0) hN w1 (h1 A1 g1)
  obtain ⟨d1, f1, y1, x1⟩ := x_copy (k := k1) (t := t1) (e := e1) (c := c1) hN w2 (h2 A2 g2)
  obtain ⟨d2, f2, y2, x2⟩ := x_copy (k := k2) (t := t2) (e := e2) (c := c2) hN w3 (h3 A3 g3)
  refine ⟨k1, t1, d0, f0, k2, t2, d1, f1, k3, t3, d2, f2, ?_, ?_⟩
  · unfold m_X1_dropOldest
    simp only [nm]
    rw [y0, r_bind, y1, r_bind, y2, r_bind, hz, h4]
    rfl
  · have q : ∀ j, (Hs.drop 1)[j]? = Hs[j + 1]? := fun j => by rw [List.getElem?_drop, Nat.add_comm]
    refine ⟨by rw [List.length_drop, h4]; rfl, by rw [List.length_drop, h4]; decide, fun A hA => ?_, fun A hA => ?_, fun A hA => ?_, fun A hA => ?_⟩
    · rw [q, g1] at hA; cases hA; exact x0
    · rw [q, g2] at hA; cases hA; exact x1
    · rw [q, g3] at hA; cases hA; exact x2
    · rw [q, List.getElem?_eq_none (by omega)] at hA; cases hA
theorem x_push {N : Nat} {Hs : List AN} {A : AN} {z k0 t0 k1 t1 k2 t2 k3 t3 k t : Int32} {e0 c0 e1 c1 e2 c2 e3 c3 e c : Nat → Int32} (hN : 1000 ≤ N) (hW : WH Hs) (hWA : WA A) (h : XH Hs z k0 t0 e0 c0 k1 t1 e1 c1 k2 t2 e2 c2 k3 t3 e3 c3) (hA : XA A k t e c) : ∃ a0 b0 d0 f0 a1 b1 d1 f1 a2 b2 d2 f2 a3 b3 d3 f3, m_X1_push N z k0 t0 e0 c0 k1 t1 e1 c1 k2 t2 e2 c2 k3 t3 e3 c3 k t e c = some (nI (hpush Hs A).length, a0, b0, d0, f0, a1, b1, d1, f1, a2, b2, d2, f2, a3, b3, d3, f3) ∧ XH (hpush Hs A) (nI (hpush Hs A).length) a0 b0 d0 f0 a1 b1 d1 f1 a2 b2 d2 f2 a3 b3 d3 f3 := by
  by_cases q : Hs.length = 4
  · obtain ⟨a0, b0, d0, f0, a1, b1, d1, f1, a2, b2, d2, f2, y, -, -, x0, x1, x2, x3⟩ := x_dropOldest hN hW h q
    obtain ⟨d, f, y2, x⟩ := x_copy (k := k3) (t := t3) (e := e3) (c := c3) hN hWA.T hA
    have l : (hpush Hs A).length = 4 := by unfold hpush; rw [if_pos q]; simp; omega
    refine ⟨a0, b0, d0, f0, a1, b1, d1, f1, a2, b2, d2, f2, k, t, d, f, ?_, rfl, by rw [l]; exact Nat.le_refl 4, ?_⟩
    · unfold m_X1_push
      rw [if_neg (show ¬ z < 4 by rw [h.1, q]; decide), y, r_bind, l]
      simp [jn, nm, y2]
      decide
    · have ee : hpush Hs A = Hs.drop 1 ++ [A] := by unfold hpush; rw [if_pos q]
      have ap : ∀ j, j < 3 → (hpush Hs A)[j]? = (Hs.drop 1)[j]? := fun j hj => by rw [ee, List.getElem?_append_left (by simp; omega)]
      refine ⟨fun B hB => x0 B (by rw [← ap 0 (by omega)]; exact hB), fun B hB => x1 B (by rw [← ap 1 (by omega)]; exact hB), fun B hB => x2 B (by rw [← ap 2 (by omega)]; exact hB), fun B hB => ?_⟩
      rw [ee, List.getElem?_append_right (by simp; omega), show 3 - (Hs.drop 1).length = 0 by simp; omega] at hB
      cases hB
      exact x
  · obtain ⟨hz, h4, x0, x1, x2, x3⟩ := h
    have l : (hpush Hs A).length = Hs.length + 1 := by unfold hpush; rw [if_neg q]; simp
    have ee : hpush Hs A = Hs ++ [A] := by unfold hpush; rw [if_neg q]
    have lt : Hs.length = 0 ∨ Hs.length = 1 ∨ Hs.length = 2 ∨ Hs.length = 3 := by omega
    have ap : ∀ j, j < Hs.length → (hpush Hs A)[j]? = Hs[j]? := fun j hj => by rw [ee, List.getElem?_append_left hj]
    have la : (hpush Hs A)[Hs.length]? = some A := by rw [ee, List.getElem?_append_right (Nat.le_refl _), Nat.sub_self]; rfl
    have no : ∀ j, Hs.length < j → (hpush Hs A)[j]? = none := fun j hj => List.getElem?_eq_none (by omega)
    rcases lt with g | g | g | g
    · obtain ⟨d, f, y2, x⟩ := x_copy (k := k0) (t := t0) (e := e0) (c := c0) hN hWA.T hA
      rw [g] at la no ap l
      refine ⟨k, t, d, f, k1, t1, e1, c1, k2, t2, e2, c2, k3, t3, e3, c3, ?_, rfl, by omega, fun B hB => ?_, fun B hB => ?_, fun B hB => ?_, fun B hB => ?_⟩
      · unfold m_X1_push; rw [hz, g, l, if_pos (show nI 0 < 4 by decide), if_neg (show ¬ nI 0 < 0 by decide), if_pos (show nI 0 < 4 by decide), if_pos (show nI 0 = 0 by decide), y2, r_bind]; rfl
      · rw [la] at hB; cases hB; exact x
      · rw [no 1 (by omega)] at hB; cases hB
      · rw [no 2 (by omega)] at hB; cases hB
      · rw [no 3 (by omega)] at hB; cases hB
    · obtain ⟨d, f, y2, x⟩ := x_copy (k := k1) (t := t1) (e := e1) (c := c1) hN hWA.T hA
      rw [g] at la no ap l
      refine ⟨k0, t0, e0, c0, k, t, d, f, k2, t2, e2, c2, k3, t3, e3, c3, ?_, rfl, by omega, fun B hB => ?_, fun B hB => ?_, fun B hB => ?_, fun B hB => ?_⟩
      · unfold m_X1_push; rw [hz, g, l, if_pos (show nI 1 < 4 by decide), if_neg (show ¬ nI 1 < 0 by decide), if_pos (show nI 1 < 4 by decide), if_neg (show ¬ nI 1 = 0 by decide), if_pos (show nI 1 = 1 by decide), y2, r_bind]; rfl
      · rw [ap 0 (by omega)] at hB; exact x0 B hB
      · rw [la] at hB; cases hB; exact x
      · rw [no 2 (by omega)] at hB; cases hB
      · rw [no 3 (by omega)] at hB; cases hB
    · obtain ⟨d, f, y2, x⟩ := x_copy (k := k2) (t := t2) (e := e2) (c := c2) hN hWA.T hA
      rw [g] at la no ap l
      refine ⟨k0, t0, e0, c0, k1, t1, e1, c1, k, t, d, f, k3, t3, e3, c3, ?_, rfl, by omega, fun B hB => ?_, fun B hB => ?_, fun B hB => ?_, fun B hB => ?_⟩
      · unfold m_X1_push; rw [hz, g, l, if_pos (show nI 2 < 4 by decide), if_neg (show ¬ nI 2 < 0 by decide), if_pos (show nI 2 < 4 by decide), if_neg (show ¬ nI 2 = 0 by decide), if_neg (show ¬ nI 2 = 1 by decide), if_pos (show nI 2 = 2 by decide), y2, r_bind]; rfl
      · rw [ap 0 (by omega)] at hB; exact x0 B hB
      · rw [ap 1 (by omega)] at hB; exact x1 B hB
      · rw [la] at hB; cases hB; exact x
      · rw [no 3 (by omega)] at hB; cases hB
    · obtain ⟨d, f, y2, x⟩ := x_copy (k := k3) (t := t3) (e := e3) (c := c3) hN hWA.T hA
      rw [g] at la no ap l
      refine ⟨k0, t0, e0, c0, k1, t1, e1, c1, k2, t2, e2, c2, k, t, d, f, ?_, rfl, by omega, fun B hB => ?_, fun B hB => ?_, fun B hB => ?_, fun B hB => ?_⟩
      · unfold m_X1_push; rw [hz, g, l, if_pos (show nI 3 < 4 by decide), if_neg (show ¬ nI 3 < 0 by decide), if_pos (show nI 3 < 4 by decide), if_neg (show ¬ nI 3 = 0 by decide), if_neg (show ¬ nI 3 = 1 by decide), if_neg (show ¬ nI 3 = 2 by decide), if_pos (show nI 3 = 3 by decide), y2, r_bind]; rfl
      · rw [ap 0 (by omega)] at hB; exact x0 B hB
      · rw [ap 1 (by omega)] at hB; exact x1 B hB
      · rw [ap 2 (by omega)] at hB; exact x2 B hB
      · rw [la] at hB; cases hB; exact x
