-- a loop with an invariant
theorem for_inv {α β : Type} (F : Nat → Nat → α → Option β) (P : Nat → α → Prop) (T : Nat) (G : α → Option β) (hend : ∀ n a, P T a → F (n + 1) T a = G a) (hstep : ∀ n i a, i < T → P i a → ∃ a', F (n + 1) i a = F n (i + 1) a' ∧ P (i + 1) a') : ∀ (d n i : Nat) (a : α), i + d = T → d < n → P i a → ∃ a', P T a' ∧ F n i a = G a' := by
  intro d
  induction d with
  | zero =>
    intro n i a hi hn hP
    obtain ⟨n, rfl⟩ : ∃ m, n = m + 1 := ⟨n - 1, by omega⟩
    have : i = T := by omega
    subst this
    exact ⟨a, hP, hend n a hP⟩
  | succ d ih =>
    intro n i a hi hn hP
    obtain ⟨n, rfl⟩ : ∃ m, n = m + 1 := ⟨n - 1, by omega⟩
    obtain ⟨a', h1, h2⟩ := hstep n i a (by omega) hP
    obtain ⟨a2, h3, h4⟩ := ih n (i + 1) a' (by omega) (by omega) h2
    exact ⟨a2, h3, by rw [h1, h4]⟩
-- the first i threads have new colours
def rc (f : Nat → Nat) (i : Nat) (L : List TH) : List TH := L.mapIdx (fun j x => if j < i then (x.1, x.2.1, f j) else x)
theorem rc_at (f : Nat → Nat) (i : Nat) (L : List TH) (j : Nat) : (rc f i L)[j]? = (L[j]?).map (fun x => if j < i then (x.1, x.2.1, f j) else x) := List.getElem?_mapIdx
theorem rc_len (f : Nat → Nat) (i : Nat) (L : List TH) : (rc f i L).length = L.length := List.length_mapIdx
theorem rc_0 (f : Nat → Nat) (L : List TH) : rc f 0 L = L := by
  apply List.ext_getElem?
  intro j
  rw [rc_at]
  cases L[j]? <;> simp
theorem rc_s {f : Nat → Nat} {i : Nat} {L : List TH} {x : TH} (h : L[i]? = some x) : rc f (i + 1) L = (rc f i L).set i (x.1, x.2.1, f i) := by
  apply List.ext_getElem?
  intro j
  rw [rc_at, List.getElem?_set, rc_at, rc_len]
  by_cases q : i = j
  · subst q
    rw [if_pos rfl, if_pos (lt_of h), h]
    simp
  · rw [if_neg q]
    cases L[j]? with
    | none => rfl
    | some y =>
      simp only [Option.map_some]
      by_cases g : j < i
      · rw [if_pos g, if_pos (by omega)]
      · rw [if_neg g, if_neg (by omega)]
theorem rc_i {f : Nat → Nat} {i : Nat} {L : List TH} {x : TH} (h : L[i]? = some x) : (rc f i L)[i]? = some x := by
  rw [rc_at, h]
  simp
theorem rc_same {f : Nat → Nat} {i : Nat} {L : List TH} {x : TH} (h : L[i]? = some x) (e : f i = x.2.2) : rc f (i + 1) L = rc f i L := by
  rw [rc_s h, e]
  apply List.ext_getElem?
  intro j
  rw [List.getElem?_set]
  by_cases q : i = j
  · subst q
    rw [if_pos rfl, rc_len, if_pos (lt_of h), rc_i h]
  · rw [if_neg q]
def en (x : TH) : Nat × Nat := (x.1, x.2.1)
theorem rc_en (f : Nat → Nat) (i : Nat) (L : List TH) : (rc f i L).map en = L.map en := by
  apply List.ext_getElem?
  intro j
  rw [List.getElem?_map, List.getElem?_map, rc_at]
  cases L[j]? with
  | none => rfl
  | some y =>
    simp only [Option.map_some]
    split <;> rfl
theorem WL.recol {K : Nat} {L L' : List TH} (h : WL K L) (e : L'.map en = L.map en) (hc : ∀ x ∈ L', x.2.2 ≤ 3) : WL K L' := by
  refine ⟨h.1, fun x hx => ?_, ?_, fun k => ?_⟩
  · have : en x ∈ L'.map en := List.mem_map_of_mem hx
    rw [e, List.mem_map] at this
    obtain ⟨y, hy, g⟩ := this
    have o := h.2.1 y hy
    have g1 : y.1 = x.1 := congrArg (fun p : Nat × Nat => p.1) g
    have g2 : y.2.1 = x.2.1 := congrArg (fun p : Nat × Nat => p.2) g
    exact ⟨by rw [← g1, ← g2]; exact o.1, by rw [← g2]; exact o.2.1, hc x hx⟩
  · have p : (L.map en).Pairwise (fun a b => ¬ (a.1 = b.1 ∧ a.2 = b.2)) := List.pairwise_map.mpr h.2.2.1
    rw [← e] at p
    exact (List.pairwise_map (f := en) (R := fun a b => ¬ (a.1 = b.1 ∧ a.2 = b.2))).mp p
  · have p : ∀ M : List TH, M.countP (atk k) = (M.map en).countP (fun a => a.1 == k || a.2 == k) := fun M => by rw [List.countP_map]; rfl
    rw [p, e, ← p]
    exact h.2.2.2 k
theorem WL.rc {K i : Nat} {L : List TH} {f : Nat → Nat} (h : WL K L) (hf : ∀ j, j < L.length → f j ≤ 3) : WL K (rc f i L) := by
  refine h.recol (rc_en f i L) (fun x hx => ?_)
  obtain ⟨j, hj⟩ := List.mem_iff_getElem?.mp hx
  rw [rc_at] at hj
  cases q : L[j]? with
  | none => rw [q] at hj; cases hj
  | some y =>
    rw [q] at hj
    simp only [Option.map_some, Option.some.injEq] at hj
    rw [← hj]
    split
    · exact hf j (lt_of q)
    · exact (h.2.1 y (List.mem_of_getElem? q)).2.2
theorem XL_rc {f : Nat → Nat} {i : Nat} {L : List TH} {e c : Nat → Int32} {x : TH} (h : XL (rc f i L) e c) (hx : L[i]? = some x) : XL (rc f (i + 1) L) e (upd c i (nI (f i))) := by
  rw [rc_s hx]
  exact XL_col h (rc_i hx)
theorem ML_rc {K : Nat} {f : Nat → Nat} {i : Nat} {L : List TH} {s : Nat → Int32} {x : TH} (h : ML K (rc f i L) s) (hx : L[i]? = some x) : ML K (rc f (i + 1) L) (upd s (2 + 3 * i + 2) (nI (f i))) := by
  rw [rc_s hx]
  exact ML_col h (rc_i hx)
-- two colours change places on a set
def swp (C a b : Nat) (L : List TH) : Nat → Nat := fun j => if C.testBit j then (if fc L j = a then b else a) else fc L j
theorem fc_some {L : List TH} {i : Nat} {x : TH} (h : L[i]? = some x) : fc L i = x.2.2 := by unfold fc; rw [getD_some h]
theorem x_swap {N C a b : Nat} {L : List TH} {e c : Nat → Int32} (hN : 1000 ≤ N) (hT : L.length ≤ 21) (h : XL L e c) (hC : C < 2 ^ 31) (hab : a ≤ 3 ∧ b ≤ 3) (hin : ∀ i, i < L.length → C.testBit i = true → fc L i = a ∨ fc L i = b) (hne : a ≠ b) : ∃ c', m_X2_swapColours N (nI L.length) c (nI C) (nI (a + b)) = some c' ∧ XL (rc (swp C a b L) L.length L) e c' := by
  have := for_inv (fun n i (c : Nat → Int32) => m_X2_swapColours_L2 N (nI L.length) (nI C) (nI (a + b)) n (nI i) c) (fun i c => XL (rc (swp C a b L) i L) e c) L.length (fun c => some c) (fun n c hP => by
      show m_X2_swapColours_L2 N (nI L.length) (nI C) (nI (a + b)) (n + 1) (nI L.length) c = _
      rw [m_X2_swapColours_L2, if_pos (nI_le (Nat.le_refl _) (by omega))]) (fun n i c hi hP => by
      show ∃ c', m_X2_swapColours_L2 N (nI L.length) (nI C) (nI (a + b)) (n + 1) (nI i) c = m_X2_swapColours_L2 N (nI L.length) (nI C) (nI (a + b)) n (nI (i + 1)) c' ∧ _
      obtain ⟨x, hx⟩ := some_of hi
      have fx := fc_some hx
      rw [m_X2_swapColours_L2, if_neg (nI_ge hi (by omega)), m_holds hC (by omega), r_bind, sel, nI_1]
      cases q : C.testBit i with
      | false =>
        rw [if_neg (by decide)]
        refine ⟨c, rfl, ?_⟩
        rw [rc_same hx (by unfold swp; rw [q, fx]; rfl)]
        exact hP
      | true =>
        have cx := (hP i x (rc_i hx)).2
        have ci : m_X2_colour N c (nI i) = some (nI x.2.2) := by unfold m_X2_colour; rw [x_at (by omega) (by decide), r_bind, cx]
        rw [if_pos rfl, ci, r_bind]
        refine ⟨upd c i (nI (swp C a b L i)), ?_, XL_rc hP hx⟩
        have v : nI (a + b) - nI x.2.2 = nI (swp C a b L i) := by
          have := hin i hi q
          rw [fx] at this
          unfold swp
          rw [q, if_pos rfl, fx]
          rcases this with g | g
          · rw [g, if_pos rfl, ← nI_add, Int32.add_comm, Int32.add_sub_cancel]
          · rw [g, if_neg (fun w => hne w.symm), ← nI_add, Int32.add_sub_cancel]
        unfold m_X2_setColour
        rw [x_put (by omega) (by decide), r_bind, r_bind, v]) L.length N 0 c (by omega) (by omega) (by rw [rc_0]; exact h)
  obtain ⟨c', h1, h2⟩ := this
  exact ⟨c', h2, h1⟩
theorem m_swap {N K C a b : Nat} {L : List TH} {s : Nat → Int32} {β : Type} {J : (Nat → Int32) → Option (Int32 × (Nat → Int32) × (Nat → Int32) × Int32)} (hN : 1000 ≤ N) (hT : L.length ≤ 21) (h : ML K L s) (hC : C < 2 ^ 31) (hab : a ≤ 3 ∧ b ≤ 3) (hco : ∀ x ∈ L, x.2.2 ≤ 3) : ∃ s', m_X7_exchange_L36 N (nI b) (nI a) (nI C) J N 0 s = J s' ∧ ML K (rc (swp C a b L) L.length L) s' := by
  have := for_inv (fun n i (s : Nat → Int32) => m_X7_exchange_L36 N (nI b) (nI a) (nI C) J n (nI i) s) (fun i s => ML K (rc (swp C a b L) i L) s) L.length (fun s => J s) (fun n s hP => by
      show m_X7_exchange_L36 N (nI b) (nI a) (nI C) J (n + 1) (nI L.length) s = _
      rw [m_X7_exchange_L36, r_1 (by decide), hP.2.1, rc_len, if_pos (nI_le (Nat.le_refl _) (by omega))]) (fun n i s hi hP => by
      show ∃ s', m_X7_exchange_L36 N (nI b) (nI a) (nI C) J (n + 1) (nI i) s = m_X7_exchange_L36 N (nI b) (nI a) (nI C) J n (nI (i + 1)) s' ∧ _
      obtain ⟨x, hx⟩ := some_of hi
      have fx := fc_some hx
      rw [m_X7_exchange_L36, r_1 (by decide), hP.2.1, rc_len, if_neg (nI_ge hi (by omega)), m_has hC (by omega), r_bind, sel, nI_1]
      cases q : C.testBit i with
      | false =>
        rw [if_neg (by decide)]
        refine ⟨s, rfl, ?_⟩
        rw [rc_same hx (by unfold swp; rw [q, fx]; rfl)]
        exact hP
      | true =>
        have cx := (hP.2.2 i x (rc_i hx)).2.2
        have c3 := hco x (List.mem_of_getElem? hx)
        rw [if_pos rfl, show (2 : Int32) = nI 2 from rfl, m_of (by omega) (by omega), r_bind, cx]
        refine ⟨upd s (2 + 3 * i + 2) (nI (swp C a b L i)), ?_, ML_rc hP hx⟩
        have ix : (nI 2 + 3 * nI i) + nI 2 = nI (2 + 3 * i + 2) := by rw [show (3 : Int32) = nI 3 from rfl, pk_mul, nI_add, nI_add]
        simp only [jn, nm]
        rw [ix, r_awr (by omega) (by omega), r_awr (by omega) (by omega), nI_clamp (by omega)]
        unfold swp
        rw [q, if_pos rfl, fx]
        by_cases g : x.2.2 = a
        · rw [if_pos (by rw [g]), if_pos g]
        · rw [if_neg (fun w => g ((nI_eq (by omega) (by omega)).mp w)), if_neg g]) L.length N 0 s (by omega) (by omega) (by rw [rc_0]; exact h)
  obtain ⟨s', h1, h2⟩ := this
  exact ⟨s', h2, h1⟩
