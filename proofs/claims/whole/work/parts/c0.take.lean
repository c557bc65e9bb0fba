/-! take: the nets that come built in -/
def m_X2_build_L8 (N : Nat) (n_p0 : Nat) (f_p0 : Nat → Int32) (J57 : Int32 → Int32 → (Nat → Int32) → (Nat → Int32) → Option (Int32 × Int32 × (Nat → Int32) × (Nat → Int32))) : Nat → Int32 → Int32 → Int32 → (Nat → Int32) → (Nat → Int32) → Option (Int32 × Int32 × (Nat → Int32) × (Nat → Int32))
  | 0, _, _, _, _, _ => none
  | n_8 + 1, x3_10, x2_11, f_threads_12, f_ends_13, f_colours_14 => (if (Int32.ofNat n_p0) ≤ (x3_10 + 1) then (J57 x2_11 f_threads_12 f_ends_13 f_colours_14) else Option.bind (m_X6_at N n_p0 f_p0 x3_10) (fun r_15 => Option.bind (m_X6_bit N r_15) (fun r_17 => Option.bind (m_X6_at N n_p0 f_p0 (x3_10 + 1)) (fun r_19 => Option.bind (m_X6_bit N r_19) (fun r_21 => Option.bind (m_X2_tie N f_threads_12 f_ends_13 f_colours_14 (r_17 ||| r_21)) (fun (f_threads_23, f_ends_24, f_colours_25) => Option.bind (m_X6_at N n_p0 f_p0 (x3_10 + 1)) (fun r_27 => nm (mxi x2_11 r_27) (fun (v2_29 : Int32) => (m_X2_build_L8 N n_p0 f_p0 J57 n_8 (x3_10 + 2) v2_29 f_threads_23 f_ends_24 f_colours_25)))))))))
def m_X2_build (N : Nat) (n_p0 : Nat) (f_knots : Int32) (f_threads : Int32) (f_ends : Nat → Int32) (f_colours : Nat → Int32) (f_p0 : Nat → Int32) : Option (Int32 × Int32 × (Nat → Int32) × (Nat → Int32)) := Option.bind (m_X2_empty N f_knots f_threads) (fun (f_knots_1, f_threads_2) => jn (fun (x2_4 : Int32) (f_threads_5 : Int32) (f_ends_6 : Nat → Int32) (f_colours_7 : Nat → Int32) => (Option.bind (m_X2_addKnots N f_knots_1 (x2_4 + 1)) (fun f_knots_8 => some (f_knots_8, f_threads_5, f_ends_6, f_colours_7)) : Option (Int32 × Int32 × (Nat → Int32) × (Nat → Int32)))) (fun J57 => (m_X2_build_L8 N n_p0 f_p0 J57 N 0 (-1) f_threads_2 f_ends f_colours)))
/-- the nets, as pairs of knots -/
def PB : Nat → List (Nat × Nat)
  | 0 => [(0, 1), (0, 2), (0, 3), (1, 2), (1, 3), (2, 3)]
  | 1 => [(0, 3), (0, 4), (0, 5), (1, 3), (1, 4), (1, 5), (2, 3), (2, 4), (2, 5)]
  | 2 => [(0, 1), (1, 2), (2, 3), (3, 4), (0, 4), (0, 5), (1, 6), (2, 7), (3, 8), (4, 9), (5, 7), (7, 9), (6, 9), (6, 8), (5, 8)]
  | 3 => [(0, 1), (1, 2), (0, 2), (3, 4), (4, 5), (3, 5), (0, 3), (1, 4), (2, 5)]
  | _ => [(0, 1), (0, 2), (1, 3), (2, 3), (1, 4), (2, 4), (3, 4), (0, 5), (5, 6), (5, 7), (6, 8), (7, 8), (6, 9), (7, 9), (8, 9)]
def KB : Nat → Nat
  | 0 => 4
  | 1 => 6
  | 2 => 10
  | 3 => 6
  | _ => 10
def flB (P : List (Nat × Nat)) : List Nat := P.foldr (fun p l => p.1 :: p.2 :: l) []
def lnB (k : Nat) : Nat := 2 * (PB k).length
def elB (k j : Nat) : Int32 := nI ((flB (PB k)).getD j 0)
def selB (a : Int32) : Nat := if a = 0 then 0 else if a = 1 then 1 else if a = 2 then 2 else if a = 3 then 3 else 4
def eaB : Nat → Int64
  | 0 => 72623920156704768
  | 1 => 217304261520073508
  | 2 => 77162849931433511
  | 3 => 77126567141376788
  | _ => 72641585374049285
def laB : Nat → Int64
  | 2 => 4055869118394947584
  | 4 => 6221556276610566400
  | _ => 2666130979403333632
def byB (y : Int64) (i : Int32) : Int32 := Int64.toInt32 ((lsr y (56 - (8 * (im i 8)))) &&& 255)
def nlB (A : List (Nat × Nat)) : List TH := A.map (fun p => (p.1, p.2, 3))
def m_X6_take (N : Nat) (k t : Int32) (e c : Nat → Int32) (z : Int32) (k0 t0 : Int32) (e0 c0 : Nat → Int32) (k1 t1 : Int32) (e1 c1 : Nat → Int32) (k2 t2 : Int32) (e2 c2 : Nat → Int32) (k3 t3 : Int32) (e3 c3 : Nat → Int32) (a1 : Int32) : Option (Int32 × Int32 × Int32 × (Nat → Int32) × (Nat → Int32) × Int32 × Int32 × Int32 × (Nat → Int32) × (Nat → Int32) × Int32 × Int32 × (Nat → Int32) × (Nat → Int32) × Int32 × Int32 × (Nat → Int32) × (Nat → Int32) × Int32 × Int32 × (Nat → Int32) × (Nat → Int32)) :=
  (if a1 < 0 then some (-2, k, t, e, c, z, k0, t0, e0, c0, k1, t1, e1, c1, k2, t2, e2, c2, k3, t3, e3, c3) else (if a1 ≤ 4 then Option.bind (m_X1_push N z k0 t0 e0 c0 k1 t1 e1 c1 k2 t2 e2 c2 k3 t3 e3 c3 k t e c) (fun (z_p, k0_p, t0_p, e0_p, c0_p, k1_p, t1_p, e1_p, c1_p, k2_p, t2_p, e2_p, c2_p, k3_p, t3_p, e3_p, c3_p) => Option.bind (m_X2_build N (lnB (selB a1)) k t e c (elB (selB a1))) (fun (k_p, t_p, e_p, c_p) => Option.bind (m_X2_knots N k_p) (fun r => some (r, k_p, t_p, e_p, c_p, z_p, k0_p, t0_p, e0_p, c0_p, k1_p, t1_p, e1_p, c1_p, k2_p, t2_p, e2_p, c2_p, k3_p, t3_p, e3_p, c3_p)))) else some (-2, k, t, e, c, z, k0, t0, e0, c0, k1, t1, e1, c1, k2, t2, e2, c2, k3, t3, e3, c3)))
theorem sel_ok : ∀ i, i < 5 → selB (nI i) = i := by decide +kernel
theorem nlB_len (A : List (Nat × Nat)) : (nlB A).length = A.length := List.length_map ..
theorem nlB_app (A : List (Nat × Nat)) (p : Nat × Nat) : nlB (A ++ [p]) = nlB A ++ [(p.1, p.2, 3)] := by unfold nlB; rw [List.map_append]; rfl
theorem WL_by {K : Nat} {L : List TH} (h1 : K ≤ 14) (h2 : ∀ x ∈ L, x.1 < x.2.1 ∧ x.2.1 < K ∧ x.2.2 ≤ 3) (h3 : L.Pairwise (fun x y => ¬ (x.1 = y.1 ∧ x.2.1 = y.2.1))) (h4 : ∀ k, k < 14 → L.countP (atk k) ≤ 3) : WL K L := by
  refine ⟨h1, h2, h3, fun k => ?_⟩
  rcases Nat.lt_or_ge k 14 with q | q
  · exact h4 k q
  · have : L.countP (atk k) = 0 := List.countP_eq_zero.mpr (fun x hx hk => by
      have := h2 x hx
      unfold atk at hk
      rw [Bool.or_eq_true, beq_iff_eq, beq_iff_eq] at hk
      omega)
    omega
theorem PB_W2 : ∀ i, i < 5 → ∀ x ∈ nlB (PB i), x.1 < x.2.1 ∧ x.2.1 < KB i ∧ x.2.2 ≤ 3 := by decide +kernel
theorem PB_W3 : ∀ i, i < 5 → (nlB (PB i)).Pairwise (fun x y => ¬ (x.1 = y.1 ∧ x.2.1 = y.2.1)) := by decide +kernel
theorem PB_W4 : ∀ i, i < 5 → ∀ k, k < 14 → (nlB (PB i)).countP (atk k) ≤ 3 := by decide +kernel
theorem KB_14 : ∀ i, i < 5 → KB i ≤ 14 := by decide
theorem PB_W (i : Nat) (h : i < 5) : WL (KB i) (nlB (PB i)) := WL_by (KB_14 i h) (PB_W2 i h) (PB_W3 i h) (PB_W4 i h)
theorem PB_15 : ∀ i, i < 5 → (PB i).length ≤ 15 := by decide +kernel
theorem PB_el : ∀ i, i < 5 → ∀ j, j < (PB i).length → ((PB i).getD j (0, 0)).1 < ((PB i).getD j (0, 0)).2 ∧ ((PB i).getD j (0, 0)).2 < 14 ∧ elB i (2 * j) = nI ((PB i).getD j (0, 0)).1 ∧ elB i (2 * j + 1) = nI ((PB i).getD j (0, 0)).2 := by decide +kernel
theorem PB_top : ∀ i, i < 5 → (PB i).foldl (fun u p => mxi u (nI p.2)) (-1) + 1 = nI (KB i) := by decide +kernel
theorem PB_32 : ∀ i, i < 5 → (3 * nI (KB i)) / 2 = nI (PB i).length := by decide +kernel
theorem PB_by : ∀ i, i < 5 → ∀ j, j < (PB i).length → byB (if 8 ≤ nI j then laB i else eaB i) (nI j) / 16 = nI ((PB i).getD j (0, 0)).1 ∧ im (byB (if 8 ≤ nI j then laB i else eaB i) (nI j)) 16 = nI ((PB i).getD j (0, 0)).2 := by decide +kernel
theorem five {P : Nat → Prop} (h0 : P 0) (h1 : P 1) (h2 : P 2) (h3 : P 3) (h4 : P 4) : ∀ i, i < 5 → P i := by
  intro i hi
  rcases (show i = 0 ∨ i = 1 ∨ i = 2 ∨ i = 3 ∨ i = 4 by omega) with rfl | rfl | rfl | rfl | rfl
  · exact h0
  · exact h1
  · exact h2
  · exact h3
  · exact h4
theorem ea_ok (N : Nat) : ∀ i, i < 5 → m_X7_early N (nI i) = some (eaB i) := by
  unfold m_X7_early
  decide +kernel
theorem la_ok (N : Nat) : ∀ i, i < 5 → m_X7_late N (nI i) = some (laB i) := by
  unfold m_X7_late
  decide +kernel
theorem ki_ok (N : Nat) : ∀ i, i < 5 → m_X7_knotsIn N (nI i) = some (nI (KB i)) := by
  unfold m_X7_knotsIn
  decide +kernel
theorem pD {P : List (Nat × Nat)} {j : Nat} {p : Nat × Nat} (h : P[j]? = some p) : P.getD j (0, 0) = p := by
  rw [List.getD_eq_getElem?_getD, h]; rfl
theorem plt {P : List (Nat × Nat)} {j : Nat} {p : Nat × Nat} (h : P[j]? = some p) : j < P.length := by
  rcases Nat.lt_or_ge j P.length with q | q
  · exact q
  · rw [List.getElem?_eq_none q] at h; cases h
abbrev RB : Type := Option (Int32 × Int32 × (Nat → Int32) × (Nat → Int32))
theorem x_buildLoop {N n : Nat} {fp : Nat → Int32} {P : List (Nat × Nat)} {J : Int32 → Int32 → (Nat → Int32) → (Nat → Int32) → RB} (hn : n = 2 * P.length) (hm : P.length ≤ 15) (hP : ∀ i p, P[i]? = some p → p.1 < p.2 ∧ p.2 < 14 ∧ fp (2 * i) = nI p.1 ∧ fp (2 * i + 1) = nI p.2) : ∀ (R A : List (Nat × Nat)), A ++ R = P → ∀ (u : Int32) (f : Nat) (e c : Nat → Int32), XL (nlB A) e c → R.length < f →
    ∃ e' c', m_X2_build_L8 N n fp J f (nI (2 * A.length)) u (nI A.length) e c = J (R.foldl (fun u p => mxi u (nI p.2)) u) (nI P.length) e' c' ∧ XL (nlB P) e' c' := by
  intro R
  induction R with
  | nil =>
    intro A hA u f e c hX hf
    obtain ⟨f, rfl⟩ : ∃ m, f = m + 1 := ⟨f - 1, by omega⟩
    rw [List.append_nil] at hA
    subst hA
    refine ⟨e, c, ?_, hX⟩
    rw [m_X2_build_L8, nI_1, if_pos (show Int32.ofNat n ≤ nI (2 * A.length + 1) from nI_le (a := n) (by omega) (by omega))]
    all_goals rfl
  | cons p R ih =>
    intro A hA u f e c hX hf
    obtain ⟨f, rfl⟩ : ∃ m, f = m + 1 := ⟨f - 1, by omega⟩
    have hp : P[A.length]? = some p := by
      rw [← hA, List.getElem?_append_right (Nat.le_refl _), Nat.sub_self]
      rfl
    have hlt := plt hp
    obtain ⟨p1, p2, p3, p4⟩ := hP _ _ hp
    have hA' : (A ++ [p]) ++ R = P := by rw [List.append_assoc]; exact hA
    have hl := nlB_len A
    obtain ⟨e', c', g1, g2⟩ := x_tie2 (N := N) (L := nlB A) (e := e) (c := c) (a := p.1) (b := p.2) (by omega) p1 hX
    rw [← nlB_app] at g1 g2
    rw [nlB_len, nlB_len] at g1
    have len : (A ++ [p]).length = A.length + 1 := by simp
    rw [len] at g1
    obtain ⟨e2, c2, q1, q2⟩ := ih (A ++ [p]) hA' (mxi u (nI p.2)) f e' c' g2 (by simp at hf; omega)
    refine ⟨e2, c2, Eq.trans ?_ q1, q2⟩
    have a1 : m_X6_at N n fp (nI (2 * A.length)) = some (nI p.1) := by rw [x_at (by omega) (by omega), p3]
    have a2 : m_X6_at N n fp (nI (2 * A.length + 1)) = some (nI p.2) := by rw [x_at (by omega) (by omega), p4]
    rw [m_X2_build_L8, nI_1, if_neg (show ¬ Int32.ofNat n ≤ nI (2 * A.length + 1) from nI_ge (b := n) (by omega) (by omega)), a1, r_bind, m_bit (by omega), r_bind, a2, r_bind, m_bit (by omega), r_bind, g1, r_bind]
    dsimp only
    rw [r_bind, show (2 : Int32) = nI 2 from rfl, nI_add, len, show 2 * A.length + 2 = 2 * (A.length + 1) by omega]
    all_goals rfl
theorem x_build {N n K : Nat} {k t : Int32} {e c fp : Nat → Int32} {P : List (Nat × Nat)} (hN : 1000 ≤ N) (hn : n = 2 * P.length) (hm : P.length ≤ 15) (hP : ∀ i p, P[i]? = some p → p.1 < p.2 ∧ p.2 < 14 ∧ fp (2 * i) = nI p.1 ∧ fp (2 * i + 1) = nI p.2) (hK : K ≤ 14) (hT : P.foldl (fun u p => mxi u (nI p.2)) (-1) + 1 = nI K) :
    ∃ e' c', m_X2_build N n k t e c fp = some (nI K, nI P.length, e', c') ∧ XL (nlB P) e' c' := by
  obtain ⟨e', c', h1, h2⟩ := x_buildLoop (N := N) (J := fun x2 ft fe fc => Option.bind (m_X2_addKnots N 0 (x2 + 1)) (fun k8 => some (k8, ft, fe, fc))) hn hm hP P [] rfl (-1) N e c (fun i x hx => by simp [nlB] at hx) (by omega)
  refine ⟨e', c', Eq.trans h1 ?_, h2⟩
  rw [hT, show (0 : Int32) = nI 0 from rfl, x_addKn (by omega), r_bind, Nat.zero_add]
theorem m_takeLoop {N K : Nat} {a st : Int32} {past : Nat → Int32} {P : List (Nat × Nat)} (hm : P.length ≤ 15) (hd : (3 * nI K) / 2 = nI P.length) (hP : ∀ (i : Nat) (p : Nat × Nat), P[i]? = some p → p.1 < p.2 ∧ p.2 < 14) (hY : ∀ i p, P[i]? = some p → ∃ y, (if 8 ≤ nI i then m_X7_late N a else m_X7_early N a) = some y ∧ byB y (nI i) / 16 = nI p.1 ∧ im (byB y (nI i)) 16 = nI p.2) : ∀ (R A : List (Nat × Nat)), A ++ R = P → ∀ (f : Nat) (s : Nat → Int32), ML K (nlB A) s → R.length < f →
    ∃ s', m_X7_take_L35 N a past st f (nI A.length) s = some (nI K, s', past, st) ∧ ML K (nlB P) s' := by
  intro R
  induction R with
  | nil =>
    intro A hA f s hM hf
    obtain ⟨f, rfl⟩ : ∃ m, f = m + 1 := ⟨f - 1, by omega⟩
    rw [List.append_nil] at hA
    subst hA
    refine ⟨s, ?_, hM⟩
    rw [m_X7_take_L35, r_0 (by decide), hM.1, hd, if_pos (nI_le (Nat.le_refl _) (by omega)), r_0 (by decide), hM.1]
  | cons p R ih =>
    intro A hA f s hM hf
    obtain ⟨f, rfl⟩ : ∃ m, f = m + 1 := ⟨f - 1, by omega⟩
    have hp : P[A.length]? = some p := by
      rw [← hA, List.getElem?_append_right (Nat.le_refl _), Nat.sub_self]
      rfl
    have hlt := plt hp
    obtain ⟨p1, p2⟩ := hP _ _ hp
    obtain ⟨y, y1, y2, y3⟩ := hY _ _ hp
    unfold byB at y2 y3
    have hA' : (A ++ [p]) ++ R = P := by rw [List.append_assoc]; exact hA
    have hl := nlB_len A
    obtain ⟨s1, g1, g2⟩ := m_adds (N := N) (a := p.1) (b := p.2) (by omega) hM (by omega) (by omega)
    rw [Nat.min_eq_left (by omega), Nat.max_eq_right (by omega), ← nlB_app] at g2
    have len : (A ++ [p]).length = A.length + 1 := by simp
    obtain ⟨s2, q1, q2⟩ := ih (A ++ [p]) hA' f s1 g2 (by simp at hf; omega)
    rw [len] at q1
    refine ⟨s2, Eq.trans ?_ q1, q2⟩
    rw [m_X7_take_L35, r_0 (by decide), hM.1, hd, if_neg (nI_ge hlt (by omega))]
    simp only [jn, nm]
    by_cases w : 8 ≤ nI A.length
    · rw [if_pos w] at y1 ⊢
      rw [y1, r_bind, y2, y3, g1, r_bind, nI_1]
    · rw [if_neg w] at y1 ⊢
      rw [y1, r_bind, y2, y3, g1, r_bind, nI_1]
section TK
variable {N K : Nat} {L : List TH} {k t z k0 t0 k1 t1 k2 t2 k3 t3 st : Int32} {e c s past e0 c0 e1 c1 e2 c2 e3 c3 : Nat → Int32}
theorem b_take (a : Int32) (hN : 1000 ≤ N) (hR : RN K L k t e c s) (hH : RH z k0 t0 e0 c0 k1 t1 e1 c1 k2 t2 e2 c2 k3 t3 e3 c3 past st) : ∃ r k' t' e' c' z' k0' t0' e0' c0' k1' t1' e1' c1' k2' t2' e2' c2' k3' t3' e3' c3' s' past' st', m_X6_take N k t e c z k0 t0 e0 c0 k1 t1 e1 c1 k2 t2 e2 c2 k3 t3 e3 c3 a = some (r, k', t', e', c', z', k0', t0', e0', c0', k1', t1', e1', c1', k2', t2', e2', c2', k3', t3', e3', c3') ∧ m_X7_take N s past st a = some (r, s', past', st') ∧ (∃ K' L', RN K' L' k' t' e' c' s') ∧ RH z' k0' t0' e0' c0' k1' t1' e1' c1' k2' t2' e2' c2' k3' t3' e3' c3' past' st' := by
  obtain ⟨z', k0', t0', e0', c0', k1', t1', e1', c1', k2', t2', e2', c2', k3', t3', e3', c3', past', st', p1, p2, p3⟩ := b_push hN hR hH
  have hR0 := hR
  obtain ⟨hW, rfl, rfl, hX, hM⟩ := hR
  have out : a < 0 ∨ nI 4 < a → ∃ r k' t' e' c' z' k0' t0' e0' c0' k1' t1' e1' c1' k2' t2' e2' c2' k3' t3' e3' c3' s' past' st', m_X6_take N (nI K) (nI L.length) e c z k0 t0 e0 c0 k1 t1 e1 c1 k2 t2 e2 c2 k3 t3 e3 c3 a = some (r, k', t', e', c', z', k0', t0', e0', c0', k1', t1', e1', c1', k2', t2', e2', c2', k3', t3', e3', c3') ∧ m_X7_take N s past st a = some (r, s', past', st') ∧ (∃ K' L', RN K' L' k' t' e' c' s') ∧ RH z' k0' t0' e0' c0' k1' t1' e1' c1' k2' t2' e2' c2' k3' t3' e3' c3' past' st' := by
    intro h
    refine ⟨-2, nI K, nI L.length, e, c, z, k0, t0, e0, c0, k1, t1, e1, c1, k2, t2, e2, c2, k3, t3, e3, c3, s, past, st, ?_, ?_, ⟨K, L, hR0⟩, hH⟩
    · unfold m_X6_take
      rcases h with h | h
      · rw [if_pos h]
      · have h' : ¬ a ≤ nI 4 := by
          rw [fa_le]
          rw [fa_lt] at h
          omega
        rw [if_neg (show ¬ a ≤ 4 from h')]
        split <;> rfl
    · unfold m_X7_take
      rw [show (4 : Int32) = nI 4 from rfl, m_inF h, r_bind, if_pos rfl]
  rcases pk_ix a (show 5 < 2 ^ 31 by decide) with h | h | ⟨i, hi, rfl⟩
  · exact out (Or.inl h)
  · refine out (Or.inr ?_)
    rw [fa_le, nI_toInt (by decide)] at h
    rw [fa_lt, nI_toInt (by decide)]
    omega
  · have s5 := sel_ok i hi
    have el : ∀ j p, (PB i)[j]? = some p → p.1 < p.2 ∧ p.2 < 14 ∧ elB i (2 * j) = nI p.1 ∧ elB i (2 * j + 1) = nI p.2 := by
      intro j p hp
      have := PB_el i hi j (plt hp)
      rw [pD hp] at this
      exact this
    obtain ⟨e', c', g1, g2⟩ := x_build (N := N) (n := lnB i) (k := nI K) (t := nI L.length) (e := e) (c := c) hN rfl (PB_15 i hi) el (KB_14 i hi) (PB_top i hi)
    have hb : ∀ j p, (PB i)[j]? = some p → ∃ y, (if 8 ≤ nI j then m_X7_late N (nI i) else m_X7_early N (nI i)) = some y ∧ byB y (nI j) / 16 = nI p.1 ∧ im (byB y (nI j)) 16 = nI p.2 := by
      intro j p hp
      have := PB_by i hi j (plt hp)
      rw [pD hp] at this
      refine ⟨_, ?_, this⟩
      rw [la_ok N i hi, ea_ok N i hi]
      by_cases w : 8 ≤ nI j
      · rw [if_pos w, if_pos w]
      · rw [if_neg w, if_neg w]
    obtain ⟨s', g3, g4⟩ := m_takeLoop (N := N) (st := st') (past := past') (PB_15 i hi) (PB_32 i hi) (fun j p hp => ⟨(el j p hp).1, (el j p hp).2.1⟩) hb (PB i) [] rfl N (upd (upd s 0 (nI (KB i))) 1 0) ⟨by rw [upd_n (by decide), upd_s], upd_s, fun j x hx => by simp [nlB] at hx⟩ (by have := PB_15 i hi; omega)
    refine ⟨nI (KB i), nI (KB i), nI (PB i).length, e', c', z', k0', t0', e0', c0', k1', t1', e1', c1', k2', t2', e2', c2', k3', t3', e3', c3', s', past', st', ?_, ?_, ⟨KB i, nlB (PB i), PB_W i hi, rfl, by rw [nlB_len], g2, g4⟩, p3⟩
    · unfold m_X6_take
      rw [if_neg (nI_pos (by omega)), if_pos (show nI i ≤ 4 from nI_le (b := 4) (by omega) (by decide)), p1, r_bind]
      dsimp only
      rw [s5, g1, r_bind]
      dsimp only
      rw [kn_, r_bind]
    · unfold m_X7_take
      rw [show (4 : Int32) = nI 4 from rfl, m_inT (by omega) (by decide), r_bind, if_neg n10, p2, r_bind]
      dsimp only
      rw [ki_ok N i hi, r_bind, w_0 (by decide)]
      simp only [nm]
      rw [cl_0, show (1 : Int32) = nI 1 from rfl, r_awr (by decide) (by decide), nI_clamp (by decide)]
      exact g3
end TK
