-- the triangle goes into its knot
def mpx (f : TH → TH) (i : Nat) (L : List TH) : List TH := L.mapIdx (fun j x => if j < i then f x else x)
theorem mpx_at (f : TH → TH) (i : Nat) (L : List TH) (j : Nat) : (mpx f i L)[j]? = (L[j]?).map (fun x => if j < i then f x else x) := List.getElem?_mapIdx
theorem mpx_len (f : TH → TH) (i : Nat) (L : List TH) : (mpx f i L).length = L.length := List.length_mapIdx
theorem mpx_0 (f : TH → TH) (L : List TH) : mpx f 0 L = L := by
  apply List.ext_getElem?
  intro j
  rw [mpx_at]
  cases L[j]? <;> simp
theorem mpx_all (f : TH → TH) (L : List TH) : mpx f L.length L = L.map f := by
  apply List.ext_getElem?
  intro j
  rw [mpx_at, List.getElem?_map]
  cases h : L[j]? with
  | none => rfl
  | some x =>
    simp only [Option.map_some]
    rw [if_pos (lt_of h)]
theorem mpx_i {f : TH → TH} {i : Nat} {L : List TH} {x : TH} (h : L[i]? = some x) : (mpx f i L)[i]? = some x := by
  rw [mpx_at, h]
  simp
theorem mpx_set {f : TH → TH} {i : Nat} {L : List TH} {x : TH} (h : L[i]? = some x) : (mpx f i L).set i (f x) = mpx f (i + 1) L := by
  apply List.ext_getElem?
  intro j
  rw [mpx_at, List.getElem?_set, mpx_at, mpx_len]
  by_cases q : i = j
  · subst q
    rw [if_pos rfl, if_pos (lt_of h), h]
    simp
  · rw [if_neg q]
    cases L[j]? with
    | none => rfl
    | some y =>
      simp only [Option.map_some]
      by_cases g : j < i
      · rw [if_pos g, if_pos (by omega)]
      · rw [if_neg g, if_neg (by omega)]
theorem mpx_same {f : TH → TH} {i : Nat} {L : List TH} {x : TH} (h : L[i]? = some x) (e : f x = x) : mpx f (i + 1) L = mpx f i L := by
  rw [← mpx_set h, e]
  apply List.ext_getElem?
  intro j
  rw [List.getElem?_set]
  by_cases q : i = j
  · subst q
    rw [if_pos rfl, mpx_len, if_pos (lt_of h), mpx_i h]
  · rw [if_neg q]
def tr (k a b j : Nat) : Bool := j == k || j == a || j == b
def ldx (k a b : Nat) (x : TH) : TH := if tr k a b x.1 = tr k a b x.2.1 then x else (min (if tr k a b x.1 then x.2.1 else x.1) k, max (if tr k a b x.1 then x.2.1 else x.1) k, x.2.2)
theorem ad_tri {k a b : Nat} {x : TH} (hab : a < b) (hx : x.1 < x.2.1) : ad (2 ^ x.1 + 2 ^ x.2.1) ((2 ^ a + 2 ^ b) ||| 2 ^ k) = (if tr k a b x.1 then (if tr k a b x.2.1 then 0 else 2 ^ x.2.1) else (if tr k a b x.2.1 then 2 ^ x.1 else 2 ^ x.1 + 2 ^ x.2.1)) := by
  apply Nat.eq_of_testBit_eq
  intro j
  rw [tb_ad, t2 hx, tri_S hab]
  unfold tr
  by_cases e1 : x.1 = j
  · subst e1
    cases h1 : (x.1 == k || x.1 == a || x.1 == b) <;> cases h2 : (x.2.1 == k || x.2.1 == a || x.2.1 == b) <;> simp [Nat.testBit_two_pow, t2 hx] <;> omega
  · by_cases e2 : x.2.1 = j
    · subst e2
      cases h1 : (x.1 == k || x.1 == a || x.1 == b) <;> cases h2 : (x.2.1 == k || x.2.1 == a || x.2.1 == b) <;> simp [Nat.testBit_two_pow, t2 hx] <;> omega
    · have f1 : (x.1 == j) = false := by simp [e1]
      have f2 : (x.2.1 == j) = false := by simp [e2]
      rw [f1, f2]
      cases h1 : (x.1 == k || x.1 == a || x.1 == b) <;> cases h2 : (x.2.1 == k || x.2.1 == a || x.2.1 == b) <;> simp [Nat.testBit_two_pow, t2 hx, e1, e2]
theorem two_mm {f k : Nat} (h : f ≠ k) : 2 ^ f ||| 2 ^ k = 2 ^ min f k + 2 ^ max f k := by
  rcases Nat.lt_or_gt_of_ne h with q | q
  · rw [Nat.min_eq_left (by omega), Nat.max_eq_right (by omega), or_bit (p2lt q)]
  · rw [Nat.min_eq_right (by omega), Nat.max_eq_left (by omega), Nat.or_comm, or_bit (p2lt q)]
theorem ldx_ok {K k a b : Nat} {x : TH} (ho : okx K x) (hk : k < K) : okx K (ldx k a b x) := by
  obtain ⟨o1, o2, o3⟩ := ho
  unfold ldx
  split
  · exact ⟨o1, o2, o3⟩
  · rename_i h
    cases q : tr k a b x.1 with
    | true =>
      rw [q] at h
      have : x.2.1 ≠ k := fun w => h (by rw [w]; unfold tr; simp)
      rw [if_pos rfl]
      exact ⟨by show min x.2.1 k < max x.2.1 k; omega, by show max x.2.1 k < K; omega, o3⟩
    | false =>
      have : x.1 ≠ k := fun w => by rw [w] at q; unfold tr at q; simp at q
      rw [if_neg (by decide)]
      exact ⟨by show min x.1 k < max x.1 k; omega, by show max x.1 k < K; omega, o3⟩
theorem bff : ¬ (false = true) := by decide
theorem btt : true = true := rfl
theorem x_lead {N K k a b : Nat} {L : List TH} {e c : Nat → Int32} {J : (Nat → Int32) → Option (Int32 × Int32 × (Nat → Int32) × (Nat → Int32))} (hN : 1000 ≤ N) (hW : WL K L) (hk : k < K) (hab : a < b) (hb : b < K) (hX : XL L e c) : ∃ e', m_X2_merge_L2 N (nI L.length) (nI k) (nI (2 ^ a + 2 ^ b)) J N 0 e = J e' ∧ XL (L.map (ldx k a b)) e' c := by
  have hK := hW.1
  have h21 := hW.len21
  have := for_inv (fun n i (e : Nat → Int32) => m_X2_merge_L2 N (nI L.length) (nI k) (nI (2 ^ a + 2 ^ b)) J n (nI i) e) (fun i e => XL (mpx (ldx k a b) i L) e c) L.length (fun e => J e) (fun n e hP => by
      show m_X2_merge_L2 N (nI L.length) (nI k) (nI (2 ^ a + 2 ^ b)) J (n + 1) (nI L.length) e = _
      rw [m_X2_merge_L2, if_pos (nI_le (Nat.le_refl _) (by omega))]) (fun n i e hi hP => by
      show ∃ e', m_X2_merge_L2 N (nI L.length) (nI k) (nI (2 ^ a + 2 ^ b)) J (n + 1) (nI i) e = m_X2_merge_L2 N (nI L.length) (nI k) (nI (2 ^ a + 2 ^ b)) J n (nI (i + 1)) e' ∧ _
      obtain ⟨x, hx⟩ := some_of hi
      obtain ⟨o1, o2, o3⟩ := hW.2.1 x (List.mem_of_getElem? hx)
      have lE : 2 ^ x.1 + 2 ^ x.2.1 < 2 ^ 14 := em_lt (lo := fun _ => x.1) (hi := fun _ => x.2.1) (t := 0) o1 (by omega)
      have hend : m_X2_ends N e (nI i) = some (nI (2 ^ x.1 + 2 ^ x.2.1)) := by
        unfold m_X2_ends
        rw [x_at (by omega) (by decide), r_bind, (hP i x (mpx_i hx)).1]
      have v := ad_tri (k := k) hab o1
      have p1 := Nat.two_pow_pos x.1
      have p2 := Nat.two_pow_pos x.2.1
      rw [m_X2_merge_L2, if_neg (nI_ge hi (by omega)), hend, r_bind, m_bit (by omega), r_bind]
      simp only [nm]
      rw [nandn, nandn, ad_ad, v, r_bind, r_bind, nI_1]
      cases q1 : tr k a b x.1 <;> cases q2 : tr k a b x.2.1
      · have sm : ldx k a b x = x := by unfold ldx; rw [q1, q2, if_pos rfl]
        refine ⟨e, ?_, by show XL (mpx (ldx k a b) (i + 1) L) e c; rw [mpx_same hx sm]; exact hP⟩
        rw [if_neg bff, if_neg bff, if_neg (fun w => absurd ((nI_eq0 (by omega)).mp w) (by omega)), if_pos rfl]
      · have sm : ldx k a b x = (min x.1 k, max x.1 k, x.2.2) := by unfold ldx; rw [q1, q2, if_neg (by decide), if_neg (by decide)]
        have hne : x.1 ≠ k := fun w => by rw [w] at q1; unfold tr at q1; simp at q1
        have s1 := XL_set (y := ldx k a b x) (v := nI (2 ^ (ldx k a b x).1 + 2 ^ (ldx k a b x).2.1)) hP (t := i) (by rw [mpx_len]; exact hi) rfl (fun y hy => by rw [mpx_i hx] at hy; cases hy; rw [sm])
        rw [mpx_set hx] at s1
        refine ⟨_, ?_, s1⟩
        have l2 := p2le (a := x.1) (b := 13) (by omega)
        rw [if_neg bff, if_pos btt, if_neg (fun w => absurd ((nI_eq0 (by omega)).mp w) (by omega)), if_neg (fun w => absurd ((nI_eq (by omega) (by omega)).mp w) (by omega)), nor, two_mm hne, x_put (by omega) (by decide), r_bind, sm]
      · have sm : ldx k a b x = (min x.2.1 k, max x.2.1 k, x.2.2) := by unfold ldx; rw [q1, q2, if_neg (by decide), if_pos rfl]
        have hne : x.2.1 ≠ k := fun w => by rw [w] at q2; unfold tr at q2; simp at q2
        have s1 := XL_set (y := ldx k a b x) (v := nI (2 ^ (ldx k a b x).1 + 2 ^ (ldx k a b x).2.1)) hP (t := i) (by rw [mpx_len]; exact hi) rfl (fun y hy => by rw [mpx_i hx] at hy; cases hy; rw [sm])
        rw [mpx_set hx] at s1
        refine ⟨_, ?_, s1⟩
        rw [if_pos btt, if_neg bff, if_neg (fun w => absurd ((nI_eq0 (by omega)).mp w) (by omega)), if_neg (fun w => absurd ((nI_eq (by omega) (by omega)).mp w) (by omega)), nor, two_mm hne, x_put (by omega) (by decide), r_bind, sm]
      · have sm : ldx k a b x = x := by unfold ldx; rw [q1, q2, if_pos rfl]
        refine ⟨e, ?_, by show XL (mpx (ldx k a b) (i + 1) L) e c; rw [mpx_same hx sm]; exact hP⟩
        rw [if_pos btt, if_pos btt, if_pos (show nI 0 = 0 by rfl)]) L.length N 0 e (by omega) (by omega) (by rw [mpx_0]; exact hX)
  obtain ⟨e', h1, h2⟩ := this
  rw [mpx_all] at h1
  exact ⟨e', h2, h1⟩
def drp (k : Nat) (L : List TH) : List TH := (L.filter (fun x => !atk k x)).map (rnx k)
theorem drp_ok {K k : Nat} {L : List TH} (hok : ∀ x ∈ L, okx K x) (hk : k < K) : ∀ x ∈ drp k L, okx (K - 1) x := by
  intro y hy
  unfold drp at hy
  rw [List.mem_map] at hy
  obtain ⟨x, hx, rfl⟩ := hy
  rw [List.mem_filter] at hx
  obtain ⟨o1, o2, o3⟩ := hok x hx.1
  have hn := hx.2
  unfold atk at hn
  simp at hn
  refine ⟨rn_lt o1 hn.1 hn.2, ?_, o3⟩
  show rn k x.2.1 < K - 1
  unfold rn
  split <;> omega
theorem drp_len (k : Nat) (L : List TH) : (drp k L).length ≤ L.length := by
  unfold drp
  rw [List.length_map]
  exact List.length_filter_le _ _
theorem x_merge {N K k a b : Nat} {L : List TH} {e c : Nat → Int32} (hN : 1000 ≤ N) (hW : WL K L) (hk : k < K) (hab : a < b) (hb : b < K) (hX : XL L e c) : ∃ e' c', m_X2_merge N (nI K) (nI L.length) e c (nI k) (nI (2 ^ a + 2 ^ b)) = some (nI (K - 1 - 1), nI (drp a (drp b (L.map (ldx k a b)))).length, e', c') ∧ XL (drp a (drp b (L.map (ldx k a b)))) e' c' := by
  have hK := hW.1
  have h21 := hW.len21
  have p1 := p2lt hab
  have p2 := p2le (show b ≤ 13 by omega)
  have p3 := Nat.two_pow_pos a
  have okm : ∀ x ∈ L.map (ldx k a b), okx K x := fun y hy => by
    rw [List.mem_map] at hy
    obtain ⟨x, hx, rfl⟩ := hy
    exact ldx_ok (hW.2.1 x hx) hk
  obtain ⟨e1, g1, g2⟩ := x_lead (J := fun (f_ends_1 : Nat → Int32) => (Option.bind (m_J6_numberOfLeadingZeros_0f7a4 N (nI (2 ^ a + 2 ^ b))) (fun r_2 => Option.bind (m_X2_dropKnot N (nI K) (nI L.length) f_ends_1 c (31 - r_2)) (fun (f_knots_4, f_threads_5, f_ends_6, f_colours_7) => Option.bind (m_J6_numberOfTrailingZeros_0f7a4 N (nI (2 ^ a + 2 ^ b))) (fun r_9 => Option.bind (m_X2_dropKnot N f_knots_4 f_threads_5 f_ends_6 f_colours_7 r_9) (fun (f_knots_11, f_threads_12, f_ends_13, f_colours_14) => some (f_knots_11, f_threads_12, f_ends_13, f_colours_14))))))) hN hW hk hab hb hX
  obtain ⟨e2, c2, d1, d2⟩ := x_dropKnot0 (k := b) hN hK (by rw [List.length_map]; exact h21) okm hb g2
  obtain ⟨e3, c3, d3, d4⟩ := x_dropKnot0 (K := K - 1) (k := a) (L := drp b (L.map (ldx k a b))) hN (by omega) (Nat.le_trans (drp_len _ _) (by rw [List.length_map]; exact h21)) (drp_ok okm hb) (by omega) d2
  refine ⟨e3, c3, ?_, d4⟩
  unfold m_X2_merge jn
  refine g1.trans ?_
  rw [m_nlz (by omega) (by omega), r_bind, lg2 hab, show (31 : Int32) - nI (31 - b) = nI b by rw [show (31 : Int32) = nI 31 from rfl, pk_sub (by omega), show 31 - (31 - b) = b by omega]]
  rw [List.length_map] at d1
  rw [d1, r_bind]
  dsimp only
  rw [m_ntz (by omega) (by omega), r_bind, lb2 hab (by omega)]
  refine (congrArg (fun z => Option.bind z _) d3).trans ?_
  rfl
