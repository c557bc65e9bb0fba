/-! X6_at and X2_build over an array of the class's own; take -/
set_option maxHeartbeats 4000000 in
set_option maxRecDepth 100000 in
theorem kT_X6_at (l : Launch) (D : va_G) (cI cC cN : ClassId) (N : Nat) (q_p0 : Nat) (n_p0 : Nat) (sz : Nat) (f_p0 : Nat → Int32) (a1 : Int32) (r : Int32) (hm : m_X6_at N n_p0 f_p0 a1 = some r) : Met l yX6_at wsX6_at (rX6_at) (gPz (Z1 q_p0 n_p0 f_p0) D (tysG cI cC cN) [.ref q_p0, .int a1] [] sz) (gQi D (tysG cI cC cN) (va_A [] sz) [] r) 0 0 (va_A [] sz) := by
  unfold m_X6_at at hm
  refine z_openI (z1L q_p0 n_p0 f_p0) (cc := cX6_at) (maxL := 2) (own := RX6) (by decide) rfl rfl (Nat.le_of_ble_eq_true rfl) ?_
  intro p e s m args below meth c A Q hx hb hml hown hts hP hK hN hD hA hZ hret ls hl
  have hS : va_S A s.heap s.heap [] := va_S.rf
  have hl : lv_has ls 2 [(0, .ref q_p0), (1, .int a1)] := hl
  refine lv_iload_n hx hb dX6_at_0 rfl (lv_at hl 1 rfl) ?_
  refine lv_if_lt (tgt := 16) hx hb dX6_at_1 (by decide) (fun hc => ?_) (fun hc => ?_)
  · have hm := if_t _ hc hm
    refine lv_iconst (v := 0) hx hb dX6_at_16 (by decide) ?_
    have z1 := so_use hm
    subst z1
    exact hret _ _ _ _ _ dX6_at_17 rfl rfl hP hD hS
  · have hm := if_f _ hc hm
    refine lv_iload_n hx hb dX6_at_4 rfl (lv_at hl 1 rfl) ?_
    refine lv_aload_n hx hb dX6_at_5 rfl (lv_at hl 0 rfl) ?_
    refine va_tlen (v := (Int32.ofNat n_p0)) hx hb hZ hS rfl dX6_at_6 ?_
    refine lv_icmp_ge (tgt := 16) hx hb dX6_at_7 (by decide) (fun hc => ?_) (fun hc => ?_)
    · have hm := if_t _ hc hm
      refine lv_iconst (v := 0) hx hb dX6_at_16 (by decide) ?_
      have z1 := so_use hm
      subst z1
      exact hret _ _ _ _ _ dX6_at_17 rfl rfl hP hD hS
    · have hm := if_f _ hc hm
      refine lv_aload_n hx hb dX6_at_10 rfl (lv_at hl 0 rfl) ?_
      refine lv_iload_n hx hb dX6_at_11 rfl (lv_at hl 1 rfl) ?_
      obtain ⟨hi_1, hm⟩ := ard_use hm
      refine va_ti (v := .int (f_p0 (Int32.toNatClampNeg a1))) hx hb hZ hS hi_1 rfl dX6_at_12 ?_
      refine lv_topi (fun u_2 eu_2 => ?_)
      have hm := nm_use eu_2 hm
      refine lv_goto (tgt := 17) hx hb dX6_at_13 (by decide) ?_
      have z1 := so_use hm
      subst z1
      exact hret _ _ _ _ _ dX6_at_17 rfl rfl hP hD hS
abbrev rX2_build : Room := { frames := 2, cells := 0, slots := 0, locals := 51 }
set_option maxHeartbeats 4000000 in
set_option maxRecDepth 100000 in
theorem kT_X2_build (l : Launch) (D : va_G) (cI cC cN : ClassId) (N : Nat) (q : Nat) (q_ends : Nat) (q_colours : Nat) (q_p0 : Nat) (n_p0 : Nat) (sz : Nat) (f_knots : Int32) (f_threads : Int32) (f_ends : Nat → Int32) (f_colours : Nat → Int32) (f_p0 : Nat → Int32) (f_knots' : Int32) (f_threads' : Int32) (f_ends' : Nat → Int32) (f_colours' : Nat → Int32) (hm : m_X2_build N n_p0 f_knots f_threads f_ends f_colours f_p0 = some (f_knots', f_threads', f_ends', f_colours')) : Met l yX2_build wsX2_build (rX2_build) (gPz (Z1 q_p0 n_p0 f_p0) D (tysG cI cC cN) [.ref q, .ref q_p0] [(q, .inr (2, [.int f_knots, .int f_threads, .ref q_ends, .ref q_colours])), (q_ends, .inl (cI, 21, .inl f_ends)), (q_colours, .inl (cI, 21, .inl f_colours))] sz) (gQv D (tysG cI cC cN) (va_A [(q, .inr (2, [.int f_knots, .int f_threads, .ref q_ends, .ref q_colours])), (q_ends, .inl (cI, 21, .inl f_ends)), (q_colours, .inl (cI, 21, .inl f_colours))] sz) [(q, .inr (2, [.int f_knots', .int f_threads', .ref q_ends, .ref q_colours])), (q_ends, .inl (cI, 21, .inl f_ends')), (q_colours, .inl (cI, 21, .inl f_colours'))]) 0 0 (va_A [(q, .inr (2, [.int f_knots, .int f_threads, .ref q_ends, .ref q_colours])), (q_ends, .inl (cI, 21, .inl f_ends)), (q_colours, .inl (cI, 21, .inl f_colours))] sz) := by
  unfold m_X2_build at hm
  refine z_openV (z1L q_p0 n_p0 f_p0) (cc := cX2_build) (maxL := 4) (own := RX2) (by decide) rfl rfl (Nat.le_of_ble_eq_true rfl) ?_
  intro p e s m args below meth c A Q hx hb hml hown hts hP hK hN hD hA hZ hret ls hl
  have hS : va_S A s.heap s.heap [] := va_S.rf
  have hl : lv_has ls 4 [(0, .ref q), (1, .ref q_p0)] := hl
  refine lv_aload_n hx hb dX2_build_0 rfl (lv_at hl 0 rfl) ?_
  obtain ⟨⟨f_knots_1, f_threads_2⟩, h_3, hm⟩ := bind_use hm
  refine g_kv (wc := [(q, .inr (2, [.int f_knots, .int f_threads, .ref q_ends, .ref q_colours])), (q_ends, .inl (cI, 21, .inl f_ends)), (q_colours, .inl (cI, 21, .inl f_colours))]) (wr := []) (w2 := [(q, .inr (2, [.int f_knots_1, .int f_threads_2, .ref q_ends, .ref q_colours])), (q_ends, .inl (cI, 21, .inl f_ends)), (q_colours, .inl (cI, 21, .inl f_colours))]) (va_runV (As := []) (rest := []) ⟨hx, hb, hml, hown, hts⟩ (k_X2_empty l D cI cC cN N q q_ends q_colours s.heap.size f_knots f_threads f_ends f_colours f_knots_1 f_threads_2 h_3) (cwV 0 hts gX2_build_X2_empty rfl rfl rfl (by decide +kernel) ⟨Nat.le_of_ble_eq_true rfl, Nat.le_of_ble_eq_true rfl⟩) ⟨g_blind, va_recv (D := D) (ci := 2) (q0 := 0) hK hP rfl rfl, g_pre (hP.sub [0, 1, 2] rfl) hK hN (hD.sub [0, 1, 2] (by decide) rfl)⟩ rfl rfl hl.1 rfl (lv_room (Nat.le_of_ble_eq_true rfl)) dX2_build_1 ⟨Nat.zero_le _, Nat.zero_le _⟩) hP hD hS hA [0, 1, 2] [] rfl rfl (by decide) (by decide) rfl (fun H locs hP hD hS => ?_)
  refine lv_iconst (v := (-1)) hx hb dX2_build_4 (by decide) ?_
  refine lv_istore_n (lv' := [(2, .int (-1)), (0, .ref q), (1, .ref q_p0)]) hx hb dX2_build_5 rfl hl (by decide) rfl (fun ls hl => ?_)
  refine lv_iconst (v := 0) hx hb dX2_build_6 (by decide) ?_
  refine lv_istore_n (lv' := [(3, .int 0), (2, .int (-1)), (0, .ref q), (1, .ref q_p0)]) hx hb dX2_build_7 rfl hl (by decide) rfl (fun ls hl => ?_)
  obtain ⟨J57, hJ57, hm⟩ := jn_use hm
  have j57 : ∀ (x2_4 : Int32) (f_threads_5 : Int32) (f_ends_6 : Nat → Int32) (f_colours_7 : Nat → Int32), ∀ (H : Heap) (locs : List Loc) (ls : Array Slot), va_P D vwCl [(q, .inr (2, [.int f_knots_1, .int f_threads_5, .ref q_ends, .ref q_colours])), (q_ends, .inl (cI, 21, .inl f_ends_6)), (q_colours, .inl (cI, 21, .inl f_colours_7))] H → va_D A [(q, .inr (2, [.int f_knots_1, .int f_threads_5, .ref q_ends, .ref q_colours])), (q_ends, .inl (cI, 21, .inl f_ends_6)), (q_colours, .inl (cI, 21, .inl f_colours_7))] → va_S A s.heap H locs → lv_has ls 4 [(2, .int x2_4), (0, .ref q)] → J57 x2_4 f_threads_5 f_ends_6 f_colours_7 = some (f_knots', f_threads', f_ends', f_colours') → W p l e rX2_build s m args below meth c H locs 0 0 Q (F0 m 57 ls []) := by
    intro x2_4 f_threads_5 f_ends_6 f_colours_7 H locs ls hP hD hS hl hm
    rw [hJ57] at hm
    refine lv_aload_n hx hb dX2_build_57 rfl (lv_at hl 1 rfl) ?_
    refine lv_iload_n hx hb dX2_build_58 rfl (lv_at hl 0 rfl) ?_
    refine lv_iconst (v := 1) hx hb dX2_build_59 (by decide) ?_
    refine lv_iadd hx hb dX2_build_60 ?_
    obtain ⟨f_knots_8, h_9, hm⟩ := bind_use hm
    refine g_kv (wc := [(q, .inr (2, [.int f_knots_1, .int f_threads_5, .ref q_ends, .ref q_colours])), (q_ends, .inl (cI, 21, .inl f_ends_6)), (q_colours, .inl (cI, 21, .inl f_colours_7))]) (wr := []) (w2 := [(q, .inr (2, [.int f_knots_8, .int f_threads_5, .ref q_ends, .ref q_colours])), (q_ends, .inl (cI, 21, .inl f_ends_6)), (q_colours, .inl (cI, 21, .inl f_colours_7))]) (va_runV (As := [.int (x2_4 + 1)]) (rest := []) ⟨hx, hb, hml, hown, hts⟩ (k_X2_addKnots l D cI cC cN N q q_ends q_colours H.size f_knots_1 f_threads_5 f_ends_6 f_colours_7 (x2_4 + 1) f_knots_8 h_9) (cwV 1 hts gX2_build_X2_addKnots rfl rfl rfl (by decide +kernel) ⟨Nat.le_of_ble_eq_true rfl, Nat.le_of_ble_eq_true rfl⟩) ⟨g_blind, va_recv (D := D) (ci := 2) (q0 := 0) hK hP rfl rfl, g_pre (hP.sub [0, 1, 2] rfl) hK hN (hD.sub [0, 1, 2] (by decide) rfl)⟩ rfl rfl hl.1 rfl (lv_room (Nat.le_of_ble_eq_true rfl)) dX2_build_61 ⟨Nat.zero_le _, Nat.zero_le _⟩) hP hD hS hA [0, 1, 2] [] rfl rfl (by decide) (by decide) rfl (fun H locs hP hD hS => ?_)
    have z1 := so_use hm
    obtain ⟨y1, z2⟩ := pr_use z1
    obtain ⟨y2, z3⟩ := pr_use z2
    obtain ⟨y3, z4⟩ := pr_use z3
    subst y1
    subst y2
    subst y3
    subst z4
    exact hret _ _ _ _ dX2_build_64 hP hD hS
  have l8 : ∀ (n_8 : Nat) (x3_10 : Int32) (x2_11 : Int32) (f_threads_12 : Int32) (f_ends_13 : Nat → Int32) (f_colours_14 : Nat → Int32), ∀ (H : Heap) (locs : List Loc) (ls : Array Slot), va_P D vwCl [(q, .inr (2, [.int f_knots_1, .int f_threads_12, .ref q_ends, .ref q_colours])), (q_ends, .inl (cI, 21, .inl f_ends_13)), (q_colours, .inl (cI, 21, .inl f_colours_14))] H → va_D A [(q, .inr (2, [.int f_knots_1, .int f_threads_12, .ref q_ends, .ref q_colours])), (q_ends, .inl (cI, 21, .inl f_ends_13)), (q_colours, .inl (cI, 21, .inl f_colours_14))] → va_S A s.heap H locs → lv_has ls 4 [(3, .int x3_10), (2, .int x2_11), (0, .ref q), (1, .ref q_p0)] → m_X2_build_L8 N n_p0 f_p0 J57 n_8 x3_10 x2_11 f_threads_12 f_ends_13 f_colours_14 = some (f_knots', f_threads', f_ends', f_colours') → W p l e rX2_build s m args below meth c H locs 0 0 Q (F0 m 8 ls []) := by
    intro n_8
    induction n_8 with
    | zero => intro x3_10 x2_11 f_threads_12 f_ends_13 f_colours_14 H locs ls hP hD hS hl hm; rw [m_X2_build_L8] at hm; exact no_use hm
    | succ n_8 ih8 =>
      intro x3_10 x2_11 f_threads_12 f_ends_13 f_colours_14 H locs ls hP hD hS hl hm
      rw [m_X2_build_L8] at hm
      refine lv_iload_n hx hb dX2_build_8 rfl (lv_at hl 0 rfl) ?_
      refine lv_iconst (v := 1) hx hb dX2_build_9 (by decide) ?_
      refine lv_iadd hx hb dX2_build_10 ?_
      refine lv_aload_n hx hb dX2_build_11 rfl (lv_at hl 3 rfl) ?_
      refine va_tlen (v := (Int32.ofNat n_p0)) hx hb hZ hS rfl dX2_build_12 ?_
      refine lv_icmp_ge (tgt := 57) hx hb dX2_build_13 (by decide) (fun hc => ?_) (fun hc => ?_)
      · have hm := if_t _ hc hm
        exact j57 x2_11 f_threads_12 f_ends_13 f_colours_14 _ _ _ hP hD hS (lv_sub hl [1, 2] rfl) hm
      · have hm := if_f _ hc hm
        refine lv_aload_n hx hb dX2_build_16 rfl (lv_at hl 2 rfl) ?_
        refine lv_aload_n hx hb dX2_build_17 rfl (lv_at hl 3 rfl) ?_
        refine lv_iload_n hx hb dX2_build_18 rfl (lv_at hl 0 rfl) ?_
        obtain ⟨r_15, h_16, hm⟩ := bind_use hm
        refine g_ki (wc := []) (wr := [(q, .inr (2, [.int f_knots_1, .int f_threads_12, .ref q_ends, .ref q_colours])), (q_ends, .inl (cI, 21, .inl f_ends_13)), (q_colours, .inl (cI, 21, .inl f_colours_14))]) (w2 := [(q, .inr (2, [.int f_knots_1, .int f_threads_12, .ref q_ends, .ref q_colours])), (q_ends, .inl (cI, 21, .inl f_ends_13)), (q_colours, .inl (cI, 21, .inl f_colours_14))]) (va_runSN (As := [.ref q_p0, .int x3_10]) (rest := [.ref q]) ⟨hx, hb, hml, hown, hts⟩ (kT_X6_at l D cI cC cN N q_p0 n_p0 H.size f_p0 x3_10 r_15 h_16) ⟨va_cnB 2 hts gX2_build_X6_at_n29 rfl rfl rfl (hN (.methodLinkNest RX2 29 yX6_at RX6) (by decide +kernel)) (hts (.initialized RX6) (by decide +kernel)) (by decide +kernel) ⟨Nat.le_of_ble_eq_true rfl, Nat.le_of_ble_eq_true rfl⟩, hts (.static yX6_at) (by decide +kernel), trivial⟩ ⟨z_blind (z1L q_p0 n_p0 f_p0), g_prez (z1L q_p0 n_p0 f_p0) (hP.sub [] rfl) hK hN (hD.sub [] (by decide) rfl) hZ hS (va_free hD hS hA [] rfl)⟩ rfl rfl hl.1 rfl (lv_room (Nat.le_of_ble_eq_true rfl)) dX2_build_19 ⟨Nat.zero_le _, Nat.zero_le _⟩) hP hD hS hA [] [0, 1, 2] rfl rfl (by decide) (by decide) rfl (fun H locs hP hD hS => ?_)
        obtain ⟨r_17, h_18, hm⟩ := bind_use hm
        refine g_ki (wc := []) (wr := [(q, .inr (2, [.int f_knots_1, .int f_threads_12, .ref q_ends, .ref q_colours])), (q_ends, .inl (cI, 21, .inl f_ends_13)), (q_colours, .inl (cI, 21, .inl f_colours_14))]) (w2 := [(q, .inr (2, [.int f_knots_1, .int f_threads_12, .ref q_ends, .ref q_colours])), (q_ends, .inl (cI, 21, .inl f_ends_13)), (q_colours, .inl (cI, 21, .inl f_colours_14))]) (va_runSN (As := [.int r_15]) (rest := [.ref q]) ⟨hx, hb, hml, hown, hts⟩ (k_X6_bit l D cI cC cN N H.size r_15 r_17 h_18) ⟨va_cnB 1 hts gX2_build_X6_bit_n25 rfl rfl rfl (hN (.methodLinkNest RX2 25 yX6_bit RX6) (by decide +kernel)) (hts (.initialized RX6) (by decide +kernel)) (by decide +kernel) ⟨Nat.le_of_ble_eq_true rfl, Nat.le_of_ble_eq_true rfl⟩, hts (.static yX6_bit) (by decide +kernel), trivial⟩ ⟨g_blind, g_pre (hP.sub [] rfl) hK hN (hD.sub [] (by decide) rfl)⟩ rfl rfl hl.1 rfl (lv_room (Nat.le_of_ble_eq_true rfl)) dX2_build_22 ⟨Nat.zero_le _, Nat.zero_le _⟩) hP hD hS hA [] [0, 1, 2] rfl rfl (by decide) (by decide) rfl (fun H locs hP hD hS => ?_)
        refine lv_aload_n hx hb dX2_build_25 rfl (lv_at hl 3 rfl) ?_
        refine lv_iload_n hx hb dX2_build_26 rfl (lv_at hl 0 rfl) ?_
        refine lv_iconst (v := 1) hx hb dX2_build_27 (by decide) ?_
        refine lv_iadd hx hb dX2_build_28 ?_
        obtain ⟨r_19, h_20, hm⟩ := bind_use hm
        refine g_ki (wc := []) (wr := [(q, .inr (2, [.int f_knots_1, .int f_threads_12, .ref q_ends, .ref q_colours])), (q_ends, .inl (cI, 21, .inl f_ends_13)), (q_colours, .inl (cI, 21, .inl f_colours_14))]) (w2 := [(q, .inr (2, [.int f_knots_1, .int f_threads_12, .ref q_ends, .ref q_colours])), (q_ends, .inl (cI, 21, .inl f_ends_13)), (q_colours, .inl (cI, 21, .inl f_colours_14))]) (va_runSN (As := [.ref q_p0, .int (x3_10 + 1)]) (rest := [.int r_17, .ref q]) ⟨hx, hb, hml, hown, hts⟩ (kT_X6_at l D cI cC cN N q_p0 n_p0 H.size f_p0 (x3_10 + 1) r_19 h_20) ⟨va_cnB 2 hts gX2_build_X6_at_n29 rfl rfl rfl (hN (.methodLinkNest RX2 29 yX6_at RX6) (by decide +kernel)) (hts (.initialized RX6) (by decide +kernel)) (by decide +kernel) ⟨Nat.le_of_ble_eq_true rfl, Nat.le_of_ble_eq_true rfl⟩, hts (.static yX6_at) (by decide +kernel), trivial⟩ ⟨z_blind (z1L q_p0 n_p0 f_p0), g_prez (z1L q_p0 n_p0 f_p0) (hP.sub [] rfl) hK hN (hD.sub [] (by decide) rfl) hZ hS (va_free hD hS hA [] rfl)⟩ rfl rfl hl.1 rfl (lv_room (Nat.le_of_ble_eq_true rfl)) dX2_build_29 ⟨Nat.zero_le _, Nat.zero_le _⟩) hP hD hS hA [] [0, 1, 2] rfl rfl (by decide) (by decide) rfl (fun H locs hP hD hS => ?_)
        obtain ⟨r_21, h_22, hm⟩ := bind_use hm
        refine g_ki (wc := []) (wr := [(q, .inr (2, [.int f_knots_1, .int f_threads_12, .ref q_ends, .ref q_colours])), (q_ends, .inl (cI, 21, .inl f_ends_13)), (q_colours, .inl (cI, 21, .inl f_colours_14))]) (w2 := [(q, .inr (2, [.int f_knots_1, .int f_threads_12, .ref q_ends, .ref q_colours])), (q_ends, .inl (cI, 21, .inl f_ends_13)), (q_colours, .inl (cI, 21, .inl f_colours_14))]) (va_runSN (As := [.int r_19]) (rest := [.int r_17, .ref q]) ⟨hx, hb, hml, hown, hts⟩ (k_X6_bit l D cI cC cN N H.size r_19 r_21 h_22) ⟨va_cnB 1 hts gX2_build_X6_bit_n25 rfl rfl rfl (hN (.methodLinkNest RX2 25 yX6_bit RX6) (by decide +kernel)) (hts (.initialized RX6) (by decide +kernel)) (by decide +kernel) ⟨Nat.le_of_ble_eq_true rfl, Nat.le_of_ble_eq_true rfl⟩, hts (.static yX6_bit) (by decide +kernel), trivial⟩ ⟨g_blind, g_pre (hP.sub [] rfl) hK hN (hD.sub [] (by decide) rfl)⟩ rfl rfl hl.1 rfl (lv_room (Nat.le_of_ble_eq_true rfl)) dX2_build_32 ⟨Nat.zero_le _, Nat.zero_le _⟩) hP hD hS hA [] [0, 1, 2] rfl rfl (by decide) (by decide) rfl (fun H locs hP hD hS => ?_)
        refine lv_ior hx hb dX2_build_35 ?_
        obtain ⟨⟨f_threads_23, f_ends_24, f_colours_25⟩, h_26, hm⟩ := bind_use hm
        refine g_kv (wc := [(q, .inr (2, [.int f_knots_1, .int f_threads_12, .ref q_ends, .ref q_colours])), (q_ends, .inl (cI, 21, .inl f_ends_13)), (q_colours, .inl (cI, 21, .inl f_colours_14))]) (wr := []) (w2 := [(q, .inr (2, [.int f_knots_1, .int f_threads_23, .ref q_ends, .ref q_colours])), (q_ends, .inl (cI, 21, .inl f_ends_24)), (q_colours, .inl (cI, 21, .inl f_colours_25))]) (va_runV (As := [.int (r_17 ||| r_21)]) (rest := []) ⟨hx, hb, hml, hown, hts⟩ (k_X2_tie l D cI cC cN N q q_ends q_colours H.size f_knots_1 f_threads_12 f_ends_13 f_colours_14 (r_17 ||| r_21) f_threads_23 f_ends_24 f_colours_25 h_26) (cwV 1 hts gX2_build_X2_tie rfl rfl rfl (by decide +kernel) ⟨Nat.le_of_ble_eq_true rfl, Nat.le_of_ble_eq_true rfl⟩) ⟨g_blind, va_recv (D := D) (ci := 2) (q0 := 0) hK hP rfl rfl, g_pre (hP.sub [0, 1, 2] rfl) hK hN (hD.sub [0, 1, 2] (by decide) rfl)⟩ rfl rfl hl.1 rfl (lv_room (Nat.le_of_ble_eq_true rfl)) dX2_build_36 ⟨Nat.zero_le _, Nat.zero_le _⟩) hP hD hS hA [0, 1, 2] [] rfl rfl (by decide) (by decide) rfl (fun H locs hP hD hS => ?_)
        refine lv_iload_n hx hb dX2_build_39 rfl (lv_at hl 1 rfl) ?_
        refine lv_aload_n hx hb dX2_build_40 rfl (lv_at hl 3 rfl) ?_
        refine lv_iload_n hx hb dX2_build_41 rfl (lv_at hl 0 rfl) ?_
        refine lv_iconst (v := 1) hx hb dX2_build_42 (by decide) ?_
        refine lv_iadd hx hb dX2_build_43 ?_
        obtain ⟨r_27, h_28, hm⟩ := bind_use hm
        refine g_ki (wc := []) (wr := [(q, .inr (2, [.int f_knots_1, .int f_threads_23, .ref q_ends, .ref q_colours])), (q_ends, .inl (cI, 21, .inl f_ends_24)), (q_colours, .inl (cI, 21, .inl f_colours_25))]) (w2 := [(q, .inr (2, [.int f_knots_1, .int f_threads_23, .ref q_ends, .ref q_colours])), (q_ends, .inl (cI, 21, .inl f_ends_24)), (q_colours, .inl (cI, 21, .inl f_colours_25))]) (va_runSN (As := [.ref q_p0, .int (x3_10 + 1)]) (rest := [.int x2_11]) ⟨hx, hb, hml, hown, hts⟩ (kT_X6_at l D cI cC cN N q_p0 n_p0 H.size f_p0 (x3_10 + 1) r_27 h_28) ⟨va_cnB 2 hts gX2_build_X6_at_n29 rfl rfl rfl (hN (.methodLinkNest RX2 29 yX6_at RX6) (by decide +kernel)) (hts (.initialized RX6) (by decide +kernel)) (by decide +kernel) ⟨Nat.le_of_ble_eq_true rfl, Nat.le_of_ble_eq_true rfl⟩, hts (.static yX6_at) (by decide +kernel), trivial⟩ ⟨z_blind (z1L q_p0 n_p0 f_p0), g_prez (z1L q_p0 n_p0 f_p0) (hP.sub [] rfl) hK hN (hD.sub [] (by decide) rfl) hZ hS (va_free hD hS hA [] rfl)⟩ rfl rfl hl.1 rfl (lv_room (Nat.le_of_ble_eq_true rfl)) dX2_build_44 ⟨Nat.zero_le _, Nat.zero_le _⟩) hP hD hS hA [] [0, 1, 2] rfl rfl (by decide) (by decide) rfl (fun H locs hP hD hS => ?_)
        refine gv_mmax hx hb (by rw [hml]; exact hl.1.symm) (own := RX2) (index := 80) hown (hts (.methodLink RX2 80 Lib.Math.max.name) (by decide +kernel)) (hts (.static Lib.Math.max.name) (by decide +kernel)) (hts (.initialized "java/lang/Math") (by decide +kernel)) (hts (.code Lib.Math.max.name Lib.Math.max.code 2 (some .int)) (by decide +kernel)) (Nat.le_of_ble_eq_true rfl) (Nat.le_of_ble_eq_true rfl) (Nat.zero_le _) (Nat.zero_le _) dX2_build_47 ?_
        refine lv_topi (fun v2_29 ev2_29 => ?_)
        have hm := nm_use ev2_29 hm
        refine lv_istore_n (lv' := [(2, .int v2_29), (3, .int x3_10), (0, .ref q), (1, .ref q_p0)]) hx hb dX2_build_50 rfl hl (by decide) rfl (fun ls hl => ?_)
        refine lv_iinc (v := (x3_10 + 2)) (lv' := [(3, .int (x3_10 + 2)), (2, .int v2_29), (0, .ref q), (1, .ref q_p0)]) hx hb dX2_build_51 hl (k := 1) rfl rfl (by decide) rfl (fun ls hl => ?_)
        refine lv_goto (tgt := 8) hx hb dX2_build_54 (by decide) ?_
        exact ih8 (x3_10 + 2) v2_29 f_threads_23 f_ends_24 f_colours_25 _ _ _ hP hD hS hl hm
  exact l8 N 0 (-1) f_threads_2 f_ends f_colours _ _ _ hP hD hS hl hm
abbrev rX6_take : Room := { frames := 5, cells := 0, slots := 0, locals := 109 }
set_option maxHeartbeats 4000000 in
set_option maxRecDepth 100000 in
theorem k_X6_take (l : Launch) (D : va_G) (cI cC cN : ClassId) (N : Nat) (bb : Nat → Nat) (q : Nat) (q_net : Nat) (q_draft : Nat) (q_snapshot : Nat) (q_history : Nat) (q_text : Nat) (q_painter : Nat) (q_covers : Nat) (q_net_ends : Nat) (q_net_colours : Nat) (q_history_states : Nat) (q_history_h0 : Nat) (q_history_h1 : Nat) (q_history_h2 : Nat) (q_history_h3 : Nat) (q_history_h0_ends : Nat) (q_history_h0_colours : Nat) (q_history_h1_ends : Nat) (q_history_h1_colours : Nat) (q_history_h2_ends : Nat) (q_history_h2_colours : Nat) (q_history_h3_ends : Nat) (q_history_h3_colours : Nat) (sz : Nat) (f_hasSnapshot : Int32) (f_net_knots : Int32) (f_net_threads : Int32) (f_net_ends : Nat → Int32) (f_net_colours : Nat → Int32) (f_history_size : Int32) (f_history_h0_knots : Int32) (f_history_h0_threads : Int32) (f_history_h0_ends : Nat → Int32) (f_history_h0_colours : Nat → Int32) (f_history_h1_knots : Int32) (f_history_h1_threads : Int32) (f_history_h1_ends : Nat → Int32) (f_history_h1_colours : Nat → Int32) (f_history_h2_knots : Int32) (f_history_h2_threads : Int32) (f_history_h2_ends : Nat → Int32) (f_history_h2_colours : Nat → Int32) (f_history_h3_knots : Int32) (f_history_h3_threads : Int32) (f_history_h3_ends : Nat → Int32) (f_history_h3_colours : Nat → Int32) (a1 : Int32) (r : Int32) (f_net_knots' : Int32) (f_net_threads' : Int32) (f_net_ends' : Nat → Int32) (f_net_colours' : Nat → Int32) (f_history_size' : Int32) (f_history_h0_knots' : Int32) (f_history_h0_threads' : Int32) (f_history_h0_ends' : Nat → Int32) (f_history_h0_colours' : Nat → Int32) (f_history_h1_knots' : Int32) (f_history_h1_threads' : Int32) (f_history_h1_ends' : Nat → Int32) (f_history_h1_colours' : Nat → Int32) (f_history_h2_knots' : Int32) (f_history_h2_threads' : Int32) (f_history_h2_ends' : Nat → Int32) (f_history_h2_colours' : Nat → Int32) (f_history_h3_knots' : Int32) (f_history_h3_threads' : Int32) (f_history_h3_ends' : Nat → Int32) (f_history_h3_colours' : Nat → Int32) (hm : m_X6_take N f_net_knots f_net_threads f_net_ends f_net_colours f_history_size f_history_h0_knots f_history_h0_threads f_history_h0_ends f_history_h0_colours f_history_h1_knots f_history_h1_threads f_history_h1_ends f_history_h1_colours f_history_h2_knots f_history_h2_threads f_history_h2_ends f_history_h2_colours f_history_h3_knots f_history_h3_threads f_history_h3_ends f_history_h3_colours a1 = some (r, f_net_knots', f_net_threads', f_net_ends', f_net_colours', f_history_size', f_history_h0_knots', f_history_h0_threads', f_history_h0_ends', f_history_h0_colours', f_history_h1_knots', f_history_h1_threads', f_history_h1_ends', f_history_h1_colours', f_history_h2_knots', f_history_h2_threads', f_history_h2_ends', f_history_h2_colours', f_history_h3_knots', f_history_h3_threads', f_history_h3_ends', f_history_h3_colours')) : Met l yX6_take wsX6_take (rX6_take) (gPz (SB bb) D (tysG cI cC cN) [.ref q, .int a1] [(q, .inr (5, [.ref q_net, .ref q_draft, .ref q_snapshot, .int f_hasSnapshot, .ref q_history, .ref q_text, .ref q_painter, .ref q_covers])), (q_net, .inr (2, [.int f_net_knots, .int f_net_threads, .ref q_net_ends, .ref q_net_colours])), (q_net_ends, .inl (cI, 21, .inl f_net_ends)), (q_net_colours, .inl (cI, 21, .inl f_net_colours)), (q_history, .inr (1, [.ref q_history_states, .int f_history_size])), (q_history_states, .inl (cN, 4, .inr (.inr (.inr (.inr (hisG q_history_h0 q_history_h1 q_history_h2 q_history_h3)))))), (q_history_h0, .inr (2, [.int f_history_h0_knots, .int f_history_h0_threads, .ref q_history_h0_ends, .ref q_history_h0_colours])), (q_history_h0_ends, .inl (cI, 21, .inl f_history_h0_ends)), (q_history_h0_colours, .inl (cI, 21, .inl f_history_h0_colours)), (q_history_h1, .inr (2, [.int f_history_h1_knots, .int f_history_h1_threads, .ref q_history_h1_ends, .ref q_history_h1_colours])), (q_history_h1_ends, .inl (cI, 21, .inl f_history_h1_ends)), (q_history_h1_colours, .inl (cI, 21, .inl f_history_h1_colours)), (q_history_h2, .inr (2, [.int f_history_h2_knots, .int f_history_h2_threads, .ref q_history_h2_ends, .ref q_history_h2_colours])), (q_history_h2_ends, .inl (cI, 21, .inl f_history_h2_ends)), (q_history_h2_colours, .inl (cI, 21, .inl f_history_h2_colours)), (q_history_h3, .inr (2, [.int f_history_h3_knots, .int f_history_h3_threads, .ref q_history_h3_ends, .ref q_history_h3_colours])), (q_history_h3_ends, .inl (cI, 21, .inl f_history_h3_ends)), (q_history_h3_colours, .inl (cI, 21, .inl f_history_h3_colours))] sz) (gQi D (tysG cI cC cN) (va_A [(q, .inr (5, [.ref q_net, .ref q_draft, .ref q_snapshot, .int f_hasSnapshot, .ref q_history, .ref q_text, .ref q_painter, .ref q_covers])), (q_net, .inr (2, [.int f_net_knots, .int f_net_threads, .ref q_net_ends, .ref q_net_colours])), (q_net_ends, .inl (cI, 21, .inl f_net_ends)), (q_net_colours, .inl (cI, 21, .inl f_net_colours)), (q_history, .inr (1, [.ref q_history_states, .int f_history_size])), (q_history_states, .inl (cN, 4, .inr (.inr (.inr (.inr (hisG q_history_h0 q_history_h1 q_history_h2 q_history_h3)))))), (q_history_h0, .inr (2, [.int f_history_h0_knots, .int f_history_h0_threads, .ref q_history_h0_ends, .ref q_history_h0_colours])), (q_history_h0_ends, .inl (cI, 21, .inl f_history_h0_ends)), (q_history_h0_colours, .inl (cI, 21, .inl f_history_h0_colours)), (q_history_h1, .inr (2, [.int f_history_h1_knots, .int f_history_h1_threads, .ref q_history_h1_ends, .ref q_history_h1_colours])), (q_history_h1_ends, .inl (cI, 21, .inl f_history_h1_ends)), (q_history_h1_colours, .inl (cI, 21, .inl f_history_h1_colours)), (q_history_h2, .inr (2, [.int f_history_h2_knots, .int f_history_h2_threads, .ref q_history_h2_ends, .ref q_history_h2_colours])), (q_history_h2_ends, .inl (cI, 21, .inl f_history_h2_ends)), (q_history_h2_colours, .inl (cI, 21, .inl f_history_h2_colours)), (q_history_h3, .inr (2, [.int f_history_h3_knots, .int f_history_h3_threads, .ref q_history_h3_ends, .ref q_history_h3_colours])), (q_history_h3_ends, .inl (cI, 21, .inl f_history_h3_ends)), (q_history_h3_colours, .inl (cI, 21, .inl f_history_h3_colours))] sz) [(q, .inr (5, [.ref q_net, .ref q_draft, .ref q_snapshot, .int f_hasSnapshot, .ref q_history, .ref q_text, .ref q_painter, .ref q_covers])), (q_net, .inr (2, [.int f_net_knots', .int f_net_threads', .ref q_net_ends, .ref q_net_colours])), (q_net_ends, .inl (cI, 21, .inl f_net_ends')), (q_net_colours, .inl (cI, 21, .inl f_net_colours')), (q_history, .inr (1, [.ref q_history_states, .int f_history_size'])), (q_history_states, .inl (cN, 4, .inr (.inr (.inr (.inr (hisG q_history_h0 q_history_h1 q_history_h2 q_history_h3)))))), (q_history_h0, .inr (2, [.int f_history_h0_knots', .int f_history_h0_threads', .ref q_history_h0_ends, .ref q_history_h0_colours])), (q_history_h0_ends, .inl (cI, 21, .inl f_history_h0_ends')), (q_history_h0_colours, .inl (cI, 21, .inl f_history_h0_colours')), (q_history_h1, .inr (2, [.int f_history_h1_knots', .int f_history_h1_threads', .ref q_history_h1_ends, .ref q_history_h1_colours])), (q_history_h1_ends, .inl (cI, 21, .inl f_history_h1_ends')), (q_history_h1_colours, .inl (cI, 21, .inl f_history_h1_colours')), (q_history_h2, .inr (2, [.int f_history_h2_knots', .int f_history_h2_threads', .ref q_history_h2_ends, .ref q_history_h2_colours])), (q_history_h2_ends, .inl (cI, 21, .inl f_history_h2_ends')), (q_history_h2_colours, .inl (cI, 21, .inl f_history_h2_colours')), (q_history_h3, .inr (2, [.int f_history_h3_knots', .int f_history_h3_threads', .ref q_history_h3_ends, .ref q_history_h3_colours])), (q_history_h3_ends, .inl (cI, 21, .inl f_history_h3_ends')), (q_history_h3_colours, .inl (cI, 21, .inl f_history_h3_colours'))] r) 0 0 (va_A [(q, .inr (5, [.ref q_net, .ref q_draft, .ref q_snapshot, .int f_hasSnapshot, .ref q_history, .ref q_text, .ref q_painter, .ref q_covers])), (q_net, .inr (2, [.int f_net_knots, .int f_net_threads, .ref q_net_ends, .ref q_net_colours])), (q_net_ends, .inl (cI, 21, .inl f_net_ends)), (q_net_colours, .inl (cI, 21, .inl f_net_colours)), (q_history, .inr (1, [.ref q_history_states, .int f_history_size])), (q_history_states, .inl (cN, 4, .inr (.inr (.inr (.inr (hisG q_history_h0 q_history_h1 q_history_h2 q_history_h3)))))), (q_history_h0, .inr (2, [.int f_history_h0_knots, .int f_history_h0_threads, .ref q_history_h0_ends, .ref q_history_h0_colours])), (q_history_h0_ends, .inl (cI, 21, .inl f_history_h0_ends)), (q_history_h0_colours, .inl (cI, 21, .inl f_history_h0_colours)), (q_history_h1, .inr (2, [.int f_history_h1_knots, .int f_history_h1_threads, .ref q_history_h1_ends, .ref q_history_h1_colours])), (q_history_h1_ends, .inl (cI, 21, .inl f_history_h1_ends)), (q_history_h1_colours, .inl (cI, 21, .inl f_history_h1_colours)), (q_history_h2, .inr (2, [.int f_history_h2_knots, .int f_history_h2_threads, .ref q_history_h2_ends, .ref q_history_h2_colours])), (q_history_h2_ends, .inl (cI, 21, .inl f_history_h2_ends)), (q_history_h2_colours, .inl (cI, 21, .inl f_history_h2_colours)), (q_history_h3, .inr (2, [.int f_history_h3_knots, .int f_history_h3_threads, .ref q_history_h3_ends, .ref q_history_h3_colours])), (q_history_h3_ends, .inl (cI, 21, .inl f_history_h3_ends)), (q_history_h3_colours, .inl (cI, 21, .inl f_history_h3_colours))] sz) := by
  unfold m_X6_take at hm
  refine z_openI (sBL bb) (cc := cX6_take) (maxL := 2) (own := RX6) (by decide) rfl rfl (Nat.le_of_ble_eq_true rfl) ?_
  intro p e s m args below meth c A Q hx hb hml hown hts hP hK hN hD hA hZ hret ls hl
  have hS : va_S A s.heap s.heap [] := va_S.rf
  have hl : lv_has ls 2 [(0, .ref q), (1, .int a1)] := hl
  refine lv_iload_n hx hb dX6_take_0 rfl (lv_at hl 1 rfl) ?_
  refine lv_if_lt (tgt := 9) hx hb dX6_take_1 (by decide) (fun hc => ?_) (fun hc => ?_)
  · have hm := if_t _ hc hm
    refine lv_bipush (v := (-2)) hx hb dX6_take_9 (by decide) ?_
    have z1 := so_use hm
    obtain ⟨y1, z2⟩ := pr_use z1
    obtain ⟨y2, z3⟩ := pr_use z2
    obtain ⟨y3, z4⟩ := pr_use z3
    obtain ⟨y4, z5⟩ := pr_use z4
    obtain ⟨y5, z6⟩ := pr_use z5
    obtain ⟨y6, z7⟩ := pr_use z6
    obtain ⟨y7, z8⟩ := pr_use z7
    obtain ⟨y8, z9⟩ := pr_use z8
    obtain ⟨y9, z10⟩ := pr_use z9
    obtain ⟨y10, z11⟩ := pr_use z10
    obtain ⟨y11, z12⟩ := pr_use z11
    obtain ⟨y12, z13⟩ := pr_use z12
    obtain ⟨y13, z14⟩ := pr_use z13
    obtain ⟨y14, z15⟩ := pr_use z14
    obtain ⟨y15, z16⟩ := pr_use z15
    obtain ⟨y16, z17⟩ := pr_use z16
    obtain ⟨y17, z18⟩ := pr_use z17
    obtain ⟨y18, z19⟩ := pr_use z18
    obtain ⟨y19, z20⟩ := pr_use z19
    obtain ⟨y20, z21⟩ := pr_use z20
    obtain ⟨y21, z22⟩ := pr_use z21
    subst y1
    subst y2
    subst y3
    subst y4
    subst y5
    subst y6
    subst y7
    subst y8
    subst y9
    subst y10
    subst y11
    subst y12
    subst y13
    subst y14
    subst y15
    subst y16
    subst y17
    subst y18
    subst y19
    subst y20
    subst y21
    subst z22
    exact hret _ _ _ _ _ dX6_take_11 rfl rfl hP hD hS
  · have hm := if_f _ hc hm
    refine lv_iload_n hx hb dX6_take_4 rfl (lv_at hl 1 rfl) ?_
    refine lv_iconst (v := 4) hx hb dX6_take_5 (by decide) ?_
    refine lv_icmp_le (tgt := 12) hx hb dX6_take_6 (by decide) (fun hc => ?_) (fun hc => ?_)
    · have hm := if_t _ hc hm
      refine lv_aload_n hx hb dX6_take_12 rfl (lv_at hl 0 rfl) ?_
      refine va_get (D := D) (ci := 5) (v := .ref q_history) (C := RX6) (T := TX6) (N := 8) hx hb hts (by decide +kernel) hown hK hP 0 rfl rfl 4 (by decide) (hts (.fieldLink RX6 29 "KnotStripes" "history" "LKnotStripes$History;") (by decide +kernel)) (fun _ h9 => h9) rfl dX6_take_13 ?_
      refine lv_aload_n hx hb dX6_take_16 rfl (lv_at hl 0 rfl) ?_
      refine va_get (D := D) (ci := 5) (v := .ref q_net) (C := RX6) (T := TX6) (N := 8) hx hb hts (by decide +kernel) hown hK hP 0 rfl rfl 0 (by decide) (hts (.fieldLink RX6 12 "KnotStripes" "net" "LKnotStripes$Net;") (by decide +kernel)) (fun _ h9 => h9) rfl dX6_take_17 ?_
      obtain ⟨⟨f_history_size_1, f_history_h0_knots_2, f_history_h0_threads_3, f_history_h0_ends_4, f_history_h0_colours_5, f_history_h1_knots_6, f_history_h1_threads_7, f_history_h1_ends_8, f_history_h1_colours_9, f_history_h2_knots_10, f_history_h2_threads_11, f_history_h2_ends_12, f_history_h2_colours_13, f_history_h3_knots_14, f_history_h3_threads_15, f_history_h3_ends_16, f_history_h3_colours_17⟩, h_18, hm⟩ := bind_use hm
      refine g_kv (wc := [(q_history, .inr (1, [.ref q_history_states, .int f_history_size])), (q_history_states, .inl (cN, 4, .inr (.inr (.inr (.inr (hisG q_history_h0 q_history_h1 q_history_h2 q_history_h3)))))), (q_history_h0, .inr (2, [.int f_history_h0_knots, .int f_history_h0_threads, .ref q_history_h0_ends, .ref q_history_h0_colours])), (q_history_h0_ends, .inl (cI, 21, .inl f_history_h0_ends)), (q_history_h0_colours, .inl (cI, 21, .inl f_history_h0_colours)), (q_history_h1, .inr (2, [.int f_history_h1_knots, .int f_history_h1_threads, .ref q_history_h1_ends, .ref q_history_h1_colours])), (q_history_h1_ends, .inl (cI, 21, .inl f_history_h1_ends)), (q_history_h1_colours, .inl (cI, 21, .inl f_history_h1_colours)), (q_history_h2, .inr (2, [.int f_history_h2_knots, .int f_history_h2_threads, .ref q_history_h2_ends, .ref q_history_h2_colours])), (q_history_h2_ends, .inl (cI, 21, .inl f_history_h2_ends)), (q_history_h2_colours, .inl (cI, 21, .inl f_history_h2_colours)), (q_history_h3, .inr (2, [.int f_history_h3_knots, .int f_history_h3_threads, .ref q_history_h3_ends, .ref q_history_h3_colours])), (q_history_h3_ends, .inl (cI, 21, .inl f_history_h3_ends)), (q_history_h3_colours, .inl (cI, 21, .inl f_history_h3_colours)), (q_net, .inr (2, [.int f_net_knots, .int f_net_threads, .ref q_net_ends, .ref q_net_colours])), (q_net_ends, .inl (cI, 21, .inl f_net_ends)), (q_net_colours, .inl (cI, 21, .inl f_net_colours))]) (wr := [(q, .inr (5, [.ref q_net, .ref q_draft, .ref q_snapshot, .int f_hasSnapshot, .ref q_history, .ref q_text, .ref q_painter, .ref q_covers]))]) (w2 := [(q, .inr (5, [.ref q_net, .ref q_draft, .ref q_snapshot, .int f_hasSnapshot, .ref q_history, .ref q_text, .ref q_painter, .ref q_covers])), (q_history, .inr (1, [.ref q_history_states, .int f_history_size_1])), (q_history_states, .inl (cN, 4, .inr (.inr (.inr (.inr (hisG q_history_h0 q_history_h1 q_history_h2 q_history_h3)))))), (q_history_h0, .inr (2, [.int f_history_h0_knots_2, .int f_history_h0_threads_3, .ref q_history_h0_ends, .ref q_history_h0_colours])), (q_history_h0_ends, .inl (cI, 21, .inl f_history_h0_ends_4)), (q_history_h0_colours, .inl (cI, 21, .inl f_history_h0_colours_5)), (q_history_h1, .inr (2, [.int f_history_h1_knots_6, .int f_history_h1_threads_7, .ref q_history_h1_ends, .ref q_history_h1_colours])), (q_history_h1_ends, .inl (cI, 21, .inl f_history_h1_ends_8)), (q_history_h1_colours, .inl (cI, 21, .inl f_history_h1_colours_9)), (q_history_h2, .inr (2, [.int f_history_h2_knots_10, .int f_history_h2_threads_11, .ref q_history_h2_ends, .ref q_history_h2_colours])), (q_history_h2_ends, .inl (cI, 21, .inl f_history_h2_ends_12)), (q_history_h2_colours, .inl (cI, 21, .inl f_history_h2_colours_13)), (q_history_h3, .inr (2, [.int f_history_h3_knots_14, .int f_history_h3_threads_15, .ref q_history_h3_ends, .ref q_history_h3_colours])), (q_history_h3_ends, .inl (cI, 21, .inl f_history_h3_ends_16)), (q_history_h3_colours, .inl (cI, 21, .inl f_history_h3_colours_17)), (q_net, .inr (2, [.int f_net_knots, .int f_net_threads, .ref q_net_ends, .ref q_net_colours])), (q_net_ends, .inl (cI, 21, .inl f_net_ends)), (q_net_colours, .inl (cI, 21, .inl f_net_colours))]) (va_runV (As := [.ref q_net]) (rest := []) ⟨hx, hb, hml, hown, hts⟩ (k_X1_push l D cI cC cN N q_history q_history_states q_history_h0 q_history_h1 q_history_h2 q_history_h3 q_history_h0_ends q_history_h0_colours q_history_h1_ends q_history_h1_colours q_history_h2_ends q_history_h2_colours q_history_h3_ends q_history_h3_colours q_net q_net_ends q_net_colours s.heap.size f_history_size f_history_h0_knots f_history_h0_threads f_history_h0_ends f_history_h0_colours f_history_h1_knots f_history_h1_threads f_history_h1_ends f_history_h1_colours f_history_h2_knots f_history_h2_threads f_history_h2_ends f_history_h2_colours f_history_h3_knots f_history_h3_threads f_history_h3_ends f_history_h3_colours f_net_knots f_net_threads f_net_ends f_net_colours f_history_size_1 f_history_h0_knots_2 f_history_h0_threads_3 f_history_h0_ends_4 f_history_h0_colours_5 f_history_h1_knots_6 f_history_h1_threads_7 f_history_h1_ends_8 f_history_h1_colours_9 f_history_h2_knots_10 f_history_h2_threads_11 f_history_h2_ends_12 f_history_h2_colours_13 f_history_h3_knots_14 f_history_h3_threads_15 f_history_h3_ends_16 f_history_h3_colours_17 h_18) (cwV 1 hts gX6_take_X1_push rfl rfl rfl (by decide +kernel) ⟨Nat.le_of_ble_eq_true rfl, Nat.le_of_ble_eq_true rfl⟩) ⟨g_blind, va_recv (D := D) (ci := 1) (q0 := 4) hK hP rfl rfl, g_pre (hP.sub [4, 5, 6, 7, 8, 9, 10, 11, 12, 13, 14, 15, 16, 17, 1, 2, 3] rfl) hK hN (hD.sub [4, 5, 6, 7, 8, 9, 10, 11, 12, 13, 14, 15, 16, 17, 1, 2, 3] (by decide) rfl)⟩ rfl rfl hl.1 rfl (lv_room (Nat.le_of_ble_eq_true rfl)) dX6_take_20 ⟨Nat.zero_le _, Nat.zero_le _⟩) hP hD hS hA [4, 5, 6, 7, 8, 9, 10, 11, 12, 13, 14, 15, 16, 17, 1, 2, 3] [0] rfl rfl (by decide) (by decide) rfl (fun H locs hP hD hS => ?_)
      refine lv_aload_n hx hb dX6_take_23 rfl (lv_at hl 0 rfl) ?_
      refine va_get (D := D) (ci := 5) (v := .ref q_net) (C := RX6) (T := TX6) (N := 8) hx hb hts (by decide +kernel) hown hK hP 0 rfl rfl 0 (by decide) (hts (.fieldLink RX6 12 "KnotStripes" "net" "LKnotStripes$Net;") (by decide +kernel)) (fun _ h9 => h9) rfl dX6_take_24 ?_
      refine lv_iload_n hx hb dX6_take_27 rfl (lv_at hl 1 rfl) ?_
      refine g_kr (wc := []) (wr := [(q, .inr (5, [.ref q_net, .ref q_draft, .ref q_snapshot, .int f_hasSnapshot, .ref q_history, .ref q_text, .ref q_painter, .ref q_covers])), (q_history, .inr (1, [.ref q_history_states, .int f_history_size_1])), (q_history_states, .inl (cN, 4, .inr (.inr (.inr (.inr (hisG q_history_h0 q_history_h1 q_history_h2 q_history_h3)))))), (q_history_h0, .inr (2, [.int f_history_h0_knots_2, .int f_history_h0_threads_3, .ref q_history_h0_ends, .ref q_history_h0_colours])), (q_history_h0_ends, .inl (cI, 21, .inl f_history_h0_ends_4)), (q_history_h0_colours, .inl (cI, 21, .inl f_history_h0_colours_5)), (q_history_h1, .inr (2, [.int f_history_h1_knots_6, .int f_history_h1_threads_7, .ref q_history_h1_ends, .ref q_history_h1_colours])), (q_history_h1_ends, .inl (cI, 21, .inl f_history_h1_ends_8)), (q_history_h1_colours, .inl (cI, 21, .inl f_history_h1_colours_9)), (q_history_h2, .inr (2, [.int f_history_h2_knots_10, .int f_history_h2_threads_11, .ref q_history_h2_ends, .ref q_history_h2_colours])), (q_history_h2_ends, .inl (cI, 21, .inl f_history_h2_ends_12)), (q_history_h2_colours, .inl (cI, 21, .inl f_history_h2_colours_13)), (q_history_h3, .inr (2, [.int f_history_h3_knots_14, .int f_history_h3_threads_15, .ref q_history_h3_ends, .ref q_history_h3_colours])), (q_history_h3_ends, .inl (cI, 21, .inl f_history_h3_ends_16)), (q_history_h3_colours, .inl (cI, 21, .inl f_history_h3_colours_17)), (q_net, .inr (2, [.int f_net_knots, .int f_net_threads, .ref q_net_ends, .ref q_net_colours])), (q_net_ends, .inl (cI, 21, .inl f_net_ends)), (q_net_colours, .inl (cI, 21, .inl f_net_colours))]) (w2 := [(q, .inr (5, [.ref q_net, .ref q_draft, .ref q_snapshot, .int f_hasSnapshot, .ref q_history, .ref q_text, .ref q_painter, .ref q_covers])), (q_history, .inr (1, [.ref q_history_states, .int f_history_size_1])), (q_history_states, .inl (cN, 4, .inr (.inr (.inr (.inr (hisG q_history_h0 q_history_h1 q_history_h2 q_history_h3)))))), (q_history_h0, .inr (2, [.int f_history_h0_knots_2, .int f_history_h0_threads_3, .ref q_history_h0_ends, .ref q_history_h0_colours])), (q_history_h0_ends, .inl (cI, 21, .inl f_history_h0_ends_4)), (q_history_h0_colours, .inl (cI, 21, .inl f_history_h0_colours_5)), (q_history_h1, .inr (2, [.int f_history_h1_knots_6, .int f_history_h1_threads_7, .ref q_history_h1_ends, .ref q_history_h1_colours])), (q_history_h1_ends, .inl (cI, 21, .inl f_history_h1_ends_8)), (q_history_h1_colours, .inl (cI, 21, .inl f_history_h1_colours_9)), (q_history_h2, .inr (2, [.int f_history_h2_knots_10, .int f_history_h2_threads_11, .ref q_history_h2_ends, .ref q_history_h2_colours])), (q_history_h2_ends, .inl (cI, 21, .inl f_history_h2_ends_12)), (q_history_h2_colours, .inl (cI, 21, .inl f_history_h2_colours_13)), (q_history_h3, .inr (2, [.int f_history_h3_knots_14, .int f_history_h3_threads_15, .ref q_history_h3_ends, .ref q_history_h3_colours])), (q_history_h3_ends, .inl (cI, 21, .inl f_history_h3_ends_16)), (q_history_h3_colours, .inl (cI, 21, .inl f_history_h3_colours_17)), (q_net, .inr (2, [.int f_net_knots, .int f_net_threads, .ref q_net_ends, .ref q_net_colours])), (q_net_ends, .inl (cI, 21, .inl f_net_ends)), (q_net_colours, .inl (cI, 21, .inl f_net_colours))]) (va_runS (As := [.int a1]) (rest := [.ref q_net]) ⟨hx, hb, hml, hown, hts⟩ (k_X6_builtIn l D cI cC cN bb H.size a1) (va_cwS 1 hts gX6_take_X6_builtIn rfl rfl rfl (by decide +kernel) ⟨Nat.le_of_ble_eq_true rfl, Nat.le_of_ble_eq_true rfl⟩) ⟨z_blind (sBL bb), g_prez (sBL bb) (hP.sub [] rfl) hK hN (hD.sub [] (by decide) rfl) hZ hS (va_free hD hS hA [] rfl)⟩ rfl rfl hl.1 rfl (lv_room (Nat.le_of_ble_eq_true rfl)) dX6_take_28 ⟨Nat.zero_le _, Nat.zero_le _⟩) hP hD hS hA [] [0, 1, 2, 3, 4, 5, 6, 7, 8, 9, 10, 11, 12, 13, 14, 15, 16, 17] rfl rfl (by decide) (by decide) rfl (fun H locs hP hD hS => ?_)
      obtain ⟨⟨f_net_knots_19, f_net_threads_20, f_net_ends_21, f_net_colours_22⟩, h_23, hm⟩ := bind_use hm
      refine g_kv (wc := [(q_net, .inr (2, [.int f_net_knots, .int f_net_threads, .ref q_net_ends, .ref q_net_colours])), (q_net_ends, .inl (cI, 21, .inl f_net_ends)), (q_net_colours, .inl (cI, 21, .inl f_net_colours))]) (wr := [(q, .inr (5, [.ref q_net, .ref q_draft, .ref q_snapshot, .int f_hasSnapshot, .ref q_history, .ref q_text, .ref q_painter, .ref q_covers])), (q_history, .inr (1, [.ref q_history_states, .int f_history_size_1])), (q_history_states, .inl (cN, 4, .inr (.inr (.inr (.inr (hisG q_history_h0 q_history_h1 q_history_h2 q_history_h3)))))), (q_history_h0, .inr (2, [.int f_history_h0_knots_2, .int f_history_h0_threads_3, .ref q_history_h0_ends, .ref q_history_h0_colours])), (q_history_h0_ends, .inl (cI, 21, .inl f_history_h0_ends_4)), (q_history_h0_colours, .inl (cI, 21, .inl f_history_h0_colours_5)), (q_history_h1, .inr (2, [.int f_history_h1_knots_6, .int f_history_h1_threads_7, .ref q_history_h1_ends, .ref q_history_h1_colours])), (q_history_h1_ends, .inl (cI, 21, .inl f_history_h1_ends_8)), (q_history_h1_colours, .inl (cI, 21, .inl f_history_h1_colours_9)), (q_history_h2, .inr (2, [.int f_history_h2_knots_10, .int f_history_h2_threads_11, .ref q_history_h2_ends, .ref q_history_h2_colours])), (q_history_h2_ends, .inl (cI, 21, .inl f_history_h2_ends_12)), (q_history_h2_colours, .inl (cI, 21, .inl f_history_h2_colours_13)), (q_history_h3, .inr (2, [.int f_history_h3_knots_14, .int f_history_h3_threads_15, .ref q_history_h3_ends, .ref q_history_h3_colours])), (q_history_h3_ends, .inl (cI, 21, .inl f_history_h3_ends_16)), (q_history_h3_colours, .inl (cI, 21, .inl f_history_h3_colours_17))]) (w2 := [(q, .inr (5, [.ref q_net, .ref q_draft, .ref q_snapshot, .int f_hasSnapshot, .ref q_history, .ref q_text, .ref q_painter, .ref q_covers])), (q_history, .inr (1, [.ref q_history_states, .int f_history_size_1])), (q_history_states, .inl (cN, 4, .inr (.inr (.inr (.inr (hisG q_history_h0 q_history_h1 q_history_h2 q_history_h3)))))), (q_history_h0, .inr (2, [.int f_history_h0_knots_2, .int f_history_h0_threads_3, .ref q_history_h0_ends, .ref q_history_h0_colours])), (q_history_h0_ends, .inl (cI, 21, .inl f_history_h0_ends_4)), (q_history_h0_colours, .inl (cI, 21, .inl f_history_h0_colours_5)), (q_history_h1, .inr (2, [.int f_history_h1_knots_6, .int f_history_h1_threads_7, .ref q_history_h1_ends, .ref q_history_h1_colours])), (q_history_h1_ends, .inl (cI, 21, .inl f_history_h1_ends_8)), (q_history_h1_colours, .inl (cI, 21, .inl f_history_h1_colours_9)), (q_history_h2, .inr (2, [.int f_history_h2_knots_10, .int f_history_h2_threads_11, .ref q_history_h2_ends, .ref q_history_h2_colours])), (q_history_h2_ends, .inl (cI, 21, .inl f_history_h2_ends_12)), (q_history_h2_colours, .inl (cI, 21, .inl f_history_h2_colours_13)), (q_history_h3, .inr (2, [.int f_history_h3_knots_14, .int f_history_h3_threads_15, .ref q_history_h3_ends, .ref q_history_h3_colours])), (q_history_h3_ends, .inl (cI, 21, .inl f_history_h3_ends_16)), (q_history_h3_colours, .inl (cI, 21, .inl f_history_h3_colours_17)), (q_net, .inr (2, [.int f_net_knots_19, .int f_net_threads_20, .ref q_net_ends, .ref q_net_colours])), (q_net_ends, .inl (cI, 21, .inl f_net_ends_21)), (q_net_colours, .inl (cI, 21, .inl f_net_colours_22))]) (va_runV (As := [.ref (bb (selB a1))]) (rest := []) ⟨hx, hb, hml, hown, hts⟩ (kT_X2_build l D cI cC cN N q_net q_net_ends q_net_colours (bb (selB a1)) (lnB (selB a1)) H.size f_net_knots f_net_threads f_net_ends f_net_colours (elB (selB a1)) f_net_knots_19 f_net_threads_20 f_net_ends_21 f_net_colours_22 h_23) (cwV 1 hts gX6_take_X2_build rfl rfl rfl (by decide +kernel) ⟨Nat.le_of_ble_eq_true rfl, Nat.le_of_ble_eq_true rfl⟩) ⟨z_blind (z1L (bb (selB a1)) (lnB (selB a1)) (elB (selB a1))), va_recv (D := D) (ci := 2) (q0 := 15) hK hP rfl rfl, g_prez (z1L (bb (selB a1)) (lnB (selB a1)) (elB (selB a1))) (hP.sub [15, 16, 17] rfl) hK hN (hD.sub [15, 16, 17] (by decide) rfl) (hZ (selB a1) (selB_lt a1)).2 hS (va_free hD hS hA [15, 16, 17] rfl)⟩ rfl rfl hl.1 rfl (lv_room (Nat.le_of_ble_eq_true rfl)) dX6_take_31 ⟨Nat.zero_le _, Nat.zero_le _⟩) hP hD hS hA [15, 16, 17] [0, 1, 2, 3, 4, 5, 6, 7, 8, 9, 10, 11, 12, 13, 14] rfl rfl (by decide) (by decide) rfl (fun H locs hP hD hS => ?_)
      refine lv_aload_n hx hb dX6_take_34 rfl (lv_at hl 0 rfl) ?_
      refine va_get (D := D) (ci := 5) (v := .ref q_net) (C := RX6) (T := TX6) (N := 8) hx hb hts (by decide +kernel) hown hK hP 0 rfl rfl 0 (by decide) (hts (.fieldLink RX6 12 "KnotStripes" "net" "LKnotStripes$Net;") (by decide +kernel)) (fun _ h9 => h9) rfl dX6_take_35 ?_
      obtain ⟨r_24, h_25, hm⟩ := bind_use hm
      refine g_ki (wc := [(q_net, .inr (2, [.int f_net_knots_19, .int f_net_threads_20, .ref q_net_ends, .ref q_net_colours])), (q_net_ends, .inl (cI, 21, .inl f_net_ends_21)), (q_net_colours, .inl (cI, 21, .inl f_net_colours_22))]) (wr := [(q, .inr (5, [.ref q_net, .ref q_draft, .ref q_snapshot, .int f_hasSnapshot, .ref q_history, .ref q_text, .ref q_painter, .ref q_covers])), (q_history, .inr (1, [.ref q_history_states, .int f_history_size_1])), (q_history_states, .inl (cN, 4, .inr (.inr (.inr (.inr (hisG q_history_h0 q_history_h1 q_history_h2 q_history_h3)))))), (q_history_h0, .inr (2, [.int f_history_h0_knots_2, .int f_history_h0_threads_3, .ref q_history_h0_ends, .ref q_history_h0_colours])), (q_history_h0_ends, .inl (cI, 21, .inl f_history_h0_ends_4)), (q_history_h0_colours, .inl (cI, 21, .inl f_history_h0_colours_5)), (q_history_h1, .inr (2, [.int f_history_h1_knots_6, .int f_history_h1_threads_7, .ref q_history_h1_ends, .ref q_history_h1_colours])), (q_history_h1_ends, .inl (cI, 21, .inl f_history_h1_ends_8)), (q_history_h1_colours, .inl (cI, 21, .inl f_history_h1_colours_9)), (q_history_h2, .inr (2, [.int f_history_h2_knots_10, .int f_history_h2_threads_11, .ref q_history_h2_ends, .ref q_history_h2_colours])), (q_history_h2_ends, .inl (cI, 21, .inl f_history_h2_ends_12)), (q_history_h2_colours, .inl (cI, 21, .inl f_history_h2_colours_13)), (q_history_h3, .inr (2, [.int f_history_h3_knots_14, .int f_history_h3_threads_15, .ref q_history_h3_ends, .ref q_history_h3_colours])), (q_history_h3_ends, .inl (cI, 21, .inl f_history_h3_ends_16)), (q_history_h3_colours, .inl (cI, 21, .inl f_history_h3_colours_17))]) (w2 := [(q, .inr (5, [.ref q_net, .ref q_draft, .ref q_snapshot, .int f_hasSnapshot, .ref q_history, .ref q_text, .ref q_painter, .ref q_covers])), (q_history, .inr (1, [.ref q_history_states, .int f_history_size_1])), (q_history_states, .inl (cN, 4, .inr (.inr (.inr (.inr (hisG q_history_h0 q_history_h1 q_history_h2 q_history_h3)))))), (q_history_h0, .inr (2, [.int f_history_h0_knots_2, .int f_history_h0_threads_3, .ref q_history_h0_ends, .ref q_history_h0_colours])), (q_history_h0_ends, .inl (cI, 21, .inl f_history_h0_ends_4)), (q_history_h0_colours, .inl (cI, 21, .inl f_history_h0_colours_5)), (q_history_h1, .inr (2, [.int f_history_h1_knots_6, .int f_history_h1_threads_7, .ref q_history_h1_ends, .ref q_history_h1_colours])), (q_history_h1_ends, .inl (cI, 21, .inl f_history_h1_ends_8)), (q_history_h1_colours, .inl (cI, 21, .inl f_history_h1_colours_9)), (q_history_h2, .inr (2, [.int f_history_h2_knots_10, .int f_history_h2_threads_11, .ref q_history_h2_ends, .ref q_history_h2_colours])), (q_history_h2_ends, .inl (cI, 21, .inl f_history_h2_ends_12)), (q_history_h2_colours, .inl (cI, 21, .inl f_history_h2_colours_13)), (q_history_h3, .inr (2, [.int f_history_h3_knots_14, .int f_history_h3_threads_15, .ref q_history_h3_ends, .ref q_history_h3_colours])), (q_history_h3_ends, .inl (cI, 21, .inl f_history_h3_ends_16)), (q_history_h3_colours, .inl (cI, 21, .inl f_history_h3_colours_17)), (q_net, .inr (2, [.int f_net_knots_19, .int f_net_threads_20, .ref q_net_ends, .ref q_net_colours])), (q_net_ends, .inl (cI, 21, .inl f_net_ends_21)), (q_net_colours, .inl (cI, 21, .inl f_net_colours_22))]) (va_runV (As := []) (rest := []) ⟨hx, hb, hml, hown, hts⟩ (k_X2_knots l D cI cC cN N q_net q_net_ends q_net_colours H.size f_net_knots_19 f_net_threads_20 f_net_ends_21 f_net_colours_22 r_24 h_25) (cwV 0 hts gX6_take_X2_knots rfl rfl rfl (by decide +kernel) ⟨Nat.le_of_ble_eq_true rfl, Nat.le_of_ble_eq_true rfl⟩) ⟨g_blind, va_recv (D := D) (ci := 2) (q0 := 15) hK hP rfl rfl, g_pre (hP.sub [15, 16, 17] rfl) hK hN (hD.sub [15, 16, 17] (by decide) rfl)⟩ rfl rfl hl.1 rfl (lv_room (Nat.le_of_ble_eq_true rfl)) dX6_take_38 ⟨Nat.zero_le _, Nat.zero_le _⟩) hP hD hS hA [15, 16, 17] [0, 1, 2, 3, 4, 5, 6, 7, 8, 9, 10, 11, 12, 13, 14] rfl rfl (by decide) (by decide) rfl (fun H locs hP hD hS => ?_)
      have z1 := so_use hm
      obtain ⟨y1, z2⟩ := pr_use z1
      obtain ⟨y2, z3⟩ := pr_use z2
      obtain ⟨y3, z4⟩ := pr_use z3
      obtain ⟨y4, z5⟩ := pr_use z4
      obtain ⟨y5, z6⟩ := pr_use z5
      obtain ⟨y6, z7⟩ := pr_use z6
      obtain ⟨y7, z8⟩ := pr_use z7
      obtain ⟨y8, z9⟩ := pr_use z8
      obtain ⟨y9, z10⟩ := pr_use z9
      obtain ⟨y10, z11⟩ := pr_use z10
      obtain ⟨y11, z12⟩ := pr_use z11
      obtain ⟨y12, z13⟩ := pr_use z12
      obtain ⟨y13, z14⟩ := pr_use z13
      obtain ⟨y14, z15⟩ := pr_use z14
      obtain ⟨y15, z16⟩ := pr_use z15
      obtain ⟨y16, z17⟩ := pr_use z16
      obtain ⟨y17, z18⟩ := pr_use z17
      obtain ⟨y18, z19⟩ := pr_use z18
      obtain ⟨y19, z20⟩ := pr_use z19
      obtain ⟨y20, z21⟩ := pr_use z20
      obtain ⟨y21, z22⟩ := pr_use z21
      subst y1
      subst y2
      subst y3
      subst y4
      subst y5
      subst y6
      subst y7
      subst y8
      subst y9
      subst y10
      subst y11
      subst y12
      subst y13
      subst y14
      subst y15
      subst y16
      subst y17
      subst y18
      subst y19
      subst y20
      subst y21
      subst z22
      exact hret _ _ _ _ _ dX6_take_41 rfl rfl (hP.sub [0, 15, 16, 17, 1, 2, 3, 4, 5, 6, 7, 8, 9, 10, 11, 12, 13, 14] rfl) (hD.sub [0, 15, 16, 17, 1, 2, 3, 4, 5, 6, 7, 8, 9, 10, 11, 12, 13, 14] (by decide) rfl) hS
    · have hm := if_f _ hc hm
      refine lv_bipush (v := (-2)) hx hb dX6_take_9 (by decide) ?_
      have z1 := so_use hm
      obtain ⟨y1, z2⟩ := pr_use z1
      obtain ⟨y2, z3⟩ := pr_use z2
      obtain ⟨y3, z4⟩ := pr_use z3
      obtain ⟨y4, z5⟩ := pr_use z4
      obtain ⟨y5, z6⟩ := pr_use z5
      obtain ⟨y6, z7⟩ := pr_use z6
      obtain ⟨y7, z8⟩ := pr_use z7
      obtain ⟨y8, z9⟩ := pr_use z8
      obtain ⟨y9, z10⟩ := pr_use z9
      obtain ⟨y10, z11⟩ := pr_use z10
      obtain ⟨y11, z12⟩ := pr_use z11
      obtain ⟨y12, z13⟩ := pr_use z12
      obtain ⟨y13, z14⟩ := pr_use z13
      obtain ⟨y14, z15⟩ := pr_use z14
      obtain ⟨y15, z16⟩ := pr_use z15
      obtain ⟨y16, z17⟩ := pr_use z16
      obtain ⟨y17, z18⟩ := pr_use z17
      obtain ⟨y18, z19⟩ := pr_use z18
      obtain ⟨y19, z20⟩ := pr_use z19
      obtain ⟨y20, z21⟩ := pr_use z20
      obtain ⟨y21, z22⟩ := pr_use z21
      subst y1
      subst y2
      subst y3
      subst y4
      subst y5
      subst y6
      subst y7
      subst y8
      subst y9
      subst y10
      subst y11
      subst y12
      subst y13
      subst y14
      subst y15
      subst y16
      subst y17
      subst y18
      subst y19
      subst y20
      subst y21
      subst z22
      exact hret _ _ _ _ _ dX6_take_11 rfl rfl hP hD hS
