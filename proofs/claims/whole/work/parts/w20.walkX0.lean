abbrev rX0_size : Room := { frames := 0, cells := 0, slots := 0, locals := 0 }
set_option maxHeartbeats 4000000 in
set_option maxRecDepth 100000 in
theorem k_X0_size (l : Launch) (D : va_G) (cI cC cN : ClassId) (N : Nat) (q : Nat) (q_found : Nat) (q_before : Nat) (sz : Nat) (f_found : Nat → Int32) (f_size : Int32) (f_before : Nat → Int32) (f_circles : Int32) (f_oddCircles : Int32) (f_longest : Int32) (r : Int32) (hm : m_X0_size N f_size = some r) : Met l yX0_size wsX0_size (rX0_size) (gPc D (tysG cI cC cN) [.ref q] [(q, .inr (0, [.ref q_found, .int f_size, .ref q_before, .int f_circles, .int f_oddCircles, .int f_longest])), (q_found, .inl (cI, 80, .inl f_found)), (q_before, .inl (cI, 21, .inl f_before))] sz) (gQi D (tysG cI cC cN) (va_A [(q, .inr (0, [.ref q_found, .int f_size, .ref q_before, .int f_circles, .int f_oddCircles, .int f_longest])), (q_found, .inl (cI, 80, .inl f_found)), (q_before, .inl (cI, 21, .inl f_before))] sz) [(q, .inr (0, [.ref q_found, .int f_size, .ref q_before, .int f_circles, .int f_oddCircles, .int f_longest])), (q_found, .inl (cI, 80, .inl f_found)), (q_before, .inl (cI, 21, .inl f_before))] r) 0 0 (va_A [(q, .inr (0, [.ref q_found, .int f_size, .ref q_before, .int f_circles, .int f_oddCircles, .int f_longest])), (q_found, .inl (cI, 80, .inl f_found)), (q_before, .inl (cI, 21, .inl f_before))] sz) := by
  unfold m_X0_size at hm
  refine g_openI (cc := cX0_size) (maxL := 1) (own := RX0) (by decide) rfl rfl (Nat.le_of_ble_eq_true rfl) ?_
  intro p e s m args below meth c A Q hx hb hml hown hts hP hK hN hD hA hret ls hl
  have hS : va_S A s.heap s.heap [] := va_S.rf
  have hl : lv_has ls 1 [(0, .ref q)] := hl
  refine lv_aload_n hx hb dX0_size_0 rfl (lv_at hl 0 rfl) ?_
  refine va_get (D := D) (ci := 0) (v := .int f_size) (C := RX0) (T := TX0) (N := 6) hx hb hts (by decide +kernel) hown hK hP 0 rfl rfl 1 (by decide) (hts (.fieldLink RX0 18 "KnotStripes$Covers" "size" "I") (by decide +kernel)) (fun _ h9 => h9) rfl dX0_size_1 ?_
  have z1 := so_use hm
  subst z1
  exact hret _ _ _ _ _ dX0_size_4 rfl rfl hP hD hS
abbrev rX6_at : Room := { frames := 0, cells := 0, slots := 0, locals := 0 }
set_option maxHeartbeats 4000000 in
set_option maxRecDepth 100000 in
theorem k_X6_at (l : Launch) (D : va_G) (cI cC cN : ClassId) (N : Nat) (q_p0 : Nat) (n_p0 : Nat) (sz : Nat) (f_p0 : Nat → Int32) (a1 : Int32) (r : Int32) (hm : m_X6_at N n_p0 f_p0 a1 = some r) : Met l yX6_at wsX6_at (rX6_at) (gPc D (tysG cI cC cN) [.ref q_p0, .int a1] [(q_p0, .inl (cI, n_p0, .inl f_p0))] sz) (gQi D (tysG cI cC cN) (va_A [(q_p0, .inl (cI, n_p0, .inl f_p0))] sz) [(q_p0, .inl (cI, n_p0, .inl f_p0))] r) 0 0 (va_A [(q_p0, .inl (cI, n_p0, .inl f_p0))] sz) := by
  unfold m_X6_at at hm
  refine g_openI (cc := cX6_at) (maxL := 2) (own := RX6) (by decide) rfl rfl (Nat.le_of_ble_eq_true rfl) ?_
  intro p e s m args below meth c A Q hx hb hml hown hts hP hK hN hD hA hret ls hl
  have hS : va_S A s.heap s.heap [] := va_S.rf
  have hl : lv_has ls 2 [(0, .ref q_p0), (1, .int a1)] := hl
  refine lv_iload_n hx hb dX6_at_0 rfl (lv_at hl 1 rfl) ?_
  refine lv_if_lt (tgt := 16) hx hb dX6_at_1 (by decide) (fun hc => ?_) (fun hc => ?_)
  · have hm := if_t _ hc hm
    refine lv_iconst (v := 0) hx hb dX6_at_16 (by decide) ?_
    have z1 := so_use hm
    subst z1
    exact hret _ _ _ _ _ dX6_at_17 rfl rfl hP hD hS
  · have hm := if_f _ hc hm
    refine lv_iload_n hx hb dX6_at_4 rfl (lv_at hl 1 rfl) ?_
    refine lv_aload_n hx hb dX6_at_5 rfl (lv_at hl 0 rfl) ?_
    refine va_alen (D := D) (v := (Int32.ofNat n_p0)) hx hb hK hP 0 0 rfl rfl rfl dX6_at_6 ?_
    refine lv_icmp_ge (tgt := 16) hx hb dX6_at_7 (by decide) (fun hc => ?_) (fun hc => ?_)
    · have hm := if_t _ hc hm
      refine lv_iconst (v := 0) hx hb dX6_at_16 (by decide) ?_
      have z1 := so_use hm
      subst z1
      exact hret _ _ _ _ _ dX6_at_17 rfl rfl hP hD hS
    · have hm := if_f _ hc hm
      refine lv_aload_n hx hb dX6_at_10 rfl (lv_at hl 0 rfl) ?_
      refine lv_iload_n hx hb dX6_at_11 rfl (lv_at hl 1 rfl) ?_
      obtain ⟨hi_1, hm⟩ := ard_use hm
      refine va_iald (D := D) (n := n_p0) (f := f_p0) hx hb hK hP 0 0 rfl rfl hi_1 dX6_at_12 ?_
      refine lv_topi (fun u_2 eu_2 => ?_)
      have hm := nm_use eu_2 hm
      refine lv_goto (tgt := 17) hx hb dX6_at_13 (by decide) ?_
      have z1 := so_use hm
      subst z1
      exact hret _ _ _ _ _ dX6_at_17 rfl rfl hP hD hS
abbrev rX0_get : Room := { frames := 1, cells := 0, slots := 0, locals := 21 }
set_option maxHeartbeats 4000000 in
set_option maxRecDepth 100000 in
theorem k_X0_get (l : Launch) (D : va_G) (cI cC cN : ClassId) (N : Nat) (q : Nat) (q_found : Nat) (q_before : Nat) (sz : Nat) (f_found : Nat → Int32) (f_size : Int32) (f_before : Nat → Int32) (f_circles : Int32) (f_oddCircles : Int32) (f_longest : Int32) (a1 : Int32) (r : Int32) (hm : m_X0_get N f_found a1 = some r) : Met l yX0_get wsX0_get (rX0_get) (gPc D (tysG cI cC cN) [.ref q, .int a1] [(q, .inr (0, [.ref q_found, .int f_size, .ref q_before, .int f_circles, .int f_oddCircles, .int f_longest])), (q_found, .inl (cI, 80, .inl f_found)), (q_before, .inl (cI, 21, .inl f_before))] sz) (gQi D (tysG cI cC cN) (va_A [(q, .inr (0, [.ref q_found, .int f_size, .ref q_before, .int f_circles, .int f_oddCircles, .int f_longest])), (q_found, .inl (cI, 80, .inl f_found)), (q_before, .inl (cI, 21, .inl f_before))] sz) [(q, .inr (0, [.ref q_found, .int f_size, .ref q_before, .int f_circles, .int f_oddCircles, .int f_longest])), (q_found, .inl (cI, 80, .inl f_found)), (q_before, .inl (cI, 21, .inl f_before))] r) 0 0 (va_A [(q, .inr (0, [.ref q_found, .int f_size, .ref q_before, .int f_circles, .int f_oddCircles, .int f_longest])), (q_found, .inl (cI, 80, .inl f_found)), (q_before, .inl (cI, 21, .inl f_before))] sz) := by
  unfold m_X0_get at hm
  refine g_openI (cc := cX0_get) (maxL := 2) (own := RX0) (by decide) rfl rfl (Nat.le_of_ble_eq_true rfl) ?_
  intro p e s m args below meth c A Q hx hb hml hown hts hP hK hN hD hA hret ls hl
  have hS : va_S A s.heap s.heap [] := va_S.rf
  have hl : lv_has ls 2 [(0, .ref q), (1, .int a1)] := hl
  refine lv_aload_n hx hb dX0_get_0 rfl (lv_at hl 0 rfl) ?_
  refine va_get (D := D) (ci := 0) (v := .ref q_found) (C := RX0) (T := TX0) (N := 6) hx hb hts (by decide +kernel) hown hK hP 0 rfl rfl 0 (by decide) (hts (.fieldLink RX0 9 "KnotStripes$Covers" "found" "[I") (by decide +kernel)) (fun _ h9 => h9) rfl dX0_get_1 ?_
  refine lv_iload_n hx hb dX0_get_4 rfl (lv_at hl 1 rfl) ?_
  obtain ⟨r_1, h_2, hm⟩ := bind_use hm
  refine g_ki (wc := [(q_found, .inl (cI, 80, .inl f_found))]) (wr := [(q, .inr (0, [.ref q_found, .int f_size, .ref q_before, .int f_circles, .int f_oddCircles, .int f_longest])), (q_before, .inl (cI, 21, .inl f_before))]) (w2 := [(q, .inr (0, [.ref q_found, .int f_size, .ref q_before, .int f_circles, .int f_oddCircles, .int f_longest])), (q_before, .inl (cI, 21, .inl f_before)), (q_found, .inl (cI, 80, .inl f_found))]) (va_runSN (As := [.ref q_found, .int a1]) (rest := []) ⟨hx, hb, hml, hown, hts⟩ (k_X6_at l D cI cC cN N q_found 80 s.heap.size f_found a1 r_1 h_2) ⟨va_cnB 2 hts gX0_get_X6_at_n31 rfl rfl rfl (hN (.methodLinkNest RX0 31 yX6_at RX6) (by decide +kernel)) (hts (.initialized RX6) (by decide +kernel)) (by decide +kernel) ⟨Nat.le_of_ble_eq_true rfl, Nat.le_of_ble_eq_true rfl⟩, hts (.static yX6_at) (by decide +kernel), trivial⟩ ⟨g_blind, g_pre (hP.sub [1] rfl) hK hN (hD.sub [1] (by decide) rfl)⟩ rfl rfl hl.1 rfl (lv_room (Nat.le_of_ble_eq_true rfl)) dX0_get_5 ⟨Nat.zero_le _, Nat.zero_le _⟩) hP hD hS hA [1] [0, 2] rfl rfl (by decide) (by decide) rfl (fun H locs hP hD hS => ?_)
  have z1 := so_use hm
  subst z1
  exact hret _ _ _ _ _ dX0_get_8 rfl rfl (hP.sub [0, 2, 1] rfl) (hD.sub [0, 2, 1] (by decide) rfl) hS
abbrev rX6_holds : Room := { frames := 0, cells := 0, slots := 0, locals := 0 }
set_option maxHeartbeats 4000000 in
set_option maxRecDepth 100000 in
theorem k_X6_holds (l : Launch) (D : va_G) (cI cC cN : ClassId) (N : Nat) (sz : Nat) (a0 : Int32) (a1 : Int32) (r : Int32) (hm : m_X6_holds N a0 a1 = some r) : Met l yX6_holds wsX6_holds (rX6_holds) (gPc D (tysG cI cC cN) [.int a0, .int a1] [] sz) (gQi D (tysG cI cC cN) (va_A [] sz) [] r) 0 0 (va_A [] sz) := by
  unfold m_X6_holds at hm
  refine g_openI (cc := cX6_holds) (maxL := 2) (own := RX6) (by decide) rfl rfl (Nat.le_of_ble_eq_true rfl) ?_
  intro p e s m args below meth c A Q hx hb hml hown hts hP hK hN hD hA hret ls hl
  have hS : va_S A s.heap s.heap [] := va_S.rf
  have hl : lv_has ls 2 [(0, .int a0), (1, .int a1)] := hl
  refine lv_iload_n hx hb dX6_holds_0 rfl (lv_at hl 0 rfl) ?_
  refine lv_iload_n hx hb dX6_holds_1 rfl (lv_at hl 1 rfl) ?_
  refine gv_ishr hx hb dX6_holds_2 ?_
  refine lv_iconst (v := 1) hx hb dX6_holds_3 (by decide) ?_
  refine lv_iand hx hb dX6_holds_4 ?_
  refine lv_if_eq (tgt := 12) hx hb dX6_holds_5 (by decide) (fun hc => ?_) (fun hc => ?_)
  · have hm := if_t _ hc hm
    refine lv_iconst (v := 0) hx hb dX6_holds_12 (by decide) ?_
    have z1 := so_use hm
    subst z1
    exact hret _ _ _ _ _ dX6_holds_13 rfl rfl hP hD hS
  · have hm := if_f _ hc hm
    refine lv_iconst (v := 1) hx hb dX6_holds_8 (by decide) ?_
    refine lv_goto (tgt := 13) hx hb dX6_holds_9 (by decide) ?_
    have z1 := so_use hm
    subst z1
    exact hret _ _ _ _ _ dX6_holds_13 rfl rfl hP hD hS
abbrev rX0_howManyHold : Room := { frames := 2, cells := 0, slots := 0, locals := 42 }
set_option maxHeartbeats 4000000 in
set_option maxRecDepth 100000 in
theorem k_X0_howManyHold (l : Launch) (D : va_G) (cI cC cN : ClassId) (N : Nat) (q : Nat) (q_found : Nat) (q_before : Nat) (sz : Nat) (f_found : Nat → Int32) (f_size : Int32) (f_before : Nat → Int32) (f_circles : Int32) (f_oddCircles : Int32) (f_longest : Int32) (a1 : Int32) (r : Int32) (hm : m_X0_howManyHold N f_found f_size a1 = some r) : Met l yX0_howManyHold wsX0_howManyHold (rX0_howManyHold) (gPc D (tysG cI cC cN) [.ref q, .int a1] [(q, .inr (0, [.ref q_found, .int f_size, .ref q_before, .int f_circles, .int f_oddCircles, .int f_longest])), (q_found, .inl (cI, 80, .inl f_found)), (q_before, .inl (cI, 21, .inl f_before))] sz) (gQi D (tysG cI cC cN) (va_A [(q, .inr (0, [.ref q_found, .int f_size, .ref q_before, .int f_circles, .int f_oddCircles, .int f_longest])), (q_found, .inl (cI, 80, .inl f_found)), (q_before, .inl (cI, 21, .inl f_before))] sz) [(q, .inr (0, [.ref q_found, .int f_size, .ref q_before, .int f_circles, .int f_oddCircles, .int f_longest])), (q_found, .inl (cI, 80, .inl f_found)), (q_before, .inl (cI, 21, .inl f_before))] r) 0 0 (va_A [(q, .inr (0, [.ref q_found, .int f_size, .ref q_before, .int f_circles, .int f_oddCircles, .int f_longest])), (q_found, .inl (cI, 80, .inl f_found)), (q_before, .inl (cI, 21, .inl f_before))] sz) := by
  unfold m_X0_howManyHold at hm
  refine g_openI (cc := cX0_howManyHold) (maxL := 4) (own := RX0) (by decide) rfl rfl (Nat.le_of_ble_eq_true rfl) ?_
  intro p e s m args below meth c A Q hx hb hml hown hts hP hK hN hD hA hret ls hl
  have hS : va_S A s.heap s.heap [] := va_S.rf
  have hl : lv_has ls 4 [(0, .ref q), (1, .int a1)] := hl
  refine lv_iconst (v := 0) hx hb dX0_howManyHold_0 (by decide) ?_
  refine lv_istore_n (lv' := [(2, .int 0), (0, .ref q), (1, .int a1)]) hx hb dX0_howManyHold_1 rfl hl (by decide) rfl (fun ls hl => ?_)
  refine lv_iconst (v := 0) hx hb dX0_howManyHold_2 (by decide) ?_
  refine lv_istore_n (lv' := [(3, .int 0), (2, .int 0), (0, .ref q), (1, .int a1)]) hx hb dX0_howManyHold_3 rfl hl (by decide) rfl (fun ls hl => ?_)
  have l4 : ∀ (n_4 : Nat) (x3_1 : Int32) (x2_2 : Int32), ∀ (H : Heap) (locs : List Loc) (ls : Array Slot), va_P D vwCl [(q, .inr (0, [.ref q_found, .int f_size, .ref q_before, .int f_circles, .int f_oddCircles, .int f_longest])), (q_found, .inl (cI, 80, .inl f_found)), (q_before, .inl (cI, 21, .inl f_before))] H → va_D A [(q, .inr (0, [.ref q_found, .int f_size, .ref q_before, .int f_circles, .int f_oddCircles, .int f_longest])), (q_found, .inl (cI, 80, .inl f_found)), (q_before, .inl (cI, 21, .inl f_before))] → va_S A s.heap H locs → lv_has ls 4 [(3, .int x3_1), (2, .int x2_2), (0, .ref q), (1, .int a1)] → m_X0_howManyHold_L4 N f_found f_size a1 n_4 x3_1 x2_2 = some r → W p l e rX0_howManyHold s m args below meth c H locs 0 0 Q (F0 m 4 ls []) := by
    intro n_4
    induction n_4 with
    | zero => intro x3_1 x2_2 H locs ls hP hD hS hl hm; rw [m_X0_howManyHold_L4] at hm; exact no_use hm
    | succ n_4 ih4 =>
      intro x3_1 x2_2 H locs ls hP hD hS hl hm
      rw [m_X0_howManyHold_L4] at hm
      refine lv_iload_n hx hb dX0_howManyHold_4 rfl (lv_at hl 0 rfl) ?_
      refine lv_aload_n hx hb dX0_howManyHold_5 rfl (lv_at hl 2 rfl) ?_
      refine va_get (D := D) (ci := 0) (v := .int f_size) (C := RX0) (T := TX0) (N := 6) hx hb hts (by decide +kernel) hown hK hP 0 rfl rfl 1 (by decide) (hts (.fieldLink RX0 18 "KnotStripes$Covers" "size" "I") (by decide +kernel)) (fun _ h9 => h9) rfl dX0_howManyHold_6 ?_
      refine lv_icmp_ge (tgt := 33) hx hb dX0_howManyHold_9 (by decide) (fun hc => ?_) (fun hc => ?_)
      · have hm := if_t _ hc hm
        refine lv_iload_n hx hb dX0_howManyHold_33 rfl (lv_at hl 1 rfl) ?_
        have z1 := so_use hm
        subst z1
        exact hret _ _ _ _ _ dX0_howManyHold_34 rfl rfl hP hD hS
      · have hm := if_f _ hc hm
        refine lv_aload_n hx hb dX0_howManyHold_12 rfl (lv_at hl 2 rfl) ?_
        refine lv_iload_n hx hb dX0_howManyHold_13 rfl (lv_at hl 0 rfl) ?_
        obtain ⟨r_3, h_4, hm⟩ := bind_use hm
        refine g_ki (wc := [(q, .inr (0, [.ref q_found, .int f_size, .ref q_before, .int f_circles, .int f_oddCircles, .int f_longest])), (q_found, .inl (cI, 80, .inl f_found)), (q_before, .inl (cI, 21, .inl f_before))]) (wr := []) (w2 := [(q, .inr (0, [.ref q_found, .int f_size, .ref q_before, .int f_circles, .int f_oddCircles, .int f_longest])), (q_found, .inl (cI, 80, .inl f_found)), (q_before, .inl (cI, 21, .inl f_before))]) (va_runV (As := [.int x3_1]) (rest := []) ⟨hx, hb, hml, hown, hts⟩ (k_X0_get l D cI cC cN N q q_found q_before H.size f_found f_size f_before f_circles f_oddCircles f_longest x3_1 r_3 h_4) (cwV 1 hts gX0_howManyHold_X0_get rfl rfl rfl (by decide +kernel) ⟨Nat.le_of_ble_eq_true rfl, Nat.le_of_ble_eq_true rfl⟩) ⟨g_blind, va_recv (D := D) (ci := 0) (q0 := 0) hK hP rfl rfl, g_pre (hP.sub [0, 1, 2] rfl) hK hN (hD.sub [0, 1, 2] (by decide) rfl)⟩ rfl rfl hl.1 rfl (lv_room (Nat.le_of_ble_eq_true rfl)) dX0_howManyHold_14 ⟨Nat.zero_le _, Nat.zero_le _⟩) hP hD hS hA [0, 1, 2] [] rfl rfl (by decide) (by decide) rfl (fun H locs hP hD hS => ?_)
        refine lv_iload_n hx hb dX0_howManyHold_17 rfl (lv_at hl 3 rfl) ?_
        obtain ⟨r_5, h_6, hm⟩ := bind_use hm
        refine g_ki (wc := []) (wr := [(q, .inr (0, [.ref q_found, .int f_size, .ref q_before, .int f_circles, .int f_oddCircles, .int f_longest])), (q_found, .inl (cI, 80, .inl f_found)), (q_before, .inl (cI, 21, .inl f_before))]) (w2 := [(q, .inr (0, [.ref q_found, .int f_size, .ref q_before, .int f_circles, .int f_oddCircles, .int f_longest])), (q_found, .inl (cI, 80, .inl f_found)), (q_before, .inl (cI, 21, .inl f_before))]) (va_runSN (As := [.int r_3, .int a1]) (rest := []) ⟨hx, hb, hml, hown, hts⟩ (k_X6_holds l D cI cC cN N H.size r_3 a1 r_5 h_6) ⟨va_cnB 2 hts gX0_howManyHold_X6_holds_n39 rfl rfl rfl (hN (.methodLinkNest RX0 39 yX6_holds RX6) (by decide +kernel)) (hts (.initialized RX6) (by decide +kernel)) (by decide +kernel) ⟨Nat.le_of_ble_eq_true rfl, Nat.le_of_ble_eq_true rfl⟩, hts (.static yX6_holds) (by decide +kernel), trivial⟩ ⟨g_blind, g_pre (hP.sub [] rfl) hK hN (hD.sub [] (by decide) rfl)⟩ rfl rfl hl.1 rfl (lv_room (Nat.le_of_ble_eq_true rfl)) dX0_howManyHold_18 ⟨Nat.zero_le _, Nat.zero_le _⟩) hP hD hS hA [] [0, 1, 2] rfl rfl (by decide) (by decide) rfl (fun H locs hP hD hS => ?_)
        refine lv_if_eq (tgt := 27) hx hb dX0_howManyHold_21 (by decide) (fun hc => ?_) (fun hc => ?_)
        · have hm := if_t _ hc hm
          refine lv_iinc (v := (x3_1 + 1)) (lv' := [(3, .int (x3_1 + 1)), (2, .int x2_2), (0, .ref q), (1, .int a1)]) hx hb dX0_howManyHold_27 hl (k := 0) rfl rfl (by decide) rfl (fun ls hl => ?_)
          refine lv_goto (tgt := 4) hx hb dX0_howManyHold_30 (by decide) ?_
          exact ih4 (x3_1 + 1) x2_2 _ _ _ hP hD hS hl hm
        · have hm := if_f _ hc hm
          refine lv_iinc (v := (x2_2 + 1)) (lv' := [(2, .int (x2_2 + 1)), (3, .int x3_1), (0, .ref q), (1, .int a1)]) hx hb dX0_howManyHold_24 hl (k := 1) rfl rfl (by decide) rfl (fun ls hl => ?_)
          refine lv_iinc (v := (x3_1 + 1)) (lv' := [(3, .int (x3_1 + 1)), (2, .int (x2_2 + 1)), (0, .ref q), (1, .int a1)]) hx hb dX0_howManyHold_27 hl (k := 1) rfl rfl (by decide) rfl (fun ls hl => ?_)
          refine lv_goto (tgt := 4) hx hb dX0_howManyHold_30 (by decide) ?_
          exact ih4 (x3_1 + 1) (x2_2 + 1) _ _ _ hP hD hS hl hm
  exact l4 N 0 0 _ _ _ hP hD hS hl hm
abbrev rX2_threads : Room := { frames := 0, cells := 0, slots := 0, locals := 0 }
set_option maxHeartbeats 4000000 in
set_option maxRecDepth 100000 in
theorem k_X2_threads (l : Launch) (D : va_G) (cI cC cN : ClassId) (N : Nat) (q : Nat) (q_ends : Nat) (q_colours : Nat) (sz : Nat) (f_knots : Int32) (f_threads : Int32) (f_ends : Nat → Int32) (f_colours : Nat → Int32) (r : Int32) (hm : m_X2_threads N f_threads = some r) : Met l yX2_threads wsX2_threads (rX2_threads) (gPc D (tysG cI cC cN) [.ref q] [(q, .inr (2, [.int f_knots, .int f_threads, .ref q_ends, .ref q_colours])), (q_ends, .inl (cI, 21, .inl f_ends)), (q_colours, .inl (cI, 21, .inl f_colours))] sz) (gQi D (tysG cI cC cN) (va_A [(q, .inr (2, [.int f_knots, .int f_threads, .ref q_ends, .ref q_colours])), (q_ends, .inl (cI, 21, .inl f_ends)), (q_colours, .inl (cI, 21, .inl f_colours))] sz) [(q, .inr (2, [.int f_knots, .int f_threads, .ref q_ends, .ref q_colours])), (q_ends, .inl (cI, 21, .inl f_ends)), (q_colours, .inl (cI, 21, .inl f_colours))] r) 0 0 (va_A [(q, .inr (2, [.int f_knots, .int f_threads, .ref q_ends, .ref q_colours])), (q_ends, .inl (cI, 21, .inl f_ends)), (q_colours, .inl (cI, 21, .inl f_colours))] sz) := by
  unfold m_X2_threads at hm
  refine g_openI (cc := cX2_threads) (maxL := 1) (own := RX2) (by decide) rfl rfl (Nat.le_of_ble_eq_true rfl) ?_
  intro p e s m args below meth c A Q hx hb hml hown hts hP hK hN hD hA hret ls hl
  have hS : va_S A s.heap s.heap [] := va_S.rf
  have hl : lv_has ls 1 [(0, .ref q)] := hl
  refine lv_aload_n hx hb dX2_threads_0 rfl (lv_at hl 0 rfl) ?_
  refine va_get (D := D) (ci := 2) (v := .int f_threads) (C := RX2) (T := TX2) (N := 4) hx hb hts (by decide +kernel) hown hK hP 0 rfl rfl 1 (by decide) (hts (.fieldLink RX2 15 "KnotStripes$Net" "threads" "I") (by decide +kernel)) (fun _ h9 => h9) rfl dX2_threads_1 ?_
  have z1 := so_use hm
  subst z1
  exact hret _ _ _ _ _ dX2_threads_4 rfl rfl hP hD hS
abbrev rX6_put : Room := { frames := 0, cells := 0, slots := 0, locals := 0 }
set_option maxHeartbeats 4000000 in
set_option maxRecDepth 100000 in
theorem k_X6_put (l : Launch) (D : va_G) (cI cC cN : ClassId) (N : Nat) (q_p0 : Nat) (n_p0 : Nat) (sz : Nat) (f_p0 : Nat → Int32) (a1 : Int32) (a2 : Int32) (f_p0' : Nat → Int32) (hm : m_X6_put N n_p0 f_p0 a1 a2 = some f_p0') : Met l yX6_put wsX6_put (rX6_put) (gPc D (tysG cI cC cN) [.ref q_p0, .int a1, .int a2] [(q_p0, .inl (cI, n_p0, .inl f_p0))] sz) (gQv D (tysG cI cC cN) (va_A [(q_p0, .inl (cI, n_p0, .inl f_p0))] sz) [(q_p0, .inl (cI, n_p0, .inl f_p0'))]) 0 0 (va_A [(q_p0, .inl (cI, n_p0, .inl f_p0))] sz) := by
  unfold m_X6_put at hm
  refine g_openV (cc := cX6_put) (maxL := 3) (own := RX6) (by decide) rfl rfl (Nat.le_of_ble_eq_true rfl) ?_
  intro p e s m args below meth c A Q hx hb hml hown hts hP hK hN hD hA hret ls hl
  have hS : va_S A s.heap s.heap [] := va_S.rf
  have hl : lv_has ls 3 [(0, .ref q_p0), (1, .int a1), (2, .int a2)] := hl
  refine lv_iload_n hx hb dX6_put_0 rfl (lv_at hl 1 rfl) ?_
  refine lv_if_lt (tgt := 14) hx hb dX6_put_1 (by decide) (fun hc => ?_) (fun hc => ?_)
  · have hm := if_t _ hc hm
    have z1 := so_use hm
    subst z1
    exact hret _ _ _ _ dX6_put_14 hP hD hS
  · have hm := if_f _ hc hm
    refine lv_iload_n hx hb dX6_put_4 rfl (lv_at hl 1 rfl) ?_
    refine lv_aload_n hx hb dX6_put_5 rfl (lv_at hl 0 rfl) ?_
    refine va_alen (D := D) (v := (Int32.ofNat n_p0)) hx hb hK hP 0 0 rfl rfl rfl dX6_put_6 ?_
    refine lv_icmp_ge (tgt := 14) hx hb dX6_put_7 (by decide) (fun hc => ?_) (fun hc => ?_)
    · have hm := if_t _ hc hm
      have z1 := so_use hm
      subst z1
      exact hret _ _ _ _ dX6_put_14 hP hD hS
    · have hm := if_f _ hc hm
      refine lv_aload_n hx hb dX6_put_10 rfl (lv_at hl 0 rfl) ?_
      refine lv_iload_n hx hb dX6_put_11 rfl (lv_at hl 1 rfl) ?_
      refine lv_iload_n hx hb dX6_put_12 rfl (lv_at hl 2 rfl) ?_
      obtain ⟨hi_1, hm⟩ := awr_use hm
      refine va_iast (D := D) (n := n_p0) (f := f_p0) hx hb hK hP hD hS 0 0 rfl rfl hi_1 dX6_put_13 (fun H locs hP hD hS => ?_)
      obtain ⟨f_p0_2, ef_p0_2⟩ : ∃ z, z = (upd f_p0 (Int32.toNatClampNeg a1) a2) := ⟨_, rfl⟩
      have hm := nm_use ef_p0_2 hm
      rw [← ef_p0_2] at hP hD
      have hP : va_P D vwCl [(q_p0, .inl (cI, n_p0, .inl f_p0_2))] H := hP
      have hD : va_D A [(q_p0, .inl (cI, n_p0, .inl f_p0_2))] := hD
      have z1 := so_use hm
      subst z1
      exact hret _ _ _ _ dX6_put_14 hP hD hS
abbrev rX2_ends : Room := { frames := 1, cells := 0, slots := 0, locals := 21 }
set_option maxHeartbeats 4000000 in
set_option maxRecDepth 100000 in
theorem k_X2_ends (l : Launch) (D : va_G) (cI cC cN : ClassId) (N : Nat) (q : Nat) (q_ends : Nat) (q_colours : Nat) (sz : Nat) (f_knots : Int32) (f_threads : Int32) (f_ends : Nat → Int32) (f_colours : Nat → Int32) (a1 : Int32) (r : Int32) (hm : m_X2_ends N f_ends a1 = some r) : Met l yX2_ends wsX2_ends (rX2_ends) (gPc D (tysG cI cC cN) [.ref q, .int a1] [(q, .inr (2, [.int f_knots, .int f_threads, .ref q_ends, .ref q_colours])), (q_ends, .inl (cI, 21, .inl f_ends)), (q_colours, .inl (cI, 21, .inl f_colours))] sz) (gQi D (tysG cI cC cN) (va_A [(q, .inr (2, [.int f_knots, .int f_threads, .ref q_ends, .ref q_colours])), (q_ends, .inl (cI, 21, .inl f_ends)), (q_colours, .inl (cI, 21, .inl f_colours))] sz) [(q, .inr (2, [.int f_knots, .int f_threads, .ref q_ends, .ref q_colours])), (q_ends, .inl (cI, 21, .inl f_ends)), (q_colours, .inl (cI, 21, .inl f_colours))] r) 0 0 (va_A [(q, .inr (2, [.int f_knots, .int f_threads, .ref q_ends, .ref q_colours])), (q_ends, .inl (cI, 21, .inl f_ends)), (q_colours, .inl (cI, 21, .inl f_colours))] sz) := by
  unfold m_X2_ends at hm
  refine g_openI (cc := cX2_ends) (maxL := 2) (own := RX2) (by decide) rfl rfl (Nat.le_of_ble_eq_true rfl) ?_
  intro p e s m args below meth c A Q hx hb hml hown hts hP hK hN hD hA hret ls hl
  have hS : va_S A s.heap s.heap [] := va_S.rf
  have hl : lv_has ls 2 [(0, .ref q), (1, .int a1)] := hl
  refine lv_aload_n hx hb dX2_ends_0 rfl (lv_at hl 0 rfl) ?_
  refine va_get (D := D) (ci := 2) (v := .ref q_ends) (C := RX2) (T := TX2) (N := 4) hx hb hts (by decide +kernel) hown hK hP 0 rfl rfl 2 (by decide) (hts (.fieldLink RX2 18 "KnotStripes$Net" "ends" "[I") (by decide +kernel)) (fun _ h9 => h9) rfl dX2_ends_1 ?_
  refine lv_iload_n hx hb dX2_ends_4 rfl (lv_at hl 1 rfl) ?_
  obtain ⟨r_1, h_2, hm⟩ := bind_use hm
  refine g_ki (wc := [(q_ends, .inl (cI, 21, .inl f_ends))]) (wr := [(q, .inr (2, [.int f_knots, .int f_threads, .ref q_ends, .ref q_colours])), (q_colours, .inl (cI, 21, .inl f_colours))]) (w2 := [(q, .inr (2, [.int f_knots, .int f_threads, .ref q_ends, .ref q_colours])), (q_colours, .inl (cI, 21, .inl f_colours)), (q_ends, .inl (cI, 21, .inl f_ends))]) (va_runSN (As := [.ref q_ends, .int a1]) (rest := []) ⟨hx, hb, hml, hown, hts⟩ (k_X6_at l D cI cC cN N q_ends 21 s.heap.size f_ends a1 r_1 h_2) ⟨va_cnB 2 hts gX2_ends_X6_at_n29 rfl rfl rfl (hN (.methodLinkNest RX2 29 yX6_at RX6) (by decide +kernel)) (hts (.initialized RX6) (by decide +kernel)) (by decide +kernel) ⟨Nat.le_of_ble_eq_true rfl, Nat.le_of_ble_eq_true rfl⟩, hts (.static yX6_at) (by decide +kernel), trivial⟩ ⟨g_blind, g_pre (hP.sub [1] rfl) hK hN (hD.sub [1] (by decide) rfl)⟩ rfl rfl hl.1 rfl (lv_room (Nat.le_of_ble_eq_true rfl)) dX2_ends_5 ⟨Nat.zero_le _, Nat.zero_le _⟩) hP hD hS hA [1] [0, 2] rfl rfl (by decide) (by decide) rfl (fun H locs hP hD hS => ?_)
  have z1 := so_use hm
  subst z1
  exact hret _ _ _ _ _ dX2_ends_8 rfl rfl (hP.sub [0, 2, 1] rfl) (hD.sub [0, 2, 1] (by decide) rfl) hS
abbrev rX6_bit : Room := { frames := 0, cells := 0, slots := 0, locals := 0 }
set_option maxHeartbeats 4000000 in
set_option maxRecDepth 100000 in
theorem k_X6_bit (l : Launch) (D : va_G) (cI cC cN : ClassId) (N : Nat) (sz : Nat) (a0 : Int32) (r : Int32) (hm : m_X6_bit N a0 = some r) : Met l yX6_bit wsX6_bit (rX6_bit) (gPc D (tysG cI cC cN) [.int a0] [] sz) (gQi D (tysG cI cC cN) (va_A [] sz) [] r) 0 0 (va_A [] sz) := by
  unfold m_X6_bit at hm
  refine g_openI (cc := cX6_bit) (maxL := 1) (own := RX6) (by decide) rfl rfl (Nat.le_of_ble_eq_true rfl) ?_
  intro p e s m args below meth c A Q hx hb hml hown hts hP hK hN hD hA hret ls hl
  have hS : va_S A s.heap s.heap [] := va_S.rf
  have hl : lv_has ls 1 [(0, .int a0)] := hl
  refine lv_iconst (v := 1) hx hb dX6_bit_0 (by decide) ?_
  refine lv_iload_n hx hb dX6_bit_1 rfl (lv_at hl 0 rfl) ?_
  refine gv_ishl hx hb dX6_bit_2 ?_
  have z1 := so_use hm
  subst z1
  exact hret _ _ _ _ _ dX6_bit_3 rfl rfl hP hD hS
abbrev rX2_allKnots : Room := { frames := 1, cells := 0, slots := 0, locals := 20 }
set_option maxHeartbeats 4000000 in
set_option maxRecDepth 100000 in
theorem k_X2_allKnots (l : Launch) (D : va_G) (cI cC cN : ClassId) (N : Nat) (q : Nat) (q_ends : Nat) (q_colours : Nat) (sz : Nat) (f_knots : Int32) (f_threads : Int32) (f_ends : Nat → Int32) (f_colours : Nat → Int32) (r : Int32) (hm : m_X2_allKnots N f_knots = some r) : Met l yX2_allKnots wsX2_allKnots (rX2_allKnots) (gPc D (tysG cI cC cN) [.ref q] [(q, .inr (2, [.int f_knots, .int f_threads, .ref q_ends, .ref q_colours])), (q_ends, .inl (cI, 21, .inl f_ends)), (q_colours, .inl (cI, 21, .inl f_colours))] sz) (gQi D (tysG cI cC cN) (va_A [(q, .inr (2, [.int f_knots, .int f_threads, .ref q_ends, .ref q_colours])), (q_ends, .inl (cI, 21, .inl f_ends)), (q_colours, .inl (cI, 21, .inl f_colours))] sz) [(q, .inr (2, [.int f_knots, .int f_threads, .ref q_ends, .ref q_colours])), (q_ends, .inl (cI, 21, .inl f_ends)), (q_colours, .inl (cI, 21, .inl f_colours))] r) 0 0 (va_A [(q, .inr (2, [.int f_knots, .int f_threads, .ref q_ends, .ref q_colours])), (q_ends, .inl (cI, 21, .inl f_ends)), (q_colours, .inl (cI, 21, .inl f_colours))] sz) := by
  unfold m_X2_allKnots at hm
  refine g_openI (cc := cX2_allKnots) (maxL := 1) (own := RX2) (by decide) rfl rfl (Nat.le_of_ble_eq_true rfl) ?_
  intro p e s m args below meth c A Q hx hb hml hown hts hP hK hN hD hA hret ls hl
  have hS : va_S A s.heap s.heap [] := va_S.rf
  have hl : lv_has ls 1 [(0, .ref q)] := hl
  refine lv_aload_n hx hb dX2_allKnots_0 rfl (lv_at hl 0 rfl) ?_
  refine va_get (D := D) (ci := 2) (v := .int f_knots) (C := RX2) (T := TX2) (N := 4) hx hb hts (by decide +kernel) hown hK hP 0 rfl rfl 0 (by decide) (hts (.fieldLink RX2 9 "KnotStripes$Net" "knots" "I") (by decide +kernel)) (fun _ h9 => h9) rfl dX2_allKnots_1 ?_
  obtain ⟨r_1, h_2, hm⟩ := bind_use hm
  refine g_ki (wc := []) (wr := [(q, .inr (2, [.int f_knots, .int f_threads, .ref q_ends, .ref q_colours])), (q_ends, .inl (cI, 21, .inl f_ends)), (q_colours, .inl (cI, 21, .inl f_colours))]) (w2 := [(q, .inr (2, [.int f_knots, .int f_threads, .ref q_ends, .ref q_colours])), (q_ends, .inl (cI, 21, .inl f_ends)), (q_colours, .inl (cI, 21, .inl f_colours))]) (va_runSN (As := [.int f_knots]) (rest := []) ⟨hx, hb, hml, hown, hts⟩ (k_X6_bit l D cI cC cN N s.heap.size f_knots r_1 h_2) ⟨va_cnB 1 hts gX2_allKnots_X6_bit_n25 rfl rfl rfl (hN (.methodLinkNest RX2 25 yX6_bit RX6) (by decide +kernel)) (hts (.initialized RX6) (by decide +kernel)) (by decide +kernel) ⟨Nat.le_of_ble_eq_true rfl, Nat.le_of_ble_eq_true rfl⟩, hts (.static yX6_bit) (by decide +kernel), trivial⟩ ⟨g_blind, g_pre (hP.sub [] rfl) hK hN (hD.sub [] (by decide) rfl)⟩ rfl rfl hl.1 rfl (lv_room (Nat.le_of_ble_eq_true rfl)) dX2_allKnots_4 ⟨Nat.zero_le _, Nat.zero_le _⟩) hP hD hS hA [] [0, 1, 2] rfl rfl (by decide) (by decide) rfl (fun H locs hP hD hS => ?_)
  refine lv_iconst (v := 1) hx hb dX2_allKnots_7 (by decide) ?_
  refine lv_isub hx hb dX2_allKnots_8 ?_
  have z1 := so_use hm
  subst z1
  exact hret _ _ _ _ _ dX2_allKnots_9 rfl rfl hP hD hS
abbrev rX0_addCover : Room := { frames := 1, cells := 0, slots := 0, locals := 22 }
set_option maxHeartbeats 4000000 in
set_option maxRecDepth 100000 in
theorem k_X0_addCover (l : Launch) (D : va_G) (cI cC cN : ClassId) (N : Nat) (q : Nat) (q_found : Nat) (q_before : Nat) (sz : Nat) (f_found : Nat → Int32) (f_size : Int32) (f_before : Nat → Int32) (f_circles : Int32) (f_oddCircles : Int32) (f_longest : Int32) (a1 : Int32) (f_found' : Nat → Int32) (f_size' : Int32) (hm : m_X0_addCover N f_found f_size a1 = some (f_found', f_size')) : Met l yX0_addCover wsX0_addCover (rX0_addCover) (gPc D (tysG cI cC cN) [.ref q, .int a1] [(q, .inr (0, [.ref q_found, .int f_size, .ref q_before, .int f_circles, .int f_oddCircles, .int f_longest])), (q_found, .inl (cI, 80, .inl f_found)), (q_before, .inl (cI, 21, .inl f_before))] sz) (gQv D (tysG cI cC cN) (va_A [(q, .inr (0, [.ref q_found, .int f_size, .ref q_before, .int f_circles, .int f_oddCircles, .int f_longest])), (q_found, .inl (cI, 80, .inl f_found)), (q_before, .inl (cI, 21, .inl f_before))] sz) [(q, .inr (0, [.ref q_found, .int f_size', .ref q_before, .int f_circles, .int f_oddCircles, .int f_longest])), (q_found, .inl (cI, 80, .inl f_found')), (q_before, .inl (cI, 21, .inl f_before))]) 0 0 (va_A [(q, .inr (0, [.ref q_found, .int f_size, .ref q_before, .int f_circles, .int f_oddCircles, .int f_longest])), (q_found, .inl (cI, 80, .inl f_found)), (q_before, .inl (cI, 21, .inl f_before))] sz) := by
  unfold m_X0_addCover at hm
  refine g_openV (cc := cX0_addCover) (maxL := 2) (own := RX0) (by decide) rfl rfl (Nat.le_of_ble_eq_true rfl) ?_
  intro p e s m args below meth c A Q hx hb hml hown hts hP hK hN hD hA hret ls hl
  have hS : va_S A s.heap s.heap [] := va_S.rf
  have hl : lv_has ls 2 [(0, .ref q), (1, .int a1)] := hl
  refine lv_aload_n hx hb dX0_addCover_0 rfl (lv_at hl 0 rfl) ?_
  refine va_get (D := D) (ci := 0) (v := .int f_size) (C := RX0) (T := TX0) (N := 6) hx hb hts (by decide +kernel) hown hK hP 0 rfl rfl 1 (by decide) (hts (.fieldLink RX0 18 "KnotStripes$Covers" "size" "I") (by decide +kernel)) (fun _ h9 => h9) rfl dX0_addCover_1 ?_
  refine lv_aload_n hx hb dX0_addCover_4 rfl (lv_at hl 0 rfl) ?_
  refine va_get (D := D) (ci := 0) (v := .ref q_found) (C := RX0) (T := TX0) (N := 6) hx hb hts (by decide +kernel) hown hK hP 0 rfl rfl 0 (by decide) (hts (.fieldLink RX0 9 "KnotStripes$Covers" "found" "[I") (by decide +kernel)) (fun _ h9 => h9) rfl dX0_addCover_5 ?_
  refine va_alen (D := D) (v := 80) hx hb hK hP 1 0 rfl rfl rfl dX0_addCover_8 ?_
  refine lv_icmp_ge (tgt := 34) hx hb dX0_addCover_9 (by decide) (fun hc => ?_) (fun hc => ?_)
  · have hm := if_t _ hc hm
    have z1 := so_use hm
    obtain ⟨y1, z2⟩ := pr_use z1
    subst y1
    subst z2
    exact hret _ _ _ _ dX0_addCover_34 hP hD hS
  · have hm := if_f _ hc hm
    refine lv_aload_n hx hb dX0_addCover_12 rfl (lv_at hl 0 rfl) ?_
    refine va_get (D := D) (ci := 0) (v := .ref q_found) (C := RX0) (T := TX0) (N := 6) hx hb hts (by decide +kernel) hown hK hP 0 rfl rfl 0 (by decide) (hts (.fieldLink RX0 9 "KnotStripes$Covers" "found" "[I") (by decide +kernel)) (fun _ h9 => h9) rfl dX0_addCover_13 ?_
    refine lv_aload_n hx hb dX0_addCover_16 rfl (lv_at hl 0 rfl) ?_
    refine va_get (D := D) (ci := 0) (v := .int f_size) (C := RX0) (T := TX0) (N := 6) hx hb hts (by decide +kernel) hown hK hP 0 rfl rfl 1 (by decide) (hts (.fieldLink RX0 18 "KnotStripes$Covers" "size" "I") (by decide +kernel)) (fun _ h9 => h9) rfl dX0_addCover_17 ?_
    refine lv_iload_n hx hb dX0_addCover_20 rfl (lv_at hl 1 rfl) ?_
    obtain ⟨f_found_1, h_2, hm⟩ := bind_use hm
    refine g_kv (wc := [(q_found, .inl (cI, 80, .inl f_found))]) (wr := [(q, .inr (0, [.ref q_found, .int f_size, .ref q_before, .int f_circles, .int f_oddCircles, .int f_longest])), (q_before, .inl (cI, 21, .inl f_before))]) (w2 := [(q, .inr (0, [.ref q_found, .int f_size, .ref q_before, .int f_circles, .int f_oddCircles, .int f_longest])), (q_before, .inl (cI, 21, .inl f_before)), (q_found, .inl (cI, 80, .inl f_found_1))]) (va_runSN (As := [.ref q_found, .int f_size, .int a1]) (rest := []) ⟨hx, hb, hml, hown, hts⟩ (k_X6_put l D cI cC cN N q_found 80 s.heap.size f_found f_size a1 f_found_1 h_2) ⟨va_cnB 3 hts gX0_addCover_X6_put_n49 rfl rfl rfl (hN (.methodLinkNest RX0 49 yX6_put RX6) (by decide +kernel)) (hts (.initialized RX6) (by decide +kernel)) (by decide +kernel) ⟨Nat.le_of_ble_eq_true rfl, Nat.le_of_ble_eq_true rfl⟩, hts (.static yX6_put) (by decide +kernel), trivial⟩ ⟨g_blind, g_pre (hP.sub [1] rfl) hK hN (hD.sub [1] (by decide) rfl)⟩ rfl rfl hl.1 rfl (lv_room (Nat.le_of_ble_eq_true rfl)) dX0_addCover_21 ⟨Nat.zero_le _, Nat.zero_le _⟩) hP hD hS hA [1] [0, 2] rfl rfl (by decide) (by decide) rfl (fun H locs hP hD hS => ?_)
    refine lv_aload_n hx hb dX0_addCover_24 rfl (lv_at hl 0 rfl) ?_
    refine lv_dup hx hb dX0_addCover_25 rfl ?_
    refine va_get (D := D) (ci := 0) (v := .int f_size) (C := RX0) (T := TX0) (N := 6) hx hb hts (by decide +kernel) hown hK hP 0 rfl rfl 1 (by decide) (hts (.fieldLink RX0 18 "KnotStripes$Covers" "size" "I") (by decide +kernel)) (fun _ h9 => h9) rfl dX0_addCover_26 ?_
    refine lv_iconst (v := 1) hx hb dX0_addCover_29 (by decide) ?_
    refine lv_iadd hx hb dX0_addCover_30 ?_
    refine W.eq (g2 := F0 m 31 ls (.int (f_size + 1) :: [.ref q])) rfl ?_
    refine lv_topi (fun w_3 ew_3 => ?_)
    have hm := nm_use ew_3 hm
    refine va_put (D := D) (ci := 0) (v := .int w_3) (ty := .int) (C := RX0) (T := TX0) (N := 6) hx hb hts (by decide +kernel) tyX0 tyX0_ok nmX0 hown hK hP hD hS 0 rfl rfl 1 (by decide) (hts (.fieldLink RX0 18 "KnotStripes$Covers" "size" "I") (by decide +kernel)) (fun _ h9 => h9) rfl (by decide +kernel) rfl rfl (Nat.le_of_ble_eq_true rfl) dX0_addCover_31 (fun H locs hP hD hS => ?_)
    have hP : va_P D vwCl [(q, .inr (0, [.ref q_found, .int w_3, .ref q_before, .int f_circles, .int f_oddCircles, .int f_longest])), (q_before, .inl (cI, 21, .inl f_before)), (q_found, .inl (cI, 80, .inl f_found_1))] H := hP
    have hD : va_D A [(q, .inr (0, [.ref q_found, .int w_3, .ref q_before, .int f_circles, .int f_oddCircles, .int f_longest])), (q_before, .inl (cI, 21, .inl f_before)), (q_found, .inl (cI, 80, .inl f_found_1))] := hD
    have z1 := so_use hm
    obtain ⟨y1, z2⟩ := pr_use z1
    subst y1
    subst z2
    exact hret _ _ _ _ dX0_addCover_34 (hP.sub [0, 2, 1] rfl) (hD.sub [0, 2, 1] (by decide) rfl) hS
abbrev rX0_decide (d : Nat) : Room := { frames := 2 + d, cells := 0, slots := 0, locals := 43 + d * 27 }
set_option maxHeartbeats 4000000 in
set_option maxRecDepth 100000 in
theorem k_X0_decide (l : Launch) (D : va_G) (cI cC cN : ClassId) (N : Nat) : ∀ (d : Nat) (q_p0 : Nat) (q_p0_found : Nat) (q_p0_before : Nat) (q_p1 : Nat) (q_p1_ends : Nat) (q_p1_colours : Nat) (sz : Nat) (f_p0_found : Nat → Int32) (f_p0_size : Int32) (f_p0_before : Nat → Int32) (f_p0_circles : Int32) (f_p0_oddCircles : Int32) (f_p0_longest : Int32) (f_p1_knots : Int32) (f_p1_threads : Int32) (f_p1_ends : Nat → Int32) (f_p1_colours : Nat → Int32) (a2 : Int32) (a3 : Int32) (a4 : Int32) (f_p0_found' : Nat → Int32) (f_p0_size' : Int32) (hm : m_X0_decide N d f_p0_found f_p0_size f_p0_before f_p1_knots f_p1_ends a2 a3 a4 = some (f_p0_found', f_p0_size')), Met l yX0_decide wsX0_decide (rX0_decide d) (gPc D (tysG cI cC cN) [.ref q_p0, .ref q_p1, .int a2, .int a3, .int a4] [(q_p0, .inr (0, [.ref q_p0_found, .int f_p0_size, .ref q_p0_before, .int f_p0_circles, .int f_p0_oddCircles, .int f_p0_longest])), (q_p0_found, .inl (cI, 80, .inl f_p0_found)), (q_p0_before, .inl (cI, 21, .inl f_p0_before)), (q_p1, .inr (2, [.int f_p1_knots, .int f_p1_threads, .ref q_p1_ends, .ref q_p1_colours])), (q_p1_ends, .inl (cI, 21, .inl f_p1_ends)), (q_p1_colours, .inl (cI, 21, .inl f_p1_colours))] sz) (gQv D (tysG cI cC cN) (va_A [(q_p0, .inr (0, [.ref q_p0_found, .int f_p0_size, .ref q_p0_before, .int f_p0_circles, .int f_p0_oddCircles, .int f_p0_longest])), (q_p0_found, .inl (cI, 80, .inl f_p0_found)), (q_p0_before, .inl (cI, 21, .inl f_p0_before)), (q_p1, .inr (2, [.int f_p1_knots, .int f_p1_threads, .ref q_p1_ends, .ref q_p1_colours])), (q_p1_ends, .inl (cI, 21, .inl f_p1_ends)), (q_p1_colours, .inl (cI, 21, .inl f_p1_colours))] sz) [(q_p0, .inr (0, [.ref q_p0_found, .int f_p0_size', .ref q_p0_before, .int f_p0_circles, .int f_p0_oddCircles, .int f_p0_longest])), (q_p0_found, .inl (cI, 80, .inl f_p0_found')), (q_p0_before, .inl (cI, 21, .inl f_p0_before)), (q_p1, .inr (2, [.int f_p1_knots, .int f_p1_threads, .ref q_p1_ends, .ref q_p1_colours])), (q_p1_ends, .inl (cI, 21, .inl f_p1_ends)), (q_p1_colours, .inl (cI, 21, .inl f_p1_colours))]) 0 0 (va_A [(q_p0, .inr (0, [.ref q_p0_found, .int f_p0_size, .ref q_p0_before, .int f_p0_circles, .int f_p0_oddCircles, .int f_p0_longest])), (q_p0_found, .inl (cI, 80, .inl f_p0_found)), (q_p0_before, .inl (cI, 21, .inl f_p0_before)), (q_p1, .inr (2, [.int f_p1_knots, .int f_p1_threads, .ref q_p1_ends, .ref q_p1_colours])), (q_p1_ends, .inl (cI, 21, .inl f_p1_ends)), (q_p1_colours, .inl (cI, 21, .inl f_p1_colours))] sz) := by
  intro d
  induction d with
  | zero => intro q_p0 q_p0_found q_p0_before q_p1 q_p1_ends q_p1_colours sz f_p0_found f_p0_size f_p0_before f_p0_circles f_p0_oddCircles f_p0_longest f_p1_knots f_p1_threads f_p1_ends f_p1_colours a2 a3 a4 f_p0_found' f_p0_size' hm; rw [m_X0_decide] at hm; exact no_use hm
  | succ d kih =>
    intro q_p0 q_p0_found q_p0_before q_p1 q_p1_ends q_p1_colours sz f_p0_found f_p0_size f_p0_before f_p0_circles f_p0_oddCircles f_p0_longest f_p1_knots f_p1_threads f_p1_ends f_p1_colours a2 a3 a4 f_p0_found' f_p0_size' hm
    rw [m_X0_decide] at hm
    refine g_openV (cc := cX0_decide) (maxL := 8) (own := RX0) (by decide) rfl rfl (Nat.le_of_ble_eq_true rfl) ?_
    intro p e s m args below meth c A Q hx hb hml hown hts hP hK hN hD hA hret ls hl
    have hS : va_S A s.heap s.heap [] := va_S.rf
    have hl : lv_has ls 8 [(0, .ref q_p0), (1, .ref q_p1), (2, .int a2), (3, .int a3), (4, .int a4)] := hl
    refine lv_iload_n hx hb dX0_decide_0 rfl (lv_at hl 2 rfl) ?_
    refine lv_if_ge (tgt := 11) hx hb dX0_decide_1 (by decide) (fun hc => ?_) (fun hc => ?_)
    · have hm := if_t _ hc hm
      refine lv_aload_n hx hb dX0_decide_11 rfl (lv_at hl 1 rfl) ?_
      obtain ⟨r_1, h_2, hm⟩ := bind_use hm
      refine g_ki (wc := [(q_p1, .inr (2, [.int f_p1_knots, .int f_p1_threads, .ref q_p1_ends, .ref q_p1_colours])), (q_p1_ends, .inl (cI, 21, .inl f_p1_ends)), (q_p1_colours, .inl (cI, 21, .inl f_p1_colours))]) (wr := [(q_p0, .inr (0, [.ref q_p0_found, .int f_p0_size, .ref q_p0_before, .int f_p0_circles, .int f_p0_oddCircles, .int f_p0_longest])), (q_p0_found, .inl (cI, 80, .inl f_p0_found)), (q_p0_before, .inl (cI, 21, .inl f_p0_before))]) (w2 := [(q_p0, .inr (0, [.ref q_p0_found, .int f_p0_size, .ref q_p0_before, .int f_p0_circles, .int f_p0_oddCircles, .int f_p0_longest])), (q_p0_found, .inl (cI, 80, .inl f_p0_found)), (q_p0_before, .inl (cI, 21, .inl f_p0_before)), (q_p1, .inr (2, [.int f_p1_knots, .int f_p1_threads, .ref q_p1_ends, .ref q_p1_colours])), (q_p1_ends, .inl (cI, 21, .inl f_p1_ends)), (q_p1_colours, .inl (cI, 21, .inl f_p1_colours))]) (va_runV (As := []) (rest := []) ⟨hx, hb, hml, hown, hts⟩ (k_X2_allKnots l D cI cC cN N q_p1 q_p1_ends q_p1_colours s.heap.size f_p1_knots f_p1_threads f_p1_ends f_p1_colours r_1 h_2) (cwV 0 hts gX0_decide_X2_allKnots rfl rfl rfl (by decide +kernel) ⟨by simp [rX0_decide, rX2_allKnots]; try omega, by simp [rX0_decide, rX2_allKnots]; try omega⟩) ⟨g_blind, va_recv (D := D) (ci := 2) (q0 := 3) hK hP rfl rfl, g_pre (hP.sub [3, 4, 5] rfl) hK hN (hD.sub [3, 4, 5] (by decide) rfl)⟩ rfl rfl hl.1 rfl (lv_room (Nat.le_of_ble_eq_true rfl)) dX0_decide_12 ⟨Nat.zero_le _, Nat.zero_le _⟩) hP hD hS hA [3, 4, 5] [0, 1, 2] rfl rfl (by decide) (by decide) rfl (fun H locs hP hD hS => ?_)
      refine lv_istore (lv' := [(5, .int r_1), (0, .ref q_p0), (1, .ref q_p1), (2, .int a2), (3, .int a3), (4, .int a4)]) hx hb dX0_decide_15 hl (by decide) rfl (fun ls hl => ?_)
      refine lv_aload_n hx hb dX0_decide_17 rfl (lv_at hl 2 rfl) ?_
      refine lv_iload_n hx hb dX0_decide_18 rfl (lv_at hl 3 rfl) ?_
      obtain ⟨r_3, h_4, hm⟩ := bind_use hm
      refine g_ki (wc := [(q_p1, .inr (2, [.int f_p1_knots, .int f_p1_threads, .ref q_p1_ends, .ref q_p1_colours])), (q_p1_ends, .inl (cI, 21, .inl f_p1_ends)), (q_p1_colours, .inl (cI, 21, .inl f_p1_colours))]) (wr := [(q_p0, .inr (0, [.ref q_p0_found, .int f_p0_size, .ref q_p0_before, .int f_p0_circles, .int f_p0_oddCircles, .int f_p0_longest])), (q_p0_found, .inl (cI, 80, .inl f_p0_found)), (q_p0_before, .inl (cI, 21, .inl f_p0_before))]) (w2 := [(q_p0, .inr (0, [.ref q_p0_found, .int f_p0_size, .ref q_p0_before, .int f_p0_circles, .int f_p0_oddCircles, .int f_p0_longest])), (q_p0_found, .inl (cI, 80, .inl f_p0_found)), (q_p0_before, .inl (cI, 21, .inl f_p0_before)), (q_p1, .inr (2, [.int f_p1_knots, .int f_p1_threads, .ref q_p1_ends, .ref q_p1_colours])), (q_p1_ends, .inl (cI, 21, .inl f_p1_ends)), (q_p1_colours, .inl (cI, 21, .inl f_p1_colours))]) (va_runV (As := [.int a2]) (rest := []) ⟨hx, hb, hml, hown, hts⟩ (k_X2_ends l D cI cC cN N q_p1 q_p1_ends q_p1_colours H.size f_p1_knots f_p1_threads f_p1_ends f_p1_colours a2 r_3 h_4) (cwV 1 hts gX0_decide_X2_ends rfl rfl rfl (by decide +kernel) ⟨by simp [rX0_decide, rX2_ends]; try omega, by simp [rX0_decide, rX2_ends]; try omega⟩) ⟨g_blind, va_recv (D := D) (ci := 2) (q0 := 3) hK hP rfl rfl, g_pre (hP.sub [3, 4, 5] rfl) hK hN (hD.sub [3, 4, 5] (by decide) rfl)⟩ rfl rfl hl.1 rfl (lv_room (Nat.le_of_ble_eq_true rfl)) dX0_decide_19 ⟨Nat.zero_le _, Nat.zero_le _⟩) hP hD hS hA [3, 4, 5] [0, 1, 2] rfl rfl (by decide) (by decide) rfl (fun H locs hP hD hS => ?_)
      refine lv_istore (lv' := [(6, .int r_3), (5, .int r_1), (0, .ref q_p0), (1, .ref q_p1), (2, .int a2), (3, .int a3), (4, .int a4)]) hx hb dX0_decide_22 hl (by decide) rfl (fun ls hl => ?_)
      refine lv_aload_n hx hb dX0_decide_24 rfl (lv_at hl 2 rfl) ?_
      refine va_get (D := D) (ci := 0) (v := .ref q_p0_before) (C := RX0) (T := TX0) (N := 6) hx hb hts (by decide +kernel) hown hK hP 0 rfl rfl 2 (by decide) (hts (.fieldLink RX0 15 "KnotStripes$Covers" "before" "[I") (by decide +kernel)) (fun _ h9 => h9) rfl dX0_decide_25 ?_
      refine lv_iload_n hx hb dX0_decide_28 rfl (lv_at hl 4 rfl) ?_
      obtain ⟨r_5, h_6, hm⟩ := bind_use hm
      refine g_ki (wc := [(q_p0_before, .inl (cI, 21, .inl f_p0_before))]) (wr := [(q_p0, .inr (0, [.ref q_p0_found, .int f_p0_size, .ref q_p0_before, .int f_p0_circles, .int f_p0_oddCircles, .int f_p0_longest])), (q_p0_found, .inl (cI, 80, .inl f_p0_found)), (q_p1, .inr (2, [.int f_p1_knots, .int f_p1_threads, .ref q_p1_ends, .ref q_p1_colours])), (q_p1_ends, .inl (cI, 21, .inl f_p1_ends)), (q_p1_colours, .inl (cI, 21, .inl f_p1_colours))]) (w2 := [(q_p0, .inr (0, [.ref q_p0_found, .int f_p0_size, .ref q_p0_before, .int f_p0_circles, .int f_p0_oddCircles, .int f_p0_longest])), (q_p0_found, .inl (cI, 80, .inl f_p0_found)), (q_p1, .inr (2, [.int f_p1_knots, .int f_p1_threads, .ref q_p1_ends, .ref q_p1_colours])), (q_p1_ends, .inl (cI, 21, .inl f_p1_ends)), (q_p1_colours, .inl (cI, 21, .inl f_p1_colours)), (q_p0_before, .inl (cI, 21, .inl f_p0_before))]) (va_runSN (As := [.ref q_p0_before, .int a2]) (rest := []) ⟨hx, hb, hml, hown, hts⟩ (k_X6_at l D cI cC cN N q_p0_before 21 H.size f_p0_before a2 r_5 h_6) ⟨va_cnB 2 hts gX0_decide_X6_at_n31 rfl rfl rfl (hN (.methodLinkNest RX0 31 yX6_at RX6) (by decide +kernel)) (hts (.initialized RX6) (by decide +kernel)) (by decide +kernel) ⟨by simp [rX0_decide, rX6_at]; try omega, by simp [rX0_decide, rX6_at]; try omega⟩, hts (.static yX6_at) (by decide +kernel), trivial⟩ ⟨g_blind, g_pre (hP.sub [2] rfl) hK hN (hD.sub [2] (by decide) rfl)⟩ rfl rfl hl.1 rfl (lv_room (Nat.le_of_ble_eq_true rfl)) dX0_decide_29 ⟨Nat.zero_le _, Nat.zero_le _⟩) hP hD hS hA [2] [0, 1, 3, 4, 5] rfl rfl (by decide) (by decide) rfl (fun H locs hP hD hS => ?_)
      refine lv_istore (lv' := [(7, .int r_5), (6, .int r_3), (5, .int r_1), (0, .ref q_p0), (1, .ref q_p1), (2, .int a2), (3, .int a3), (4, .int a4)]) hx hb dX0_decide_32 hl (by decide) rfl (fun ls hl => ?_)
      refine lv_iload_n hx hb dX0_decide_34 rfl (lv_at hl 6 rfl) ?_
      refine lv_iload hx hb dX0_decide_35 (lv_at hl 0 rfl) ?_
      refine lv_ior hx hb dX0_decide_37 ?_
      refine lv_iload hx hb dX0_decide_38 (lv_at hl 2 rfl) ?_
      obtain ⟨J54, hJ54, hm⟩ := jn_use hm
      have j54 : ∀ (f_p0_found_7 : Nat → Int32) (f_p0_size_8 : Int32), ∀ (H : Heap) (locs : List Loc) (ls : Array Slot), va_P D vwCl [(q_p0, .inr (0, [.ref q_p0_found, .int f_p0_size_8, .ref q_p0_before, .int f_p0_circles, .int f_p0_oddCircles, .int f_p0_longest])), (q_p0_found, .inl (cI, 80, .inl f_p0_found_7)), (q_p1, .inr (2, [.int f_p1_knots, .int f_p1_threads, .ref q_p1_ends, .ref q_p1_colours])), (q_p1_ends, .inl (cI, 21, .inl f_p1_ends)), (q_p1_colours, .inl (cI, 21, .inl f_p1_colours)), (q_p0_before, .inl (cI, 21, .inl f_p0_before))] H → va_D A [(q_p0, .inr (0, [.ref q_p0_found, .int f_p0_size_8, .ref q_p0_before, .int f_p0_circles, .int f_p0_oddCircles, .int f_p0_longest])), (q_p0_found, .inl (cI, 80, .inl f_p0_found_7)), (q_p1, .inr (2, [.int f_p1_knots, .int f_p1_threads, .ref q_p1_ends, .ref q_p1_colours])), (q_p1_ends, .inl (cI, 21, .inl f_p1_ends)), (q_p1_colours, .inl (cI, 21, .inl f_p1_colours)), (q_p0_before, .inl (cI, 21, .inl f_p0_before))] → va_S A s.heap H locs → lv_has ls 8 [(7, .int r_5), (6, .int r_3), (5, .int r_1), (0, .ref q_p0), (1, .ref q_p1), (2, .int a2), (3, .int a3), (4, .int a4)] → J54 f_p0_found_7 f_p0_size_8 = some (f_p0_found', f_p0_size') → W p l e (rX0_decide (d + 1)) s m args below meth c H locs 0 0 Q (F0 m 54 ls []) := by
        intro f_p0_found_7 f_p0_size_8 H locs ls hP hD hS hl hm
        rw [hJ54] at hm
        refine lv_iload_n hx hb dX0_decide_54 rfl (lv_at hl 6 rfl) ?_
        refine lv_iload hx hb dX0_decide_55 (lv_at hl 1 rfl) ?_
        refine lv_iand hx hb dX0_decide_57 ?_
        refine lv_if_ne (tgt := 92) hx hb dX0_decide_58 (by decide) (fun hc => ?_) (fun hc => ?_)
        · have hm := if_f _ hc hm
          have z1 := so_use hm
          obtain ⟨y1, z2⟩ := pr_use z1
          subst y1
          subst z2
          exact hret _ _ _ _ dX0_decide_92 (hP.sub [0, 1, 5, 2, 3, 4] rfl) (hD.sub [0, 1, 5, 2, 3, 4] (by decide) rfl) hS
        · have hm := if_t _ hc hm
          refine lv_iload_n hx hb dX0_decide_61 rfl (lv_at hl 6 rfl) ?_
          refine lv_iload hx hb dX0_decide_62 (lv_at hl 1 rfl) ?_
          refine lv_ior hx hb dX0_decide_64 ?_
          refine lv_iload hx hb dX0_decide_65 (lv_at hl 0 rfl) ?_
          refine lv_ior hx hb dX0_decide_67 ?_
          refine lv_iload hx hb dX0_decide_68 (lv_at hl 2 rfl) ?_
          refine lv_icmp_ne (tgt := 92) hx hb dX0_decide_70 (by decide) (fun hc => ?_) (fun hc => ?_)
          · have hm := if_f _ hc hm
            have z1 := so_use hm
            obtain ⟨y1, z2⟩ := pr_use z1
            subst y1
            subst z2
            exact hret _ _ _ _ dX0_decide_92 (hP.sub [0, 1, 5, 2, 3, 4] rfl) (hD.sub [0, 1, 5, 2, 3, 4] (by decide) rfl) hS
          · have hm := if_t _ hc hm
            refine lv_aload_n hx hb dX0_decide_73 rfl (lv_at hl 3 rfl) ?_
            refine lv_aload_n hx hb dX0_decide_74 rfl (lv_at hl 4 rfl) ?_
            refine lv_iload_n hx hb dX0_decide_75 rfl (lv_at hl 5 rfl) ?_
            refine lv_iconst (v := 1) hx hb dX0_decide_76 (by decide) ?_
            refine lv_isub hx hb dX0_decide_77 ?_
            refine lv_iload_n hx hb dX0_decide_78 rfl (lv_at hl 6 rfl) ?_
            refine lv_iload hx hb dX0_decide_79 (lv_at hl 1 rfl) ?_
            refine lv_ior hx hb dX0_decide_81 ?_
            refine lv_iload hx hb dX0_decide_82 (lv_at hl 7 rfl) ?_
            refine lv_iload_n hx hb dX0_decide_84 rfl (lv_at hl 5 rfl) ?_
            obtain ⟨r_9, h_10, hm⟩ := bind_use hm
            refine g_ki (wc := []) (wr := [(q_p0, .inr (0, [.ref q_p0_found, .int f_p0_size_8, .ref q_p0_before, .int f_p0_circles, .int f_p0_oddCircles, .int f_p0_longest])), (q_p0_found, .inl (cI, 80, .inl f_p0_found_7)), (q_p1, .inr (2, [.int f_p1_knots, .int f_p1_threads, .ref q_p1_ends, .ref q_p1_colours])), (q_p1_ends, .inl (cI, 21, .inl f_p1_ends)), (q_p1_colours, .inl (cI, 21, .inl f_p1_colours)), (q_p0_before, .inl (cI, 21, .inl f_p0_before))]) (w2 := [(q_p0, .inr (0, [.ref q_p0_found, .int f_p0_size_8, .ref q_p0_before, .int f_p0_circles, .int f_p0_oddCircles, .int f_p0_longest])), (q_p0_found, .inl (cI, 80, .inl f_p0_found_7)), (q_p1, .inr (2, [.int f_p1_knots, .int f_p1_threads, .ref q_p1_ends, .ref q_p1_colours])), (q_p1_ends, .inl (cI, 21, .inl f_p1_ends)), (q_p1_colours, .inl (cI, 21, .inl f_p1_colours)), (q_p0_before, .inl (cI, 21, .inl f_p0_before))]) (va_runSN (As := [.int a2]) (rest := [.int a4, .int (a3 ||| r_3), .int (a2 - 1), .ref q_p1, .ref q_p0]) ⟨hx, hb, hml, hown, hts⟩ (k_X6_bit l D cI cC cN N H.size a2 r_9 h_10) ⟨va_cnB 1 hts gX0_decide_X6_bit_n67 rfl rfl rfl (hN (.methodLinkNest RX0 67 yX6_bit RX6) (by decide +kernel)) (hts (.initialized RX6) (by decide +kernel)) (by decide +kernel) ⟨by simp [rX0_decide, rX6_bit]; try omega, by simp [rX0_decide, rX6_bit]; try omega⟩, hts (.static yX6_bit) (by decide +kernel), trivial⟩ ⟨g_blind, g_pre (hP.sub [] rfl) hK hN (hD.sub [] (by decide) rfl)⟩ rfl rfl hl.1 rfl (lv_room (Nat.le_of_ble_eq_true rfl)) dX0_decide_85 ⟨Nat.zero_le _, Nat.zero_le _⟩) hP hD hS hA [] [0, 1, 2, 3, 4, 5] rfl rfl (by decide) (by decide) rfl (fun H locs hP hD hS => ?_)
            refine lv_ior hx hb dX0_decide_88 ?_
            obtain ⟨⟨f_p0_found_11, f_p0_size_12⟩, h_13, hm⟩ := bind_use hm
            refine g_kv (wc := [(q_p0, .inr (0, [.ref q_p0_found, .int f_p0_size_8, .ref q_p0_before, .int f_p0_circles, .int f_p0_oddCircles, .int f_p0_longest])), (q_p0_found, .inl (cI, 80, .inl f_p0_found_7)), (q_p0_before, .inl (cI, 21, .inl f_p0_before)), (q_p1, .inr (2, [.int f_p1_knots, .int f_p1_threads, .ref q_p1_ends, .ref q_p1_colours])), (q_p1_ends, .inl (cI, 21, .inl f_p1_ends)), (q_p1_colours, .inl (cI, 21, .inl f_p1_colours))]) (wr := []) (w2 := [(q_p0, .inr (0, [.ref q_p0_found, .int f_p0_size_12, .ref q_p0_before, .int f_p0_circles, .int f_p0_oddCircles, .int f_p0_longest])), (q_p0_found, .inl (cI, 80, .inl f_p0_found_11)), (q_p0_before, .inl (cI, 21, .inl f_p0_before)), (q_p1, .inr (2, [.int f_p1_knots, .int f_p1_threads, .ref q_p1_ends, .ref q_p1_colours])), (q_p1_ends, .inl (cI, 21, .inl f_p1_ends)), (q_p1_colours, .inl (cI, 21, .inl f_p1_colours))]) (va_runS (As := [.ref q_p0, .ref q_p1, .int (a2 - 1), .int (a3 ||| r_3), .int (a4 ||| r_9)]) (rest := []) ⟨hx, hb, hml, hown, hts⟩ (kih q_p0 q_p0_found q_p0_before q_p1 q_p1_ends q_p1_colours H.size f_p0_found_7 f_p0_size_8 f_p0_before f_p0_circles f_p0_oddCircles f_p0_longest f_p1_knots f_p1_threads f_p1_ends f_p1_colours (a2 - 1) (a3 ||| r_3) (a4 ||| r_9) f_p0_found_11 f_p0_size_12 h_13) (va_cwS 5 hts gX0_decide_X0_decide rfl rfl rfl (by decide +kernel) ⟨by simp [rX0_decide]; try omega, by simp [rX0_decide]; try omega⟩) ⟨g_blind, g_pre (hP.sub [0, 1, 5, 2, 3, 4] rfl) hK hN (hD.sub [0, 1, 5, 2, 3, 4] (by decide) rfl)⟩ rfl rfl hl.1 rfl (lv_room (Nat.le_of_ble_eq_true rfl)) dX0_decide_89 ⟨Nat.zero_le _, Nat.zero_le _⟩) hP hD hS hA [0, 1, 5, 2, 3, 4] [] rfl rfl (by decide) (by decide) rfl (fun H locs hP hD hS => ?_)
            have z1 := so_use hm
            obtain ⟨y1, z2⟩ := pr_use z1
            subst y1
            subst z2
            exact hret _ _ _ _ dX0_decide_92 hP hD hS
      refine lv_icmp_ne (tgt := 54) hx hb dX0_decide_40 (by decide) (fun hc => ?_) (fun hc => ?_)
      · have hm := if_f _ hc hm
        exact j54 f_p0_found f_p0_size _ _ _ hP hD hS hl hm
      · have hm := if_t _ hc hm
        refine lv_aload_n hx hb dX0_decide_43 rfl (lv_at hl 3 rfl) ?_
        refine lv_aload_n hx hb dX0_decide_44 rfl (lv_at hl 4 rfl) ?_
        refine lv_iload_n hx hb dX0_decide_45 rfl (lv_at hl 5 rfl) ?_
        refine lv_iconst (v := 1) hx hb dX0_decide_46 (by decide) ?_
        refine lv_isub hx hb dX0_decide_47 ?_
        refine lv_iload_n hx hb dX0_decide_48 rfl (lv_at hl 6 rfl) ?_
        refine lv_iload hx hb dX0_decide_49 (lv_at hl 7 rfl) ?_
        obtain ⟨⟨f_p0_found_14, f_p0_size_15⟩, h_16, hm⟩ := bind_use hm
        refine g_kv (wc := [(q_p0, .inr (0, [.ref q_p0_found, .int f_p0_size, .ref q_p0_before, .int f_p0_circles, .int f_p0_oddCircles, .int f_p0_longest])), (q_p0_found, .inl (cI, 80, .inl f_p0_found)), (q_p0_before, .inl (cI, 21, .inl f_p0_before)), (q_p1, .inr (2, [.int f_p1_knots, .int f_p1_threads, .ref q_p1_ends, .ref q_p1_colours])), (q_p1_ends, .inl (cI, 21, .inl f_p1_ends)), (q_p1_colours, .inl (cI, 21, .inl f_p1_colours))]) (wr := []) (w2 := [(q_p0, .inr (0, [.ref q_p0_found, .int f_p0_size_15, .ref q_p0_before, .int f_p0_circles, .int f_p0_oddCircles, .int f_p0_longest])), (q_p0_found, .inl (cI, 80, .inl f_p0_found_14)), (q_p0_before, .inl (cI, 21, .inl f_p0_before)), (q_p1, .inr (2, [.int f_p1_knots, .int f_p1_threads, .ref q_p1_ends, .ref q_p1_colours])), (q_p1_ends, .inl (cI, 21, .inl f_p1_ends)), (q_p1_colours, .inl (cI, 21, .inl f_p1_colours))]) (va_runS (As := [.ref q_p0, .ref q_p1, .int (a2 - 1), .int a3, .int a4]) (rest := []) ⟨hx, hb, hml, hown, hts⟩ (kih q_p0 q_p0_found q_p0_before q_p1 q_p1_ends q_p1_colours H.size f_p0_found f_p0_size f_p0_before f_p0_circles f_p0_oddCircles f_p0_longest f_p1_knots f_p1_threads f_p1_ends f_p1_colours (a2 - 1) a3 a4 f_p0_found_14 f_p0_size_15 h_16) (va_cwS 5 hts gX0_decide_X0_decide rfl rfl rfl (by decide +kernel) ⟨by simp [rX0_decide]; try omega, by simp [rX0_decide]; try omega⟩) ⟨g_blind, g_pre (hP.sub [0, 1, 5, 2, 3, 4] rfl) hK hN (hD.sub [0, 1, 5, 2, 3, 4] (by decide) rfl)⟩ rfl rfl hl.1 rfl (lv_room (Nat.le_of_ble_eq_true rfl)) dX0_decide_51 ⟨Nat.zero_le _, Nat.zero_le _⟩) hP hD hS hA [0, 1, 5, 2, 3, 4] [] rfl rfl (by decide) (by decide) rfl (fun H locs hP hD hS => ?_)
        exact j54 f_p0_found_14 f_p0_size_15 _ _ _ (hP.sub [0, 1, 3, 4, 5, 2] rfl) (hD.sub [0, 1, 3, 4, 5, 2] (by decide) rfl) hS hl hm
    · have hm := if_f _ hc hm
      refine lv_aload_n hx hb dX0_decide_4 rfl (lv_at hl 0 rfl) ?_
      refine lv_iload hx hb dX0_decide_5 (lv_at hl 4 rfl) ?_
      obtain ⟨⟨f_p0_found_17, f_p0_size_18⟩, h_19, hm⟩ := bind_use hm
      refine g_kv (wc := [(q_p0, .inr (0, [.ref q_p0_found, .int f_p0_size, .ref q_p0_before, .int f_p0_circles, .int f_p0_oddCircles, .int f_p0_longest])), (q_p0_found, .inl (cI, 80, .inl f_p0_found)), (q_p0_before, .inl (cI, 21, .inl f_p0_before))]) (wr := [(q_p1, .inr (2, [.int f_p1_knots, .int f_p1_threads, .ref q_p1_ends, .ref q_p1_colours])), (q_p1_ends, .inl (cI, 21, .inl f_p1_ends)), (q_p1_colours, .inl (cI, 21, .inl f_p1_colours))]) (w2 := [(q_p1, .inr (2, [.int f_p1_knots, .int f_p1_threads, .ref q_p1_ends, .ref q_p1_colours])), (q_p1_ends, .inl (cI, 21, .inl f_p1_ends)), (q_p1_colours, .inl (cI, 21, .inl f_p1_colours)), (q_p0, .inr (0, [.ref q_p0_found, .int f_p0_size_18, .ref q_p0_before, .int f_p0_circles, .int f_p0_oddCircles, .int f_p0_longest])), (q_p0_found, .inl (cI, 80, .inl f_p0_found_17)), (q_p0_before, .inl (cI, 21, .inl f_p0_before))]) (va_runV (As := [.int a4]) (rest := []) ⟨hx, hb, hml, hown, hts⟩ (k_X0_addCover l D cI cC cN N q_p0 q_p0_found q_p0_before s.heap.size f_p0_found f_p0_size f_p0_before f_p0_circles f_p0_oddCircles f_p0_longest a4 f_p0_found_17 f_p0_size_18 h_19) (cwV 1 hts gX0_decide_X0_addCover rfl rfl rfl (by decide +kernel) ⟨by simp [rX0_decide, rX0_addCover]; try omega, by simp [rX0_decide, rX0_addCover]; try omega⟩) ⟨g_blind, va_recv (D := D) (ci := 0) (q0 := 0) hK hP rfl rfl, g_pre (hP.sub [0, 1, 2] rfl) hK hN (hD.sub [0, 1, 2] (by decide) rfl)⟩ rfl rfl hl.1 rfl (lv_room (Nat.le_of_ble_eq_true rfl)) dX0_decide_7 ⟨Nat.zero_le _, Nat.zero_le _⟩) hP hD hS hA [0, 1, 2] [3, 4, 5] rfl rfl (by decide) (by decide) rfl (fun H locs hP hD hS => ?_)
      have z1 := so_use hm
      obtain ⟨y1, z2⟩ := pr_use z1
      subst y1
      subst z2
      exact hret _ _ _ _ dX0_decide_10 (hP.sub [3, 4, 5, 0, 1, 2] rfl) (hD.sub [3, 4, 5, 0, 1, 2] (by decide) rfl) hS
abbrev rX0_list : Room := { frames := 27, cells := 0, slots := 0, locals := 718 }
set_option maxHeartbeats 4000000 in
set_option maxRecDepth 100000 in
theorem k_X0_list (l : Launch) (D : va_G) (cI cC cN : ClassId) (N : Nat) (q : Nat) (q_found : Nat) (q_before : Nat) (q_p0 : Nat) (q_p0_ends : Nat) (q_p0_colours : Nat) (sz : Nat) (f_found : Nat → Int32) (f_size : Int32) (f_before : Nat → Int32) (f_circles : Int32) (f_oddCircles : Int32) (f_longest : Int32) (f_p0_knots : Int32) (f_p0_threads : Int32) (f_p0_ends : Nat → Int32) (f_p0_colours : Nat → Int32) (f_found' : Nat → Int32) (f_size' : Int32) (f_before' : Nat → Int32) (hm : m_X0_list N f_found f_size f_before f_p0_knots f_p0_threads f_p0_ends = some (f_found', f_size', f_before')) : Met l yX0_list wsX0_list (rX0_list) (gPc D (tysG cI cC cN) [.ref q, .ref q_p0] [(q, .inr (0, [.ref q_found, .int f_size, .ref q_before, .int f_circles, .int f_oddCircles, .int f_longest])), (q_found, .inl (cI, 80, .inl f_found)), (q_before, .inl (cI, 21, .inl f_before)), (q_p0, .inr (2, [.int f_p0_knots, .int f_p0_threads, .ref q_p0_ends, .ref q_p0_colours])), (q_p0_ends, .inl (cI, 21, .inl f_p0_ends)), (q_p0_colours, .inl (cI, 21, .inl f_p0_colours))] sz) (gQv D (tysG cI cC cN) (va_A [(q, .inr (0, [.ref q_found, .int f_size, .ref q_before, .int f_circles, .int f_oddCircles, .int f_longest])), (q_found, .inl (cI, 80, .inl f_found)), (q_before, .inl (cI, 21, .inl f_before)), (q_p0, .inr (2, [.int f_p0_knots, .int f_p0_threads, .ref q_p0_ends, .ref q_p0_colours])), (q_p0_ends, .inl (cI, 21, .inl f_p0_ends)), (q_p0_colours, .inl (cI, 21, .inl f_p0_colours))] sz) [(q, .inr (0, [.ref q_found, .int f_size', .ref q_before, .int f_circles, .int f_oddCircles, .int f_longest])), (q_found, .inl (cI, 80, .inl f_found')), (q_before, .inl (cI, 21, .inl f_before')), (q_p0, .inr (2, [.int f_p0_knots, .int f_p0_threads, .ref q_p0_ends, .ref q_p0_colours])), (q_p0_ends, .inl (cI, 21, .inl f_p0_ends)), (q_p0_colours, .inl (cI, 21, .inl f_p0_colours))]) 0 0 (va_A [(q, .inr (0, [.ref q_found, .int f_size, .ref q_before, .int f_circles, .int f_oddCircles, .int f_longest])), (q_found, .inl (cI, 80, .inl f_found)), (q_before, .inl (cI, 21, .inl f_before)), (q_p0, .inr (2, [.int f_p0_knots, .int f_p0_threads, .ref q_p0_ends, .ref q_p0_colours])), (q_p0_ends, .inl (cI, 21, .inl f_p0_ends)), (q_p0_colours, .inl (cI, 21, .inl f_p0_colours))] sz) := by
  unfold m_X0_list at hm
  refine g_openV (cc := cX0_list) (maxL := 4) (own := RX0) (by decide) rfl rfl (Nat.le_of_ble_eq_true rfl) ?_
  intro p e s m args below meth c A Q hx hb hml hown hts hP hK hN hD hA hret ls hl
  have hS : va_S A s.heap s.heap [] := va_S.rf
  have hl : lv_has ls 4 [(0, .ref q), (1, .ref q_p0)] := hl
  refine lv_aload_n hx hb dX0_list_0 rfl (lv_at hl 0 rfl) ?_
  refine lv_iconst (v := 0) hx hb dX0_list_1 (by decide) ?_
  refine va_put (D := D) (ci := 0) (v := .int 0) (ty := .int) (C := RX0) (T := TX0) (N := 6) hx hb hts (by decide +kernel) tyX0 tyX0_ok nmX0 hown hK hP hD hS 0 rfl rfl 1 (by decide) (hts (.fieldLink RX0 18 "KnotStripes$Covers" "size" "I") (by decide +kernel)) (fun _ h9 => h9) rfl (by decide +kernel) rfl rfl (Nat.le_of_ble_eq_true rfl) dX0_list_2 (fun H locs hP hD hS => ?_)
  have hP : va_P D vwCl [(q, .inr (0, [.ref q_found, .int 0, .ref q_before, .int f_circles, .int f_oddCircles, .int f_longest])), (q_found, .inl (cI, 80, .inl f_found)), (q_before, .inl (cI, 21, .inl f_before)), (q_p0, .inr (2, [.int f_p0_knots, .int f_p0_threads, .ref q_p0_ends, .ref q_p0_colours])), (q_p0_ends, .inl (cI, 21, .inl f_p0_ends)), (q_p0_colours, .inl (cI, 21, .inl f_p0_colours))] H := hP
  have hD : va_D A [(q, .inr (0, [.ref q_found, .int 0, .ref q_before, .int f_circles, .int f_oddCircles, .int f_longest])), (q_found, .inl (cI, 80, .inl f_found)), (q_before, .inl (cI, 21, .inl f_before)), (q_p0, .inr (2, [.int f_p0_knots, .int f_p0_threads, .ref q_p0_ends, .ref q_p0_colours])), (q_p0_ends, .inl (cI, 21, .inl f_p0_ends)), (q_p0_colours, .inl (cI, 21, .inl f_p0_colours))] := hD
  refine lv_iconst (v := 0) hx hb dX0_list_5 (by decide) ?_
  refine lv_istore_n (lv' := [(2, .int 0), (0, .ref q), (1, .ref q_p0)]) hx hb dX0_list_6 rfl hl (by decide) rfl (fun ls hl => ?_)
  refine lv_iconst (v := 0) hx hb dX0_list_7 (by decide) ?_
  refine lv_istore_n (lv' := [(3, .int 0), (2, .int 0), (0, .ref q), (1, .ref q_p0)]) hx hb dX0_list_8 rfl hl (by decide) rfl (fun ls hl => ?_)
  obtain ⟨J40, hJ40, hm⟩ := jn_use hm
  have j40 : ∀ (x2_1 : Int32) (f_before_2 : Nat → Int32), ∀ (H : Heap) (locs : List Loc) (ls : Array Slot), va_P D vwCl [(q, .inr (0, [.ref q_found, .int 0, .ref q_before, .int f_circles, .int f_oddCircles, .int f_longest])), (q_found, .inl (cI, 80, .inl f_found)), (q_before, .inl (cI, 21, .inl f_before_2)), (q_p0, .inr (2, [.int f_p0_knots, .int f_p0_threads, .ref q_p0_ends, .ref q_p0_colours])), (q_p0_ends, .inl (cI, 21, .inl f_p0_ends)), (q_p0_colours, .inl (cI, 21, .inl f_p0_colours))] H → va_D A [(q, .inr (0, [.ref q_found, .int 0, .ref q_before, .int f_circles, .int f_oddCircles, .int f_longest])), (q_found, .inl (cI, 80, .inl f_found)), (q_before, .inl (cI, 21, .inl f_before_2)), (q_p0, .inr (2, [.int f_p0_knots, .int f_p0_threads, .ref q_p0_ends, .ref q_p0_colours])), (q_p0_ends, .inl (cI, 21, .inl f_p0_ends)), (q_p0_colours, .inl (cI, 21, .inl f_p0_colours))] → va_S A s.heap H locs → lv_has ls 4 [(2, .int x2_1), (0, .ref q), (1, .ref q_p0)] → J40 x2_1 f_before_2 = some (f_found', f_size', f_before') → W p l e rX0_list s m args below meth c H locs 0 0 Q (F0 m 40 ls []) := by
    intro x2_1 f_before_2 H locs ls hP hD hS hl hm
    rw [hJ40] at hm
    refine lv_iload_n hx hb dX0_list_40 rfl (lv_at hl 0 rfl) ?_
    refine lv_aload_n hx hb dX0_list_41 rfl (lv_at hl 2 rfl) ?_
    obtain ⟨r_3, h_4, hm⟩ := bind_use hm
    refine g_ki (wc := [(q_p0, .inr (2, [.int f_p0_knots, .int f_p0_threads, .ref q_p0_ends, .ref q_p0_colours])), (q_p0_ends, .inl (cI, 21, .inl f_p0_ends)), (q_p0_colours, .inl (cI, 21, .inl f_p0_colours))]) (wr := [(q, .inr (0, [.ref q_found, .int 0, .ref q_before, .int f_circles, .int f_oddCircles, .int f_longest])), (q_found, .inl (cI, 80, .inl f_found)), (q_before, .inl (cI, 21, .inl f_before_2))]) (w2 := [(q, .inr (0, [.ref q_found, .int 0, .ref q_before, .int f_circles, .int f_oddCircles, .int f_longest])), (q_found, .inl (cI, 80, .inl f_found)), (q_before, .inl (cI, 21, .inl f_before_2)), (q_p0, .inr (2, [.int f_p0_knots, .int f_p0_threads, .ref q_p0_ends, .ref q_p0_colours])), (q_p0_ends, .inl (cI, 21, .inl f_p0_ends)), (q_p0_colours, .inl (cI, 21, .inl f_p0_colours))]) (va_runV (As := []) (rest := [.int x2_1]) ⟨hx, hb, hml, hown, hts⟩ (k_X2_allKnots l D cI cC cN N q_p0 q_p0_ends q_p0_colours H.size f_p0_knots f_p0_threads f_p0_ends f_p0_colours r_3 h_4) (cwV 0 hts gX0_list_X2_allKnots rfl rfl rfl (by decide +kernel) ⟨Nat.le_of_ble_eq_true rfl, Nat.le_of_ble_eq_true rfl⟩) ⟨g_blind, va_recv (D := D) (ci := 2) (q0 := 3) hK hP rfl rfl, g_pre (hP.sub [3, 4, 5] rfl) hK hN (hD.sub [3, 4, 5] (by decide) rfl)⟩ rfl rfl hl.1 rfl (lv_room (Nat.le_of_ble_eq_true rfl)) dX0_list_42 ⟨Nat.zero_le _, Nat.zero_le _⟩) hP hD hS hA [3, 4, 5] [0, 1, 2] rfl rfl (by decide) (by decide) rfl (fun H locs hP hD hS => ?_)
    refine lv_icmp_ne (tgt := 61) hx hb dX0_list_45 (by decide) (fun hc => ?_) (fun hc => ?_)
    · have hm := if_f _ hc hm
      have z1 := so_use hm
      obtain ⟨y1, z2⟩ := pr_use z1
      obtain ⟨y2, z3⟩ := pr_use z2
      subst y1
      subst y2
      subst z3
      exact hret _ _ _ _ dX0_list_61 hP hD hS
    · have hm := if_t _ hc hm
      refine lv_aload_n hx hb dX0_list_48 rfl (lv_at hl 1 rfl) ?_
      refine lv_aload_n hx hb dX0_list_49 rfl (lv_at hl 2 rfl) ?_
      refine lv_aload_n hx hb dX0_list_50 rfl (lv_at hl 2 rfl) ?_
      obtain ⟨r_5, h_6, hm⟩ := bind_use hm
      refine g_ki (wc := [(q_p0, .inr (2, [.int f_p0_knots, .int f_p0_threads, .ref q_p0_ends, .ref q_p0_colours])), (q_p0_ends, .inl (cI, 21, .inl f_p0_ends)), (q_p0_colours, .inl (cI, 21, .inl f_p0_colours))]) (wr := [(q, .inr (0, [.ref q_found, .int 0, .ref q_before, .int f_circles, .int f_oddCircles, .int f_longest])), (q_found, .inl (cI, 80, .inl f_found)), (q_before, .inl (cI, 21, .inl f_before_2))]) (w2 := [(q, .inr (0, [.ref q_found, .int 0, .ref q_before, .int f_circles, .int f_oddCircles, .int f_longest])), (q_found, .inl (cI, 80, .inl f_found)), (q_before, .inl (cI, 21, .inl f_before_2)), (q_p0, .inr (2, [.int f_p0_knots, .int f_p0_threads, .ref q_p0_ends, .ref q_p0_colours])), (q_p0_ends, .inl (cI, 21, .inl f_p0_ends)), (q_p0_colours, .inl (cI, 21, .inl f_p0_colours))]) (va_runV (As := []) (rest := [.ref q_p0, .ref q]) ⟨hx, hb, hml, hown, hts⟩ (k_X2_threads l D cI cC cN N q_p0 q_p0_ends q_p0_colours H.size f_p0_knots f_p0_threads f_p0_ends f_p0_colours r_5 h_6) (cwV 0 hts gX0_list_X2_threads rfl rfl rfl (by decide +kernel) ⟨Nat.le_of_ble_eq_true rfl, Nat.le_of_ble_eq_true rfl⟩) ⟨g_blind, va_recv (D := D) (ci := 2) (q0 := 3) hK hP rfl rfl, g_pre (hP.sub [3, 4, 5] rfl) hK hN (hD.sub [3, 4, 5] (by decide) rfl)⟩ rfl rfl hl.1 rfl (lv_room (Nat.le_of_ble_eq_true rfl)) dX0_list_51 ⟨Nat.zero_le _, Nat.zero_le _⟩) hP hD hS hA [3, 4, 5] [0, 1, 2] rfl rfl (by decide) (by decide) rfl (fun H locs hP hD hS => ?_)
      refine lv_iconst (v := 1) hx hb dX0_list_54 (by decide) ?_
      refine lv_isub hx hb dX0_list_55 ?_
      refine lv_iconst (v := 0) hx hb dX0_list_56 (by decide) ?_
      refine lv_iconst (v := 0) hx hb dX0_list_57 (by decide) ?_
      obtain ⟨⟨f_found_7, f_size_8⟩, h_9, hm⟩ := bind_use hm
      refine g_kv (wc := [(q, .inr (0, [.ref q_found, .int 0, .ref q_before, .int f_circles, .int f_oddCircles, .int f_longest])), (q_found, .inl (cI, 80, .inl f_found)), (q_before, .inl (cI, 21, .inl f_before_2)), (q_p0, .inr (2, [.int f_p0_knots, .int f_p0_threads, .ref q_p0_ends, .ref q_p0_colours])), (q_p0_ends, .inl (cI, 21, .inl f_p0_ends)), (q_p0_colours, .inl (cI, 21, .inl f_p0_colours))]) (wr := []) (w2 := [(q, .inr (0, [.ref q_found, .int f_size_8, .ref q_before, .int f_circles, .int f_oddCircles, .int f_longest])), (q_found, .inl (cI, 80, .inl f_found_7)), (q_before, .inl (cI, 21, .inl f_before_2)), (q_p0, .inr (2, [.int f_p0_knots, .int f_p0_threads, .ref q_p0_ends, .ref q_p0_colours])), (q_p0_ends, .inl (cI, 21, .inl f_p0_ends)), (q_p0_colours, .inl (cI, 21, .inl f_p0_colours))]) (va_runS (As := [.ref q, .ref q_p0, .int (r_5 - 1), .int 0, .int 0]) (rest := []) ⟨hx, hb, hml, hown, hts⟩ (k_X0_decide l D cI cC cN N 24 q q_found q_before q_p0 q_p0_ends q_p0_colours H.size f_found 0 f_before_2 f_circles f_oddCircles f_longest f_p0_knots f_p0_threads f_p0_ends f_p0_colours (r_5 - 1) 0 0 f_found_7 f_size_8 h_9) (va_cwS 5 hts gX0_list_X0_decide rfl rfl rfl (by decide +kernel) ⟨Nat.le_of_ble_eq_true rfl, Nat.le_of_ble_eq_true rfl⟩) ⟨g_blind, g_pre (hP.sub [0, 1, 2, 3, 4, 5] rfl) hK hN (hD.sub [0, 1, 2, 3, 4, 5] (by decide) rfl)⟩ rfl rfl hl.1 rfl (lv_room (Nat.le_of_ble_eq_true rfl)) dX0_list_58 ⟨Nat.zero_le _, Nat.zero_le _⟩) hP hD hS hA [0, 1, 2, 3, 4, 5] [] rfl rfl (by decide) (by decide) rfl (fun H locs hP hD hS => ?_)
      have z1 := so_use hm
      obtain ⟨y1, z2⟩ := pr_use z1
      obtain ⟨y2, z3⟩ := pr_use z2
      subst y1
      subst y2
      subst z3
      exact hret _ _ _ _ dX0_list_61 hP hD hS
  have l9 : ∀ (n_9 : Nat) (x3_10 : Int32) (x2_11 : Int32) (f_before_12 : Nat → Int32), ∀ (H : Heap) (locs : List Loc) (ls : Array Slot), va_P D vwCl [(q, .inr (0, [.ref q_found, .int 0, .ref q_before, .int f_circles, .int f_oddCircles, .int f_longest])), (q_found, .inl (cI, 80, .inl f_found)), (q_before, .inl (cI, 21, .inl f_before_12)), (q_p0, .inr (2, [.int f_p0_knots, .int f_p0_threads, .ref q_p0_ends, .ref q_p0_colours])), (q_p0_ends, .inl (cI, 21, .inl f_p0_ends)), (q_p0_colours, .inl (cI, 21, .inl f_p0_colours))] H → va_D A [(q, .inr (0, [.ref q_found, .int 0, .ref q_before, .int f_circles, .int f_oddCircles, .int f_longest])), (q_found, .inl (cI, 80, .inl f_found)), (q_before, .inl (cI, 21, .inl f_before_12)), (q_p0, .inr (2, [.int f_p0_knots, .int f_p0_threads, .ref q_p0_ends, .ref q_p0_colours])), (q_p0_ends, .inl (cI, 21, .inl f_p0_ends)), (q_p0_colours, .inl (cI, 21, .inl f_p0_colours))] → va_S A s.heap H locs → lv_has ls 4 [(3, .int x3_10), (2, .int x2_11), (0, .ref q), (1, .ref q_p0)] → m_X0_list_L9 N f_p0_threads f_p0_ends J40 n_9 x3_10 x2_11 f_before_12 = some (f_found', f_size', f_before') → W p l e rX0_list s m args below meth c H locs 0 0 Q (F0 m 9 ls []) := by
    intro n_9
    induction n_9 with
    | zero => intro x3_10 x2_11 f_before_12 H locs ls hP hD hS hl hm; rw [m_X0_list_L9] at hm; exact no_use hm
    | succ n_9 ih9 =>
      intro x3_10 x2_11 f_before_12 H locs ls hP hD hS hl hm
      rw [m_X0_list_L9] at hm
      refine lv_iload_n hx hb dX0_list_9 rfl (lv_at hl 0 rfl) ?_
      refine lv_aload_n hx hb dX0_list_10 rfl (lv_at hl 3 rfl) ?_
      obtain ⟨r_13, h_14, hm⟩ := bind_use hm
      refine g_ki (wc := [(q_p0, .inr (2, [.int f_p0_knots, .int f_p0_threads, .ref q_p0_ends, .ref q_p0_colours])), (q_p0_ends, .inl (cI, 21, .inl f_p0_ends)), (q_p0_colours, .inl (cI, 21, .inl f_p0_colours))]) (wr := [(q, .inr (0, [.ref q_found, .int 0, .ref q_before, .int f_circles, .int f_oddCircles, .int f_longest])), (q_found, .inl (cI, 80, .inl f_found)), (q_before, .inl (cI, 21, .inl f_before_12))]) (w2 := [(q, .inr (0, [.ref q_found, .int 0, .ref q_before, .int f_circles, .int f_oddCircles, .int f_longest])), (q_found, .inl (cI, 80, .inl f_found)), (q_before, .inl (cI, 21, .inl f_before_12)), (q_p0, .inr (2, [.int f_p0_knots, .int f_p0_threads, .ref q_p0_ends, .ref q_p0_colours])), (q_p0_ends, .inl (cI, 21, .inl f_p0_ends)), (q_p0_colours, .inl (cI, 21, .inl f_p0_colours))]) (va_runV (As := []) (rest := [.int x3_10]) ⟨hx, hb, hml, hown, hts⟩ (k_X2_threads l D cI cC cN N q_p0 q_p0_ends q_p0_colours H.size f_p0_knots f_p0_threads f_p0_ends f_p0_colours r_13 h_14) (cwV 0 hts gX0_list_X2_threads rfl rfl rfl (by decide +kernel) ⟨Nat.le_of_ble_eq_true rfl, Nat.le_of_ble_eq_true rfl⟩) ⟨g_blind, va_recv (D := D) (ci := 2) (q0 := 3) hK hP rfl rfl, g_pre (hP.sub [3, 4, 5] rfl) hK hN (hD.sub [3, 4, 5] (by decide) rfl)⟩ rfl rfl hl.1 rfl (lv_room (Nat.le_of_ble_eq_true rfl)) dX0_list_11 ⟨Nat.zero_le _, Nat.zero_le _⟩) hP hD hS hA [3, 4, 5] [0, 1, 2] rfl rfl (by decide) (by decide) rfl (fun H locs hP hD hS => ?_)
      refine lv_icmp_ge (tgt := 40) hx hb dX0_list_14 (by decide) (fun hc => ?_) (fun hc => ?_)
      · have hm := if_t _ hc hm
        exact j40 x2_11 f_before_12 _ _ _ hP hD hS (lv_sub hl [1, 2, 3] rfl) hm
      · have hm := if_f _ hc hm
        refine lv_aload_n hx hb dX0_list_17 rfl (lv_at hl 2 rfl) ?_
        refine va_get (D := D) (ci := 0) (v := .ref q_before) (C := RX0) (T := TX0) (N := 6) hx hb hts (by decide +kernel) hown hK hP 0 rfl rfl 2 (by decide) (hts (.fieldLink RX0 15 "KnotStripes$Covers" "before" "[I") (by decide +kernel)) (fun _ h9 => h9) rfl dX0_list_18 ?_
        refine lv_iload_n hx hb dX0_list_21 rfl (lv_at hl 0 rfl) ?_
        refine lv_iload_n hx hb dX0_list_22 rfl (lv_at hl 1 rfl) ?_
        obtain ⟨f_before_15, h_16, hm⟩ := bind_use hm
        refine g_kv (wc := [(q_before, .inl (cI, 21, .inl f_before_12))]) (wr := [(q, .inr (0, [.ref q_found, .int 0, .ref q_before, .int f_circles, .int f_oddCircles, .int f_longest])), (q_found, .inl (cI, 80, .inl f_found)), (q_p0, .inr (2, [.int f_p0_knots, .int f_p0_threads, .ref q_p0_ends, .ref q_p0_colours])), (q_p0_ends, .inl (cI, 21, .inl f_p0_ends)), (q_p0_colours, .inl (cI, 21, .inl f_p0_colours))]) (w2 := [(q, .inr (0, [.ref q_found, .int 0, .ref q_before, .int f_circles, .int f_oddCircles, .int f_longest])), (q_found, .inl (cI, 80, .inl f_found)), (q_p0, .inr (2, [.int f_p0_knots, .int f_p0_threads, .ref q_p0_ends, .ref q_p0_colours])), (q_p0_ends, .inl (cI, 21, .inl f_p0_ends)), (q_p0_colours, .inl (cI, 21, .inl f_p0_colours)), (q_before, .inl (cI, 21, .inl f_before_15))]) (va_runSN (As := [.ref q_before, .int x3_10, .int x2_11]) (rest := []) ⟨hx, hb, hml, hown, hts⟩ (k_X6_put l D cI cC cN N q_before 21 H.size f_before_12 x3_10 x2_11 f_before_15 h_16) ⟨va_cnB 3 hts gX0_list_X6_put_n49 rfl rfl rfl (hN (.methodLinkNest RX0 49 yX6_put RX6) (by decide +kernel)) (hts (.initialized RX6) (by decide +kernel)) (by decide +kernel) ⟨Nat.le_of_ble_eq_true rfl, Nat.le_of_ble_eq_true rfl⟩, hts (.static yX6_put) (by decide +kernel), trivial⟩ ⟨g_blind, g_pre (hP.sub [2] rfl) hK hN (hD.sub [2] (by decide) rfl)⟩ rfl rfl hl.1 rfl (lv_room (Nat.le_of_ble_eq_true rfl)) dX0_list_23 ⟨Nat.zero_le _, Nat.zero_le _⟩) hP hD hS hA [2] [0, 1, 3, 4, 5] rfl rfl (by decide) (by decide) rfl (fun H locs hP hD hS => ?_)
        refine lv_iload_n hx hb dX0_list_26 rfl (lv_at hl 1 rfl) ?_
        refine lv_aload_n hx hb dX0_list_27 rfl (lv_at hl 3 rfl) ?_
        refine lv_iload_n hx hb dX0_list_28 rfl (lv_at hl 0 rfl) ?_
        obtain ⟨r_17, h_18, hm⟩ := bind_use hm
        refine g_ki (wc := [(q_p0, .inr (2, [.int f_p0_knots, .int f_p0_threads, .ref q_p0_ends, .ref q_p0_colours])), (q_p0_ends, .inl (cI, 21, .inl f_p0_ends)), (q_p0_colours, .inl (cI, 21, .inl f_p0_colours))]) (wr := [(q, .inr (0, [.ref q_found, .int 0, .ref q_before, .int f_circles, .int f_oddCircles, .int f_longest])), (q_found, .inl (cI, 80, .inl f_found)), (q_before, .inl (cI, 21, .inl f_before_15))]) (w2 := [(q, .inr (0, [.ref q_found, .int 0, .ref q_before, .int f_circles, .int f_oddCircles, .int f_longest])), (q_found, .inl (cI, 80, .inl f_found)), (q_before, .inl (cI, 21, .inl f_before_15)), (q_p0, .inr (2, [.int f_p0_knots, .int f_p0_threads, .ref q_p0_ends, .ref q_p0_colours])), (q_p0_ends, .inl (cI, 21, .inl f_p0_ends)), (q_p0_colours, .inl (cI, 21, .inl f_p0_colours))]) (va_runV (As := [.int x3_10]) (rest := [.int x2_11]) ⟨hx, hb, hml, hown, hts⟩ (k_X2_ends l D cI cC cN N q_p0 q_p0_ends q_p0_colours H.size f_p0_knots f_p0_threads f_p0_ends f_p0_colours x3_10 r_17 h_18) (cwV 1 hts gX0_list_X2_ends rfl rfl rfl (by decide +kernel) ⟨Nat.le_of_ble_eq_true rfl, Nat.le_of_ble_eq_true rfl⟩) ⟨g_blind, va_recv (D := D) (ci := 2) (q0 := 2) hK hP rfl rfl, g_pre (hP.sub [2, 3, 4] rfl) hK hN (hD.sub [2, 3, 4] (by decide) rfl)⟩ rfl rfl hl.1 rfl (lv_room (Nat.le_of_ble_eq_true rfl)) dX0_list_29 ⟨Nat.zero_le _, Nat.zero_le _⟩) hP hD hS hA [2, 3, 4] [0, 1, 5] rfl rfl (by decide) (by decide) rfl (fun H locs hP hD hS => ?_)
        refine lv_ior hx hb dX0_list_32 ?_
        refine lv_topi (fun v2_19 ev2_19 => ?_)
        have hm := nm_use ev2_19 hm
        refine lv_istore_n (lv' := [(2, .int v2_19), (3, .int x3_10), (0, .ref q), (1, .ref q_p0)]) hx hb dX0_list_33 rfl hl (by decide) rfl (fun ls hl => ?_)
        refine lv_iinc (v := (x3_10 + 1)) (lv' := [(3, .int (x3_10 + 1)), (2, .int v2_19), (0, .ref q), (1, .ref q_p0)]) hx hb dX0_list_34 hl (k := 1) rfl rfl (by decide) rfl (fun ls hl => ?_)
        refine lv_goto (tgt := 9) hx hb dX0_list_37 (by decide) ?_
        exact ih9 (x3_10 + 1) v2_19 f_before_15 _ _ _ hP hD hS hl hm
  exact l9 N 0 0 f_before _ _ _ hP hD hS hl hm
abbrev rX2_allThreads : Room := { frames := 1, cells := 0, slots := 0, locals := 20 }
set_option maxHeartbeats 4000000 in
set_option maxRecDepth 100000 in
theorem k_X2_allThreads (l : Launch) (D : va_G) (cI cC cN : ClassId) (N : Nat) (q : Nat) (q_ends : Nat) (q_colours : Nat) (sz : Nat) (f_knots : Int32) (f_threads : Int32) (f_ends : Nat → Int32) (f_colours : Nat → Int32) (r : Int32) (hm : m_X2_allThreads N f_threads = some r) : Met l yX2_allThreads wsX2_allThreads (rX2_allThreads) (gPc D (tysG cI cC cN) [.ref q] [(q, .inr (2, [.int f_knots, .int f_threads, .ref q_ends, .ref q_colours])), (q_ends, .inl (cI, 21, .inl f_ends)), (q_colours, .inl (cI, 21, .inl f_colours))] sz) (gQi D (tysG cI cC cN) (va_A [(q, .inr (2, [.int f_knots, .int f_threads, .ref q_ends, .ref q_colours])), (q_ends, .inl (cI, 21, .inl f_ends)), (q_colours, .inl (cI, 21, .inl f_colours))] sz) [(q, .inr (2, [.int f_knots, .int f_threads, .ref q_ends, .ref q_colours])), (q_ends, .inl (cI, 21, .inl f_ends)), (q_colours, .inl (cI, 21, .inl f_colours))] r) 0 0 (va_A [(q, .inr (2, [.int f_knots, .int f_threads, .ref q_ends, .ref q_colours])), (q_ends, .inl (cI, 21, .inl f_ends)), (q_colours, .inl (cI, 21, .inl f_colours))] sz) := by
  unfold m_X2_allThreads at hm
  refine g_openI (cc := cX2_allThreads) (maxL := 1) (own := RX2) (by decide) rfl rfl (Nat.le_of_ble_eq_true rfl) ?_
  intro p e s m args below meth c A Q hx hb hml hown hts hP hK hN hD hA hret ls hl
  have hS : va_S A s.heap s.heap [] := va_S.rf
  have hl : lv_has ls 1 [(0, .ref q)] := hl
  refine lv_aload_n hx hb dX2_allThreads_0 rfl (lv_at hl 0 rfl) ?_
  refine va_get (D := D) (ci := 2) (v := .int f_threads) (C := RX2) (T := TX2) (N := 4) hx hb hts (by decide +kernel) hown hK hP 0 rfl rfl 1 (by decide) (hts (.fieldLink RX2 15 "KnotStripes$Net" "threads" "I") (by decide +kernel)) (fun _ h9 => h9) rfl dX2_allThreads_1 ?_
  obtain ⟨r_1, h_2, hm⟩ := bind_use hm
  refine g_ki (wc := []) (wr := [(q, .inr (2, [.int f_knots, .int f_threads, .ref q_ends, .ref q_colours])), (q_ends, .inl (cI, 21, .inl f_ends)), (q_colours, .inl (cI, 21, .inl f_colours))]) (w2 := [(q, .inr (2, [.int f_knots, .int f_threads, .ref q_ends, .ref q_colours])), (q_ends, .inl (cI, 21, .inl f_ends)), (q_colours, .inl (cI, 21, .inl f_colours))]) (va_runSN (As := [.int f_threads]) (rest := []) ⟨hx, hb, hml, hown, hts⟩ (k_X6_bit l D cI cC cN N s.heap.size f_threads r_1 h_2) ⟨va_cnB 1 hts gX2_allThreads_X6_bit_n25 rfl rfl rfl (hN (.methodLinkNest RX2 25 yX6_bit RX6) (by decide +kernel)) (hts (.initialized RX6) (by decide +kernel)) (by decide +kernel) ⟨Nat.le_of_ble_eq_true rfl, Nat.le_of_ble_eq_true rfl⟩, hts (.static yX6_bit) (by decide +kernel), trivial⟩ ⟨g_blind, g_pre (hP.sub [] rfl) hK hN (hD.sub [] (by decide) rfl)⟩ rfl rfl hl.1 rfl (lv_room (Nat.le_of_ble_eq_true rfl)) dX2_allThreads_4 ⟨Nat.zero_le _, Nat.zero_le _⟩) hP hD hS hA [] [0, 1, 2] rfl rfl (by decide) (by decide) rfl (fun H locs hP hD hS => ?_)
  refine lv_iconst (v := 1) hx hb dX2_allThreads_7 (by decide) ?_
  refine lv_isub hx hb dX2_allThreads_8 ?_
  have z1 := so_use hm
  subst z1
  exact hret _ _ _ _ _ dX2_allThreads_9 rfl rfl hP hD hS
abbrev rX2_knots : Room := { frames := 0, cells := 0, slots := 0, locals := 0 }
set_option maxHeartbeats 4000000 in
set_option maxRecDepth 100000 in
theorem k_X2_knots (l : Launch) (D : va_G) (cI cC cN : ClassId) (N : Nat) (q : Nat) (q_ends : Nat) (q_colours : Nat) (sz : Nat) (f_knots : Int32) (f_threads : Int32) (f_ends : Nat → Int32) (f_colours : Nat → Int32) (r : Int32) (hm : m_X2_knots N f_knots = some r) : Met l yX2_knots wsX2_knots (rX2_knots) (gPc D (tysG cI cC cN) [.ref q] [(q, .inr (2, [.int f_knots, .int f_threads, .ref q_ends, .ref q_colours])), (q_ends, .inl (cI, 21, .inl f_ends)), (q_colours, .inl (cI, 21, .inl f_colours))] sz) (gQi D (tysG cI cC cN) (va_A [(q, .inr (2, [.int f_knots, .int f_threads, .ref q_ends, .ref q_colours])), (q_ends, .inl (cI, 21, .inl f_ends)), (q_colours, .inl (cI, 21, .inl f_colours))] sz) [(q, .inr (2, [.int f_knots, .int f_threads, .ref q_ends, .ref q_colours])), (q_ends, .inl (cI, 21, .inl f_ends)), (q_colours, .inl (cI, 21, .inl f_colours))] r) 0 0 (va_A [(q, .inr (2, [.int f_knots, .int f_threads, .ref q_ends, .ref q_colours])), (q_ends, .inl (cI, 21, .inl f_ends)), (q_colours, .inl (cI, 21, .inl f_colours))] sz) := by
  unfold m_X2_knots at hm
  refine g_openI (cc := cX2_knots) (maxL := 1) (own := RX2) (by decide) rfl rfl (Nat.le_of_ble_eq_true rfl) ?_
  intro p e s m args below meth c A Q hx hb hml hown hts hP hK hN hD hA hret ls hl
  have hS : va_S A s.heap s.heap [] := va_S.rf
  have hl : lv_has ls 1 [(0, .ref q)] := hl
  refine lv_aload_n hx hb dX2_knots_0 rfl (lv_at hl 0 rfl) ?_
  refine va_get (D := D) (ci := 2) (v := .int f_knots) (C := RX2) (T := TX2) (N := 4) hx hb hts (by decide +kernel) hown hK hP 0 rfl rfl 0 (by decide) (hts (.fieldLink RX2 9 "KnotStripes$Net" "knots" "I") (by decide +kernel)) (fun _ h9 => h9) rfl dX2_knots_1 ?_
  have z1 := so_use hm
  subst z1
  exact hret _ _ _ _ _ dX2_knots_4 rfl rfl hP hD hS
abbrev rX5_spread : Room := { frames := 2, cells := 0, slots := 0, locals := 42 }
set_option maxHeartbeats 4000000 in
set_option maxRecDepth 100000 in
theorem k_X5_spread (l : Launch) (D : va_G) (cI cC cN : ClassId) (N : Nat) (q_p0 : Nat) (q_p0_ends : Nat) (q_p0_colours : Nat) (sz : Nat) (f_p0_knots : Int32) (f_p0_threads : Int32) (f_p0_ends : Nat → Int32) (f_p0_colours : Nat → Int32) (a1 : Int32) (a2 : Int32) (r : Int32) (hm : m_X5_spread N f_p0_threads f_p0_ends a1 a2 = some r) : Met l yX5_spread wsX5_spread (rX5_spread) (gPc D (tysG cI cC cN) [.ref q_p0, .int a1, .int a2] [(q_p0, .inr (2, [.int f_p0_knots, .int f_p0_threads, .ref q_p0_ends, .ref q_p0_colours])), (q_p0_ends, .inl (cI, 21, .inl f_p0_ends)), (q_p0_colours, .inl (cI, 21, .inl f_p0_colours))] sz) (gQi D (tysG cI cC cN) (va_A [(q_p0, .inr (2, [.int f_p0_knots, .int f_p0_threads, .ref q_p0_ends, .ref q_p0_colours])), (q_p0_ends, .inl (cI, 21, .inl f_p0_ends)), (q_p0_colours, .inl (cI, 21, .inl f_p0_colours))] sz) [(q_p0, .inr (2, [.int f_p0_knots, .int f_p0_threads, .ref q_p0_ends, .ref q_p0_colours])), (q_p0_ends, .inl (cI, 21, .inl f_p0_ends)), (q_p0_colours, .inl (cI, 21, .inl f_p0_colours))] r) 0 0 (va_A [(q_p0, .inr (2, [.int f_p0_knots, .int f_p0_threads, .ref q_p0_ends, .ref q_p0_colours])), (q_p0_ends, .inl (cI, 21, .inl f_p0_ends)), (q_p0_colours, .inl (cI, 21, .inl f_p0_colours))] sz) := by
  unfold m_X5_spread at hm
  refine g_openI (cc := cX5_spread) (maxL := 5) (own := RX5) (by decide) rfl rfl (Nat.le_of_ble_eq_true rfl) ?_
  intro p e s m args below meth c A Q hx hb hml hown hts hP hK hN hD hA hret ls hl
  have hS : va_S A s.heap s.heap [] := va_S.rf
  have hl : lv_has ls 5 [(0, .ref q_p0), (1, .int a1), (2, .int a2)] := hl
  refine lv_iload_n hx hb dX5_spread_0 rfl (lv_at hl 1 rfl) ?_
  refine lv_istore_n (lv' := [(3, .int a1), (0, .ref q_p0), (1, .int a1), (2, .int a2)]) hx hb dX5_spread_1 rfl hl (by decide) rfl (fun ls hl => ?_)
  refine lv_iconst (v := 0) hx hb dX5_spread_2 (by decide) ?_
  refine lv_istore (lv' := [(4, .int 0), (3, .int a1), (0, .ref q_p0), (1, .int a1), (2, .int a2)]) hx hb dX5_spread_3 hl (by decide) rfl (fun ls hl => ?_)
  have l5 : ∀ (n_5 : Nat) (x4_1 : Int32) (x3_2 : Int32), ∀ (H : Heap) (locs : List Loc) (ls : Array Slot), va_P D vwCl [(q_p0, .inr (2, [.int f_p0_knots, .int f_p0_threads, .ref q_p0_ends, .ref q_p0_colours])), (q_p0_ends, .inl (cI, 21, .inl f_p0_ends)), (q_p0_colours, .inl (cI, 21, .inl f_p0_colours))] H → va_D A [(q_p0, .inr (2, [.int f_p0_knots, .int f_p0_threads, .ref q_p0_ends, .ref q_p0_colours])), (q_p0_ends, .inl (cI, 21, .inl f_p0_ends)), (q_p0_colours, .inl (cI, 21, .inl f_p0_colours))] → va_S A s.heap H locs → lv_has ls 5 [(4, .int x4_1), (3, .int x3_2), (0, .ref q_p0), (1, .int a1), (2, .int a2)] → m_X5_spread_L5 N f_p0_threads f_p0_ends a1 a2 n_5 x4_1 x3_2 = some r → W p l e rX5_spread s m args below meth c H locs 0 0 Q (F0 m 5 ls []) := by
    intro n_5
    induction n_5 with
    | zero => intro x4_1 x3_2 H locs ls hP hD hS hl hm; rw [m_X5_spread_L5] at hm; exact no_use hm
    | succ n_5 ih5 =>
      intro x4_1 x3_2 H locs ls hP hD hS hl hm
      rw [m_X5_spread_L5] at hm
      refine lv_iload hx hb dX5_spread_5 (lv_at hl 0 rfl) ?_
      refine lv_aload_n hx hb dX5_spread_7 rfl (lv_at hl 2 rfl) ?_
      obtain ⟨r_3, h_4, hm⟩ := bind_use hm
      refine g_ki (wc := [(q_p0, .inr (2, [.int f_p0_knots, .int f_p0_threads, .ref q_p0_ends, .ref q_p0_colours])), (q_p0_ends, .inl (cI, 21, .inl f_p0_ends)), (q_p0_colours, .inl (cI, 21, .inl f_p0_colours))]) (wr := []) (w2 := [(q_p0, .inr (2, [.int f_p0_knots, .int f_p0_threads, .ref q_p0_ends, .ref q_p0_colours])), (q_p0_ends, .inl (cI, 21, .inl f_p0_ends)), (q_p0_colours, .inl (cI, 21, .inl f_p0_colours))]) (va_runV (As := []) (rest := [.int x4_1]) ⟨hx, hb, hml, hown, hts⟩ (k_X2_threads l D cI cC cN N q_p0 q_p0_ends q_p0_colours H.size f_p0_knots f_p0_threads f_p0_ends f_p0_colours r_3 h_4) (cwV 0 hts gX5_spread_X2_threads rfl rfl rfl (by decide +kernel) ⟨Nat.le_of_ble_eq_true rfl, Nat.le_of_ble_eq_true rfl⟩) ⟨g_blind, va_recv (D := D) (ci := 2) (q0 := 0) hK hP rfl rfl, g_pre (hP.sub [0, 1, 2] rfl) hK hN (hD.sub [0, 1, 2] (by decide) rfl)⟩ rfl rfl hl.1 rfl (lv_room (Nat.le_of_ble_eq_true rfl)) dX5_spread_8 ⟨Nat.zero_le _, Nat.zero_le _⟩) hP hD hS hA [0, 1, 2] [] rfl rfl (by decide) (by decide) rfl (fun H locs hP hD hS => ?_)
      refine lv_icmp_ge (tgt := 49) hx hb dX5_spread_11 (by decide) (fun hc => ?_) (fun hc => ?_)
      · have hm := if_t _ hc hm
        refine lv_iload_n hx hb dX5_spread_49 rfl (lv_at hl 1 rfl) ?_
        have z1 := so_use hm
        subst z1
        exact hret _ _ _ _ _ dX5_spread_50 rfl rfl hP hD hS
      · have hm := if_f _ hc hm
        refine lv_iload_n hx hb dX5_spread_14 rfl (lv_at hl 4 rfl) ?_
        refine lv_iload hx hb dX5_spread_15 (lv_at hl 0 rfl) ?_
        obtain ⟨r_5, h_6, hm⟩ := bind_use hm
        refine g_ki (wc := []) (wr := [(q_p0, .inr (2, [.int f_p0_knots, .int f_p0_threads, .ref q_p0_ends, .ref q_p0_colours])), (q_p0_ends, .inl (cI, 21, .inl f_p0_ends)), (q_p0_colours, .inl (cI, 21, .inl f_p0_colours))]) (w2 := [(q_p0, .inr (2, [.int f_p0_knots, .int f_p0_threads, .ref q_p0_ends, .ref q_p0_colours])), (q_p0_ends, .inl (cI, 21, .inl f_p0_ends)), (q_p0_colours, .inl (cI, 21, .inl f_p0_colours))]) (va_runSN (As := [.int a2, .int x4_1]) (rest := []) ⟨hx, hb, hml, hown, hts⟩ (k_X6_holds l D cI cC cN N H.size a2 x4_1 r_5 h_6) ⟨va_cnB 2 hts gX5_spread_X6_holds_n15 rfl rfl rfl (hN (.methodLinkNest RX5 15 yX6_holds RX6) (by decide +kernel)) (hts (.initialized RX6) (by decide +kernel)) (by decide +kernel) ⟨Nat.le_of_ble_eq_true rfl, Nat.le_of_ble_eq_true rfl⟩, hts (.static yX6_holds) (by decide +kernel), trivial⟩ ⟨g_blind, g_pre (hP.sub [] rfl) hK hN (hD.sub [] (by decide) rfl)⟩ rfl rfl hl.1 rfl (lv_room (Nat.le_of_ble_eq_true rfl)) dX5_spread_17 ⟨Nat.zero_le _, Nat.zero_le _⟩) hP hD hS hA [] [0, 1, 2] rfl rfl (by decide) (by decide) rfl (fun H locs hP hD hS => ?_)
        refine lv_if_eq (tgt := 43) hx hb dX5_spread_20 (by decide) (fun hc => ?_) (fun hc => ?_)
        · have hm := if_t _ hc hm
          refine lv_iinc (v := (x4_1 + 1)) (lv' := [(4, .int (x4_1 + 1)), (3, .int x3_2), (0, .ref q_p0), (1, .int a1), (2, .int a2)]) hx hb dX5_spread_43 hl (k := 0) rfl rfl (by decide) rfl (fun ls hl => ?_)
          refine lv_goto (tgt := 5) hx hb dX5_spread_46 (by decide) ?_
          exact ih5 (x4_1 + 1) x3_2 _ _ _ hP hD hS hl hm
        · have hm := if_f _ hc hm
          refine lv_aload_n hx hb dX5_spread_23 rfl (lv_at hl 2 rfl) ?_
          refine lv_iload hx hb dX5_spread_24 (lv_at hl 0 rfl) ?_
          obtain ⟨r_7, h_8, hm⟩ := bind_use hm
          refine g_ki (wc := [(q_p0, .inr (2, [.int f_p0_knots, .int f_p0_threads, .ref q_p0_ends, .ref q_p0_colours])), (q_p0_ends, .inl (cI, 21, .inl f_p0_ends)), (q_p0_colours, .inl (cI, 21, .inl f_p0_colours))]) (wr := []) (w2 := [(q_p0, .inr (2, [.int f_p0_knots, .int f_p0_threads, .ref q_p0_ends, .ref q_p0_colours])), (q_p0_ends, .inl (cI, 21, .inl f_p0_ends)), (q_p0_colours, .inl (cI, 21, .inl f_p0_colours))]) (va_runV (As := [.int x4_1]) (rest := []) ⟨hx, hb, hml, hown, hts⟩ (k_X2_ends l D cI cC cN N q_p0 q_p0_ends q_p0_colours H.size f_p0_knots f_p0_threads f_p0_ends f_p0_colours x4_1 r_7 h_8) (cwV 1 hts gX5_spread_X2_ends rfl rfl rfl (by decide +kernel) ⟨Nat.le_of_ble_eq_true rfl, Nat.le_of_ble_eq_true rfl⟩) ⟨g_blind, va_recv (D := D) (ci := 2) (q0 := 0) hK hP rfl rfl, g_pre (hP.sub [0, 1, 2] rfl) hK hN (hD.sub [0, 1, 2] (by decide) rfl)⟩ rfl rfl hl.1 rfl (lv_room (Nat.le_of_ble_eq_true rfl)) dX5_spread_26 ⟨Nat.zero_le _, Nat.zero_le _⟩) hP hD hS hA [0, 1, 2] [] rfl rfl (by decide) (by decide) rfl (fun H locs hP hD hS => ?_)
          refine lv_iload_n hx hb dX5_spread_29 rfl (lv_at hl 3 rfl) ?_
          refine lv_iand hx hb dX5_spread_30 ?_
          refine lv_if_eq (tgt := 43) hx hb dX5_spread_31 (by decide) (fun hc => ?_) (fun hc => ?_)
          · have hm := if_t _ hc hm
            refine lv_iinc (v := (x4_1 + 1)) (lv' := [(4, .int (x4_1 + 1)), (3, .int x3_2), (0, .ref q_p0), (1, .int a1), (2, .int a2)]) hx hb dX5_spread_43 hl (k := 0) rfl rfl (by decide) rfl (fun ls hl => ?_)
            refine lv_goto (tgt := 5) hx hb dX5_spread_46 (by decide) ?_
            exact ih5 (x4_1 + 1) x3_2 _ _ _ hP hD hS hl hm
          · have hm := if_f _ hc hm
            refine lv_iload_n hx hb dX5_spread_34 rfl (lv_at hl 1 rfl) ?_
            refine lv_aload_n hx hb dX5_spread_35 rfl (lv_at hl 2 rfl) ?_
            refine lv_iload hx hb dX5_spread_36 (lv_at hl 0 rfl) ?_
            obtain ⟨r_9, h_10, hm⟩ := bind_use hm
            refine g_ki (wc := [(q_p0, .inr (2, [.int f_p0_knots, .int f_p0_threads, .ref q_p0_ends, .ref q_p0_colours])), (q_p0_ends, .inl (cI, 21, .inl f_p0_ends)), (q_p0_colours, .inl (cI, 21, .inl f_p0_colours))]) (wr := []) (w2 := [(q_p0, .inr (2, [.int f_p0_knots, .int f_p0_threads, .ref q_p0_ends, .ref q_p0_colours])), (q_p0_ends, .inl (cI, 21, .inl f_p0_ends)), (q_p0_colours, .inl (cI, 21, .inl f_p0_colours))]) (va_runV (As := [.int x4_1]) (rest := [.int x3_2]) ⟨hx, hb, hml, hown, hts⟩ (k_X2_ends l D cI cC cN N q_p0 q_p0_ends q_p0_colours H.size f_p0_knots f_p0_threads f_p0_ends f_p0_colours x4_1 r_9 h_10) (cwV 1 hts gX5_spread_X2_ends rfl rfl rfl (by decide +kernel) ⟨Nat.le_of_ble_eq_true rfl, Nat.le_of_ble_eq_true rfl⟩) ⟨g_blind, va_recv (D := D) (ci := 2) (q0 := 0) hK hP rfl rfl, g_pre (hP.sub [0, 1, 2] rfl) hK hN (hD.sub [0, 1, 2] (by decide) rfl)⟩ rfl rfl hl.1 rfl (lv_room (Nat.le_of_ble_eq_true rfl)) dX5_spread_38 ⟨Nat.zero_le _, Nat.zero_le _⟩) hP hD hS hA [0, 1, 2] [] rfl rfl (by decide) (by decide) rfl (fun H locs hP hD hS => ?_)
            refine lv_ior hx hb dX5_spread_41 ?_
            refine lv_topi (fun v3_11 ev3_11 => ?_)
            have hm := nm_use ev3_11 hm
            refine lv_istore_n (lv' := [(3, .int v3_11), (4, .int x4_1), (0, .ref q_p0), (1, .int a1), (2, .int a2)]) hx hb dX5_spread_42 rfl hl (by decide) rfl (fun ls hl => ?_)
            refine lv_iinc (v := (x4_1 + 1)) (lv' := [(4, .int (x4_1 + 1)), (3, .int v3_11), (0, .ref q_p0), (1, .int a1), (2, .int a2)]) hx hb dX5_spread_43 hl (k := 1) rfl rfl (by decide) rfl (fun ls hl => ?_)
            refine lv_goto (tgt := 5) hx hb dX5_spread_46 (by decide) ?_
            exact ih5 (x4_1 + 1) v3_11 _ _ _ hP hD hS hl hm
  exact l5 N 0 a1 _ _ _ hP hD hS hl hm
abbrev rX5_reached : Room := { frames := 3, cells := 0, slots := 0, locals := 66 }
set_option maxHeartbeats 4000000 in
set_option maxRecDepth 100000 in
theorem k_X5_reached (l : Launch) (D : va_G) (cI cC cN : ClassId) (N : Nat) (q_p0 : Nat) (q_p0_ends : Nat) (q_p0_colours : Nat) (sz : Nat) (f_p0_knots : Int32) (f_p0_threads : Int32) (f_p0_ends : Nat → Int32) (f_p0_colours : Nat → Int32) (a1 : Int32) (a2 : Int32) (r : Int32) (hm : m_X5_reached N f_p0_threads f_p0_ends a1 a2 = some r) : Met l yX5_reached wsX5_reached (rX5_reached) (gPc D (tysG cI cC cN) [.ref q_p0, .int a1, .int a2] [(q_p0, .inr (2, [.int f_p0_knots, .int f_p0_threads, .ref q_p0_ends, .ref q_p0_colours])), (q_p0_ends, .inl (cI, 21, .inl f_p0_ends)), (q_p0_colours, .inl (cI, 21, .inl f_p0_colours))] sz) (gQi D (tysG cI cC cN) (va_A [(q_p0, .inr (2, [.int f_p0_knots, .int f_p0_threads, .ref q_p0_ends, .ref q_p0_colours])), (q_p0_ends, .inl (cI, 21, .inl f_p0_ends)), (q_p0_colours, .inl (cI, 21, .inl f_p0_colours))] sz) [(q_p0, .inr (2, [.int f_p0_knots, .int f_p0_threads, .ref q_p0_ends, .ref q_p0_colours])), (q_p0_ends, .inl (cI, 21, .inl f_p0_ends)), (q_p0_colours, .inl (cI, 21, .inl f_p0_colours))] r) 0 0 (va_A [(q_p0, .inr (2, [.int f_p0_knots, .int f_p0_threads, .ref q_p0_ends, .ref q_p0_colours])), (q_p0_ends, .inl (cI, 21, .inl f_p0_ends)), (q_p0_colours, .inl (cI, 21, .inl f_p0_colours))] sz) := by
  unfold m_X5_reached at hm
  refine g_openI (cc := cX5_reached) (maxL := 6) (own := RX5) (by decide) rfl rfl (Nat.le_of_ble_eq_true rfl) ?_
  intro p e s m args below meth c A Q hx hb hml hown hts hP hK hN hD hA hret ls hl
  have hS : va_S A s.heap s.heap [] := va_S.rf
  have hl : lv_has ls 6 [(0, .ref q_p0), (1, .int a1), (2, .int a2)] := hl
  refine lv_iload_n hx hb dX5_reached_0 rfl (lv_at hl 1 rfl) ?_
  refine lv_istore_n (lv' := [(3, .int a1), (0, .ref q_p0), (1, .int a1), (2, .int a2)]) hx hb dX5_reached_1 rfl hl (by decide) rfl (fun ls hl => ?_)
  refine lv_iconst (v := 0) hx hb dX5_reached_2 (by decide) ?_
  refine lv_istore (lv' := [(4, .int 0), (3, .int a1), (0, .ref q_p0), (1, .int a1), (2, .int a2)]) hx hb dX5_reached_3 hl (by decide) rfl (fun ls hl => ?_)
  have l5 : ∀ (n_5 : Nat) (x4_1 : Int32) (x3_2 : Int32), ∀ (H : Heap) (locs : List Loc) (ls : Array Slot), va_P D vwCl [(q_p0, .inr (2, [.int f_p0_knots, .int f_p0_threads, .ref q_p0_ends, .ref q_p0_colours])), (q_p0_ends, .inl (cI, 21, .inl f_p0_ends)), (q_p0_colours, .inl (cI, 21, .inl f_p0_colours))] H → va_D A [(q_p0, .inr (2, [.int f_p0_knots, .int f_p0_threads, .ref q_p0_ends, .ref q_p0_colours])), (q_p0_ends, .inl (cI, 21, .inl f_p0_ends)), (q_p0_colours, .inl (cI, 21, .inl f_p0_colours))] → va_S A s.heap H locs → lv_has ls 6 [(4, .int x4_1), (3, .int x3_2), (0, .ref q_p0), (2, .int a2)] → m_X5_reached_L5 N f_p0_threads f_p0_ends a2 n_5 x4_1 x3_2 = some r → W p l e rX5_reached s m args below meth c H locs 0 0 Q (F0 m 5 ls []) := by
    intro n_5
    induction n_5 with
    | zero => intro x4_1 x3_2 H locs ls hP hD hS hl hm; rw [m_X5_reached_L5] at hm; exact no_use hm
    | succ n_5 ih5 =>
      intro x4_1 x3_2 H locs ls hP hD hS hl hm
      rw [m_X5_reached_L5] at hm
      refine lv_iload hx hb dX5_reached_5 (lv_at hl 0 rfl) ?_
      refine lv_bipush (v := 14) hx hb dX5_reached_7 (by decide) ?_
      refine lv_icmp_ge (tgt := 38) hx hb dX5_reached_9 (by decide) (fun hc => ?_) (fun hc => ?_)
      · have hm := if_t _ hc hm
        refine lv_iload_n hx hb dX5_reached_38 rfl (lv_at hl 1 rfl) ?_
        have z1 := so_use hm
        subst z1
        exact hret _ _ _ _ _ dX5_reached_39 rfl rfl hP hD hS
      · have hm := if_f _ hc hm
        refine lv_aload_n hx hb dX5_reached_12 rfl (lv_at hl 2 rfl) ?_
        refine lv_iload_n hx hb dX5_reached_13 rfl (lv_at hl 1 rfl) ?_
        refine lv_iload_n hx hb dX5_reached_14 rfl (lv_at hl 3 rfl) ?_
        obtain ⟨r_3, h_4, hm⟩ := bind_use hm
        refine g_ki (wc := [(q_p0, .inr (2, [.int f_p0_knots, .int f_p0_threads, .ref q_p0_ends, .ref q_p0_colours])), (q_p0_ends, .inl (cI, 21, .inl f_p0_ends)), (q_p0_colours, .inl (cI, 21, .inl f_p0_colours))]) (wr := []) (w2 := [(q_p0, .inr (2, [.int f_p0_knots, .int f_p0_threads, .ref q_p0_ends, .ref q_p0_colours])), (q_p0_ends, .inl (cI, 21, .inl f_p0_ends)), (q_p0_colours, .inl (cI, 21, .inl f_p0_colours))]) (va_runS (As := [.ref q_p0, .int x3_2, .int a2]) (rest := []) ⟨hx, hb, hml, hown, hts⟩ (k_X5_spread l D cI cC cN N q_p0 q_p0_ends q_p0_colours H.size f_p0_knots f_p0_threads f_p0_ends f_p0_colours x3_2 a2 r_3 h_4) (va_cwS 3 hts gX5_reached_X5_spread rfl rfl rfl (by decide +kernel) ⟨Nat.le_of_ble_eq_true rfl, Nat.le_of_ble_eq_true rfl⟩) ⟨g_blind, g_pre (hP.sub [0, 1, 2] rfl) hK hN (hD.sub [0, 1, 2] (by decide) rfl)⟩ rfl rfl hl.1 rfl (lv_room (Nat.le_of_ble_eq_true rfl)) dX5_reached_15 ⟨Nat.zero_le _, Nat.zero_le _⟩) hP hD hS hA [0, 1, 2] [] rfl rfl (by decide) (by decide) rfl (fun H locs hP hD hS => ?_)
        refine lv_istore (lv' := [(5, .int r_3), (4, .int x4_1), (3, .int x3_2), (0, .ref q_p0), (2, .int a2)]) hx hb dX5_reached_18 hl (by decide) rfl (fun ls hl => ?_)
        refine lv_iload hx hb dX5_reached_20 (lv_at hl 0 rfl) ?_
        refine lv_iload_n hx hb dX5_reached_22 rfl (lv_at hl 2 rfl) ?_
        refine lv_icmp_ne (tgt := 29) hx hb dX5_reached_23 (by decide) (fun hc => ?_) (fun hc => ?_)
        · have hm := if_f _ hc hm
          refine lv_iload hx hb dX5_reached_29 (lv_at hl 0 rfl) ?_
          refine lv_istore_n (lv' := [(3, .int r_3), (5, .int r_3), (4, .int x4_1), (0, .ref q_p0), (2, .int a2)]) hx hb dX5_reached_31 rfl hl (by decide) rfl (fun ls hl => ?_)
          refine lv_iinc (v := (x4_1 + 1)) (lv' := [(4, .int (x4_1 + 1)), (3, .int r_3), (5, .int r_3), (0, .ref q_p0), (2, .int a2)]) hx hb dX5_reached_32 hl (k := 2) rfl rfl (by decide) rfl (fun ls hl => ?_)
          refine lv_goto (tgt := 5) hx hb dX5_reached_35 (by decide) ?_
          exact ih5 (x4_1 + 1) r_3 _ _ _ hP hD hS (lv_sub hl [0, 1, 3, 4] rfl) hm
        · have hm := if_t _ hc hm
          refine lv_goto (tgt := 38) hx hb dX5_reached_26 (by decide) ?_
          refine lv_iload_n hx hb dX5_reached_38 rfl (lv_at hl 2 rfl) ?_
          have z1 := so_use hm
          subst z1
          exact hret _ _ _ _ _ dX5_reached_39 rfl rfl hP hD hS
  exact l5 N 0 a1 _ _ _ hP hD hS (lv_sub hl [0, 1, 2, 4] rfl) hm
abbrev rJ6_bitCount_0f7a4 : Room := { frames := 0, cells := 0, slots := 0, locals := 0 }
set_option maxHeartbeats 4000000 in
set_option maxRecDepth 100000 in
theorem k_J6_bitCount_0f7a4 (l : Launch) (D : va_G) (cI cC cN : ClassId) (N : Nat) (sz : Nat) (a0 : Int32) (r : Int32) (hm : m_J6_bitCount_0f7a4 N a0 = some r) : Met l yJ6_bitCount_0f7a4 wsJ6_bitCount_0f7a4 (rJ6_bitCount_0f7a4) (gPc D (tysG cI cC cN) [.int a0] [] sz) (gQi D (tysG cI cC cN) (va_A [] sz) [] r) 0 0 (va_A [] sz) := by
  unfold m_J6_bitCount_0f7a4 at hm
  refine g_openI (cc := cJ6_bitCount_0f7a4) (maxL := 1) (own := RJ6) (by decide) rfl rfl (Nat.le_of_ble_eq_true rfl) ?_
  intro p e s m args below meth c A Q hx hb hml hown hts hP hK hN hD hA hret ls hl
  have hS : va_S A s.heap s.heap [] := va_S.rf
  have hl : lv_has ls 1 [(0, .int a0)] := hl
  refine lv_iload_n hx hb dJ6_bitCount_0f7a4_0 rfl (lv_at hl 0 rfl) ?_
  refine lv_iload_n hx hb dJ6_bitCount_0f7a4_1 rfl (lv_at hl 0 rfl) ?_
  refine lv_iconst (v := 1) hx hb dJ6_bitCount_0f7a4_2 (by decide) ?_
  refine gv_iushr hx hb dJ6_bitCount_0f7a4_3 ?_
  refine lv_ldcw (own := RJ6) (index := 265) (v := 1431655765) hx hb hown (hts (.constant RJ6 265 1431655765) (by decide +kernel)) dJ6_bitCount_0f7a4_4 ?_
  refine lv_iand hx hb dJ6_bitCount_0f7a4_7 ?_
  refine lv_isub hx hb dJ6_bitCount_0f7a4_8 ?_
  refine lv_topi (fun v0_1 ev0_1 => ?_)
  have hm := nm_use ev0_1 hm
  refine lv_istore_n (lv' := [(0, .int v0_1)]) hx hb dJ6_bitCount_0f7a4_9 rfl hl (by decide) rfl (fun ls hl => ?_)
  refine lv_iload_n hx hb dJ6_bitCount_0f7a4_10 rfl (lv_at hl 0 rfl) ?_
  refine lv_ldcw (own := RJ6) (index := 266) (v := 858993459) hx hb hown (hts (.constant RJ6 266 858993459) (by decide +kernel)) dJ6_bitCount_0f7a4_11 ?_
  refine lv_iand hx hb dJ6_bitCount_0f7a4_14 ?_
  refine lv_iload_n hx hb dJ6_bitCount_0f7a4_15 rfl (lv_at hl 0 rfl) ?_
  refine lv_iconst (v := 2) hx hb dJ6_bitCount_0f7a4_16 (by decide) ?_
  refine gv_iushr hx hb dJ6_bitCount_0f7a4_17 ?_
  refine lv_ldcw (own := RJ6) (index := 266) (v := 858993459) hx hb hown (hts (.constant RJ6 266 858993459) (by decide +kernel)) dJ6_bitCount_0f7a4_18 ?_
  refine lv_iand hx hb dJ6_bitCount_0f7a4_21 ?_
  refine lv_iadd hx hb dJ6_bitCount_0f7a4_22 ?_
  refine lv_topi (fun v0_2 ev0_2 => ?_)
  have hm := nm_use ev0_2 hm
  refine lv_istore_n (lv' := [(0, .int v0_2)]) hx hb dJ6_bitCount_0f7a4_23 rfl hl (by decide) rfl (fun ls hl => ?_)
  refine lv_iload_n hx hb dJ6_bitCount_0f7a4_24 rfl (lv_at hl 0 rfl) ?_
  refine lv_iload_n hx hb dJ6_bitCount_0f7a4_25 rfl (lv_at hl 0 rfl) ?_
  refine lv_iconst (v := 4) hx hb dJ6_bitCount_0f7a4_26 (by decide) ?_
  refine gv_iushr hx hb dJ6_bitCount_0f7a4_27 ?_
  refine lv_iadd hx hb dJ6_bitCount_0f7a4_28 ?_
  refine lv_ldcw (own := RJ6) (index := 267) (v := 252645135) hx hb hown (hts (.constant RJ6 267 252645135) (by decide +kernel)) dJ6_bitCount_0f7a4_29 ?_
  refine lv_iand hx hb dJ6_bitCount_0f7a4_32 ?_
  refine lv_topi (fun v0_3 ev0_3 => ?_)
  have hm := nm_use ev0_3 hm
  refine lv_istore_n (lv' := [(0, .int v0_3)]) hx hb dJ6_bitCount_0f7a4_33 rfl hl (by decide) rfl (fun ls hl => ?_)
  refine lv_iload_n hx hb dJ6_bitCount_0f7a4_34 rfl (lv_at hl 0 rfl) ?_
  refine lv_iload_n hx hb dJ6_bitCount_0f7a4_35 rfl (lv_at hl 0 rfl) ?_
  refine lv_bipush (v := 8) hx hb dJ6_bitCount_0f7a4_36 (by decide) ?_
  refine gv_iushr hx hb dJ6_bitCount_0f7a4_38 ?_
  refine lv_iadd hx hb dJ6_bitCount_0f7a4_39 ?_
  refine lv_topi (fun v0_4 ev0_4 => ?_)
  have hm := nm_use ev0_4 hm
  refine lv_istore_n (lv' := [(0, .int v0_4)]) hx hb dJ6_bitCount_0f7a4_40 rfl hl (by decide) rfl (fun ls hl => ?_)
  refine lv_iload_n hx hb dJ6_bitCount_0f7a4_41 rfl (lv_at hl 0 rfl) ?_
  refine lv_iload_n hx hb dJ6_bitCount_0f7a4_42 rfl (lv_at hl 0 rfl) ?_
  refine lv_bipush (v := 16) hx hb dJ6_bitCount_0f7a4_43 (by decide) ?_
  refine gv_iushr hx hb dJ6_bitCount_0f7a4_45 ?_
  refine lv_iadd hx hb dJ6_bitCount_0f7a4_46 ?_
  refine lv_topi (fun v0_5 ev0_5 => ?_)
  have hm := nm_use ev0_5 hm
  refine lv_istore_n (lv' := [(0, .int v0_5)]) hx hb dJ6_bitCount_0f7a4_47 rfl hl (by decide) rfl (fun ls hl => ?_)
  refine lv_iload_n hx hb dJ6_bitCount_0f7a4_48 rfl (lv_at hl 0 rfl) ?_
  refine lv_bipush (v := 63) hx hb dJ6_bitCount_0f7a4_49 (by decide) ?_
  refine lv_iand hx hb dJ6_bitCount_0f7a4_51 ?_
  have z1 := so_use hm
  subst z1
  exact hret _ _ _ _ _ dJ6_bitCount_0f7a4_52 rfl rfl hP hD hS
abbrev rX0_leave : Room := { frames := 4, cells := 0, slots := 0, locals := 91 }
set_option maxHeartbeats 4000000 in
set_option maxRecDepth 100000 in
theorem k_X0_leave (l : Launch) (D : va_G) (cI cC cN : ClassId) (N : Nat) (q : Nat) (q_found : Nat) (q_before : Nat) (q_p0 : Nat) (q_p0_ends : Nat) (q_p0_colours : Nat) (sz : Nat) (f_found : Nat → Int32) (f_size : Int32) (f_before : Nat → Int32) (f_circles : Int32) (f_oddCircles : Int32) (f_longest : Int32) (f_p0_knots : Int32) (f_p0_threads : Int32) (f_p0_ends : Nat → Int32) (f_p0_colours : Nat → Int32) (a2 : Int32) (f_circles' : Int32) (f_oddCircles' : Int32) (f_longest' : Int32) (hm : m_X0_leave N f_found f_circles f_oddCircles f_longest f_p0_knots f_p0_threads f_p0_ends a2 = some (f_circles', f_oddCircles', f_longest')) : Met l yX0_leave wsX0_leave (rX0_leave) (gPc D (tysG cI cC cN) [.ref q, .ref q_p0, .int a2] [(q, .inr (0, [.ref q_found, .int f_size, .ref q_before, .int f_circles, .int f_oddCircles, .int f_longest])), (q_found, .inl (cI, 80, .inl f_found)), (q_before, .inl (cI, 21, .inl f_before)), (q_p0, .inr (2, [.int f_p0_knots, .int f_p0_threads, .ref q_p0_ends, .ref q_p0_colours])), (q_p0_ends, .inl (cI, 21, .inl f_p0_ends)), (q_p0_colours, .inl (cI, 21, .inl f_p0_colours))] sz) (gQv D (tysG cI cC cN) (va_A [(q, .inr (0, [.ref q_found, .int f_size, .ref q_before, .int f_circles, .int f_oddCircles, .int f_longest])), (q_found, .inl (cI, 80, .inl f_found)), (q_before, .inl (cI, 21, .inl f_before)), (q_p0, .inr (2, [.int f_p0_knots, .int f_p0_threads, .ref q_p0_ends, .ref q_p0_colours])), (q_p0_ends, .inl (cI, 21, .inl f_p0_ends)), (q_p0_colours, .inl (cI, 21, .inl f_p0_colours))] sz) [(q, .inr (0, [.ref q_found, .int f_size, .ref q_before, .int f_circles', .int f_oddCircles', .int f_longest'])), (q_found, .inl (cI, 80, .inl f_found)), (q_before, .inl (cI, 21, .inl f_before)), (q_p0, .inr (2, [.int f_p0_knots, .int f_p0_threads, .ref q_p0_ends, .ref q_p0_colours])), (q_p0_ends, .inl (cI, 21, .inl f_p0_ends)), (q_p0_colours, .inl (cI, 21, .inl f_p0_colours))]) 0 0 (va_A [(q, .inr (0, [.ref q_found, .int f_size, .ref q_before, .int f_circles, .int f_oddCircles, .int f_longest])), (q_found, .inl (cI, 80, .inl f_found)), (q_before, .inl (cI, 21, .inl f_before)), (q_p0, .inr (2, [.int f_p0_knots, .int f_p0_threads, .ref q_p0_ends, .ref q_p0_colours])), (q_p0_ends, .inl (cI, 21, .inl f_p0_ends)), (q_p0_colours, .inl (cI, 21, .inl f_p0_colours))] sz) := by
  unfold m_X0_leave at hm
  refine g_openV (cc := cX0_leave) (maxL := 8) (own := RX0) (by decide) rfl rfl (Nat.le_of_ble_eq_true rfl) ?_
  intro p e s m args below meth c A Q hx hb hml hown hts hP hK hN hD hA hret ls hl
  have hS : va_S A s.heap s.heap [] := va_S.rf
  have hl : lv_has ls 8 [(0, .ref q), (1, .ref q_p0), (2, .int a2)] := hl
  refine lv_aload_n hx hb dX0_leave_0 rfl (lv_at hl 1 rfl) ?_
  obtain ⟨r_1, h_2, hm⟩ := bind_use hm
  refine g_ki (wc := [(q_p0, .inr (2, [.int f_p0_knots, .int f_p0_threads, .ref q_p0_ends, .ref q_p0_colours])), (q_p0_ends, .inl (cI, 21, .inl f_p0_ends)), (q_p0_colours, .inl (cI, 21, .inl f_p0_colours))]) (wr := [(q, .inr (0, [.ref q_found, .int f_size, .ref q_before, .int f_circles, .int f_oddCircles, .int f_longest])), (q_found, .inl (cI, 80, .inl f_found)), (q_before, .inl (cI, 21, .inl f_before))]) (w2 := [(q, .inr (0, [.ref q_found, .int f_size, .ref q_before, .int f_circles, .int f_oddCircles, .int f_longest])), (q_found, .inl (cI, 80, .inl f_found)), (q_before, .inl (cI, 21, .inl f_before)), (q_p0, .inr (2, [.int f_p0_knots, .int f_p0_threads, .ref q_p0_ends, .ref q_p0_colours])), (q_p0_ends, .inl (cI, 21, .inl f_p0_ends)), (q_p0_colours, .inl (cI, 21, .inl f_p0_colours))]) (va_runV (As := []) (rest := []) ⟨hx, hb, hml, hown, hts⟩ (k_X2_allThreads l D cI cC cN N q_p0 q_p0_ends q_p0_colours s.heap.size f_p0_knots f_p0_threads f_p0_ends f_p0_colours r_1 h_2) (cwV 0 hts gX0_leave_X2_allThreads rfl rfl rfl (by decide +kernel) ⟨Nat.le_of_ble_eq_true rfl, Nat.le_of_ble_eq_true rfl⟩) ⟨g_blind, va_recv (D := D) (ci := 2) (q0 := 3) hK hP rfl rfl, g_pre (hP.sub [3, 4, 5] rfl) hK hN (hD.sub [3, 4, 5] (by decide) rfl)⟩ rfl rfl hl.1 rfl (lv_room (Nat.le_of_ble_eq_true rfl)) dX0_leave_1 ⟨Nat.zero_le _, Nat.zero_le _⟩) hP hD hS hA [3, 4, 5] [0, 1, 2] rfl rfl (by decide) (by decide) rfl (fun H locs hP hD hS => ?_)
  refine lv_aload_n hx hb dX0_leave_4 rfl (lv_at hl 0 rfl) ?_
  refine lv_iload_n hx hb dX0_leave_5 rfl (lv_at hl 2 rfl) ?_
  obtain ⟨r_3, h_4, hm⟩ := bind_use hm
  refine g_ki (wc := [(q, .inr (0, [.ref q_found, .int f_size, .ref q_before, .int f_circles, .int f_oddCircles, .int f_longest])), (q_found, .inl (cI, 80, .inl f_found)), (q_before, .inl (cI, 21, .inl f_before))]) (wr := [(q_p0, .inr (2, [.int f_p0_knots, .int f_p0_threads, .ref q_p0_ends, .ref q_p0_colours])), (q_p0_ends, .inl (cI, 21, .inl f_p0_ends)), (q_p0_colours, .inl (cI, 21, .inl f_p0_colours))]) (w2 := [(q_p0, .inr (2, [.int f_p0_knots, .int f_p0_threads, .ref q_p0_ends, .ref q_p0_colours])), (q_p0_ends, .inl (cI, 21, .inl f_p0_ends)), (q_p0_colours, .inl (cI, 21, .inl f_p0_colours)), (q, .inr (0, [.ref q_found, .int f_size, .ref q_before, .int f_circles, .int f_oddCircles, .int f_longest])), (q_found, .inl (cI, 80, .inl f_found)), (q_before, .inl (cI, 21, .inl f_before))]) (va_runV (As := [.int a2]) (rest := [.int r_1]) ⟨hx, hb, hml, hown, hts⟩ (k_X0_get l D cI cC cN N q q_found q_before H.size f_found f_size f_before f_circles f_oddCircles f_longest a2 r_3 h_4) (cwV 1 hts gX0_leave_X0_get rfl rfl rfl (by decide +kernel) ⟨Nat.le_of_ble_eq_true rfl, Nat.le_of_ble_eq_true rfl⟩) ⟨g_blind, va_recv (D := D) (ci := 0) (q0 := 0) hK hP rfl rfl, g_pre (hP.sub [0, 1, 2] rfl) hK hN (hD.sub [0, 1, 2] (by decide) rfl)⟩ rfl rfl hl.1 rfl (lv_room (Nat.le_of_ble_eq_true rfl)) dX0_leave_6 ⟨Nat.zero_le _, Nat.zero_le _⟩) hP hD hS hA [0, 1, 2] [3, 4, 5] rfl rfl (by decide) (by decide) rfl (fun H locs hP hD hS => ?_)
  refine lv_iconst (v := (-1)) hx hb dX0_leave_9 (by decide) ?_
  refine lv_ixor hx hb dX0_leave_10 ?_
  refine lv_iand hx hb dX0_leave_11 ?_
  refine lv_topi (fun v3_5 ev3_5 => ?_)
  have hm := nm_use ev3_5 hm
  refine lv_istore_n (lv' := [(3, .int v3_5), (0, .ref q), (1, .ref q_p0), (2, .int a2)]) hx hb dX0_leave_12 rfl hl (by decide) rfl (fun ls hl => ?_)
  refine lv_aload_n hx hb dX0_leave_13 rfl (lv_at hl 2 rfl) ?_
  obtain ⟨r_6, h_7, hm⟩ := bind_use hm
  refine g_ki (wc := [(q_p0, .inr (2, [.int f_p0_knots, .int f_p0_threads, .ref q_p0_ends, .ref q_p0_colours])), (q_p0_ends, .inl (cI, 21, .inl f_p0_ends)), (q_p0_colours, .inl (cI, 21, .inl f_p0_colours))]) (wr := [(q, .inr (0, [.ref q_found, .int f_size, .ref q_before, .int f_circles, .int f_oddCircles, .int f_longest])), (q_found, .inl (cI, 80, .inl f_found)), (q_before, .inl (cI, 21, .inl f_before))]) (w2 := [(q, .inr (0, [.ref q_found, .int f_size, .ref q_before, .int f_circles, .int f_oddCircles, .int f_longest])), (q_found, .inl (cI, 80, .inl f_found)), (q_before, .inl (cI, 21, .inl f_before)), (q_p0, .inr (2, [.int f_p0_knots, .int f_p0_threads, .ref q_p0_ends, .ref q_p0_colours])), (q_p0_ends, .inl (cI, 21, .inl f_p0_ends)), (q_p0_colours, .inl (cI, 21, .inl f_p0_colours))]) (va_runV (As := []) (rest := []) ⟨hx, hb, hml, hown, hts⟩ (k_X2_allKnots l D cI cC cN N q_p0 q_p0_ends q_p0_colours H.size f_p0_knots f_p0_threads f_p0_ends f_p0_colours r_6 h_7) (cwV 0 hts gX0_leave_X2_allKnots rfl rfl rfl (by decide +kernel) ⟨Nat.le_of_ble_eq_true rfl, Nat.le_of_ble_eq_true rfl⟩) ⟨g_blind, va_recv (D := D) (ci := 2) (q0 := 0) hK hP rfl rfl, g_pre (hP.sub [0, 1, 2] rfl) hK hN (hD.sub [0, 1, 2] (by decide) rfl)⟩ rfl rfl hl.1 rfl (lv_room (Nat.le_of_ble_eq_true rfl)) dX0_leave_14 ⟨Nat.zero_le _, Nat.zero_le _⟩) hP hD hS hA [0, 1, 2] [3, 4, 5] rfl rfl (by decide) (by decide) rfl (fun H locs hP hD hS => ?_)
  refine lv_istore (lv' := [(4, .int r_6), (3, .int v3_5), (0, .ref q), (1, .ref q_p0), (2, .int a2)]) hx hb dX0_leave_17 hl (by decide) rfl (fun ls hl => ?_)
  refine lv_aload_n hx hb dX0_leave_19 rfl (lv_at hl 2 rfl) ?_
  refine lv_iconst (v := 0) hx hb dX0_leave_20 (by decide) ?_
  refine va_put (D := D) (ci := 0) (v := .int 0) (ty := .int) (C := RX0) (T := TX0) (N := 6) hx hb hts (by decide +kernel) tyX0 tyX0_ok nmX0 hown hK hP hD hS 0 rfl rfl 3 (by decide) (hts (.fieldLink RX0 22 "KnotStripes$Covers" "circles" "I") (by decide +kernel)) (fun _ h9 => h9) rfl (by decide +kernel) rfl rfl (Nat.le_of_ble_eq_true rfl) dX0_leave_21 (fun H locs hP hD hS => ?_)
  have hP : va_P D vwCl [(q, .inr (0, [.ref q_found, .int f_size, .ref q_before, .int 0, .int f_oddCircles, .int f_longest])), (q_found, .inl (cI, 80, .inl f_found)), (q_before, .inl (cI, 21, .inl f_before)), (q_p0, .inr (2, [.int f_p0_knots, .int f_p0_threads, .ref q_p0_ends, .ref q_p0_colours])), (q_p0_ends, .inl (cI, 21, .inl f_p0_ends)), (q_p0_colours, .inl (cI, 21, .inl f_p0_colours))] H := hP
  have hD : va_D A [(q, .inr (0, [.ref q_found, .int f_size, .ref q_before, .int 0, .int f_oddCircles, .int f_longest])), (q_found, .inl (cI, 80, .inl f_found)), (q_before, .inl (cI, 21, .inl f_before)), (q_p0, .inr (2, [.int f_p0_knots, .int f_p0_threads, .ref q_p0_ends, .ref q_p0_colours])), (q_p0_ends, .inl (cI, 21, .inl f_p0_ends)), (q_p0_colours, .inl (cI, 21, .inl f_p0_colours))] := hD
  refine lv_aload_n hx hb dX0_leave_24 rfl (lv_at hl 2 rfl) ?_
  refine lv_iconst (v := 0) hx hb dX0_leave_25 (by decide) ?_
  refine va_put (D := D) (ci := 0) (v := .int 0) (ty := .int) (C := RX0) (T := TX0) (N := 6) hx hb hts (by decide +kernel) tyX0 tyX0_ok nmX0 hown hK hP hD hS 0 rfl rfl 4 (by decide) (hts (.fieldLink RX0 25 "KnotStripes$Covers" "oddCircles" "I") (by decide +kernel)) (fun _ h9 => h9) rfl (by decide +kernel) rfl rfl (Nat.le_of_ble_eq_true rfl) dX0_leave_26 (fun H locs hP hD hS => ?_)
  have hP : va_P D vwCl [(q, .inr (0, [.ref q_found, .int f_size, .ref q_before, .int 0, .int 0, .int f_longest])), (q_found, .inl (cI, 80, .inl f_found)), (q_before, .inl (cI, 21, .inl f_before)), (q_p0, .inr (2, [.int f_p0_knots, .int f_p0_threads, .ref q_p0_ends, .ref q_p0_colours])), (q_p0_ends, .inl (cI, 21, .inl f_p0_ends)), (q_p0_colours, .inl (cI, 21, .inl f_p0_colours))] H := hP
  have hD : va_D A [(q, .inr (0, [.ref q_found, .int f_size, .ref q_before, .int 0, .int 0, .int f_longest])), (q_found, .inl (cI, 80, .inl f_found)), (q_before, .inl (cI, 21, .inl f_before)), (q_p0, .inr (2, [.int f_p0_knots, .int f_p0_threads, .ref q_p0_ends, .ref q_p0_colours])), (q_p0_ends, .inl (cI, 21, .inl f_p0_ends)), (q_p0_colours, .inl (cI, 21, .inl f_p0_colours))] := hD
  refine lv_aload_n hx hb dX0_leave_29 rfl (lv_at hl 2 rfl) ?_
  refine lv_iconst (v := 0) hx hb dX0_leave_30 (by decide) ?_
  refine va_put (D := D) (ci := 0) (v := .int 0) (ty := .int) (C := RX0) (T := TX0) (N := 6) hx hb hts (by decide +kernel) tyX0 tyX0_ok nmX0 hown hK hP hD hS 0 rfl rfl 5 (by decide) (hts (.fieldLink RX0 28 "KnotStripes$Covers" "longest" "I") (by decide +kernel)) (fun _ h9 => h9) rfl (by decide +kernel) rfl rfl (Nat.le_of_ble_eq_true rfl) dX0_leave_31 (fun H locs hP hD hS => ?_)
  have hP : va_P D vwCl [(q, .inr (0, [.ref q_found, .int f_size, .ref q_before, .int 0, .int 0, .int 0])), (q_found, .inl (cI, 80, .inl f_found)), (q_before, .inl (cI, 21, .inl f_before)), (q_p0, .inr (2, [.int f_p0_knots, .int f_p0_threads, .ref q_p0_ends, .ref q_p0_colours])), (q_p0_ends, .inl (cI, 21, .inl f_p0_ends)), (q_p0_colours, .inl (cI, 21, .inl f_p0_colours))] H := hP
  have hD : va_D A [(q, .inr (0, [.ref q_found, .int f_size, .ref q_before, .int 0, .int 0, .int 0])), (q_found, .inl (cI, 80, .inl f_found)), (q_before, .inl (cI, 21, .inl f_before)), (q_p0, .inr (2, [.int f_p0_knots, .int f_p0_threads, .ref q_p0_ends, .ref q_p0_colours])), (q_p0_ends, .inl (cI, 21, .inl f_p0_ends)), (q_p0_colours, .inl (cI, 21, .inl f_p0_colours))] := hD
  refine lv_iconst (v := 0) hx hb dX0_leave_34 (by decide) ?_
  refine lv_istore (lv' := [(5, .int 0), (4, .int r_6), (3, .int v3_5), (0, .ref q), (1, .ref q_p0), (2, .int a2)]) hx hb dX0_leave_35 hl (by decide) rfl (fun ls hl => ?_)
  have l37 : ∀ (n_37 : Nat) (x5_8 : Int32) (x4_9 : Int32) (f_circles_10 : Int32) (f_oddCircles_11 : Int32) (f_longest_12 : Int32), ∀ (H : Heap) (locs : List Loc) (ls : Array Slot), va_P D vwCl [(q, .inr (0, [.ref q_found, .int f_size, .ref q_before, .int f_circles_10, .int f_oddCircles_11, .int f_longest_12])), (q_found, .inl (cI, 80, .inl f_found)), (q_before, .inl (cI, 21, .inl f_before)), (q_p0, .inr (2, [.int f_p0_knots, .int f_p0_threads, .ref q_p0_ends, .ref q_p0_colours])), (q_p0_ends, .inl (cI, 21, .inl f_p0_ends)), (q_p0_colours, .inl (cI, 21, .inl f_p0_colours))] H → va_D A [(q, .inr (0, [.ref q_found, .int f_size, .ref q_before, .int f_circles_10, .int f_oddCircles_11, .int f_longest_12])), (q_found, .inl (cI, 80, .inl f_found)), (q_before, .inl (cI, 21, .inl f_before)), (q_p0, .inr (2, [.int f_p0_knots, .int f_p0_threads, .ref q_p0_ends, .ref q_p0_colours])), (q_p0_ends, .inl (cI, 21, .inl f_p0_ends)), (q_p0_colours, .inl (cI, 21, .inl f_p0_colours))] → va_S A s.heap H locs → lv_has ls 8 [(5, .int x5_8), (4, .int x4_9), (3, .int v3_5), (0, .ref q), (1, .ref q_p0)] → m_X0_leave_L37 N f_p0_knots f_p0_threads f_p0_ends v3_5 n_37 x5_8 x4_9 f_circles_10 f_oddCircles_11 f_longest_12 = some (f_circles', f_oddCircles', f_longest') → W p l e rX0_leave s m args below meth c H locs 0 0 Q (F0 m 37 ls []) := by
    intro n_37
    induction n_37 with
    | zero => intro x5_8 x4_9 f_circles_10 f_oddCircles_11 f_longest_12 H locs ls hP hD hS hl hm; rw [m_X0_leave_L37] at hm; exact no_use hm
    | succ n_37 ih37 =>
      intro x5_8 x4_9 f_circles_10 f_oddCircles_11 f_longest_12 H locs ls hP hD hS hl hm
      rw [m_X0_leave_L37] at hm
      refine lv_iload hx hb dX0_leave_37 (lv_at hl 0 rfl) ?_
      refine lv_aload_n hx hb dX0_leave_39 rfl (lv_at hl 4 rfl) ?_
      obtain ⟨r_13, h_14, hm⟩ := bind_use hm
      refine g_ki (wc := [(q_p0, .inr (2, [.int f_p0_knots, .int f_p0_threads, .ref q_p0_ends, .ref q_p0_colours])), (q_p0_ends, .inl (cI, 21, .inl f_p0_ends)), (q_p0_colours, .inl (cI, 21, .inl f_p0_colours))]) (wr := [(q, .inr (0, [.ref q_found, .int f_size, .ref q_before, .int f_circles_10, .int f_oddCircles_11, .int f_longest_12])), (q_found, .inl (cI, 80, .inl f_found)), (q_before, .inl (cI, 21, .inl f_before))]) (w2 := [(q, .inr (0, [.ref q_found, .int f_size, .ref q_before, .int f_circles_10, .int f_oddCircles_11, .int f_longest_12])), (q_found, .inl (cI, 80, .inl f_found)), (q_before, .inl (cI, 21, .inl f_before)), (q_p0, .inr (2, [.int f_p0_knots, .int f_p0_threads, .ref q_p0_ends, .ref q_p0_colours])), (q_p0_ends, .inl (cI, 21, .inl f_p0_ends)), (q_p0_colours, .inl (cI, 21, .inl f_p0_colours))]) (va_runV (As := []) (rest := [.int x5_8]) ⟨hx, hb, hml, hown, hts⟩ (k_X2_knots l D cI cC cN N q_p0 q_p0_ends q_p0_colours H.size f_p0_knots f_p0_threads f_p0_ends f_p0_colours r_13 h_14) (cwV 0 hts gX0_leave_X2_knots rfl rfl rfl (by decide +kernel) ⟨Nat.le_of_ble_eq_true rfl, Nat.le_of_ble_eq_true rfl⟩) ⟨g_blind, va_recv (D := D) (ci := 2) (q0 := 3) hK hP rfl rfl, g_pre (hP.sub [3, 4, 5] rfl) hK hN (hD.sub [3, 4, 5] (by decide) rfl)⟩ rfl rfl hl.1 rfl (lv_room (Nat.le_of_ble_eq_true rfl)) dX0_leave_40 ⟨Nat.zero_le _, Nat.zero_le _⟩) hP hD hS hA [3, 4, 5] [0, 1, 2] rfl rfl (by decide) (by decide) rfl (fun H locs hP hD hS => ?_)
      refine lv_icmp_ge (tgt := 126) hx hb dX0_leave_43 (by decide) (fun hc => ?_) (fun hc => ?_)
      · have hm := if_t _ hc hm
        have z1 := so_use hm
        obtain ⟨y1, z2⟩ := pr_use z1
        obtain ⟨y2, z3⟩ := pr_use z2
        subst y1
        subst y2
        subst z3
        exact hret _ _ _ _ dX0_leave_126 hP hD hS
      · have hm := if_f _ hc hm
        refine lv_iload hx hb dX0_leave_46 (lv_at hl 1 rfl) ?_
        refine lv_iload hx hb dX0_leave_48 (lv_at hl 0 rfl) ?_
        obtain ⟨r_15, h_16, hm⟩ := bind_use hm
        refine g_ki (wc := []) (wr := [(q, .inr (0, [.ref q_found, .int f_size, .ref q_before, .int f_circles_10, .int f_oddCircles_11, .int f_longest_12])), (q_found, .inl (cI, 80, .inl f_found)), (q_before, .inl (cI, 21, .inl f_before)), (q_p0, .inr (2, [.int f_p0_knots, .int f_p0_threads, .ref q_p0_ends, .ref q_p0_colours])), (q_p0_ends, .inl (cI, 21, .inl f_p0_ends)), (q_p0_colours, .inl (cI, 21, .inl f_p0_colours))]) (w2 := [(q, .inr (0, [.ref q_found, .int f_size, .ref q_before, .int f_circles_10, .int f_oddCircles_11, .int f_longest_12])), (q_found, .inl (cI, 80, .inl f_found)), (q_before, .inl (cI, 21, .inl f_before)), (q_p0, .inr (2, [.int f_p0_knots, .int f_p0_threads, .ref q_p0_ends, .ref q_p0_colours])), (q_p0_ends, .inl (cI, 21, .inl f_p0_ends)), (q_p0_colours, .inl (cI, 21, .inl f_p0_colours))]) (va_runSN (As := [.int x4_9, .int x5_8]) (rest := []) ⟨hx, hb, hml, hown, hts⟩ (k_X6_holds l D cI cC cN N H.size x4_9 x5_8 r_15 h_16) ⟨va_cnB 2 hts gX0_leave_X6_holds_n39 rfl rfl rfl (hN (.methodLinkNest RX0 39 yX6_holds RX6) (by decide +kernel)) (hts (.initialized RX6) (by decide +kernel)) (by decide +kernel) ⟨Nat.le_of_ble_eq_true rfl, Nat.le_of_ble_eq_true rfl⟩, hts (.static yX6_holds) (by decide +kernel), trivial⟩ ⟨g_blind, g_pre (hP.sub [] rfl) hK hN (hD.sub [] (by decide) rfl)⟩ rfl rfl hl.1 rfl (lv_room (Nat.le_of_ble_eq_true rfl)) dX0_leave_50 ⟨Nat.zero_le _, Nat.zero_le _⟩) hP hD hS hA [] [0, 1, 2, 3, 4, 5] rfl rfl (by decide) (by decide) rfl (fun H locs hP hD hS => ?_)
        refine lv_if_eq (tgt := 120) hx hb dX0_leave_53 (by decide) (fun hc => ?_) (fun hc => ?_)
        · have hm := if_t _ hc hm
          refine lv_iinc (v := (x5_8 + 1)) (lv' := [(5, .int (x5_8 + 1)), (4, .int x4_9), (3, .int v3_5), (0, .ref q), (1, .ref q_p0)]) hx hb dX0_leave_120 hl (k := 0) rfl rfl (by decide) rfl (fun ls hl => ?_)
          refine lv_goto (tgt := 37) hx hb dX0_leave_123 (by decide) ?_
          exact ih37 (x5_8 + 1) x4_9 f_circles_10 f_oddCircles_11 f_longest_12 _ _ _ hP hD hS hl hm
        · have hm := if_f _ hc hm
          refine lv_aload_n hx hb dX0_leave_56 rfl (lv_at hl 4 rfl) ?_
          refine lv_iload hx hb dX0_leave_57 (lv_at hl 0 rfl) ?_
          obtain ⟨r_17, h_18, hm⟩ := bind_use hm
          refine g_ki (wc := []) (wr := [(q, .inr (0, [.ref q_found, .int f_size, .ref q_before, .int f_circles_10, .int f_oddCircles_11, .int f_longest_12])), (q_found, .inl (cI, 80, .inl f_found)), (q_before, .inl (cI, 21, .inl f_before)), (q_p0, .inr (2, [.int f_p0_knots, .int f_p0_threads, .ref q_p0_ends, .ref q_p0_colours])), (q_p0_ends, .inl (cI, 21, .inl f_p0_ends)), (q_p0_colours, .inl (cI, 21, .inl f_p0_colours))]) (w2 := [(q, .inr (0, [.ref q_found, .int f_size, .ref q_before, .int f_circles_10, .int f_oddCircles_11, .int f_longest_12])), (q_found, .inl (cI, 80, .inl f_found)), (q_before, .inl (cI, 21, .inl f_before)), (q_p0, .inr (2, [.int f_p0_knots, .int f_p0_threads, .ref q_p0_ends, .ref q_p0_colours])), (q_p0_ends, .inl (cI, 21, .inl f_p0_ends)), (q_p0_colours, .inl (cI, 21, .inl f_p0_colours))]) (va_runSN (As := [.int x5_8]) (rest := [.ref q_p0]) ⟨hx, hb, hml, hown, hts⟩ (k_X6_bit l D cI cC cN N H.size x5_8 r_17 h_18) ⟨va_cnB 1 hts gX0_leave_X6_bit_n67 rfl rfl rfl (hN (.methodLinkNest RX0 67 yX6_bit RX6) (by decide +kernel)) (hts (.initialized RX6) (by decide +kernel)) (by decide +kernel) ⟨Nat.le_of_ble_eq_true rfl, Nat.le_of_ble_eq_true rfl⟩, hts (.static yX6_bit) (by decide +kernel), trivial⟩ ⟨g_blind, g_pre (hP.sub [] rfl) hK hN (hD.sub [] (by decide) rfl)⟩ rfl rfl hl.1 rfl (lv_room (Nat.le_of_ble_eq_true rfl)) dX0_leave_59 ⟨Nat.zero_le _, Nat.zero_le _⟩) hP hD hS hA [] [0, 1, 2, 3, 4, 5] rfl rfl (by decide) (by decide) rfl (fun H locs hP hD hS => ?_)
          refine lv_iload_n hx hb dX0_leave_62 rfl (lv_at hl 2 rfl) ?_
          obtain ⟨r_19, h_20, hm⟩ := bind_use hm
          refine g_ki (wc := [(q_p0, .inr (2, [.int f_p0_knots, .int f_p0_threads, .ref q_p0_ends, .ref q_p0_colours])), (q_p0_ends, .inl (cI, 21, .inl f_p0_ends)), (q_p0_colours, .inl (cI, 21, .inl f_p0_colours))]) (wr := [(q, .inr (0, [.ref q_found, .int f_size, .ref q_before, .int f_circles_10, .int f_oddCircles_11, .int f_longest_12])), (q_found, .inl (cI, 80, .inl f_found)), (q_before, .inl (cI, 21, .inl f_before))]) (w2 := [(q, .inr (0, [.ref q_found, .int f_size, .ref q_before, .int f_circles_10, .int f_oddCircles_11, .int f_longest_12])), (q_found, .inl (cI, 80, .inl f_found)), (q_before, .inl (cI, 21, .inl f_before)), (q_p0, .inr (2, [.int f_p0_knots, .int f_p0_threads, .ref q_p0_ends, .ref q_p0_colours])), (q_p0_ends, .inl (cI, 21, .inl f_p0_ends)), (q_p0_colours, .inl (cI, 21, .inl f_p0_colours))]) (va_runS (As := [.ref q_p0, .int r_17, .int v3_5]) (rest := []) ⟨hx, hb, hml, hown, hts⟩ (k_X5_reached l D cI cC cN N q_p0 q_p0_ends q_p0_colours H.size f_p0_knots f_p0_threads f_p0_ends f_p0_colours r_17 v3_5 r_19 h_20) (va_cwS 3 hts gX0_leave_X5_reached rfl rfl rfl (by decide +kernel) ⟨Nat.le_of_ble_eq_true rfl, Nat.le_of_ble_eq_true rfl⟩) ⟨g_blind, g_pre (hP.sub [3, 4, 5] rfl) hK hN (hD.sub [3, 4, 5] (by decide) rfl)⟩ rfl rfl hl.1 rfl (lv_room (Nat.le_of_ble_eq_true rfl)) dX0_leave_63 ⟨Nat.zero_le _, Nat.zero_le _⟩) hP hD hS hA [3, 4, 5] [0, 1, 2] rfl rfl (by decide) (by decide) rfl (fun H locs hP hD hS => ?_)
          refine lv_istore (lv' := [(6, .int r_19), (5, .int x5_8), (4, .int x4_9), (3, .int v3_5), (0, .ref q), (1, .ref q_p0)]) hx hb dX0_leave_66 hl (by decide) rfl (fun ls hl => ?_)
          refine lv_iload hx hb dX0_leave_68 (lv_at hl 0 rfl) ?_
          obtain ⟨r_21, h_22, hm⟩ := bind_use hm
          refine g_ki (wc := []) (wr := [(q, .inr (0, [.ref q_found, .int f_size, .ref q_before, .int f_circles_10, .int f_oddCircles_11, .int f_longest_12])), (q_found, .inl (cI, 80, .inl f_found)), (q_before, .inl (cI, 21, .inl f_before)), (q_p0, .inr (2, [.int f_p0_knots, .int f_p0_threads, .ref q_p0_ends, .ref q_p0_colours])), (q_p0_ends, .inl (cI, 21, .inl f_p0_ends)), (q_p0_colours, .inl (cI, 21, .inl f_p0_colours))]) (w2 := [(q, .inr (0, [.ref q_found, .int f_size, .ref q_before, .int f_circles_10, .int f_oddCircles_11, .int f_longest_12])), (q_found, .inl (cI, 80, .inl f_found)), (q_before, .inl (cI, 21, .inl f_before)), (q_p0, .inr (2, [.int f_p0_knots, .int f_p0_threads, .ref q_p0_ends, .ref q_p0_colours])), (q_p0_ends, .inl (cI, 21, .inl f_p0_ends)), (q_p0_colours, .inl (cI, 21, .inl f_p0_colours))]) (va_runS (As := [.int r_19]) (rest := []) ⟨hx, hb, hml, hown, hts⟩ (k_J6_bitCount_0f7a4 l D cI cC cN N H.size r_19 r_21 h_22) (va_cwS 1 hts gX0_leave_J6_bitCount_0f7a4 rfl rfl rfl (by decide +kernel) ⟨Nat.le_of_ble_eq_true rfl, Nat.le_of_ble_eq_true rfl⟩) ⟨g_blind, g_pre (hP.sub [] rfl) hK hN (hD.sub [] (by decide) rfl)⟩ rfl rfl hl.1 rfl (lv_room (Nat.le_of_ble_eq_true rfl)) dX0_leave_70 ⟨Nat.zero_le _, Nat.zero_le _⟩) hP hD hS hA [] [0, 1, 2, 3, 4, 5] rfl rfl (by decide) (by decide) rfl (fun H locs hP hD hS => ?_)
          refine lv_istore (lv' := [(7, .int r_21), (6, .int r_19), (5, .int x5_8), (4, .int x4_9), (3, .int v3_5), (0, .ref q), (1, .ref q_p0)]) hx hb dX0_leave_73 hl (by decide) rfl (fun ls hl => ?_)
          refine lv_iload hx hb dX0_leave_75 (lv_at hl 3 rfl) ?_
          refine lv_iload hx hb dX0_leave_77 (lv_at hl 1 rfl) ?_
          refine lv_iconst (v := (-1)) hx hb dX0_leave_79 (by decide) ?_
          refine lv_ixor hx hb dX0_leave_80 ?_
          refine lv_iand hx hb dX0_leave_81 ?_
          refine lv_topi (fun v4_23 ev4_23 => ?_)
          have hm := nm_use ev4_23 hm
          refine lv_istore (lv' := [(4, .int v4_23), (7, .int r_21), (6, .int r_19), (5, .int x5_8), (3, .int v3_5), (0, .ref q), (1, .ref q_p0)]) hx hb dX0_leave_82 hl (by decide) rfl (fun ls hl => ?_)
          refine lv_aload_n hx hb dX0_leave_84 rfl (lv_at hl 5 rfl) ?_
          refine lv_dup hx hb dX0_leave_85 rfl ?_
          refine va_get (D := D) (ci := 0) (v := .int f_circles_10) (C := RX0) (T := TX0) (N := 6) hx hb hts (by decide +kernel) hown hK hP 0 rfl rfl 3 (by decide) (hts (.fieldLink RX0 22 "KnotStripes$Covers" "circles" "I") (by decide +kernel)) (fun _ h9 => h9) rfl dX0_leave_86 ?_
          refine lv_iconst (v := 1) hx hb dX0_leave_89 (by decide) ?_
          refine lv_iadd hx hb dX0_leave_90 ?_
          refine W.eq (g2 := F0 m 91 ls (.int (f_circles_10 + 1) :: [.ref q])) rfl ?_
          refine lv_topi (fun w_24 ew_24 => ?_)
          have hm := nm_use ew_24 hm
          refine va_put (D := D) (ci := 0) (v := .int w_24) (ty := .int) (C := RX0) (T := TX0) (N := 6) hx hb hts (by decide +kernel) tyX0 tyX0_ok nmX0 hown hK hP hD hS 0 rfl rfl 3 (by decide) (hts (.fieldLink RX0 22 "KnotStripes$Covers" "circles" "I") (by decide +kernel)) (fun _ h9 => h9) rfl (by decide +kernel) rfl rfl (Nat.le_of_ble_eq_true rfl) dX0_leave_91 (fun H locs hP hD hS => ?_)
          have hP : va_P D vwCl [(q, .inr (0, [.ref q_found, .int f_size, .ref q_before, .int w_24, .int f_oddCircles_11, .int f_longest_12])), (q_found, .inl (cI, 80, .inl f_found)), (q_before, .inl (cI, 21, .inl f_before)), (q_p0, .inr (2, [.int f_p0_knots, .int f_p0_threads, .ref q_p0_ends, .ref q_p0_colours])), (q_p0_ends, .inl (cI, 21, .inl f_p0_ends)), (q_p0_colours, .inl (cI, 21, .inl f_p0_colours))] H := hP
          have hD : va_D A [(q, .inr (0, [.ref q_found, .int f_size, .ref q_before, .int w_24, .int f_oddCircles_11, .int f_longest_12])), (q_found, .inl (cI, 80, .inl f_found)), (q_before, .inl (cI, 21, .inl f_before)), (q_p0, .inr (2, [.int f_p0_knots, .int f_p0_threads, .ref q_p0_ends, .ref q_p0_colours])), (q_p0_ends, .inl (cI, 21, .inl f_p0_ends)), (q_p0_colours, .inl (cI, 21, .inl f_p0_colours))] := hD
          refine lv_aload_n hx hb dX0_leave_94 rfl (lv_at hl 5 rfl) ?_
          refine lv_dup hx hb dX0_leave_95 rfl ?_
          refine va_get (D := D) (ci := 0) (v := .int f_oddCircles_11) (C := RX0) (T := TX0) (N := 6) hx hb hts (by decide +kernel) hown hK hP 0 rfl rfl 4 (by decide) (hts (.fieldLink RX0 25 "KnotStripes$Covers" "oddCircles" "I") (by decide +kernel)) (fun _ h9 => h9) rfl dX0_leave_96 ?_
          refine lv_iload hx hb dX0_leave_99 (lv_at hl 1 rfl) ?_
          refine lv_iconst (v := 1) hx hb dX0_leave_101 (by decide) ?_
          refine lv_iand hx hb dX0_leave_102 ?_
          refine lv_iadd hx hb dX0_leave_103 ?_
          refine W.eq (g2 := F0 m 104 ls (.int (f_oddCircles_11 + (r_21 &&& 1)) :: [.ref q])) rfl ?_
          refine lv_topi (fun w_25 ew_25 => ?_)
          have hm := nm_use ew_25 hm
          refine va_put (D := D) (ci := 0) (v := .int w_25) (ty := .int) (C := RX0) (T := TX0) (N := 6) hx hb hts (by decide +kernel) tyX0 tyX0_ok nmX0 hown hK hP hD hS 0 rfl rfl 4 (by decide) (hts (.fieldLink RX0 25 "KnotStripes$Covers" "oddCircles" "I") (by decide +kernel)) (fun _ h9 => h9) rfl (by decide +kernel) rfl rfl (Nat.le_of_ble_eq_true rfl) dX0_leave_104 (fun H locs hP hD hS => ?_)
          have hP : va_P D vwCl [(q, .inr (0, [.ref q_found, .int f_size, .ref q_before, .int w_24, .int w_25, .int f_longest_12])), (q_found, .inl (cI, 80, .inl f_found)), (q_before, .inl (cI, 21, .inl f_before)), (q_p0, .inr (2, [.int f_p0_knots, .int f_p0_threads, .ref q_p0_ends, .ref q_p0_colours])), (q_p0_ends, .inl (cI, 21, .inl f_p0_ends)), (q_p0_colours, .inl (cI, 21, .inl f_p0_colours))] H := hP
          have hD : va_D A [(q, .inr (0, [.ref q_found, .int f_size, .ref q_before, .int w_24, .int w_25, .int f_longest_12])), (q_found, .inl (cI, 80, .inl f_found)), (q_before, .inl (cI, 21, .inl f_before)), (q_p0, .inr (2, [.int f_p0_knots, .int f_p0_threads, .ref q_p0_ends, .ref q_p0_colours])), (q_p0_ends, .inl (cI, 21, .inl f_p0_ends)), (q_p0_colours, .inl (cI, 21, .inl f_p0_colours))] := hD
          refine lv_aload_n hx hb dX0_leave_107 rfl (lv_at hl 5 rfl) ?_
          refine lv_aload_n hx hb dX0_leave_108 rfl (lv_at hl 5 rfl) ?_
          refine va_get (D := D) (ci := 0) (v := .int f_longest_12) (C := RX0) (T := TX0) (N := 6) hx hb hts (by decide +kernel) hown hK hP 0 rfl rfl 5 (by decide) (hts (.fieldLink RX0 28 "KnotStripes$Covers" "longest" "I") (by decide +kernel)) (fun _ h9 => h9) rfl dX0_leave_109 ?_
          refine lv_iload hx hb dX0_leave_112 (lv_at hl 1 rfl) ?_
          refine gv_mmax hx hb (by rw [hml]; exact hl.1.symm) (own := RX0) (index := 87) hown (hts (.methodLink RX0 87 Lib.Math.max.name) (by decide +kernel)) (hts (.static Lib.Math.max.name) (by decide +kernel)) (hts (.initialized "java/lang/Math") (by decide +kernel)) (hts (.code Lib.Math.max.name Lib.Math.max.code 2 (some .int)) (by decide +kernel)) (Nat.le_of_ble_eq_true rfl) (Nat.le_of_ble_eq_true rfl) (Nat.zero_le _) (Nat.zero_le _) dX0_leave_114 ?_
          refine W.eq (g2 := F0 m 117 ls (.int (mxi f_longest_12 r_21) :: [.ref q])) rfl ?_
          refine lv_topi (fun w_26 ew_26 => ?_)
          have hm := nm_use ew_26 hm
          refine va_put (D := D) (ci := 0) (v := .int w_26) (ty := .int) (C := RX0) (T := TX0) (N := 6) hx hb hts (by decide +kernel) tyX0 tyX0_ok nmX0 hown hK hP hD hS 0 rfl rfl 5 (by decide) (hts (.fieldLink RX0 28 "KnotStripes$Covers" "longest" "I") (by decide +kernel)) (fun _ h9 => h9) rfl (by decide +kernel) rfl rfl (Nat.le_of_ble_eq_true rfl) dX0_leave_117 (fun H locs hP hD hS => ?_)
          have hP : va_P D vwCl [(q, .inr (0, [.ref q_found, .int f_size, .ref q_before, .int w_24, .int w_25, .int w_26])), (q_found, .inl (cI, 80, .inl f_found)), (q_before, .inl (cI, 21, .inl f_before)), (q_p0, .inr (2, [.int f_p0_knots, .int f_p0_threads, .ref q_p0_ends, .ref q_p0_colours])), (q_p0_ends, .inl (cI, 21, .inl f_p0_ends)), (q_p0_colours, .inl (cI, 21, .inl f_p0_colours))] H := hP
          have hD : va_D A [(q, .inr (0, [.ref q_found, .int f_size, .ref q_before, .int w_24, .int w_25, .int w_26])), (q_found, .inl (cI, 80, .inl f_found)), (q_before, .inl (cI, 21, .inl f_before)), (q_p0, .inr (2, [.int f_p0_knots, .int f_p0_threads, .ref q_p0_ends, .ref q_p0_colours])), (q_p0_ends, .inl (cI, 21, .inl f_p0_ends)), (q_p0_colours, .inl (cI, 21, .inl f_p0_colours))] := hD
          refine lv_iinc (v := (x5_8 + 1)) (lv' := [(5, .int (x5_8 + 1)), (4, .int v4_23), (7, .int r_21), (6, .int r_19), (3, .int v3_5), (0, .ref q), (1, .ref q_p0)]) hx hb dX0_leave_120 hl (k := 3) rfl rfl (by decide) rfl (fun ls hl => ?_)
          refine lv_goto (tgt := 37) hx hb dX0_leave_123 (by decide) ?_
          exact ih37 (x5_8 + 1) v4_23 w_24 w_25 w_26 _ _ _ hP hD hS (lv_sub hl [0, 1, 4, 5, 6] rfl) hm
  exact l37 N 0 r_6 0 0 0 _ _ _ hP hD hS (lv_sub hl [0, 1, 2, 3, 4] rfl) hm
abbrev rX0_circlesLeft : Room := { frames := 0, cells := 0, slots := 0, locals := 0 }
set_option maxHeartbeats 4000000 in
set_option maxRecDepth 100000 in
theorem k_X0_circlesLeft (l : Launch) (D : va_G) (cI cC cN : ClassId) (N : Nat) (q : Nat) (q_found : Nat) (q_before : Nat) (sz : Nat) (f_found : Nat → Int32) (f_size : Int32) (f_before : Nat → Int32) (f_circles : Int32) (f_oddCircles : Int32) (f_longest : Int32) (r : Int32) (hm : m_X0_circlesLeft N f_circles = some r) : Met l yX0_circlesLeft wsX0_circlesLeft (rX0_circlesLeft) (gPc D (tysG cI cC cN) [.ref q] [(q, .inr (0, [.ref q_found, .int f_size, .ref q_before, .int f_circles, .int f_oddCircles, .int f_longest])), (q_found, .inl (cI, 80, .inl f_found)), (q_before, .inl (cI, 21, .inl f_before))] sz) (gQi D (tysG cI cC cN) (va_A [(q, .inr (0, [.ref q_found, .int f_size, .ref q_before, .int f_circles, .int f_oddCircles, .int f_longest])), (q_found, .inl (cI, 80, .inl f_found)), (q_before, .inl (cI, 21, .inl f_before))] sz) [(q, .inr (0, [.ref q_found, .int f_size, .ref q_before, .int f_circles, .int f_oddCircles, .int f_longest])), (q_found, .inl (cI, 80, .inl f_found)), (q_before, .inl (cI, 21, .inl f_before))] r) 0 0 (va_A [(q, .inr (0, [.ref q_found, .int f_size, .ref q_before, .int f_circles, .int f_oddCircles, .int f_longest])), (q_found, .inl (cI, 80, .inl f_found)), (q_before, .inl (cI, 21, .inl f_before))] sz) := by
  unfold m_X0_circlesLeft at hm
  refine g_openI (cc := cX0_circlesLeft) (maxL := 1) (own := RX0) (by decide) rfl rfl (Nat.le_of_ble_eq_true rfl) ?_
  intro p e s m args below meth c A Q hx hb hml hown hts hP hK hN hD hA hret ls hl
  have hS : va_S A s.heap s.heap [] := va_S.rf
  have hl : lv_has ls 1 [(0, .ref q)] := hl
  refine lv_aload_n hx hb dX0_circlesLeft_0 rfl (lv_at hl 0 rfl) ?_
  refine va_get (D := D) (ci := 0) (v := .int f_circles) (C := RX0) (T := TX0) (N := 6) hx hb hts (by decide +kernel) hown hK hP 0 rfl rfl 3 (by decide) (hts (.fieldLink RX0 22 "KnotStripes$Covers" "circles" "I") (by decide +kernel)) (fun _ h9 => h9) rfl dX0_circlesLeft_1 ?_
  have z1 := so_use hm
  subst z1
  exact hret _ _ _ _ _ dX0_circlesLeft_4 rfl rfl hP hD hS
abbrev rX0_oddCirclesLeft : Room := { frames := 0, cells := 0, slots := 0, locals := 0 }
set_option maxHeartbeats 4000000 in
set_option maxRecDepth 100000 in
theorem k_X0_oddCirclesLeft (l : Launch) (D : va_G) (cI cC cN : ClassId) (N : Nat) (q : Nat) (q_found : Nat) (q_before : Nat) (sz : Nat) (f_found : Nat → Int32) (f_size : Int32) (f_before : Nat → Int32) (f_circles : Int32) (f_oddCircles : Int32) (f_longest : Int32) (r : Int32) (hm : m_X0_oddCirclesLeft N f_oddCircles = some r) : Met l yX0_oddCirclesLeft wsX0_oddCirclesLeft (rX0_oddCirclesLeft) (gPc D (tysG cI cC cN) [.ref q] [(q, .inr (0, [.ref q_found, .int f_size, .ref q_before, .int f_circles, .int f_oddCircles, .int f_longest])), (q_found, .inl (cI, 80, .inl f_found)), (q_before, .inl (cI, 21, .inl f_before))] sz) (gQi D (tysG cI cC cN) (va_A [(q, .inr (0, [.ref q_found, .int f_size, .ref q_before, .int f_circles, .int f_oddCircles, .int f_longest])), (q_found, .inl (cI, 80, .inl f_found)), (q_before, .inl (cI, 21, .inl f_before))] sz) [(q, .inr (0, [.ref q_found, .int f_size, .ref q_before, .int f_circles, .int f_oddCircles, .int f_longest])), (q_found, .inl (cI, 80, .inl f_found)), (q_before, .inl (cI, 21, .inl f_before))] r) 0 0 (va_A [(q, .inr (0, [.ref q_found, .int f_size, .ref q_before, .int f_circles, .int f_oddCircles, .int f_longest])), (q_found, .inl (cI, 80, .inl f_found)), (q_before, .inl (cI, 21, .inl f_before))] sz) := by
  unfold m_X0_oddCirclesLeft at hm
  refine g_openI (cc := cX0_oddCirclesLeft) (maxL := 1) (own := RX0) (by decide) rfl rfl (Nat.le_of_ble_eq_true rfl) ?_
  intro p e s m args below meth c A Q hx hb hml hown hts hP hK hN hD hA hret ls hl
  have hS : va_S A s.heap s.heap [] := va_S.rf
  have hl : lv_has ls 1 [(0, .ref q)] := hl
  refine lv_aload_n hx hb dX0_oddCirclesLeft_0 rfl (lv_at hl 0 rfl) ?_
  refine va_get (D := D) (ci := 0) (v := .int f_oddCircles) (C := RX0) (T := TX0) (N := 6) hx hb hts (by decide +kernel) hown hK hP 0 rfl rfl 4 (by decide) (hts (.fieldLink RX0 25 "KnotStripes$Covers" "oddCircles" "I") (by decide +kernel)) (fun _ h9 => h9) rfl dX0_oddCirclesLeft_1 ?_
  have z1 := so_use hm
  subst z1
  exact hret _ _ _ _ _ dX0_oddCirclesLeft_4 rfl rfl hP hD hS
abbrev rX0_longestLeft : Room := { frames := 0, cells := 0, slots := 0, locals := 0 }
set_option maxHeartbeats 4000000 in
set_option maxRecDepth 100000 in
theorem k_X0_longestLeft (l : Launch) (D : va_G) (cI cC cN : ClassId) (N : Nat) (q : Nat) (q_found : Nat) (q_before : Nat) (sz : Nat) (f_found : Nat → Int32) (f_size : Int32) (f_before : Nat → Int32) (f_circles : Int32) (f_oddCircles : Int32) (f_longest : Int32) (r : Int32) (hm : m_X0_longestLeft N f_longest = some r) : Met l yX0_longestLeft wsX0_longestLeft (rX0_longestLeft) (gPc D (tysG cI cC cN) [.ref q] [(q, .inr (0, [.ref q_found, .int f_size, .ref q_before, .int f_circles, .int f_oddCircles, .int f_longest])), (q_found, .inl (cI, 80, .inl f_found)), (q_before, .inl (cI, 21, .inl f_before))] sz) (gQi D (tysG cI cC cN) (va_A [(q, .inr (0, [.ref q_found, .int f_size, .ref q_before, .int f_circles, .int f_oddCircles, .int f_longest])), (q_found, .inl (cI, 80, .inl f_found)), (q_before, .inl (cI, 21, .inl f_before))] sz) [(q, .inr (0, [.ref q_found, .int f_size, .ref q_before, .int f_circles, .int f_oddCircles, .int f_longest])), (q_found, .inl (cI, 80, .inl f_found)), (q_before, .inl (cI, 21, .inl f_before))] r) 0 0 (va_A [(q, .inr (0, [.ref q_found, .int f_size, .ref q_before, .int f_circles, .int f_oddCircles, .int f_longest])), (q_found, .inl (cI, 80, .inl f_found)), (q_before, .inl (cI, 21, .inl f_before))] sz) := by
  unfold m_X0_longestLeft at hm
  refine g_openI (cc := cX0_longestLeft) (maxL := 1) (own := RX0) (by decide) rfl rfl (Nat.le_of_ble_eq_true rfl) ?_
  intro p e s m args below meth c A Q hx hb hml hown hts hP hK hN hD hA hret ls hl
  have hS : va_S A s.heap s.heap [] := va_S.rf
  have hl : lv_has ls 1 [(0, .ref q)] := hl
  refine lv_aload_n hx hb dX0_longestLeft_0 rfl (lv_at hl 0 rfl) ?_
  refine va_get (D := D) (ci := 0) (v := .int f_longest) (C := RX0) (T := TX0) (N := 6) hx hb hts (by decide +kernel) hown hK hP 0 rfl rfl 5 (by decide) (hts (.fieldLink RX0 28 "KnotStripes$Covers" "longest" "I") (by decide +kernel)) (fun _ h9 => h9) rfl dX0_longestLeft_1 ?_
  have z1 := so_use hm
  subst z1
  exact hret _ _ _ _ _ dX0_longestLeft_4 rfl rfl hP hD hS
abbrev rX1_size : Room := { frames := 0, cells := 0, slots := 0, locals := 0 }
set_option maxHeartbeats 4000000 in
set_option maxRecDepth 100000 in
theorem k_X1_size (l : Launch) (D : va_G) (cI cC cN : ClassId) (N : Nat) (q : Nat) (q_states : Nat) (q_h0 : Nat) (q_h1 : Nat) (q_h2 : Nat) (q_h3 : Nat) (sz : Nat) (f_size : Int32) (r : Int32) (hm : m_X1_size N f_size = some r) : Met l yX1_size wsX1_size (rX1_size) (gPc D (tysG cI cC cN) [.ref q] [(q, .inr (1, [.ref q_states, .int f_size])), (q_states, .inl (cN, 4, .inr (.inr (.inr (.inr (hisG q_h0 q_h1 q_h2 q_h3))))))] sz) (gQi D (tysG cI cC cN) (va_A [(q, .inr (1, [.ref q_states, .int f_size])), (q_states, .inl (cN, 4, .inr (.inr (.inr (.inr (hisG q_h0 q_h1 q_h2 q_h3))))))] sz) [(q, .inr (1, [.ref q_states, .int f_size])), (q_states, .inl (cN, 4, .inr (.inr (.inr (.inr (hisG q_h0 q_h1 q_h2 q_h3))))))] r) 0 0 (va_A [(q, .inr (1, [.ref q_states, .int f_size])), (q_states, .inl (cN, 4, .inr (.inr (.inr (.inr (hisG q_h0 q_h1 q_h2 q_h3))))))] sz) := by
  unfold m_X1_size at hm
  refine g_openI (cc := cX1_size) (maxL := 1) (own := RX1) (by decide) rfl rfl (Nat.le_of_ble_eq_true rfl) ?_
  intro p e s m args below meth c A Q hx hb hml hown hts hP hK hN hD hA hret ls hl
  have hS : va_S A s.heap s.heap [] := va_S.rf
  have hl : lv_has ls 1 [(0, .ref q)] := hl
  refine lv_aload_n hx hb dX1_size_0 rfl (lv_at hl 0 rfl) ?_
  refine va_get (D := D) (ci := 1) (v := .int f_size) (C := RX1) (T := TX1) (N := 2) hx hb hts (by decide +kernel) hown hK hP 0 rfl rfl 1 (by decide) (hts (.fieldLink RX1 18 "KnotStripes$History" "size" "I") (by decide +kernel)) (fun _ h9 => h9) rfl dX1_size_1 ?_
  have z1 := so_use hm
  subst z1
  exact hret _ _ _ _ _ dX1_size_4 rfl rfl hP hD hS
abbrev rX2_colour : Room := { frames := 1, cells := 0, slots := 0, locals := 21 }
set_option maxHeartbeats 4000000 in
set_option maxRecDepth 100000 in
theorem k_X2_colour (l : Launch) (D : va_G) (cI cC cN : ClassId) (N : Nat) (q : Nat) (q_ends : Nat) (q_colours : Nat) (sz : Nat) (f_knots : Int32) (f_threads : Int32) (f_ends : Nat → Int32) (f_colours : Nat → Int32) (a1 : Int32) (r : Int32) (hm : m_X2_colour N f_colours a1 = some r) : Met l yX2_colour wsX2_colour (rX2_colour) (gPc D (tysG cI cC cN) [.ref q, .int a1] [(q, .inr (2, [.int f_knots, .int f_threads, .ref q_ends, .ref q_colours])), (q_ends, .inl (cI, 21, .inl f_ends)), (q_colours, .inl (cI, 21, .inl f_colours))] sz) (gQi D (tysG cI cC cN) (va_A [(q, .inr (2, [.int f_knots, .int f_threads, .ref q_ends, .ref q_colours])), (q_ends, .inl (cI, 21, .inl f_ends)), (q_colours, .inl (cI, 21, .inl f_colours))] sz) [(q, .inr (2, [.int f_knots, .int f_threads, .ref q_ends, .ref q_colours])), (q_ends, .inl (cI, 21, .inl f_ends)), (q_colours, .inl (cI, 21, .inl f_colours))] r) 0 0 (va_A [(q, .inr (2, [.int f_knots, .int f_threads, .ref q_ends, .ref q_colours])), (q_ends, .inl (cI, 21, .inl f_ends)), (q_colours, .inl (cI, 21, .inl f_colours))] sz) := by
  unfold m_X2_colour at hm
  refine g_openI (cc := cX2_colour) (maxL := 2) (own := RX2) (by decide) rfl rfl (Nat.le_of_ble_eq_true rfl) ?_
  intro p e s m args below meth c A Q hx hb hml hown hts hP hK hN hD hA hret ls hl
  have hS : va_S A s.heap s.heap [] := va_S.rf
  have hl : lv_has ls 2 [(0, .ref q), (1, .int a1)] := hl
  refine lv_aload_n hx hb dX2_colour_0 rfl (lv_at hl 0 rfl) ?_
  refine va_get (D := D) (ci := 2) (v := .ref q_colours) (C := RX2) (T := TX2) (N := 4) hx hb hts (by decide +kernel) hown hK hP 0 rfl rfl 3 (by decide) (hts (.fieldLink RX2 22 "KnotStripes$Net" "colours" "[I") (by decide +kernel)) (fun _ h9 => h9) rfl dX2_colour_1 ?_
  refine lv_iload_n hx hb dX2_colour_4 rfl (lv_at hl 1 rfl) ?_
  obtain ⟨r_1, h_2, hm⟩ := bind_use hm
  refine g_ki (wc := [(q_colours, .inl (cI, 21, .inl f_colours))]) (wr := [(q, .inr (2, [.int f_knots, .int f_threads, .ref q_ends, .ref q_colours])), (q_ends, .inl (cI, 21, .inl f_ends))]) (w2 := [(q, .inr (2, [.int f_knots, .int f_threads, .ref q_ends, .ref q_colours])), (q_ends, .inl (cI, 21, .inl f_ends)), (q_colours, .inl (cI, 21, .inl f_colours))]) (va_runSN (As := [.ref q_colours, .int a1]) (rest := []) ⟨hx, hb, hml, hown, hts⟩ (k_X6_at l D cI cC cN N q_colours 21 s.heap.size f_colours a1 r_1 h_2) ⟨va_cnB 2 hts gX2_colour_X6_at_n29 rfl rfl rfl (hN (.methodLinkNest RX2 29 yX6_at RX6) (by decide +kernel)) (hts (.initialized RX6) (by decide +kernel)) (by decide +kernel) ⟨Nat.le_of_ble_eq_true rfl, Nat.le_of_ble_eq_true rfl⟩, hts (.static yX6_at) (by decide +kernel), trivial⟩ ⟨g_blind, g_pre (hP.sub [2] rfl) hK hN (hD.sub [2] (by decide) rfl)⟩ rfl rfl hl.1 rfl (lv_room (Nat.le_of_ble_eq_true rfl)) dX2_colour_5 ⟨Nat.zero_le _, Nat.zero_le _⟩) hP hD hS hA [2] [0, 1] rfl rfl (by decide) (by decide) rfl (fun H locs hP hD hS => ?_)
  have z1 := so_use hm
  subst z1
  exact hret _ _ _ _ _ dX2_colour_8 rfl rfl hP hD hS
abbrev rX2_copyFrom : Room := { frames := 2, cells := 0, slots := 0, locals := 42 }
set_option maxHeartbeats 4000000 in
set_option maxRecDepth 100000 in
theorem k_X2_copyFrom (l : Launch) (D : va_G) (cI cC cN : ClassId) (N : Nat) (q : Nat) (q_ends : Nat) (q_colours : Nat) (q_p0 : Nat) (q_p0_ends : Nat) (q_p0_colours : Nat) (sz : Nat) (f_knots : Int32) (f_threads : Int32) (f_ends : Nat → Int32) (f_colours : Nat → Int32) (f_p0_knots : Int32) (f_p0_threads : Int32) (f_p0_ends : Nat → Int32) (f_p0_colours : Nat → Int32) (f_knots' : Int32) (f_threads' : Int32) (f_ends' : Nat → Int32) (f_colours' : Nat → Int32) (hm : m_X2_copyFrom N f_knots f_threads f_ends f_colours f_p0_knots f_p0_threads f_p0_ends f_p0_colours = some (f_knots', f_threads', f_ends', f_colours')) : Met l yX2_copyFrom wsX2_copyFrom (rX2_copyFrom) (gPc D (tysG cI cC cN) [.ref q, .ref q_p0] [(q, .inr (2, [.int f_knots, .int f_threads, .ref q_ends, .ref q_colours])), (q_ends, .inl (cI, 21, .inl f_ends)), (q_colours, .inl (cI, 21, .inl f_colours)), (q_p0, .inr (2, [.int f_p0_knots, .int f_p0_threads, .ref q_p0_ends, .ref q_p0_colours])), (q_p0_ends, .inl (cI, 21, .inl f_p0_ends)), (q_p0_colours, .inl (cI, 21, .inl f_p0_colours))] sz) (gQv D (tysG cI cC cN) (va_A [(q, .inr (2, [.int f_knots, .int f_threads, .ref q_ends, .ref q_colours])), (q_ends, .inl (cI, 21, .inl f_ends)), (q_colours, .inl (cI, 21, .inl f_colours)), (q_p0, .inr (2, [.int f_p0_knots, .int f_p0_threads, .ref q_p0_ends, .ref q_p0_colours])), (q_p0_ends, .inl (cI, 21, .inl f_p0_ends)), (q_p0_colours, .inl (cI, 21, .inl f_p0_colours))] sz) [(q, .inr (2, [.int f_knots', .int f_threads', .ref q_ends, .ref q_colours])), (q_ends, .inl (cI, 21, .inl f_ends')), (q_colours, .inl (cI, 21, .inl f_colours')), (q_p0, .inr (2, [.int f_p0_knots, .int f_p0_threads, .ref q_p0_ends, .ref q_p0_colours])), (q_p0_ends, .inl (cI, 21, .inl f_p0_ends)), (q_p0_colours, .inl (cI, 21, .inl f_p0_colours))]) 0 0 (va_A [(q, .inr (2, [.int f_knots, .int f_threads, .ref q_ends, .ref q_colours])), (q_ends, .inl (cI, 21, .inl f_ends)), (q_colours, .inl (cI, 21, .inl f_colours)), (q_p0, .inr (2, [.int f_p0_knots, .int f_p0_threads, .ref q_p0_ends, .ref q_p0_colours])), (q_p0_ends, .inl (cI, 21, .inl f_p0_ends)), (q_p0_colours, .inl (cI, 21, .inl f_p0_colours))] sz) := by
  unfold m_X2_copyFrom at hm
  refine g_openV (cc := cX2_copyFrom) (maxL := 3) (own := RX2) (by decide) rfl rfl (Nat.le_of_ble_eq_true rfl) ?_
  intro p e s m args below meth c A Q hx hb hml hown hts hP hK hN hD hA hret ls hl
  have hS : va_S A s.heap s.heap [] := va_S.rf
  have hl : lv_has ls 3 [(0, .ref q), (1, .ref q_p0)] := hl
  refine lv_aload_n hx hb dX2_copyFrom_0 rfl (lv_at hl 0 rfl) ?_
  refine lv_aload_n hx hb dX2_copyFrom_1 rfl (lv_at hl 1 rfl) ?_
  refine va_get (D := D) (ci := 2) (v := .int f_p0_knots) (C := RX2) (T := TX2) (N := 4) hx hb hts (by decide +kernel) hown hK hP 3 rfl rfl 0 (by decide) (hts (.fieldLink RX2 9 "KnotStripes$Net" "knots" "I") (by decide +kernel)) (fun _ h9 => h9) rfl dX2_copyFrom_2 ?_
  refine va_put (D := D) (ci := 2) (v := .int f_p0_knots) (ty := .int) (C := RX2) (T := TX2) (N := 4) hx hb hts (by decide +kernel) tyX2 tyX2_ok nmX2 hown hK hP hD hS 0 rfl rfl 0 (by decide) (hts (.fieldLink RX2 9 "KnotStripes$Net" "knots" "I") (by decide +kernel)) (fun _ h9 => h9) rfl (by decide +kernel) rfl rfl (Nat.le_of_ble_eq_true rfl) dX2_copyFrom_5 (fun H locs hP hD hS => ?_)
  have hP : va_P D vwCl [(q, .inr (2, [.int f_p0_knots, .int f_threads, .ref q_ends, .ref q_colours])), (q_ends, .inl (cI, 21, .inl f_ends)), (q_colours, .inl (cI, 21, .inl f_colours)), (q_p0, .inr (2, [.int f_p0_knots, .int f_p0_threads, .ref q_p0_ends, .ref q_p0_colours])), (q_p0_ends, .inl (cI, 21, .inl f_p0_ends)), (q_p0_colours, .inl (cI, 21, .inl f_p0_colours))] H := hP
  have hD : va_D A [(q, .inr (2, [.int f_p0_knots, .int f_threads, .ref q_ends, .ref q_colours])), (q_ends, .inl (cI, 21, .inl f_ends)), (q_colours, .inl (cI, 21, .inl f_colours)), (q_p0, .inr (2, [.int f_p0_knots, .int f_p0_threads, .ref q_p0_ends, .ref q_p0_colours])), (q_p0_ends, .inl (cI, 21, .inl f_p0_ends)), (q_p0_colours, .inl (cI, 21, .inl f_p0_colours))] := hD
  refine lv_aload_n hx hb dX2_copyFrom_8 rfl (lv_at hl 0 rfl) ?_
  refine lv_aload_n hx hb dX2_copyFrom_9 rfl (lv_at hl 1 rfl) ?_
  refine va_get (D := D) (ci := 2) (v := .int f_p0_threads) (C := RX2) (T := TX2) (N := 4) hx hb hts (by decide +kernel) hown hK hP 3 rfl rfl 1 (by decide) (hts (.fieldLink RX2 15 "KnotStripes$Net" "threads" "I") (by decide +kernel)) (fun _ h9 => h9) rfl dX2_copyFrom_10 ?_
  refine va_put (D := D) (ci := 2) (v := .int f_p0_threads) (ty := .int) (C := RX2) (T := TX2) (N := 4) hx hb hts (by decide +kernel) tyX2 tyX2_ok nmX2 hown hK hP hD hS 0 rfl rfl 1 (by decide) (hts (.fieldLink RX2 15 "KnotStripes$Net" "threads" "I") (by decide +kernel)) (fun _ h9 => h9) rfl (by decide +kernel) rfl rfl (Nat.le_of_ble_eq_true rfl) dX2_copyFrom_13 (fun H locs hP hD hS => ?_)
  have hP : va_P D vwCl [(q, .inr (2, [.int f_p0_knots, .int f_p0_threads, .ref q_ends, .ref q_colours])), (q_ends, .inl (cI, 21, .inl f_ends)), (q_colours, .inl (cI, 21, .inl f_colours)), (q_p0, .inr (2, [.int f_p0_knots, .int f_p0_threads, .ref q_p0_ends, .ref q_p0_colours])), (q_p0_ends, .inl (cI, 21, .inl f_p0_ends)), (q_p0_colours, .inl (cI, 21, .inl f_p0_colours))] H := hP
  have hD : va_D A [(q, .inr (2, [.int f_p0_knots, .int f_p0_threads, .ref q_ends, .ref q_colours])), (q_ends, .inl (cI, 21, .inl f_ends)), (q_colours, .inl (cI, 21, .inl f_colours)), (q_p0, .inr (2, [.int f_p0_knots, .int f_p0_threads, .ref q_p0_ends, .ref q_p0_colours])), (q_p0_ends, .inl (cI, 21, .inl f_p0_ends)), (q_p0_colours, .inl (cI, 21, .inl f_p0_colours))] := hD
  refine lv_iconst (v := 0) hx hb dX2_copyFrom_16 (by decide) ?_
  refine lv_istore_n (lv' := [(2, .int 0), (0, .ref q), (1, .ref q_p0)]) hx hb dX2_copyFrom_17 rfl hl (by decide) rfl (fun ls hl => ?_)
  have l18 : ∀ (n_18 : Nat) (x2_1 : Int32) (f_ends_2 : Nat → Int32) (f_colours_3 : Nat → Int32), ∀ (H : Heap) (locs : List Loc) (ls : Array Slot), va_P D vwCl [(q, .inr (2, [.int f_p0_knots, .int f_p0_threads, .ref q_ends, .ref q_colours])), (q_ends, .inl (cI, 21, .inl f_ends_2)), (q_colours, .inl (cI, 21, .inl f_colours_3)), (q_p0, .inr (2, [.int f_p0_knots, .int f_p0_threads, .ref q_p0_ends, .ref q_p0_colours])), (q_p0_ends, .inl (cI, 21, .inl f_p0_ends)), (q_p0_colours, .inl (cI, 21, .inl f_p0_colours))] H → va_D A [(q, .inr (2, [.int f_p0_knots, .int f_p0_threads, .ref q_ends, .ref q_colours])), (q_ends, .inl (cI, 21, .inl f_ends_2)), (q_colours, .inl (cI, 21, .inl f_colours_3)), (q_p0, .inr (2, [.int f_p0_knots, .int f_p0_threads, .ref q_p0_ends, .ref q_p0_colours])), (q_p0_ends, .inl (cI, 21, .inl f_p0_ends)), (q_p0_colours, .inl (cI, 21, .inl f_p0_colours))] → va_S A s.heap H locs → lv_has ls 3 [(2, .int x2_1), (0, .ref q), (1, .ref q_p0)] → m_X2_copyFrom_L18 N f_p0_knots f_p0_threads f_p0_ends f_p0_colours n_18 x2_1 f_ends_2 f_colours_3 = some (f_knots', f_threads', f_ends', f_colours') → W p l e rX2_copyFrom s m args below meth c H locs 0 0 Q (F0 m 18 ls []) := by
    intro n_18
    induction n_18 with
    | zero => intro x2_1 f_ends_2 f_colours_3 H locs ls hP hD hS hl hm; rw [m_X2_copyFrom_L18] at hm; exact no_use hm
    | succ n_18 ih18 =>
      intro x2_1 f_ends_2 f_colours_3 H locs ls hP hD hS hl hm
      rw [m_X2_copyFrom_L18] at hm
      refine lv_iload_n hx hb dX2_copyFrom_18 rfl (lv_at hl 0 rfl) ?_
      refine lv_aload_n hx hb dX2_copyFrom_19 rfl (lv_at hl 1 rfl) ?_
      refine va_get (D := D) (ci := 2) (v := .int f_p0_threads) (C := RX2) (T := TX2) (N := 4) hx hb hts (by decide +kernel) hown hK hP 0 rfl rfl 1 (by decide) (hts (.fieldLink RX2 15 "KnotStripes$Net" "threads" "I") (by decide +kernel)) (fun _ h9 => h9) rfl dX2_copyFrom_20 ?_
      refine lv_icmp_ge (tgt := 58) hx hb dX2_copyFrom_23 (by decide) (fun hc => ?_) (fun hc => ?_)
      · have hm := if_t _ hc hm
        have z1 := so_use hm
        obtain ⟨y1, z2⟩ := pr_use z1
        obtain ⟨y2, z3⟩ := pr_use z2
        obtain ⟨y3, z4⟩ := pr_use z3
        subst y1
        subst y2
        subst y3
        subst z4
        exact hret _ _ _ _ dX2_copyFrom_58 hP hD hS
      · have hm := if_f _ hc hm
        refine lv_aload_n hx hb dX2_copyFrom_26 rfl (lv_at hl 1 rfl) ?_
        refine va_get (D := D) (ci := 2) (v := .ref q_ends) (C := RX2) (T := TX2) (N := 4) hx hb hts (by decide +kernel) hown hK hP 0 rfl rfl 2 (by decide) (hts (.fieldLink RX2 18 "KnotStripes$Net" "ends" "[I") (by decide +kernel)) (fun _ h9 => h9) rfl dX2_copyFrom_27 ?_
        refine lv_iload_n hx hb dX2_copyFrom_30 rfl (lv_at hl 0 rfl) ?_
        refine lv_aload_n hx hb dX2_copyFrom_31 rfl (lv_at hl 2 rfl) ?_
        refine lv_iload_n hx hb dX2_copyFrom_32 rfl (lv_at hl 0 rfl) ?_
        obtain ⟨r_4, h_5, hm⟩ := bind_use hm
        refine g_ki (wc := [(q_p0, .inr (2, [.int f_p0_knots, .int f_p0_threads, .ref q_p0_ends, .ref q_p0_colours])), (q_p0_ends, .inl (cI, 21, .inl f_p0_ends)), (q_p0_colours, .inl (cI, 21, .inl f_p0_colours))]) (wr := [(q, .inr (2, [.int f_p0_knots, .int f_p0_threads, .ref q_ends, .ref q_colours])), (q_ends, .inl (cI, 21, .inl f_ends_2)), (q_colours, .inl (cI, 21, .inl f_colours_3))]) (w2 := [(q, .inr (2, [.int f_p0_knots, .int f_p0_threads, .ref q_ends, .ref q_colours])), (q_ends, .inl (cI, 21, .inl f_ends_2)), (q_colours, .inl (cI, 21, .inl f_colours_3)), (q_p0, .inr (2, [.int f_p0_knots, .int f_p0_threads, .ref q_p0_ends, .ref q_p0_colours])), (q_p0_ends, .inl (cI, 21, .inl f_p0_ends)), (q_p0_colours, .inl (cI, 21, .inl f_p0_colours))]) (va_runV (As := [.int x2_1]) (rest := [.int x2_1, .ref q_ends]) ⟨hx, hb, hml, hown, hts⟩ (k_X2_ends l D cI cC cN N q_p0 q_p0_ends q_p0_colours H.size f_p0_knots f_p0_threads f_p0_ends f_p0_colours x2_1 r_4 h_5) (cwV 1 hts gX2_copyFrom_X2_ends rfl rfl rfl (by decide +kernel) ⟨Nat.le_of_ble_eq_true rfl, Nat.le_of_ble_eq_true rfl⟩) ⟨g_blind, va_recv (D := D) (ci := 2) (q0 := 3) hK hP rfl rfl, g_pre (hP.sub [3, 4, 5] rfl) hK hN (hD.sub [3, 4, 5] (by decide) rfl)⟩ rfl rfl hl.1 rfl (lv_room (Nat.le_of_ble_eq_true rfl)) dX2_copyFrom_33 ⟨Nat.zero_le _, Nat.zero_le _⟩) hP hD hS hA [3, 4, 5] [0, 1, 2] rfl rfl (by decide) (by decide) rfl (fun H locs hP hD hS => ?_)
        obtain ⟨f_ends_6, h_7, hm⟩ := bind_use hm
        refine g_kv (wc := [(q_ends, .inl (cI, 21, .inl f_ends_2))]) (wr := [(q, .inr (2, [.int f_p0_knots, .int f_p0_threads, .ref q_ends, .ref q_colours])), (q_colours, .inl (cI, 21, .inl f_colours_3)), (q_p0, .inr (2, [.int f_p0_knots, .int f_p0_threads, .ref q_p0_ends, .ref q_p0_colours])), (q_p0_ends, .inl (cI, 21, .inl f_p0_ends)), (q_p0_colours, .inl (cI, 21, .inl f_p0_colours))]) (w2 := [(q, .inr (2, [.int f_p0_knots, .int f_p0_threads, .ref q_ends, .ref q_colours])), (q_colours, .inl (cI, 21, .inl f_colours_3)), (q_p0, .inr (2, [.int f_p0_knots, .int f_p0_threads, .ref q_p0_ends, .ref q_p0_colours])), (q_p0_ends, .inl (cI, 21, .inl f_p0_ends)), (q_p0_colours, .inl (cI, 21, .inl f_p0_colours)), (q_ends, .inl (cI, 21, .inl f_ends_6))]) (va_runSN (As := [.ref q_ends, .int x2_1, .int r_4]) (rest := []) ⟨hx, hb, hml, hown, hts⟩ (k_X6_put l D cI cC cN N q_ends 21 H.size f_ends_2 x2_1 r_4 f_ends_6 h_7) ⟨va_cnB 3 hts gX2_copyFrom_X6_put_n43 rfl rfl rfl (hN (.methodLinkNest RX2 43 yX6_put RX6) (by decide +kernel)) (hts (.initialized RX6) (by decide +kernel)) (by decide +kernel) ⟨Nat.le_of_ble_eq_true rfl, Nat.le_of_ble_eq_true rfl⟩, hts (.static yX6_put) (by decide +kernel), trivial⟩ ⟨g_blind, g_pre (hP.sub [1] rfl) hK hN (hD.sub [1] (by decide) rfl)⟩ rfl rfl hl.1 rfl (lv_room (Nat.le_of_ble_eq_true rfl)) dX2_copyFrom_36 ⟨Nat.zero_le _, Nat.zero_le _⟩) hP hD hS hA [1] [0, 2, 3, 4, 5] rfl rfl (by decide) (by decide) rfl (fun H locs hP hD hS => ?_)
        refine lv_aload_n hx hb dX2_copyFrom_39 rfl (lv_at hl 1 rfl) ?_
        refine va_get (D := D) (ci := 2) (v := .ref q_colours) (C := RX2) (T := TX2) (N := 4) hx hb hts (by decide +kernel) hown hK hP 0 rfl rfl 3 (by decide) (hts (.fieldLink RX2 22 "KnotStripes$Net" "colours" "[I") (by decide +kernel)) (fun _ h9 => h9) rfl dX2_copyFrom_40 ?_
        refine lv_iload_n hx hb dX2_copyFrom_43 rfl (lv_at hl 0 rfl) ?_
        refine lv_aload_n hx hb dX2_copyFrom_44 rfl (lv_at hl 2 rfl) ?_
        refine lv_iload_n hx hb dX2_copyFrom_45 rfl (lv_at hl 0 rfl) ?_
        obtain ⟨r_8, h_9, hm⟩ := bind_use hm
        refine g_ki (wc := [(q_p0, .inr (2, [.int f_p0_knots, .int f_p0_threads, .ref q_p0_ends, .ref q_p0_colours])), (q_p0_ends, .inl (cI, 21, .inl f_p0_ends)), (q_p0_colours, .inl (cI, 21, .inl f_p0_colours))]) (wr := [(q, .inr (2, [.int f_p0_knots, .int f_p0_threads, .ref q_ends, .ref q_colours])), (q_colours, .inl (cI, 21, .inl f_colours_3)), (q_ends, .inl (cI, 21, .inl f_ends_6))]) (w2 := [(q, .inr (2, [.int f_p0_knots, .int f_p0_threads, .ref q_ends, .ref q_colours])), (q_colours, .inl (cI, 21, .inl f_colours_3)), (q_ends, .inl (cI, 21, .inl f_ends_6)), (q_p0, .inr (2, [.int f_p0_knots, .int f_p0_threads, .ref q_p0_ends, .ref q_p0_colours])), (q_p0_ends, .inl (cI, 21, .inl f_p0_ends)), (q_p0_colours, .inl (cI, 21, .inl f_p0_colours))]) (va_runV (As := [.int x2_1]) (rest := [.int x2_1, .ref q_colours]) ⟨hx, hb, hml, hown, hts⟩ (k_X2_colour l D cI cC cN N q_p0 q_p0_ends q_p0_colours H.size f_p0_knots f_p0_threads f_p0_ends f_p0_colours x2_1 r_8 h_9) (cwV 1 hts gX2_copyFrom_X2_colour rfl rfl rfl (by decide +kernel) ⟨Nat.le_of_ble_eq_true rfl, Nat.le_of_ble_eq_true rfl⟩) ⟨g_blind, va_recv (D := D) (ci := 2) (q0 := 2) hK hP rfl rfl, g_pre (hP.sub [2, 3, 4] rfl) hK hN (hD.sub [2, 3, 4] (by decide) rfl)⟩ rfl rfl hl.1 rfl (lv_room (Nat.le_of_ble_eq_true rfl)) dX2_copyFrom_46 ⟨Nat.zero_le _, Nat.zero_le _⟩) hP hD hS hA [2, 3, 4] [0, 1, 5] rfl rfl (by decide) (by decide) rfl (fun H locs hP hD hS => ?_)
        obtain ⟨f_colours_10, h_11, hm⟩ := bind_use hm
        refine g_kv (wc := [(q_colours, .inl (cI, 21, .inl f_colours_3))]) (wr := [(q, .inr (2, [.int f_p0_knots, .int f_p0_threads, .ref q_ends, .ref q_colours])), (q_ends, .inl (cI, 21, .inl f_ends_6)), (q_p0, .inr (2, [.int f_p0_knots, .int f_p0_threads, .ref q_p0_ends, .ref q_p0_colours])), (q_p0_ends, .inl (cI, 21, .inl f_p0_ends)), (q_p0_colours, .inl (cI, 21, .inl f_p0_colours))]) (w2 := [(q, .inr (2, [.int f_p0_knots, .int f_p0_threads, .ref q_ends, .ref q_colours])), (q_ends, .inl (cI, 21, .inl f_ends_6)), (q_p0, .inr (2, [.int f_p0_knots, .int f_p0_threads, .ref q_p0_ends, .ref q_p0_colours])), (q_p0_ends, .inl (cI, 21, .inl f_p0_ends)), (q_p0_colours, .inl (cI, 21, .inl f_p0_colours)), (q_colours, .inl (cI, 21, .inl f_colours_10))]) (va_runSN (As := [.ref q_colours, .int x2_1, .int r_8]) (rest := []) ⟨hx, hb, hml, hown, hts⟩ (k_X6_put l D cI cC cN N q_colours 21 H.size f_colours_3 x2_1 r_8 f_colours_10 h_11) ⟨va_cnB 3 hts gX2_copyFrom_X6_put_n43 rfl rfl rfl (hN (.methodLinkNest RX2 43 yX6_put RX6) (by decide +kernel)) (hts (.initialized RX6) (by decide +kernel)) (by decide +kernel) ⟨Nat.le_of_ble_eq_true rfl, Nat.le_of_ble_eq_true rfl⟩, hts (.static yX6_put) (by decide +kernel), trivial⟩ ⟨g_blind, g_pre (hP.sub [1] rfl) hK hN (hD.sub [1] (by decide) rfl)⟩ rfl rfl hl.1 rfl (lv_room (Nat.le_of_ble_eq_true rfl)) dX2_copyFrom_49 ⟨Nat.zero_le _, Nat.zero_le _⟩) hP hD hS hA [1] [0, 2, 3, 4, 5] rfl rfl (by decide) (by decide) rfl (fun H locs hP hD hS => ?_)
        refine lv_iinc (v := (x2_1 + 1)) (lv' := [(2, .int (x2_1 + 1)), (0, .ref q), (1, .ref q_p0)]) hx hb dX2_copyFrom_52 hl (k := 0) rfl rfl (by decide) rfl (fun ls hl => ?_)
        refine lv_goto (tgt := 18) hx hb dX2_copyFrom_55 (by decide) ?_
        exact ih18 (x2_1 + 1) f_ends_6 f_colours_10 _ _ _ (hP.sub [0, 1, 5, 2, 3, 4] rfl) (hD.sub [0, 1, 5, 2, 3, 4] (by decide) rfl) hS hl hm
  exact l18 N 0 f_ends f_colours _ _ _ hP hD hS hl hm
abbrev rX1_dropOldest : Room := { frames := 3, cells := 0, slots := 0, locals := 64 }
set_option maxHeartbeats 4000000 in
set_option maxRecDepth 100000 in
theorem k_X1_dropOldest (l : Launch) (D : va_G) (cI cC cN : ClassId) (N : Nat) (q : Nat) (q_states : Nat) (q_h0 : Nat) (q_h1 : Nat) (q_h2 : Nat) (q_h3 : Nat) (q_h0_ends : Nat) (q_h0_colours : Nat) (q_h1_ends : Nat) (q_h1_colours : Nat) (q_h2_ends : Nat) (q_h2_colours : Nat) (q_h3_ends : Nat) (q_h3_colours : Nat) (sz : Nat) (f_size : Int32) (f_h0_knots : Int32) (f_h0_threads : Int32) (f_h0_ends : Nat → Int32) (f_h0_colours : Nat → Int32) (f_h1_knots : Int32) (f_h1_threads : Int32) (f_h1_ends : Nat → Int32) (f_h1_colours : Nat → Int32) (f_h2_knots : Int32) (f_h2_threads : Int32) (f_h2_ends : Nat → Int32) (f_h2_colours : Nat → Int32) (f_h3_knots : Int32) (f_h3_threads : Int32) (f_h3_ends : Nat → Int32) (f_h3_colours : Nat → Int32) (f_size' : Int32) (f_h0_knots' : Int32) (f_h0_threads' : Int32) (f_h0_ends' : Nat → Int32) (f_h0_colours' : Nat → Int32) (f_h1_knots' : Int32) (f_h1_threads' : Int32) (f_h1_ends' : Nat → Int32) (f_h1_colours' : Nat → Int32) (f_h2_knots' : Int32) (f_h2_threads' : Int32) (f_h2_ends' : Nat → Int32) (f_h2_colours' : Nat → Int32) (f_h3_knots' : Int32) (f_h3_threads' : Int32) (f_h3_ends' : Nat → Int32) (f_h3_colours' : Nat → Int32) (hm : m_X1_dropOldest N f_size f_h0_knots f_h0_threads f_h0_ends f_h0_colours f_h1_knots f_h1_threads f_h1_ends f_h1_colours f_h2_knots f_h2_threads f_h2_ends f_h2_colours f_h3_knots f_h3_threads f_h3_ends f_h3_colours = some (f_size', f_h0_knots', f_h0_threads', f_h0_ends', f_h0_colours', f_h1_knots', f_h1_threads', f_h1_ends', f_h1_colours', f_h2_knots', f_h2_threads', f_h2_ends', f_h2_colours', f_h3_knots', f_h3_threads', f_h3_ends', f_h3_colours')) : Met l yX1_dropOldest wsX1_dropOldest (rX1_dropOldest) (gPc D (tysG cI cC cN) [.ref q] [(q, .inr (1, [.ref q_states, .int f_size])), (q_states, .inl (cN, 4, .inr (.inr (.inr (.inr (hisG q_h0 q_h1 q_h2 q_h3)))))), (q_h0, .inr (2, [.int f_h0_knots, .int f_h0_threads, .ref q_h0_ends, .ref q_h0_colours])), (q_h0_ends, .inl (cI, 21, .inl f_h0_ends)), (q_h0_colours, .inl (cI, 21, .inl f_h0_colours)), (q_h1, .inr (2, [.int f_h1_knots, .int f_h1_threads, .ref q_h1_ends, .ref q_h1_colours])), (q_h1_ends, .inl (cI, 21, .inl f_h1_ends)), (q_h1_colours, .inl (cI, 21, .inl f_h1_colours)), (q_h2, .inr (2, [.int f_h2_knots, .int f_h2_threads, .ref q_h2_ends, .ref q_h2_colours])), (q_h2_ends, .inl (cI, 21, .inl f_h2_ends)), (q_h2_colours, .inl (cI, 21, .inl f_h2_colours)), (q_h3, .inr (2, [.int f_h3_knots, .int f_h3_threads, .ref q_h3_ends, .ref q_h3_colours])), (q_h3_ends, .inl (cI, 21, .inl f_h3_ends)), (q_h3_colours, .inl (cI, 21, .inl f_h3_colours))] sz) (gQv D (tysG cI cC cN) (va_A [(q, .inr (1, [.ref q_states, .int f_size])), (q_states, .inl (cN, 4, .inr (.inr (.inr (.inr (hisG q_h0 q_h1 q_h2 q_h3)))))), (q_h0, .inr (2, [.int f_h0_knots, .int f_h0_threads, .ref q_h0_ends, .ref q_h0_colours])), (q_h0_ends, .inl (cI, 21, .inl f_h0_ends)), (q_h0_colours, .inl (cI, 21, .inl f_h0_colours)), (q_h1, .inr (2, [.int f_h1_knots, .int f_h1_threads, .ref q_h1_ends, .ref q_h1_colours])), (q_h1_ends, .inl (cI, 21, .inl f_h1_ends)), (q_h1_colours, .inl (cI, 21, .inl f_h1_colours)), (q_h2, .inr (2, [.int f_h2_knots, .int f_h2_threads, .ref q_h2_ends, .ref q_h2_colours])), (q_h2_ends, .inl (cI, 21, .inl f_h2_ends)), (q_h2_colours, .inl (cI, 21, .inl f_h2_colours)), (q_h3, .inr (2, [.int f_h3_knots, .int f_h3_threads, .ref q_h3_ends, .ref q_h3_colours])), (q_h3_ends, .inl (cI, 21, .inl f_h3_ends)), (q_h3_colours, .inl (cI, 21, .inl f_h3_colours))] sz) [(q, .inr (1, [.ref q_states, .int f_size'])), (q_states, .inl (cN, 4, .inr (.inr (.inr (.inr (hisG q_h0 q_h1 q_h2 q_h3)))))), (q_h0, .inr (2, [.int f_h0_knots', .int f_h0_threads', .ref q_h0_ends, .ref q_h0_colours])), (q_h0_ends, .inl (cI, 21, .inl f_h0_ends')), (q_h0_colours, .inl (cI, 21, .inl f_h0_colours')), (q_h1, .inr (2, [.int f_h1_knots', .int f_h1_threads', .ref q_h1_ends, .ref q_h1_colours])), (q_h1_ends, .inl (cI, 21, .inl f_h1_ends')), (q_h1_colours, .inl (cI, 21, .inl f_h1_colours')), (q_h2, .inr (2, [.int f_h2_knots', .int f_h2_threads', .ref q_h2_ends, .ref q_h2_colours])), (q_h2_ends, .inl (cI, 21, .inl f_h2_ends')), (q_h2_colours, .inl (cI, 21, .inl f_h2_colours')), (q_h3, .inr (2, [.int f_h3_knots', .int f_h3_threads', .ref q_h3_ends, .ref q_h3_colours])), (q_h3_ends, .inl (cI, 21, .inl f_h3_ends')), (q_h3_colours, .inl (cI, 21, .inl f_h3_colours'))]) 0 0 (va_A [(q, .inr (1, [.ref q_states, .int f_size])), (q_states, .inl (cN, 4, .inr (.inr (.inr (.inr (hisG q_h0 q_h1 q_h2 q_h3)))))), (q_h0, .inr (2, [.int f_h0_knots, .int f_h0_threads, .ref q_h0_ends, .ref q_h0_colours])), (q_h0_ends, .inl (cI, 21, .inl f_h0_ends)), (q_h0_colours, .inl (cI, 21, .inl f_h0_colours)), (q_h1, .inr (2, [.int f_h1_knots, .int f_h1_threads, .ref q_h1_ends, .ref q_h1_colours])), (q_h1_ends, .inl (cI, 21, .inl f_h1_ends)), (q_h1_colours, .inl (cI, 21, .inl f_h1_colours)), (q_h2, .inr (2, [.int f_h2_knots, .int f_h2_threads, .ref q_h2_ends, .ref q_h2_colours])), (q_h2_ends, .inl (cI, 21, .inl f_h2_ends)), (q_h2_colours, .inl (cI, 21, .inl f_h2_colours)), (q_h3, .inr (2, [.int f_h3_knots, .int f_h3_threads, .ref q_h3_ends, .ref q_h3_colours])), (q_h3_ends, .inl (cI, 21, .inl f_h3_ends)), (q_h3_colours, .inl (cI, 21, .inl f_h3_colours))] sz) := by
  unfold m_X1_dropOldest at hm
  refine g_openV (cc := cX1_dropOldest) (maxL := 4) (own := RX1) (by decide) rfl rfl (Nat.le_of_ble_eq_true rfl) ?_
  intro p e s m args below meth c A Q hx hb hml hown hts hP hK hN hD hA hret ls hl
  have hS : va_S A s.heap s.heap [] := va_S.rf
  have hl : lv_has ls 4 [(0, .ref q)] := hl
  refine lv_iconst (v := 1) hx hb dX1_dropOldest_0 (by decide) ?_
  refine lv_istore_n (lv' := [(1, .int 1), (0, .ref q)]) hx hb dX1_dropOldest_1 rfl hl (by decide) rfl (fun ls hl => ?_)
  refine lv_iload_n hx hb dX1_dropOldest_2 rfl (lv_at hl 0 rfl) ?_
  refine lv_aload_n hx hb dX1_dropOldest_3 rfl (lv_at hl 1 rfl) ?_
  refine va_get (D := D) (ci := 1) (v := .ref q_states) (C := RX1) (T := TX1) (N := 2) hx hb hts (by decide +kernel) hown hK hP 0 rfl rfl 0 (by decide) (hts (.fieldLink RX1 11 "KnotStripes$History" "states" "[LKnotStripes$Net;") (by decide +kernel)) (fun _ h9 => h9) rfl dX1_dropOldest_4 ?_
  refine va_alen (D := D) (v := 4) hx hb hK hP 1 2 rfl rfl rfl dX1_dropOldest_7 ?_
  refine lv_icmp_ge (tgt := 46) hx hb dX1_dropOldest_8 (by decide) (fun hc => absurd hc (by decide)) (fun _ => ?_)
  refine lv_aload_n hx hb dX1_dropOldest_11 rfl (lv_at hl 1 rfl) ?_
  refine va_get (D := D) (ci := 1) (v := .ref q_states) (C := RX1) (T := TX1) (N := 2) hx hb hts (by decide +kernel) hown hK hP 0 rfl rfl 0 (by decide) (hts (.fieldLink RX1 11 "KnotStripes$History" "states" "[LKnotStripes$Net;") (by decide +kernel)) (fun _ h9 => h9) rfl dX1_dropOldest_12 ?_
  refine lv_iload_n hx hb dX1_dropOldest_15 rfl (lv_at hl 0 rfl) ?_
  refine lv_iconst (v := 1) hx hb dX1_dropOldest_16 (by decide) ?_
  refine lv_isub hx hb dX1_dropOldest_17 ?_
  refine lv_topi (fun t_1 et_1 => ?_)
  obtain rfl : t_1 = 0 := et_1.trans (by decide)
  refine va_aldq (D := D) (n := 4) (f := hisG q_h0 q_h1 q_h2 q_h3) hx hb hK hP 1 2 rfl rfl (by unfold vp_in; decide) dX1_dropOldest_18 ?_
  refine W.eq (g2 := F0 m 19 ls [.ref q_h0]) rfl ?_
  refine lv_astore_n (lv' := [(2, .ref q_h0), (1, .int 1), (0, .ref q)]) hx hb dX1_dropOldest_19 rfl hl (by decide) rfl (fun ls hl => ?_)
  refine lv_aload_n hx hb dX1_dropOldest_20 rfl (lv_at hl 2 rfl) ?_
  refine va_get (D := D) (ci := 1) (v := .ref q_states) (C := RX1) (T := TX1) (N := 2) hx hb hts (by decide +kernel) hown hK hP 0 rfl rfl 0 (by decide) (hts (.fieldLink RX1 11 "KnotStripes$History" "states" "[LKnotStripes$Net;") (by decide +kernel)) (fun _ h9 => h9) rfl dX1_dropOldest_21 ?_
  refine lv_iload_n hx hb dX1_dropOldest_24 rfl (lv_at hl 1 rfl) ?_
  refine va_aldq (D := D) (n := 4) (f := hisG q_h0 q_h1 q_h2 q_h3) hx hb hK hP 1 2 rfl rfl (by unfold vp_in; decide) dX1_dropOldest_25 ?_
  refine W.eq (g2 := F0 m 26 ls [.ref q_h1]) rfl ?_
  refine lv_astore_n (lv' := [(3, .ref q_h1), (2, .ref q_h0), (1, .int 1), (0, .ref q)]) hx hb dX1_dropOldest_26 rfl hl (by decide) rfl (fun ls hl => ?_)
  refine lv_aload_n hx hb dX1_dropOldest_27 rfl (lv_at hl 1 rfl) ?_
  refine lv_ifnull hx hb dX1_dropOldest_28 ?_
  refine lv_aload_n hx hb dX1_dropOldest_31 rfl (lv_at hl 0 rfl) ?_
  refine lv_ifnull hx hb dX1_dropOldest_32 ?_
  refine lv_aload_n hx hb dX1_dropOldest_35 rfl (lv_at hl 1 rfl) ?_
  refine lv_aload_n hx hb dX1_dropOldest_36 rfl (lv_at hl 0 rfl) ?_
  obtain ⟨⟨f_h0_knots_2, f_h0_threads_3, f_h0_ends_4, f_h0_colours_5⟩, h_6, hm⟩ := bind_use hm
  refine g_kv (wc := [(q_h0, .inr (2, [.int f_h0_knots, .int f_h0_threads, .ref q_h0_ends, .ref q_h0_colours])), (q_h0_ends, .inl (cI, 21, .inl f_h0_ends)), (q_h0_colours, .inl (cI, 21, .inl f_h0_colours)), (q_h1, .inr (2, [.int f_h1_knots, .int f_h1_threads, .ref q_h1_ends, .ref q_h1_colours])), (q_h1_ends, .inl (cI, 21, .inl f_h1_ends)), (q_h1_colours, .inl (cI, 21, .inl f_h1_colours))]) (wr := [(q, .inr (1, [.ref q_states, .int f_size])), (q_states, .inl (cN, 4, .inr (.inr (.inr (.inr (hisG q_h0 q_h1 q_h2 q_h3)))))), (q_h2, .inr (2, [.int f_h2_knots, .int f_h2_threads, .ref q_h2_ends, .ref q_h2_colours])), (q_h2_ends, .inl (cI, 21, .inl f_h2_ends)), (q_h2_colours, .inl (cI, 21, .inl f_h2_colours)), (q_h3, .inr (2, [.int f_h3_knots, .int f_h3_threads, .ref q_h3_ends, .ref q_h3_colours])), (q_h3_ends, .inl (cI, 21, .inl f_h3_ends)), (q_h3_colours, .inl (cI, 21, .inl f_h3_colours))]) (w2 := [(q, .inr (1, [.ref q_states, .int f_size])), (q_states, .inl (cN, 4, .inr (.inr (.inr (.inr (hisG q_h0 q_h1 q_h2 q_h3)))))), (q_h2, .inr (2, [.int f_h2_knots, .int f_h2_threads, .ref q_h2_ends, .ref q_h2_colours])), (q_h2_ends, .inl (cI, 21, .inl f_h2_ends)), (q_h2_colours, .inl (cI, 21, .inl f_h2_colours)), (q_h3, .inr (2, [.int f_h3_knots, .int f_h3_threads, .ref q_h3_ends, .ref q_h3_colours])), (q_h3_ends, .inl (cI, 21, .inl f_h3_ends)), (q_h3_colours, .inl (cI, 21, .inl f_h3_colours)), (q_h0, .inr (2, [.int f_h0_knots_2, .int f_h0_threads_3, .ref q_h0_ends, .ref q_h0_colours])), (q_h0_ends, .inl (cI, 21, .inl f_h0_ends_4)), (q_h0_colours, .inl (cI, 21, .inl f_h0_colours_5)), (q_h1, .inr (2, [.int f_h1_knots, .int f_h1_threads, .ref q_h1_ends, .ref q_h1_colours])), (q_h1_ends, .inl (cI, 21, .inl f_h1_ends)), (q_h1_colours, .inl (cI, 21, .inl f_h1_colours))]) (va_runV (As := [.ref q_h1]) (rest := []) ⟨hx, hb, hml, hown, hts⟩ (k_X2_copyFrom l D cI cC cN N q_h0 q_h0_ends q_h0_colours q_h1 q_h1_ends q_h1_colours s.heap.size f_h0_knots f_h0_threads f_h0_ends f_h0_colours f_h1_knots f_h1_threads f_h1_ends f_h1_colours f_h0_knots_2 f_h0_threads_3 f_h0_ends_4 f_h0_colours_5 h_6) (cwV 1 hts gX1_dropOldest_X2_copyFrom rfl rfl rfl (by decide +kernel) ⟨Nat.le_of_ble_eq_true rfl, Nat.le_of_ble_eq_true rfl⟩) ⟨g_blind, va_recv (D := D) (ci := 2) (q0 := 2) hK hP rfl rfl, g_pre (hP.sub [2, 3, 4, 5, 6, 7] rfl) hK hN (hD.sub [2, 3, 4, 5, 6, 7] (by decide) rfl)⟩ rfl rfl hl.1 rfl (lv_room (Nat.le_of_ble_eq_true rfl)) dX1_dropOldest_37 ⟨Nat.zero_le _, Nat.zero_le _⟩) hP hD hS hA [2, 3, 4, 5, 6, 7] [0, 1, 8, 9, 10, 11, 12, 13] rfl rfl (by decide) (by decide) rfl (fun H locs hP hD hS => ?_)
  refine lv_iinc (v := 2) (lv' := [(1, .int 2), (3, .ref q_h1), (2, .ref q_h0), (0, .ref q)]) hx hb dX1_dropOldest_40 hl (k := 2) rfl (by decide) (by decide) rfl (fun ls hl => ?_)
  refine lv_goto (tgt := 2) hx hb dX1_dropOldest_43 (by decide) ?_
  refine lv_iload_n hx hb dX1_dropOldest_2 rfl (lv_at hl 0 rfl) ?_
  refine lv_aload_n hx hb dX1_dropOldest_3 rfl (lv_at hl 3 rfl) ?_
  refine va_get (D := D) (ci := 1) (v := .ref q_states) (C := RX1) (T := TX1) (N := 2) hx hb hts (by decide +kernel) hown hK hP 0 rfl rfl 0 (by decide) (hts (.fieldLink RX1 11 "KnotStripes$History" "states" "[LKnotStripes$Net;") (by decide +kernel)) (fun _ h9 => h9) rfl dX1_dropOldest_4 ?_
  refine va_alen (D := D) (v := 4) hx hb hK hP 1 2 rfl rfl rfl dX1_dropOldest_7 ?_
  refine lv_icmp_ge (tgt := 46) hx hb dX1_dropOldest_8 (by decide) (fun hc => absurd hc (by decide)) (fun _ => ?_)
  refine lv_aload_n hx hb dX1_dropOldest_11 rfl (lv_at hl 3 rfl) ?_
  refine va_get (D := D) (ci := 1) (v := .ref q_states) (C := RX1) (T := TX1) (N := 2) hx hb hts (by decide +kernel) hown hK hP 0 rfl rfl 0 (by decide) (hts (.fieldLink RX1 11 "KnotStripes$History" "states" "[LKnotStripes$Net;") (by decide +kernel)) (fun _ h9 => h9) rfl dX1_dropOldest_12 ?_
  refine lv_iload_n hx hb dX1_dropOldest_15 rfl (lv_at hl 0 rfl) ?_
  refine lv_iconst (v := 1) hx hb dX1_dropOldest_16 (by decide) ?_
  refine lv_isub hx hb dX1_dropOldest_17 ?_
  refine lv_topi (fun t_7 et_7 => ?_)
  obtain rfl : t_7 = 1 := et_7.trans (by decide)
  refine va_aldq (D := D) (n := 4) (f := hisG q_h0 q_h1 q_h2 q_h3) hx hb hK hP 1 2 rfl rfl (by unfold vp_in; decide) dX1_dropOldest_18 ?_
  refine W.eq (g2 := F0 m 19 ls [.ref q_h1]) rfl ?_
  refine lv_astore_n (lv' := [(2, .ref q_h1), (1, .int 2), (3, .ref q_h1), (0, .ref q)]) hx hb dX1_dropOldest_19 rfl hl (by decide) rfl (fun ls hl => ?_)
  refine lv_aload_n hx hb dX1_dropOldest_20 rfl (lv_at hl 3 rfl) ?_
  refine va_get (D := D) (ci := 1) (v := .ref q_states) (C := RX1) (T := TX1) (N := 2) hx hb hts (by decide +kernel) hown hK hP 0 rfl rfl 0 (by decide) (hts (.fieldLink RX1 11 "KnotStripes$History" "states" "[LKnotStripes$Net;") (by decide +kernel)) (fun _ h9 => h9) rfl dX1_dropOldest_21 ?_
  refine lv_iload_n hx hb dX1_dropOldest_24 rfl (lv_at hl 1 rfl) ?_
  refine va_aldq (D := D) (n := 4) (f := hisG q_h0 q_h1 q_h2 q_h3) hx hb hK hP 1 2 rfl rfl (by unfold vp_in; decide) dX1_dropOldest_25 ?_
  refine W.eq (g2 := F0 m 26 ls [.ref q_h2]) rfl ?_
  refine lv_astore_n (lv' := [(3, .ref q_h2), (2, .ref q_h1), (1, .int 2), (0, .ref q)]) hx hb dX1_dropOldest_26 rfl hl (by decide) rfl (fun ls hl => ?_)
  refine lv_aload_n hx hb dX1_dropOldest_27 rfl (lv_at hl 1 rfl) ?_
  refine lv_ifnull hx hb dX1_dropOldest_28 ?_
  refine lv_aload_n hx hb dX1_dropOldest_31 rfl (lv_at hl 0 rfl) ?_
  refine lv_ifnull hx hb dX1_dropOldest_32 ?_
  refine lv_aload_n hx hb dX1_dropOldest_35 rfl (lv_at hl 1 rfl) ?_
  refine lv_aload_n hx hb dX1_dropOldest_36 rfl (lv_at hl 0 rfl) ?_
  obtain ⟨⟨f_h1_knots_8, f_h1_threads_9, f_h1_ends_10, f_h1_colours_11⟩, h_12, hm⟩ := bind_use hm
  refine g_kv (wc := [(q_h1, .inr (2, [.int f_h1_knots, .int f_h1_threads, .ref q_h1_ends, .ref q_h1_colours])), (q_h1_ends, .inl (cI, 21, .inl f_h1_ends)), (q_h1_colours, .inl (cI, 21, .inl f_h1_colours)), (q_h2, .inr (2, [.int f_h2_knots, .int f_h2_threads, .ref q_h2_ends, .ref q_h2_colours])), (q_h2_ends, .inl (cI, 21, .inl f_h2_ends)), (q_h2_colours, .inl (cI, 21, .inl f_h2_colours))]) (wr := [(q, .inr (1, [.ref q_states, .int f_size])), (q_states, .inl (cN, 4, .inr (.inr (.inr (.inr (hisG q_h0 q_h1 q_h2 q_h3)))))), (q_h3, .inr (2, [.int f_h3_knots, .int f_h3_threads, .ref q_h3_ends, .ref q_h3_colours])), (q_h3_ends, .inl (cI, 21, .inl f_h3_ends)), (q_h3_colours, .inl (cI, 21, .inl f_h3_colours)), (q_h0, .inr (2, [.int f_h0_knots_2, .int f_h0_threads_3, .ref q_h0_ends, .ref q_h0_colours])), (q_h0_ends, .inl (cI, 21, .inl f_h0_ends_4)), (q_h0_colours, .inl (cI, 21, .inl f_h0_colours_5))]) (w2 := [(q, .inr (1, [.ref q_states, .int f_size])), (q_states, .inl (cN, 4, .inr (.inr (.inr (.inr (hisG q_h0 q_h1 q_h2 q_h3)))))), (q_h3, .inr (2, [.int f_h3_knots, .int f_h3_threads, .ref q_h3_ends, .ref q_h3_colours])), (q_h3_ends, .inl (cI, 21, .inl f_h3_ends)), (q_h3_colours, .inl (cI, 21, .inl f_h3_colours)), (q_h0, .inr (2, [.int f_h0_knots_2, .int f_h0_threads_3, .ref q_h0_ends, .ref q_h0_colours])), (q_h0_ends, .inl (cI, 21, .inl f_h0_ends_4)), (q_h0_colours, .inl (cI, 21, .inl f_h0_colours_5)), (q_h1, .inr (2, [.int f_h1_knots_8, .int f_h1_threads_9, .ref q_h1_ends, .ref q_h1_colours])), (q_h1_ends, .inl (cI, 21, .inl f_h1_ends_10)), (q_h1_colours, .inl (cI, 21, .inl f_h1_colours_11)), (q_h2, .inr (2, [.int f_h2_knots, .int f_h2_threads, .ref q_h2_ends, .ref q_h2_colours])), (q_h2_ends, .inl (cI, 21, .inl f_h2_ends)), (q_h2_colours, .inl (cI, 21, .inl f_h2_colours))]) (va_runV (As := [.ref q_h2]) (rest := []) ⟨hx, hb, hml, hown, hts⟩ (k_X2_copyFrom l D cI cC cN N q_h1 q_h1_ends q_h1_colours q_h2 q_h2_ends q_h2_colours H.size f_h1_knots f_h1_threads f_h1_ends f_h1_colours f_h2_knots f_h2_threads f_h2_ends f_h2_colours f_h1_knots_8 f_h1_threads_9 f_h1_ends_10 f_h1_colours_11 h_12) (cwV 1 hts gX1_dropOldest_X2_copyFrom rfl rfl rfl (by decide +kernel) ⟨Nat.le_of_ble_eq_true rfl, Nat.le_of_ble_eq_true rfl⟩) ⟨g_blind, va_recv (D := D) (ci := 2) (q0 := 11) hK hP rfl rfl, g_pre (hP.sub [11, 12, 13, 2, 3, 4] rfl) hK hN (hD.sub [11, 12, 13, 2, 3, 4] (by decide) rfl)⟩ rfl rfl hl.1 rfl (lv_room (Nat.le_of_ble_eq_true rfl)) dX1_dropOldest_37 ⟨Nat.zero_le _, Nat.zero_le _⟩) hP hD hS hA [11, 12, 13, 2, 3, 4] [0, 1, 5, 6, 7, 8, 9, 10] rfl rfl (by decide) (by decide) rfl (fun H locs hP hD hS => ?_)
  refine lv_iinc (v := 3) (lv' := [(1, .int 3), (3, .ref q_h2), (2, .ref q_h1), (0, .ref q)]) hx hb dX1_dropOldest_40 hl (k := 2) rfl (by decide) (by decide) rfl (fun ls hl => ?_)
  refine lv_goto (tgt := 2) hx hb dX1_dropOldest_43 (by decide) ?_
  refine lv_iload_n hx hb dX1_dropOldest_2 rfl (lv_at hl 0 rfl) ?_
  refine lv_aload_n hx hb dX1_dropOldest_3 rfl (lv_at hl 3 rfl) ?_
  refine va_get (D := D) (ci := 1) (v := .ref q_states) (C := RX1) (T := TX1) (N := 2) hx hb hts (by decide +kernel) hown hK hP 0 rfl rfl 0 (by decide) (hts (.fieldLink RX1 11 "KnotStripes$History" "states" "[LKnotStripes$Net;") (by decide +kernel)) (fun _ h9 => h9) rfl dX1_dropOldest_4 ?_
  refine va_alen (D := D) (v := 4) hx hb hK hP 1 2 rfl rfl rfl dX1_dropOldest_7 ?_
  refine lv_icmp_ge (tgt := 46) hx hb dX1_dropOldest_8 (by decide) (fun hc => absurd hc (by decide)) (fun _ => ?_)
  refine lv_aload_n hx hb dX1_dropOldest_11 rfl (lv_at hl 3 rfl) ?_
  refine va_get (D := D) (ci := 1) (v := .ref q_states) (C := RX1) (T := TX1) (N := 2) hx hb hts (by decide +kernel) hown hK hP 0 rfl rfl 0 (by decide) (hts (.fieldLink RX1 11 "KnotStripes$History" "states" "[LKnotStripes$Net;") (by decide +kernel)) (fun _ h9 => h9) rfl dX1_dropOldest_12 ?_
  refine lv_iload_n hx hb dX1_dropOldest_15 rfl (lv_at hl 0 rfl) ?_
  refine lv_iconst (v := 1) hx hb dX1_dropOldest_16 (by decide) ?_
  refine lv_isub hx hb dX1_dropOldest_17 ?_
  refine lv_topi (fun t_13 et_13 => ?_)
  obtain rfl : t_13 = 2 := et_13.trans (by decide)
  refine va_aldq (D := D) (n := 4) (f := hisG q_h0 q_h1 q_h2 q_h3) hx hb hK hP 1 2 rfl rfl (by unfold vp_in; decide) dX1_dropOldest_18 ?_
  refine W.eq (g2 := F0 m 19 ls [.ref q_h2]) rfl ?_
  refine lv_astore_n (lv' := [(2, .ref q_h2), (1, .int 3), (3, .ref q_h2), (0, .ref q)]) hx hb dX1_dropOldest_19 rfl hl (by decide) rfl (fun ls hl => ?_)
  refine lv_aload_n hx hb dX1_dropOldest_20 rfl (lv_at hl 3 rfl) ?_
  refine va_get (D := D) (ci := 1) (v := .ref q_states) (C := RX1) (T := TX1) (N := 2) hx hb hts (by decide +kernel) hown hK hP 0 rfl rfl 0 (by decide) (hts (.fieldLink RX1 11 "KnotStripes$History" "states" "[LKnotStripes$Net;") (by decide +kernel)) (fun _ h9 => h9) rfl dX1_dropOldest_21 ?_
  refine lv_iload_n hx hb dX1_dropOldest_24 rfl (lv_at hl 1 rfl) ?_
  refine va_aldq (D := D) (n := 4) (f := hisG q_h0 q_h1 q_h2 q_h3) hx hb hK hP 1 2 rfl rfl (by unfold vp_in; decide) dX1_dropOldest_25 ?_
  refine W.eq (g2 := F0 m 26 ls [.ref q_h3]) rfl ?_
  refine lv_astore_n (lv' := [(3, .ref q_h3), (2, .ref q_h2), (1, .int 3), (0, .ref q)]) hx hb dX1_dropOldest_26 rfl hl (by decide) rfl (fun ls hl => ?_)
  refine lv_aload_n hx hb dX1_dropOldest_27 rfl (lv_at hl 1 rfl) ?_
  refine lv_ifnull hx hb dX1_dropOldest_28 ?_
  refine lv_aload_n hx hb dX1_dropOldest_31 rfl (lv_at hl 0 rfl) ?_
  refine lv_ifnull hx hb dX1_dropOldest_32 ?_
  refine lv_aload_n hx hb dX1_dropOldest_35 rfl (lv_at hl 1 rfl) ?_
  refine lv_aload_n hx hb dX1_dropOldest_36 rfl (lv_at hl 0 rfl) ?_
  obtain ⟨⟨f_h2_knots_14, f_h2_threads_15, f_h2_ends_16, f_h2_colours_17⟩, h_18, hm⟩ := bind_use hm
  refine g_kv (wc := [(q_h2, .inr (2, [.int f_h2_knots, .int f_h2_threads, .ref q_h2_ends, .ref q_h2_colours])), (q_h2_ends, .inl (cI, 21, .inl f_h2_ends)), (q_h2_colours, .inl (cI, 21, .inl f_h2_colours)), (q_h3, .inr (2, [.int f_h3_knots, .int f_h3_threads, .ref q_h3_ends, .ref q_h3_colours])), (q_h3_ends, .inl (cI, 21, .inl f_h3_ends)), (q_h3_colours, .inl (cI, 21, .inl f_h3_colours))]) (wr := [(q, .inr (1, [.ref q_states, .int f_size])), (q_states, .inl (cN, 4, .inr (.inr (.inr (.inr (hisG q_h0 q_h1 q_h2 q_h3)))))), (q_h0, .inr (2, [.int f_h0_knots_2, .int f_h0_threads_3, .ref q_h0_ends, .ref q_h0_colours])), (q_h0_ends, .inl (cI, 21, .inl f_h0_ends_4)), (q_h0_colours, .inl (cI, 21, .inl f_h0_colours_5)), (q_h1, .inr (2, [.int f_h1_knots_8, .int f_h1_threads_9, .ref q_h1_ends, .ref q_h1_colours])), (q_h1_ends, .inl (cI, 21, .inl f_h1_ends_10)), (q_h1_colours, .inl (cI, 21, .inl f_h1_colours_11))]) (w2 := [(q, .inr (1, [.ref q_states, .int f_size])), (q_states, .inl (cN, 4, .inr (.inr (.inr (.inr (hisG q_h0 q_h1 q_h2 q_h3)))))), (q_h0, .inr (2, [.int f_h0_knots_2, .int f_h0_threads_3, .ref q_h0_ends, .ref q_h0_colours])), (q_h0_ends, .inl (cI, 21, .inl f_h0_ends_4)), (q_h0_colours, .inl (cI, 21, .inl f_h0_colours_5)), (q_h1, .inr (2, [.int f_h1_knots_8, .int f_h1_threads_9, .ref q_h1_ends, .ref q_h1_colours])), (q_h1_ends, .inl (cI, 21, .inl f_h1_ends_10)), (q_h1_colours, .inl (cI, 21, .inl f_h1_colours_11)), (q_h2, .inr (2, [.int f_h2_knots_14, .int f_h2_threads_15, .ref q_h2_ends, .ref q_h2_colours])), (q_h2_ends, .inl (cI, 21, .inl f_h2_ends_16)), (q_h2_colours, .inl (cI, 21, .inl f_h2_colours_17)), (q_h3, .inr (2, [.int f_h3_knots, .int f_h3_threads, .ref q_h3_ends, .ref q_h3_colours])), (q_h3_ends, .inl (cI, 21, .inl f_h3_ends)), (q_h3_colours, .inl (cI, 21, .inl f_h3_colours))]) (va_runV (As := [.ref q_h3]) (rest := []) ⟨hx, hb, hml, hown, hts⟩ (k_X2_copyFrom l D cI cC cN N q_h2 q_h2_ends q_h2_colours q_h3 q_h3_ends q_h3_colours H.size f_h2_knots f_h2_threads f_h2_ends f_h2_colours f_h3_knots f_h3_threads f_h3_ends f_h3_colours f_h2_knots_14 f_h2_threads_15 f_h2_ends_16 f_h2_colours_17 h_18) (cwV 1 hts gX1_dropOldest_X2_copyFrom rfl rfl rfl (by decide +kernel) ⟨Nat.le_of_ble_eq_true rfl, Nat.le_of_ble_eq_true rfl⟩) ⟨g_blind, va_recv (D := D) (ci := 2) (q0 := 11) hK hP rfl rfl, g_pre (hP.sub [11, 12, 13, 2, 3, 4] rfl) hK hN (hD.sub [11, 12, 13, 2, 3, 4] (by decide) rfl)⟩ rfl rfl hl.1 rfl (lv_room (Nat.le_of_ble_eq_true rfl)) dX1_dropOldest_37 ⟨Nat.zero_le _, Nat.zero_le _⟩) hP hD hS hA [11, 12, 13, 2, 3, 4] [0, 1, 5, 6, 7, 8, 9, 10] rfl rfl (by decide) (by decide) rfl (fun H locs hP hD hS => ?_)
  refine lv_iinc (v := 4) (lv' := [(1, .int 4), (3, .ref q_h3), (2, .ref q_h2), (0, .ref q)]) hx hb dX1_dropOldest_40 hl (k := 2) rfl (by decide) (by decide) rfl (fun ls hl => ?_)
  refine lv_goto (tgt := 2) hx hb dX1_dropOldest_43 (by decide) ?_
  refine lv_iload_n hx hb dX1_dropOldest_2 rfl (lv_at hl 0 rfl) ?_
  refine lv_aload_n hx hb dX1_dropOldest_3 rfl (lv_at hl 3 rfl) ?_
  refine va_get (D := D) (ci := 1) (v := .ref q_states) (C := RX1) (T := TX1) (N := 2) hx hb hts (by decide +kernel) hown hK hP 0 rfl rfl 0 (by decide) (hts (.fieldLink RX1 11 "KnotStripes$History" "states" "[LKnotStripes$Net;") (by decide +kernel)) (fun _ h9 => h9) rfl dX1_dropOldest_4 ?_
  refine va_alen (D := D) (v := 4) hx hb hK hP 1 2 rfl rfl rfl dX1_dropOldest_7 ?_
  refine lv_icmp_ge (tgt := 46) hx hb dX1_dropOldest_8 (by decide) (fun _ => ?_) (fun hc => absurd (by decide) hc)
  refine lv_aload_n hx hb dX1_dropOldest_46 rfl (lv_at hl 3 rfl) ?_
  refine lv_dup hx hb dX1_dropOldest_47 rfl ?_
  refine va_get (D := D) (ci := 1) (v := .int f_size) (C := RX1) (T := TX1) (N := 2) hx hb hts (by decide +kernel) hown hK hP 0 rfl rfl 1 (by decide) (hts (.fieldLink RX1 18 "KnotStripes$History" "size" "I") (by decide +kernel)) (fun _ h9 => h9) rfl dX1_dropOldest_48 ?_
  refine lv_iconst (v := 1) hx hb dX1_dropOldest_51 (by decide) ?_
  refine lv_isub hx hb dX1_dropOldest_52 ?_
  refine W.eq (g2 := F0 m 53 ls (.int (f_size - 1) :: [.ref q])) rfl ?_
  refine lv_topi (fun w_19 ew_19 => ?_)
  have hm := nm_use ew_19 hm
  refine va_put (D := D) (ci := 1) (v := .int w_19) (ty := .int) (C := RX1) (T := TX1) (N := 2) hx hb hts (by decide +kernel) tyX1 tyX1_ok nmX1 hown hK hP hD hS 0 rfl rfl 1 (by decide) (hts (.fieldLink RX1 18 "KnotStripes$History" "size" "I") (by decide +kernel)) (fun _ h9 => h9) rfl (by decide +kernel) rfl rfl (Nat.le_of_ble_eq_true rfl) dX1_dropOldest_53 (fun H locs hP hD hS => ?_)
  have hP : va_P D vwCl [(q, .inr (1, [.ref q_states, .int w_19])), (q_states, .inl (cN, 4, .inr (.inr (.inr (.inr (hisG q_h0 q_h1 q_h2 q_h3)))))), (q_h0, .inr (2, [.int f_h0_knots_2, .int f_h0_threads_3, .ref q_h0_ends, .ref q_h0_colours])), (q_h0_ends, .inl (cI, 21, .inl f_h0_ends_4)), (q_h0_colours, .inl (cI, 21, .inl f_h0_colours_5)), (q_h1, .inr (2, [.int f_h1_knots_8, .int f_h1_threads_9, .ref q_h1_ends, .ref q_h1_colours])), (q_h1_ends, .inl (cI, 21, .inl f_h1_ends_10)), (q_h1_colours, .inl (cI, 21, .inl f_h1_colours_11)), (q_h2, .inr (2, [.int f_h2_knots_14, .int f_h2_threads_15, .ref q_h2_ends, .ref q_h2_colours])), (q_h2_ends, .inl (cI, 21, .inl f_h2_ends_16)), (q_h2_colours, .inl (cI, 21, .inl f_h2_colours_17)), (q_h3, .inr (2, [.int f_h3_knots, .int f_h3_threads, .ref q_h3_ends, .ref q_h3_colours])), (q_h3_ends, .inl (cI, 21, .inl f_h3_ends)), (q_h3_colours, .inl (cI, 21, .inl f_h3_colours))] H := hP
  have hD : va_D A [(q, .inr (1, [.ref q_states, .int w_19])), (q_states, .inl (cN, 4, .inr (.inr (.inr (.inr (hisG q_h0 q_h1 q_h2 q_h3)))))), (q_h0, .inr (2, [.int f_h0_knots_2, .int f_h0_threads_3, .ref q_h0_ends, .ref q_h0_colours])), (q_h0_ends, .inl (cI, 21, .inl f_h0_ends_4)), (q_h0_colours, .inl (cI, 21, .inl f_h0_colours_5)), (q_h1, .inr (2, [.int f_h1_knots_8, .int f_h1_threads_9, .ref q_h1_ends, .ref q_h1_colours])), (q_h1_ends, .inl (cI, 21, .inl f_h1_ends_10)), (q_h1_colours, .inl (cI, 21, .inl f_h1_colours_11)), (q_h2, .inr (2, [.int f_h2_knots_14, .int f_h2_threads_15, .ref q_h2_ends, .ref q_h2_colours])), (q_h2_ends, .inl (cI, 21, .inl f_h2_ends_16)), (q_h2_colours, .inl (cI, 21, .inl f_h2_colours_17)), (q_h3, .inr (2, [.int f_h3_knots, .int f_h3_threads, .ref q_h3_ends, .ref q_h3_colours])), (q_h3_ends, .inl (cI, 21, .inl f_h3_ends)), (q_h3_colours, .inl (cI, 21, .inl f_h3_colours))] := hD
  have z1 := so_use hm
  obtain ⟨y1, z2⟩ := pr_use z1
  obtain ⟨y2, z3⟩ := pr_use z2
  obtain ⟨y3, z4⟩ := pr_use z3
  obtain ⟨y4, z5⟩ := pr_use z4
  obtain ⟨y5, z6⟩ := pr_use z5
  obtain ⟨y6, z7⟩ := pr_use z6
  obtain ⟨y7, z8⟩ := pr_use z7
  obtain ⟨y8, z9⟩ := pr_use z8
  obtain ⟨y9, z10⟩ := pr_use z9
  obtain ⟨y10, z11⟩ := pr_use z10
  obtain ⟨y11, z12⟩ := pr_use z11
  obtain ⟨y12, z13⟩ := pr_use z12
  obtain ⟨y13, z14⟩ := pr_use z13
  obtain ⟨y14, z15⟩ := pr_use z14
  obtain ⟨y15, z16⟩ := pr_use z15
  obtain ⟨y16, z17⟩ := pr_use z16
  subst y1
  subst y2
  subst y3
  subst y4
  subst y5
  subst y6
  subst y7
  subst y8
  subst y9
  subst y10
  subst y11
  subst y12
  subst y13
  subst y14
  subst y15
  subst y16
  subst z17
  exact hret _ _ _ _ dX1_dropOldest_56 hP hD hS
