abbrev rX3_waysFrom (d : Nat) : Room := { frames := 1 + d, cells := 0, slots := 0, locals := 23 + d * 33 }
set_option maxHeartbeats 4000000 in
set_option maxRecDepth 100000 in
theorem k_X3_waysFrom (l : Launch) (D : va_G) (cI cC cN : ClassId) (N : Nat) : ∀ (d : Nat) (q_p0 : Nat) (q_p0_bits : Nat) (q_p0_lesser : Nat) (q_p0_greater : Nat) (q_p0_stops : Nat) (q_p0_beside : Nat) (q_p0_found : Nat) (sz : Nat) (f_p0_bits : Nat → Int32) (f_p0_lesser : Nat → Int32) (f_p0_greater : Nat → Int32) (f_p0_placed : Int32) (f_p0_stops : Nat → Int32) (f_p0_groups : Int32) (f_p0_beside : Nat → Int32) (f_p0_found : Nat → Int32) (a1 : Int32) (a2 : Int32) (a3 : Int64) (a5 : Int32) (a6 : Int32) (r : Int32) (hm : m_X3_waysFrom N d f_p0_bits f_p0_lesser f_p0_greater a1 a2 a3 a5 a6 = some r), Met l yX3_waysFrom wsX3_waysFrom (rX3_waysFrom d) (gPc D (tysG cI cC cN) [.ref q_p0, .int a1, .int a2, .long a3, .int a5, .int a6] [(q_p0, .inr (3, [.ref q_p0_bits, .ref q_p0_lesser, .ref q_p0_greater, .int f_p0_placed, .ref q_p0_stops, .int f_p0_groups, .ref q_p0_beside, .ref q_p0_found])), (q_p0_bits, .inl (cI, 21, .inl f_p0_bits)), (q_p0_lesser, .inl (cI, 21, .inl f_p0_lesser)), (q_p0_greater, .inl (cI, 21, .inl f_p0_greater)), (q_p0_stops, .inl (cI, 21, .inl f_p0_stops)), (q_p0_beside, .inl (cI, 21, .inl f_p0_beside)), (q_p0_found, .inl (cI, 21, .inl f_p0_found))] sz) (gQi D (tysG cI cC cN) (va_A [(q_p0, .inr (3, [.ref q_p0_bits, .ref q_p0_lesser, .ref q_p0_greater, .int f_p0_placed, .ref q_p0_stops, .int f_p0_groups, .ref q_p0_beside, .ref q_p0_found])), (q_p0_bits, .inl (cI, 21, .inl f_p0_bits)), (q_p0_lesser, .inl (cI, 21, .inl f_p0_lesser)), (q_p0_greater, .inl (cI, 21, .inl f_p0_greater)), (q_p0_stops, .inl (cI, 21, .inl f_p0_stops)), (q_p0_beside, .inl (cI, 21, .inl f_p0_beside)), (q_p0_found, .inl (cI, 21, .inl f_p0_found))] sz) [(q_p0, .inr (3, [.ref q_p0_bits, .ref q_p0_lesser, .ref q_p0_greater, .int f_p0_placed, .ref q_p0_stops, .int f_p0_groups, .ref q_p0_beside, .ref q_p0_found])), (q_p0_bits, .inl (cI, 21, .inl f_p0_bits)), (q_p0_lesser, .inl (cI, 21, .inl f_p0_lesser)), (q_p0_greater, .inl (cI, 21, .inl f_p0_greater)), (q_p0_stops, .inl (cI, 21, .inl f_p0_stops)), (q_p0_beside, .inl (cI, 21, .inl f_p0_beside)), (q_p0_found, .inl (cI, 21, .inl f_p0_found))] r) 0 0 (va_A [(q_p0, .inr (3, [.ref q_p0_bits, .ref q_p0_lesser, .ref q_p0_greater, .int f_p0_placed, .ref q_p0_stops, .int f_p0_groups, .ref q_p0_beside, .ref q_p0_found])), (q_p0_bits, .inl (cI, 21, .inl f_p0_bits)), (q_p0_lesser, .inl (cI, 21, .inl f_p0_lesser)), (q_p0_greater, .inl (cI, 21, .inl f_p0_greater)), (q_p0_stops, .inl (cI, 21, .inl f_p0_stops)), (q_p0_beside, .inl (cI, 21, .inl f_p0_beside)), (q_p0_found, .inl (cI, 21, .inl f_p0_found))] sz) := by
  intro d
  induction d with
  | zero => intro q_p0 q_p0_bits q_p0_lesser q_p0_greater q_p0_stops q_p0_beside q_p0_found sz f_p0_bits f_p0_lesser f_p0_greater f_p0_placed f_p0_stops f_p0_groups f_p0_beside f_p0_found a1 a2 a3 a5 a6 r hm; rw [m_X3_waysFrom] at hm; exact no_use hm
  | succ d kih =>
    intro q_p0 q_p0_bits q_p0_lesser q_p0_greater q_p0_stops q_p0_beside q_p0_found sz f_p0_bits f_p0_lesser f_p0_greater f_p0_placed f_p0_stops f_p0_groups f_p0_beside f_p0_found a1 a2 a3 a5 a6 r hm
    rw [m_X3_waysFrom] at hm
    refine g_openI (cc := cX3_waysFrom) (maxL := 14) (own := RX3) (by decide) rfl rfl (Nat.le_of_ble_eq_true rfl) ?_
    intro p e s m args below meth c A Q hx hb hml hown hts hP hK hN hD hA hret ls hl
    have hS : va_S A s.heap s.heap [] := va_S.rf
    have hl : lv_has ls 14 [(0, .ref q_p0), (1, .int a1), (2, .int a2), (3, .long a3), (5, .int a5), (6, .int a6)] := hl
    refine lv_iload_n hx hb dX3_waysFrom_0 rfl (lv_at hl 1 rfl) ?_
    refine lv_iload_n hx hb dX3_waysFrom_1 rfl (lv_at hl 2 rfl) ?_
    refine lv_icmp_ge (tgt := 11) hx hb dX3_waysFrom_2 (by decide) (fun hc => ?_) (fun hc => ?_)
    · have hm := if_t _ hc hm
      refine lv_iconst (v := 1) hx hb dX3_waysFrom_11 (by decide) ?_
      have z1 := so_use hm
      subst z1
      exact hret _ _ _ _ _ dX3_waysFrom_12 rfl rfl hP hD hS
    · have hm := if_f _ hc hm
      refine lv_iload_n hx hb dX3_waysFrom_5 rfl (lv_at hl 1 rfl) ?_
      refine lv_bipush (v := 21) hx hb dX3_waysFrom_6 (by decide) ?_
      refine lv_icmp_lt (tgt := 13) hx hb dX3_waysFrom_8 (by decide) (fun hc => ?_) (fun hc => ?_)
      · have hm := if_t _ hc hm
        refine lv_aload_n hx hb dX3_waysFrom_13 rfl (lv_at hl 0 rfl) ?_
        refine va_get (D := D) (ci := 3) (v := .ref q_p0_bits) (C := RX3) (T := TX3) (N := 8) hx hb hts (by decide +kernel) hown hK hP 0 rfl rfl 0 (by decide) (hts (.fieldLink RX3 9 "KnotStripes$Painter" "bits" "[I") (by decide +kernel)) (fun _ h9 => h9) rfl dX3_waysFrom_14 ?_
        refine lv_iload_n hx hb dX3_waysFrom_17 rfl (lv_at hl 1 rfl) ?_
        obtain ⟨r_1, h_2, hm⟩ := bind_use hm
        refine g_ki (wc := [(q_p0_bits, .inl (cI, 21, .inl f_p0_bits))]) (wr := [(q_p0, .inr (3, [.ref q_p0_bits, .ref q_p0_lesser, .ref q_p0_greater, .int f_p0_placed, .ref q_p0_stops, .int f_p0_groups, .ref q_p0_beside, .ref q_p0_found])), (q_p0_lesser, .inl (cI, 21, .inl f_p0_lesser)), (q_p0_greater, .inl (cI, 21, .inl f_p0_greater)), (q_p0_stops, .inl (cI, 21, .inl f_p0_stops)), (q_p0_beside, .inl (cI, 21, .inl f_p0_beside)), (q_p0_found, .inl (cI, 21, .inl f_p0_found))]) (w2 := [(q_p0, .inr (3, [.ref q_p0_bits, .ref q_p0_lesser, .ref q_p0_greater, .int f_p0_placed, .ref q_p0_stops, .int f_p0_groups, .ref q_p0_beside, .ref q_p0_found])), (q_p0_lesser, .inl (cI, 21, .inl f_p0_lesser)), (q_p0_greater, .inl (cI, 21, .inl f_p0_greater)), (q_p0_stops, .inl (cI, 21, .inl f_p0_stops)), (q_p0_beside, .inl (cI, 21, .inl f_p0_beside)), (q_p0_found, .inl (cI, 21, .inl f_p0_found)), (q_p0_bits, .inl (cI, 21, .inl f_p0_bits))]) (va_runSN (As := [.ref q_p0_bits, .int a1]) (rest := []) ⟨hx, hb, hml, hown, hts⟩ (k_X6_at l D cI cC cN N q_p0_bits 21 s.heap.size f_p0_bits a1 r_1 h_2) ⟨va_cnB 2 hts gX3_waysFrom_X6_at_n37 rfl rfl rfl (hN (.methodLinkNest RX3 37 yX6_at RX6) (by decide +kernel)) (hts (.initialized RX6) (by decide +kernel)) (by decide +kernel) ⟨by simp [rX3_waysFrom, rX6_at]; try omega, by simp [rX3_waysFrom, rX6_at]; try omega⟩, hts (.static yX6_at) (by decide +kernel), trivial⟩ ⟨g_blind, g_pre (hP.sub [1] rfl) hK hN (hD.sub [1] (by decide) rfl)⟩ rfl rfl hl.1 rfl (lv_room (Nat.le_of_ble_eq_true rfl)) dX3_waysFrom_18 ⟨Nat.zero_le _, Nat.zero_le _⟩) hP hD hS hA [1] [0, 2, 3, 4, 5, 6] rfl rfl (by decide) (by decide) rfl (fun H locs hP hD hS => ?_)
        refine lv_iload hx hb dX3_waysFrom_21 (lv_at hl 4 rfl) ?_
        refine lv_iand hx hb dX3_waysFrom_23 ?_
        refine lv_if_eq (tgt := 41) hx hb dX3_waysFrom_24 (by decide) (fun hc => ?_) (fun hc => ?_)
        · have hm := if_t _ hc hm
          refine lv_aload_n hx hb dX3_waysFrom_41 rfl (lv_at hl 0 rfl) ?_
          refine va_get (D := D) (ci := 3) (v := .ref q_p0_lesser) (C := RX3) (T := TX3) (N := 8) hx hb hts (by decide +kernel) hown hK hP 0 rfl rfl 1 (by decide) (hts (.fieldLink RX3 15 "KnotStripes$Painter" "lesser" "[I") (by decide +kernel)) (fun _ h9 => h9) rfl dX3_waysFrom_42 ?_
          refine lv_iload_n hx hb dX3_waysFrom_45 rfl (lv_at hl 1 rfl) ?_
          obtain ⟨r_3, h_4, hm⟩ := bind_use hm
          refine g_ki (wc := [(q_p0_lesser, .inl (cI, 21, .inl f_p0_lesser))]) (wr := [(q_p0, .inr (3, [.ref q_p0_bits, .ref q_p0_lesser, .ref q_p0_greater, .int f_p0_placed, .ref q_p0_stops, .int f_p0_groups, .ref q_p0_beside, .ref q_p0_found])), (q_p0_greater, .inl (cI, 21, .inl f_p0_greater)), (q_p0_stops, .inl (cI, 21, .inl f_p0_stops)), (q_p0_beside, .inl (cI, 21, .inl f_p0_beside)), (q_p0_found, .inl (cI, 21, .inl f_p0_found)), (q_p0_bits, .inl (cI, 21, .inl f_p0_bits))]) (w2 := [(q_p0, .inr (3, [.ref q_p0_bits, .ref q_p0_lesser, .ref q_p0_greater, .int f_p0_placed, .ref q_p0_stops, .int f_p0_groups, .ref q_p0_beside, .ref q_p0_found])), (q_p0_greater, .inl (cI, 21, .inl f_p0_greater)), (q_p0_stops, .inl (cI, 21, .inl f_p0_stops)), (q_p0_beside, .inl (cI, 21, .inl f_p0_beside)), (q_p0_found, .inl (cI, 21, .inl f_p0_found)), (q_p0_bits, .inl (cI, 21, .inl f_p0_bits)), (q_p0_lesser, .inl (cI, 21, .inl f_p0_lesser))]) (va_runSN (As := [.ref q_p0_lesser, .int a1]) (rest := []) ⟨hx, hb, hml, hown, hts⟩ (k_X6_at l D cI cC cN N q_p0_lesser 21 H.size f_p0_lesser a1 r_3 h_4) ⟨va_cnB 2 hts gX3_waysFrom_X6_at_n37 rfl rfl rfl (hN (.methodLinkNest RX3 37 yX6_at RX6) (by decide +kernel)) (hts (.initialized RX6) (by decide +kernel)) (by decide +kernel) ⟨by simp [rX3_waysFrom, rX6_at]; try omega, by simp [rX3_waysFrom, rX6_at]; try omega⟩, hts (.static yX6_at) (by decide +kernel), trivial⟩ ⟨g_blind, g_pre (hP.sub [1] rfl) hK hN (hD.sub [1] (by decide) rfl)⟩ rfl rfl hl.1 rfl (lv_room (Nat.le_of_ble_eq_true rfl)) dX3_waysFrom_46 ⟨Nat.zero_le _, Nat.zero_le _⟩) hP hD hS hA [1] [0, 2, 3, 4, 5, 6] rfl rfl (by decide) (by decide) rfl (fun H locs hP hD hS => ?_)
          refine lv_istore (lv' := [(7, .int r_3), (0, .ref q_p0), (1, .int a1), (2, .int a2), (3, .long a3), (5, .int a5), (6, .int a6)]) hx hb dX3_waysFrom_49 hl (by decide) rfl (fun ls hl => ?_)
          refine lv_aload_n hx hb dX3_waysFrom_51 rfl (lv_at hl 1 rfl) ?_
          refine va_get (D := D) (ci := 3) (v := .ref q_p0_greater) (C := RX3) (T := TX3) (N := 8) hx hb hts (by decide +kernel) hown hK hP 0 rfl rfl 2 (by decide) (hts (.fieldLink RX3 18 "KnotStripes$Painter" "greater" "[I") (by decide +kernel)) (fun _ h9 => h9) rfl dX3_waysFrom_52 ?_
          refine lv_iload_n hx hb dX3_waysFrom_55 rfl (lv_at hl 2 rfl) ?_
          obtain ⟨r_5, h_6, hm⟩ := bind_use hm
          refine g_ki (wc := [(q_p0_greater, .inl (cI, 21, .inl f_p0_greater))]) (wr := [(q_p0, .inr (3, [.ref q_p0_bits, .ref q_p0_lesser, .ref q_p0_greater, .int f_p0_placed, .ref q_p0_stops, .int f_p0_groups, .ref q_p0_beside, .ref q_p0_found])), (q_p0_stops, .inl (cI, 21, .inl f_p0_stops)), (q_p0_beside, .inl (cI, 21, .inl f_p0_beside)), (q_p0_found, .inl (cI, 21, .inl f_p0_found)), (q_p0_bits, .inl (cI, 21, .inl f_p0_bits)), (q_p0_lesser, .inl (cI, 21, .inl f_p0_lesser))]) (w2 := [(q_p0, .inr (3, [.ref q_p0_bits, .ref q_p0_lesser, .ref q_p0_greater, .int f_p0_placed, .ref q_p0_stops, .int f_p0_groups, .ref q_p0_beside, .ref q_p0_found])), (q_p0_stops, .inl (cI, 21, .inl f_p0_stops)), (q_p0_beside, .inl (cI, 21, .inl f_p0_beside)), (q_p0_found, .inl (cI, 21, .inl f_p0_found)), (q_p0_bits, .inl (cI, 21, .inl f_p0_bits)), (q_p0_lesser, .inl (cI, 21, .inl f_p0_lesser)), (q_p0_greater, .inl (cI, 21, .inl f_p0_greater))]) (va_runSN (As := [.ref q_p0_greater, .int a1]) (rest := []) ⟨hx, hb, hml, hown, hts⟩ (k_X6_at l D cI cC cN N q_p0_greater 21 H.size f_p0_greater a1 r_5 h_6) ⟨va_cnB 2 hts gX3_waysFrom_X6_at_n37 rfl rfl rfl (hN (.methodLinkNest RX3 37 yX6_at RX6) (by decide +kernel)) (hts (.initialized RX6) (by decide +kernel)) (by decide +kernel) ⟨by simp [rX3_waysFrom, rX6_at]; try omega, by simp [rX3_waysFrom, rX6_at]; try omega⟩, hts (.static yX6_at) (by decide +kernel), trivial⟩ ⟨g_blind, g_pre (hP.sub [1] rfl) hK hN (hD.sub [1] (by decide) rfl)⟩ rfl rfl hl.1 rfl (lv_room (Nat.le_of_ble_eq_true rfl)) dX3_waysFrom_56 ⟨Nat.zero_le _, Nat.zero_le _⟩) hP hD hS hA [1] [0, 2, 3, 4, 5, 6] rfl rfl (by decide) (by decide) rfl (fun H locs hP hD hS => ?_)
          refine lv_istore (lv' := [(8, .int r_5), (7, .int r_3), (0, .ref q_p0), (1, .int a1), (2, .int a2), (3, .long a3), (5, .int a5), (6, .int a6)]) hx hb dX3_waysFrom_59 hl (by decide) rfl (fun ls hl => ?_)
          refine lv_iload hx hb dX3_waysFrom_61 (lv_at hl 1 rfl) ?_
          refine lv_iload hx hb dX3_waysFrom_63 (lv_at hl 0 rfl) ?_
          refine lv_lload_n hx hb dX3_waysFrom_65 rfl (lv_at hl 5 rfl) ?_
          obtain ⟨r_7, h_8, hm⟩ := bind_use hm
          refine g_ki (wc := []) (wr := [(q_p0, .inr (3, [.ref q_p0_bits, .ref q_p0_lesser, .ref q_p0_greater, .int f_p0_placed, .ref q_p0_stops, .int f_p0_groups, .ref q_p0_beside, .ref q_p0_found])), (q_p0_stops, .inl (cI, 21, .inl f_p0_stops)), (q_p0_beside, .inl (cI, 21, .inl f_p0_beside)), (q_p0_found, .inl (cI, 21, .inl f_p0_found)), (q_p0_bits, .inl (cI, 21, .inl f_p0_bits)), (q_p0_lesser, .inl (cI, 21, .inl f_p0_lesser)), (q_p0_greater, .inl (cI, 21, .inl f_p0_greater))]) (w2 := [(q_p0, .inr (3, [.ref q_p0_bits, .ref q_p0_lesser, .ref q_p0_greater, .int f_p0_placed, .ref q_p0_stops, .int f_p0_groups, .ref q_p0_beside, .ref q_p0_found])), (q_p0_stops, .inl (cI, 21, .inl f_p0_stops)), (q_p0_beside, .inl (cI, 21, .inl f_p0_beside)), (q_p0_found, .inl (cI, 21, .inl f_p0_found)), (q_p0_bits, .inl (cI, 21, .inl f_p0_bits)), (q_p0_lesser, .inl (cI, 21, .inl f_p0_lesser)), (q_p0_greater, .inl (cI, 21, .inl f_p0_greater))]) (va_runS (As := [.int r_3, .int r_5, .long a3]) (rest := []) ⟨hx, hb, hml, hown, hts⟩ (k_X3_usedAt l D cI cC cN N H.size r_3 r_5 a3 r_7 h_8) (va_cwS 3 hts gX3_waysFrom_X3_usedAt rfl rfl rfl (by decide +kernel) ⟨by simp [rX3_waysFrom, rX3_usedAt]; try omega, by simp [rX3_waysFrom, rX3_usedAt]; try omega⟩) ⟨g_blind, g_pre (hP.sub [] rfl) hK hN (hD.sub [] (by decide) rfl)⟩ rfl rfl hl.1 rfl (lv_room (Nat.le_of_ble_eq_true rfl)) dX3_waysFrom_66 ⟨Nat.zero_le _, Nat.zero_le _⟩) hP hD hS hA [] [0, 1, 2, 3, 4, 5, 6] rfl rfl (by decide) (by decide) rfl (fun H locs hP hD hS => ?_)
          refine lv_istore (lv' := [(9, .int r_7), (8, .int r_5), (7, .int r_3), (0, .ref q_p0), (1, .int a1), (2, .int a2), (3, .long a3), (5, .int a5), (6, .int a6)]) hx hb dX3_waysFrom_69 hl (by decide) rfl (fun ls hl => ?_)
          refine lv_iconst (v := 0) hx hb dX3_waysFrom_71 (by decide) ?_
          refine lv_istore (lv' := [(10, .int 0), (9, .int r_7), (8, .int r_5), (7, .int r_3), (0, .ref q_p0), (1, .int a1), (2, .int a2), (3, .long a3), (5, .int a5), (6, .int a6)]) hx hb dX3_waysFrom_72 hl (by decide) rfl (fun ls hl => ?_)
          refine lv_iconst (v := 0) hx hb dX3_waysFrom_74 (by decide) ?_
          refine lv_istore (lv' := [(11, .int 0), (10, .int 0), (9, .int r_7), (8, .int r_5), (7, .int r_3), (0, .ref q_p0), (1, .int a1), (2, .int a2), (3, .long a3), (5, .int a5), (6, .int a6)]) hx hb dX3_waysFrom_75 hl (by decide) rfl (fun ls hl => ?_)
          have l77 : ∀ (n_77 : Nat) (x11_9 : Int32) (x10_10 : Int32), ∀ (H : Heap) (locs : List Loc) (ls : Array Slot), va_P D vwCl [(q_p0, .inr (3, [.ref q_p0_bits, .ref q_p0_lesser, .ref q_p0_greater, .int f_p0_placed, .ref q_p0_stops, .int f_p0_groups, .ref q_p0_beside, .ref q_p0_found])), (q_p0_stops, .inl (cI, 21, .inl f_p0_stops)), (q_p0_beside, .inl (cI, 21, .inl f_p0_beside)), (q_p0_found, .inl (cI, 21, .inl f_p0_found)), (q_p0_bits, .inl (cI, 21, .inl f_p0_bits)), (q_p0_lesser, .inl (cI, 21, .inl f_p0_lesser)), (q_p0_greater, .inl (cI, 21, .inl f_p0_greater))] H → va_D A [(q_p0, .inr (3, [.ref q_p0_bits, .ref q_p0_lesser, .ref q_p0_greater, .int f_p0_placed, .ref q_p0_stops, .int f_p0_groups, .ref q_p0_beside, .ref q_p0_found])), (q_p0_stops, .inl (cI, 21, .inl f_p0_stops)), (q_p0_beside, .inl (cI, 21, .inl f_p0_beside)), (q_p0_found, .inl (cI, 21, .inl f_p0_found)), (q_p0_bits, .inl (cI, 21, .inl f_p0_bits)), (q_p0_lesser, .inl (cI, 21, .inl f_p0_lesser)), (q_p0_greater, .inl (cI, 21, .inl f_p0_greater))] → va_S A s.heap H locs → lv_has ls 14 [(11, .int x11_9), (10, .int x10_10), (9, .int r_7), (8, .int r_5), (7, .int r_3), (0, .ref q_p0), (1, .int a1), (2, .int a2), (3, .long a3), (5, .int a5), (6, .int a6)] → m_X3_waysFrom_L77 N (m_X3_waysFrom N d) f_p0_bits f_p0_lesser f_p0_greater a1 a2 a3 a5 a6 r_3 r_5 r_7 n_77 x11_9 x10_10 = some r → W p l e (rX3_waysFrom (d + 1)) s m args below meth c H locs 0 0 Q (F0 m 77 ls []) := by
            intro n_77
            induction n_77 with
            | zero => intro x11_9 x10_10 H locs ls hP hD hS hl hm; rw [m_X3_waysFrom_L77] at hm; exact no_use hm
            | succ n_77 ih77 =>
              intro x11_9 x10_10 H locs ls hP hD hS hl hm
              rw [m_X3_waysFrom_L77] at hm
              refine lv_iload hx hb dX3_waysFrom_77 (lv_at hl 0 rfl) ?_
              refine lv_iconst (v := 3) hx hb dX3_waysFrom_79 (by decide) ?_
              refine lv_icmp_ge (tgt := 141) hx hb dX3_waysFrom_80 (by decide) (fun hc => ?_) (fun hc => ?_)
              · have hm := if_t _ hc hm
                refine lv_iload hx hb dX3_waysFrom_141 (lv_at hl 1 rfl) ?_
                have z1 := so_use hm
                subst z1
                exact hret _ _ _ _ _ dX3_waysFrom_143 rfl rfl (hP.sub [0, 4, 5, 6, 1, 2, 3] rfl) (hD.sub [0, 4, 5, 6, 1, 2, 3] (by decide) rfl) hS
              · have hm := if_f _ hc hm
                refine lv_iload hx hb dX3_waysFrom_83 (lv_at hl 1 rfl) ?_
                refine lv_iload hx hb dX3_waysFrom_85 (lv_at hl 10 rfl) ?_
                refine lv_icmp_ge (tgt := 141) hx hb dX3_waysFrom_87 (by decide) (fun hc => ?_) (fun hc => ?_)
                · have hm := if_t _ hc hm
                  refine lv_iload hx hb dX3_waysFrom_141 (lv_at hl 1 rfl) ?_
                  have z1 := so_use hm
                  subst z1
                  exact hret _ _ _ _ _ dX3_waysFrom_143 rfl rfl (hP.sub [0, 4, 5, 6, 1, 2, 3] rfl) (hD.sub [0, 4, 5, 6, 1, 2, 3] (by decide) rfl) hS
                · have hm := if_f _ hc hm
                  refine lv_iload hx hb dX3_waysFrom_90 (lv_at hl 2 rfl) ?_
                  refine lv_iload hx hb dX3_waysFrom_92 (lv_at hl 0 rfl) ?_
                  obtain ⟨r_11, h_12, hm⟩ := bind_use hm
                  refine g_ki (wc := []) (wr := [(q_p0, .inr (3, [.ref q_p0_bits, .ref q_p0_lesser, .ref q_p0_greater, .int f_p0_placed, .ref q_p0_stops, .int f_p0_groups, .ref q_p0_beside, .ref q_p0_found])), (q_p0_stops, .inl (cI, 21, .inl f_p0_stops)), (q_p0_beside, .inl (cI, 21, .inl f_p0_beside)), (q_p0_found, .inl (cI, 21, .inl f_p0_found)), (q_p0_bits, .inl (cI, 21, .inl f_p0_bits)), (q_p0_lesser, .inl (cI, 21, .inl f_p0_lesser)), (q_p0_greater, .inl (cI, 21, .inl f_p0_greater))]) (w2 := [(q_p0, .inr (3, [.ref q_p0_bits, .ref q_p0_lesser, .ref q_p0_greater, .int f_p0_placed, .ref q_p0_stops, .int f_p0_groups, .ref q_p0_beside, .ref q_p0_found])), (q_p0_stops, .inl (cI, 21, .inl f_p0_stops)), (q_p0_beside, .inl (cI, 21, .inl f_p0_beside)), (q_p0_found, .inl (cI, 21, .inl f_p0_found)), (q_p0_bits, .inl (cI, 21, .inl f_p0_bits)), (q_p0_lesser, .inl (cI, 21, .inl f_p0_lesser)), (q_p0_greater, .inl (cI, 21, .inl f_p0_greater))]) (va_runSN (As := [.int r_7, .int x11_9]) (rest := []) ⟨hx, hb, hml, hown, hts⟩ (k_X6_holds l D cI cC cN N H.size r_7 x11_9 r_11 h_12) ⟨va_cnB 2 hts gX3_waysFrom_X6_holds_n72 rfl rfl rfl (hN (.methodLinkNest RX3 72 yX6_holds RX6) (by decide +kernel)) (hts (.initialized RX6) (by decide +kernel)) (by decide +kernel) ⟨by simp [rX3_waysFrom, rX6_holds]; try omega, by simp [rX3_waysFrom, rX6_holds]; try omega⟩, hts (.static yX6_holds) (by decide +kernel), trivial⟩ ⟨g_blind, g_pre (hP.sub [] rfl) hK hN (hD.sub [] (by decide) rfl)⟩ rfl rfl hl.1 rfl (lv_room (Nat.le_of_ble_eq_true rfl)) dX3_waysFrom_94 ⟨Nat.zero_le _, Nat.zero_le _⟩) hP hD hS hA [] [0, 1, 2, 3, 4, 5, 6] rfl rfl (by decide) (by decide) rfl (fun H locs hP hD hS => ?_)
                  refine lv_if_ne (tgt := 135) hx hb dX3_waysFrom_97 (by decide) (fun hc => ?_) (fun hc => ?_)
                  · have hm := if_f _ hc hm
                    refine lv_iinc (v := (x11_9 + 1)) (lv' := [(11, .int (x11_9 + 1)), (10, .int x10_10), (9, .int r_7), (8, .int r_5), (7, .int r_3), (0, .ref q_p0), (1, .int a1), (2, .int a2), (3, .long a3), (5, .int a5), (6, .int a6)]) hx hb dX3_waysFrom_135 hl (k := 0) rfl rfl (by decide) rfl (fun ls hl => ?_)
                    refine lv_goto (tgt := 77) hx hb dX3_waysFrom_138 (by decide) ?_
                    exact ih77 (x11_9 + 1) x10_10 _ _ _ hP hD hS hl hm
                  · have hm := if_t _ hc hm
                    refine lv_lload_n hx hb dX3_waysFrom_100 rfl (lv_at hl 8 rfl) ?_
                    refine lv_iload hx hb dX3_waysFrom_101 (lv_at hl 4 rfl) ?_
                    refine lv_iload hx hb dX3_waysFrom_103 (lv_at hl 3 rfl) ?_
                    refine lv_iload hx hb dX3_waysFrom_105 (lv_at hl 0 rfl) ?_
                    obtain ⟨r_13, h_14, hm⟩ := bind_use hm
                    refine g_kl (wc := []) (wr := [(q_p0, .inr (3, [.ref q_p0_bits, .ref q_p0_lesser, .ref q_p0_greater, .int f_p0_placed, .ref q_p0_stops, .int f_p0_groups, .ref q_p0_beside, .ref q_p0_found])), (q_p0_stops, .inl (cI, 21, .inl f_p0_stops)), (q_p0_beside, .inl (cI, 21, .inl f_p0_beside)), (q_p0_found, .inl (cI, 21, .inl f_p0_found)), (q_p0_bits, .inl (cI, 21, .inl f_p0_bits)), (q_p0_lesser, .inl (cI, 21, .inl f_p0_lesser)), (q_p0_greater, .inl (cI, 21, .inl f_p0_greater))]) (w2 := [(q_p0, .inr (3, [.ref q_p0_bits, .ref q_p0_lesser, .ref q_p0_greater, .int f_p0_placed, .ref q_p0_stops, .int f_p0_groups, .ref q_p0_beside, .ref q_p0_found])), (q_p0_stops, .inl (cI, 21, .inl f_p0_stops)), (q_p0_beside, .inl (cI, 21, .inl f_p0_beside)), (q_p0_found, .inl (cI, 21, .inl f_p0_found)), (q_p0_bits, .inl (cI, 21, .inl f_p0_bits)), (q_p0_lesser, .inl (cI, 21, .inl f_p0_lesser)), (q_p0_greater, .inl (cI, 21, .inl f_p0_greater))]) (va_runS (As := [.int r_3, .int r_5, .int x11_9]) (rest := [.long a3]) ⟨hx, hb, hml, hown, hts⟩ (k_X3_usedWith l D cI cC cN N H.size r_3 r_5 x11_9 r_13 h_14) (va_cwS 3 hts gX3_waysFrom_X3_usedWith rfl rfl rfl (by decide +kernel) ⟨by simp [rX3_waysFrom, rX3_usedWith]; try omega, by simp [rX3_waysFrom, rX3_usedWith]; try omega⟩) ⟨g_blind, g_pre (hP.sub [] rfl) hK hN (hD.sub [] (by decide) rfl)⟩ rfl rfl hl.1 rfl (lv_room (Nat.le_of_ble_eq_true rfl)) dX3_waysFrom_107 ⟨Nat.zero_le _, Nat.zero_le _⟩) hP hD hS hA [] [0, 1, 2, 3, 4, 5, 6] rfl rfl (by decide) (by decide) rfl (fun H locs hP hD hS => ?_)
                    refine lv_lor hx hb dX3_waysFrom_110 ?_
                    refine lv_topl (fun v12_15 ev12_15 => ?_)
                    have hm := nm_use ev12_15 hm
                    refine lv_lstore (lv' := [(12, .long v12_15), (11, .int x11_9), (10, .int x10_10), (9, .int r_7), (8, .int r_5), (7, .int r_3), (0, .ref q_p0), (1, .int a1), (2, .int a2), (3, .long a3), (5, .int a5), (6, .int a6)]) hx hb dX3_waysFrom_111 hl (by decide) rfl (fun ls hl => ?_)
                    refine lv_iload hx hb dX3_waysFrom_113 (lv_at hl 2 rfl) ?_
                    refine lv_aload_n hx hb dX3_waysFrom_115 rfl (lv_at hl 6 rfl) ?_
                    refine lv_iload_n hx hb dX3_waysFrom_116 rfl (lv_at hl 7 rfl) ?_
                    refine lv_iconst (v := 1) hx hb dX3_waysFrom_117 (by decide) ?_
                    refine lv_iadd hx hb dX3_waysFrom_118 ?_
                    refine lv_iload_n hx hb dX3_waysFrom_119 rfl (lv_at hl 8 rfl) ?_
                    refine lv_lload hx hb dX3_waysFrom_120 (lv_at hl 0 rfl) ?_
                    refine lv_iload hx hb dX3_waysFrom_122 (lv_at hl 10 rfl) ?_
                    refine lv_iload hx hb dX3_waysFrom_124 (lv_at hl 11 rfl) ?_
                    refine lv_iload hx hb dX3_waysFrom_126 (lv_at hl 2 rfl) ?_
                    refine lv_isub hx hb dX3_waysFrom_128 ?_
                    obtain ⟨r_16, h_17, hm⟩ := bind_use hm
                    refine g_ki (wc := [(q_p0, .inr (3, [.ref q_p0_bits, .ref q_p0_lesser, .ref q_p0_greater, .int f_p0_placed, .ref q_p0_stops, .int f_p0_groups, .ref q_p0_beside, .ref q_p0_found])), (q_p0_bits, .inl (cI, 21, .inl f_p0_bits)), (q_p0_lesser, .inl (cI, 21, .inl f_p0_lesser)), (q_p0_greater, .inl (cI, 21, .inl f_p0_greater)), (q_p0_stops, .inl (cI, 21, .inl f_p0_stops)), (q_p0_beside, .inl (cI, 21, .inl f_p0_beside)), (q_p0_found, .inl (cI, 21, .inl f_p0_found))]) (wr := []) (w2 := [(q_p0, .inr (3, [.ref q_p0_bits, .ref q_p0_lesser, .ref q_p0_greater, .int f_p0_placed, .ref q_p0_stops, .int f_p0_groups, .ref q_p0_beside, .ref q_p0_found])), (q_p0_bits, .inl (cI, 21, .inl f_p0_bits)), (q_p0_lesser, .inl (cI, 21, .inl f_p0_lesser)), (q_p0_greater, .inl (cI, 21, .inl f_p0_greater)), (q_p0_stops, .inl (cI, 21, .inl f_p0_stops)), (q_p0_beside, .inl (cI, 21, .inl f_p0_beside)), (q_p0_found, .inl (cI, 21, .inl f_p0_found))]) (va_runS (As := [.ref q_p0, .int (a1 + 1), .int a2, .long v12_15, .int a5, .int (a6 - x10_10)]) (rest := [.int x10_10]) ⟨hx, hb, hml, hown, hts⟩ (kih q_p0 q_p0_bits q_p0_lesser q_p0_greater q_p0_stops q_p0_beside q_p0_found H.size f_p0_bits f_p0_lesser f_p0_greater f_p0_placed f_p0_stops f_p0_groups f_p0_beside f_p0_found (a1 + 1) a2 v12_15 a5 (a6 - x10_10) r_16 h_17) (va_cwS 6 hts gX3_waysFrom_X3_waysFrom rfl rfl rfl (by decide +kernel) ⟨by simp [rX3_waysFrom]; try omega, by simp [rX3_waysFrom]; try omega⟩) ⟨g_blind, g_pre (hP.sub [0, 4, 5, 6, 1, 2, 3] rfl) hK hN (hD.sub [0, 4, 5, 6, 1, 2, 3] (by decide) rfl)⟩ rfl rfl hl.1 rfl (lv_room (Nat.le_of_ble_eq_true rfl)) dX3_waysFrom_129 ⟨Nat.zero_le _, Nat.zero_le _⟩) hP hD hS hA [0, 4, 5, 6, 1, 2, 3] [] rfl rfl (by decide) (by decide) rfl (fun H locs hP hD hS => ?_)
                    refine lv_iadd hx hb dX3_waysFrom_132 ?_
                    refine lv_topi (fun v10_18 ev10_18 => ?_)
                    have hm := nm_use ev10_18 hm
                    refine lv_istore (lv' := [(10, .int v10_18), (12, .long v12_15), (11, .int x11_9), (9, .int r_7), (8, .int r_5), (7, .int r_3), (0, .ref q_p0), (1, .int a1), (2, .int a2), (3, .long a3), (5, .int a5), (6, .int a6)]) hx hb dX3_waysFrom_133 hl (by decide) rfl (fun ls hl => ?_)
                    refine lv_iinc (v := (x11_9 + 1)) (lv' := [(11, .int (x11_9 + 1)), (10, .int v10_18), (12, .long v12_15), (9, .int r_7), (8, .int r_5), (7, .int r_3), (0, .ref q_p0), (1, .int a1), (2, .int a2), (3, .long a3), (5, .int a5), (6, .int a6)]) hx hb dX3_waysFrom_135 hl (k := 2) rfl rfl (by decide) rfl (fun ls hl => ?_)
                    refine lv_goto (tgt := 77) hx hb dX3_waysFrom_138 (by decide) ?_
                    exact ih77 (x11_9 + 1) v10_18 _ _ _ (hP.sub [0, 4, 5, 6, 1, 2, 3] rfl) (hD.sub [0, 4, 5, 6, 1, 2, 3] (by decide) rfl) hS (lv_sub hl [0, 1, 3, 4, 5, 6, 7, 8, 9, 10, 11] rfl) hm
          exact l77 N 0 0 _ _ _ hP hD hS hl hm
        · have hm := if_f _ hc hm
          refine lv_aload_n hx hb dX3_waysFrom_27 rfl (lv_at hl 0 rfl) ?_
          refine lv_iload_n hx hb dX3_waysFrom_28 rfl (lv_at hl 1 rfl) ?_
          refine lv_iconst (v := 1) hx hb dX3_waysFrom_29 (by decide) ?_
          refine lv_iadd hx hb dX3_waysFrom_30 ?_
          refine lv_iload_n hx hb dX3_waysFrom_31 rfl (lv_at hl 2 rfl) ?_
          refine lv_lload_n hx hb dX3_waysFrom_32 rfl (lv_at hl 3 rfl) ?_
          refine lv_iload hx hb dX3_waysFrom_33 (lv_at hl 4 rfl) ?_
          refine lv_iload hx hb dX3_waysFrom_35 (lv_at hl 5 rfl) ?_
          obtain ⟨r_19, h_20, hm⟩ := bind_use hm
          refine g_ki (wc := [(q_p0, .inr (3, [.ref q_p0_bits, .ref q_p0_lesser, .ref q_p0_greater, .int f_p0_placed, .ref q_p0_stops, .int f_p0_groups, .ref q_p0_beside, .ref q_p0_found])), (q_p0_bits, .inl (cI, 21, .inl f_p0_bits)), (q_p0_lesser, .inl (cI, 21, .inl f_p0_lesser)), (q_p0_greater, .inl (cI, 21, .inl f_p0_greater)), (q_p0_stops, .inl (cI, 21, .inl f_p0_stops)), (q_p0_beside, .inl (cI, 21, .inl f_p0_beside)), (q_p0_found, .inl (cI, 21, .inl f_p0_found))]) (wr := []) (w2 := [(q_p0, .inr (3, [.ref q_p0_bits, .ref q_p0_lesser, .ref q_p0_greater, .int f_p0_placed, .ref q_p0_stops, .int f_p0_groups, .ref q_p0_beside, .ref q_p0_found])), (q_p0_bits, .inl (cI, 21, .inl f_p0_bits)), (q_p0_lesser, .inl (cI, 21, .inl f_p0_lesser)), (q_p0_greater, .inl (cI, 21, .inl f_p0_greater)), (q_p0_stops, .inl (cI, 21, .inl f_p0_stops)), (q_p0_beside, .inl (cI, 21, .inl f_p0_beside)), (q_p0_found, .inl (cI, 21, .inl f_p0_found))]) (va_runS (As := [.ref q_p0, .int (a1 + 1), .int a2, .long a3, .int a5, .int a6]) (rest := []) ⟨hx, hb, hml, hown, hts⟩ (kih q_p0 q_p0_bits q_p0_lesser q_p0_greater q_p0_stops q_p0_beside q_p0_found H.size f_p0_bits f_p0_lesser f_p0_greater f_p0_placed f_p0_stops f_p0_groups f_p0_beside f_p0_found (a1 + 1) a2 a3 a5 a6 r_19 h_20) (va_cwS 6 hts gX3_waysFrom_X3_waysFrom rfl rfl rfl (by decide +kernel) ⟨by simp [rX3_waysFrom]; try omega, by simp [rX3_waysFrom]; try omega⟩) ⟨g_blind, g_pre (hP.sub [0, 6, 1, 2, 3, 4, 5] rfl) hK hN (hD.sub [0, 6, 1, 2, 3, 4, 5] (by decide) rfl)⟩ rfl rfl hl.1 rfl (lv_room (Nat.le_of_ble_eq_true rfl)) dX3_waysFrom_37 ⟨Nat.zero_le _, Nat.zero_le _⟩) hP hD hS hA [0, 6, 1, 2, 3, 4, 5] [] rfl rfl (by decide) (by decide) rfl (fun H locs hP hD hS => ?_)
          have z1 := so_use hm
          subst z1
          exact hret _ _ _ _ _ dX3_waysFrom_40 rfl rfl hP hD hS
      · have hm := if_f _ hc hm
        refine lv_iconst (v := 1) hx hb dX3_waysFrom_11 (by decide) ?_
        have z1 := so_use hm
        subst z1
        exact hret _ _ _ _ _ dX3_waysFrom_12 rfl rfl hP hD hS
abbrev rX3_groupWays : Room := { frames := 26, cells := 0, slots := 0, locals := 848 }
set_option maxHeartbeats 4000000 in
set_option maxRecDepth 100000 in
theorem k_X3_groupWays (l : Launch) (D : va_G) (cI cC cN : ClassId) (N : Nat) (q : Nat) (q_bits : Nat) (q_lesser : Nat) (q_greater : Nat) (q_stops : Nat) (q_beside : Nat) (q_found : Nat) (sz : Nat) (f_bits : Nat → Int32) (f_lesser : Nat → Int32) (f_greater : Nat → Int32) (f_placed : Int32) (f_stops : Nat → Int32) (f_groups : Int32) (f_beside : Nat → Int32) (f_found : Nat → Int32) (a1 : Int32) (a2 : Int32) (a3 : Int64) (a5 : Int32) (a6 : Int32) (r : Int32) (hm : m_X3_groupWays N f_bits f_lesser f_greater a1 a2 a3 a5 a6 = some r) : Met l yX3_groupWays wsX3_groupWays (rX3_groupWays) (gPc D (tysG cI cC cN) [.ref q, .int a1, .int a2, .long a3, .int a5, .int a6] [(q, .inr (3, [.ref q_bits, .ref q_lesser, .ref q_greater, .int f_placed, .ref q_stops, .int f_groups, .ref q_beside, .ref q_found])), (q_bits, .inl (cI, 21, .inl f_bits)), (q_lesser, .inl (cI, 21, .inl f_lesser)), (q_greater, .inl (cI, 21, .inl f_greater)), (q_stops, .inl (cI, 21, .inl f_stops)), (q_beside, .inl (cI, 21, .inl f_beside)), (q_found, .inl (cI, 21, .inl f_found))] sz) (gQi D (tysG cI cC cN) (va_A [(q, .inr (3, [.ref q_bits, .ref q_lesser, .ref q_greater, .int f_placed, .ref q_stops, .int f_groups, .ref q_beside, .ref q_found])), (q_bits, .inl (cI, 21, .inl f_bits)), (q_lesser, .inl (cI, 21, .inl f_lesser)), (q_greater, .inl (cI, 21, .inl f_greater)), (q_stops, .inl (cI, 21, .inl f_stops)), (q_beside, .inl (cI, 21, .inl f_beside)), (q_found, .inl (cI, 21, .inl f_found))] sz) [(q, .inr (3, [.ref q_bits, .ref q_lesser, .ref q_greater, .int f_placed, .ref q_stops, .int f_groups, .ref q_beside, .ref q_found])), (q_bits, .inl (cI, 21, .inl f_bits)), (q_lesser, .inl (cI, 21, .inl f_lesser)), (q_greater, .inl (cI, 21, .inl f_greater)), (q_stops, .inl (cI, 21, .inl f_stops)), (q_beside, .inl (cI, 21, .inl f_beside)), (q_found, .inl (cI, 21, .inl f_found))] r) 0 0 (va_A [(q, .inr (3, [.ref q_bits, .ref q_lesser, .ref q_greater, .int f_placed, .ref q_stops, .int f_groups, .ref q_beside, .ref q_found])), (q_bits, .inl (cI, 21, .inl f_bits)), (q_lesser, .inl (cI, 21, .inl f_lesser)), (q_greater, .inl (cI, 21, .inl f_greater)), (q_stops, .inl (cI, 21, .inl f_stops)), (q_beside, .inl (cI, 21, .inl f_beside)), (q_found, .inl (cI, 21, .inl f_found))] sz) := by
  unfold m_X3_groupWays at hm
  refine g_openI (cc := cX3_groupWays) (maxL := 10) (own := RX3) (by decide) rfl rfl (Nat.le_of_ble_eq_true rfl) ?_
  intro p e s m args below meth c A Q hx hb hml hown hts hP hK hN hD hA hret ls hl
  have hS : va_S A s.heap s.heap [] := va_S.rf
  have hl : lv_has ls 10 [(0, .ref q), (1, .int a1), (2, .int a2), (3, .long a3), (5, .int a5), (6, .int a6)] := hl
  refine lv_aload_n hx hb dX3_groupWays_0 rfl (lv_at hl 0 rfl) ?_
  refine lv_iload_n hx hb dX3_groupWays_1 rfl (lv_at hl 1 rfl) ?_
  refine lv_iload_n hx hb dX3_groupWays_2 rfl (lv_at hl 2 rfl) ?_
  refine lv_lload_n hx hb dX3_groupWays_3 rfl (lv_at hl 3 rfl) ?_
  refine lv_iload hx hb dX3_groupWays_4 (lv_at hl 4 rfl) ?_
  obtain ⟨r_1, h_2, hm⟩ := bind_use hm
  refine g_ki (wc := [(q, .inr (3, [.ref q_bits, .ref q_lesser, .ref q_greater, .int f_placed, .ref q_stops, .int f_groups, .ref q_beside, .ref q_found])), (q_bits, .inl (cI, 21, .inl f_bits)), (q_lesser, .inl (cI, 21, .inl f_lesser)), (q_greater, .inl (cI, 21, .inl f_greater)), (q_stops, .inl (cI, 21, .inl f_stops)), (q_beside, .inl (cI, 21, .inl f_beside)), (q_found, .inl (cI, 21, .inl f_found))]) (wr := []) (w2 := [(q, .inr (3, [.ref q_bits, .ref q_lesser, .ref q_greater, .int f_placed, .ref q_stops, .int f_groups, .ref q_beside, .ref q_found])), (q_bits, .inl (cI, 21, .inl f_bits)), (q_lesser, .inl (cI, 21, .inl f_lesser)), (q_greater, .inl (cI, 21, .inl f_greater)), (q_stops, .inl (cI, 21, .inl f_stops)), (q_beside, .inl (cI, 21, .inl f_beside)), (q_found, .inl (cI, 21, .inl f_found))]) (va_runV (As := [.int a1, .int a2, .long a3, .int a5]) (rest := []) ⟨hx, hb, hml, hown, hts⟩ (k_X3_isBare l D cI cC cN N q q_bits q_lesser q_greater q_stops q_beside q_found s.heap.size f_bits f_lesser f_greater f_placed f_stops f_groups f_beside f_found a1 a2 a3 a5 r_1 h_2) (cwV 4 hts gX3_groupWays_X3_isBare rfl rfl rfl (by decide +kernel) ⟨Nat.le_of_ble_eq_true rfl, Nat.le_of_ble_eq_true rfl⟩) ⟨g_blind, va_recv (D := D) (ci := 3) (q0 := 0) hK hP rfl rfl, g_pre (hP.sub [0, 1, 2, 3, 4, 5, 6] rfl) hK hN (hD.sub [0, 1, 2, 3, 4, 5, 6] (by decide) rfl)⟩ rfl rfl hl.1 rfl (lv_room (Nat.le_of_ble_eq_true rfl)) dX3_groupWays_6 ⟨Nat.zero_le _, Nat.zero_le _⟩) hP hD hS hA [0, 1, 2, 3, 4, 5, 6] [] rfl rfl (by decide) (by decide) rfl (fun H locs hP hD hS => ?_)
  refine lv_if_ne (tgt := 24) hx hb dX3_groupWays_9 (by decide) (fun hc => ?_) (fun hc => ?_)
  · have hm := if_f _ hc hm
    refine lv_iload_n hx hb dX3_groupWays_24 rfl (lv_at hl 1 rfl) ?_
    refine lv_istore (lv' := [(7, .int a1), (0, .ref q), (1, .int a1), (2, .int a2), (3, .long a3), (5, .int a5), (6, .int a6)]) hx hb dX3_groupWays_25 hl (by decide) rfl (fun ls hl => ?_)
    obtain ⟨J54, hJ54, hm⟩ := jn_use hm
    have j54 : ∀ (x7_3 : Int32), ∀ (H : Heap) (locs : List Loc) (ls : Array Slot), va_P D vwCl [(q, .inr (3, [.ref q_bits, .ref q_lesser, .ref q_greater, .int f_placed, .ref q_stops, .int f_groups, .ref q_beside, .ref q_found])), (q_bits, .inl (cI, 21, .inl f_bits)), (q_lesser, .inl (cI, 21, .inl f_lesser)), (q_greater, .inl (cI, 21, .inl f_greater)), (q_stops, .inl (cI, 21, .inl f_stops)), (q_beside, .inl (cI, 21, .inl f_beside)), (q_found, .inl (cI, 21, .inl f_found))] H → va_D A [(q, .inr (3, [.ref q_bits, .ref q_lesser, .ref q_greater, .int f_placed, .ref q_stops, .int f_groups, .ref q_beside, .ref q_found])), (q_bits, .inl (cI, 21, .inl f_bits)), (q_lesser, .inl (cI, 21, .inl f_lesser)), (q_greater, .inl (cI, 21, .inl f_greater)), (q_stops, .inl (cI, 21, .inl f_stops)), (q_beside, .inl (cI, 21, .inl f_beside)), (q_found, .inl (cI, 21, .inl f_found))] → va_S A s.heap H locs → lv_has ls 10 [(7, .int x7_3), (0, .ref q), (2, .int a2), (3, .long a3), (5, .int a5), (6, .int a6)] → J54 x7_3 = some r → W p l e rX3_groupWays s m args below meth c H locs 0 0 Q (F0 m 54 ls []) := by
      intro x7_3 H locs ls hP hD hS hl hm
      rw [hJ54] at hm
      refine lv_iload hx hb dX3_groupWays_54 (lv_at hl 0 rfl) ?_
      refine lv_iload_n hx hb dX3_groupWays_56 rfl (lv_at hl 2 rfl) ?_
      refine lv_icmp_lt (tgt := 62) hx hb dX3_groupWays_57 (by decide) (fun hc => ?_) (fun hc => ?_)
      · have hm := if_t _ hc hm
        refine lv_lload_n hx hb dX3_groupWays_62 rfl (lv_at hl 3 rfl) ?_
        refine lv_aload_n hx hb dX3_groupWays_63 rfl (lv_at hl 1 rfl) ?_
        refine va_get (D := D) (ci := 3) (v := .ref q_lesser) (C := RX3) (T := TX3) (N := 8) hx hb hts (by decide +kernel) hown hK hP 0 rfl rfl 1 (by decide) (hts (.fieldLink RX3 15 "KnotStripes$Painter" "lesser" "[I") (by decide +kernel)) (fun _ h9 => h9) rfl dX3_groupWays_64 ?_
        refine lv_iload hx hb dX3_groupWays_67 (lv_at hl 0 rfl) ?_
        obtain ⟨r_4, h_5, hm⟩ := bind_use hm
        refine g_ki (wc := [(q_lesser, .inl (cI, 21, .inl f_lesser))]) (wr := [(q, .inr (3, [.ref q_bits, .ref q_lesser, .ref q_greater, .int f_placed, .ref q_stops, .int f_groups, .ref q_beside, .ref q_found])), (q_bits, .inl (cI, 21, .inl f_bits)), (q_greater, .inl (cI, 21, .inl f_greater)), (q_stops, .inl (cI, 21, .inl f_stops)), (q_beside, .inl (cI, 21, .inl f_beside)), (q_found, .inl (cI, 21, .inl f_found))]) (w2 := [(q, .inr (3, [.ref q_bits, .ref q_lesser, .ref q_greater, .int f_placed, .ref q_stops, .int f_groups, .ref q_beside, .ref q_found])), (q_bits, .inl (cI, 21, .inl f_bits)), (q_greater, .inl (cI, 21, .inl f_greater)), (q_stops, .inl (cI, 21, .inl f_stops)), (q_beside, .inl (cI, 21, .inl f_beside)), (q_found, .inl (cI, 21, .inl f_found)), (q_lesser, .inl (cI, 21, .inl f_lesser))]) (va_runSN (As := [.ref q_lesser, .int x7_3]) (rest := [.long a3]) ⟨hx, hb, hml, hown, hts⟩ (k_X6_at l D cI cC cN N q_lesser 21 H.size f_lesser x7_3 r_4 h_5) ⟨va_cnB 2 hts gX3_groupWays_X6_at_n37 rfl rfl rfl (hN (.methodLinkNest RX3 37 yX6_at RX6) (by decide +kernel)) (hts (.initialized RX6) (by decide +kernel)) (by decide +kernel) ⟨Nat.le_of_ble_eq_true rfl, Nat.le_of_ble_eq_true rfl⟩, hts (.static yX6_at) (by decide +kernel), trivial⟩ ⟨g_blind, g_pre (hP.sub [2] rfl) hK hN (hD.sub [2] (by decide) rfl)⟩ rfl rfl hl.1 rfl (lv_room (Nat.le_of_ble_eq_true rfl)) dX3_groupWays_69 ⟨Nat.zero_le _, Nat.zero_le _⟩) hP hD hS hA [2] [0, 1, 3, 4, 5, 6] rfl rfl (by decide) (by decide) rfl (fun H locs hP hD hS => ?_)
        refine lv_aload_n hx hb dX3_groupWays_72 rfl (lv_at hl 1 rfl) ?_
        refine va_get (D := D) (ci := 3) (v := .ref q_greater) (C := RX3) (T := TX3) (N := 8) hx hb hts (by decide +kernel) hown hK hP 0 rfl rfl 2 (by decide) (hts (.fieldLink RX3 18 "KnotStripes$Painter" "greater" "[I") (by decide +kernel)) (fun _ h9 => h9) rfl dX3_groupWays_73 ?_
        refine lv_iload hx hb dX3_groupWays_76 (lv_at hl 0 rfl) ?_
        obtain ⟨r_6, h_7, hm⟩ := bind_use hm
        refine g_ki (wc := [(q_greater, .inl (cI, 21, .inl f_greater))]) (wr := [(q, .inr (3, [.ref q_bits, .ref q_lesser, .ref q_greater, .int f_placed, .ref q_stops, .int f_groups, .ref q_beside, .ref q_found])), (q_bits, .inl (cI, 21, .inl f_bits)), (q_stops, .inl (cI, 21, .inl f_stops)), (q_beside, .inl (cI, 21, .inl f_beside)), (q_found, .inl (cI, 21, .inl f_found)), (q_lesser, .inl (cI, 21, .inl f_lesser))]) (w2 := [(q, .inr (3, [.ref q_bits, .ref q_lesser, .ref q_greater, .int f_placed, .ref q_stops, .int f_groups, .ref q_beside, .ref q_found])), (q_bits, .inl (cI, 21, .inl f_bits)), (q_stops, .inl (cI, 21, .inl f_stops)), (q_beside, .inl (cI, 21, .inl f_beside)), (q_found, .inl (cI, 21, .inl f_found)), (q_lesser, .inl (cI, 21, .inl f_lesser)), (q_greater, .inl (cI, 21, .inl f_greater))]) (va_runSN (As := [.ref q_greater, .int x7_3]) (rest := [.int r_4, .long a3]) ⟨hx, hb, hml, hown, hts⟩ (k_X6_at l D cI cC cN N q_greater 21 H.size f_greater x7_3 r_6 h_7) ⟨va_cnB 2 hts gX3_groupWays_X6_at_n37 rfl rfl rfl (hN (.methodLinkNest RX3 37 yX6_at RX6) (by decide +kernel)) (hts (.initialized RX6) (by decide +kernel)) (by decide +kernel) ⟨Nat.le_of_ble_eq_true rfl, Nat.le_of_ble_eq_true rfl⟩, hts (.static yX6_at) (by decide +kernel), trivial⟩ ⟨g_blind, g_pre (hP.sub [2] rfl) hK hN (hD.sub [2] (by decide) rfl)⟩ rfl rfl hl.1 rfl (lv_room (Nat.le_of_ble_eq_true rfl)) dX3_groupWays_78 ⟨Nat.zero_le _, Nat.zero_le _⟩) hP hD hS hA [2] [0, 1, 3, 4, 5, 6] rfl rfl (by decide) (by decide) rfl (fun H locs hP hD hS => ?_)
        refine lv_iconst (v := 0) hx hb dX3_groupWays_81 (by decide) ?_
        obtain ⟨r_8, h_9, hm⟩ := bind_use hm
        refine g_kl (wc := []) (wr := [(q, .inr (3, [.ref q_bits, .ref q_lesser, .ref q_greater, .int f_placed, .ref q_stops, .int f_groups, .ref q_beside, .ref q_found])), (q_bits, .inl (cI, 21, .inl f_bits)), (q_stops, .inl (cI, 21, .inl f_stops)), (q_beside, .inl (cI, 21, .inl f_beside)), (q_found, .inl (cI, 21, .inl f_found)), (q_lesser, .inl (cI, 21, .inl f_lesser)), (q_greater, .inl (cI, 21, .inl f_greater))]) (w2 := [(q, .inr (3, [.ref q_bits, .ref q_lesser, .ref q_greater, .int f_placed, .ref q_stops, .int f_groups, .ref q_beside, .ref q_found])), (q_bits, .inl (cI, 21, .inl f_bits)), (q_stops, .inl (cI, 21, .inl f_stops)), (q_beside, .inl (cI, 21, .inl f_beside)), (q_found, .inl (cI, 21, .inl f_found)), (q_lesser, .inl (cI, 21, .inl f_lesser)), (q_greater, .inl (cI, 21, .inl f_greater))]) (va_runS (As := [.int r_4, .int r_6, .int 0]) (rest := [.long a3]) ⟨hx, hb, hml, hown, hts⟩ (k_X3_usedWith l D cI cC cN N H.size r_4 r_6 0 r_8 h_9) (va_cwS 3 hts gX3_groupWays_X3_usedWith rfl rfl rfl (by decide +kernel) ⟨Nat.le_of_ble_eq_true rfl, Nat.le_of_ble_eq_true rfl⟩) ⟨g_blind, g_pre (hP.sub [] rfl) hK hN (hD.sub [] (by decide) rfl)⟩ rfl rfl hl.1 rfl (lv_room (Nat.le_of_ble_eq_true rfl)) dX3_groupWays_82 ⟨Nat.zero_le _, Nat.zero_le _⟩) hP hD hS hA [] [0, 1, 2, 3, 4, 5, 6] rfl rfl (by decide) (by decide) rfl (fun H locs hP hD hS => ?_)
        refine lv_lor hx hb dX3_groupWays_85 ?_
        refine lv_topl (fun v8_10 ev8_10 => ?_)
        have hm := nm_use ev8_10 hm
        refine lv_lstore (lv' := [(8, .long v8_10), (7, .int x7_3), (0, .ref q), (2, .int a2), (3, .long a3), (5, .int a5), (6, .int a6)]) hx hb dX3_groupWays_86 hl (by decide) rfl (fun ls hl => ?_)
        refine lv_iconst (v := 3) hx hb dX3_groupWays_88 (by decide) ?_
        refine lv_aload_n hx hb dX3_groupWays_89 rfl (lv_at hl 2 rfl) ?_
        refine lv_iload hx hb dX3_groupWays_90 (lv_at hl 1 rfl) ?_
        refine lv_iconst (v := 1) hx hb dX3_groupWays_92 (by decide) ?_
        refine lv_iadd hx hb dX3_groupWays_93 ?_
        refine lv_iload_n hx hb dX3_groupWays_94 rfl (lv_at hl 3 rfl) ?_
        refine lv_lload hx hb dX3_groupWays_95 (lv_at hl 0 rfl) ?_
        refine lv_iload hx hb dX3_groupWays_97 (lv_at hl 5 rfl) ?_
        refine lv_iload hx hb dX3_groupWays_99 (lv_at hl 6 rfl) ?_
        obtain ⟨r_11, h_12, hm⟩ := bind_use hm
        refine g_ki (wc := [(q, .inr (3, [.ref q_bits, .ref q_lesser, .ref q_greater, .int f_placed, .ref q_stops, .int f_groups, .ref q_beside, .ref q_found])), (q_bits, .inl (cI, 21, .inl f_bits)), (q_lesser, .inl (cI, 21, .inl f_lesser)), (q_greater, .inl (cI, 21, .inl f_greater)), (q_stops, .inl (cI, 21, .inl f_stops)), (q_beside, .inl (cI, 21, .inl f_beside)), (q_found, .inl (cI, 21, .inl f_found))]) (wr := []) (w2 := [(q, .inr (3, [.ref q_bits, .ref q_lesser, .ref q_greater, .int f_placed, .ref q_stops, .int f_groups, .ref q_beside, .ref q_found])), (q_bits, .inl (cI, 21, .inl f_bits)), (q_lesser, .inl (cI, 21, .inl f_lesser)), (q_greater, .inl (cI, 21, .inl f_greater)), (q_stops, .inl (cI, 21, .inl f_stops)), (q_beside, .inl (cI, 21, .inl f_beside)), (q_found, .inl (cI, 21, .inl f_found))]) (va_runS (As := [.ref q, .int (x7_3 + 1), .int a2, .long v8_10, .int a5, .int a6]) (rest := [.int 3]) ⟨hx, hb, hml, hown, hts⟩ (k_X3_waysFrom l D cI cC cN N 24 q q_bits q_lesser q_greater q_stops q_beside q_found H.size f_bits f_lesser f_greater f_placed f_stops f_groups f_beside f_found (x7_3 + 1) a2 v8_10 a5 a6 r_11 h_12) (va_cwS 6 hts gX3_groupWays_X3_waysFrom rfl rfl rfl (by decide +kernel) ⟨Nat.le_of_ble_eq_true rfl, Nat.le_of_ble_eq_true rfl⟩) ⟨g_blind, g_pre (hP.sub [0, 1, 5, 6, 2, 3, 4] rfl) hK hN (hD.sub [0, 1, 5, 6, 2, 3, 4] (by decide) rfl)⟩ rfl rfl hl.1 rfl (lv_room (Nat.le_of_ble_eq_true rfl)) dX3_groupWays_101 ⟨Nat.zero_le _, Nat.zero_le _⟩) hP hD hS hA [0, 1, 5, 6, 2, 3, 4] [] rfl rfl (by decide) (by decide) rfl (fun H locs hP hD hS => ?_)
        refine lv_imul hx hb dX3_groupWays_104 ?_
        have z1 := so_use hm
        subst z1
        exact hret _ _ _ _ _ dX3_groupWays_105 rfl rfl hP hD hS
      · have hm := if_f _ hc hm
        refine lv_iconst (v := 1) hx hb dX3_groupWays_60 (by decide) ?_
        have z1 := so_use hm
        subst z1
        exact hret _ _ _ _ _ dX3_groupWays_61 rfl rfl hP hD hS
    have l27 : ∀ (n_27 : Nat) (x7_13 : Int32), ∀ (H : Heap) (locs : List Loc) (ls : Array Slot), va_P D vwCl [(q, .inr (3, [.ref q_bits, .ref q_lesser, .ref q_greater, .int f_placed, .ref q_stops, .int f_groups, .ref q_beside, .ref q_found])), (q_bits, .inl (cI, 21, .inl f_bits)), (q_lesser, .inl (cI, 21, .inl f_lesser)), (q_greater, .inl (cI, 21, .inl f_greater)), (q_stops, .inl (cI, 21, .inl f_stops)), (q_beside, .inl (cI, 21, .inl f_beside)), (q_found, .inl (cI, 21, .inl f_found))] H → va_D A [(q, .inr (3, [.ref q_bits, .ref q_lesser, .ref q_greater, .int f_placed, .ref q_stops, .int f_groups, .ref q_beside, .ref q_found])), (q_bits, .inl (cI, 21, .inl f_bits)), (q_lesser, .inl (cI, 21, .inl f_lesser)), (q_greater, .inl (cI, 21, .inl f_greater)), (q_stops, .inl (cI, 21, .inl f_stops)), (q_beside, .inl (cI, 21, .inl f_beside)), (q_found, .inl (cI, 21, .inl f_found))] → va_S A s.heap H locs → lv_has ls 10 [(7, .int x7_13), (0, .ref q), (2, .int a2), (3, .long a3), (5, .int a5), (6, .int a6)] → m_X3_groupWays_L27 N f_bits a2 a5 J54 n_27 x7_13 = some r → W p l e rX3_groupWays s m args below meth c H locs 0 0 Q (F0 m 27 ls []) := by
      intro n_27
      induction n_27 with
      | zero => intro x7_13 H locs ls hP hD hS hl hm; rw [m_X3_groupWays_L27] at hm; exact no_use hm
      | succ n_27 ih27 =>
        intro x7_13 H locs ls hP hD hS hl hm
        rw [m_X3_groupWays_L27] at hm
        refine lv_iload hx hb dX3_groupWays_27 (lv_at hl 0 rfl) ?_
        refine lv_iload_n hx hb dX3_groupWays_29 rfl (lv_at hl 2 rfl) ?_
        refine lv_icmp_ge (tgt := 54) hx hb dX3_groupWays_30 (by decide) (fun hc => ?_) (fun hc => ?_)
        · have hm := if_t _ hc hm
          exact j54 x7_13 _ _ _ hP hD hS hl hm
        · have hm := if_f _ hc hm
          refine lv_aload_n hx hb dX3_groupWays_33 rfl (lv_at hl 1 rfl) ?_
          refine va_get (D := D) (ci := 3) (v := .ref q_bits) (C := RX3) (T := TX3) (N := 8) hx hb hts (by decide +kernel) hown hK hP 0 rfl rfl 0 (by decide) (hts (.fieldLink RX3 9 "KnotStripes$Painter" "bits" "[I") (by decide +kernel)) (fun _ h9 => h9) rfl dX3_groupWays_34 ?_
          refine lv_iload hx hb dX3_groupWays_37 (lv_at hl 0 rfl) ?_
          obtain ⟨r_14, h_15, hm⟩ := bind_use hm
          refine g_ki (wc := [(q_bits, .inl (cI, 21, .inl f_bits))]) (wr := [(q, .inr (3, [.ref q_bits, .ref q_lesser, .ref q_greater, .int f_placed, .ref q_stops, .int f_groups, .ref q_beside, .ref q_found])), (q_lesser, .inl (cI, 21, .inl f_lesser)), (q_greater, .inl (cI, 21, .inl f_greater)), (q_stops, .inl (cI, 21, .inl f_stops)), (q_beside, .inl (cI, 21, .inl f_beside)), (q_found, .inl (cI, 21, .inl f_found))]) (w2 := [(q, .inr (3, [.ref q_bits, .ref q_lesser, .ref q_greater, .int f_placed, .ref q_stops, .int f_groups, .ref q_beside, .ref q_found])), (q_lesser, .inl (cI, 21, .inl f_lesser)), (q_greater, .inl (cI, 21, .inl f_greater)), (q_stops, .inl (cI, 21, .inl f_stops)), (q_beside, .inl (cI, 21, .inl f_beside)), (q_found, .inl (cI, 21, .inl f_found)), (q_bits, .inl (cI, 21, .inl f_bits))]) (va_runSN (As := [.ref q_bits, .int x7_13]) (rest := []) ⟨hx, hb, hml, hown, hts⟩ (k_X6_at l D cI cC cN N q_bits 21 H.size f_bits x7_13 r_14 h_15) ⟨va_cnB 2 hts gX3_groupWays_X6_at_n37 rfl rfl rfl (hN (.methodLinkNest RX3 37 yX6_at RX6) (by decide +kernel)) (hts (.initialized RX6) (by decide +kernel)) (by decide +kernel) ⟨Nat.le_of_ble_eq_true rfl, Nat.le_of_ble_eq_true rfl⟩, hts (.static yX6_at) (by decide +kernel), trivial⟩ ⟨g_blind, g_pre (hP.sub [1] rfl) hK hN (hD.sub [1] (by decide) rfl)⟩ rfl rfl hl.1 rfl (lv_room (Nat.le_of_ble_eq_true rfl)) dX3_groupWays_39 ⟨Nat.zero_le _, Nat.zero_le _⟩) hP hD hS hA [1] [0, 2, 3, 4, 5, 6] rfl rfl (by decide) (by decide) rfl (fun H locs hP hD hS => ?_)
          refine lv_iload hx hb dX3_groupWays_42 (lv_at hl 4 rfl) ?_
          refine lv_iand hx hb dX3_groupWays_44 ?_
          refine lv_if_eq (tgt := 54) hx hb dX3_groupWays_45 (by decide) (fun hc => ?_) (fun hc => ?_)
          · have hm := if_t _ hc hm
            exact j54 x7_13 _ _ _ (hP.sub [0, 6, 1, 2, 3, 4, 5] rfl) (hD.sub [0, 6, 1, 2, 3, 4, 5] (by decide) rfl) hS hl hm
          · have hm := if_f _ hc hm
            refine lv_iinc (v := (x7_13 + 1)) (lv' := [(7, .int (x7_13 + 1)), (0, .ref q), (2, .int a2), (3, .long a3), (5, .int a5), (6, .int a6)]) hx hb dX3_groupWays_48 hl (k := 0) rfl rfl (by decide) rfl (fun ls hl => ?_)
            refine lv_goto (tgt := 27) hx hb dX3_groupWays_51 (by decide) ?_
            exact ih27 (x7_13 + 1) _ _ _ (hP.sub [0, 6, 1, 2, 3, 4, 5] rfl) (hD.sub [0, 6, 1, 2, 3, 4, 5] (by decide) rfl) hS hl hm
    exact l27 N a1 _ _ _ hP hD hS (lv_sub hl [0, 1, 3, 4, 5, 6] rfl) hm
  · have hm := if_t _ hc hm
    refine lv_aload_n hx hb dX3_groupWays_12 rfl (lv_at hl 0 rfl) ?_
    refine lv_iload_n hx hb dX3_groupWays_13 rfl (lv_at hl 1 rfl) ?_
    refine lv_iload_n hx hb dX3_groupWays_14 rfl (lv_at hl 2 rfl) ?_
    refine lv_lload_n hx hb dX3_groupWays_15 rfl (lv_at hl 3 rfl) ?_
    refine lv_iload hx hb dX3_groupWays_16 (lv_at hl 4 rfl) ?_
    refine lv_iload hx hb dX3_groupWays_18 (lv_at hl 5 rfl) ?_
    obtain ⟨r_16, h_17, hm⟩ := bind_use hm
    refine g_ki (wc := [(q, .inr (3, [.ref q_bits, .ref q_lesser, .ref q_greater, .int f_placed, .ref q_stops, .int f_groups, .ref q_beside, .ref q_found])), (q_bits, .inl (cI, 21, .inl f_bits)), (q_lesser, .inl (cI, 21, .inl f_lesser)), (q_greater, .inl (cI, 21, .inl f_greater)), (q_stops, .inl (cI, 21, .inl f_stops)), (q_beside, .inl (cI, 21, .inl f_beside)), (q_found, .inl (cI, 21, .inl f_found))]) (wr := []) (w2 := [(q, .inr (3, [.ref q_bits, .ref q_lesser, .ref q_greater, .int f_placed, .ref q_stops, .int f_groups, .ref q_beside, .ref q_found])), (q_bits, .inl (cI, 21, .inl f_bits)), (q_lesser, .inl (cI, 21, .inl f_lesser)), (q_greater, .inl (cI, 21, .inl f_greater)), (q_stops, .inl (cI, 21, .inl f_stops)), (q_beside, .inl (cI, 21, .inl f_beside)), (q_found, .inl (cI, 21, .inl f_found))]) (va_runS (As := [.ref q, .int a1, .int a2, .long a3, .int a5, .int a6]) (rest := []) ⟨hx, hb, hml, hown, hts⟩ (k_X3_waysFrom l D cI cC cN N 24 q q_bits q_lesser q_greater q_stops q_beside q_found H.size f_bits f_lesser f_greater f_placed f_stops f_groups f_beside f_found a1 a2 a3 a5 a6 r_16 h_17) (va_cwS 6 hts gX3_groupWays_X3_waysFrom rfl rfl rfl (by decide +kernel) ⟨Nat.le_of_ble_eq_true rfl, Nat.le_of_ble_eq_true rfl⟩) ⟨g_blind, g_pre (hP.sub [0, 1, 2, 3, 4, 5, 6] rfl) hK hN (hD.sub [0, 1, 2, 3, 4, 5, 6] (by decide) rfl)⟩ rfl rfl hl.1 rfl (lv_room (Nat.le_of_ble_eq_true rfl)) dX3_groupWays_20 ⟨Nat.zero_le _, Nat.zero_le _⟩) hP hD hS hA [0, 1, 2, 3, 4, 5, 6] [] rfl rfl (by decide) (by decide) rfl (fun H locs hP hD hS => ?_)
    have z1 := so_use hm
    subst z1
    exact hret _ _ _ _ _ dX3_groupWays_23 rfl rfl hP hD hS
abbrev rX3_ways : Room := { frames := 27, cells := 0, slots := 0, locals := 877 }
set_option maxHeartbeats 4000000 in
set_option maxRecDepth 100000 in
theorem k_X3_ways (l : Launch) (D : va_G) (cI cC cN : ClassId) (N : Nat) (q : Nat) (q_bits : Nat) (q_lesser : Nat) (q_greater : Nat) (q_stops : Nat) (q_beside : Nat) (q_found : Nat) (sz : Nat) (f_bits : Nat → Int32) (f_lesser : Nat → Int32) (f_greater : Nat → Int32) (f_placed : Int32) (f_stops : Nat → Int32) (f_groups : Int32) (f_beside : Nat → Int32) (f_found : Nat → Int32) (a1 : Int64) (a3 : Int32) (a4 : Int32) (r : Int32) (hm : m_X3_ways N f_bits f_lesser f_greater f_stops f_groups a1 a3 a4 = some r) : Met l yX3_ways wsX3_ways (rX3_ways) (gPc D (tysG cI cC cN) [.ref q, .long a1, .int a3, .int a4] [(q, .inr (3, [.ref q_bits, .ref q_lesser, .ref q_greater, .int f_placed, .ref q_stops, .int f_groups, .ref q_beside, .ref q_found])), (q_bits, .inl (cI, 21, .inl f_bits)), (q_lesser, .inl (cI, 21, .inl f_lesser)), (q_greater, .inl (cI, 21, .inl f_greater)), (q_stops, .inl (cI, 21, .inl f_stops)), (q_beside, .inl (cI, 21, .inl f_beside)), (q_found, .inl (cI, 21, .inl f_found))] sz) (gQi D (tysG cI cC cN) (va_A [(q, .inr (3, [.ref q_bits, .ref q_lesser, .ref q_greater, .int f_placed, .ref q_stops, .int f_groups, .ref q_beside, .ref q_found])), (q_bits, .inl (cI, 21, .inl f_bits)), (q_lesser, .inl (cI, 21, .inl f_lesser)), (q_greater, .inl (cI, 21, .inl f_greater)), (q_stops, .inl (cI, 21, .inl f_stops)), (q_beside, .inl (cI, 21, .inl f_beside)), (q_found, .inl (cI, 21, .inl f_found))] sz) [(q, .inr (3, [.ref q_bits, .ref q_lesser, .ref q_greater, .int f_placed, .ref q_stops, .int f_groups, .ref q_beside, .ref q_found])), (q_bits, .inl (cI, 21, .inl f_bits)), (q_lesser, .inl (cI, 21, .inl f_lesser)), (q_greater, .inl (cI, 21, .inl f_greater)), (q_stops, .inl (cI, 21, .inl f_stops)), (q_beside, .inl (cI, 21, .inl f_beside)), (q_found, .inl (cI, 21, .inl f_found))] r) 0 0 (va_A [(q, .inr (3, [.ref q_bits, .ref q_lesser, .ref q_greater, .int f_placed, .ref q_stops, .int f_groups, .ref q_beside, .ref q_found])), (q_bits, .inl (cI, 21, .inl f_bits)), (q_lesser, .inl (cI, 21, .inl f_lesser)), (q_greater, .inl (cI, 21, .inl f_greater)), (q_stops, .inl (cI, 21, .inl f_stops)), (q_beside, .inl (cI, 21, .inl f_beside)), (q_found, .inl (cI, 21, .inl f_found))] sz) := by
  unfold m_X3_ways at hm
  refine g_openI (cc := cX3_ways) (maxL := 9) (own := RX3) (by decide) rfl rfl (Nat.le_of_ble_eq_true rfl) ?_
  intro p e s m args below meth c A Q hx hb hml hown hts hP hK hN hD hA hret ls hl
  have hS : va_S A s.heap s.heap [] := va_S.rf
  have hl : lv_has ls 9 [(0, .ref q), (1, .long a1), (3, .int a3), (4, .int a4)] := hl
  refine lv_iconst (v := 1) hx hb dX3_ways_0 (by decide) ?_
  refine lv_istore (lv' := [(5, .int 1), (0, .ref q), (1, .long a1), (3, .int a3), (4, .int a4)]) hx hb dX3_ways_1 hl (by decide) rfl (fun ls hl => ?_)
  refine lv_iconst (v := 0) hx hb dX3_ways_3 (by decide) ?_
  refine lv_istore (lv' := [(6, .int 0), (5, .int 1), (0, .ref q), (1, .long a1), (3, .int a3), (4, .int a4)]) hx hb dX3_ways_4 hl (by decide) rfl (fun ls hl => ?_)
  refine lv_iconst (v := 0) hx hb dX3_ways_6 (by decide) ?_
  refine lv_istore (lv' := [(7, .int 0), (6, .int 0), (5, .int 1), (0, .ref q), (1, .long a1), (3, .int a3), (4, .int a4)]) hx hb dX3_ways_7 hl (by decide) rfl (fun ls hl => ?_)
  have l9 : ∀ (n_9 : Nat) (x7_1 : Int32) (x6_2 : Int32) (x5_3 : Int32), ∀ (H : Heap) (locs : List Loc) (ls : Array Slot), va_P D vwCl [(q, .inr (3, [.ref q_bits, .ref q_lesser, .ref q_greater, .int f_placed, .ref q_stops, .int f_groups, .ref q_beside, .ref q_found])), (q_bits, .inl (cI, 21, .inl f_bits)), (q_lesser, .inl (cI, 21, .inl f_lesser)), (q_greater, .inl (cI, 21, .inl f_greater)), (q_stops, .inl (cI, 21, .inl f_stops)), (q_beside, .inl (cI, 21, .inl f_beside)), (q_found, .inl (cI, 21, .inl f_found))] H → va_D A [(q, .inr (3, [.ref q_bits, .ref q_lesser, .ref q_greater, .int f_placed, .ref q_stops, .int f_groups, .ref q_beside, .ref q_found])), (q_bits, .inl (cI, 21, .inl f_bits)), (q_lesser, .inl (cI, 21, .inl f_lesser)), (q_greater, .inl (cI, 21, .inl f_greater)), (q_stops, .inl (cI, 21, .inl f_stops)), (q_beside, .inl (cI, 21, .inl f_beside)), (q_found, .inl (cI, 21, .inl f_found))] → va_S A s.heap H locs → lv_has ls 9 [(7, .int x7_1), (6, .int x6_2), (5, .int x5_3), (0, .ref q), (1, .long a1), (3, .int a3), (4, .int a4)] → m_X3_ways_L9 N f_bits f_lesser f_greater f_stops f_groups a1 a3 a4 n_9 x7_1 x6_2 x5_3 = some r → W p l e rX3_ways s m args below meth c H locs 0 0 Q (F0 m 9 ls []) := by
    intro n_9
    induction n_9 with
    | zero => intro x7_1 x6_2 x5_3 H locs ls hP hD hS hl hm; rw [m_X3_ways_L9] at hm; exact no_use hm
    | succ n_9 ih9 =>
      intro x7_1 x6_2 x5_3 H locs ls hP hD hS hl hm
      rw [m_X3_ways_L9] at hm
      refine lv_iload hx hb dX3_ways_9 (lv_at hl 0 rfl) ?_
      refine lv_aload_n hx hb dX3_ways_11 rfl (lv_at hl 3 rfl) ?_
      refine va_get (D := D) (ci := 3) (v := .int f_groups) (C := RX3) (T := TX3) (N := 8) hx hb hts (by decide +kernel) hown hK hP 0 rfl rfl 5 (by decide) (hts (.fieldLink RX3 34 "KnotStripes$Painter" "groups" "I") (by decide +kernel)) (fun _ h9 => h9) rfl dX3_ways_12 ?_
      refine lv_icmp_ge (tgt := 61) hx hb dX3_ways_15 (by decide) (fun hc => ?_) (fun hc => ?_)
      · have hm := if_t _ hc hm
        refine lv_iload hx hb dX3_ways_61 (lv_at hl 2 rfl) ?_
        have z1 := so_use hm
        subst z1
        exact hret _ _ _ _ _ dX3_ways_63 rfl rfl hP hD hS
      · have hm := if_f _ hc hm
        refine lv_iload hx hb dX3_ways_18 (lv_at hl 2 rfl) ?_
        refine lv_if_le (tgt := 61) hx hb dX3_ways_20 (by decide) (fun hc => ?_) (fun hc => ?_)
        · have hm := if_t _ hc hm
          refine lv_iload hx hb dX3_ways_61 (lv_at hl 2 rfl) ?_
          have z1 := so_use hm
          subst z1
          exact hret _ _ _ _ _ dX3_ways_63 rfl rfl hP hD hS
        · have hm := if_f _ hc hm
          refine lv_aload_n hx hb dX3_ways_23 rfl (lv_at hl 3 rfl) ?_
          refine va_get (D := D) (ci := 3) (v := .ref q_stops) (C := RX3) (T := TX3) (N := 8) hx hb hts (by decide +kernel) hown hK hP 0 rfl rfl 4 (by decide) (hts (.fieldLink RX3 21 "KnotStripes$Painter" "stops" "[I") (by decide +kernel)) (fun _ h9 => h9) rfl dX3_ways_24 ?_
          refine lv_iload hx hb dX3_ways_27 (lv_at hl 0 rfl) ?_
          obtain ⟨r_4, h_5, hm⟩ := bind_use hm
          refine g_ki (wc := [(q_stops, .inl (cI, 21, .inl f_stops))]) (wr := [(q, .inr (3, [.ref q_bits, .ref q_lesser, .ref q_greater, .int f_placed, .ref q_stops, .int f_groups, .ref q_beside, .ref q_found])), (q_bits, .inl (cI, 21, .inl f_bits)), (q_lesser, .inl (cI, 21, .inl f_lesser)), (q_greater, .inl (cI, 21, .inl f_greater)), (q_beside, .inl (cI, 21, .inl f_beside)), (q_found, .inl (cI, 21, .inl f_found))]) (w2 := [(q, .inr (3, [.ref q_bits, .ref q_lesser, .ref q_greater, .int f_placed, .ref q_stops, .int f_groups, .ref q_beside, .ref q_found])), (q_bits, .inl (cI, 21, .inl f_bits)), (q_lesser, .inl (cI, 21, .inl f_lesser)), (q_greater, .inl (cI, 21, .inl f_greater)), (q_beside, .inl (cI, 21, .inl f_beside)), (q_found, .inl (cI, 21, .inl f_found)), (q_stops, .inl (cI, 21, .inl f_stops))]) (va_runSN (As := [.ref q_stops, .int x7_1]) (rest := []) ⟨hx, hb, hml, hown, hts⟩ (k_X6_at l D cI cC cN N q_stops 21 H.size f_stops x7_1 r_4 h_5) ⟨va_cnB 2 hts gX3_ways_X6_at_n37 rfl rfl rfl (hN (.methodLinkNest RX3 37 yX6_at RX6) (by decide +kernel)) (hts (.initialized RX6) (by decide +kernel)) (by decide +kernel) ⟨Nat.le_of_ble_eq_true rfl, Nat.le_of_ble_eq_true rfl⟩, hts (.static yX6_at) (by decide +kernel), trivial⟩ ⟨g_blind, g_pre (hP.sub [4] rfl) hK hN (hD.sub [4] (by decide) rfl)⟩ rfl rfl hl.1 rfl (lv_room (Nat.le_of_ble_eq_true rfl)) dX3_ways_29 ⟨Nat.zero_le _, Nat.zero_le _⟩) hP hD hS hA [4] [0, 1, 2, 3, 5, 6] rfl rfl (by decide) (by decide) rfl (fun H locs hP hD hS => ?_)
          refine lv_istore (lv' := [(8, .int r_4), (7, .int x7_1), (6, .int x6_2), (5, .int x5_3), (0, .ref q), (1, .long a1), (3, .int a3), (4, .int a4)]) hx hb dX3_ways_32 hl (by decide) rfl (fun ls hl => ?_)
          refine lv_iload hx hb dX3_ways_34 (lv_at hl 3 rfl) ?_
          refine lv_aload_n hx hb dX3_ways_36 rfl (lv_at hl 4 rfl) ?_
          refine lv_iload hx hb dX3_ways_37 (lv_at hl 2 rfl) ?_
          refine lv_iload hx hb dX3_ways_39 (lv_at hl 0 rfl) ?_
          refine lv_lload_n hx hb dX3_ways_41 rfl (lv_at hl 5 rfl) ?_
          refine lv_iload_n hx hb dX3_ways_42 rfl (lv_at hl 6 rfl) ?_
          refine lv_iload hx hb dX3_ways_43 (lv_at hl 7 rfl) ?_
          obtain ⟨r_6, h_7, hm⟩ := bind_use hm
          refine g_ki (wc := [(q, .inr (3, [.ref q_bits, .ref q_lesser, .ref q_greater, .int f_placed, .ref q_stops, .int f_groups, .ref q_beside, .ref q_found])), (q_bits, .inl (cI, 21, .inl f_bits)), (q_lesser, .inl (cI, 21, .inl f_lesser)), (q_greater, .inl (cI, 21, .inl f_greater)), (q_stops, .inl (cI, 21, .inl f_stops)), (q_beside, .inl (cI, 21, .inl f_beside)), (q_found, .inl (cI, 21, .inl f_found))]) (wr := []) (w2 := [(q, .inr (3, [.ref q_bits, .ref q_lesser, .ref q_greater, .int f_placed, .ref q_stops, .int f_groups, .ref q_beside, .ref q_found])), (q_bits, .inl (cI, 21, .inl f_bits)), (q_lesser, .inl (cI, 21, .inl f_lesser)), (q_greater, .inl (cI, 21, .inl f_greater)), (q_stops, .inl (cI, 21, .inl f_stops)), (q_beside, .inl (cI, 21, .inl f_beside)), (q_found, .inl (cI, 21, .inl f_found))]) (va_runV (As := [.int x6_2, .int r_4, .long a1, .int a3, .int a4]) (rest := [.int x5_3]) ⟨hx, hb, hml, hown, hts⟩ (k_X3_groupWays l D cI cC cN N q q_bits q_lesser q_greater q_stops q_beside q_found H.size f_bits f_lesser f_greater f_placed f_stops f_groups f_beside f_found x6_2 r_4 a1 a3 a4 r_6 h_7) (cwV 5 hts gX3_ways_X3_groupWays rfl rfl rfl (by decide +kernel) ⟨Nat.le_of_ble_eq_true rfl, Nat.le_of_ble_eq_true rfl⟩) ⟨g_blind, va_recv (D := D) (ci := 3) (q0 := 0) hK hP rfl rfl, g_pre (hP.sub [0, 1, 2, 3, 6, 4, 5] rfl) hK hN (hD.sub [0, 1, 2, 3, 6, 4, 5] (by decide) rfl)⟩ rfl rfl hl.1 rfl (lv_room (Nat.le_of_ble_eq_true rfl)) dX3_ways_45 ⟨Nat.zero_le _, Nat.zero_le _⟩) hP hD hS hA [0, 1, 2, 3, 6, 4, 5] [] rfl rfl (by decide) (by decide) rfl (fun H locs hP hD hS => ?_)
          refine lv_imul hx hb dX3_ways_48 ?_
          refine lv_topi (fun v5_8 ev5_8 => ?_)
          have hm := nm_use ev5_8 hm
          refine lv_istore (lv' := [(5, .int v5_8), (8, .int r_4), (7, .int x7_1), (6, .int x6_2), (0, .ref q), (1, .long a1), (3, .int a3), (4, .int a4)]) hx hb dX3_ways_49 hl (by decide) rfl (fun ls hl => ?_)
          refine lv_iload hx hb dX3_ways_51 (lv_at hl 1 rfl) ?_
          refine lv_istore (lv' := [(6, .int r_4), (5, .int v5_8), (8, .int r_4), (7, .int x7_1), (0, .ref q), (1, .long a1), (3, .int a3), (4, .int a4)]) hx hb dX3_ways_53 hl (by decide) rfl (fun ls hl => ?_)
          refine lv_iinc (v := (x7_1 + 1)) (lv' := [(7, .int (x7_1 + 1)), (6, .int r_4), (5, .int v5_8), (8, .int r_4), (0, .ref q), (1, .long a1), (3, .int a3), (4, .int a4)]) hx hb dX3_ways_55 hl (k := 3) rfl rfl (by decide) rfl (fun ls hl => ?_)
          refine lv_goto (tgt := 9) hx hb dX3_ways_58 (by decide) ?_
          exact ih9 (x7_1 + 1) r_4 v5_8 _ _ _ hP hD hS (lv_sub hl [0, 1, 2, 4, 5, 6, 7] rfl) hm
  exact l9 N 0 0 1 _ _ _ hP hD hS hl hm
abbrev rX3_isPaintable : Room := { frames := 28, cells := 0, slots := 0, locals := 905 }
set_option maxHeartbeats 4000000 in
set_option maxRecDepth 100000 in
theorem k_X3_isPaintable (l : Launch) (D : va_G) (cI cC cN : ClassId) (N : Nat) (q : Nat) (q_bits : Nat) (q_lesser : Nat) (q_greater : Nat) (q_stops : Nat) (q_beside : Nat) (q_found : Nat) (q_p0 : Nat) (q_p0_ends : Nat) (q_p0_colours : Nat) (sz : Nat) (f_bits : Nat → Int32) (f_lesser : Nat → Int32) (f_greater : Nat → Int32) (f_placed : Int32) (f_stops : Nat → Int32) (f_groups : Int32) (f_beside : Nat → Int32) (f_found : Nat → Int32) (f_p0_knots : Int32) (f_p0_threads : Int32) (f_p0_ends : Nat → Int32) (f_p0_colours : Nat → Int32) (r : Int32) (f_bits' : Nat → Int32) (f_lesser' : Nat → Int32) (f_greater' : Nat → Int32) (f_placed' : Int32) (f_stops' : Nat → Int32) (f_groups' : Int32) (f_beside' : Nat → Int32) (hm : m_X3_isPaintable N f_bits f_lesser f_greater f_placed f_stops f_groups f_beside f_p0_threads f_p0_ends = some (r, f_bits', f_lesser', f_greater', f_placed', f_stops', f_groups', f_beside')) : Met l yX3_isPaintable wsX3_isPaintable (rX3_isPaintable) (gPc D (tysG cI cC cN) [.ref q, .ref q_p0] [(q, .inr (3, [.ref q_bits, .ref q_lesser, .ref q_greater, .int f_placed, .ref q_stops, .int f_groups, .ref q_beside, .ref q_found])), (q_bits, .inl (cI, 21, .inl f_bits)), (q_lesser, .inl (cI, 21, .inl f_lesser)), (q_greater, .inl (cI, 21, .inl f_greater)), (q_stops, .inl (cI, 21, .inl f_stops)), (q_beside, .inl (cI, 21, .inl f_beside)), (q_found, .inl (cI, 21, .inl f_found)), (q_p0, .inr (2, [.int f_p0_knots, .int f_p0_threads, .ref q_p0_ends, .ref q_p0_colours])), (q_p0_ends, .inl (cI, 21, .inl f_p0_ends)), (q_p0_colours, .inl (cI, 21, .inl f_p0_colours))] sz) (gQi D (tysG cI cC cN) (va_A [(q, .inr (3, [.ref q_bits, .ref q_lesser, .ref q_greater, .int f_placed, .ref q_stops, .int f_groups, .ref q_beside, .ref q_found])), (q_bits, .inl (cI, 21, .inl f_bits)), (q_lesser, .inl (cI, 21, .inl f_lesser)), (q_greater, .inl (cI, 21, .inl f_greater)), (q_stops, .inl (cI, 21, .inl f_stops)), (q_beside, .inl (cI, 21, .inl f_beside)), (q_found, .inl (cI, 21, .inl f_found)), (q_p0, .inr (2, [.int f_p0_knots, .int f_p0_threads, .ref q_p0_ends, .ref q_p0_colours])), (q_p0_ends, .inl (cI, 21, .inl f_p0_ends)), (q_p0_colours, .inl (cI, 21, .inl f_p0_colours))] sz) [(q, .inr (3, [.ref q_bits, .ref q_lesser, .ref q_greater, .int f_placed', .ref q_stops, .int f_groups', .ref q_beside, .ref q_found])), (q_bits, .inl (cI, 21, .inl f_bits')), (q_lesser, .inl (cI, 21, .inl f_lesser')), (q_greater, .inl (cI, 21, .inl f_greater')), (q_stops, .inl (cI, 21, .inl f_stops')), (q_beside, .inl (cI, 21, .inl f_beside')), (q_found, .inl (cI, 21, .inl f_found)), (q_p0, .inr (2, [.int f_p0_knots, .int f_p0_threads, .ref q_p0_ends, .ref q_p0_colours])), (q_p0_ends, .inl (cI, 21, .inl f_p0_ends)), (q_p0_colours, .inl (cI, 21, .inl f_p0_colours))] r) 0 0 (va_A [(q, .inr (3, [.ref q_bits, .ref q_lesser, .ref q_greater, .int f_placed, .ref q_stops, .int f_groups, .ref q_beside, .ref q_found])), (q_bits, .inl (cI, 21, .inl f_bits)), (q_lesser, .inl (cI, 21, .inl f_lesser)), (q_greater, .inl (cI, 21, .inl f_greater)), (q_stops, .inl (cI, 21, .inl f_stops)), (q_beside, .inl (cI, 21, .inl f_beside)), (q_found, .inl (cI, 21, .inl f_found)), (q_p0, .inr (2, [.int f_p0_knots, .int f_p0_threads, .ref q_p0_ends, .ref q_p0_colours])), (q_p0_ends, .inl (cI, 21, .inl f_p0_ends)), (q_p0_colours, .inl (cI, 21, .inl f_p0_colours))] sz) := by
  unfold m_X3_isPaintable at hm
  refine g_openI (cc := cX3_isPaintable) (maxL := 2) (own := RX3) (by decide) rfl rfl (Nat.le_of_ble_eq_true rfl) ?_
  intro p e s m args below meth c A Q hx hb hml hown hts hP hK hN hD hA hret ls hl
  have hS : va_S A s.heap s.heap [] := va_S.rf
  have hl : lv_has ls 2 [(0, .ref q), (1, .ref q_p0)] := hl
  refine lv_aload_n hx hb dX3_isPaintable_0 rfl (lv_at hl 0 rfl) ?_
  refine lv_aload_n hx hb dX3_isPaintable_1 rfl (lv_at hl 1 rfl) ?_
  refine lv_aload_n hx hb dX3_isPaintable_2 rfl (lv_at hl 1 rfl) ?_
  obtain ⟨r_1, h_2, hm⟩ := bind_use hm
  refine g_ki (wc := [(q_p0, .inr (2, [.int f_p0_knots, .int f_p0_threads, .ref q_p0_ends, .ref q_p0_colours])), (q_p0_ends, .inl (cI, 21, .inl f_p0_ends)), (q_p0_colours, .inl (cI, 21, .inl f_p0_colours))]) (wr := [(q, .inr (3, [.ref q_bits, .ref q_lesser, .ref q_greater, .int f_placed, .ref q_stops, .int f_groups, .ref q_beside, .ref q_found])), (q_bits, .inl (cI, 21, .inl f_bits)), (q_lesser, .inl (cI, 21, .inl f_lesser)), (q_greater, .inl (cI, 21, .inl f_greater)), (q_stops, .inl (cI, 21, .inl f_stops)), (q_beside, .inl (cI, 21, .inl f_beside)), (q_found, .inl (cI, 21, .inl f_found))]) (w2 := [(q, .inr (3, [.ref q_bits, .ref q_lesser, .ref q_greater, .int f_placed, .ref q_stops, .int f_groups, .ref q_beside, .ref q_found])), (q_bits, .inl (cI, 21, .inl f_bits)), (q_lesser, .inl (cI, 21, .inl f_lesser)), (q_greater, .inl (cI, 21, .inl f_greater)), (q_stops, .inl (cI, 21, .inl f_stops)), (q_beside, .inl (cI, 21, .inl f_beside)), (q_found, .inl (cI, 21, .inl f_found)), (q_p0, .inr (2, [.int f_p0_knots, .int f_p0_threads, .ref q_p0_ends, .ref q_p0_colours])), (q_p0_ends, .inl (cI, 21, .inl f_p0_ends)), (q_p0_colours, .inl (cI, 21, .inl f_p0_colours))]) (va_runV (As := []) (rest := [.ref q_p0, .ref q]) ⟨hx, hb, hml, hown, hts⟩ (k_X2_allThreads l D cI cC cN N q_p0 q_p0_ends q_p0_colours s.heap.size f_p0_knots f_p0_threads f_p0_ends f_p0_colours r_1 h_2) (cwV 0 hts gX3_isPaintable_X2_allThreads rfl rfl rfl (by decide +kernel) ⟨Nat.le_of_ble_eq_true rfl, Nat.le_of_ble_eq_true rfl⟩) ⟨g_blind, va_recv (D := D) (ci := 2) (q0 := 7) hK hP rfl rfl, g_pre (hP.sub [7, 8, 9] rfl) hK hN (hD.sub [7, 8, 9] (by decide) rfl)⟩ rfl rfl hl.1 rfl (lv_room (Nat.le_of_ble_eq_true rfl)) dX3_isPaintable_3 ⟨Nat.zero_le _, Nat.zero_le _⟩) hP hD hS hA [7, 8, 9] [0, 1, 2, 3, 4, 5, 6] rfl rfl (by decide) (by decide) rfl (fun H locs hP hD hS => ?_)
  obtain ⟨⟨f_bits_3, f_lesser_4, f_greater_5, f_placed_6, f_stops_7, f_groups_8, f_beside_9⟩, h_10, hm⟩ := bind_use hm
  refine g_kv (wc := [(q, .inr (3, [.ref q_bits, .ref q_lesser, .ref q_greater, .int f_placed, .ref q_stops, .int f_groups, .ref q_beside, .ref q_found])), (q_bits, .inl (cI, 21, .inl f_bits)), (q_lesser, .inl (cI, 21, .inl f_lesser)), (q_greater, .inl (cI, 21, .inl f_greater)), (q_stops, .inl (cI, 21, .inl f_stops)), (q_beside, .inl (cI, 21, .inl f_beside)), (q_found, .inl (cI, 21, .inl f_found)), (q_p0, .inr (2, [.int f_p0_knots, .int f_p0_threads, .ref q_p0_ends, .ref q_p0_colours])), (q_p0_ends, .inl (cI, 21, .inl f_p0_ends)), (q_p0_colours, .inl (cI, 21, .inl f_p0_colours))]) (wr := []) (w2 := [(q, .inr (3, [.ref q_bits, .ref q_lesser, .ref q_greater, .int f_placed_6, .ref q_stops, .int f_groups_8, .ref q_beside, .ref q_found])), (q_bits, .inl (cI, 21, .inl f_bits_3)), (q_lesser, .inl (cI, 21, .inl f_lesser_4)), (q_greater, .inl (cI, 21, .inl f_greater_5)), (q_stops, .inl (cI, 21, .inl f_stops_7)), (q_beside, .inl (cI, 21, .inl f_beside_9)), (q_found, .inl (cI, 21, .inl f_found)), (q_p0, .inr (2, [.int f_p0_knots, .int f_p0_threads, .ref q_p0_ends, .ref q_p0_colours])), (q_p0_ends, .inl (cI, 21, .inl f_p0_ends)), (q_p0_colours, .inl (cI, 21, .inl f_p0_colours))]) (va_runV (As := [.ref q_p0, .int r_1]) (rest := []) ⟨hx, hb, hml, hown, hts⟩ (k_X3_arrange l D cI cC cN N q q_bits q_lesser q_greater q_stops q_beside q_found q_p0 q_p0_ends q_p0_colours H.size f_bits f_lesser f_greater f_placed f_stops f_groups f_beside f_found f_p0_knots f_p0_threads f_p0_ends f_p0_colours r_1 f_bits_3 f_lesser_4 f_greater_5 f_placed_6 f_stops_7 f_groups_8 f_beside_9 h_10) (cwV 2 hts gX3_isPaintable_X3_arrange rfl rfl rfl (by decide +kernel) ⟨Nat.le_of_ble_eq_true rfl, Nat.le_of_ble_eq_true rfl⟩) ⟨g_blind, va_recv (D := D) (ci := 3) (q0 := 0) hK hP rfl rfl, g_pre (hP.sub [0, 1, 2, 3, 4, 5, 6, 7, 8, 9] rfl) hK hN (hD.sub [0, 1, 2, 3, 4, 5, 6, 7, 8, 9] (by decide) rfl)⟩ rfl rfl hl.1 rfl (lv_room (Nat.le_of_ble_eq_true rfl)) dX3_isPaintable_6 ⟨Nat.zero_le _, Nat.zero_le _⟩) hP hD hS hA [0, 1, 2, 3, 4, 5, 6, 7, 8, 9] [] rfl rfl (by decide) (by decide) rfl (fun H locs hP hD hS => ?_)
  refine lv_aload_n hx hb dX3_isPaintable_9 rfl (lv_at hl 0 rfl) ?_
  refine lv_lconst (v := 0) hx hb dX3_isPaintable_10 rfl ?_
  refine lv_iconst (v := 0) hx hb dX3_isPaintable_11 (by decide) ?_
  refine lv_iconst (v := 1) hx hb dX3_isPaintable_12 (by decide) ?_
  obtain ⟨r_11, h_12, hm⟩ := bind_use hm
  refine g_ki (wc := [(q, .inr (3, [.ref q_bits, .ref q_lesser, .ref q_greater, .int f_placed_6, .ref q_stops, .int f_groups_8, .ref q_beside, .ref q_found])), (q_bits, .inl (cI, 21, .inl f_bits_3)), (q_lesser, .inl (cI, 21, .inl f_lesser_4)), (q_greater, .inl (cI, 21, .inl f_greater_5)), (q_stops, .inl (cI, 21, .inl f_stops_7)), (q_beside, .inl (cI, 21, .inl f_beside_9)), (q_found, .inl (cI, 21, .inl f_found))]) (wr := [(q_p0, .inr (2, [.int f_p0_knots, .int f_p0_threads, .ref q_p0_ends, .ref q_p0_colours])), (q_p0_ends, .inl (cI, 21, .inl f_p0_ends)), (q_p0_colours, .inl (cI, 21, .inl f_p0_colours))]) (w2 := [(q_p0, .inr (2, [.int f_p0_knots, .int f_p0_threads, .ref q_p0_ends, .ref q_p0_colours])), (q_p0_ends, .inl (cI, 21, .inl f_p0_ends)), (q_p0_colours, .inl (cI, 21, .inl f_p0_colours)), (q, .inr (3, [.ref q_bits, .ref q_lesser, .ref q_greater, .int f_placed_6, .ref q_stops, .int f_groups_8, .ref q_beside, .ref q_found])), (q_bits, .inl (cI, 21, .inl f_bits_3)), (q_lesser, .inl (cI, 21, .inl f_lesser_4)), (q_greater, .inl (cI, 21, .inl f_greater_5)), (q_stops, .inl (cI, 21, .inl f_stops_7)), (q_beside, .inl (cI, 21, .inl f_beside_9)), (q_found, .inl (cI, 21, .inl f_found))]) (va_runV (As := [.long 0, .int 0, .int 1]) (rest := []) ⟨hx, hb, hml, hown, hts⟩ (k_X3_ways l D cI cC cN N q q_bits q_lesser q_greater q_stops q_beside q_found H.size f_bits_3 f_lesser_4 f_greater_5 f_placed_6 f_stops_7 f_groups_8 f_beside_9 f_found 0 0 1 r_11 h_12) (cwV 3 hts gX3_isPaintable_X3_ways rfl rfl rfl (by decide +kernel) ⟨Nat.le_of_ble_eq_true rfl, Nat.le_of_ble_eq_true rfl⟩) ⟨g_blind, va_recv (D := D) (ci := 3) (q0 := 0) hK hP rfl rfl, g_pre (hP.sub [0, 1, 2, 3, 4, 5, 6] rfl) hK hN (hD.sub [0, 1, 2, 3, 4, 5, 6] (by decide) rfl)⟩ rfl rfl hl.1 rfl (lv_room (Nat.le_of_ble_eq_true rfl)) dX3_isPaintable_13 ⟨Nat.zero_le _, Nat.zero_le _⟩) hP hD hS hA [0, 1, 2, 3, 4, 5, 6] [7, 8, 9] rfl rfl (by decide) (by decide) rfl (fun H locs hP hD hS => ?_)
  refine lv_if_le (tgt := 23) hx hb dX3_isPaintable_16 (by decide) (fun hc => ?_) (fun hc => ?_)
  · have hm := if_t _ hc hm
    refine lv_iconst (v := 0) hx hb dX3_isPaintable_23 (by decide) ?_
    have z1 := so_use hm
    obtain ⟨y1, z2⟩ := pr_use z1
    obtain ⟨y2, z3⟩ := pr_use z2
    obtain ⟨y3, z4⟩ := pr_use z3
    obtain ⟨y4, z5⟩ := pr_use z4
    obtain ⟨y5, z6⟩ := pr_use z5
    obtain ⟨y6, z7⟩ := pr_use z6
    obtain ⟨y7, z8⟩ := pr_use z7
    subst y1
    subst y2
    subst y3
    subst y4
    subst y5
    subst y6
    subst y7
    subst z8
    exact hret _ _ _ _ _ dX3_isPaintable_24 rfl rfl (hP.sub [3, 4, 5, 6, 7, 8, 9, 0, 1, 2] rfl) (hD.sub [3, 4, 5, 6, 7, 8, 9, 0, 1, 2] (by decide) rfl) hS
  · have hm := if_f _ hc hm
    refine lv_iconst (v := 1) hx hb dX3_isPaintable_19 (by decide) ?_
    refine lv_goto (tgt := 24) hx hb dX3_isPaintable_20 (by decide) ?_
    have z1 := so_use hm
    obtain ⟨y1, z2⟩ := pr_use z1
    obtain ⟨y2, z3⟩ := pr_use z2
    obtain ⟨y3, z4⟩ := pr_use z3
    obtain ⟨y4, z5⟩ := pr_use z4
    obtain ⟨y5, z6⟩ := pr_use z5
    obtain ⟨y6, z7⟩ := pr_use z6
    obtain ⟨y7, z8⟩ := pr_use z7
    subst y1
    subst y2
    subst y3
    subst y4
    subst y5
    subst y6
    subst y7
    subst z8
    exact hret _ _ _ _ _ dX3_isPaintable_24 rfl rfl (hP.sub [3, 4, 5, 6, 7, 8, 9, 0, 1, 2] rfl) (hD.sub [3, 4, 5, 6, 7, 8, 9, 0, 1, 2] (by decide) rfl) hS
abbrev rX3_usedBy : Room := { frames := 1, cells := 0, slots := 0, locals := 22 }
set_option maxHeartbeats 4000000 in
set_option maxRecDepth 100000 in
theorem k_X3_usedBy (l : Launch) (D : va_G) (cI cC cN : ClassId) (N : Nat) (sz : Nat) (a0 : Int32) (a1 : Int32) (r : Int64) (hm : m_X3_usedBy N a0 a1 = some r) : Met l yX3_usedBy wsX3_usedBy (rX3_usedBy) (gPc D (tysG cI cC cN) [.int a0, .int a1] [] sz) (gQl D (tysG cI cC cN) (va_A [] sz) [] r) 0 0 (va_A [] sz) := by
  unfold m_X3_usedBy at hm
  refine g_openL (cc := cX3_usedBy) (maxL := 4) (own := RX3) (by decide) rfl rfl (Nat.le_of_ble_eq_true rfl) ?_
  intro p e s m args below meth c A Q hx hb hml hown hts hP hK hN hD hA hret ls hl
  have hS : va_S A s.heap s.heap [] := va_S.rf
  have hl : lv_has ls 4 [(0, .int a0), (1, .int a1)] := hl
  refine lv_iload_n hx hb dX3_usedBy_0 rfl (lv_at hl 0 rfl) ?_
  obtain ⟨r_1, h_2, hm⟩ := bind_use hm
  refine g_ki (wc := []) (wr := []) (w2 := []) (va_runS (As := [.int a0]) (rest := []) ⟨hx, hb, hml, hown, hts⟩ (k_J6_numberOfTrailingZeros_0f7a4 l D cI cC cN N s.heap.size a0 r_1 h_2) (va_cwS 1 hts gX3_usedBy_J6_numberOfTrailingZeros_0f7a4 rfl rfl rfl (by decide +kernel) ⟨Nat.le_of_ble_eq_true rfl, Nat.le_of_ble_eq_true rfl⟩) ⟨g_blind, g_pre (hP.sub [] rfl) hK hN (hD.sub [] (by decide) rfl)⟩ rfl rfl hl.1 rfl (lv_room (Nat.le_of_ble_eq_true rfl)) dX3_usedBy_1 ⟨Nat.zero_le _, Nat.zero_le _⟩) hP hD hS hA [] [] rfl rfl (by decide) (by decide) rfl (fun H locs hP hD hS => ?_)
  refine lv_istore_n (lv' := [(2, .int r_1), (0, .int a0), (1, .int a1)]) hx hb dX3_usedBy_4 rfl hl (by decide) rfl (fun ls hl => ?_)
  refine lv_bipush (v := 31) hx hb dX3_usedBy_5 (by decide) ?_
  refine lv_iload_n hx hb dX3_usedBy_7 rfl (lv_at hl 1 rfl) ?_
  obtain ⟨r_3, h_4, hm⟩ := bind_use hm
  refine g_ki (wc := []) (wr := []) (w2 := []) (va_runS (As := [.int a0]) (rest := [.int 31]) ⟨hx, hb, hml, hown, hts⟩ (k_J6_numberOfLeadingZeros_0f7a4 l D cI cC cN N H.size a0 r_3 h_4) (va_cwS 1 hts gX3_usedBy_J6_numberOfLeadingZeros_0f7a4 rfl rfl rfl (by decide +kernel) ⟨Nat.le_of_ble_eq_true rfl, Nat.le_of_ble_eq_true rfl⟩) ⟨g_blind, g_pre (hP.sub [] rfl) hK hN (hD.sub [] (by decide) rfl)⟩ rfl rfl hl.1 rfl (lv_room (Nat.le_of_ble_eq_true rfl)) dX3_usedBy_8 ⟨Nat.zero_le _, Nat.zero_le _⟩) hP hD hS hA [] [] rfl rfl (by decide) (by decide) rfl (fun H locs hP hD hS => ?_)
  refine lv_isub hx hb dX3_usedBy_11 ?_
  refine lv_topi (fun v3_5 ev3_5 => ?_)
  have hm := nm_use ev3_5 hm
  refine lv_istore_n (lv' := [(3, .int v3_5), (2, .int r_1), (0, .int a0), (1, .int a1)]) hx hb dX3_usedBy_12 rfl hl (by decide) rfl (fun ls hl => ?_)
  refine lv_iconst (v := 3) hx hb dX3_usedBy_13 (by decide) ?_
  refine lv_iload_n hx hb dX3_usedBy_14 rfl (lv_at hl 1 rfl) ?_
  refine lv_imul hx hb dX3_usedBy_15 ?_
  refine lv_iconst (v := 3) hx hb dX3_usedBy_16 (by decide) ?_
  refine lv_iload_n hx hb dX3_usedBy_17 rfl (lv_at hl 0 rfl) ?_
  refine lv_imul hx hb dX3_usedBy_18 ?_
  refine lv_iload_n hx hb dX3_usedBy_19 rfl (lv_at hl 3 rfl) ?_
  obtain ⟨r_6, h_7, hm⟩ := bind_use hm
  refine g_kl (wc := []) (wr := []) (w2 := []) (va_runS (As := [.int (3 * r_1), .int (3 * v3_5), .int a1]) (rest := []) ⟨hx, hb, hml, hown, hts⟩ (k_X3_usedWith l D cI cC cN N H.size (3 * r_1) (3 * v3_5) a1 r_6 h_7) (va_cwS 3 hts gX3_usedBy_X3_usedWith rfl rfl rfl (by decide +kernel) ⟨Nat.le_of_ble_eq_true rfl, Nat.le_of_ble_eq_true rfl⟩) ⟨g_blind, g_pre (hP.sub [] rfl) hK hN (hD.sub [] (by decide) rfl)⟩ rfl rfl hl.1 rfl (lv_room (Nat.le_of_ble_eq_true rfl)) dX3_usedBy_20 ⟨Nat.zero_le _, Nat.zero_le _⟩) hP hD hS hA [] [] rfl rfl (by decide) (by decide) rfl (fun H locs hP hD hS => ?_)
  have z1 := so_use hm
  subst z1
  exact hret _ _ _ _ _ dX3_usedBy_23 rfl hP hD hS
abbrev rX3_usedColours : Room := { frames := 2, cells := 0, slots := 0, locals := 45 }
set_option maxHeartbeats 4000000 in
set_option maxRecDepth 100000 in
theorem k_X3_usedColours (l : Launch) (D : va_G) (cI cC cN : ClassId) (N : Nat) (q_p0 : Nat) (q_p0_ends : Nat) (q_p0_colours : Nat) (sz : Nat) (f_p0_knots : Int32) (f_p0_threads : Int32) (f_p0_ends : Nat → Int32) (f_p0_colours : Nat → Int32) (r : Int64) (hm : m_X3_usedColours N f_p0_threads f_p0_ends f_p0_colours = some r) : Met l yX3_usedColours wsX3_usedColours (rX3_usedColours) (gPc D (tysG cI cC cN) [.ref q_p0] [(q_p0, .inr (2, [.int f_p0_knots, .int f_p0_threads, .ref q_p0_ends, .ref q_p0_colours])), (q_p0_ends, .inl (cI, 21, .inl f_p0_ends)), (q_p0_colours, .inl (cI, 21, .inl f_p0_colours))] sz) (gQl D (tysG cI cC cN) (va_A [(q_p0, .inr (2, [.int f_p0_knots, .int f_p0_threads, .ref q_p0_ends, .ref q_p0_colours])), (q_p0_ends, .inl (cI, 21, .inl f_p0_ends)), (q_p0_colours, .inl (cI, 21, .inl f_p0_colours))] sz) [(q_p0, .inr (2, [.int f_p0_knots, .int f_p0_threads, .ref q_p0_ends, .ref q_p0_colours])), (q_p0_ends, .inl (cI, 21, .inl f_p0_ends)), (q_p0_colours, .inl (cI, 21, .inl f_p0_colours))] r) 0 0 (va_A [(q_p0, .inr (2, [.int f_p0_knots, .int f_p0_threads, .ref q_p0_ends, .ref q_p0_colours])), (q_p0_ends, .inl (cI, 21, .inl f_p0_ends)), (q_p0_colours, .inl (cI, 21, .inl f_p0_colours))] sz) := by
  unfold m_X3_usedColours at hm
  refine g_openL (cc := cX3_usedColours) (maxL := 6) (own := RX3) (by decide) rfl rfl (Nat.le_of_ble_eq_true rfl) ?_
  intro p e s m args below meth c A Q hx hb hml hown hts hP hK hN hD hA hret ls hl
  have hS : va_S A s.heap s.heap [] := va_S.rf
  have hl : lv_has ls 6 [(0, .ref q_p0)] := hl
  refine lv_lconst (v := 0) hx hb dX3_usedColours_0 rfl ?_
  refine lv_lstore_n (lv' := [(1, .long 0), (0, .ref q_p0)]) hx hb dX3_usedColours_1 rfl hl (by decide) rfl (fun ls hl => ?_)
  refine lv_iconst (v := 0) hx hb dX3_usedColours_2 (by decide) ?_
  refine lv_istore_n (lv' := [(3, .int 0), (1, .long 0), (0, .ref q_p0)]) hx hb dX3_usedColours_3 rfl hl (by decide) rfl (fun ls hl => ?_)
  have l4 : ∀ (n_4 : Nat) (x3_1 : Int32) (x1_2 : Int64), ∀ (H : Heap) (locs : List Loc) (ls : Array Slot), va_P D vwCl [(q_p0, .inr (2, [.int f_p0_knots, .int f_p0_threads, .ref q_p0_ends, .ref q_p0_colours])), (q_p0_ends, .inl (cI, 21, .inl f_p0_ends)), (q_p0_colours, .inl (cI, 21, .inl f_p0_colours))] H → va_D A [(q_p0, .inr (2, [.int f_p0_knots, .int f_p0_threads, .ref q_p0_ends, .ref q_p0_colours])), (q_p0_ends, .inl (cI, 21, .inl f_p0_ends)), (q_p0_colours, .inl (cI, 21, .inl f_p0_colours))] → va_S A s.heap H locs → lv_has ls 6 [(3, .int x3_1), (1, .long x1_2), (0, .ref q_p0)] → m_X3_usedColours_L4 N f_p0_threads f_p0_ends f_p0_colours n_4 x3_1 x1_2 = some r → W p l e rX3_usedColours s m args below meth c H locs 0 0 Q (F0 m 4 ls []) := by
    intro n_4
    induction n_4 with
    | zero => intro x3_1 x1_2 H locs ls hP hD hS hl hm; rw [m_X3_usedColours_L4] at hm; exact no_use hm
    | succ n_4 ih4 =>
      intro x3_1 x1_2 H locs ls hP hD hS hl hm
      rw [m_X3_usedColours_L4] at hm
      refine lv_iload_n hx hb dX3_usedColours_4 rfl (lv_at hl 0 rfl) ?_
      refine lv_aload_n hx hb dX3_usedColours_5 rfl (lv_at hl 2 rfl) ?_
      obtain ⟨r_3, h_4, hm⟩ := bind_use hm
      refine g_ki (wc := [(q_p0, .inr (2, [.int f_p0_knots, .int f_p0_threads, .ref q_p0_ends, .ref q_p0_colours])), (q_p0_ends, .inl (cI, 21, .inl f_p0_ends)), (q_p0_colours, .inl (cI, 21, .inl f_p0_colours))]) (wr := []) (w2 := [(q_p0, .inr (2, [.int f_p0_knots, .int f_p0_threads, .ref q_p0_ends, .ref q_p0_colours])), (q_p0_ends, .inl (cI, 21, .inl f_p0_ends)), (q_p0_colours, .inl (cI, 21, .inl f_p0_colours))]) (va_runV (As := []) (rest := [.int x3_1]) ⟨hx, hb, hml, hown, hts⟩ (k_X2_threads l D cI cC cN N q_p0 q_p0_ends q_p0_colours H.size f_p0_knots f_p0_threads f_p0_ends f_p0_colours r_3 h_4) (cwV 0 hts gX3_usedColours_X2_threads rfl rfl rfl (by decide +kernel) ⟨Nat.le_of_ble_eq_true rfl, Nat.le_of_ble_eq_true rfl⟩) ⟨g_blind, va_recv (D := D) (ci := 2) (q0 := 0) hK hP rfl rfl, g_pre (hP.sub [0, 1, 2] rfl) hK hN (hD.sub [0, 1, 2] (by decide) rfl)⟩ rfl rfl hl.1 rfl (lv_room (Nat.le_of_ble_eq_true rfl)) dX3_usedColours_6 ⟨Nat.zero_le _, Nat.zero_le _⟩) hP hD hS hA [0, 1, 2] [] rfl rfl (by decide) (by decide) rfl (fun H locs hP hD hS => ?_)
      refine lv_icmp_ge (tgt := 60) hx hb dX3_usedColours_9 (by decide) (fun hc => ?_) (fun hc => ?_)
      · have hm := if_t _ hc hm
        refine lv_lload_n hx hb dX3_usedColours_60 rfl (lv_at hl 1 rfl) ?_
        have z1 := so_use hm
        subst z1
        exact hret _ _ _ _ _ dX3_usedColours_61 rfl hP hD hS
      · have hm := if_f _ hc hm
        refine lv_aload_n hx hb dX3_usedColours_12 rfl (lv_at hl 2 rfl) ?_
        refine lv_iload_n hx hb dX3_usedColours_13 rfl (lv_at hl 0 rfl) ?_
        obtain ⟨r_5, h_6, hm⟩ := bind_use hm
        refine g_ki (wc := [(q_p0, .inr (2, [.int f_p0_knots, .int f_p0_threads, .ref q_p0_ends, .ref q_p0_colours])), (q_p0_ends, .inl (cI, 21, .inl f_p0_ends)), (q_p0_colours, .inl (cI, 21, .inl f_p0_colours))]) (wr := []) (w2 := [(q_p0, .inr (2, [.int f_p0_knots, .int f_p0_threads, .ref q_p0_ends, .ref q_p0_colours])), (q_p0_ends, .inl (cI, 21, .inl f_p0_ends)), (q_p0_colours, .inl (cI, 21, .inl f_p0_colours))]) (va_runV (As := [.int x3_1]) (rest := []) ⟨hx, hb, hml, hown, hts⟩ (k_X2_colour l D cI cC cN N q_p0 q_p0_ends q_p0_colours H.size f_p0_knots f_p0_threads f_p0_ends f_p0_colours x3_1 r_5 h_6) (cwV 1 hts gX3_usedColours_X2_colour rfl rfl rfl (by decide +kernel) ⟨Nat.le_of_ble_eq_true rfl, Nat.le_of_ble_eq_true rfl⟩) ⟨g_blind, va_recv (D := D) (ci := 2) (q0 := 0) hK hP rfl rfl, g_pre (hP.sub [0, 1, 2] rfl) hK hN (hD.sub [0, 1, 2] (by decide) rfl)⟩ rfl rfl hl.1 rfl (lv_room (Nat.le_of_ble_eq_true rfl)) dX3_usedColours_14 ⟨Nat.zero_le _, Nat.zero_le _⟩) hP hD hS hA [0, 1, 2] [] rfl rfl (by decide) (by decide) rfl (fun H locs hP hD hS => ?_)
        refine lv_iconst (v := 3) hx hb dX3_usedColours_17 (by decide) ?_
        refine lv_icmp_eq (tgt := 54) hx hb dX3_usedColours_18 (by decide) (fun hc => ?_) (fun hc => ?_)
        · have hm := if_t _ hc hm
          refine lv_iinc (v := (x3_1 + 1)) (lv' := [(3, .int (x3_1 + 1)), (1, .long x1_2), (0, .ref q_p0)]) hx hb dX3_usedColours_54 hl (k := 0) rfl rfl (by decide) rfl (fun ls hl => ?_)
          refine lv_goto (tgt := 4) hx hb dX3_usedColours_57 (by decide) ?_
          exact ih4 (x3_1 + 1) x1_2 _ _ _ hP hD hS hl hm
        · have hm := if_f _ hc hm
          refine lv_aload_n hx hb dX3_usedColours_21 rfl (lv_at hl 2 rfl) ?_
          refine lv_iload_n hx hb dX3_usedColours_22 rfl (lv_at hl 0 rfl) ?_
          obtain ⟨r_7, h_8, hm⟩ := bind_use hm
          refine g_ki (wc := [(q_p0, .inr (2, [.int f_p0_knots, .int f_p0_threads, .ref q_p0_ends, .ref q_p0_colours])), (q_p0_ends, .inl (cI, 21, .inl f_p0_ends)), (q_p0_colours, .inl (cI, 21, .inl f_p0_colours))]) (wr := []) (w2 := [(q_p0, .inr (2, [.int f_p0_knots, .int f_p0_threads, .ref q_p0_ends, .ref q_p0_colours])), (q_p0_ends, .inl (cI, 21, .inl f_p0_ends)), (q_p0_colours, .inl (cI, 21, .inl f_p0_colours))]) (va_runV (As := [.int x3_1]) (rest := []) ⟨hx, hb, hml, hown, hts⟩ (k_X2_ends l D cI cC cN N q_p0 q_p0_ends q_p0_colours H.size f_p0_knots f_p0_threads f_p0_ends f_p0_colours x3_1 r_7 h_8) (cwV 1 hts gX3_usedColours_X2_ends rfl rfl rfl (by decide +kernel) ⟨Nat.le_of_ble_eq_true rfl, Nat.le_of_ble_eq_true rfl⟩) ⟨g_blind, va_recv (D := D) (ci := 2) (q0 := 0) hK hP rfl rfl, g_pre (hP.sub [0, 1, 2] rfl) hK hN (hD.sub [0, 1, 2] (by decide) rfl)⟩ rfl rfl hl.1 rfl (lv_room (Nat.le_of_ble_eq_true rfl)) dX3_usedColours_23 ⟨Nat.zero_le _, Nat.zero_le _⟩) hP hD hS hA [0, 1, 2] [] rfl rfl (by decide) (by decide) rfl (fun H locs hP hD hS => ?_)
          refine lv_aload_n hx hb dX3_usedColours_26 rfl (lv_at hl 2 rfl) ?_
          refine lv_iload_n hx hb dX3_usedColours_27 rfl (lv_at hl 0 rfl) ?_
          obtain ⟨r_9, h_10, hm⟩ := bind_use hm
          refine g_ki (wc := [(q_p0, .inr (2, [.int f_p0_knots, .int f_p0_threads, .ref q_p0_ends, .ref q_p0_colours])), (q_p0_ends, .inl (cI, 21, .inl f_p0_ends)), (q_p0_colours, .inl (cI, 21, .inl f_p0_colours))]) (wr := []) (w2 := [(q_p0, .inr (2, [.int f_p0_knots, .int f_p0_threads, .ref q_p0_ends, .ref q_p0_colours])), (q_p0_ends, .inl (cI, 21, .inl f_p0_ends)), (q_p0_colours, .inl (cI, 21, .inl f_p0_colours))]) (va_runV (As := [.int x3_1]) (rest := [.int r_7]) ⟨hx, hb, hml, hown, hts⟩ (k_X2_colour l D cI cC cN N q_p0 q_p0_ends q_p0_colours H.size f_p0_knots f_p0_threads f_p0_ends f_p0_colours x3_1 r_9 h_10) (cwV 1 hts gX3_usedColours_X2_colour rfl rfl rfl (by decide +kernel) ⟨Nat.le_of_ble_eq_true rfl, Nat.le_of_ble_eq_true rfl⟩) ⟨g_blind, va_recv (D := D) (ci := 2) (q0 := 0) hK hP rfl rfl, g_pre (hP.sub [0, 1, 2] rfl) hK hN (hD.sub [0, 1, 2] (by decide) rfl)⟩ rfl rfl hl.1 rfl (lv_room (Nat.le_of_ble_eq_true rfl)) dX3_usedColours_28 ⟨Nat.zero_le _, Nat.zero_le _⟩) hP hD hS hA [0, 1, 2] [] rfl rfl (by decide) (by decide) rfl (fun H locs hP hD hS => ?_)
          obtain ⟨r_11, h_12, hm⟩ := bind_use hm
          refine g_kl (wc := []) (wr := [(q_p0, .inr (2, [.int f_p0_knots, .int f_p0_threads, .ref q_p0_ends, .ref q_p0_colours])), (q_p0_ends, .inl (cI, 21, .inl f_p0_ends)), (q_p0_colours, .inl (cI, 21, .inl f_p0_colours))]) (w2 := [(q_p0, .inr (2, [.int f_p0_knots, .int f_p0_threads, .ref q_p0_ends, .ref q_p0_colours])), (q_p0_ends, .inl (cI, 21, .inl f_p0_ends)), (q_p0_colours, .inl (cI, 21, .inl f_p0_colours))]) (va_runS (As := [.int r_7, .int r_9]) (rest := []) ⟨hx, hb, hml, hown, hts⟩ (k_X3_usedBy l D cI cC cN N H.size r_7 r_9 r_11 h_12) (va_cwS 2 hts gX3_usedColours_X3_usedBy rfl rfl rfl (by decide +kernel) ⟨Nat.le_of_ble_eq_true rfl, Nat.le_of_ble_eq_true rfl⟩) ⟨g_blind, g_pre (hP.sub [] rfl) hK hN (hD.sub [] (by decide) rfl)⟩ rfl rfl hl.1 rfl (lv_room (Nat.le_of_ble_eq_true rfl)) dX3_usedColours_31 ⟨Nat.zero_le _, Nat.zero_le _⟩) hP hD hS hA [] [0, 1, 2] rfl rfl (by decide) (by decide) rfl (fun H locs hP hD hS => ?_)
          refine lv_lstore (lv' := [(4, .long r_11), (3, .int x3_1), (1, .long x1_2), (0, .ref q_p0)]) hx hb dX3_usedColours_34 hl (by decide) rfl (fun ls hl => ?_)
          refine lv_lload_n hx hb dX3_usedColours_36 rfl (lv_at hl 2 rfl) ?_
          refine lv_lload hx hb dX3_usedColours_37 (lv_at hl 0 rfl) ?_
          refine lv_land hx hb dX3_usedColours_39 ?_
          refine lv_lconst (v := 0) hx hb dX3_usedColours_40 rfl ?_
          refine W.lcmp hx hb dX3_usedColours_41 ?_
          refine lv_if_eq (tgt := 49) hx hb dX3_usedColours_42 (by decide) (fun hc => ?_) (fun hc => ?_)
          · have hm := if_t _ hc hm
            refine lv_lload_n hx hb dX3_usedColours_49 rfl (lv_at hl 2 rfl) ?_
            refine lv_lload hx hb dX3_usedColours_50 (lv_at hl 0 rfl) ?_
            refine lv_lor hx hb dX3_usedColours_52 ?_
            refine lv_topl (fun v1_13 ev1_13 => ?_)
            have hm := nm_use ev1_13 hm
            refine lv_lstore_n (lv' := [(1, .long v1_13), (4, .long r_11), (3, .int x3_1), (0, .ref q_p0)]) hx hb dX3_usedColours_53 rfl hl (by decide) rfl (fun ls hl => ?_)
            refine lv_iinc (v := (x3_1 + 1)) (lv' := [(3, .int (x3_1 + 1)), (1, .long v1_13), (4, .long r_11), (0, .ref q_p0)]) hx hb dX3_usedColours_54 hl (k := 2) rfl rfl (by decide) rfl (fun ls hl => ?_)
            refine lv_goto (tgt := 4) hx hb dX3_usedColours_57 (by decide) ?_
            exact ih4 (x3_1 + 1) v1_13 _ _ _ hP hD hS (lv_sub hl [0, 1, 3] rfl) hm
          · have hm := if_f _ hc hm
            refine lv_ldc2 (own := RX3) (index := 59) (v := (-1)) hx hb hown (hts (.constantLong RX3 59 (-1)) (by decide +kernel)) dX3_usedColours_45 ?_
            have z1 := so_use hm
            subst z1
            exact hret _ _ _ _ _ dX3_usedColours_48 rfl hP hD hS
  exact l4 N 0 0 _ _ _ hP hD hS hl hm
abbrev rX3_howMany : Room := { frames := 28, cells := 0, slots := 0, locals := 905 }
set_option maxHeartbeats 4000000 in
set_option maxRecDepth 100000 in
theorem k_X3_howMany (l : Launch) (D : va_G) (cI cC cN : ClassId) (N : Nat) (q : Nat) (q_bits : Nat) (q_lesser : Nat) (q_greater : Nat) (q_stops : Nat) (q_beside : Nat) (q_found : Nat) (q_p0 : Nat) (q_p0_ends : Nat) (q_p0_colours : Nat) (sz : Nat) (f_bits : Nat → Int32) (f_lesser : Nat → Int32) (f_greater : Nat → Int32) (f_placed : Int32) (f_stops : Nat → Int32) (f_groups : Int32) (f_beside : Nat → Int32) (f_found : Nat → Int32) (f_p0_knots : Int32) (f_p0_threads : Int32) (f_p0_ends : Nat → Int32) (f_p0_colours : Nat → Int32) (a2 : Int32) (r : Int32) (f_bits' : Nat → Int32) (f_lesser' : Nat → Int32) (f_greater' : Nat → Int32) (f_placed' : Int32) (f_stops' : Nat → Int32) (f_groups' : Int32) (f_beside' : Nat → Int32) (hm : m_X3_howMany N f_bits f_lesser f_greater f_placed f_stops f_groups f_beside f_p0_threads f_p0_ends f_p0_colours a2 = some (r, f_bits', f_lesser', f_greater', f_placed', f_stops', f_groups', f_beside')) : Met l yX3_howMany wsX3_howMany (rX3_howMany) (gPc D (tysG cI cC cN) [.ref q, .ref q_p0, .int a2] [(q, .inr (3, [.ref q_bits, .ref q_lesser, .ref q_greater, .int f_placed, .ref q_stops, .int f_groups, .ref q_beside, .ref q_found])), (q_bits, .inl (cI, 21, .inl f_bits)), (q_lesser, .inl (cI, 21, .inl f_lesser)), (q_greater, .inl (cI, 21, .inl f_greater)), (q_stops, .inl (cI, 21, .inl f_stops)), (q_beside, .inl (cI, 21, .inl f_beside)), (q_found, .inl (cI, 21, .inl f_found)), (q_p0, .inr (2, [.int f_p0_knots, .int f_p0_threads, .ref q_p0_ends, .ref q_p0_colours])), (q_p0_ends, .inl (cI, 21, .inl f_p0_ends)), (q_p0_colours, .inl (cI, 21, .inl f_p0_colours))] sz) (gQi D (tysG cI cC cN) (va_A [(q, .inr (3, [.ref q_bits, .ref q_lesser, .ref q_greater, .int f_placed, .ref q_stops, .int f_groups, .ref q_beside, .ref q_found])), (q_bits, .inl (cI, 21, .inl f_bits)), (q_lesser, .inl (cI, 21, .inl f_lesser)), (q_greater, .inl (cI, 21, .inl f_greater)), (q_stops, .inl (cI, 21, .inl f_stops)), (q_beside, .inl (cI, 21, .inl f_beside)), (q_found, .inl (cI, 21, .inl f_found)), (q_p0, .inr (2, [.int f_p0_knots, .int f_p0_threads, .ref q_p0_ends, .ref q_p0_colours])), (q_p0_ends, .inl (cI, 21, .inl f_p0_ends)), (q_p0_colours, .inl (cI, 21, .inl f_p0_colours))] sz) [(q, .inr (3, [.ref q_bits, .ref q_lesser, .ref q_greater, .int f_placed', .ref q_stops, .int f_groups', .ref q_beside, .ref q_found])), (q_bits, .inl (cI, 21, .inl f_bits')), (q_lesser, .inl (cI, 21, .inl f_lesser')), (q_greater, .inl (cI, 21, .inl f_greater')), (q_stops, .inl (cI, 21, .inl f_stops')), (q_beside, .inl (cI, 21, .inl f_beside')), (q_found, .inl (cI, 21, .inl f_found)), (q_p0, .inr (2, [.int f_p0_knots, .int f_p0_threads, .ref q_p0_ends, .ref q_p0_colours])), (q_p0_ends, .inl (cI, 21, .inl f_p0_ends)), (q_p0_colours, .inl (cI, 21, .inl f_p0_colours))] r) 0 0 (va_A [(q, .inr (3, [.ref q_bits, .ref q_lesser, .ref q_greater, .int f_placed, .ref q_stops, .int f_groups, .ref q_beside, .ref q_found])), (q_bits, .inl (cI, 21, .inl f_bits)), (q_lesser, .inl (cI, 21, .inl f_lesser)), (q_greater, .inl (cI, 21, .inl f_greater)), (q_stops, .inl (cI, 21, .inl f_stops)), (q_beside, .inl (cI, 21, .inl f_beside)), (q_found, .inl (cI, 21, .inl f_found)), (q_p0, .inr (2, [.int f_p0_knots, .int f_p0_threads, .ref q_p0_ends, .ref q_p0_colours])), (q_p0_ends, .inl (cI, 21, .inl f_p0_ends)), (q_p0_colours, .inl (cI, 21, .inl f_p0_colours))] sz) := by
  unfold m_X3_howMany at hm
  refine g_openI (cc := cX3_howMany) (maxL := 5) (own := RX3) (by decide) rfl rfl (Nat.le_of_ble_eq_true rfl) ?_
  intro p e s m args below meth c A Q hx hb hml hown hts hP hK hN hD hA hret ls hl
  have hS : va_S A s.heap s.heap [] := va_S.rf
  have hl : lv_has ls 5 [(0, .ref q), (1, .ref q_p0), (2, .int a2)] := hl
  refine lv_iload_n hx hb dX3_howMany_0 rfl (lv_at hl 2 rfl) ?_
  obtain ⟨J12, hJ12, hm⟩ := jn_use hm
  have j12 : ∀ (y_1 : Int64), ∀ (H : Heap) (locs : List Loc) (ls : Array Slot), va_P D vwCl [(q, .inr (3, [.ref q_bits, .ref q_lesser, .ref q_greater, .int f_placed, .ref q_stops, .int f_groups, .ref q_beside, .ref q_found])), (q_bits, .inl (cI, 21, .inl f_bits)), (q_lesser, .inl (cI, 21, .inl f_lesser)), (q_greater, .inl (cI, 21, .inl f_greater)), (q_stops, .inl (cI, 21, .inl f_stops)), (q_beside, .inl (cI, 21, .inl f_beside)), (q_found, .inl (cI, 21, .inl f_found)), (q_p0, .inr (2, [.int f_p0_knots, .int f_p0_threads, .ref q_p0_ends, .ref q_p0_colours])), (q_p0_ends, .inl (cI, 21, .inl f_p0_ends)), (q_p0_colours, .inl (cI, 21, .inl f_p0_colours))] H → va_D A [(q, .inr (3, [.ref q_bits, .ref q_lesser, .ref q_greater, .int f_placed, .ref q_stops, .int f_groups, .ref q_beside, .ref q_found])), (q_bits, .inl (cI, 21, .inl f_bits)), (q_lesser, .inl (cI, 21, .inl f_lesser)), (q_greater, .inl (cI, 21, .inl f_greater)), (q_stops, .inl (cI, 21, .inl f_stops)), (q_beside, .inl (cI, 21, .inl f_beside)), (q_found, .inl (cI, 21, .inl f_found)), (q_p0, .inr (2, [.int f_p0_knots, .int f_p0_threads, .ref q_p0_ends, .ref q_p0_colours])), (q_p0_ends, .inl (cI, 21, .inl f_p0_ends)), (q_p0_colours, .inl (cI, 21, .inl f_p0_colours))] → va_S A s.heap H locs → lv_has ls 5 [(0, .ref q), (1, .ref q_p0), (2, .int a2)] → J12 y_1 = some (r, f_bits', f_lesser', f_greater', f_placed', f_stops', f_groups', f_beside') → W p l e rX3_howMany s m args below meth c H locs 0 0 Q (F0 m 12 ls [.long y_1]) := by
    intro y_1 H locs ls hP hD hS hl hm
    rw [hJ12] at hm
    refine lv_lstore_n (lv' := [(3, .long y_1), (0, .ref q), (1, .ref q_p0), (2, .int a2)]) hx hb dX3_howMany_12 rfl hl (by decide) rfl (fun ls hl => ?_)
    refine lv_lload_n hx hb dX3_howMany_13 rfl (lv_at hl 0 rfl) ?_
    refine lv_ldc2 (own := RX3) (index := 59) (v := (-1)) hx hb hown (hts (.constantLong RX3 59 (-1)) (by decide +kernel)) dX3_howMany_14 ?_
    refine W.lcmp hx hb dX3_howMany_17 ?_
    refine lv_if_ne (tgt := 23) hx hb dX3_howMany_18 (by decide) (fun hc => ?_) (fun hc => ?_)
    · have hm := if_f _ hc hm
      refine lv_aload_n hx hb dX3_howMany_23 rfl (lv_at hl 1 rfl) ?_
      refine lv_aload_n hx hb dX3_howMany_24 rfl (lv_at hl 2 rfl) ?_
      refine lv_iload_n hx hb dX3_howMany_25 rfl (lv_at hl 3 rfl) ?_
      obtain ⟨J41, hJ41, hm⟩ := jn_use hm
      have j41 : ∀ (y_2 : Int32), ∀ (H : Heap) (locs : List Loc) (ls : Array Slot), va_P D vwCl [(q, .inr (3, [.ref q_bits, .ref q_lesser, .ref q_greater, .int f_placed, .ref q_stops, .int f_groups, .ref q_beside, .ref q_found])), (q_bits, .inl (cI, 21, .inl f_bits)), (q_lesser, .inl (cI, 21, .inl f_lesser)), (q_greater, .inl (cI, 21, .inl f_greater)), (q_stops, .inl (cI, 21, .inl f_stops)), (q_beside, .inl (cI, 21, .inl f_beside)), (q_found, .inl (cI, 21, .inl f_found)), (q_p0, .inr (2, [.int f_p0_knots, .int f_p0_threads, .ref q_p0_ends, .ref q_p0_colours])), (q_p0_ends, .inl (cI, 21, .inl f_p0_ends)), (q_p0_colours, .inl (cI, 21, .inl f_p0_colours))] H → va_D A [(q, .inr (3, [.ref q_bits, .ref q_lesser, .ref q_greater, .int f_placed, .ref q_stops, .int f_groups, .ref q_beside, .ref q_found])), (q_bits, .inl (cI, 21, .inl f_bits)), (q_lesser, .inl (cI, 21, .inl f_lesser)), (q_greater, .inl (cI, 21, .inl f_greater)), (q_stops, .inl (cI, 21, .inl f_stops)), (q_beside, .inl (cI, 21, .inl f_beside)), (q_found, .inl (cI, 21, .inl f_found)), (q_p0, .inr (2, [.int f_p0_knots, .int f_p0_threads, .ref q_p0_ends, .ref q_p0_colours])), (q_p0_ends, .inl (cI, 21, .inl f_p0_ends)), (q_p0_colours, .inl (cI, 21, .inl f_p0_colours))] → va_S A s.heap H locs → lv_has ls 5 [(3, .long y_1), (0, .ref q)] → J41 y_2 = some (r, f_bits', f_lesser', f_greater', f_placed', f_stops', f_groups', f_beside') → W p l e rX3_howMany s m args below meth c H locs 0 0 Q (F0 m 41 ls [.int y_2, .ref q_p0, .ref q]) := by
        intro y_2 H locs ls hP hD hS hl hm
        rw [hJ41] at hm
        obtain ⟨⟨f_bits_3, f_lesser_4, f_greater_5, f_placed_6, f_stops_7, f_groups_8, f_beside_9⟩, h_10, hm⟩ := bind_use hm
        refine g_kv (wc := [(q, .inr (3, [.ref q_bits, .ref q_lesser, .ref q_greater, .int f_placed, .ref q_stops, .int f_groups, .ref q_beside, .ref q_found])), (q_bits, .inl (cI, 21, .inl f_bits)), (q_lesser, .inl (cI, 21, .inl f_lesser)), (q_greater, .inl (cI, 21, .inl f_greater)), (q_stops, .inl (cI, 21, .inl f_stops)), (q_beside, .inl (cI, 21, .inl f_beside)), (q_found, .inl (cI, 21, .inl f_found)), (q_p0, .inr (2, [.int f_p0_knots, .int f_p0_threads, .ref q_p0_ends, .ref q_p0_colours])), (q_p0_ends, .inl (cI, 21, .inl f_p0_ends)), (q_p0_colours, .inl (cI, 21, .inl f_p0_colours))]) (wr := []) (w2 := [(q, .inr (3, [.ref q_bits, .ref q_lesser, .ref q_greater, .int f_placed_6, .ref q_stops, .int f_groups_8, .ref q_beside, .ref q_found])), (q_bits, .inl (cI, 21, .inl f_bits_3)), (q_lesser, .inl (cI, 21, .inl f_lesser_4)), (q_greater, .inl (cI, 21, .inl f_greater_5)), (q_stops, .inl (cI, 21, .inl f_stops_7)), (q_beside, .inl (cI, 21, .inl f_beside_9)), (q_found, .inl (cI, 21, .inl f_found)), (q_p0, .inr (2, [.int f_p0_knots, .int f_p0_threads, .ref q_p0_ends, .ref q_p0_colours])), (q_p0_ends, .inl (cI, 21, .inl f_p0_ends)), (q_p0_colours, .inl (cI, 21, .inl f_p0_colours))]) (va_runV (As := [.ref q_p0, .int y_2]) (rest := []) ⟨hx, hb, hml, hown, hts⟩ (k_X3_arrange l D cI cC cN N q q_bits q_lesser q_greater q_stops q_beside q_found q_p0 q_p0_ends q_p0_colours H.size f_bits f_lesser f_greater f_placed f_stops f_groups f_beside f_found f_p0_knots f_p0_threads f_p0_ends f_p0_colours y_2 f_bits_3 f_lesser_4 f_greater_5 f_placed_6 f_stops_7 f_groups_8 f_beside_9 h_10) (cwV 2 hts gX3_howMany_X3_arrange rfl rfl rfl (by decide +kernel) ⟨Nat.le_of_ble_eq_true rfl, Nat.le_of_ble_eq_true rfl⟩) ⟨g_blind, va_recv (D := D) (ci := 3) (q0 := 0) hK hP rfl rfl, g_pre (hP.sub [0, 1, 2, 3, 4, 5, 6, 7, 8, 9] rfl) hK hN (hD.sub [0, 1, 2, 3, 4, 5, 6, 7, 8, 9] (by decide) rfl)⟩ rfl rfl hl.1 rfl (lv_room (Nat.le_of_ble_eq_true rfl)) dX3_howMany_41 ⟨Nat.zero_le _, Nat.zero_le _⟩) hP hD hS hA [0, 1, 2, 3, 4, 5, 6, 7, 8, 9] [] rfl rfl (by decide) (by decide) rfl (fun H locs hP hD hS => ?_)
        refine lv_aload_n hx hb dX3_howMany_44 rfl (lv_at hl 1 rfl) ?_
        refine lv_lload_n hx hb dX3_howMany_45 rfl (lv_at hl 0 rfl) ?_
        refine lv_iconst (v := 0) hx hb dX3_howMany_46 (by decide) ?_
        refine lv_ldc (own := RX3) (index := 65) (v := 2147483647) hx hb hown (hts (.constant RX3 65 2147483647) (by decide +kernel)) dX3_howMany_47 ?_
        obtain ⟨r_11, h_12, hm⟩ := bind_use hm
        refine g_ki (wc := [(q, .inr (3, [.ref q_bits, .ref q_lesser, .ref q_greater, .int f_placed_6, .ref q_stops, .int f_groups_8, .ref q_beside, .ref q_found])), (q_bits, .inl (cI, 21, .inl f_bits_3)), (q_lesser, .inl (cI, 21, .inl f_lesser_4)), (q_greater, .inl (cI, 21, .inl f_greater_5)), (q_stops, .inl (cI, 21, .inl f_stops_7)), (q_beside, .inl (cI, 21, .inl f_beside_9)), (q_found, .inl (cI, 21, .inl f_found))]) (wr := [(q_p0, .inr (2, [.int f_p0_knots, .int f_p0_threads, .ref q_p0_ends, .ref q_p0_colours])), (q_p0_ends, .inl (cI, 21, .inl f_p0_ends)), (q_p0_colours, .inl (cI, 21, .inl f_p0_colours))]) (w2 := [(q_p0, .inr (2, [.int f_p0_knots, .int f_p0_threads, .ref q_p0_ends, .ref q_p0_colours])), (q_p0_ends, .inl (cI, 21, .inl f_p0_ends)), (q_p0_colours, .inl (cI, 21, .inl f_p0_colours)), (q, .inr (3, [.ref q_bits, .ref q_lesser, .ref q_greater, .int f_placed_6, .ref q_stops, .int f_groups_8, .ref q_beside, .ref q_found])), (q_bits, .inl (cI, 21, .inl f_bits_3)), (q_lesser, .inl (cI, 21, .inl f_lesser_4)), (q_greater, .inl (cI, 21, .inl f_greater_5)), (q_stops, .inl (cI, 21, .inl f_stops_7)), (q_beside, .inl (cI, 21, .inl f_beside_9)), (q_found, .inl (cI, 21, .inl f_found))]) (va_runV (As := [.long y_1, .int 0, .int 2147483647]) (rest := []) ⟨hx, hb, hml, hown, hts⟩ (k_X3_ways l D cI cC cN N q q_bits q_lesser q_greater q_stops q_beside q_found H.size f_bits_3 f_lesser_4 f_greater_5 f_placed_6 f_stops_7 f_groups_8 f_beside_9 f_found y_1 0 2147483647 r_11 h_12) (cwV 3 hts gX3_howMany_X3_ways rfl rfl rfl (by decide +kernel) ⟨Nat.le_of_ble_eq_true rfl, Nat.le_of_ble_eq_true rfl⟩) ⟨g_blind, va_recv (D := D) (ci := 3) (q0 := 0) hK hP rfl rfl, g_pre (hP.sub [0, 1, 2, 3, 4, 5, 6] rfl) hK hN (hD.sub [0, 1, 2, 3, 4, 5, 6] (by decide) rfl)⟩ rfl rfl hl.1 rfl (lv_room (Nat.le_of_ble_eq_true rfl)) dX3_howMany_49 ⟨Nat.zero_le _, Nat.zero_le _⟩) hP hD hS hA [0, 1, 2, 3, 4, 5, 6] [7, 8, 9] rfl rfl (by decide) (by decide) rfl (fun H locs hP hD hS => ?_)
        have z1 := so_use hm
        obtain ⟨y1, z2⟩ := pr_use z1
        obtain ⟨y2, z3⟩ := pr_use z2
        obtain ⟨y3, z4⟩ := pr_use z3
        obtain ⟨y4, z5⟩ := pr_use z4
        obtain ⟨y5, z6⟩ := pr_use z5
        obtain ⟨y6, z7⟩ := pr_use z6
        obtain ⟨y7, z8⟩ := pr_use z7
        subst y1
        subst y2
        subst y3
        subst y4
        subst y5
        subst y6
        subst y7
        subst z8
        exact hret _ _ _ _ _ dX3_howMany_52 rfl rfl (hP.sub [3, 4, 5, 6, 7, 8, 9, 0, 1, 2] rfl) (hD.sub [3, 4, 5, 6, 7, 8, 9, 0, 1, 2] (by decide) rfl) hS
      refine lv_if_eq (tgt := 37) hx hb dX3_howMany_26 (by decide) (fun hc => ?_) (fun hc => ?_)
      · have hm := if_t _ hc hm
        refine lv_aload_n hx hb dX3_howMany_37 rfl (lv_at hl 2 rfl) ?_
        obtain ⟨r_13, h_14, hm⟩ := bind_use hm
        refine g_ki (wc := [(q_p0, .inr (2, [.int f_p0_knots, .int f_p0_threads, .ref q_p0_ends, .ref q_p0_colours])), (q_p0_ends, .inl (cI, 21, .inl f_p0_ends)), (q_p0_colours, .inl (cI, 21, .inl f_p0_colours))]) (wr := [(q, .inr (3, [.ref q_bits, .ref q_lesser, .ref q_greater, .int f_placed, .ref q_stops, .int f_groups, .ref q_beside, .ref q_found])), (q_bits, .inl (cI, 21, .inl f_bits)), (q_lesser, .inl (cI, 21, .inl f_lesser)), (q_greater, .inl (cI, 21, .inl f_greater)), (q_stops, .inl (cI, 21, .inl f_stops)), (q_beside, .inl (cI, 21, .inl f_beside)), (q_found, .inl (cI, 21, .inl f_found))]) (w2 := [(q, .inr (3, [.ref q_bits, .ref q_lesser, .ref q_greater, .int f_placed, .ref q_stops, .int f_groups, .ref q_beside, .ref q_found])), (q_bits, .inl (cI, 21, .inl f_bits)), (q_lesser, .inl (cI, 21, .inl f_lesser)), (q_greater, .inl (cI, 21, .inl f_greater)), (q_stops, .inl (cI, 21, .inl f_stops)), (q_beside, .inl (cI, 21, .inl f_beside)), (q_found, .inl (cI, 21, .inl f_found)), (q_p0, .inr (2, [.int f_p0_knots, .int f_p0_threads, .ref q_p0_ends, .ref q_p0_colours])), (q_p0_ends, .inl (cI, 21, .inl f_p0_ends)), (q_p0_colours, .inl (cI, 21, .inl f_p0_colours))]) (va_runV (As := []) (rest := [.ref q_p0, .ref q]) ⟨hx, hb, hml, hown, hts⟩ (k_X2_allThreads l D cI cC cN N q_p0 q_p0_ends q_p0_colours H.size f_p0_knots f_p0_threads f_p0_ends f_p0_colours r_13 h_14) (cwV 0 hts gX3_howMany_X2_allThreads rfl rfl rfl (by decide +kernel) ⟨Nat.le_of_ble_eq_true rfl, Nat.le_of_ble_eq_true rfl⟩) ⟨g_blind, va_recv (D := D) (ci := 2) (q0 := 7) hK hP rfl rfl, g_pre (hP.sub [7, 8, 9] rfl) hK hN (hD.sub [7, 8, 9] (by decide) rfl)⟩ rfl rfl hl.1 rfl (lv_room (Nat.le_of_ble_eq_true rfl)) dX3_howMany_38 ⟨Nat.zero_le _, Nat.zero_le _⟩) hP hD hS hA [7, 8, 9] [0, 1, 2, 3, 4, 5, 6] rfl rfl (by decide) (by decide) rfl (fun H locs hP hD hS => ?_)
        exact j41 r_13 _ _ _ hP hD hS (lv_sub hl [0, 1] rfl) hm
      · have hm := if_f _ hc hm
        refine lv_aload_n hx hb dX3_howMany_29 rfl (lv_at hl 2 rfl) ?_
        refine lv_iconst (v := 3) hx hb dX3_howMany_30 (by decide) ?_
        obtain ⟨r_15, h_16, hm⟩ := bind_use hm
        refine g_ki (wc := [(q_p0, .inr (2, [.int f_p0_knots, .int f_p0_threads, .ref q_p0_ends, .ref q_p0_colours])), (q_p0_ends, .inl (cI, 21, .inl f_p0_ends)), (q_p0_colours, .inl (cI, 21, .inl f_p0_colours))]) (wr := [(q, .inr (3, [.ref q_bits, .ref q_lesser, .ref q_greater, .int f_placed, .ref q_stops, .int f_groups, .ref q_beside, .ref q_found])), (q_bits, .inl (cI, 21, .inl f_bits)), (q_lesser, .inl (cI, 21, .inl f_lesser)), (q_greater, .inl (cI, 21, .inl f_greater)), (q_stops, .inl (cI, 21, .inl f_stops)), (q_beside, .inl (cI, 21, .inl f_beside)), (q_found, .inl (cI, 21, .inl f_found))]) (w2 := [(q, .inr (3, [.ref q_bits, .ref q_lesser, .ref q_greater, .int f_placed, .ref q_stops, .int f_groups, .ref q_beside, .ref q_found])), (q_bits, .inl (cI, 21, .inl f_bits)), (q_lesser, .inl (cI, 21, .inl f_lesser)), (q_greater, .inl (cI, 21, .inl f_greater)), (q_stops, .inl (cI, 21, .inl f_stops)), (q_beside, .inl (cI, 21, .inl f_beside)), (q_found, .inl (cI, 21, .inl f_found)), (q_p0, .inr (2, [.int f_p0_knots, .int f_p0_threads, .ref q_p0_ends, .ref q_p0_colours])), (q_p0_ends, .inl (cI, 21, .inl f_p0_ends)), (q_p0_colours, .inl (cI, 21, .inl f_p0_colours))]) (va_runV (As := [.int 3]) (rest := [.ref q_p0, .ref q]) ⟨hx, hb, hml, hown, hts⟩ (k_X2_coloured l D cI cC cN N q_p0 q_p0_ends q_p0_colours H.size f_p0_knots f_p0_threads f_p0_ends f_p0_colours 3 r_15 h_16) (cwV 1 hts gX3_howMany_X2_coloured rfl rfl rfl (by decide +kernel) ⟨Nat.le_of_ble_eq_true rfl, Nat.le_of_ble_eq_true rfl⟩) ⟨g_blind, va_recv (D := D) (ci := 2) (q0 := 7) hK hP rfl rfl, g_pre (hP.sub [7, 8, 9] rfl) hK hN (hD.sub [7, 8, 9] (by decide) rfl)⟩ rfl rfl hl.1 rfl (lv_room (Nat.le_of_ble_eq_true rfl)) dX3_howMany_31 ⟨Nat.zero_le _, Nat.zero_le _⟩) hP hD hS hA [7, 8, 9] [0, 1, 2, 3, 4, 5, 6] rfl rfl (by decide) (by decide) rfl (fun H locs hP hD hS => ?_)
        refine lv_goto (tgt := 41) hx hb dX3_howMany_34 (by decide) ?_
        exact j41 r_15 _ _ _ hP hD hS (lv_sub hl [0, 1] rfl) hm
    · have hm := if_t _ hc hm
      refine lv_iconst (v := 0) hx hb dX3_howMany_21 (by decide) ?_
      have z1 := so_use hm
      obtain ⟨y1, z2⟩ := pr_use z1
      obtain ⟨y2, z3⟩ := pr_use z2
      obtain ⟨y3, z4⟩ := pr_use z3
      obtain ⟨y4, z5⟩ := pr_use z4
      obtain ⟨y5, z6⟩ := pr_use z5
      obtain ⟨y6, z7⟩ := pr_use z6
      obtain ⟨y7, z8⟩ := pr_use z7
      subst y1
      subst y2
      subst y3
      subst y4
      subst y5
      subst y6
      subst y7
      subst z8
      exact hret _ _ _ _ _ dX3_howMany_22 rfl rfl hP hD hS
  refine lv_if_eq (tgt := 11) hx hb dX3_howMany_1 (by decide) (fun hc => ?_) (fun hc => ?_)
  · have hm := if_t _ hc hm
    refine lv_lconst (v := 0) hx hb dX3_howMany_11 rfl ?_
    exact j12 0 _ _ _ hP hD hS hl hm
  · have hm := if_f _ hc hm
    refine lv_aload_n hx hb dX3_howMany_4 rfl (lv_at hl 1 rfl) ?_
    obtain ⟨r_17, h_18, hm⟩ := bind_use hm
    refine g_kl (wc := [(q_p0, .inr (2, [.int f_p0_knots, .int f_p0_threads, .ref q_p0_ends, .ref q_p0_colours])), (q_p0_ends, .inl (cI, 21, .inl f_p0_ends)), (q_p0_colours, .inl (cI, 21, .inl f_p0_colours))]) (wr := [(q, .inr (3, [.ref q_bits, .ref q_lesser, .ref q_greater, .int f_placed, .ref q_stops, .int f_groups, .ref q_beside, .ref q_found])), (q_bits, .inl (cI, 21, .inl f_bits)), (q_lesser, .inl (cI, 21, .inl f_lesser)), (q_greater, .inl (cI, 21, .inl f_greater)), (q_stops, .inl (cI, 21, .inl f_stops)), (q_beside, .inl (cI, 21, .inl f_beside)), (q_found, .inl (cI, 21, .inl f_found))]) (w2 := [(q, .inr (3, [.ref q_bits, .ref q_lesser, .ref q_greater, .int f_placed, .ref q_stops, .int f_groups, .ref q_beside, .ref q_found])), (q_bits, .inl (cI, 21, .inl f_bits)), (q_lesser, .inl (cI, 21, .inl f_lesser)), (q_greater, .inl (cI, 21, .inl f_greater)), (q_stops, .inl (cI, 21, .inl f_stops)), (q_beside, .inl (cI, 21, .inl f_beside)), (q_found, .inl (cI, 21, .inl f_found)), (q_p0, .inr (2, [.int f_p0_knots, .int f_p0_threads, .ref q_p0_ends, .ref q_p0_colours])), (q_p0_ends, .inl (cI, 21, .inl f_p0_ends)), (q_p0_colours, .inl (cI, 21, .inl f_p0_colours))]) (va_runS (As := [.ref q_p0]) (rest := []) ⟨hx, hb, hml, hown, hts⟩ (k_X3_usedColours l D cI cC cN N q_p0 q_p0_ends q_p0_colours s.heap.size f_p0_knots f_p0_threads f_p0_ends f_p0_colours r_17 h_18) (va_cwS 1 hts gX3_howMany_X3_usedColours rfl rfl rfl (by decide +kernel) ⟨Nat.le_of_ble_eq_true rfl, Nat.le_of_ble_eq_true rfl⟩) ⟨g_blind, g_pre (hP.sub [7, 8, 9] rfl) hK hN (hD.sub [7, 8, 9] (by decide) rfl)⟩ rfl rfl hl.1 rfl (lv_room (Nat.le_of_ble_eq_true rfl)) dX3_howMany_5 ⟨Nat.zero_le _, Nat.zero_le _⟩) hP hD hS hA [7, 8, 9] [0, 1, 2, 3, 4, 5, 6] rfl rfl (by decide) (by decide) rfl (fun H locs hP hD hS => ?_)
    refine lv_goto (tgt := 12) hx hb dX3_howMany_8 (by decide) ?_
    exact j12 r_17 _ _ _ hP hD hS hl hm
abbrev rX3_lowestColour : Room := { frames := 28, cells := 0, slots := 0, locals := 905 }
set_option maxHeartbeats 4000000 in
set_option maxRecDepth 100000 in
theorem k_X3_lowestColour (l : Launch) (D : va_G) (cI cC cN : ClassId) (N : Nat) (q : Nat) (q_bits : Nat) (q_lesser : Nat) (q_greater : Nat) (q_stops : Nat) (q_beside : Nat) (q_found : Nat) (sz : Nat) (f_bits : Nat → Int32) (f_lesser : Nat → Int32) (f_greater : Nat → Int32) (f_placed : Int32) (f_stops : Nat → Int32) (f_groups : Int32) (f_beside : Nat → Int32) (f_found : Nat → Int32) (a1 : Int32) (a2 : Int64) (a4 : Int32) (r : Int32) (hm : m_X3_lowestColour N f_bits f_lesser f_greater f_stops f_groups a1 a2 a4 = some r) : Met l yX3_lowestColour wsX3_lowestColour (rX3_lowestColour) (gPc D (tysG cI cC cN) [.ref q, .int a1, .long a2, .int a4] [(q, .inr (3, [.ref q_bits, .ref q_lesser, .ref q_greater, .int f_placed, .ref q_stops, .int f_groups, .ref q_beside, .ref q_found])), (q_bits, .inl (cI, 21, .inl f_bits)), (q_lesser, .inl (cI, 21, .inl f_lesser)), (q_greater, .inl (cI, 21, .inl f_greater)), (q_stops, .inl (cI, 21, .inl f_stops)), (q_beside, .inl (cI, 21, .inl f_beside)), (q_found, .inl (cI, 21, .inl f_found))] sz) (gQi D (tysG cI cC cN) (va_A [(q, .inr (3, [.ref q_bits, .ref q_lesser, .ref q_greater, .int f_placed, .ref q_stops, .int f_groups, .ref q_beside, .ref q_found])), (q_bits, .inl (cI, 21, .inl f_bits)), (q_lesser, .inl (cI, 21, .inl f_lesser)), (q_greater, .inl (cI, 21, .inl f_greater)), (q_stops, .inl (cI, 21, .inl f_stops)), (q_beside, .inl (cI, 21, .inl f_beside)), (q_found, .inl (cI, 21, .inl f_found))] sz) [(q, .inr (3, [.ref q_bits, .ref q_lesser, .ref q_greater, .int f_placed, .ref q_stops, .int f_groups, .ref q_beside, .ref q_found])), (q_bits, .inl (cI, 21, .inl f_bits)), (q_lesser, .inl (cI, 21, .inl f_lesser)), (q_greater, .inl (cI, 21, .inl f_greater)), (q_stops, .inl (cI, 21, .inl f_stops)), (q_beside, .inl (cI, 21, .inl f_beside)), (q_found, .inl (cI, 21, .inl f_found))] r) 0 0 (va_A [(q, .inr (3, [.ref q_bits, .ref q_lesser, .ref q_greater, .int f_placed, .ref q_stops, .int f_groups, .ref q_beside, .ref q_found])), (q_bits, .inl (cI, 21, .inl f_bits)), (q_lesser, .inl (cI, 21, .inl f_lesser)), (q_greater, .inl (cI, 21, .inl f_greater)), (q_stops, .inl (cI, 21, .inl f_stops)), (q_beside, .inl (cI, 21, .inl f_beside)), (q_found, .inl (cI, 21, .inl f_found))] sz) := by
  unfold m_X3_lowestColour at hm
  refine g_openI (cc := cX3_lowestColour) (maxL := 8) (own := RX3) (by decide) rfl rfl (Nat.le_of_ble_eq_true rfl) ?_
  intro p e s m args below meth c A Q hx hb hml hown hts hP hK hN hD hA hret ls hl
  have hS : va_S A s.heap s.heap [] := va_S.rf
  have hl : lv_has ls 8 [(0, .ref q), (1, .int a1), (2, .long a2), (4, .int a4)] := hl
  refine lv_iconst (v := 0) hx hb dX3_lowestColour_0 (by decide) ?_
  refine lv_istore (lv' := [(5, .int 0), (0, .ref q), (1, .int a1), (2, .long a2), (4, .int a4)]) hx hb dX3_lowestColour_1 hl (by decide) rfl (fun ls hl => ?_)
  have l3 : ∀ (n_3 : Nat) (x5_1 : Int32), ∀ (H : Heap) (locs : List Loc) (ls : Array Slot), va_P D vwCl [(q, .inr (3, [.ref q_bits, .ref q_lesser, .ref q_greater, .int f_placed, .ref q_stops, .int f_groups, .ref q_beside, .ref q_found])), (q_bits, .inl (cI, 21, .inl f_bits)), (q_lesser, .inl (cI, 21, .inl f_lesser)), (q_greater, .inl (cI, 21, .inl f_greater)), (q_stops, .inl (cI, 21, .inl f_stops)), (q_beside, .inl (cI, 21, .inl f_beside)), (q_found, .inl (cI, 21, .inl f_found))] H → va_D A [(q, .inr (3, [.ref q_bits, .ref q_lesser, .ref q_greater, .int f_placed, .ref q_stops, .int f_groups, .ref q_beside, .ref q_found])), (q_bits, .inl (cI, 21, .inl f_bits)), (q_lesser, .inl (cI, 21, .inl f_lesser)), (q_greater, .inl (cI, 21, .inl f_greater)), (q_stops, .inl (cI, 21, .inl f_stops)), (q_beside, .inl (cI, 21, .inl f_beside)), (q_found, .inl (cI, 21, .inl f_found))] → va_S A s.heap H locs → lv_has ls 8 [(5, .int x5_1), (0, .ref q), (1, .int a1), (2, .long a2), (4, .int a4)] → m_X3_lowestColour_L3 N f_bits f_lesser f_greater f_stops f_groups a1 a2 a4 n_3 x5_1 = some r → W p l e rX3_lowestColour s m args below meth c H locs 0 0 Q (F0 m 3 ls []) := by
    intro n_3
    induction n_3 with
    | zero => intro x5_1 H locs ls hP hD hS hl hm; rw [m_X3_lowestColour_L3] at hm; exact no_use hm
    | succ n_3 ih3 =>
      intro x5_1 H locs ls hP hD hS hl hm
      rw [m_X3_lowestColour_L3] at hm
      refine lv_iload hx hb dX3_lowestColour_3 (lv_at hl 0 rfl) ?_
      refine lv_iconst (v := 2) hx hb dX3_lowestColour_5 (by decide) ?_
      refine lv_icmp_ge (tgt := 49) hx hb dX3_lowestColour_6 (by decide) (fun hc => ?_) (fun hc => ?_)
      · have hm := if_t _ hc hm
        refine lv_iconst (v := 2) hx hb dX3_lowestColour_49 (by decide) ?_
        have z1 := so_use hm
        subst z1
        exact hret _ _ _ _ _ dX3_lowestColour_50 rfl rfl hP hD hS
      · have hm := if_f _ hc hm
        refine lv_iload_n hx hb dX3_lowestColour_9 rfl (lv_at hl 2 rfl) ?_
        refine lv_iload hx hb dX3_lowestColour_10 (lv_at hl 0 rfl) ?_
        obtain ⟨r_2, h_3, hm⟩ := bind_use hm
        refine g_kl (wc := []) (wr := [(q, .inr (3, [.ref q_bits, .ref q_lesser, .ref q_greater, .int f_placed, .ref q_stops, .int f_groups, .ref q_beside, .ref q_found])), (q_bits, .inl (cI, 21, .inl f_bits)), (q_lesser, .inl (cI, 21, .inl f_lesser)), (q_greater, .inl (cI, 21, .inl f_greater)), (q_stops, .inl (cI, 21, .inl f_stops)), (q_beside, .inl (cI, 21, .inl f_beside)), (q_found, .inl (cI, 21, .inl f_found))]) (w2 := [(q, .inr (3, [.ref q_bits, .ref q_lesser, .ref q_greater, .int f_placed, .ref q_stops, .int f_groups, .ref q_beside, .ref q_found])), (q_bits, .inl (cI, 21, .inl f_bits)), (q_lesser, .inl (cI, 21, .inl f_lesser)), (q_greater, .inl (cI, 21, .inl f_greater)), (q_stops, .inl (cI, 21, .inl f_stops)), (q_beside, .inl (cI, 21, .inl f_beside)), (q_found, .inl (cI, 21, .inl f_found))]) (va_runS (As := [.int a1, .int x5_1]) (rest := []) ⟨hx, hb, hml, hown, hts⟩ (k_X3_usedBy l D cI cC cN N H.size a1 x5_1 r_2 h_3) (va_cwS 2 hts gX3_lowestColour_X3_usedBy rfl rfl rfl (by decide +kernel) ⟨Nat.le_of_ble_eq_true rfl, Nat.le_of_ble_eq_true rfl⟩) ⟨g_blind, g_pre (hP.sub [] rfl) hK hN (hD.sub [] (by decide) rfl)⟩ rfl rfl hl.1 rfl (lv_room (Nat.le_of_ble_eq_true rfl)) dX3_lowestColour_12 ⟨Nat.zero_le _, Nat.zero_le _⟩) hP hD hS hA [] [0, 1, 2, 3, 4, 5, 6] rfl rfl (by decide) (by decide) rfl (fun H locs hP hD hS => ?_)
        refine lv_lstore (lv' := [(6, .long r_2), (5, .int x5_1), (0, .ref q), (1, .int a1), (2, .long a2), (4, .int a4)]) hx hb dX3_lowestColour_15 hl (by decide) rfl (fun ls hl => ?_)
        refine lv_lload_n hx hb dX3_lowestColour_17 rfl (lv_at hl 4 rfl) ?_
        refine lv_lload hx hb dX3_lowestColour_18 (lv_at hl 0 rfl) ?_
        refine lv_land hx hb dX3_lowestColour_20 ?_
        refine lv_lconst (v := 0) hx hb dX3_lowestColour_21 rfl ?_
        refine W.lcmp hx hb dX3_lowestColour_22 ?_
        refine lv_if_ne (tgt := 43) hx hb dX3_lowestColour_23 (by decide) (fun hc => ?_) (fun hc => ?_)
        · have hm := if_f _ hc hm
          refine lv_iinc (v := (x5_1 + 1)) (lv' := [(5, .int (x5_1 + 1)), (6, .long r_2), (0, .ref q), (1, .int a1), (2, .long a2), (4, .int a4)]) hx hb dX3_lowestColour_43 hl (k := 1) rfl rfl (by decide) rfl (fun ls hl => ?_)
          refine lv_goto (tgt := 3) hx hb dX3_lowestColour_46 (by decide) ?_
          exact ih3 (x5_1 + 1) _ _ _ hP hD hS (lv_sub hl [0, 2, 3, 4, 5] rfl) hm
        · have hm := if_t _ hc hm
          refine lv_aload_n hx hb dX3_lowestColour_26 rfl (lv_at hl 2 rfl) ?_
          refine lv_lload_n hx hb dX3_lowestColour_27 rfl (lv_at hl 4 rfl) ?_
          refine lv_lload hx hb dX3_lowestColour_28 (lv_at hl 0 rfl) ?_
          refine lv_lor hx hb dX3_lowestColour_30 ?_
          refine lv_iload hx hb dX3_lowestColour_31 (lv_at hl 5 rfl) ?_
          refine lv_iconst (v := 1) hx hb dX3_lowestColour_33 (by decide) ?_
          obtain ⟨r_4, h_5, hm⟩ := bind_use hm
          refine g_ki (wc := [(q, .inr (3, [.ref q_bits, .ref q_lesser, .ref q_greater, .int f_placed, .ref q_stops, .int f_groups, .ref q_beside, .ref q_found])), (q_bits, .inl (cI, 21, .inl f_bits)), (q_lesser, .inl (cI, 21, .inl f_lesser)), (q_greater, .inl (cI, 21, .inl f_greater)), (q_stops, .inl (cI, 21, .inl f_stops)), (q_beside, .inl (cI, 21, .inl f_beside)), (q_found, .inl (cI, 21, .inl f_found))]) (wr := []) (w2 := [(q, .inr (3, [.ref q_bits, .ref q_lesser, .ref q_greater, .int f_placed, .ref q_stops, .int f_groups, .ref q_beside, .ref q_found])), (q_bits, .inl (cI, 21, .inl f_bits)), (q_lesser, .inl (cI, 21, .inl f_lesser)), (q_greater, .inl (cI, 21, .inl f_greater)), (q_stops, .inl (cI, 21, .inl f_stops)), (q_beside, .inl (cI, 21, .inl f_beside)), (q_found, .inl (cI, 21, .inl f_found))]) (va_runV (As := [.long (a2 ||| r_2), .int a4, .int 1]) (rest := []) ⟨hx, hb, hml, hown, hts⟩ (k_X3_ways l D cI cC cN N q q_bits q_lesser q_greater q_stops q_beside q_found H.size f_bits f_lesser f_greater f_placed f_stops f_groups f_beside f_found (a2 ||| r_2) a4 1 r_4 h_5) (cwV 3 hts gX3_lowestColour_X3_ways rfl rfl rfl (by decide +kernel) ⟨Nat.le_of_ble_eq_true rfl, Nat.le_of_ble_eq_true rfl⟩) ⟨g_blind, va_recv (D := D) (ci := 3) (q0 := 0) hK hP rfl rfl, g_pre (hP.sub [0, 1, 2, 3, 4, 5, 6] rfl) hK hN (hD.sub [0, 1, 2, 3, 4, 5, 6] (by decide) rfl)⟩ rfl rfl hl.1 rfl (lv_room (Nat.le_of_ble_eq_true rfl)) dX3_lowestColour_34 ⟨Nat.zero_le _, Nat.zero_le _⟩) hP hD hS hA [0, 1, 2, 3, 4, 5, 6] [] rfl rfl (by decide) (by decide) rfl (fun H locs hP hD hS => ?_)
          refine lv_if_le (tgt := 43) hx hb dX3_lowestColour_37 (by decide) (fun hc => ?_) (fun hc => ?_)
          · have hm := if_t _ hc hm
            refine lv_iinc (v := (x5_1 + 1)) (lv' := [(5, .int (x5_1 + 1)), (6, .long r_2), (0, .ref q), (1, .int a1), (2, .long a2), (4, .int a4)]) hx hb dX3_lowestColour_43 hl (k := 1) rfl rfl (by decide) rfl (fun ls hl => ?_)
            refine lv_goto (tgt := 3) hx hb dX3_lowestColour_46 (by decide) ?_
            exact ih3 (x5_1 + 1) _ _ _ hP hD hS (lv_sub hl [0, 2, 3, 4, 5] rfl) hm
          · have hm := if_f _ hc hm
            refine lv_iload hx hb dX3_lowestColour_40 (lv_at hl 1 rfl) ?_
            have z1 := so_use hm
            subst z1
            exact hret _ _ _ _ _ dX3_lowestColour_42 rfl rfl hP hD hS
  exact l3 N 0 _ _ _ hP hD hS hl hm
abbrev rX3_findFirst : Room := { frames := 29, cells := 0, slots := 0, locals := 932 }
set_option maxHeartbeats 4000000 in
set_option maxRecDepth 100000 in
theorem k_X3_findFirst (l : Launch) (D : va_G) (cI cC cN : ClassId) (N : Nat) (q : Nat) (q_bits : Nat) (q_lesser : Nat) (q_greater : Nat) (q_stops : Nat) (q_beside : Nat) (q_found : Nat) (q_p0 : Nat) (q_p0_ends : Nat) (q_p0_colours : Nat) (sz : Nat) (f_bits : Nat → Int32) (f_lesser : Nat → Int32) (f_greater : Nat → Int32) (f_placed : Int32) (f_stops : Nat → Int32) (f_groups : Int32) (f_beside : Nat → Int32) (f_found : Nat → Int32) (f_p0_knots : Int32) (f_p0_threads : Int32) (f_p0_ends : Nat → Int32) (f_p0_colours : Nat → Int32) (a2 : Int32) (r : Int32) (f_bits' : Nat → Int32) (f_lesser' : Nat → Int32) (f_greater' : Nat → Int32) (f_placed' : Int32) (f_stops' : Nat → Int32) (f_groups' : Int32) (f_beside' : Nat → Int32) (f_found' : Nat → Int32) (hm : m_X3_findFirst N f_bits f_lesser f_greater f_placed f_stops f_groups f_beside f_found f_p0_threads f_p0_ends f_p0_colours a2 = some (r, f_bits', f_lesser', f_greater', f_placed', f_stops', f_groups', f_beside', f_found')) : Met l yX3_findFirst wsX3_findFirst (rX3_findFirst) (gPc D (tysG cI cC cN) [.ref q, .ref q_p0, .int a2] [(q, .inr (3, [.ref q_bits, .ref q_lesser, .ref q_greater, .int f_placed, .ref q_stops, .int f_groups, .ref q_beside, .ref q_found])), (q_bits, .inl (cI, 21, .inl f_bits)), (q_lesser, .inl (cI, 21, .inl f_lesser)), (q_greater, .inl (cI, 21, .inl f_greater)), (q_stops, .inl (cI, 21, .inl f_stops)), (q_beside, .inl (cI, 21, .inl f_beside)), (q_found, .inl (cI, 21, .inl f_found)), (q_p0, .inr (2, [.int f_p0_knots, .int f_p0_threads, .ref q_p0_ends, .ref q_p0_colours])), (q_p0_ends, .inl (cI, 21, .inl f_p0_ends)), (q_p0_colours, .inl (cI, 21, .inl f_p0_colours))] sz) (gQi D (tysG cI cC cN) (va_A [(q, .inr (3, [.ref q_bits, .ref q_lesser, .ref q_greater, .int f_placed, .ref q_stops, .int f_groups, .ref q_beside, .ref q_found])), (q_bits, .inl (cI, 21, .inl f_bits)), (q_lesser, .inl (cI, 21, .inl f_lesser)), (q_greater, .inl (cI, 21, .inl f_greater)), (q_stops, .inl (cI, 21, .inl f_stops)), (q_beside, .inl (cI, 21, .inl f_beside)), (q_found, .inl (cI, 21, .inl f_found)), (q_p0, .inr (2, [.int f_p0_knots, .int f_p0_threads, .ref q_p0_ends, .ref q_p0_colours])), (q_p0_ends, .inl (cI, 21, .inl f_p0_ends)), (q_p0_colours, .inl (cI, 21, .inl f_p0_colours))] sz) [(q, .inr (3, [.ref q_bits, .ref q_lesser, .ref q_greater, .int f_placed', .ref q_stops, .int f_groups', .ref q_beside, .ref q_found])), (q_bits, .inl (cI, 21, .inl f_bits')), (q_lesser, .inl (cI, 21, .inl f_lesser')), (q_greater, .inl (cI, 21, .inl f_greater')), (q_stops, .inl (cI, 21, .inl f_stops')), (q_beside, .inl (cI, 21, .inl f_beside')), (q_found, .inl (cI, 21, .inl f_found')), (q_p0, .inr (2, [.int f_p0_knots, .int f_p0_threads, .ref q_p0_ends, .ref q_p0_colours])), (q_p0_ends, .inl (cI, 21, .inl f_p0_ends)), (q_p0_colours, .inl (cI, 21, .inl f_p0_colours))] r) 0 0 (va_A [(q, .inr (3, [.ref q_bits, .ref q_lesser, .ref q_greater, .int f_placed, .ref q_stops, .int f_groups, .ref q_beside, .ref q_found])), (q_bits, .inl (cI, 21, .inl f_bits)), (q_lesser, .inl (cI, 21, .inl f_lesser)), (q_greater, .inl (cI, 21, .inl f_greater)), (q_stops, .inl (cI, 21, .inl f_stops)), (q_beside, .inl (cI, 21, .inl f_beside)), (q_found, .inl (cI, 21, .inl f_found)), (q_p0, .inr (2, [.int f_p0_knots, .int f_p0_threads, .ref q_p0_ends, .ref q_p0_colours])), (q_p0_ends, .inl (cI, 21, .inl f_p0_ends)), (q_p0_colours, .inl (cI, 21, .inl f_p0_colours))] sz) := by
  unfold m_X3_findFirst at hm
  refine g_openI (cc := cX3_findFirst) (maxL := 9) (own := RX3) (by decide) rfl rfl (Nat.le_of_ble_eq_true rfl) ?_
  intro p e s m args below meth c A Q hx hb hml hown hts hP hK hN hD hA hret ls hl
  have hS : va_S A s.heap s.heap [] := va_S.rf
  have hl : lv_has ls 9 [(0, .ref q), (1, .ref q_p0), (2, .int a2)] := hl
  refine lv_iload_n hx hb dX3_findFirst_0 rfl (lv_at hl 2 rfl) ?_
  obtain ⟨J12, hJ12, hm⟩ := jn_use hm
  have j12 : ∀ (y_1 : Int64), ∀ (H : Heap) (locs : List Loc) (ls : Array Slot), va_P D vwCl [(q, .inr (3, [.ref q_bits, .ref q_lesser, .ref q_greater, .int f_placed, .ref q_stops, .int f_groups, .ref q_beside, .ref q_found])), (q_bits, .inl (cI, 21, .inl f_bits)), (q_lesser, .inl (cI, 21, .inl f_lesser)), (q_greater, .inl (cI, 21, .inl f_greater)), (q_stops, .inl (cI, 21, .inl f_stops)), (q_beside, .inl (cI, 21, .inl f_beside)), (q_found, .inl (cI, 21, .inl f_found)), (q_p0, .inr (2, [.int f_p0_knots, .int f_p0_threads, .ref q_p0_ends, .ref q_p0_colours])), (q_p0_ends, .inl (cI, 21, .inl f_p0_ends)), (q_p0_colours, .inl (cI, 21, .inl f_p0_colours))] H → va_D A [(q, .inr (3, [.ref q_bits, .ref q_lesser, .ref q_greater, .int f_placed, .ref q_stops, .int f_groups, .ref q_beside, .ref q_found])), (q_bits, .inl (cI, 21, .inl f_bits)), (q_lesser, .inl (cI, 21, .inl f_lesser)), (q_greater, .inl (cI, 21, .inl f_greater)), (q_stops, .inl (cI, 21, .inl f_stops)), (q_beside, .inl (cI, 21, .inl f_beside)), (q_found, .inl (cI, 21, .inl f_found)), (q_p0, .inr (2, [.int f_p0_knots, .int f_p0_threads, .ref q_p0_ends, .ref q_p0_colours])), (q_p0_ends, .inl (cI, 21, .inl f_p0_ends)), (q_p0_colours, .inl (cI, 21, .inl f_p0_colours))] → va_S A s.heap H locs → lv_has ls 9 [(0, .ref q), (1, .ref q_p0), (2, .int a2)] → J12 y_1 = some (r, f_bits', f_lesser', f_greater', f_placed', f_stops', f_groups', f_beside', f_found') → W p l e rX3_findFirst s m args below meth c H locs 0 0 Q (F0 m 12 ls [.long y_1]) := by
    intro y_1 H locs ls hP hD hS hl hm
    rw [hJ12] at hm
    refine lv_lstore_n (lv' := [(3, .long y_1), (0, .ref q), (1, .ref q_p0), (2, .int a2)]) hx hb dX3_findFirst_12 rfl hl (by decide) rfl (fun ls hl => ?_)
    refine lv_lload_n hx hb dX3_findFirst_13 rfl (lv_at hl 0 rfl) ?_
    refine lv_ldc2 (own := RX3) (index := 59) (v := (-1)) hx hb hown (hts (.constantLong RX3 59 (-1)) (by decide +kernel)) dX3_findFirst_14 ?_
    refine W.lcmp hx hb dX3_findFirst_17 ?_
    refine lv_if_ne (tgt := 23) hx hb dX3_findFirst_18 (by decide) (fun hc => ?_) (fun hc => ?_)
    · have hm := if_f _ hc hm
      refine lv_iload_n hx hb dX3_findFirst_23 rfl (lv_at hl 3 rfl) ?_
      obtain ⟨J39, hJ39, hm⟩ := jn_use hm
      have j39 : ∀ (y_2 : Int32), ∀ (H : Heap) (locs : List Loc) (ls : Array Slot), va_P D vwCl [(q, .inr (3, [.ref q_bits, .ref q_lesser, .ref q_greater, .int f_placed, .ref q_stops, .int f_groups, .ref q_beside, .ref q_found])), (q_bits, .inl (cI, 21, .inl f_bits)), (q_lesser, .inl (cI, 21, .inl f_lesser)), (q_greater, .inl (cI, 21, .inl f_greater)), (q_stops, .inl (cI, 21, .inl f_stops)), (q_beside, .inl (cI, 21, .inl f_beside)), (q_found, .inl (cI, 21, .inl f_found)), (q_p0, .inr (2, [.int f_p0_knots, .int f_p0_threads, .ref q_p0_ends, .ref q_p0_colours])), (q_p0_ends, .inl (cI, 21, .inl f_p0_ends)), (q_p0_colours, .inl (cI, 21, .inl f_p0_colours))] H → va_D A [(q, .inr (3, [.ref q_bits, .ref q_lesser, .ref q_greater, .int f_placed, .ref q_stops, .int f_groups, .ref q_beside, .ref q_found])), (q_bits, .inl (cI, 21, .inl f_bits)), (q_lesser, .inl (cI, 21, .inl f_lesser)), (q_greater, .inl (cI, 21, .inl f_greater)), (q_stops, .inl (cI, 21, .inl f_stops)), (q_beside, .inl (cI, 21, .inl f_beside)), (q_found, .inl (cI, 21, .inl f_found)), (q_p0, .inr (2, [.int f_p0_knots, .int f_p0_threads, .ref q_p0_ends, .ref q_p0_colours])), (q_p0_ends, .inl (cI, 21, .inl f_p0_ends)), (q_p0_colours, .inl (cI, 21, .inl f_p0_colours))] → va_S A s.heap H locs → lv_has ls 9 [(3, .long y_1), (0, .ref q), (1, .ref q_p0)] → J39 y_2 = some (r, f_bits', f_lesser', f_greater', f_placed', f_stops', f_groups', f_beside', f_found') → W p l e rX3_findFirst s m args below meth c H locs 0 0 Q (F0 m 39 ls [.int y_2]) := by
        intro y_2 H locs ls hP hD hS hl hm
        rw [hJ39] at hm
        refine lv_istore (lv' := [(5, .int y_2), (3, .long y_1), (0, .ref q), (1, .ref q_p0)]) hx hb dX3_findFirst_39 hl (by decide) rfl (fun ls hl => ?_)
        refine lv_aload_n hx hb dX3_findFirst_41 rfl (lv_at hl 2 rfl) ?_
        refine lv_aload_n hx hb dX3_findFirst_42 rfl (lv_at hl 3 rfl) ?_
        refine lv_iload hx hb dX3_findFirst_43 (lv_at hl 0 rfl) ?_
        obtain ⟨⟨f_bits_3, f_lesser_4, f_greater_5, f_placed_6, f_stops_7, f_groups_8, f_beside_9⟩, h_10, hm⟩ := bind_use hm
        refine g_kv (wc := [(q, .inr (3, [.ref q_bits, .ref q_lesser, .ref q_greater, .int f_placed, .ref q_stops, .int f_groups, .ref q_beside, .ref q_found])), (q_bits, .inl (cI, 21, .inl f_bits)), (q_lesser, .inl (cI, 21, .inl f_lesser)), (q_greater, .inl (cI, 21, .inl f_greater)), (q_stops, .inl (cI, 21, .inl f_stops)), (q_beside, .inl (cI, 21, .inl f_beside)), (q_found, .inl (cI, 21, .inl f_found)), (q_p0, .inr (2, [.int f_p0_knots, .int f_p0_threads, .ref q_p0_ends, .ref q_p0_colours])), (q_p0_ends, .inl (cI, 21, .inl f_p0_ends)), (q_p0_colours, .inl (cI, 21, .inl f_p0_colours))]) (wr := []) (w2 := [(q, .inr (3, [.ref q_bits, .ref q_lesser, .ref q_greater, .int f_placed_6, .ref q_stops, .int f_groups_8, .ref q_beside, .ref q_found])), (q_bits, .inl (cI, 21, .inl f_bits_3)), (q_lesser, .inl (cI, 21, .inl f_lesser_4)), (q_greater, .inl (cI, 21, .inl f_greater_5)), (q_stops, .inl (cI, 21, .inl f_stops_7)), (q_beside, .inl (cI, 21, .inl f_beside_9)), (q_found, .inl (cI, 21, .inl f_found)), (q_p0, .inr (2, [.int f_p0_knots, .int f_p0_threads, .ref q_p0_ends, .ref q_p0_colours])), (q_p0_ends, .inl (cI, 21, .inl f_p0_ends)), (q_p0_colours, .inl (cI, 21, .inl f_p0_colours))]) (va_runV (As := [.ref q_p0, .int y_2]) (rest := []) ⟨hx, hb, hml, hown, hts⟩ (k_X3_arrange l D cI cC cN N q q_bits q_lesser q_greater q_stops q_beside q_found q_p0 q_p0_ends q_p0_colours H.size f_bits f_lesser f_greater f_placed f_stops f_groups f_beside f_found f_p0_knots f_p0_threads f_p0_ends f_p0_colours y_2 f_bits_3 f_lesser_4 f_greater_5 f_placed_6 f_stops_7 f_groups_8 f_beside_9 h_10) (cwV 2 hts gX3_findFirst_X3_arrange rfl rfl rfl (by decide +kernel) ⟨Nat.le_of_ble_eq_true rfl, Nat.le_of_ble_eq_true rfl⟩) ⟨g_blind, va_recv (D := D) (ci := 3) (q0 := 0) hK hP rfl rfl, g_pre (hP.sub [0, 1, 2, 3, 4, 5, 6, 7, 8, 9] rfl) hK hN (hD.sub [0, 1, 2, 3, 4, 5, 6, 7, 8, 9] (by decide) rfl)⟩ rfl rfl hl.1 rfl (lv_room (Nat.le_of_ble_eq_true rfl)) dX3_findFirst_45 ⟨Nat.zero_le _, Nat.zero_le _⟩) hP hD hS hA [0, 1, 2, 3, 4, 5, 6, 7, 8, 9] [] rfl rfl (by decide) (by decide) rfl (fun H locs hP hD hS => ?_)
        refine lv_aload_n hx hb dX3_findFirst_48 rfl (lv_at hl 2 rfl) ?_
        refine lv_lload_n hx hb dX3_findFirst_49 rfl (lv_at hl 1 rfl) ?_
        refine lv_iconst (v := 0) hx hb dX3_findFirst_50 (by decide) ?_
        refine lv_iconst (v := 1) hx hb dX3_findFirst_51 (by decide) ?_
        obtain ⟨r_11, h_12, hm⟩ := bind_use hm
        refine g_ki (wc := [(q, .inr (3, [.ref q_bits, .ref q_lesser, .ref q_greater, .int f_placed_6, .ref q_stops, .int f_groups_8, .ref q_beside, .ref q_found])), (q_bits, .inl (cI, 21, .inl f_bits_3)), (q_lesser, .inl (cI, 21, .inl f_lesser_4)), (q_greater, .inl (cI, 21, .inl f_greater_5)), (q_stops, .inl (cI, 21, .inl f_stops_7)), (q_beside, .inl (cI, 21, .inl f_beside_9)), (q_found, .inl (cI, 21, .inl f_found))]) (wr := [(q_p0, .inr (2, [.int f_p0_knots, .int f_p0_threads, .ref q_p0_ends, .ref q_p0_colours])), (q_p0_ends, .inl (cI, 21, .inl f_p0_ends)), (q_p0_colours, .inl (cI, 21, .inl f_p0_colours))]) (w2 := [(q_p0, .inr (2, [.int f_p0_knots, .int f_p0_threads, .ref q_p0_ends, .ref q_p0_colours])), (q_p0_ends, .inl (cI, 21, .inl f_p0_ends)), (q_p0_colours, .inl (cI, 21, .inl f_p0_colours)), (q, .inr (3, [.ref q_bits, .ref q_lesser, .ref q_greater, .int f_placed_6, .ref q_stops, .int f_groups_8, .ref q_beside, .ref q_found])), (q_bits, .inl (cI, 21, .inl f_bits_3)), (q_lesser, .inl (cI, 21, .inl f_lesser_4)), (q_greater, .inl (cI, 21, .inl f_greater_5)), (q_stops, .inl (cI, 21, .inl f_stops_7)), (q_beside, .inl (cI, 21, .inl f_beside_9)), (q_found, .inl (cI, 21, .inl f_found))]) (va_runV (As := [.long y_1, .int 0, .int 1]) (rest := []) ⟨hx, hb, hml, hown, hts⟩ (k_X3_ways l D cI cC cN N q q_bits q_lesser q_greater q_stops q_beside q_found H.size f_bits_3 f_lesser_4 f_greater_5 f_placed_6 f_stops_7 f_groups_8 f_beside_9 f_found y_1 0 1 r_11 h_12) (cwV 3 hts gX3_findFirst_X3_ways rfl rfl rfl (by decide +kernel) ⟨Nat.le_of_ble_eq_true rfl, Nat.le_of_ble_eq_true rfl⟩) ⟨g_blind, va_recv (D := D) (ci := 3) (q0 := 0) hK hP rfl rfl, g_pre (hP.sub [0, 1, 2, 3, 4, 5, 6] rfl) hK hN (hD.sub [0, 1, 2, 3, 4, 5, 6] (by decide) rfl)⟩ rfl rfl hl.1 rfl (lv_room (Nat.le_of_ble_eq_true rfl)) dX3_findFirst_52 ⟨Nat.zero_le _, Nat.zero_le _⟩) hP hD hS hA [0, 1, 2, 3, 4, 5, 6] [7, 8, 9] rfl rfl (by decide) (by decide) rfl (fun H locs hP hD hS => ?_)
        refine lv_if_ne (tgt := 60) hx hb dX3_findFirst_55 (by decide) (fun hc => ?_) (fun hc => ?_)
        · have hm := if_f _ hc hm
          refine lv_iconst (v := 0) hx hb dX3_findFirst_60 (by decide) ?_
          refine lv_istore (lv' := [(6, .int 0), (5, .int y_2), (3, .long y_1), (0, .ref q), (1, .ref q_p0)]) hx hb dX3_findFirst_61 hl (by decide) rfl (fun ls hl => ?_)
          refine lv_iconst (v := 0) hx hb dX3_findFirst_63 (by decide) ?_
          refine lv_istore (lv' := [(7, .int 0), (6, .int 0), (5, .int y_2), (3, .long y_1), (0, .ref q), (1, .ref q_p0)]) hx hb dX3_findFirst_64 hl (by decide) rfl (fun ls hl => ?_)
          have l66 : ∀ (n_66 : Nat) (x7_13 : Int32) (x6_14 : Int32) (x3_15 : Int64) (f_found_16 : Nat → Int32), ∀ (H : Heap) (locs : List Loc) (ls : Array Slot), va_P D vwCl [(q_p0, .inr (2, [.int f_p0_knots, .int f_p0_threads, .ref q_p0_ends, .ref q_p0_colours])), (q_p0_ends, .inl (cI, 21, .inl f_p0_ends)), (q_p0_colours, .inl (cI, 21, .inl f_p0_colours)), (q, .inr (3, [.ref q_bits, .ref q_lesser, .ref q_greater, .int f_placed_6, .ref q_stops, .int f_groups_8, .ref q_beside, .ref q_found])), (q_bits, .inl (cI, 21, .inl f_bits_3)), (q_lesser, .inl (cI, 21, .inl f_lesser_4)), (q_greater, .inl (cI, 21, .inl f_greater_5)), (q_stops, .inl (cI, 21, .inl f_stops_7)), (q_beside, .inl (cI, 21, .inl f_beside_9)), (q_found, .inl (cI, 21, .inl f_found_16))] H → va_D A [(q_p0, .inr (2, [.int f_p0_knots, .int f_p0_threads, .ref q_p0_ends, .ref q_p0_colours])), (q_p0_ends, .inl (cI, 21, .inl f_p0_ends)), (q_p0_colours, .inl (cI, 21, .inl f_p0_colours)), (q, .inr (3, [.ref q_bits, .ref q_lesser, .ref q_greater, .int f_placed_6, .ref q_stops, .int f_groups_8, .ref q_beside, .ref q_found])), (q_bits, .inl (cI, 21, .inl f_bits_3)), (q_lesser, .inl (cI, 21, .inl f_lesser_4)), (q_greater, .inl (cI, 21, .inl f_greater_5)), (q_stops, .inl (cI, 21, .inl f_stops_7)), (q_beside, .inl (cI, 21, .inl f_beside_9)), (q_found, .inl (cI, 21, .inl f_found_16))] → va_S A s.heap H locs → lv_has ls 9 [(7, .int x7_13), (6, .int x6_14), (5, .int y_2), (3, .long x3_15), (0, .ref q), (1, .ref q_p0)] → m_X3_findFirst_L66 N f_p0_threads f_p0_ends f_p0_colours y_2 f_bits_3 f_lesser_4 f_greater_5 f_placed_6 f_stops_7 f_groups_8 f_beside_9 n_66 x7_13 x6_14 x3_15 f_found_16 = some (r, f_bits', f_lesser', f_greater', f_placed', f_stops', f_groups', f_beside', f_found') → W p l e rX3_findFirst s m args below meth c H locs 0 0 Q (F0 m 66 ls []) := by
            intro n_66
            induction n_66 with
            | zero => intro x7_13 x6_14 x3_15 f_found_16 H locs ls hP hD hS hl hm; rw [m_X3_findFirst_L66] at hm; exact no_use hm
            | succ n_66 ih66 =>
              intro x7_13 x6_14 x3_15 f_found_16 H locs ls hP hD hS hl hm
              rw [m_X3_findFirst_L66] at hm
              refine lv_iload hx hb dX3_findFirst_66 (lv_at hl 0 rfl) ?_
              refine lv_aload_n hx hb dX3_findFirst_68 rfl (lv_at hl 5 rfl) ?_
              obtain ⟨r_17, h_18, hm⟩ := bind_use hm
              refine g_ki (wc := [(q_p0, .inr (2, [.int f_p0_knots, .int f_p0_threads, .ref q_p0_ends, .ref q_p0_colours])), (q_p0_ends, .inl (cI, 21, .inl f_p0_ends)), (q_p0_colours, .inl (cI, 21, .inl f_p0_colours))]) (wr := [(q, .inr (3, [.ref q_bits, .ref q_lesser, .ref q_greater, .int f_placed_6, .ref q_stops, .int f_groups_8, .ref q_beside, .ref q_found])), (q_bits, .inl (cI, 21, .inl f_bits_3)), (q_lesser, .inl (cI, 21, .inl f_lesser_4)), (q_greater, .inl (cI, 21, .inl f_greater_5)), (q_stops, .inl (cI, 21, .inl f_stops_7)), (q_beside, .inl (cI, 21, .inl f_beside_9)), (q_found, .inl (cI, 21, .inl f_found_16))]) (w2 := [(q, .inr (3, [.ref q_bits, .ref q_lesser, .ref q_greater, .int f_placed_6, .ref q_stops, .int f_groups_8, .ref q_beside, .ref q_found])), (q_bits, .inl (cI, 21, .inl f_bits_3)), (q_lesser, .inl (cI, 21, .inl f_lesser_4)), (q_greater, .inl (cI, 21, .inl f_greater_5)), (q_stops, .inl (cI, 21, .inl f_stops_7)), (q_beside, .inl (cI, 21, .inl f_beside_9)), (q_found, .inl (cI, 21, .inl f_found_16)), (q_p0, .inr (2, [.int f_p0_knots, .int f_p0_threads, .ref q_p0_ends, .ref q_p0_colours])), (q_p0_ends, .inl (cI, 21, .inl f_p0_ends)), (q_p0_colours, .inl (cI, 21, .inl f_p0_colours))]) (va_runV (As := []) (rest := [.int x7_13]) ⟨hx, hb, hml, hown, hts⟩ (k_X2_threads l D cI cC cN N q_p0 q_p0_ends q_p0_colours H.size f_p0_knots f_p0_threads f_p0_ends f_p0_colours r_17 h_18) (cwV 0 hts gX3_findFirst_X2_threads rfl rfl rfl (by decide +kernel) ⟨Nat.le_of_ble_eq_true rfl, Nat.le_of_ble_eq_true rfl⟩) ⟨g_blind, va_recv (D := D) (ci := 2) (q0 := 0) hK hP rfl rfl, g_pre (hP.sub [0, 1, 2] rfl) hK hN (hD.sub [0, 1, 2] (by decide) rfl)⟩ rfl rfl hl.1 rfl (lv_room (Nat.le_of_ble_eq_true rfl)) dX3_findFirst_69 ⟨Nat.zero_le _, Nat.zero_le _⟩) hP hD hS hA [0, 1, 2] [3, 4, 5, 6, 7, 8, 9] rfl rfl (by decide) (by decide) rfl (fun H locs hP hD hS => ?_)
              refine lv_icmp_ge (tgt := 149) hx hb dX3_findFirst_72 (by decide) (fun hc => ?_) (fun hc => ?_)
              · have hm := if_t _ hc hm
                refine lv_iconst (v := 1) hx hb dX3_findFirst_149 (by decide) ?_
                have z1 := so_use hm
                obtain ⟨y1, z2⟩ := pr_use z1
                obtain ⟨y2, z3⟩ := pr_use z2
                obtain ⟨y3, z4⟩ := pr_use z3
                obtain ⟨y4, z5⟩ := pr_use z4
                obtain ⟨y5, z6⟩ := pr_use z5
                obtain ⟨y6, z7⟩ := pr_use z6
                obtain ⟨y7, z8⟩ := pr_use z7
                obtain ⟨y8, z9⟩ := pr_use z8
                subst y1
                subst y2
                subst y3
                subst y4
                subst y5
                subst y6
                subst y7
                subst y8
                subst z9
                exact hret _ _ _ _ _ dX3_findFirst_150 rfl rfl hP hD hS
              · have hm := if_f _ hc hm
                refine lv_aload_n hx hb dX3_findFirst_75 rfl (lv_at hl 5 rfl) ?_
                refine lv_iload hx hb dX3_findFirst_76 (lv_at hl 0 rfl) ?_
                obtain ⟨r_19, h_20, hm⟩ := bind_use hm
                refine g_ki (wc := [(q_p0, .inr (2, [.int f_p0_knots, .int f_p0_threads, .ref q_p0_ends, .ref q_p0_colours])), (q_p0_ends, .inl (cI, 21, .inl f_p0_ends)), (q_p0_colours, .inl (cI, 21, .inl f_p0_colours))]) (wr := [(q, .inr (3, [.ref q_bits, .ref q_lesser, .ref q_greater, .int f_placed_6, .ref q_stops, .int f_groups_8, .ref q_beside, .ref q_found])), (q_bits, .inl (cI, 21, .inl f_bits_3)), (q_lesser, .inl (cI, 21, .inl f_lesser_4)), (q_greater, .inl (cI, 21, .inl f_greater_5)), (q_stops, .inl (cI, 21, .inl f_stops_7)), (q_beside, .inl (cI, 21, .inl f_beside_9)), (q_found, .inl (cI, 21, .inl f_found_16))]) (w2 := [(q, .inr (3, [.ref q_bits, .ref q_lesser, .ref q_greater, .int f_placed_6, .ref q_stops, .int f_groups_8, .ref q_beside, .ref q_found])), (q_bits, .inl (cI, 21, .inl f_bits_3)), (q_lesser, .inl (cI, 21, .inl f_lesser_4)), (q_greater, .inl (cI, 21, .inl f_greater_5)), (q_stops, .inl (cI, 21, .inl f_stops_7)), (q_beside, .inl (cI, 21, .inl f_beside_9)), (q_found, .inl (cI, 21, .inl f_found_16)), (q_p0, .inr (2, [.int f_p0_knots, .int f_p0_threads, .ref q_p0_ends, .ref q_p0_colours])), (q_p0_ends, .inl (cI, 21, .inl f_p0_ends)), (q_p0_colours, .inl (cI, 21, .inl f_p0_colours))]) (va_runV (As := [.int x7_13]) (rest := []) ⟨hx, hb, hml, hown, hts⟩ (k_X2_colour l D cI cC cN N q_p0 q_p0_ends q_p0_colours H.size f_p0_knots f_p0_threads f_p0_ends f_p0_colours x7_13 r_19 h_20) (cwV 1 hts gX3_findFirst_X2_colour rfl rfl rfl (by decide +kernel) ⟨Nat.le_of_ble_eq_true rfl, Nat.le_of_ble_eq_true rfl⟩) ⟨g_blind, va_recv (D := D) (ci := 2) (q0 := 7) hK hP rfl rfl, g_pre (hP.sub [7, 8, 9] rfl) hK hN (hD.sub [7, 8, 9] (by decide) rfl)⟩ rfl rfl hl.1 rfl (lv_room (Nat.le_of_ble_eq_true rfl)) dX3_findFirst_78 ⟨Nat.zero_le _, Nat.zero_le _⟩) hP hD hS hA [7, 8, 9] [0, 1, 2, 3, 4, 5, 6] rfl rfl (by decide) (by decide) rfl (fun H locs hP hD hS => ?_)
                refine lv_istore (lv' := [(8, .int r_19), (7, .int x7_13), (6, .int x6_14), (5, .int y_2), (3, .long x3_15), (0, .ref q), (1, .ref q_p0)]) hx hb dX3_findFirst_81 hl (by decide) rfl (fun ls hl => ?_)
                refine lv_iload hx hb dX3_findFirst_83 (lv_at hl 3 rfl) ?_
                refine lv_iload hx hb dX3_findFirst_85 (lv_at hl 1 rfl) ?_
                obtain ⟨r_21, h_22, hm⟩ := bind_use hm
                refine g_ki (wc := []) (wr := [(q, .inr (3, [.ref q_bits, .ref q_lesser, .ref q_greater, .int f_placed_6, .ref q_stops, .int f_groups_8, .ref q_beside, .ref q_found])), (q_bits, .inl (cI, 21, .inl f_bits_3)), (q_lesser, .inl (cI, 21, .inl f_lesser_4)), (q_greater, .inl (cI, 21, .inl f_greater_5)), (q_stops, .inl (cI, 21, .inl f_stops_7)), (q_beside, .inl (cI, 21, .inl f_beside_9)), (q_found, .inl (cI, 21, .inl f_found_16)), (q_p0, .inr (2, [.int f_p0_knots, .int f_p0_threads, .ref q_p0_ends, .ref q_p0_colours])), (q_p0_ends, .inl (cI, 21, .inl f_p0_ends)), (q_p0_colours, .inl (cI, 21, .inl f_p0_colours))]) (w2 := [(q, .inr (3, [.ref q_bits, .ref q_lesser, .ref q_greater, .int f_placed_6, .ref q_stops, .int f_groups_8, .ref q_beside, .ref q_found])), (q_bits, .inl (cI, 21, .inl f_bits_3)), (q_lesser, .inl (cI, 21, .inl f_lesser_4)), (q_greater, .inl (cI, 21, .inl f_greater_5)), (q_stops, .inl (cI, 21, .inl f_stops_7)), (q_beside, .inl (cI, 21, .inl f_beside_9)), (q_found, .inl (cI, 21, .inl f_found_16)), (q_p0, .inr (2, [.int f_p0_knots, .int f_p0_threads, .ref q_p0_ends, .ref q_p0_colours])), (q_p0_ends, .inl (cI, 21, .inl f_p0_ends)), (q_p0_colours, .inl (cI, 21, .inl f_p0_colours))]) (va_runSN (As := [.int y_2, .int x7_13]) (rest := []) ⟨hx, hb, hml, hown, hts⟩ (k_X6_holds l D cI cC cN N H.size y_2 x7_13 r_21 h_22) ⟨va_cnB 2 hts gX3_findFirst_X6_holds_n72 rfl rfl rfl (hN (.methodLinkNest RX3 72 yX6_holds RX6) (by decide +kernel)) (hts (.initialized RX6) (by decide +kernel)) (by decide +kernel) ⟨Nat.le_of_ble_eq_true rfl, Nat.le_of_ble_eq_true rfl⟩, hts (.static yX6_holds) (by decide +kernel), trivial⟩ ⟨g_blind, g_pre (hP.sub [] rfl) hK hN (hD.sub [] (by decide) rfl)⟩ rfl rfl hl.1 rfl (lv_room (Nat.le_of_ble_eq_true rfl)) dX3_findFirst_87 ⟨Nat.zero_le _, Nat.zero_le _⟩) hP hD hS hA [] [0, 1, 2, 3, 4, 5, 6, 7, 8, 9] rfl rfl (by decide) (by decide) rfl (fun H locs hP hD hS => ?_)
                obtain ⟨J132, hJ132, hm⟩ := jn_use hm
                have j132 : ∀ (x8_23 : Int32) (x6_24 : Int32) (x3_25 : Int64), ∀ (H : Heap) (locs : List Loc) (ls : Array Slot), va_P D vwCl [(q, .inr (3, [.ref q_bits, .ref q_lesser, .ref q_greater, .int f_placed_6, .ref q_stops, .int f_groups_8, .ref q_beside, .ref q_found])), (q_bits, .inl (cI, 21, .inl f_bits_3)), (q_lesser, .inl (cI, 21, .inl f_lesser_4)), (q_greater, .inl (cI, 21, .inl f_greater_5)), (q_stops, .inl (cI, 21, .inl f_stops_7)), (q_beside, .inl (cI, 21, .inl f_beside_9)), (q_found, .inl (cI, 21, .inl f_found_16)), (q_p0, .inr (2, [.int f_p0_knots, .int f_p0_threads, .ref q_p0_ends, .ref q_p0_colours])), (q_p0_ends, .inl (cI, 21, .inl f_p0_ends)), (q_p0_colours, .inl (cI, 21, .inl f_p0_colours))] H → va_D A [(q, .inr (3, [.ref q_bits, .ref q_lesser, .ref q_greater, .int f_placed_6, .ref q_stops, .int f_groups_8, .ref q_beside, .ref q_found])), (q_bits, .inl (cI, 21, .inl f_bits_3)), (q_lesser, .inl (cI, 21, .inl f_lesser_4)), (q_greater, .inl (cI, 21, .inl f_greater_5)), (q_stops, .inl (cI, 21, .inl f_stops_7)), (q_beside, .inl (cI, 21, .inl f_beside_9)), (q_found, .inl (cI, 21, .inl f_found_16)), (q_p0, .inr (2, [.int f_p0_knots, .int f_p0_threads, .ref q_p0_ends, .ref q_p0_colours])), (q_p0_ends, .inl (cI, 21, .inl f_p0_ends)), (q_p0_colours, .inl (cI, 21, .inl f_p0_colours))] → va_S A s.heap H locs → lv_has ls 9 [(8, .int x8_23), (7, .int x7_13), (6, .int x6_24), (5, .int y_2), (3, .long x3_25), (0, .ref q), (1, .ref q_p0)] → J132 x8_23 x6_24 x3_25 = some (r, f_bits', f_lesser', f_greater', f_placed', f_stops', f_groups', f_beside', f_found') → W p l e rX3_findFirst s m args below meth c H locs 0 0 Q (F0 m 132 ls []) := by
                  intro x8_23 x6_24 x3_25 H locs ls hP hD hS hl hm
                  rw [hJ132] at hm
                  refine lv_aload_n hx hb dX3_findFirst_132 rfl (lv_at hl 5 rfl) ?_
                  refine va_get (D := D) (ci := 3) (v := .ref q_found) (C := RX3) (T := TX3) (N := 8) hx hb hts (by decide +kernel) hown hK hP 0 rfl rfl 7 (by decide) (hts (.fieldLink RX3 27 "KnotStripes$Painter" "found" "[I") (by decide +kernel)) (fun _ h9 => h9) rfl dX3_findFirst_133 ?_
                  refine lv_iload hx hb dX3_findFirst_136 (lv_at hl 1 rfl) ?_
                  refine lv_iload hx hb dX3_findFirst_138 (lv_at hl 0 rfl) ?_
                  obtain ⟨f_found_26, h_27, hm⟩ := bind_use hm
                  refine g_kv (wc := [(q_found, .inl (cI, 21, .inl f_found_16))]) (wr := [(q, .inr (3, [.ref q_bits, .ref q_lesser, .ref q_greater, .int f_placed_6, .ref q_stops, .int f_groups_8, .ref q_beside, .ref q_found])), (q_bits, .inl (cI, 21, .inl f_bits_3)), (q_lesser, .inl (cI, 21, .inl f_lesser_4)), (q_greater, .inl (cI, 21, .inl f_greater_5)), (q_stops, .inl (cI, 21, .inl f_stops_7)), (q_beside, .inl (cI, 21, .inl f_beside_9)), (q_p0, .inr (2, [.int f_p0_knots, .int f_p0_threads, .ref q_p0_ends, .ref q_p0_colours])), (q_p0_ends, .inl (cI, 21, .inl f_p0_ends)), (q_p0_colours, .inl (cI, 21, .inl f_p0_colours))]) (w2 := [(q, .inr (3, [.ref q_bits, .ref q_lesser, .ref q_greater, .int f_placed_6, .ref q_stops, .int f_groups_8, .ref q_beside, .ref q_found])), (q_bits, .inl (cI, 21, .inl f_bits_3)), (q_lesser, .inl (cI, 21, .inl f_lesser_4)), (q_greater, .inl (cI, 21, .inl f_greater_5)), (q_stops, .inl (cI, 21, .inl f_stops_7)), (q_beside, .inl (cI, 21, .inl f_beside_9)), (q_p0, .inr (2, [.int f_p0_knots, .int f_p0_threads, .ref q_p0_ends, .ref q_p0_colours])), (q_p0_ends, .inl (cI, 21, .inl f_p0_ends)), (q_p0_colours, .inl (cI, 21, .inl f_p0_colours)), (q_found, .inl (cI, 21, .inl f_found_26))]) (va_runSN (As := [.ref q_found, .int x7_13, .int x8_23]) (rest := []) ⟨hx, hb, hml, hown, hts⟩ (k_X6_put l D cI cC cN N q_found 21 H.size f_found_16 x7_13 x8_23 f_found_26 h_27) ⟨va_cnB 3 hts gX3_findFirst_X6_put_n90 rfl rfl rfl (hN (.methodLinkNest RX3 90 yX6_put RX6) (by decide +kernel)) (hts (.initialized RX6) (by decide +kernel)) (by decide +kernel) ⟨Nat.le_of_ble_eq_true rfl, Nat.le_of_ble_eq_true rfl⟩, hts (.static yX6_put) (by decide +kernel), trivial⟩ ⟨g_blind, g_pre (hP.sub [6] rfl) hK hN (hD.sub [6] (by decide) rfl)⟩ rfl rfl hl.1 rfl (lv_room (Nat.le_of_ble_eq_true rfl)) dX3_findFirst_140 ⟨Nat.zero_le _, Nat.zero_le _⟩) hP hD hS hA [6] [0, 1, 2, 3, 4, 5, 7, 8, 9] rfl rfl (by decide) (by decide) rfl (fun H locs hP hD hS => ?_)
                  refine lv_iinc (v := (x7_13 + 1)) (lv' := [(7, .int (x7_13 + 1)), (8, .int x8_23), (6, .int x6_24), (5, .int y_2), (3, .long x3_25), (0, .ref q), (1, .ref q_p0)]) hx hb dX3_findFirst_143 hl (k := 1) rfl rfl (by decide) rfl (fun ls hl => ?_)
                  refine lv_goto (tgt := 66) hx hb dX3_findFirst_146 (by decide) ?_
                  exact ih66 (x7_13 + 1) x6_24 x3_25 f_found_26 _ _ _ (hP.sub [6, 7, 8, 0, 1, 2, 3, 4, 5, 9] rfl) (hD.sub [6, 7, 8, 0, 1, 2, 3, 4, 5, 9] (by decide) rfl) hS (lv_sub hl [0, 2, 3, 4, 5, 6] rfl) hm
                refine lv_if_eq (tgt := 132) hx hb dX3_findFirst_90 (by decide) (fun hc => ?_) (fun hc => ?_)
                · have hm := if_t _ hc hm
                  exact j132 r_19 x6_14 x3_15 _ _ _ hP hD hS hl hm
                · have hm := if_f _ hc hm
                  refine lv_iload hx hb dX3_findFirst_93 (lv_at hl 2 rfl) ?_
                  refine lv_iload hx hb dX3_findFirst_95 (lv_at hl 1 rfl) ?_
                  obtain ⟨r_28, h_29, hm⟩ := bind_use hm
                  refine g_ki (wc := []) (wr := [(q, .inr (3, [.ref q_bits, .ref q_lesser, .ref q_greater, .int f_placed_6, .ref q_stops, .int f_groups_8, .ref q_beside, .ref q_found])), (q_bits, .inl (cI, 21, .inl f_bits_3)), (q_lesser, .inl (cI, 21, .inl f_lesser_4)), (q_greater, .inl (cI, 21, .inl f_greater_5)), (q_stops, .inl (cI, 21, .inl f_stops_7)), (q_beside, .inl (cI, 21, .inl f_beside_9)), (q_found, .inl (cI, 21, .inl f_found_16)), (q_p0, .inr (2, [.int f_p0_knots, .int f_p0_threads, .ref q_p0_ends, .ref q_p0_colours])), (q_p0_ends, .inl (cI, 21, .inl f_p0_ends)), (q_p0_colours, .inl (cI, 21, .inl f_p0_colours))]) (w2 := [(q, .inr (3, [.ref q_bits, .ref q_lesser, .ref q_greater, .int f_placed_6, .ref q_stops, .int f_groups_8, .ref q_beside, .ref q_found])), (q_bits, .inl (cI, 21, .inl f_bits_3)), (q_lesser, .inl (cI, 21, .inl f_lesser_4)), (q_greater, .inl (cI, 21, .inl f_greater_5)), (q_stops, .inl (cI, 21, .inl f_stops_7)), (q_beside, .inl (cI, 21, .inl f_beside_9)), (q_found, .inl (cI, 21, .inl f_found_16)), (q_p0, .inr (2, [.int f_p0_knots, .int f_p0_threads, .ref q_p0_ends, .ref q_p0_colours])), (q_p0_ends, .inl (cI, 21, .inl f_p0_ends)), (q_p0_colours, .inl (cI, 21, .inl f_p0_colours))]) (va_runSN (As := [.int x7_13]) (rest := [.int x6_14]) ⟨hx, hb, hml, hown, hts⟩ (k_X6_bit l D cI cC cN N H.size x7_13 r_28 h_29) ⟨va_cnB 1 hts gX3_findFirst_X6_bit_n76 rfl rfl rfl (hN (.methodLinkNest RX3 76 yX6_bit RX6) (by decide +kernel)) (hts (.initialized RX6) (by decide +kernel)) (by decide +kernel) ⟨Nat.le_of_ble_eq_true rfl, Nat.le_of_ble_eq_true rfl⟩, hts (.static yX6_bit) (by decide +kernel), trivial⟩ ⟨g_blind, g_pre (hP.sub [] rfl) hK hN (hD.sub [] (by decide) rfl)⟩ rfl rfl hl.1 rfl (lv_room (Nat.le_of_ble_eq_true rfl)) dX3_findFirst_97 ⟨Nat.zero_le _, Nat.zero_le _⟩) hP hD hS hA [] [0, 1, 2, 3, 4, 5, 6, 7, 8, 9] rfl rfl (by decide) (by decide) rfl (fun H locs hP hD hS => ?_)
                  refine lv_ior hx hb dX3_findFirst_100 ?_
                  refine lv_topi (fun v6_30 ev6_30 => ?_)
                  have hm := nm_use ev6_30 hm
                  refine lv_istore (lv' := [(6, .int v6_30), (8, .int r_19), (7, .int x7_13), (5, .int y_2), (3, .long x3_15), (0, .ref q), (1, .ref q_p0)]) hx hb dX3_findFirst_101 hl (by decide) rfl (fun ls hl => ?_)
                  refine lv_aload_n hx hb dX3_findFirst_103 rfl (lv_at hl 5 rfl) ?_
                  refine lv_aload_n hx hb dX3_findFirst_104 rfl (lv_at hl 6 rfl) ?_
                  refine lv_iload hx hb dX3_findFirst_105 (lv_at hl 2 rfl) ?_
                  obtain ⟨r_31, h_32, hm⟩ := bind_use hm
                  refine g_ki (wc := [(q_p0, .inr (2, [.int f_p0_knots, .int f_p0_threads, .ref q_p0_ends, .ref q_p0_colours])), (q_p0_ends, .inl (cI, 21, .inl f_p0_ends)), (q_p0_colours, .inl (cI, 21, .inl f_p0_colours))]) (wr := [(q, .inr (3, [.ref q_bits, .ref q_lesser, .ref q_greater, .int f_placed_6, .ref q_stops, .int f_groups_8, .ref q_beside, .ref q_found])), (q_bits, .inl (cI, 21, .inl f_bits_3)), (q_lesser, .inl (cI, 21, .inl f_lesser_4)), (q_greater, .inl (cI, 21, .inl f_greater_5)), (q_stops, .inl (cI, 21, .inl f_stops_7)), (q_beside, .inl (cI, 21, .inl f_beside_9)), (q_found, .inl (cI, 21, .inl f_found_16))]) (w2 := [(q, .inr (3, [.ref q_bits, .ref q_lesser, .ref q_greater, .int f_placed_6, .ref q_stops, .int f_groups_8, .ref q_beside, .ref q_found])), (q_bits, .inl (cI, 21, .inl f_bits_3)), (q_lesser, .inl (cI, 21, .inl f_lesser_4)), (q_greater, .inl (cI, 21, .inl f_greater_5)), (q_stops, .inl (cI, 21, .inl f_stops_7)), (q_beside, .inl (cI, 21, .inl f_beside_9)), (q_found, .inl (cI, 21, .inl f_found_16)), (q_p0, .inr (2, [.int f_p0_knots, .int f_p0_threads, .ref q_p0_ends, .ref q_p0_colours])), (q_p0_ends, .inl (cI, 21, .inl f_p0_ends)), (q_p0_colours, .inl (cI, 21, .inl f_p0_colours))]) (va_runV (As := [.int x7_13]) (rest := [.ref q]) ⟨hx, hb, hml, hown, hts⟩ (k_X2_ends l D cI cC cN N q_p0 q_p0_ends q_p0_colours H.size f_p0_knots f_p0_threads f_p0_ends f_p0_colours x7_13 r_31 h_32) (cwV 1 hts gX3_findFirst_X2_ends rfl rfl rfl (by decide +kernel) ⟨Nat.le_of_ble_eq_true rfl, Nat.le_of_ble_eq_true rfl⟩) ⟨g_blind, va_recv (D := D) (ci := 2) (q0 := 7) hK hP rfl rfl, g_pre (hP.sub [7, 8, 9] rfl) hK hN (hD.sub [7, 8, 9] (by decide) rfl)⟩ rfl rfl hl.1 rfl (lv_room (Nat.le_of_ble_eq_true rfl)) dX3_findFirst_107 ⟨Nat.zero_le _, Nat.zero_le _⟩) hP hD hS hA [7, 8, 9] [0, 1, 2, 3, 4, 5, 6] rfl rfl (by decide) (by decide) rfl (fun H locs hP hD hS => ?_)
                  refine lv_lload_n hx hb dX3_findFirst_110 rfl (lv_at hl 4 rfl) ?_
                  refine lv_iload hx hb dX3_findFirst_111 (lv_at hl 0 rfl) ?_
                  obtain ⟨r_33, h_34, hm⟩ := bind_use hm
                  refine g_ki (wc := [(q, .inr (3, [.ref q_bits, .ref q_lesser, .ref q_greater, .int f_placed_6, .ref q_stops, .int f_groups_8, .ref q_beside, .ref q_found])), (q_bits, .inl (cI, 21, .inl f_bits_3)), (q_lesser, .inl (cI, 21, .inl f_lesser_4)), (q_greater, .inl (cI, 21, .inl f_greater_5)), (q_stops, .inl (cI, 21, .inl f_stops_7)), (q_beside, .inl (cI, 21, .inl f_beside_9)), (q_found, .inl (cI, 21, .inl f_found_16))]) (wr := [(q_p0, .inr (2, [.int f_p0_knots, .int f_p0_threads, .ref q_p0_ends, .ref q_p0_colours])), (q_p0_ends, .inl (cI, 21, .inl f_p0_ends)), (q_p0_colours, .inl (cI, 21, .inl f_p0_colours))]) (w2 := [(q_p0, .inr (2, [.int f_p0_knots, .int f_p0_threads, .ref q_p0_ends, .ref q_p0_colours])), (q_p0_ends, .inl (cI, 21, .inl f_p0_ends)), (q_p0_colours, .inl (cI, 21, .inl f_p0_colours)), (q, .inr (3, [.ref q_bits, .ref q_lesser, .ref q_greater, .int f_placed_6, .ref q_stops, .int f_groups_8, .ref q_beside, .ref q_found])), (q_bits, .inl (cI, 21, .inl f_bits_3)), (q_lesser, .inl (cI, 21, .inl f_lesser_4)), (q_greater, .inl (cI, 21, .inl f_greater_5)), (q_stops, .inl (cI, 21, .inl f_stops_7)), (q_beside, .inl (cI, 21, .inl f_beside_9)), (q_found, .inl (cI, 21, .inl f_found_16))]) (va_runV (As := [.int r_31, .long x3_15, .int v6_30]) (rest := []) ⟨hx, hb, hml, hown, hts⟩ (k_X3_lowestColour l D cI cC cN N q q_bits q_lesser q_greater q_stops q_beside q_found H.size f_bits_3 f_lesser_4 f_greater_5 f_placed_6 f_stops_7 f_groups_8 f_beside_9 f_found_16 r_31 x3_15 v6_30 r_33 h_34) (cwV 3 hts gX3_findFirst_X3_lowestColour rfl rfl rfl (by decide +kernel) ⟨Nat.le_of_ble_eq_true rfl, Nat.le_of_ble_eq_true rfl⟩) ⟨g_blind, va_recv (D := D) (ci := 3) (q0 := 0) hK hP rfl rfl, g_pre (hP.sub [0, 1, 2, 3, 4, 5, 6] rfl) hK hN (hD.sub [0, 1, 2, 3, 4, 5, 6] (by decide) rfl)⟩ rfl rfl hl.1 rfl (lv_room (Nat.le_of_ble_eq_true rfl)) dX3_findFirst_113 ⟨Nat.zero_le _, Nat.zero_le _⟩) hP hD hS hA [0, 1, 2, 3, 4, 5, 6] [7, 8, 9] rfl rfl (by decide) (by decide) rfl (fun H locs hP hD hS => ?_)
                  refine lv_istore (lv' := [(8, .int r_33), (6, .int v6_30), (7, .int x7_13), (5, .int y_2), (3, .long x3_15), (0, .ref q), (1, .ref q_p0)]) hx hb dX3_findFirst_116 hl (by decide) rfl (fun ls hl => ?_)
                  refine lv_lload_n hx hb dX3_findFirst_118 rfl (lv_at hl 4 rfl) ?_
                  refine lv_aload_n hx hb dX3_findFirst_119 rfl (lv_at hl 6 rfl) ?_
                  refine lv_iload hx hb dX3_findFirst_120 (lv_at hl 2 rfl) ?_
                  obtain ⟨r_35, h_36, hm⟩ := bind_use hm
                  refine g_ki (wc := [(q_p0, .inr (2, [.int f_p0_knots, .int f_p0_threads, .ref q_p0_ends, .ref q_p0_colours])), (q_p0_ends, .inl (cI, 21, .inl f_p0_ends)), (q_p0_colours, .inl (cI, 21, .inl f_p0_colours))]) (wr := [(q, .inr (3, [.ref q_bits, .ref q_lesser, .ref q_greater, .int f_placed_6, .ref q_stops, .int f_groups_8, .ref q_beside, .ref q_found])), (q_bits, .inl (cI, 21, .inl f_bits_3)), (q_lesser, .inl (cI, 21, .inl f_lesser_4)), (q_greater, .inl (cI, 21, .inl f_greater_5)), (q_stops, .inl (cI, 21, .inl f_stops_7)), (q_beside, .inl (cI, 21, .inl f_beside_9)), (q_found, .inl (cI, 21, .inl f_found_16))]) (w2 := [(q, .inr (3, [.ref q_bits, .ref q_lesser, .ref q_greater, .int f_placed_6, .ref q_stops, .int f_groups_8, .ref q_beside, .ref q_found])), (q_bits, .inl (cI, 21, .inl f_bits_3)), (q_lesser, .inl (cI, 21, .inl f_lesser_4)), (q_greater, .inl (cI, 21, .inl f_greater_5)), (q_stops, .inl (cI, 21, .inl f_stops_7)), (q_beside, .inl (cI, 21, .inl f_beside_9)), (q_found, .inl (cI, 21, .inl f_found_16)), (q_p0, .inr (2, [.int f_p0_knots, .int f_p0_threads, .ref q_p0_ends, .ref q_p0_colours])), (q_p0_ends, .inl (cI, 21, .inl f_p0_ends)), (q_p0_colours, .inl (cI, 21, .inl f_p0_colours))]) (va_runV (As := [.int x7_13]) (rest := [.long x3_15]) ⟨hx, hb, hml, hown, hts⟩ (k_X2_ends l D cI cC cN N q_p0 q_p0_ends q_p0_colours H.size f_p0_knots f_p0_threads f_p0_ends f_p0_colours x7_13 r_35 h_36) (cwV 1 hts gX3_findFirst_X2_ends rfl rfl rfl (by decide +kernel) ⟨Nat.le_of_ble_eq_true rfl, Nat.le_of_ble_eq_true rfl⟩) ⟨g_blind, va_recv (D := D) (ci := 2) (q0 := 0) hK hP rfl rfl, g_pre (hP.sub [0, 1, 2] rfl) hK hN (hD.sub [0, 1, 2] (by decide) rfl)⟩ rfl rfl hl.1 rfl (lv_room (Nat.le_of_ble_eq_true rfl)) dX3_findFirst_122 ⟨Nat.zero_le _, Nat.zero_le _⟩) hP hD hS hA [0, 1, 2] [3, 4, 5, 6, 7, 8, 9] rfl rfl (by decide) (by decide) rfl (fun H locs hP hD hS => ?_)
                  refine lv_iload hx hb dX3_findFirst_125 (lv_at hl 0 rfl) ?_
                  obtain ⟨r_37, h_38, hm⟩ := bind_use hm
                  refine g_kl (wc := []) (wr := [(q, .inr (3, [.ref q_bits, .ref q_lesser, .ref q_greater, .int f_placed_6, .ref q_stops, .int f_groups_8, .ref q_beside, .ref q_found])), (q_bits, .inl (cI, 21, .inl f_bits_3)), (q_lesser, .inl (cI, 21, .inl f_lesser_4)), (q_greater, .inl (cI, 21, .inl f_greater_5)), (q_stops, .inl (cI, 21, .inl f_stops_7)), (q_beside, .inl (cI, 21, .inl f_beside_9)), (q_found, .inl (cI, 21, .inl f_found_16)), (q_p0, .inr (2, [.int f_p0_knots, .int f_p0_threads, .ref q_p0_ends, .ref q_p0_colours])), (q_p0_ends, .inl (cI, 21, .inl f_p0_ends)), (q_p0_colours, .inl (cI, 21, .inl f_p0_colours))]) (w2 := [(q, .inr (3, [.ref q_bits, .ref q_lesser, .ref q_greater, .int f_placed_6, .ref q_stops, .int f_groups_8, .ref q_beside, .ref q_found])), (q_bits, .inl (cI, 21, .inl f_bits_3)), (q_lesser, .inl (cI, 21, .inl f_lesser_4)), (q_greater, .inl (cI, 21, .inl f_greater_5)), (q_stops, .inl (cI, 21, .inl f_stops_7)), (q_beside, .inl (cI, 21, .inl f_beside_9)), (q_found, .inl (cI, 21, .inl f_found_16)), (q_p0, .inr (2, [.int f_p0_knots, .int f_p0_threads, .ref q_p0_ends, .ref q_p0_colours])), (q_p0_ends, .inl (cI, 21, .inl f_p0_ends)), (q_p0_colours, .inl (cI, 21, .inl f_p0_colours))]) (va_runS (As := [.int r_35, .int r_33]) (rest := [.long x3_15]) ⟨hx, hb, hml, hown, hts⟩ (k_X3_usedBy l D cI cC cN N H.size r_35 r_33 r_37 h_38) (va_cwS 2 hts gX3_findFirst_X3_usedBy rfl rfl rfl (by decide +kernel) ⟨Nat.le_of_ble_eq_true rfl, Nat.le_of_ble_eq_true rfl⟩) ⟨g_blind, g_pre (hP.sub [] rfl) hK hN (hD.sub [] (by decide) rfl)⟩ rfl rfl hl.1 rfl (lv_room (Nat.le_of_ble_eq_true rfl)) dX3_findFirst_127 ⟨Nat.zero_le _, Nat.zero_le _⟩) hP hD hS hA [] [0, 1, 2, 3, 4, 5, 6, 7, 8, 9] rfl rfl (by decide) (by decide) rfl (fun H locs hP hD hS => ?_)
                  refine lv_lor hx hb dX3_findFirst_130 ?_
                  refine lv_topl (fun v3_39 ev3_39 => ?_)
                  have hm := nm_use ev3_39 hm
                  refine lv_lstore_n (lv' := [(3, .long v3_39), (8, .int r_33), (6, .int v6_30), (7, .int x7_13), (5, .int y_2), (0, .ref q), (1, .ref q_p0)]) hx hb dX3_findFirst_131 rfl hl (by decide) rfl (fun ls hl => ?_)
                  exact j132 r_33 v6_30 v3_39 _ _ _ hP hD hS (lv_sub hl [1, 3, 2, 4, 0, 5, 6] rfl) hm
          exact l66 N 0 0 y_1 f_found _ _ _ hP hD hS hl hm
        · have hm := if_t _ hc hm
          refine lv_iconst (v := 0) hx hb dX3_findFirst_58 (by decide) ?_
          have z1 := so_use hm
          obtain ⟨y1, z2⟩ := pr_use z1
          obtain ⟨y2, z3⟩ := pr_use z2
          obtain ⟨y3, z4⟩ := pr_use z3
          obtain ⟨y4, z5⟩ := pr_use z4
          obtain ⟨y5, z6⟩ := pr_use z5
          obtain ⟨y6, z7⟩ := pr_use z6
          obtain ⟨y7, z8⟩ := pr_use z7
          obtain ⟨y8, z9⟩ := pr_use z8
          subst y1
          subst y2
          subst y3
          subst y4
          subst y5
          subst y6
          subst y7
          subst y8
          subst z9
          exact hret _ _ _ _ _ dX3_findFirst_59 rfl rfl (hP.sub [3, 4, 5, 6, 7, 8, 9, 0, 1, 2] rfl) (hD.sub [3, 4, 5, 6, 7, 8, 9, 0, 1, 2] (by decide) rfl) hS
      refine lv_if_eq (tgt := 35) hx hb dX3_findFirst_24 (by decide) (fun hc => ?_) (fun hc => ?_)
      · have hm := if_t _ hc hm
        refine lv_aload_n hx hb dX3_findFirst_35 rfl (lv_at hl 2 rfl) ?_
        obtain ⟨r_40, h_41, hm⟩ := bind_use hm
        refine g_ki (wc := [(q_p0, .inr (2, [.int f_p0_knots, .int f_p0_threads, .ref q_p0_ends, .ref q_p0_colours])), (q_p0_ends, .inl (cI, 21, .inl f_p0_ends)), (q_p0_colours, .inl (cI, 21, .inl f_p0_colours))]) (wr := [(q, .inr (3, [.ref q_bits, .ref q_lesser, .ref q_greater, .int f_placed, .ref q_stops, .int f_groups, .ref q_beside, .ref q_found])), (q_bits, .inl (cI, 21, .inl f_bits)), (q_lesser, .inl (cI, 21, .inl f_lesser)), (q_greater, .inl (cI, 21, .inl f_greater)), (q_stops, .inl (cI, 21, .inl f_stops)), (q_beside, .inl (cI, 21, .inl f_beside)), (q_found, .inl (cI, 21, .inl f_found))]) (w2 := [(q, .inr (3, [.ref q_bits, .ref q_lesser, .ref q_greater, .int f_placed, .ref q_stops, .int f_groups, .ref q_beside, .ref q_found])), (q_bits, .inl (cI, 21, .inl f_bits)), (q_lesser, .inl (cI, 21, .inl f_lesser)), (q_greater, .inl (cI, 21, .inl f_greater)), (q_stops, .inl (cI, 21, .inl f_stops)), (q_beside, .inl (cI, 21, .inl f_beside)), (q_found, .inl (cI, 21, .inl f_found)), (q_p0, .inr (2, [.int f_p0_knots, .int f_p0_threads, .ref q_p0_ends, .ref q_p0_colours])), (q_p0_ends, .inl (cI, 21, .inl f_p0_ends)), (q_p0_colours, .inl (cI, 21, .inl f_p0_colours))]) (va_runV (As := []) (rest := []) ⟨hx, hb, hml, hown, hts⟩ (k_X2_allThreads l D cI cC cN N q_p0 q_p0_ends q_p0_colours H.size f_p0_knots f_p0_threads f_p0_ends f_p0_colours r_40 h_41) (cwV 0 hts gX3_findFirst_X2_allThreads rfl rfl rfl (by decide +kernel) ⟨Nat.le_of_ble_eq_true rfl, Nat.le_of_ble_eq_true rfl⟩) ⟨g_blind, va_recv (D := D) (ci := 2) (q0 := 7) hK hP rfl rfl, g_pre (hP.sub [7, 8, 9] rfl) hK hN (hD.sub [7, 8, 9] (by decide) rfl)⟩ rfl rfl hl.1 rfl (lv_room (Nat.le_of_ble_eq_true rfl)) dX3_findFirst_36 ⟨Nat.zero_le _, Nat.zero_le _⟩) hP hD hS hA [7, 8, 9] [0, 1, 2, 3, 4, 5, 6] rfl rfl (by decide) (by decide) rfl (fun H locs hP hD hS => ?_)
        exact j39 r_40 _ _ _ hP hD hS (lv_sub hl [0, 1, 2] rfl) hm
      · have hm := if_f _ hc hm
        refine lv_aload_n hx hb dX3_findFirst_27 rfl (lv_at hl 2 rfl) ?_
        refine lv_iconst (v := 3) hx hb dX3_findFirst_28 (by decide) ?_
        obtain ⟨r_42, h_43, hm⟩ := bind_use hm
        refine g_ki (wc := [(q_p0, .inr (2, [.int f_p0_knots, .int f_p0_threads, .ref q_p0_ends, .ref q_p0_colours])), (q_p0_ends, .inl (cI, 21, .inl f_p0_ends)), (q_p0_colours, .inl (cI, 21, .inl f_p0_colours))]) (wr := [(q, .inr (3, [.ref q_bits, .ref q_lesser, .ref q_greater, .int f_placed, .ref q_stops, .int f_groups, .ref q_beside, .ref q_found])), (q_bits, .inl (cI, 21, .inl f_bits)), (q_lesser, .inl (cI, 21, .inl f_lesser)), (q_greater, .inl (cI, 21, .inl f_greater)), (q_stops, .inl (cI, 21, .inl f_stops)), (q_beside, .inl (cI, 21, .inl f_beside)), (q_found, .inl (cI, 21, .inl f_found))]) (w2 := [(q, .inr (3, [.ref q_bits, .ref q_lesser, .ref q_greater, .int f_placed, .ref q_stops, .int f_groups, .ref q_beside, .ref q_found])), (q_bits, .inl (cI, 21, .inl f_bits)), (q_lesser, .inl (cI, 21, .inl f_lesser)), (q_greater, .inl (cI, 21, .inl f_greater)), (q_stops, .inl (cI, 21, .inl f_stops)), (q_beside, .inl (cI, 21, .inl f_beside)), (q_found, .inl (cI, 21, .inl f_found)), (q_p0, .inr (2, [.int f_p0_knots, .int f_p0_threads, .ref q_p0_ends, .ref q_p0_colours])), (q_p0_ends, .inl (cI, 21, .inl f_p0_ends)), (q_p0_colours, .inl (cI, 21, .inl f_p0_colours))]) (va_runV (As := [.int 3]) (rest := []) ⟨hx, hb, hml, hown, hts⟩ (k_X2_coloured l D cI cC cN N q_p0 q_p0_ends q_p0_colours H.size f_p0_knots f_p0_threads f_p0_ends f_p0_colours 3 r_42 h_43) (cwV 1 hts gX3_findFirst_X2_coloured rfl rfl rfl (by decide +kernel) ⟨Nat.le_of_ble_eq_true rfl, Nat.le_of_ble_eq_true rfl⟩) ⟨g_blind, va_recv (D := D) (ci := 2) (q0 := 7) hK hP rfl rfl, g_pre (hP.sub [7, 8, 9] rfl) hK hN (hD.sub [7, 8, 9] (by decide) rfl)⟩ rfl rfl hl.1 rfl (lv_room (Nat.le_of_ble_eq_true rfl)) dX3_findFirst_29 ⟨Nat.zero_le _, Nat.zero_le _⟩) hP hD hS hA [7, 8, 9] [0, 1, 2, 3, 4, 5, 6] rfl rfl (by decide) (by decide) rfl (fun H locs hP hD hS => ?_)
        refine lv_goto (tgt := 39) hx hb dX3_findFirst_32 (by decide) ?_
        exact j39 r_42 _ _ _ hP hD hS (lv_sub hl [0, 1, 2] rfl) hm
    · have hm := if_t _ hc hm
      refine lv_iconst (v := 0) hx hb dX3_findFirst_21 (by decide) ?_
      have z1 := so_use hm
      obtain ⟨y1, z2⟩ := pr_use z1
      obtain ⟨y2, z3⟩ := pr_use z2
      obtain ⟨y3, z4⟩ := pr_use z3
      obtain ⟨y4, z5⟩ := pr_use z4
      obtain ⟨y5, z6⟩ := pr_use z5
      obtain ⟨y6, z7⟩ := pr_use z6
      obtain ⟨y7, z8⟩ := pr_use z7
      obtain ⟨y8, z9⟩ := pr_use z8
      subst y1
      subst y2
      subst y3
      subst y4
      subst y5
      subst y6
      subst y7
      subst y8
      subst z9
      exact hret _ _ _ _ _ dX3_findFirst_22 rfl rfl hP hD hS
  refine lv_if_eq (tgt := 11) hx hb dX3_findFirst_1 (by decide) (fun hc => ?_) (fun hc => ?_)
  · have hm := if_t _ hc hm
    refine lv_lconst (v := 0) hx hb dX3_findFirst_11 rfl ?_
    exact j12 0 _ _ _ hP hD hS hl hm
  · have hm := if_f _ hc hm
    refine lv_aload_n hx hb dX3_findFirst_4 rfl (lv_at hl 1 rfl) ?_
    obtain ⟨r_44, h_45, hm⟩ := bind_use hm
    refine g_kl (wc := [(q_p0, .inr (2, [.int f_p0_knots, .int f_p0_threads, .ref q_p0_ends, .ref q_p0_colours])), (q_p0_ends, .inl (cI, 21, .inl f_p0_ends)), (q_p0_colours, .inl (cI, 21, .inl f_p0_colours))]) (wr := [(q, .inr (3, [.ref q_bits, .ref q_lesser, .ref q_greater, .int f_placed, .ref q_stops, .int f_groups, .ref q_beside, .ref q_found])), (q_bits, .inl (cI, 21, .inl f_bits)), (q_lesser, .inl (cI, 21, .inl f_lesser)), (q_greater, .inl (cI, 21, .inl f_greater)), (q_stops, .inl (cI, 21, .inl f_stops)), (q_beside, .inl (cI, 21, .inl f_beside)), (q_found, .inl (cI, 21, .inl f_found))]) (w2 := [(q, .inr (3, [.ref q_bits, .ref q_lesser, .ref q_greater, .int f_placed, .ref q_stops, .int f_groups, .ref q_beside, .ref q_found])), (q_bits, .inl (cI, 21, .inl f_bits)), (q_lesser, .inl (cI, 21, .inl f_lesser)), (q_greater, .inl (cI, 21, .inl f_greater)), (q_stops, .inl (cI, 21, .inl f_stops)), (q_beside, .inl (cI, 21, .inl f_beside)), (q_found, .inl (cI, 21, .inl f_found)), (q_p0, .inr (2, [.int f_p0_knots, .int f_p0_threads, .ref q_p0_ends, .ref q_p0_colours])), (q_p0_ends, .inl (cI, 21, .inl f_p0_ends)), (q_p0_colours, .inl (cI, 21, .inl f_p0_colours))]) (va_runS (As := [.ref q_p0]) (rest := []) ⟨hx, hb, hml, hown, hts⟩ (k_X3_usedColours l D cI cC cN N q_p0 q_p0_ends q_p0_colours s.heap.size f_p0_knots f_p0_threads f_p0_ends f_p0_colours r_44 h_45) (va_cwS 1 hts gX3_findFirst_X3_usedColours rfl rfl rfl (by decide +kernel) ⟨Nat.le_of_ble_eq_true rfl, Nat.le_of_ble_eq_true rfl⟩) ⟨g_blind, g_pre (hP.sub [7, 8, 9] rfl) hK hN (hD.sub [7, 8, 9] (by decide) rfl)⟩ rfl rfl hl.1 rfl (lv_room (Nat.le_of_ble_eq_true rfl)) dX3_findFirst_5 ⟨Nat.zero_le _, Nat.zero_le _⟩) hP hD hS hA [7, 8, 9] [0, 1, 2, 3, 4, 5, 6] rfl rfl (by decide) (by decide) rfl (fun H locs hP hD hS => ?_)
    refine lv_goto (tgt := 12) hx hb dX3_findFirst_8 (by decide) ?_
    exact j12 r_44 _ _ _ hP hD hS hl hm
abbrev rX3_nextOfItsSize : Room := { frames := 1, cells := 0, slots := 0, locals := 21 }
set_option maxHeartbeats 4000000 in
set_option maxRecDepth 100000 in
theorem k_X3_nextOfItsSize (l : Launch) (D : va_G) (cI cC cN : ClassId) (N : Nat) (sz : Nat) (a0 : Int32) (r : Int32) (hm : m_X3_nextOfItsSize N a0 = some r) : Met l yX3_nextOfItsSize wsX3_nextOfItsSize (rX3_nextOfItsSize) (gPc D (tysG cI cC cN) [.int a0] [] sz) (gQi D (tysG cI cC cN) (va_A [] sz) [] r) 0 0 (va_A [] sz) := by
  unfold m_X3_nextOfItsSize at hm
  refine g_openI (cc := cX3_nextOfItsSize) (maxL := 3) (own := RX3) (by decide) rfl rfl (Nat.le_of_ble_eq_true rfl) ?_
  intro p e s m args below meth c A Q hx hb hml hown hts hP hK hN hD hA hret ls hl
  have hS : va_S A s.heap s.heap [] := va_S.rf
  have hl : lv_has ls 3 [(0, .int a0)] := hl
  refine lv_iload_n hx hb dX3_nextOfItsSize_0 rfl (lv_at hl 0 rfl) ?_
  obtain ⟨r_1, h_2, hm⟩ := bind_use hm
  refine g_ki (wc := []) (wr := []) (w2 := []) (va_runS (As := [.int a0]) (rest := []) ⟨hx, hb, hml, hown, hts⟩ (k_J6_numberOfTrailingZeros_0f7a4 l D cI cC cN N s.heap.size a0 r_1 h_2) (va_cwS 1 hts gX3_nextOfItsSize_J6_numberOfTrailingZeros_0f7a4 rfl rfl rfl (by decide +kernel) ⟨Nat.le_of_ble_eq_true rfl, Nat.le_of_ble_eq_true rfl⟩) ⟨g_blind, g_pre (hP.sub [] rfl) hK hN (hD.sub [] (by decide) rfl)⟩ rfl rfl hl.1 rfl (lv_room (Nat.le_of_ble_eq_true rfl)) dX3_nextOfItsSize_1 ⟨Nat.zero_le _, Nat.zero_le _⟩) hP hD hS hA [] [] rfl rfl (by decide) (by decide) rfl (fun H locs hP hD hS => ?_)
  refine lv_istore_n (lv' := [(1, .int r_1), (0, .int a0)]) hx hb dX3_nextOfItsSize_4 rfl hl (by decide) rfl (fun ls hl => ?_)
  refine lv_iload_n hx hb dX3_nextOfItsSize_5 rfl (lv_at hl 1 rfl) ?_
  refine lv_iload_n hx hb dX3_nextOfItsSize_6 rfl (lv_at hl 0 rfl) ?_
  obtain ⟨r_3, h_4, hm⟩ := bind_use hm
  refine g_ki (wc := []) (wr := []) (w2 := []) (va_runSN (As := [.int r_1]) (rest := [.int a0]) ⟨hx, hb, hml, hown, hts⟩ (k_X6_bit l D cI cC cN N H.size r_1 r_3 h_4) ⟨va_cnB 1 hts gX3_nextOfItsSize_X6_bit_n76 rfl rfl rfl (hN (.methodLinkNest RX3 76 yX6_bit RX6) (by decide +kernel)) (hts (.initialized RX6) (by decide +kernel)) (by decide +kernel) ⟨Nat.le_of_ble_eq_true rfl, Nat.le_of_ble_eq_true rfl⟩, hts (.static yX6_bit) (by decide +kernel), trivial⟩ ⟨g_blind, g_pre (hP.sub [] rfl) hK hN (hD.sub [] (by decide) rfl)⟩ rfl rfl hl.1 rfl (lv_room (Nat.le_of_ble_eq_true rfl)) dX3_nextOfItsSize_7 ⟨Nat.zero_le _, Nat.zero_le _⟩) hP hD hS hA [] [] rfl rfl (by decide) (by decide) rfl (fun H locs hP hD hS => ?_)
  refine lv_iadd hx hb dX3_nextOfItsSize_10 ?_
  refine lv_topi (fun v2_5 ev2_5 => ?_)
  have hm := nm_use ev2_5 hm
  refine lv_istore_n (lv' := [(2, .int v2_5), (1, .int r_1), (0, .int a0)]) hx hb dX3_nextOfItsSize_11 rfl hl (by decide) rfl (fun ls hl => ?_)
  refine lv_iload_n hx hb dX3_nextOfItsSize_12 rfl (lv_at hl 0 rfl) ?_
  refine lv_iload_n hx hb dX3_nextOfItsSize_13 rfl (lv_at hl 2 rfl) ?_
  refine lv_iload_n hx hb dX3_nextOfItsSize_14 rfl (lv_at hl 0 rfl) ?_
  refine lv_ixor hx hb dX3_nextOfItsSize_15 ?_
  refine lv_iload_n hx hb dX3_nextOfItsSize_16 rfl (lv_at hl 1 rfl) ?_
  refine lv_iconst (v := 2) hx hb dX3_nextOfItsSize_17 (by decide) ?_
  refine lv_iadd hx hb dX3_nextOfItsSize_18 ?_
  refine gv_iushr hx hb dX3_nextOfItsSize_19 ?_
  refine lv_ior hx hb dX3_nextOfItsSize_20 ?_
  have z1 := so_use hm
  subst z1
  exact hret _ _ _ _ _ dX3_nextOfItsSize_21 rfl rfl hP hD hS
abbrev rX3_firstLeastSet : Room := { frames := 28, cells := 0, slots := 0, locals := 905 }
set_option maxHeartbeats 4000000 in
set_option maxRecDepth 100000 in
theorem k_X3_firstLeastSet (l : Launch) (D : va_G) (cI cC cN : ClassId) (N : Nat) (q : Nat) (q_bits : Nat) (q_lesser : Nat) (q_greater : Nat) (q_stops : Nat) (q_beside : Nat) (q_found : Nat) (q_p0 : Nat) (q_p0_ends : Nat) (q_p0_colours : Nat) (sz : Nat) (f_bits : Nat → Int32) (f_lesser : Nat → Int32) (f_greater : Nat → Int32) (f_placed : Int32) (f_stops : Nat → Int32) (f_groups : Int32) (f_beside : Nat → Int32) (f_found : Nat → Int32) (f_p0_knots : Int32) (f_p0_threads : Int32) (f_p0_ends : Nat → Int32) (f_p0_colours : Nat → Int32) (r : Int32) (f_bits' : Nat → Int32) (f_lesser' : Nat → Int32) (f_greater' : Nat → Int32) (f_placed' : Int32) (f_stops' : Nat → Int32) (f_groups' : Int32) (f_beside' : Nat → Int32) (hm : m_X3_firstLeastSet N f_bits f_lesser f_greater f_placed f_stops f_groups f_beside f_p0_threads f_p0_ends = some (r, f_bits', f_lesser', f_greater', f_placed', f_stops', f_groups', f_beside')) : Met l yX3_firstLeastSet wsX3_firstLeastSet (rX3_firstLeastSet) (gPc D (tysG cI cC cN) [.ref q, .ref q_p0] [(q, .inr (3, [.ref q_bits, .ref q_lesser, .ref q_greater, .int f_placed, .ref q_stops, .int f_groups, .ref q_beside, .ref q_found])), (q_bits, .inl (cI, 21, .inl f_bits)), (q_lesser, .inl (cI, 21, .inl f_lesser)), (q_greater, .inl (cI, 21, .inl f_greater)), (q_stops, .inl (cI, 21, .inl f_stops)), (q_beside, .inl (cI, 21, .inl f_beside)), (q_found, .inl (cI, 21, .inl f_found)), (q_p0, .inr (2, [.int f_p0_knots, .int f_p0_threads, .ref q_p0_ends, .ref q_p0_colours])), (q_p0_ends, .inl (cI, 21, .inl f_p0_ends)), (q_p0_colours, .inl (cI, 21, .inl f_p0_colours))] sz) (gQi D (tysG cI cC cN) (va_A [(q, .inr (3, [.ref q_bits, .ref q_lesser, .ref q_greater, .int f_placed, .ref q_stops, .int f_groups, .ref q_beside, .ref q_found])), (q_bits, .inl (cI, 21, .inl f_bits)), (q_lesser, .inl (cI, 21, .inl f_lesser)), (q_greater, .inl (cI, 21, .inl f_greater)), (q_stops, .inl (cI, 21, .inl f_stops)), (q_beside, .inl (cI, 21, .inl f_beside)), (q_found, .inl (cI, 21, .inl f_found)), (q_p0, .inr (2, [.int f_p0_knots, .int f_p0_threads, .ref q_p0_ends, .ref q_p0_colours])), (q_p0_ends, .inl (cI, 21, .inl f_p0_ends)), (q_p0_colours, .inl (cI, 21, .inl f_p0_colours))] sz) [(q, .inr (3, [.ref q_bits, .ref q_lesser, .ref q_greater, .int f_placed', .ref q_stops, .int f_groups', .ref q_beside, .ref q_found])), (q_bits, .inl (cI, 21, .inl f_bits')), (q_lesser, .inl (cI, 21, .inl f_lesser')), (q_greater, .inl (cI, 21, .inl f_greater')), (q_stops, .inl (cI, 21, .inl f_stops')), (q_beside, .inl (cI, 21, .inl f_beside')), (q_found, .inl (cI, 21, .inl f_found)), (q_p0, .inr (2, [.int f_p0_knots, .int f_p0_threads, .ref q_p0_ends, .ref q_p0_colours])), (q_p0_ends, .inl (cI, 21, .inl f_p0_ends)), (q_p0_colours, .inl (cI, 21, .inl f_p0_colours))] r) 0 0 (va_A [(q, .inr (3, [.ref q_bits, .ref q_lesser, .ref q_greater, .int f_placed, .ref q_stops, .int f_groups, .ref q_beside, .ref q_found])), (q_bits, .inl (cI, 21, .inl f_bits)), (q_lesser, .inl (cI, 21, .inl f_lesser)), (q_greater, .inl (cI, 21, .inl f_greater)), (q_stops, .inl (cI, 21, .inl f_stops)), (q_beside, .inl (cI, 21, .inl f_beside)), (q_found, .inl (cI, 21, .inl f_found)), (q_p0, .inr (2, [.int f_p0_knots, .int f_p0_threads, .ref q_p0_ends, .ref q_p0_colours])), (q_p0_ends, .inl (cI, 21, .inl f_p0_ends)), (q_p0_colours, .inl (cI, 21, .inl f_p0_colours))] sz) := by
  unfold m_X3_firstLeastSet at hm
  refine g_openI (cc := cX3_firstLeastSet) (maxL := 6) (own := RX3) (by decide) rfl rfl (Nat.le_of_ble_eq_true rfl) ?_
  intro p e s m args below meth c A Q hx hb hml hown hts hP hK hN hD hA hret ls hl
  have hS : va_S A s.heap s.heap [] := va_S.rf
  have hl : lv_has ls 6 [(0, .ref q), (1, .ref q_p0)] := hl
  refine lv_aload_n hx hb dX3_firstLeastSet_0 rfl (lv_at hl 1 rfl) ?_
  obtain ⟨r_1, h_2, hm⟩ := bind_use hm
  refine g_ki (wc := [(q_p0, .inr (2, [.int f_p0_knots, .int f_p0_threads, .ref q_p0_ends, .ref q_p0_colours])), (q_p0_ends, .inl (cI, 21, .inl f_p0_ends)), (q_p0_colours, .inl (cI, 21, .inl f_p0_colours))]) (wr := [(q, .inr (3, [.ref q_bits, .ref q_lesser, .ref q_greater, .int f_placed, .ref q_stops, .int f_groups, .ref q_beside, .ref q_found])), (q_bits, .inl (cI, 21, .inl f_bits)), (q_lesser, .inl (cI, 21, .inl f_lesser)), (q_greater, .inl (cI, 21, .inl f_greater)), (q_stops, .inl (cI, 21, .inl f_stops)), (q_beside, .inl (cI, 21, .inl f_beside)), (q_found, .inl (cI, 21, .inl f_found))]) (w2 := [(q, .inr (3, [.ref q_bits, .ref q_lesser, .ref q_greater, .int f_placed, .ref q_stops, .int f_groups, .ref q_beside, .ref q_found])), (q_bits, .inl (cI, 21, .inl f_bits)), (q_lesser, .inl (cI, 21, .inl f_lesser)), (q_greater, .inl (cI, 21, .inl f_greater)), (q_stops, .inl (cI, 21, .inl f_stops)), (q_beside, .inl (cI, 21, .inl f_beside)), (q_found, .inl (cI, 21, .inl f_found)), (q_p0, .inr (2, [.int f_p0_knots, .int f_p0_threads, .ref q_p0_ends, .ref q_p0_colours])), (q_p0_ends, .inl (cI, 21, .inl f_p0_ends)), (q_p0_colours, .inl (cI, 21, .inl f_p0_colours))]) (va_runV (As := []) (rest := []) ⟨hx, hb, hml, hown, hts⟩ (k_X2_allThreads l D cI cC cN N q_p0 q_p0_ends q_p0_colours s.heap.size f_p0_knots f_p0_threads f_p0_ends f_p0_colours r_1 h_2) (cwV 0 hts gX3_firstLeastSet_X2_allThreads rfl rfl rfl (by decide +kernel) ⟨Nat.le_of_ble_eq_true rfl, Nat.le_of_ble_eq_true rfl⟩) ⟨g_blind, va_recv (D := D) (ci := 2) (q0 := 7) hK hP rfl rfl, g_pre (hP.sub [7, 8, 9] rfl) hK hN (hD.sub [7, 8, 9] (by decide) rfl)⟩ rfl rfl hl.1 rfl (lv_room (Nat.le_of_ble_eq_true rfl)) dX3_firstLeastSet_1 ⟨Nat.zero_le _, Nat.zero_le _⟩) hP hD hS hA [7, 8, 9] [0, 1, 2, 3, 4, 5, 6] rfl rfl (by decide) (by decide) rfl (fun H locs hP hD hS => ?_)
  refine lv_istore_n (lv' := [(2, .int r_1), (0, .ref q), (1, .ref q_p0)]) hx hb dX3_firstLeastSet_4 rfl hl (by decide) rfl (fun ls hl => ?_)
  refine lv_aload_n hx hb dX3_firstLeastSet_5 rfl (lv_at hl 1 rfl) ?_
  refine lv_aload_n hx hb dX3_firstLeastSet_6 rfl (lv_at hl 2 rfl) ?_
  refine lv_iload_n hx hb dX3_firstLeastSet_7 rfl (lv_at hl 0 rfl) ?_
  obtain ⟨⟨f_bits_3, f_lesser_4, f_greater_5, f_placed_6, f_stops_7, f_groups_8, f_beside_9⟩, h_10, hm⟩ := bind_use hm
  refine g_kv (wc := [(q, .inr (3, [.ref q_bits, .ref q_lesser, .ref q_greater, .int f_placed, .ref q_stops, .int f_groups, .ref q_beside, .ref q_found])), (q_bits, .inl (cI, 21, .inl f_bits)), (q_lesser, .inl (cI, 21, .inl f_lesser)), (q_greater, .inl (cI, 21, .inl f_greater)), (q_stops, .inl (cI, 21, .inl f_stops)), (q_beside, .inl (cI, 21, .inl f_beside)), (q_found, .inl (cI, 21, .inl f_found)), (q_p0, .inr (2, [.int f_p0_knots, .int f_p0_threads, .ref q_p0_ends, .ref q_p0_colours])), (q_p0_ends, .inl (cI, 21, .inl f_p0_ends)), (q_p0_colours, .inl (cI, 21, .inl f_p0_colours))]) (wr := []) (w2 := [(q, .inr (3, [.ref q_bits, .ref q_lesser, .ref q_greater, .int f_placed_6, .ref q_stops, .int f_groups_8, .ref q_beside, .ref q_found])), (q_bits, .inl (cI, 21, .inl f_bits_3)), (q_lesser, .inl (cI, 21, .inl f_lesser_4)), (q_greater, .inl (cI, 21, .inl f_greater_5)), (q_stops, .inl (cI, 21, .inl f_stops_7)), (q_beside, .inl (cI, 21, .inl f_beside_9)), (q_found, .inl (cI, 21, .inl f_found)), (q_p0, .inr (2, [.int f_p0_knots, .int f_p0_threads, .ref q_p0_ends, .ref q_p0_colours])), (q_p0_ends, .inl (cI, 21, .inl f_p0_ends)), (q_p0_colours, .inl (cI, 21, .inl f_p0_colours))]) (va_runV (As := [.ref q_p0, .int r_1]) (rest := []) ⟨hx, hb, hml, hown, hts⟩ (k_X3_arrange l D cI cC cN N q q_bits q_lesser q_greater q_stops q_beside q_found q_p0 q_p0_ends q_p0_colours H.size f_bits f_lesser f_greater f_placed f_stops f_groups f_beside f_found f_p0_knots f_p0_threads f_p0_ends f_p0_colours r_1 f_bits_3 f_lesser_4 f_greater_5 f_placed_6 f_stops_7 f_groups_8 f_beside_9 h_10) (cwV 2 hts gX3_firstLeastSet_X3_arrange rfl rfl rfl (by decide +kernel) ⟨Nat.le_of_ble_eq_true rfl, Nat.le_of_ble_eq_true rfl⟩) ⟨g_blind, va_recv (D := D) (ci := 3) (q0 := 0) hK hP rfl rfl, g_pre (hP.sub [0, 1, 2, 3, 4, 5, 6, 7, 8, 9] rfl) hK hN (hD.sub [0, 1, 2, 3, 4, 5, 6, 7, 8, 9] (by decide) rfl)⟩ rfl rfl hl.1 rfl (lv_room (Nat.le_of_ble_eq_true rfl)) dX3_firstLeastSet_8 ⟨Nat.zero_le _, Nat.zero_le _⟩) hP hD hS hA [0, 1, 2, 3, 4, 5, 6, 7, 8, 9] [] rfl rfl (by decide) (by decide) rfl (fun H locs hP hD hS => ?_)
  refine lv_iconst (v := 0) hx hb dX3_firstLeastSet_11 (by decide) ?_
  refine lv_istore_n (lv' := [(3, .int 0), (2, .int r_1), (0, .ref q), (1, .ref q_p0)]) hx hb dX3_firstLeastSet_12 rfl hl (by decide) rfl (fun ls hl => ?_)
  have l13 : ∀ (n_13 : Nat) (x3_11 : Int32), ∀ (H : Heap) (locs : List Loc) (ls : Array Slot), va_P D vwCl [(q, .inr (3, [.ref q_bits, .ref q_lesser, .ref q_greater, .int f_placed_6, .ref q_stops, .int f_groups_8, .ref q_beside, .ref q_found])), (q_bits, .inl (cI, 21, .inl f_bits_3)), (q_lesser, .inl (cI, 21, .inl f_lesser_4)), (q_greater, .inl (cI, 21, .inl f_greater_5)), (q_stops, .inl (cI, 21, .inl f_stops_7)), (q_beside, .inl (cI, 21, .inl f_beside_9)), (q_found, .inl (cI, 21, .inl f_found)), (q_p0, .inr (2, [.int f_p0_knots, .int f_p0_threads, .ref q_p0_ends, .ref q_p0_colours])), (q_p0_ends, .inl (cI, 21, .inl f_p0_ends)), (q_p0_colours, .inl (cI, 21, .inl f_p0_colours))] H → va_D A [(q, .inr (3, [.ref q_bits, .ref q_lesser, .ref q_greater, .int f_placed_6, .ref q_stops, .int f_groups_8, .ref q_beside, .ref q_found])), (q_bits, .inl (cI, 21, .inl f_bits_3)), (q_lesser, .inl (cI, 21, .inl f_lesser_4)), (q_greater, .inl (cI, 21, .inl f_greater_5)), (q_stops, .inl (cI, 21, .inl f_stops_7)), (q_beside, .inl (cI, 21, .inl f_beside_9)), (q_found, .inl (cI, 21, .inl f_found)), (q_p0, .inr (2, [.int f_p0_knots, .int f_p0_threads, .ref q_p0_ends, .ref q_p0_colours])), (q_p0_ends, .inl (cI, 21, .inl f_p0_ends)), (q_p0_colours, .inl (cI, 21, .inl f_p0_colours))] → va_S A s.heap H locs → lv_has ls 6 [(3, .int x3_11), (2, .int r_1), (0, .ref q), (1, .ref q_p0)] → m_X3_firstLeastSet_L13 N f_p0_threads r_1 f_bits_3 f_lesser_4 f_greater_5 f_placed_6 f_stops_7 f_groups_8 f_beside_9 n_13 x3_11 = some (r, f_bits', f_lesser', f_greater', f_placed', f_stops', f_groups', f_beside') → W p l e rX3_firstLeastSet s m args below meth c H locs 0 0 Q (F0 m 13 ls []) := by
    intro n_13
    induction n_13 with
    | zero => intro x3_11 H locs ls hP hD hS hl hm; rw [m_X3_firstLeastSet_L13] at hm; exact no_use hm
    | succ n_13 ih13 =>
      intro x3_11 H locs ls hP hD hS hl hm
      rw [m_X3_firstLeastSet_L13] at hm
      refine lv_iload_n hx hb dX3_firstLeastSet_13 rfl (lv_at hl 0 rfl) ?_
      refine lv_aload_n hx hb dX3_firstLeastSet_14 rfl (lv_at hl 3 rfl) ?_
      obtain ⟨r_12, h_13, hm⟩ := bind_use hm
      refine g_ki (wc := [(q_p0, .inr (2, [.int f_p0_knots, .int f_p0_threads, .ref q_p0_ends, .ref q_p0_colours])), (q_p0_ends, .inl (cI, 21, .inl f_p0_ends)), (q_p0_colours, .inl (cI, 21, .inl f_p0_colours))]) (wr := [(q, .inr (3, [.ref q_bits, .ref q_lesser, .ref q_greater, .int f_placed_6, .ref q_stops, .int f_groups_8, .ref q_beside, .ref q_found])), (q_bits, .inl (cI, 21, .inl f_bits_3)), (q_lesser, .inl (cI, 21, .inl f_lesser_4)), (q_greater, .inl (cI, 21, .inl f_greater_5)), (q_stops, .inl (cI, 21, .inl f_stops_7)), (q_beside, .inl (cI, 21, .inl f_beside_9)), (q_found, .inl (cI, 21, .inl f_found))]) (w2 := [(q, .inr (3, [.ref q_bits, .ref q_lesser, .ref q_greater, .int f_placed_6, .ref q_stops, .int f_groups_8, .ref q_beside, .ref q_found])), (q_bits, .inl (cI, 21, .inl f_bits_3)), (q_lesser, .inl (cI, 21, .inl f_lesser_4)), (q_greater, .inl (cI, 21, .inl f_greater_5)), (q_stops, .inl (cI, 21, .inl f_stops_7)), (q_beside, .inl (cI, 21, .inl f_beside_9)), (q_found, .inl (cI, 21, .inl f_found)), (q_p0, .inr (2, [.int f_p0_knots, .int f_p0_threads, .ref q_p0_ends, .ref q_p0_colours])), (q_p0_ends, .inl (cI, 21, .inl f_p0_ends)), (q_p0_colours, .inl (cI, 21, .inl f_p0_colours))]) (va_runV (As := []) (rest := [.int x3_11]) ⟨hx, hb, hml, hown, hts⟩ (k_X2_threads l D cI cC cN N q_p0 q_p0_ends q_p0_colours H.size f_p0_knots f_p0_threads f_p0_ends f_p0_colours r_12 h_13) (cwV 0 hts gX3_firstLeastSet_X2_threads rfl rfl rfl (by decide +kernel) ⟨Nat.le_of_ble_eq_true rfl, Nat.le_of_ble_eq_true rfl⟩) ⟨g_blind, va_recv (D := D) (ci := 2) (q0 := 7) hK hP rfl rfl, g_pre (hP.sub [7, 8, 9] rfl) hK hN (hD.sub [7, 8, 9] (by decide) rfl)⟩ rfl rfl hl.1 rfl (lv_room (Nat.le_of_ble_eq_true rfl)) dX3_firstLeastSet_15 ⟨Nat.zero_le _, Nat.zero_le _⟩) hP hD hS hA [7, 8, 9] [0, 1, 2, 3, 4, 5, 6] rfl rfl (by decide) (by decide) rfl (fun H locs hP hD hS => ?_)
      refine lv_icmp_ge (tgt := 86) hx hb dX3_firstLeastSet_18 (by decide) (fun hc => ?_) (fun hc => ?_)
      · have hm := if_t _ hc hm
        refine lv_iload_n hx hb dX3_firstLeastSet_86 rfl (lv_at hl 1 rfl) ?_
        have z1 := so_use hm
        obtain ⟨y1, z2⟩ := pr_use z1
        obtain ⟨y2, z3⟩ := pr_use z2
        obtain ⟨y3, z4⟩ := pr_use z3
        obtain ⟨y4, z5⟩ := pr_use z4
        obtain ⟨y5, z6⟩ := pr_use z5
        obtain ⟨y6, z7⟩ := pr_use z6
        obtain ⟨y7, z8⟩ := pr_use z7
        subst y1
        subst y2
        subst y3
        subst y4
        subst y5
        subst y6
        subst y7
        subst z8
        exact hret _ _ _ _ _ dX3_firstLeastSet_87 rfl rfl hP hD hS
      · have hm := if_f _ hc hm
        refine lv_iload_n hx hb dX3_firstLeastSet_21 rfl (lv_at hl 0 rfl) ?_
        obtain ⟨r_14, h_15, hm⟩ := bind_use hm
        refine g_ki (wc := []) (wr := [(q, .inr (3, [.ref q_bits, .ref q_lesser, .ref q_greater, .int f_placed_6, .ref q_stops, .int f_groups_8, .ref q_beside, .ref q_found])), (q_bits, .inl (cI, 21, .inl f_bits_3)), (q_lesser, .inl (cI, 21, .inl f_lesser_4)), (q_greater, .inl (cI, 21, .inl f_greater_5)), (q_stops, .inl (cI, 21, .inl f_stops_7)), (q_beside, .inl (cI, 21, .inl f_beside_9)), (q_found, .inl (cI, 21, .inl f_found)), (q_p0, .inr (2, [.int f_p0_knots, .int f_p0_threads, .ref q_p0_ends, .ref q_p0_colours])), (q_p0_ends, .inl (cI, 21, .inl f_p0_ends)), (q_p0_colours, .inl (cI, 21, .inl f_p0_colours))]) (w2 := [(q, .inr (3, [.ref q_bits, .ref q_lesser, .ref q_greater, .int f_placed_6, .ref q_stops, .int f_groups_8, .ref q_beside, .ref q_found])), (q_bits, .inl (cI, 21, .inl f_bits_3)), (q_lesser, .inl (cI, 21, .inl f_lesser_4)), (q_greater, .inl (cI, 21, .inl f_greater_5)), (q_stops, .inl (cI, 21, .inl f_stops_7)), (q_beside, .inl (cI, 21, .inl f_beside_9)), (q_found, .inl (cI, 21, .inl f_found)), (q_p0, .inr (2, [.int f_p0_knots, .int f_p0_threads, .ref q_p0_ends, .ref q_p0_colours])), (q_p0_ends, .inl (cI, 21, .inl f_p0_ends)), (q_p0_colours, .inl (cI, 21, .inl f_p0_colours))]) (va_runSN (As := [.int x3_11]) (rest := []) ⟨hx, hb, hml, hown, hts⟩ (k_X6_bit l D cI cC cN N H.size x3_11 r_14 h_15) ⟨va_cnB 1 hts gX3_firstLeastSet_X6_bit_n76 rfl rfl rfl (hN (.methodLinkNest RX3 76 yX6_bit RX6) (by decide +kernel)) (hts (.initialized RX6) (by decide +kernel)) (by decide +kernel) ⟨Nat.le_of_ble_eq_true rfl, Nat.le_of_ble_eq_true rfl⟩, hts (.static yX6_bit) (by decide +kernel), trivial⟩ ⟨g_blind, g_pre (hP.sub [] rfl) hK hN (hD.sub [] (by decide) rfl)⟩ rfl rfl hl.1 rfl (lv_room (Nat.le_of_ble_eq_true rfl)) dX3_firstLeastSet_22 ⟨Nat.zero_le _, Nat.zero_le _⟩) hP hD hS hA [] [0, 1, 2, 3, 4, 5, 6, 7, 8, 9] rfl rfl (by decide) (by decide) rfl (fun H locs hP hD hS => ?_)
        refine lv_iconst (v := 1) hx hb dX3_firstLeastSet_25 (by decide) ?_
        refine lv_isub hx hb dX3_firstLeastSet_26 ?_
        refine lv_topi (fun v4_16 ev4_16 => ?_)
        have hm := nm_use ev4_16 hm
        refine lv_istore (lv' := [(4, .int v4_16), (3, .int x3_11), (2, .int r_1), (0, .ref q), (1, .ref q_p0)]) hx hb dX3_firstLeastSet_27 hl (by decide) rfl (fun ls hl => ?_)
        refine lv_iconst (v := 0) hx hb dX3_firstLeastSet_29 (by decide) ?_
        refine lv_istore (lv' := [(5, .int 0), (4, .int v4_16), (3, .int x3_11), (2, .int r_1), (0, .ref q), (1, .ref q_p0)]) hx hb dX3_firstLeastSet_30 hl (by decide) rfl (fun ls hl => ?_)
        obtain ⟨J80, hJ80, hm⟩ := jn_use hm
        have j80 : ∀ (H : Heap) (locs : List Loc) (ls : Array Slot), va_P D vwCl [(q, .inr (3, [.ref q_bits, .ref q_lesser, .ref q_greater, .int f_placed_6, .ref q_stops, .int f_groups_8, .ref q_beside, .ref q_found])), (q_bits, .inl (cI, 21, .inl f_bits_3)), (q_lesser, .inl (cI, 21, .inl f_lesser_4)), (q_greater, .inl (cI, 21, .inl f_greater_5)), (q_stops, .inl (cI, 21, .inl f_stops_7)), (q_beside, .inl (cI, 21, .inl f_beside_9)), (q_found, .inl (cI, 21, .inl f_found)), (q_p0, .inr (2, [.int f_p0_knots, .int f_p0_threads, .ref q_p0_ends, .ref q_p0_colours])), (q_p0_ends, .inl (cI, 21, .inl f_p0_ends)), (q_p0_colours, .inl (cI, 21, .inl f_p0_colours))] H → va_D A [(q, .inr (3, [.ref q_bits, .ref q_lesser, .ref q_greater, .int f_placed_6, .ref q_stops, .int f_groups_8, .ref q_beside, .ref q_found])), (q_bits, .inl (cI, 21, .inl f_bits_3)), (q_lesser, .inl (cI, 21, .inl f_lesser_4)), (q_greater, .inl (cI, 21, .inl f_greater_5)), (q_stops, .inl (cI, 21, .inl f_stops_7)), (q_beside, .inl (cI, 21, .inl f_beside_9)), (q_found, .inl (cI, 21, .inl f_found)), (q_p0, .inr (2, [.int f_p0_knots, .int f_p0_threads, .ref q_p0_ends, .ref q_p0_colours])), (q_p0_ends, .inl (cI, 21, .inl f_p0_ends)), (q_p0_colours, .inl (cI, 21, .inl f_p0_colours))] → va_S A s.heap H locs → lv_has ls 6 [(3, .int x3_11), (2, .int r_1), (0, .ref q), (1, .ref q_p0)] → J80 = some (r, f_bits', f_lesser', f_greater', f_placed', f_stops', f_groups', f_beside') → W p l e rX3_firstLeastSet s m args below meth c H locs 0 0 Q (F0 m 80 ls []) := by
          intro H locs ls hP hD hS hl hm
          rw [hJ80] at hm
          refine lv_iinc (v := (x3_11 + 1)) (lv' := [(3, .int (x3_11 + 1)), (2, .int r_1), (0, .ref q), (1, .ref q_p0)]) hx hb dX3_firstLeastSet_80 hl (k := 0) rfl rfl (by decide) rfl (fun ls hl => ?_)
          refine lv_goto (tgt := 13) hx hb dX3_firstLeastSet_83 (by decide) ?_
          exact ih13 (x3_11 + 1) _ _ _ hP hD hS hl hm
        obtain ⟨J64, hJ64, hm⟩ := jn_use hm
        have j64 : ∀ (H : Heap) (locs : List Loc) (ls : Array Slot), va_P D vwCl [(q, .inr (3, [.ref q_bits, .ref q_lesser, .ref q_greater, .int f_placed_6, .ref q_stops, .int f_groups_8, .ref q_beside, .ref q_found])), (q_bits, .inl (cI, 21, .inl f_bits_3)), (q_lesser, .inl (cI, 21, .inl f_lesser_4)), (q_greater, .inl (cI, 21, .inl f_greater_5)), (q_stops, .inl (cI, 21, .inl f_stops_7)), (q_beside, .inl (cI, 21, .inl f_beside_9)), (q_found, .inl (cI, 21, .inl f_found)), (q_p0, .inr (2, [.int f_p0_knots, .int f_p0_threads, .ref q_p0_ends, .ref q_p0_colours])), (q_p0_ends, .inl (cI, 21, .inl f_p0_ends)), (q_p0_colours, .inl (cI, 21, .inl f_p0_colours))] H → va_D A [(q, .inr (3, [.ref q_bits, .ref q_lesser, .ref q_greater, .int f_placed_6, .ref q_stops, .int f_groups_8, .ref q_beside, .ref q_found])), (q_bits, .inl (cI, 21, .inl f_bits_3)), (q_lesser, .inl (cI, 21, .inl f_lesser_4)), (q_greater, .inl (cI, 21, .inl f_greater_5)), (q_stops, .inl (cI, 21, .inl f_stops_7)), (q_beside, .inl (cI, 21, .inl f_beside_9)), (q_found, .inl (cI, 21, .inl f_found)), (q_p0, .inr (2, [.int f_p0_knots, .int f_p0_threads, .ref q_p0_ends, .ref q_p0_colours])), (q_p0_ends, .inl (cI, 21, .inl f_p0_ends)), (q_p0_colours, .inl (cI, 21, .inl f_p0_colours))] → va_S A s.heap H locs → lv_has ls 6 [(3, .int x3_11), (2, .int r_1), (0, .ref q), (1, .ref q_p0)] → J64 = some (r, f_bits', f_lesser', f_greater', f_placed', f_stops', f_groups', f_beside') → W p l e rX3_firstLeastSet s m args below meth c H locs 0 0 Q (F0 m 64 ls []) := by
          intro H locs ls hP hD hS hl hm
          rw [hJ64] at hm
          refine lv_goto (tgt := 80) hx hb dX3_firstLeastSet_64 (by decide) ?_
          exact j80 _ _ _ hP hD hS hl hm
        have l32 : ∀ (n_32 : Nat) (x5_17 : Int32) (x4_18 : Int32), ∀ (H : Heap) (locs : List Loc) (ls : Array Slot), va_P D vwCl [(q, .inr (3, [.ref q_bits, .ref q_lesser, .ref q_greater, .int f_placed_6, .ref q_stops, .int f_groups_8, .ref q_beside, .ref q_found])), (q_bits, .inl (cI, 21, .inl f_bits_3)), (q_lesser, .inl (cI, 21, .inl f_lesser_4)), (q_greater, .inl (cI, 21, .inl f_greater_5)), (q_stops, .inl (cI, 21, .inl f_stops_7)), (q_beside, .inl (cI, 21, .inl f_beside_9)), (q_found, .inl (cI, 21, .inl f_found)), (q_p0, .inr (2, [.int f_p0_knots, .int f_p0_threads, .ref q_p0_ends, .ref q_p0_colours])), (q_p0_ends, .inl (cI, 21, .inl f_p0_ends)), (q_p0_colours, .inl (cI, 21, .inl f_p0_colours))] H → va_D A [(q, .inr (3, [.ref q_bits, .ref q_lesser, .ref q_greater, .int f_placed_6, .ref q_stops, .int f_groups_8, .ref q_beside, .ref q_found])), (q_bits, .inl (cI, 21, .inl f_bits_3)), (q_lesser, .inl (cI, 21, .inl f_lesser_4)), (q_greater, .inl (cI, 21, .inl f_greater_5)), (q_stops, .inl (cI, 21, .inl f_stops_7)), (q_beside, .inl (cI, 21, .inl f_beside_9)), (q_found, .inl (cI, 21, .inl f_found)), (q_p0, .inr (2, [.int f_p0_knots, .int f_p0_threads, .ref q_p0_ends, .ref q_p0_colours])), (q_p0_ends, .inl (cI, 21, .inl f_p0_ends)), (q_p0_colours, .inl (cI, 21, .inl f_p0_colours))] → va_S A s.heap H locs → lv_has ls 6 [(5, .int x5_17), (4, .int x4_18), (3, .int x3_11), (2, .int r_1), (0, .ref q), (1, .ref q_p0)] → m_X3_firstLeastSet_L32 N r_1 f_bits_3 f_lesser_4 f_greater_5 f_placed_6 f_stops_7 f_groups_8 f_beside_9 J80 J64 n_32 x5_17 x4_18 = some (r, f_bits', f_lesser', f_greater', f_placed', f_stops', f_groups', f_beside') → W p l e rX3_firstLeastSet s m args below meth c H locs 0 0 Q (F0 m 32 ls []) := by
          intro n_32
          induction n_32 with
          | zero => intro x5_17 x4_18 H locs ls hP hD hS hl hm; rw [m_X3_firstLeastSet_L32] at hm; exact no_use hm
          | succ n_32 ih32 =>
            intro x5_17 x4_18 H locs ls hP hD hS hl hm
            rw [m_X3_firstLeastSet_L32] at hm
            refine lv_iload hx hb dX3_firstLeastSet_32 (lv_at hl 0 rfl) ?_
            refine lv_ldc (own := RX3) (index := 94) (v := 2097152) hx hb hown (hts (.constant RX3 94 2097152) (by decide +kernel)) dX3_firstLeastSet_34 ?_
            refine lv_icmp_ge (tgt := 80) hx hb dX3_firstLeastSet_36 (by decide) (fun hc => ?_) (fun hc => ?_)
            · have hm := if_t _ hc hm
              exact j80 _ _ _ hP hD hS (lv_sub hl [2, 3, 4, 5] rfl) hm
            · have hm := if_f _ hc hm
              refine lv_iload hx hb dX3_firstLeastSet_39 (lv_at hl 1 rfl) ?_
              refine lv_iload_n hx hb dX3_firstLeastSet_41 rfl (lv_at hl 3 rfl) ?_
              refine lv_icmp_gt (tgt := 80) hx hb dX3_firstLeastSet_42 (by decide) (fun hc => ?_) (fun hc => ?_)
              · have hm := if_t _ hc hm
                exact j80 _ _ _ hP hD hS (lv_sub hl [2, 3, 4, 5] rfl) hm
              · have hm := if_f _ hc hm
                refine lv_aload_n hx hb dX3_firstLeastSet_45 rfl (lv_at hl 4 rfl) ?_
                refine lv_lconst (v := 0) hx hb dX3_firstLeastSet_46 rfl ?_
                refine lv_iload hx hb dX3_firstLeastSet_47 (lv_at hl 1 rfl) ?_
                refine lv_iconst (v := 1) hx hb dX3_firstLeastSet_49 (by decide) ?_
                obtain ⟨r_19, h_20, hm⟩ := bind_use hm
                refine g_ki (wc := [(q, .inr (3, [.ref q_bits, .ref q_lesser, .ref q_greater, .int f_placed_6, .ref q_stops, .int f_groups_8, .ref q_beside, .ref q_found])), (q_bits, .inl (cI, 21, .inl f_bits_3)), (q_lesser, .inl (cI, 21, .inl f_lesser_4)), (q_greater, .inl (cI, 21, .inl f_greater_5)), (q_stops, .inl (cI, 21, .inl f_stops_7)), (q_beside, .inl (cI, 21, .inl f_beside_9)), (q_found, .inl (cI, 21, .inl f_found))]) (wr := [(q_p0, .inr (2, [.int f_p0_knots, .int f_p0_threads, .ref q_p0_ends, .ref q_p0_colours])), (q_p0_ends, .inl (cI, 21, .inl f_p0_ends)), (q_p0_colours, .inl (cI, 21, .inl f_p0_colours))]) (w2 := [(q_p0, .inr (2, [.int f_p0_knots, .int f_p0_threads, .ref q_p0_ends, .ref q_p0_colours])), (q_p0_ends, .inl (cI, 21, .inl f_p0_ends)), (q_p0_colours, .inl (cI, 21, .inl f_p0_colours)), (q, .inr (3, [.ref q_bits, .ref q_lesser, .ref q_greater, .int f_placed_6, .ref q_stops, .int f_groups_8, .ref q_beside, .ref q_found])), (q_bits, .inl (cI, 21, .inl f_bits_3)), (q_lesser, .inl (cI, 21, .inl f_lesser_4)), (q_greater, .inl (cI, 21, .inl f_greater_5)), (q_stops, .inl (cI, 21, .inl f_stops_7)), (q_beside, .inl (cI, 21, .inl f_beside_9)), (q_found, .inl (cI, 21, .inl f_found))]) (va_runV (As := [.long 0, .int x4_18, .int 1]) (rest := []) ⟨hx, hb, hml, hown, hts⟩ (k_X3_ways l D cI cC cN N q q_bits q_lesser q_greater q_stops q_beside q_found H.size f_bits_3 f_lesser_4 f_greater_5 f_placed_6 f_stops_7 f_groups_8 f_beside_9 f_found 0 x4_18 1 r_19 h_20) (cwV 3 hts gX3_firstLeastSet_X3_ways rfl rfl rfl (by decide +kernel) ⟨Nat.le_of_ble_eq_true rfl, Nat.le_of_ble_eq_true rfl⟩) ⟨g_blind, va_recv (D := D) (ci := 3) (q0 := 0) hK hP rfl rfl, g_pre (hP.sub [0, 1, 2, 3, 4, 5, 6] rfl) hK hN (hD.sub [0, 1, 2, 3, 4, 5, 6] (by decide) rfl)⟩ rfl rfl hl.1 rfl (lv_room (Nat.le_of_ble_eq_true rfl)) dX3_firstLeastSet_50 ⟨Nat.zero_le _, Nat.zero_le _⟩) hP hD hS hA [0, 1, 2, 3, 4, 5, 6] [7, 8, 9] rfl rfl (by decide) (by decide) rfl (fun H locs hP hD hS => ?_)
                refine lv_if_le (tgt := 59) hx hb dX3_firstLeastSet_53 (by decide) (fun hc => ?_) (fun hc => ?_)
                · have hm := if_t _ hc hm
                  refine lv_iload hx hb dX3_firstLeastSet_59 (lv_at hl 1 rfl) ?_
                  refine lv_if_ne (tgt := 67) hx hb dX3_firstLeastSet_61 (by decide) (fun hc => ?_) (fun hc => ?_)
                  · have hm := if_f _ hc hm
                    refine lv_iload hx hb dX3_firstLeastSet_67 (lv_at hl 1 rfl) ?_
                    obtain ⟨r_21, h_22, hm⟩ := bind_use hm
                    refine g_ki (wc := []) (wr := [(q_p0, .inr (2, [.int f_p0_knots, .int f_p0_threads, .ref q_p0_ends, .ref q_p0_colours])), (q_p0_ends, .inl (cI, 21, .inl f_p0_ends)), (q_p0_colours, .inl (cI, 21, .inl f_p0_colours)), (q, .inr (3, [.ref q_bits, .ref q_lesser, .ref q_greater, .int f_placed_6, .ref q_stops, .int f_groups_8, .ref q_beside, .ref q_found])), (q_bits, .inl (cI, 21, .inl f_bits_3)), (q_lesser, .inl (cI, 21, .inl f_lesser_4)), (q_greater, .inl (cI, 21, .inl f_greater_5)), (q_stops, .inl (cI, 21, .inl f_stops_7)), (q_beside, .inl (cI, 21, .inl f_beside_9)), (q_found, .inl (cI, 21, .inl f_found))]) (w2 := [(q_p0, .inr (2, [.int f_p0_knots, .int f_p0_threads, .ref q_p0_ends, .ref q_p0_colours])), (q_p0_ends, .inl (cI, 21, .inl f_p0_ends)), (q_p0_colours, .inl (cI, 21, .inl f_p0_colours)), (q, .inr (3, [.ref q_bits, .ref q_lesser, .ref q_greater, .int f_placed_6, .ref q_stops, .int f_groups_8, .ref q_beside, .ref q_found])), (q_bits, .inl (cI, 21, .inl f_bits_3)), (q_lesser, .inl (cI, 21, .inl f_lesser_4)), (q_greater, .inl (cI, 21, .inl f_greater_5)), (q_stops, .inl (cI, 21, .inl f_stops_7)), (q_beside, .inl (cI, 21, .inl f_beside_9)), (q_found, .inl (cI, 21, .inl f_found))]) (va_runS (As := [.int x4_18]) (rest := []) ⟨hx, hb, hml, hown, hts⟩ (k_X3_nextOfItsSize l D cI cC cN N H.size x4_18 r_21 h_22) (va_cwS 1 hts gX3_firstLeastSet_X3_nextOfItsSize rfl rfl rfl (by decide +kernel) ⟨Nat.le_of_ble_eq_true rfl, Nat.le_of_ble_eq_true rfl⟩) ⟨g_blind, g_pre (hP.sub [] rfl) hK hN (hD.sub [] (by decide) rfl)⟩ rfl rfl hl.1 rfl (lv_room (Nat.le_of_ble_eq_true rfl)) dX3_firstLeastSet_69 ⟨Nat.zero_le _, Nat.zero_le _⟩) hP hD hS hA [] [0, 1, 2, 3, 4, 5, 6, 7, 8, 9] rfl rfl (by decide) (by decide) rfl (fun H locs hP hD hS => ?_)
                    refine lv_istore (lv' := [(4, .int r_21), (5, .int x5_17), (3, .int x3_11), (2, .int r_1), (0, .ref q), (1, .ref q_p0)]) hx hb dX3_firstLeastSet_72 hl (by decide) rfl (fun ls hl => ?_)
                    refine lv_iinc (v := (x5_17 + 1)) (lv' := [(5, .int (x5_17 + 1)), (4, .int r_21), (3, .int x3_11), (2, .int r_1), (0, .ref q), (1, .ref q_p0)]) hx hb dX3_firstLeastSet_74 hl (k := 1) rfl rfl (by decide) rfl (fun ls hl => ?_)
                    refine lv_goto (tgt := 32) hx hb dX3_firstLeastSet_77 (by decide) ?_
                    exact ih32 (x5_17 + 1) r_21 _ _ _ (hP.sub [3, 4, 5, 6, 7, 8, 9, 0, 1, 2] rfl) (hD.sub [3, 4, 5, 6, 7, 8, 9, 0, 1, 2] (by decide) rfl) hS hl hm
                  · have hm := if_t _ hc hm
                    exact j64 _ _ _ (hP.sub [3, 4, 5, 6, 7, 8, 9, 0, 1, 2] rfl) (hD.sub [3, 4, 5, 6, 7, 8, 9, 0, 1, 2] (by decide) rfl) hS (lv_sub hl [2, 3, 4, 5] rfl) hm
                · have hm := if_f _ hc hm
                  refine lv_iload hx hb dX3_firstLeastSet_56 (lv_at hl 1 rfl) ?_
                  have z1 := so_use hm
                  obtain ⟨y1, z2⟩ := pr_use z1
                  obtain ⟨y2, z3⟩ := pr_use z2
                  obtain ⟨y3, z4⟩ := pr_use z3
                  obtain ⟨y4, z5⟩ := pr_use z4
                  obtain ⟨y5, z6⟩ := pr_use z5
                  obtain ⟨y6, z7⟩ := pr_use z6
                  obtain ⟨y7, z8⟩ := pr_use z7
                  subst y1
                  subst y2
                  subst y3
                  subst y4
                  subst y5
                  subst y6
                  subst y7
                  subst z8
                  exact hret _ _ _ _ _ dX3_firstLeastSet_58 rfl rfl (hP.sub [3, 4, 5, 6, 7, 8, 9, 0, 1, 2] rfl) (hD.sub [3, 4, 5, 6, 7, 8, 9, 0, 1, 2] (by decide) rfl) hS
        exact l32 N 0 v4_16 _ _ _ hP hD hS hl hm
  exact l13 N 0 _ _ _ hP hD hS hl hm
abbrev rX4_length : Room := { frames := 0, cells := 0, slots := 0, locals := 0 }
set_option maxHeartbeats 4000000 in
set_option maxRecDepth 100000 in
theorem k_X4_length (l : Launch) (D : va_G) (cI cC cN : ClassId) (N : Nat) (q : Nat) (q_signs : Nat) (q_pairs : Nat) (sz : Nat) (f_signs : Nat → Int32) (f_length : Int32) (f_pairs : Nat → Int32) (f_size : Int32) (r : Int32) (hm : m_X4_length N f_length = some r) : Met l yX4_length wsX4_length (rX4_length) (gPc D (tysG cI cC cN) [.ref q] [(q, .inr (4, [.ref q_signs, .int f_length, .ref q_pairs, .int f_size])), (q_signs, .inl (cC, 60, .inl f_signs)), (q_pairs, .inl (cI, 21, .inl f_pairs))] sz) (gQi D (tysG cI cC cN) (va_A [(q, .inr (4, [.ref q_signs, .int f_length, .ref q_pairs, .int f_size])), (q_signs, .inl (cC, 60, .inl f_signs)), (q_pairs, .inl (cI, 21, .inl f_pairs))] sz) [(q, .inr (4, [.ref q_signs, .int f_length, .ref q_pairs, .int f_size])), (q_signs, .inl (cC, 60, .inl f_signs)), (q_pairs, .inl (cI, 21, .inl f_pairs))] r) 0 0 (va_A [(q, .inr (4, [.ref q_signs, .int f_length, .ref q_pairs, .int f_size])), (q_signs, .inl (cC, 60, .inl f_signs)), (q_pairs, .inl (cI, 21, .inl f_pairs))] sz) := by
  unfold m_X4_length at hm
  refine g_openI (cc := cX4_length) (maxL := 1) (own := RX4) (by decide) rfl rfl (Nat.le_of_ble_eq_true rfl) ?_
  intro p e s m args below meth c A Q hx hb hml hown hts hP hK hN hD hA hret ls hl
  have hS : va_S A s.heap s.heap [] := va_S.rf
  have hl : lv_has ls 1 [(0, .ref q)] := hl
  refine lv_aload_n hx hb dX4_length_0 rfl (lv_at hl 0 rfl) ?_
  refine va_get (D := D) (ci := 4) (v := .int f_length) (C := RX4) (T := TX4) (N := 4) hx hb hts (by decide +kernel) hown hK hP 0 rfl rfl 1 (by decide) (hts (.fieldLink RX4 15 "KnotStripes$Text" "length" "I") (by decide +kernel)) (fun _ h9 => h9) rfl dX4_length_1 ?_
  have z1 := so_use hm
  subst z1
  exact hret _ _ _ _ _ dX4_length_4 rfl rfl hP hD hS
abbrev rX4_empty : Room := { frames := 0, cells := 0, slots := 0, locals := 0 }
set_option maxHeartbeats 4000000 in
set_option maxRecDepth 100000 in
theorem k_X4_empty (l : Launch) (D : va_G) (cI cC cN : ClassId) (N : Nat) (q : Nat) (q_signs : Nat) (q_pairs : Nat) (sz : Nat) (f_signs : Nat → Int32) (f_length : Int32) (f_pairs : Nat → Int32) (f_size : Int32) (f_length' : Int32) (hm : m_X4_empty N f_length = some f_length') : Met l yX4_empty wsX4_empty (rX4_empty) (gPc D (tysG cI cC cN) [.ref q] [(q, .inr (4, [.ref q_signs, .int f_length, .ref q_pairs, .int f_size])), (q_signs, .inl (cC, 60, .inl f_signs)), (q_pairs, .inl (cI, 21, .inl f_pairs))] sz) (gQv D (tysG cI cC cN) (va_A [(q, .inr (4, [.ref q_signs, .int f_length, .ref q_pairs, .int f_size])), (q_signs, .inl (cC, 60, .inl f_signs)), (q_pairs, .inl (cI, 21, .inl f_pairs))] sz) [(q, .inr (4, [.ref q_signs, .int f_length', .ref q_pairs, .int f_size])), (q_signs, .inl (cC, 60, .inl f_signs)), (q_pairs, .inl (cI, 21, .inl f_pairs))]) 0 0 (va_A [(q, .inr (4, [.ref q_signs, .int f_length, .ref q_pairs, .int f_size])), (q_signs, .inl (cC, 60, .inl f_signs)), (q_pairs, .inl (cI, 21, .inl f_pairs))] sz) := by
  unfold m_X4_empty at hm
  refine g_openV (cc := cX4_empty) (maxL := 1) (own := RX4) (by decide) rfl rfl (Nat.le_of_ble_eq_true rfl) ?_
  intro p e s m args below meth c A Q hx hb hml hown hts hP hK hN hD hA hret ls hl
  have hS : va_S A s.heap s.heap [] := va_S.rf
  have hl : lv_has ls 1 [(0, .ref q)] := hl
  refine lv_aload_n hx hb dX4_empty_0 rfl (lv_at hl 0 rfl) ?_
  refine lv_iconst (v := 0) hx hb dX4_empty_1 (by decide) ?_
  refine va_put (D := D) (ci := 4) (v := .int 0) (ty := .int) (C := RX4) (T := TX4) (N := 4) hx hb hts (by decide +kernel) tyX4 tyX4_ok nmX4 hown hK hP hD hS 0 rfl rfl 1 (by decide) (hts (.fieldLink RX4 15 "KnotStripes$Text" "length" "I") (by decide +kernel)) (fun _ h9 => h9) rfl (by decide +kernel) rfl rfl (Nat.le_of_ble_eq_true rfl) dX4_empty_2 (fun H locs hP hD hS => ?_)
  have hP : va_P D vwCl [(q, .inr (4, [.ref q_signs, .int 0, .ref q_pairs, .int f_size])), (q_signs, .inl (cC, 60, .inl f_signs)), (q_pairs, .inl (cI, 21, .inl f_pairs))] H := hP
  have hD : va_D A [(q, .inr (4, [.ref q_signs, .int 0, .ref q_pairs, .int f_size])), (q_signs, .inl (cC, 60, .inl f_signs)), (q_pairs, .inl (cI, 21, .inl f_pairs))] := hD
  have z1 := so_use hm
  subst z1
  exact hret _ _ _ _ dX4_empty_5 hP hD hS
abbrev rX4_append : Room := { frames := 0, cells := 0, slots := 0, locals := 0 }
set_option maxHeartbeats 4000000 in
set_option maxRecDepth 100000 in
theorem k_X4_append (l : Launch) (D : va_G) (cI cC cN : ClassId) (N : Nat) (q : Nat) (q_signs : Nat) (q_pairs : Nat) (sz : Nat) (f_signs : Nat → Int32) (f_length : Int32) (f_pairs : Nat → Int32) (f_size : Int32) (a1 : Int32) (r : Int32) (f_signs' : Nat → Int32) (f_length' : Int32) (hm : m_X4_append N f_signs f_length a1 = some (r, f_signs', f_length')) : Met l yX4_append wsX4_append (rX4_append) (gPc D (tysG cI cC cN) [.ref q, .int a1] [(q, .inr (4, [.ref q_signs, .int f_length, .ref q_pairs, .int f_size])), (q_signs, .inl (cC, 60, .inl f_signs)), (q_pairs, .inl (cI, 21, .inl f_pairs))] sz) (gQi D (tysG cI cC cN) (va_A [(q, .inr (4, [.ref q_signs, .int f_length, .ref q_pairs, .int f_size])), (q_signs, .inl (cC, 60, .inl f_signs)), (q_pairs, .inl (cI, 21, .inl f_pairs))] sz) [(q, .inr (4, [.ref q_signs, .int f_length', .ref q_pairs, .int f_size])), (q_signs, .inl (cC, 60, .inl f_signs')), (q_pairs, .inl (cI, 21, .inl f_pairs))] r) 0 0 (va_A [(q, .inr (4, [.ref q_signs, .int f_length, .ref q_pairs, .int f_size])), (q_signs, .inl (cC, 60, .inl f_signs)), (q_pairs, .inl (cI, 21, .inl f_pairs))] sz) := by
  unfold m_X4_append at hm
  refine g_openI (cc := cX4_append) (maxL := 2) (own := RX4) (by decide) rfl rfl (Nat.le_of_ble_eq_true rfl) ?_
  intro p e s m args below meth c A Q hx hb hml hown hts hP hK hN hD hA hret ls hl
  have hS : va_S A s.heap s.heap [] := va_S.rf
  have hl : lv_has ls 2 [(0, .ref q), (1, .int a1)] := hl
  refine lv_aload_n hx hb dX4_append_0 rfl (lv_at hl 0 rfl) ?_
  refine va_get (D := D) (ci := 4) (v := .int f_length) (C := RX4) (T := TX4) (N := 4) hx hb hts (by decide +kernel) hown hK hP 0 rfl rfl 1 (by decide) (hts (.fieldLink RX4 15 "KnotStripes$Text" "length" "I") (by decide +kernel)) (fun _ h9 => h9) rfl dX4_append_1 ?_
  refine lv_if_lt (tgt := 19) hx hb dX4_append_4 (by decide) (fun hc => ?_) (fun hc => ?_)
  · have hm := if_t _ hc hm
    refine lv_iconst (v := 0) hx hb dX4_append_19 (by decide) ?_
    have z1 := so_use hm
    obtain ⟨y1, z2⟩ := pr_use z1
    obtain ⟨y2, z3⟩ := pr_use z2
    subst y1
    subst y2
    subst z3
    exact hret _ _ _ _ _ dX4_append_20 rfl rfl hP hD hS
  · have hm := if_f _ hc hm
    refine lv_aload_n hx hb dX4_append_7 rfl (lv_at hl 0 rfl) ?_
    refine va_get (D := D) (ci := 4) (v := .int f_length) (C := RX4) (T := TX4) (N := 4) hx hb hts (by decide +kernel) hown hK hP 0 rfl rfl 1 (by decide) (hts (.fieldLink RX4 15 "KnotStripes$Text" "length" "I") (by decide +kernel)) (fun _ h9 => h9) rfl dX4_append_8 ?_
    refine lv_aload_n hx hb dX4_append_11 rfl (lv_at hl 0 rfl) ?_
    refine va_get (D := D) (ci := 4) (v := .ref q_signs) (C := RX4) (T := TX4) (N := 4) hx hb hts (by decide +kernel) hown hK hP 0 rfl rfl 0 (by decide) (hts (.fieldLink RX4 9 "KnotStripes$Text" "signs" "[C") (by decide +kernel)) (fun _ h9 => h9) rfl dX4_append_12 ?_
    refine va_alen (D := D) (v := 60) hx hb hK hP 1 1 rfl rfl rfl dX4_append_15 ?_
    refine lv_icmp_lt (tgt := 21) hx hb dX4_append_16 (by decide) (fun hc => ?_) (fun hc => ?_)
    · have hm := if_t _ hc hm
      refine lv_aload_n hx hb dX4_append_21 rfl (lv_at hl 0 rfl) ?_
      refine va_get (D := D) (ci := 4) (v := .ref q_signs) (C := RX4) (T := TX4) (N := 4) hx hb hts (by decide +kernel) hown hK hP 0 rfl rfl 0 (by decide) (hts (.fieldLink RX4 9 "KnotStripes$Text" "signs" "[C") (by decide +kernel)) (fun _ h9 => h9) rfl dX4_append_22 ?_
      refine lv_aload_n hx hb dX4_append_25 rfl (lv_at hl 0 rfl) ?_
      refine va_get (D := D) (ci := 4) (v := .int f_length) (C := RX4) (T := TX4) (N := 4) hx hb hts (by decide +kernel) hown hK hP 0 rfl rfl 1 (by decide) (hts (.fieldLink RX4 15 "KnotStripes$Text" "length" "I") (by decide +kernel)) (fun _ h9 => h9) rfl dX4_append_26 ?_
      refine lv_iload_n hx hb dX4_append_29 rfl (lv_at hl 1 rfl) ?_
      obtain ⟨hi_1, hm⟩ := awr_use hm
      refine va_cast (D := D) (n := 60) (f := f_signs) hx hb hK hP hD hS 1 1 rfl rfl hi_1 dX4_append_30 (fun H locs hP hD hS => ?_)
      obtain ⟨f_signs_2, ef_signs_2⟩ : ∃ z, z = (upd f_signs (Int32.toNatClampNeg f_length) (vp_nar .char a1)) := ⟨_, rfl⟩
      have hm := nm_use ef_signs_2 hm
      rw [← ef_signs_2] at hP hD
      have hP : va_P D vwCl [(q, .inr (4, [.ref q_signs, .int f_length, .ref q_pairs, .int f_size])), (q_signs, .inl (cC, 60, .inl f_signs_2)), (q_pairs, .inl (cI, 21, .inl f_pairs))] H := hP
      have hD : va_D A [(q, .inr (4, [.ref q_signs, .int f_length, .ref q_pairs, .int f_size])), (q_signs, .inl (cC, 60, .inl f_signs_2)), (q_pairs, .inl (cI, 21, .inl f_pairs))] := hD
      refine lv_aload_n hx hb dX4_append_31 rfl (lv_at hl 0 rfl) ?_
      refine lv_dup hx hb dX4_append_32 rfl ?_
      refine va_get (D := D) (ci := 4) (v := .int f_length) (C := RX4) (T := TX4) (N := 4) hx hb hts (by decide +kernel) hown hK hP 0 rfl rfl 1 (by decide) (hts (.fieldLink RX4 15 "KnotStripes$Text" "length" "I") (by decide +kernel)) (fun _ h9 => h9) rfl dX4_append_33 ?_
      refine lv_iconst (v := 1) hx hb dX4_append_36 (by decide) ?_
      refine lv_iadd hx hb dX4_append_37 ?_
      refine W.eq (g2 := F0 m 38 ls (.int (f_length + 1) :: [.ref q])) rfl ?_
      refine lv_topi (fun w_3 ew_3 => ?_)
      have hm := nm_use ew_3 hm
      refine va_put (D := D) (ci := 4) (v := .int w_3) (ty := .int) (C := RX4) (T := TX4) (N := 4) hx hb hts (by decide +kernel) tyX4 tyX4_ok nmX4 hown hK hP hD hS 0 rfl rfl 1 (by decide) (hts (.fieldLink RX4 15 "KnotStripes$Text" "length" "I") (by decide +kernel)) (fun _ h9 => h9) rfl (by decide +kernel) rfl rfl (Nat.le_of_ble_eq_true rfl) dX4_append_38 (fun H locs hP hD hS => ?_)
      have hP : va_P D vwCl [(q, .inr (4, [.ref q_signs, .int w_3, .ref q_pairs, .int f_size])), (q_signs, .inl (cC, 60, .inl f_signs_2)), (q_pairs, .inl (cI, 21, .inl f_pairs))] H := hP
      have hD : va_D A [(q, .inr (4, [.ref q_signs, .int w_3, .ref q_pairs, .int f_size])), (q_signs, .inl (cC, 60, .inl f_signs_2)), (q_pairs, .inl (cI, 21, .inl f_pairs))] := hD
      refine lv_iconst (v := 1) hx hb dX4_append_41 (by decide) ?_
      have z1 := so_use hm
      obtain ⟨y1, z2⟩ := pr_use z1
      obtain ⟨y2, z3⟩ := pr_use z2
      subst y1
      subst y2
      subst z3
      exact hret _ _ _ _ _ dX4_append_42 rfl rfl hP hD hS
    · have hm := if_f _ hc hm
      refine lv_iconst (v := 0) hx hb dX4_append_19 (by decide) ?_
      have z1 := so_use hm
      obtain ⟨y1, z2⟩ := pr_use z1
      obtain ⟨y2, z3⟩ := pr_use z2
      subst y1
      subst y2
      subst z3
      exact hret _ _ _ _ _ dX4_append_20 rfl rfl hP hD hS
abbrev rX4_mayFollow : Room := { frames := 0, cells := 0, slots := 0, locals := 0 }
set_option maxHeartbeats 4000000 in
set_option maxRecDepth 100000 in
theorem k_X4_mayFollow (l : Launch) (D : va_G) (cI cC cN : ClassId) (N : Nat) (sz : Nat) (a0 : Int32) (a1 : Int32) (r : Int32) (hm : m_X4_mayFollow N a0 a1 = some r) : Met l yX4_mayFollow wsX4_mayFollow (rX4_mayFollow) (gPc D (tysG cI cC cN) [.int a0, .int a1] [] sz) (gQi D (tysG cI cC cN) (va_A [] sz) [] r) 0 0 (va_A [] sz) := by
  unfold m_X4_mayFollow at hm
  refine g_openI (cc := cX4_mayFollow) (maxL := 2) (own := RX4) (by decide) rfl rfl (Nat.le_of_ble_eq_true rfl) ?_
  intro p e s m args below meth c A Q hx hb hml hown hts hP hK hN hD hA hret ls hl
  have hS : va_S A s.heap s.heap [] := va_S.rf
  have hl : lv_has ls 2 [(0, .int a0), (1, .int a1)] := hl
  refine lv_iload_n hx hb dX4_mayFollow_0 rfl (lv_at hl 1 rfl) ?_
  refine lv_bipush (v := 48) hx hb dX4_mayFollow_1 (by decide) ?_
  refine lv_icmp_lt (tgt := 12) hx hb dX4_mayFollow_3 (by decide) (fun hc => ?_) (fun hc => ?_)
  · have hm := if_t _ hc hm
    refine lv_iconst (v := 0) hx hb dX4_mayFollow_12 (by decide) ?_
    have z1 := so_use hm
    subst z1
    exact hret _ _ _ _ _ dX4_mayFollow_13 rfl rfl hP hD hS
  · have hm := if_f _ hc hm
    refine lv_iload_n hx hb dX4_mayFollow_6 rfl (lv_at hl 1 rfl) ?_
    refine lv_bipush (v := 57) hx hb dX4_mayFollow_7 (by decide) ?_
    refine lv_icmp_le (tgt := 14) hx hb dX4_mayFollow_9 (by decide) (fun hc => ?_) (fun hc => ?_)
    · have hm := if_t _ hc hm
      refine lv_iload_n hx hb dX4_mayFollow_14 rfl (lv_at hl 0 rfl) ?_
      refine lv_iconst (v := (-1)) hx hb dX4_mayFollow_15 (by decide) ?_
      refine lv_icmp_eq (tgt := 30) hx hb dX4_mayFollow_16 (by decide) (fun hc => ?_) (fun hc => ?_)
      · have hm := if_t _ hc hm
        refine lv_iconst (v := 1) hx hb dX4_mayFollow_30 (by decide) ?_
        refine lv_goto (tgt := 35) hx hb dX4_mayFollow_31 (by decide) ?_
        have z1 := so_use hm
        subst z1
        exact hret _ _ _ _ _ dX4_mayFollow_35 rfl rfl hP hD hS
      · have hm := if_f _ hc hm
        refine lv_iload_n hx hb dX4_mayFollow_19 rfl (lv_at hl 0 rfl) ?_
        refine lv_iconst (v := 1) hx hb dX4_mayFollow_20 (by decide) ?_
        refine lv_icmp_ne (tgt := 34) hx hb dX4_mayFollow_21 (by decide) (fun hc => ?_) (fun hc => ?_)
        · have hm := if_f _ hc hm
          refine lv_iconst (v := 0) hx hb dX4_mayFollow_34 (by decide) ?_
          have z1 := so_use hm
          subst z1
          exact hret _ _ _ _ _ dX4_mayFollow_35 rfl rfl hP hD hS
        · have hm := if_t _ hc hm
          refine lv_iload_n hx hb dX4_mayFollow_24 rfl (lv_at hl 1 rfl) ?_
          refine lv_bipush (v := 51) hx hb dX4_mayFollow_25 (by decide) ?_
          refine lv_icmp_gt (tgt := 34) hx hb dX4_mayFollow_27 (by decide) (fun hc => ?_) (fun hc => ?_)
          · have hm := if_t _ hc hm
            refine lv_iconst (v := 0) hx hb dX4_mayFollow_34 (by decide) ?_
            have z1 := so_use hm
            subst z1
            exact hret _ _ _ _ _ dX4_mayFollow_35 rfl rfl hP hD hS
          · have hm := if_f _ hc hm
            refine lv_iconst (v := 1) hx hb dX4_mayFollow_30 (by decide) ?_
            refine lv_goto (tgt := 35) hx hb dX4_mayFollow_31 (by decide) ?_
            have z1 := so_use hm
            subst z1
            exact hret _ _ _ _ _ dX4_mayFollow_35 rfl rfl hP hD hS
    · have hm := if_f _ hc hm
      refine lv_iconst (v := 0) hx hb dX4_mayFollow_12 (by decide) ?_
      have z1 := so_use hm
      subst z1
      exact hret _ _ _ _ _ dX4_mayFollow_13 rfl rfl hP hD hS
abbrev rX4_addPair : Room := { frames := 1, cells := 0, slots := 0, locals := 22 }
set_option maxHeartbeats 4000000 in
set_option maxRecDepth 100000 in
theorem k_X4_addPair (l : Launch) (D : va_G) (cI cC cN : ClassId) (N : Nat) (q : Nat) (q_signs : Nat) (q_pairs : Nat) (sz : Nat) (f_signs : Nat → Int32) (f_length : Int32) (f_pairs : Nat → Int32) (f_size : Int32) (a1 : Int32) (a2 : Int32) (f_pairs' : Nat → Int32) (f_size' : Int32) (hm : m_X4_addPair N f_pairs f_size a1 a2 = some (f_pairs', f_size')) : Met l yX4_addPair wsX4_addPair (rX4_addPair) (gPc D (tysG cI cC cN) [.ref q, .int a1, .int a2] [(q, .inr (4, [.ref q_signs, .int f_length, .ref q_pairs, .int f_size])), (q_signs, .inl (cC, 60, .inl f_signs)), (q_pairs, .inl (cI, 21, .inl f_pairs))] sz) (gQv D (tysG cI cC cN) (va_A [(q, .inr (4, [.ref q_signs, .int f_length, .ref q_pairs, .int f_size])), (q_signs, .inl (cC, 60, .inl f_signs)), (q_pairs, .inl (cI, 21, .inl f_pairs))] sz) [(q, .inr (4, [.ref q_signs, .int f_length, .ref q_pairs, .int f_size'])), (q_signs, .inl (cC, 60, .inl f_signs)), (q_pairs, .inl (cI, 21, .inl f_pairs'))]) 0 0 (va_A [(q, .inr (4, [.ref q_signs, .int f_length, .ref q_pairs, .int f_size])), (q_signs, .inl (cC, 60, .inl f_signs)), (q_pairs, .inl (cI, 21, .inl f_pairs))] sz) := by
  unfold m_X4_addPair at hm
  refine g_openV (cc := cX4_addPair) (maxL := 3) (own := RX4) (by decide) rfl rfl (Nat.le_of_ble_eq_true rfl) ?_
  intro p e s m args below meth c A Q hx hb hml hown hts hP hK hN hD hA hret ls hl
  have hS : va_S A s.heap s.heap [] := va_S.rf
  have hl : lv_has ls 3 [(0, .ref q), (1, .int a1), (2, .int a2)] := hl
  refine lv_aload_n hx hb dX4_addPair_0 rfl (lv_at hl 0 rfl) ?_
  refine va_get (D := D) (ci := 4) (v := .ref q_pairs) (C := RX4) (T := TX4) (N := 4) hx hb hts (by decide +kernel) hown hK hP 0 rfl rfl 2 (by decide) (hts (.fieldLink RX4 19 "KnotStripes$Text" "pairs" "[I") (by decide +kernel)) (fun _ h9 => h9) rfl dX4_addPair_1 ?_
  refine lv_aload_n hx hb dX4_addPair_4 rfl (lv_at hl 0 rfl) ?_
  refine va_get (D := D) (ci := 4) (v := .int f_size) (C := RX4) (T := TX4) (N := 4) hx hb hts (by decide +kernel) hown hK hP 0 rfl rfl 3 (by decide) (hts (.fieldLink RX4 23 "KnotStripes$Text" "size" "I") (by decide +kernel)) (fun _ h9 => h9) rfl dX4_addPair_5 ?_
  refine lv_iload_n hx hb dX4_addPair_8 rfl (lv_at hl 1 rfl) ?_
  obtain ⟨r_1, h_2, hm⟩ := bind_use hm
  refine g_ki (wc := []) (wr := [(q, .inr (4, [.ref q_signs, .int f_length, .ref q_pairs, .int f_size])), (q_signs, .inl (cC, 60, .inl f_signs)), (q_pairs, .inl (cI, 21, .inl f_pairs))]) (w2 := [(q, .inr (4, [.ref q_signs, .int f_length, .ref q_pairs, .int f_size])), (q_signs, .inl (cC, 60, .inl f_signs)), (q_pairs, .inl (cI, 21, .inl f_pairs))]) (va_runSN (As := [.int a1]) (rest := [.int f_size, .ref q_pairs]) ⟨hx, hb, hml, hown, hts⟩ (k_X6_bit l D cI cC cN N s.heap.size a1 r_1 h_2) ⟨va_cnB 1 hts gX4_addPair_X6_bit_n34 rfl rfl rfl (hN (.methodLinkNest RX4 34 yX6_bit RX6) (by decide +kernel)) (hts (.initialized RX6) (by decide +kernel)) (by decide +kernel) ⟨Nat.le_of_ble_eq_true rfl, Nat.le_of_ble_eq_true rfl⟩, hts (.static yX6_bit) (by decide +kernel), trivial⟩ ⟨g_blind, g_pre (hP.sub [] rfl) hK hN (hD.sub [] (by decide) rfl)⟩ rfl rfl hl.1 rfl (lv_room (Nat.le_of_ble_eq_true rfl)) dX4_addPair_9 ⟨Nat.zero_le _, Nat.zero_le _⟩) hP hD hS hA [] [0, 1, 2] rfl rfl (by decide) (by decide) rfl (fun H locs hP hD hS => ?_)
  refine lv_iload_n hx hb dX4_addPair_12 rfl (lv_at hl 2 rfl) ?_
  obtain ⟨r_3, h_4, hm⟩ := bind_use hm
  refine g_ki (wc := []) (wr := [(q, .inr (4, [.ref q_signs, .int f_length, .ref q_pairs, .int f_size])), (q_signs, .inl (cC, 60, .inl f_signs)), (q_pairs, .inl (cI, 21, .inl f_pairs))]) (w2 := [(q, .inr (4, [.ref q_signs, .int f_length, .ref q_pairs, .int f_size])), (q_signs, .inl (cC, 60, .inl f_signs)), (q_pairs, .inl (cI, 21, .inl f_pairs))]) (va_runSN (As := [.int a2]) (rest := [.int r_1, .int f_size, .ref q_pairs]) ⟨hx, hb, hml, hown, hts⟩ (k_X6_bit l D cI cC cN N H.size a2 r_3 h_4) ⟨va_cnB 1 hts gX4_addPair_X6_bit_n34 rfl rfl rfl (hN (.methodLinkNest RX4 34 yX6_bit RX6) (by decide +kernel)) (hts (.initialized RX6) (by decide +kernel)) (by decide +kernel) ⟨Nat.le_of_ble_eq_true rfl, Nat.le_of_ble_eq_true rfl⟩, hts (.static yX6_bit) (by decide +kernel), trivial⟩ ⟨g_blind, g_pre (hP.sub [] rfl) hK hN (hD.sub [] (by decide) rfl)⟩ rfl rfl hl.1 rfl (lv_room (Nat.le_of_ble_eq_true rfl)) dX4_addPair_13 ⟨Nat.zero_le _, Nat.zero_le _⟩) hP hD hS hA [] [0, 1, 2] rfl rfl (by decide) (by decide) rfl (fun H locs hP hD hS => ?_)
  refine lv_ior hx hb dX4_addPair_16 ?_
  obtain ⟨f_pairs_5, h_6, hm⟩ := bind_use hm
  refine g_kv (wc := [(q_pairs, .inl (cI, 21, .inl f_pairs))]) (wr := [(q, .inr (4, [.ref q_signs, .int f_length, .ref q_pairs, .int f_size])), (q_signs, .inl (cC, 60, .inl f_signs))]) (w2 := [(q, .inr (4, [.ref q_signs, .int f_length, .ref q_pairs, .int f_size])), (q_signs, .inl (cC, 60, .inl f_signs)), (q_pairs, .inl (cI, 21, .inl f_pairs_5))]) (va_runSN (As := [.ref q_pairs, .int f_size, .int (r_1 ||| r_3)]) (rest := []) ⟨hx, hb, hml, hown, hts⟩ (k_X6_put l D cI cC cN N q_pairs 21 H.size f_pairs f_size (r_1 ||| r_3) f_pairs_5 h_6) ⟨va_cnB 3 hts gX4_addPair_X6_put_n38 rfl rfl rfl (hN (.methodLinkNest RX4 38 yX6_put RX6) (by decide +kernel)) (hts (.initialized RX6) (by decide +kernel)) (by decide +kernel) ⟨Nat.le_of_ble_eq_true rfl, Nat.le_of_ble_eq_true rfl⟩, hts (.static yX6_put) (by decide +kernel), trivial⟩ ⟨g_blind, g_pre (hP.sub [2] rfl) hK hN (hD.sub [2] (by decide) rfl)⟩ rfl rfl hl.1 rfl (lv_room (Nat.le_of_ble_eq_true rfl)) dX4_addPair_17 ⟨Nat.zero_le _, Nat.zero_le _⟩) hP hD hS hA [2] [0, 1] rfl rfl (by decide) (by decide) rfl (fun H locs hP hD hS => ?_)
  refine lv_aload_n hx hb dX4_addPair_20 rfl (lv_at hl 0 rfl) ?_
  refine lv_dup hx hb dX4_addPair_21 rfl ?_
  refine va_get (D := D) (ci := 4) (v := .int f_size) (C := RX4) (T := TX4) (N := 4) hx hb hts (by decide +kernel) hown hK hP 0 rfl rfl 3 (by decide) (hts (.fieldLink RX4 23 "KnotStripes$Text" "size" "I") (by decide +kernel)) (fun _ h9 => h9) rfl dX4_addPair_22 ?_
  refine lv_iconst (v := 1) hx hb dX4_addPair_25 (by decide) ?_
  refine lv_iadd hx hb dX4_addPair_26 ?_
  refine W.eq (g2 := F0 m 27 ls (.int (f_size + 1) :: [.ref q])) rfl ?_
  refine lv_topi (fun w_7 ew_7 => ?_)
  have hm := nm_use ew_7 hm
  refine va_put (D := D) (ci := 4) (v := .int w_7) (ty := .int) (C := RX4) (T := TX4) (N := 4) hx hb hts (by decide +kernel) tyX4 tyX4_ok nmX4 hown hK hP hD hS 0 rfl rfl 3 (by decide) (hts (.fieldLink RX4 23 "KnotStripes$Text" "size" "I") (by decide +kernel)) (fun _ h9 => h9) rfl (by decide +kernel) rfl rfl (Nat.le_of_ble_eq_true rfl) dX4_addPair_27 (fun H locs hP hD hS => ?_)
  have hP : va_P D vwCl [(q, .inr (4, [.ref q_signs, .int f_length, .ref q_pairs, .int w_7])), (q_signs, .inl (cC, 60, .inl f_signs)), (q_pairs, .inl (cI, 21, .inl f_pairs_5))] H := hP
  have hD : va_D A [(q, .inr (4, [.ref q_signs, .int f_length, .ref q_pairs, .int w_7])), (q_signs, .inl (cC, 60, .inl f_signs)), (q_pairs, .inl (cI, 21, .inl f_pairs_5))] := hD
  have z1 := so_use hm
  obtain ⟨y1, z2⟩ := pr_use z1
  subst y1
  subst z2
  exact hret _ _ _ _ dX4_addPair_30 hP hD hS
abbrev rX4_read : Room := { frames := 2, cells := 0, slots := 0, locals := 44 }
set_option maxHeartbeats 4000000 in
set_option maxRecDepth 100000 in
theorem k_X4_read (l : Launch) (D : va_G) (cI cC cN : ClassId) (N : Nat) (q : Nat) (q_signs : Nat) (q_pairs : Nat) (sz : Nat) (f_signs : Nat → Int32) (f_length : Int32) (f_pairs : Nat → Int32) (f_size : Int32) (r : Int32) (f_pairs' : Nat → Int32) (f_size' : Int32) (hm : m_X4_read N f_signs f_length f_pairs f_size = some (r, f_pairs', f_size')) : Met l yX4_read wsX4_read (rX4_read) (gPc D (tysG cI cC cN) [.ref q] [(q, .inr (4, [.ref q_signs, .int f_length, .ref q_pairs, .int f_size])), (q_signs, .inl (cC, 60, .inl f_signs)), (q_pairs, .inl (cI, 21, .inl f_pairs))] sz) (gQi D (tysG cI cC cN) (va_A [(q, .inr (4, [.ref q_signs, .int f_length, .ref q_pairs, .int f_size])), (q_signs, .inl (cC, 60, .inl f_signs)), (q_pairs, .inl (cI, 21, .inl f_pairs))] sz) [(q, .inr (4, [.ref q_signs, .int f_length, .ref q_pairs, .int f_size'])), (q_signs, .inl (cC, 60, .inl f_signs)), (q_pairs, .inl (cI, 21, .inl f_pairs'))] r) 0 0 (va_A [(q, .inr (4, [.ref q_signs, .int f_length, .ref q_pairs, .int f_size])), (q_signs, .inl (cC, 60, .inl f_signs)), (q_pairs, .inl (cI, 21, .inl f_pairs))] sz) := by
  unfold m_X4_read at hm
  refine g_openI (cc := cX4_read) (maxL := 5) (own := RX4) (by decide) rfl rfl (Nat.le_of_ble_eq_true rfl) ?_
  intro p e s m args below meth c A Q hx hb hml hown hts hP hK hN hD hA hret ls hl
  have hS : va_S A s.heap s.heap [] := va_S.rf
  have hl : lv_has ls 5 [(0, .ref q)] := hl
  refine lv_aload_n hx hb dX4_read_0 rfl (lv_at hl 0 rfl) ?_
  refine lv_iconst (v := 0) hx hb dX4_read_1 (by decide) ?_
  refine va_put (D := D) (ci := 4) (v := .int 0) (ty := .int) (C := RX4) (T := TX4) (N := 4) hx hb hts (by decide +kernel) tyX4 tyX4_ok nmX4 hown hK hP hD hS 0 rfl rfl 3 (by decide) (hts (.fieldLink RX4 23 "KnotStripes$Text" "size" "I") (by decide +kernel)) (fun _ h9 => h9) rfl (by decide +kernel) rfl rfl (Nat.le_of_ble_eq_true rfl) dX4_read_2 (fun H locs hP hD hS => ?_)
  have hP : va_P D vwCl [(q, .inr (4, [.ref q_signs, .int f_length, .ref q_pairs, .int 0])), (q_signs, .inl (cC, 60, .inl f_signs)), (q_pairs, .inl (cI, 21, .inl f_pairs))] H := hP
  have hD : va_D A [(q, .inr (4, [.ref q_signs, .int f_length, .ref q_pairs, .int 0])), (q_signs, .inl (cC, 60, .inl f_signs)), (q_pairs, .inl (cI, 21, .inl f_pairs))] := hD
  refine lv_iconst (v := (-1)) hx hb dX4_read_5 (by decide) ?_
  refine lv_istore_n (lv' := [(1, .int (-1)), (0, .ref q)]) hx hb dX4_read_6 rfl hl (by decide) rfl (fun ls hl => ?_)
  refine lv_iconst (v := (-1)) hx hb dX4_read_7 (by decide) ?_
  refine lv_istore_n (lv' := [(2, .int (-1)), (1, .int (-1)), (0, .ref q)]) hx hb dX4_read_8 rfl hl (by decide) rfl (fun ls hl => ?_)
  refine lv_iconst (v := 0) hx hb dX4_read_9 (by decide) ?_
  refine lv_istore_n (lv' := [(3, .int 0), (2, .int (-1)), (1, .int (-1)), (0, .ref q)]) hx hb dX4_read_10 rfl hl (by decide) rfl (fun ls hl => ?_)
  obtain ⟨J130, hJ130, hm⟩ := jn_use hm
  have j130 : ∀ (x2_1 : Int32) (x1_2 : Int32) (f_pairs_3 : Nat → Int32) (f_size_4 : Int32), ∀ (H : Heap) (locs : List Loc) (ls : Array Slot), va_P D vwCl [(q, .inr (4, [.ref q_signs, .int f_length, .ref q_pairs, .int f_size_4])), (q_signs, .inl (cC, 60, .inl f_signs)), (q_pairs, .inl (cI, 21, .inl f_pairs_3))] H → va_D A [(q, .inr (4, [.ref q_signs, .int f_length, .ref q_pairs, .int f_size_4])), (q_signs, .inl (cC, 60, .inl f_signs)), (q_pairs, .inl (cI, 21, .inl f_pairs_3))] → va_S A s.heap H locs → lv_has ls 5 [(2, .int x2_1), (1, .int x1_2), (0, .ref q)] → J130 x2_1 x1_2 f_pairs_3 f_size_4 = some (r, f_pairs', f_size') → W p l e rX4_read s m args below meth c H locs 0 0 Q (F0 m 130 ls []) := by
    intro x2_1 x1_2 f_pairs_3 f_size_4 H locs ls hP hD hS hl hm
    rw [hJ130] at hm
    refine lv_iload_n hx hb dX4_read_130 rfl (lv_at hl 1 rfl) ?_
    refine lv_iconst (v := (-1)) hx hb dX4_read_131 (by decide) ?_
    refine lv_icmp_eq (tgt := 140) hx hb dX4_read_132 (by decide) (fun hc => ?_) (fun hc => ?_)
    · have hm := if_t _ hc hm
      refine lv_aload_n hx hb dX4_read_140 rfl (lv_at hl 2 rfl) ?_
      refine va_get (D := D) (ci := 4) (v := .int f_length) (C := RX4) (T := TX4) (N := 4) hx hb hts (by decide +kernel) hown hK hP 0 rfl rfl 1 (by decide) (hts (.fieldLink RX4 15 "KnotStripes$Text" "length" "I") (by decide +kernel)) (fun _ h9 => h9) rfl dX4_read_141 ?_
      have z1 := so_use hm
      obtain ⟨y1, z2⟩ := pr_use z1
      obtain ⟨y2, z3⟩ := pr_use z2
      subst y1
      subst y2
      subst z3
      exact hret _ _ _ _ _ dX4_read_144 rfl rfl hP hD hS
    · have hm := if_f _ hc hm
      refine lv_iload_n hx hb dX4_read_135 rfl (lv_at hl 0 rfl) ?_
      refine lv_iconst (v := (-1)) hx hb dX4_read_136 (by decide) ?_
      refine lv_icmp_ne (tgt := 145) hx hb dX4_read_137 (by decide) (fun hc => ?_) (fun hc => ?_)
      · have hm := if_f _ hc hm
        refine lv_aload_n hx hb dX4_read_145 rfl (lv_at hl 2 rfl) ?_
        refine lv_iload_n hx hb dX4_read_146 rfl (lv_at hl 1 rfl) ?_
        refine lv_iload_n hx hb dX4_read_147 rfl (lv_at hl 0 rfl) ?_
        obtain ⟨⟨f_pairs_5, f_size_6⟩, h_7, hm⟩ := bind_use hm
        refine g_kv (wc := [(q, .inr (4, [.ref q_signs, .int f_length, .ref q_pairs, .int f_size_4])), (q_signs, .inl (cC, 60, .inl f_signs)), (q_pairs, .inl (cI, 21, .inl f_pairs_3))]) (wr := []) (w2 := [(q, .inr (4, [.ref q_signs, .int f_length, .ref q_pairs, .int f_size_6])), (q_signs, .inl (cC, 60, .inl f_signs)), (q_pairs, .inl (cI, 21, .inl f_pairs_5))]) (va_runV (As := [.int x1_2, .int x2_1]) (rest := []) ⟨hx, hb, hml, hown, hts⟩ (k_X4_addPair l D cI cC cN N q q_signs q_pairs H.size f_signs f_length f_pairs_3 f_size_4 x1_2 x2_1 f_pairs_5 f_size_6 h_7) (cwV 2 hts gX4_read_X4_addPair rfl rfl rfl (by decide +kernel) ⟨Nat.le_of_ble_eq_true rfl, Nat.le_of_ble_eq_true rfl⟩) ⟨g_blind, va_recv (D := D) (ci := 4) (q0 := 0) hK hP rfl rfl, g_pre (hP.sub [0, 1, 2] rfl) hK hN (hD.sub [0, 1, 2] (by decide) rfl)⟩ rfl rfl hl.1 rfl (lv_room (Nat.le_of_ble_eq_true rfl)) dX4_read_148 ⟨Nat.zero_le _, Nat.zero_le _⟩) hP hD hS hA [0, 1, 2] [] rfl rfl (by decide) (by decide) rfl (fun H locs hP hD hS => ?_)
        refine lv_iconst (v := (-1)) hx hb dX4_read_151 (by decide) ?_
        have z1 := so_use hm
        obtain ⟨y1, z2⟩ := pr_use z1
        obtain ⟨y2, z3⟩ := pr_use z2
        subst y1
        subst y2
        subst z3
        exact hret _ _ _ _ _ dX4_read_152 rfl rfl hP hD hS
      · have hm := if_t _ hc hm
        refine lv_aload_n hx hb dX4_read_140 rfl (lv_at hl 2 rfl) ?_
        refine va_get (D := D) (ci := 4) (v := .int f_length) (C := RX4) (T := TX4) (N := 4) hx hb hts (by decide +kernel) hown hK hP 0 rfl rfl 1 (by decide) (hts (.fieldLink RX4 15 "KnotStripes$Text" "length" "I") (by decide +kernel)) (fun _ h9 => h9) rfl dX4_read_141 ?_
        have z1 := so_use hm
        obtain ⟨y1, z2⟩ := pr_use z1
        obtain ⟨y2, z3⟩ := pr_use z2
        subst y1
        subst y2
        subst z3
        exact hret _ _ _ _ _ dX4_read_144 rfl rfl hP hD hS
  have l11 : ∀ (n_11 : Nat) (x3_8 : Int32) (x2_9 : Int32) (x1_10 : Int32) (f_pairs_11 : Nat → Int32) (f_size_12 : Int32), ∀ (H : Heap) (locs : List Loc) (ls : Array Slot), va_P D vwCl [(q, .inr (4, [.ref q_signs, .int f_length, .ref q_pairs, .int f_size_12])), (q_signs, .inl (cC, 60, .inl f_signs)), (q_pairs, .inl (cI, 21, .inl f_pairs_11))] H → va_D A [(q, .inr (4, [.ref q_signs, .int f_length, .ref q_pairs, .int f_size_12])), (q_signs, .inl (cC, 60, .inl f_signs)), (q_pairs, .inl (cI, 21, .inl f_pairs_11))] → va_S A s.heap H locs → lv_has ls 5 [(3, .int x3_8), (2, .int x2_9), (1, .int x1_10), (0, .ref q)] → m_X4_read_L11 N f_signs f_length J130 n_11 x3_8 x2_9 x1_10 f_pairs_11 f_size_12 = some (r, f_pairs', f_size') → W p l e rX4_read s m args below meth c H locs 0 0 Q (F0 m 11 ls []) := by
    intro n_11
    induction n_11 with
    | zero => intro x3_8 x2_9 x1_10 f_pairs_11 f_size_12 H locs ls hP hD hS hl hm; rw [m_X4_read_L11] at hm; exact no_use hm
    | succ n_11 ih11 =>
      intro x3_8 x2_9 x1_10 f_pairs_11 f_size_12 H locs ls hP hD hS hl hm
      rw [m_X4_read_L11] at hm
      refine lv_iload_n hx hb dX4_read_11 rfl (lv_at hl 0 rfl) ?_
      refine lv_aload_n hx hb dX4_read_12 rfl (lv_at hl 3 rfl) ?_
      refine va_get (D := D) (ci := 4) (v := .int f_length) (C := RX4) (T := TX4) (N := 4) hx hb hts (by decide +kernel) hown hK hP 0 rfl rfl 1 (by decide) (hts (.fieldLink RX4 15 "KnotStripes$Text" "length" "I") (by decide +kernel)) (fun _ h9 => h9) rfl dX4_read_13 ?_
      refine lv_icmp_ge (tgt := 130) hx hb dX4_read_16 (by decide) (fun hc => ?_) (fun hc => ?_)
      · have hm := if_t _ hc hm
        exact j130 x2_9 x1_10 f_pairs_11 f_size_12 _ _ _ hP hD hS (lv_sub hl [1, 2, 3] rfl) hm
      · have hm := if_f _ hc hm
        refine lv_iload_n hx hb dX4_read_19 rfl (lv_at hl 0 rfl) ?_
        refine lv_aload_n hx hb dX4_read_20 rfl (lv_at hl 3 rfl) ?_
        refine va_get (D := D) (ci := 4) (v := .ref q_signs) (C := RX4) (T := TX4) (N := 4) hx hb hts (by decide +kernel) hown hK hP 0 rfl rfl 0 (by decide) (hts (.fieldLink RX4 9 "KnotStripes$Text" "signs" "[C") (by decide +kernel)) (fun _ h9 => h9) rfl dX4_read_21 ?_
        refine va_alen (D := D) (v := 60) hx hb hK hP 1 1 rfl rfl rfl dX4_read_24 ?_
        refine lv_icmp_ge (tgt := 130) hx hb dX4_read_25 (by decide) (fun hc => ?_) (fun hc => ?_)
        · have hm := if_t _ hc hm
          exact j130 x2_9 x1_10 f_pairs_11 f_size_12 _ _ _ hP hD hS (lv_sub hl [1, 2, 3] rfl) hm
        · have hm := if_f _ hc hm
          refine lv_aload_n hx hb dX4_read_28 rfl (lv_at hl 3 rfl) ?_
          refine va_get (D := D) (ci := 4) (v := .ref q_signs) (C := RX4) (T := TX4) (N := 4) hx hb hts (by decide +kernel) hown hK hP 0 rfl rfl 0 (by decide) (hts (.fieldLink RX4 9 "KnotStripes$Text" "signs" "[C") (by decide +kernel)) (fun _ h9 => h9) rfl dX4_read_29 ?_
          refine lv_iload_n hx hb dX4_read_32 rfl (lv_at hl 0 rfl) ?_
          obtain ⟨hi_13, hm⟩ := ard_use hm
          refine va_cald (D := D) (n := 60) (f := f_signs) hx hb hK hP 1 1 rfl rfl hi_13 dX4_read_33 ?_
          refine lv_topi (fun u_14 eu_14 => ?_)
          have hm := nm_use eu_14 hm
          refine lv_istore (lv' := [(4, .int u_14), (3, .int x3_8), (2, .int x2_9), (1, .int x1_10), (0, .ref q)]) hx hb dX4_read_34 hl (by decide) rfl (fun ls hl => ?_)
          refine lv_iload_n hx hb dX4_read_36 rfl (lv_at hl 2 rfl) ?_
          refine lv_iload hx hb dX4_read_37 (lv_at hl 0 rfl) ?_
          obtain ⟨r_15, h_16, hm⟩ := bind_use hm
          refine g_ki (wc := []) (wr := [(q, .inr (4, [.ref q_signs, .int f_length, .ref q_pairs, .int f_size_12])), (q_signs, .inl (cC, 60, .inl f_signs)), (q_pairs, .inl (cI, 21, .inl f_pairs_11))]) (w2 := [(q, .inr (4, [.ref q_signs, .int f_length, .ref q_pairs, .int f_size_12])), (q_signs, .inl (cC, 60, .inl f_signs)), (q_pairs, .inl (cI, 21, .inl f_pairs_11))]) (va_runS (As := [.int x2_9, .int u_14]) (rest := []) ⟨hx, hb, hml, hown, hts⟩ (k_X4_mayFollow l D cI cC cN N H.size x2_9 u_14 r_15 h_16) (va_cwS 2 hts gX4_read_X4_mayFollow rfl rfl rfl (by decide +kernel) ⟨Nat.le_of_ble_eq_true rfl, Nat.le_of_ble_eq_true rfl⟩) ⟨g_blind, g_pre (hP.sub [] rfl) hK hN (hD.sub [] (by decide) rfl)⟩ rfl rfl hl.1 rfl (lv_room (Nat.le_of_ble_eq_true rfl)) dX4_read_39 ⟨Nat.zero_le _, Nat.zero_le _⟩) hP hD hS hA [] [0, 1, 2] rfl rfl (by decide) (by decide) rfl (fun H locs hP hD hS => ?_)
          refine lv_if_eq (tgt := 68) hx hb dX4_read_42 (by decide) (fun hc => ?_) (fun hc => ?_)
          · have hm := if_t _ hc hm
            refine lv_iload hx hb dX4_read_68 (lv_at hl 0 rfl) ?_
            refine lv_bipush (v := 45) hx hb dX4_read_70 (by decide) ?_
            obtain ⟨J92, hJ92, hm⟩ := jn_use hm
            have j92 : ∀ (H : Heap) (locs : List Loc) (ls : Array Slot), va_P D vwCl [(q, .inr (4, [.ref q_signs, .int f_length, .ref q_pairs, .int f_size_12])), (q_signs, .inl (cC, 60, .inl f_signs)), (q_pairs, .inl (cI, 21, .inl f_pairs_11))] H → va_D A [(q, .inr (4, [.ref q_signs, .int f_length, .ref q_pairs, .int f_size_12])), (q_signs, .inl (cC, 60, .inl f_signs)), (q_pairs, .inl (cI, 21, .inl f_pairs_11))] → va_S A s.heap H locs → lv_has ls 5 [(4, .int u_14), (3, .int x3_8), (2, .int x2_9), (1, .int x1_10), (0, .ref q)] → J92 = some (r, f_pairs', f_size') → W p l e rX4_read s m args below meth c H locs 0 0 Q (F0 m 92 ls []) := by
              intro H locs ls hP hD hS hl hm
              rw [hJ92] at hm
              refine lv_iload hx hb dX4_read_92 (lv_at hl 0 rfl) ?_
              refine lv_bipush (v := 44) hx hb dX4_read_94 (by decide) ?_
              refine lv_icmp_ne (tgt := 122) hx hb dX4_read_96 (by decide) (fun hc => ?_) (fun hc => ?_)
              · have hm := if_f _ hc hm
                refine lv_iload_n hx hb dX4_read_122 rfl (lv_at hl 1 rfl) ?_
                have z1 := so_use hm
                obtain ⟨y1, z2⟩ := pr_use z1
                obtain ⟨y2, z3⟩ := pr_use z2
                subst y1
                subst y2
                subst z3
                exact hret _ _ _ _ _ dX4_read_123 rfl rfl hP hD hS
              · have hm := if_t _ hc hm
                refine lv_iload_n hx hb dX4_read_99 rfl (lv_at hl 2 rfl) ?_
                refine lv_iconst (v := (-1)) hx hb dX4_read_100 (by decide) ?_
                refine lv_icmp_eq (tgt := 122) hx hb dX4_read_101 (by decide) (fun hc => ?_) (fun hc => ?_)
                · have hm := if_t _ hc hm
                  refine lv_iload_n hx hb dX4_read_122 rfl (lv_at hl 1 rfl) ?_
                  have z1 := so_use hm
                  obtain ⟨y1, z2⟩ := pr_use z1
                  obtain ⟨y2, z3⟩ := pr_use z2
                  subst y1
                  subst y2
                  subst z3
                  exact hret _ _ _ _ _ dX4_read_123 rfl rfl hP hD hS
                · have hm := if_f _ hc hm
                  refine lv_iload_n hx hb dX4_read_104 rfl (lv_at hl 3 rfl) ?_
                  refine lv_iconst (v := (-1)) hx hb dX4_read_105 (by decide) ?_
                  refine lv_icmp_eq (tgt := 122) hx hb dX4_read_106 (by decide) (fun hc => ?_) (fun hc => ?_)
                  · have hm := if_t _ hc hm
                    refine lv_iload_n hx hb dX4_read_122 rfl (lv_at hl 1 rfl) ?_
                    have z1 := so_use hm
                    obtain ⟨y1, z2⟩ := pr_use z1
                    obtain ⟨y2, z3⟩ := pr_use z2
                    subst y1
                    subst y2
                    subst z3
                    exact hret _ _ _ _ _ dX4_read_123 rfl rfl hP hD hS
                  · have hm := if_f _ hc hm
                    refine lv_aload_n hx hb dX4_read_109 rfl (lv_at hl 4 rfl) ?_
                    refine lv_iload_n hx hb dX4_read_110 rfl (lv_at hl 3 rfl) ?_
                    refine lv_iload_n hx hb dX4_read_111 rfl (lv_at hl 2 rfl) ?_
                    obtain ⟨⟨f_pairs_17, f_size_18⟩, h_19, hm⟩ := bind_use hm
                    refine g_kv (wc := [(q, .inr (4, [.ref q_signs, .int f_length, .ref q_pairs, .int f_size_12])), (q_signs, .inl (cC, 60, .inl f_signs)), (q_pairs, .inl (cI, 21, .inl f_pairs_11))]) (wr := []) (w2 := [(q, .inr (4, [.ref q_signs, .int f_length, .ref q_pairs, .int f_size_18])), (q_signs, .inl (cC, 60, .inl f_signs)), (q_pairs, .inl (cI, 21, .inl f_pairs_17))]) (va_runV (As := [.int x1_10, .int x2_9]) (rest := []) ⟨hx, hb, hml, hown, hts⟩ (k_X4_addPair l D cI cC cN N q q_signs q_pairs H.size f_signs f_length f_pairs_11 f_size_12 x1_10 x2_9 f_pairs_17 f_size_18 h_19) (cwV 2 hts gX4_read_X4_addPair rfl rfl rfl (by decide +kernel) ⟨Nat.le_of_ble_eq_true rfl, Nat.le_of_ble_eq_true rfl⟩) ⟨g_blind, va_recv (D := D) (ci := 4) (q0 := 0) hK hP rfl rfl, g_pre (hP.sub [0, 1, 2] rfl) hK hN (hD.sub [0, 1, 2] (by decide) rfl)⟩ rfl rfl hl.1 rfl (lv_room (Nat.le_of_ble_eq_true rfl)) dX4_read_112 ⟨Nat.zero_le _, Nat.zero_le _⟩) hP hD hS hA [0, 1, 2] [] rfl rfl (by decide) (by decide) rfl (fun H locs hP hD hS => ?_)
                    refine lv_iconst (v := (-1)) hx hb dX4_read_115 (by decide) ?_
                    refine lv_istore_n (lv' := [(1, .int (-1)), (4, .int u_14), (3, .int x3_8), (2, .int x2_9), (0, .ref q)]) hx hb dX4_read_116 rfl hl (by decide) rfl (fun ls hl => ?_)
                    refine lv_iconst (v := (-1)) hx hb dX4_read_117 (by decide) ?_
                    refine lv_istore_n (lv' := [(2, .int (-1)), (1, .int (-1)), (4, .int u_14), (3, .int x3_8), (0, .ref q)]) hx hb dX4_read_118 rfl hl (by decide) rfl (fun ls hl => ?_)
                    refine lv_goto (tgt := 124) hx hb dX4_read_119 (by decide) ?_
                    refine lv_iinc (v := (x3_8 + 1)) (lv' := [(3, .int (x3_8 + 1)), (2, .int (-1)), (1, .int (-1)), (4, .int u_14), (0, .ref q)]) hx hb dX4_read_124 hl (k := 3) rfl rfl (by decide) rfl (fun ls hl => ?_)
                    refine lv_goto (tgt := 11) hx hb dX4_read_127 (by decide) ?_
                    exact ih11 (x3_8 + 1) (-1) (-1) f_pairs_17 f_size_18 _ _ _ hP hD hS (lv_sub hl [0, 1, 2, 4] rfl) hm
            refine lv_icmp_ne (tgt := 92) hx hb dX4_read_72 (by decide) (fun hc => ?_) (fun hc => ?_)
            · have hm := if_f _ hc hm
              exact j92 _ _ _ hP hD hS hl hm
            · have hm := if_t _ hc hm
              refine lv_iload_n hx hb dX4_read_75 rfl (lv_at hl 2 rfl) ?_
              refine lv_iconst (v := (-1)) hx hb dX4_read_76 (by decide) ?_
              refine lv_icmp_eq (tgt := 92) hx hb dX4_read_77 (by decide) (fun hc => ?_) (fun hc => ?_)
              · have hm := if_t _ hc hm
                exact j92 _ _ _ hP hD hS hl hm
              · have hm := if_f _ hc hm
                refine lv_iload_n hx hb dX4_read_80 rfl (lv_at hl 3 rfl) ?_
                refine lv_iconst (v := (-1)) hx hb dX4_read_81 (by decide) ?_
                refine lv_icmp_ne (tgt := 92) hx hb dX4_read_82 (by decide) (fun hc => ?_) (fun hc => ?_)
                · have hm := if_f _ hc hm
                  exact j92 _ _ _ hP hD hS hl hm
                · have hm := if_t _ hc hm
                  refine lv_iload_n hx hb dX4_read_85 rfl (lv_at hl 2 rfl) ?_
                  refine lv_istore_n (lv' := [(1, .int x2_9), (4, .int u_14), (3, .int x3_8), (2, .int x2_9), (0, .ref q)]) hx hb dX4_read_86 rfl hl (by decide) rfl (fun ls hl => ?_)
                  refine lv_iconst (v := (-1)) hx hb dX4_read_87 (by decide) ?_
                  refine lv_istore_n (lv' := [(2, .int (-1)), (1, .int x2_9), (4, .int u_14), (3, .int x3_8), (0, .ref q)]) hx hb dX4_read_88 rfl hl (by decide) rfl (fun ls hl => ?_)
                  refine lv_goto (tgt := 124) hx hb dX4_read_89 (by decide) ?_
                  refine lv_iinc (v := (x3_8 + 1)) (lv' := [(3, .int (x3_8 + 1)), (2, .int (-1)), (1, .int x2_9), (4, .int u_14), (0, .ref q)]) hx hb dX4_read_124 hl (k := 3) rfl rfl (by decide) rfl (fun ls hl => ?_)
                  refine lv_goto (tgt := 11) hx hb dX4_read_127 (by decide) ?_
                  exact ih11 (x3_8 + 1) (-1) x2_9 f_pairs_11 f_size_12 _ _ _ hP hD hS (lv_sub hl [0, 1, 2, 4] rfl) hm
          · have hm := if_f _ hc hm
            refine lv_iload_n hx hb dX4_read_45 rfl (lv_at hl 2 rfl) ?_
            refine lv_iconst (v := (-1)) hx hb dX4_read_46 (by decide) ?_
            obtain ⟨J58, hJ58, hm⟩ := jn_use hm
            have j58 : ∀ (y_20 : Int32), ∀ (H : Heap) (locs : List Loc) (ls : Array Slot), va_P D vwCl [(q, .inr (4, [.ref q_signs, .int f_length, .ref q_pairs, .int f_size_12])), (q_signs, .inl (cC, 60, .inl f_signs)), (q_pairs, .inl (cI, 21, .inl f_pairs_11))] H → va_D A [(q, .inr (4, [.ref q_signs, .int f_length, .ref q_pairs, .int f_size_12])), (q_signs, .inl (cC, 60, .inl f_signs)), (q_pairs, .inl (cI, 21, .inl f_pairs_11))] → va_S A s.heap H locs → lv_has ls 5 [(4, .int u_14), (3, .int x3_8), (1, .int x1_10), (0, .ref q)] → J58 y_20 = some (r, f_pairs', f_size') → W p l e rX4_read s m args below meth c H locs 0 0 Q (F0 m 58 ls [.int y_20]) := by
              intro y_20 H locs ls hP hD hS hl hm
              rw [hJ58] at hm
              refine lv_iload hx hb dX4_read_58 (lv_at hl 0 rfl) ?_
              refine lv_bipush (v := 48) hx hb dX4_read_60 (by decide) ?_
              refine lv_isub hx hb dX4_read_62 ?_
              refine lv_iadd hx hb dX4_read_63 ?_
              refine lv_topi (fun v2_21 ev2_21 => ?_)
              have hm := nm_use ev2_21 hm
              refine lv_istore_n (lv' := [(2, .int v2_21), (4, .int u_14), (3, .int x3_8), (1, .int x1_10), (0, .ref q)]) hx hb dX4_read_64 rfl hl (by decide) rfl (fun ls hl => ?_)
              refine lv_goto (tgt := 124) hx hb dX4_read_65 (by decide) ?_
              refine lv_iinc (v := (x3_8 + 1)) (lv' := [(3, .int (x3_8 + 1)), (2, .int v2_21), (4, .int u_14), (1, .int x1_10), (0, .ref q)]) hx hb dX4_read_124 hl (k := 2) rfl rfl (by decide) rfl (fun ls hl => ?_)
              refine lv_goto (tgt := 11) hx hb dX4_read_127 (by decide) ?_
              exact ih11 (x3_8 + 1) v2_21 x1_10 f_pairs_11 f_size_12 _ _ _ hP hD hS (lv_sub hl [0, 1, 3, 4] rfl) hm
            refine lv_icmp_ne (tgt := 54) hx hb dX4_read_47 (by decide) (fun hc => ?_) (fun hc => ?_)
            · have hm := if_f _ hc hm
              refine lv_bipush (v := 10) hx hb dX4_read_54 (by decide) ?_
              refine lv_iload_n hx hb dX4_read_56 rfl (lv_at hl 2 rfl) ?_
              refine lv_imul hx hb dX4_read_57 ?_
              exact j58 (10 * x2_9) _ _ _ hP hD hS (lv_sub hl [0, 1, 3, 4] rfl) hm
            · have hm := if_t _ hc hm
              refine lv_iconst (v := 0) hx hb dX4_read_50 (by decide) ?_
              refine lv_goto (tgt := 58) hx hb dX4_read_51 (by decide) ?_
              exact j58 0 _ _ _ hP hD hS (lv_sub hl [0, 1, 3, 4] rfl) hm
  exact l11 N 0 (-1) (-1) f_pairs 0 _ _ _ hP hD hS hl hm
abbrev rX4_tiesAKnotToItself : Room := { frames := 1, cells := 0, slots := 0, locals := 21 }
set_option maxHeartbeats 4000000 in
set_option maxRecDepth 100000 in
theorem k_X4_tiesAKnotToItself (l : Launch) (D : va_G) (cI cC cN : ClassId) (N : Nat) (q : Nat) (q_signs : Nat) (q_pairs : Nat) (sz : Nat) (f_signs : Nat → Int32) (f_length : Int32) (f_pairs : Nat → Int32) (f_size : Int32) (r : Int32) (hm : m_X4_tiesAKnotToItself N f_pairs f_size = some r) : Met l yX4_tiesAKnotToItself wsX4_tiesAKnotToItself (rX4_tiesAKnotToItself) (gPc D (tysG cI cC cN) [.ref q] [(q, .inr (4, [.ref q_signs, .int f_length, .ref q_pairs, .int f_size])), (q_signs, .inl (cC, 60, .inl f_signs)), (q_pairs, .inl (cI, 21, .inl f_pairs))] sz) (gQi D (tysG cI cC cN) (va_A [(q, .inr (4, [.ref q_signs, .int f_length, .ref q_pairs, .int f_size])), (q_signs, .inl (cC, 60, .inl f_signs)), (q_pairs, .inl (cI, 21, .inl f_pairs))] sz) [(q, .inr (4, [.ref q_signs, .int f_length, .ref q_pairs, .int f_size])), (q_signs, .inl (cC, 60, .inl f_signs)), (q_pairs, .inl (cI, 21, .inl f_pairs))] r) 0 0 (va_A [(q, .inr (4, [.ref q_signs, .int f_length, .ref q_pairs, .int f_size])), (q_signs, .inl (cC, 60, .inl f_signs)), (q_pairs, .inl (cI, 21, .inl f_pairs))] sz) := by
  unfold m_X4_tiesAKnotToItself at hm
  refine g_openI (cc := cX4_tiesAKnotToItself) (maxL := 2) (own := RX4) (by decide) rfl rfl (Nat.le_of_ble_eq_true rfl) ?_
  intro p e s m args below meth c A Q hx hb hml hown hts hP hK hN hD hA hret ls hl
  have hS : va_S A s.heap s.heap [] := va_S.rf
  have hl : lv_has ls 2 [(0, .ref q)] := hl
  refine lv_iconst (v := 0) hx hb dX4_tiesAKnotToItself_0 (by decide) ?_
  refine lv_istore_n (lv' := [(1, .int 0), (0, .ref q)]) hx hb dX4_tiesAKnotToItself_1 rfl hl (by decide) rfl (fun ls hl => ?_)
  have l2 : ∀ (n_2 : Nat) (x1_1 : Int32), ∀ (H : Heap) (locs : List Loc) (ls : Array Slot), va_P D vwCl [(q, .inr (4, [.ref q_signs, .int f_length, .ref q_pairs, .int f_size])), (q_signs, .inl (cC, 60, .inl f_signs)), (q_pairs, .inl (cI, 21, .inl f_pairs))] H → va_D A [(q, .inr (4, [.ref q_signs, .int f_length, .ref q_pairs, .int f_size])), (q_signs, .inl (cC, 60, .inl f_signs)), (q_pairs, .inl (cI, 21, .inl f_pairs))] → va_S A s.heap H locs → lv_has ls 2 [(1, .int x1_1), (0, .ref q)] → m_X4_tiesAKnotToItself_L2 N f_pairs f_size n_2 x1_1 = some r → W p l e rX4_tiesAKnotToItself s m args below meth c H locs 0 0 Q (F0 m 2 ls []) := by
    intro n_2
    induction n_2 with
    | zero => intro x1_1 H locs ls hP hD hS hl hm; rw [m_X4_tiesAKnotToItself_L2] at hm; exact no_use hm
    | succ n_2 ih2 =>
      intro x1_1 H locs ls hP hD hS hl hm
      rw [m_X4_tiesAKnotToItself_L2] at hm
      refine lv_iload_n hx hb dX4_tiesAKnotToItself_2 rfl (lv_at hl 0 rfl) ?_
      refine lv_aload_n hx hb dX4_tiesAKnotToItself_3 rfl (lv_at hl 1 rfl) ?_
      refine va_get (D := D) (ci := 4) (v := .int f_size) (C := RX4) (T := TX4) (N := 4) hx hb hts (by decide +kernel) hown hK hP 0 rfl rfl 3 (by decide) (hts (.fieldLink RX4 23 "KnotStripes$Text" "size" "I") (by decide +kernel)) (fun _ h9 => h9) rfl dX4_tiesAKnotToItself_4 ?_
      refine lv_icmp_ge (tgt := 33) hx hb dX4_tiesAKnotToItself_7 (by decide) (fun hc => ?_) (fun hc => ?_)
      · have hm := if_t _ hc hm
        refine lv_iconst (v := 0) hx hb dX4_tiesAKnotToItself_33 (by decide) ?_
        have z1 := so_use hm
        subst z1
        exact hret _ _ _ _ _ dX4_tiesAKnotToItself_34 rfl rfl hP hD hS
      · have hm := if_f _ hc hm
        refine lv_aload_n hx hb dX4_tiesAKnotToItself_10 rfl (lv_at hl 1 rfl) ?_
        refine va_get (D := D) (ci := 4) (v := .ref q_pairs) (C := RX4) (T := TX4) (N := 4) hx hb hts (by decide +kernel) hown hK hP 0 rfl rfl 2 (by decide) (hts (.fieldLink RX4 19 "KnotStripes$Text" "pairs" "[I") (by decide +kernel)) (fun _ h9 => h9) rfl dX4_tiesAKnotToItself_11 ?_
        refine lv_iload_n hx hb dX4_tiesAKnotToItself_14 rfl (lv_at hl 0 rfl) ?_
        obtain ⟨r_2, h_3, hm⟩ := bind_use hm
        refine g_ki (wc := [(q_pairs, .inl (cI, 21, .inl f_pairs))]) (wr := [(q, .inr (4, [.ref q_signs, .int f_length, .ref q_pairs, .int f_size])), (q_signs, .inl (cC, 60, .inl f_signs))]) (w2 := [(q, .inr (4, [.ref q_signs, .int f_length, .ref q_pairs, .int f_size])), (q_signs, .inl (cC, 60, .inl f_signs)), (q_pairs, .inl (cI, 21, .inl f_pairs))]) (va_runSN (As := [.ref q_pairs, .int x1_1]) (rest := []) ⟨hx, hb, hml, hown, hts⟩ (k_X6_at l D cI cC cN N q_pairs 21 H.size f_pairs x1_1 r_2 h_3) ⟨va_cnB 2 hts gX4_tiesAKnotToItself_X6_at_n42 rfl rfl rfl (hN (.methodLinkNest RX4 42 yX6_at RX6) (by decide +kernel)) (hts (.initialized RX6) (by decide +kernel)) (by decide +kernel) ⟨Nat.le_of_ble_eq_true rfl, Nat.le_of_ble_eq_true rfl⟩, hts (.static yX6_at) (by decide +kernel), trivial⟩ ⟨g_blind, g_pre (hP.sub [2] rfl) hK hN (hD.sub [2] (by decide) rfl)⟩ rfl rfl hl.1 rfl (lv_room (Nat.le_of_ble_eq_true rfl)) dX4_tiesAKnotToItself_15 ⟨Nat.zero_le _, Nat.zero_le _⟩) hP hD hS hA [2] [0, 1] rfl rfl (by decide) (by decide) rfl (fun H locs hP hD hS => ?_)
        obtain ⟨r_4, h_5, hm⟩ := bind_use hm
        refine g_ki (wc := []) (wr := [(q, .inr (4, [.ref q_signs, .int f_length, .ref q_pairs, .int f_size])), (q_signs, .inl (cC, 60, .inl f_signs)), (q_pairs, .inl (cI, 21, .inl f_pairs))]) (w2 := [(q, .inr (4, [.ref q_signs, .int f_length, .ref q_pairs, .int f_size])), (q_signs, .inl (cC, 60, .inl f_signs)), (q_pairs, .inl (cI, 21, .inl f_pairs))]) (va_runS (As := [.int r_2]) (rest := []) ⟨hx, hb, hml, hown, hts⟩ (k_J6_bitCount_0f7a4 l D cI cC cN N H.size r_2 r_4 h_5) (va_cwS 1 hts gX4_tiesAKnotToItself_J6_bitCount_0f7a4 rfl rfl rfl (by decide +kernel) ⟨Nat.le_of_ble_eq_true rfl, Nat.le_of_ble_eq_true rfl⟩) ⟨g_blind, g_pre (hP.sub [] rfl) hK hN (hD.sub [] (by decide) rfl)⟩ rfl rfl hl.1 rfl (lv_room (Nat.le_of_ble_eq_true rfl)) dX4_tiesAKnotToItself_18 ⟨Nat.zero_le _, Nat.zero_le _⟩) hP hD hS hA [] [0, 1, 2] rfl rfl (by decide) (by decide) rfl (fun H locs hP hD hS => ?_)
        refine lv_iconst (v := 1) hx hb dX4_tiesAKnotToItself_21 (by decide) ?_
        refine lv_icmp_ne (tgt := 27) hx hb dX4_tiesAKnotToItself_22 (by decide) (fun hc => ?_) (fun hc => ?_)
        · have hm := if_f _ hc hm
          refine lv_iinc (v := (x1_1 + 1)) (lv' := [(1, .int (x1_1 + 1)), (0, .ref q)]) hx hb dX4_tiesAKnotToItself_27 hl (k := 0) rfl rfl (by decide) rfl (fun ls hl => ?_)
          refine lv_goto (tgt := 2) hx hb dX4_tiesAKnotToItself_30 (by decide) ?_
          exact ih2 (x1_1 + 1) _ _ _ hP hD hS hl hm
        · have hm := if_t _ hc hm
          refine lv_iconst (v := 1) hx hb dX4_tiesAKnotToItself_25 (by decide) ?_
          have z1 := so_use hm
          subst z1
          exact hret _ _ _ _ _ dX4_tiesAKnotToItself_26 rfl rfl hP hD hS
  exact l2 N 0 _ _ _ hP hD hS hl hm
