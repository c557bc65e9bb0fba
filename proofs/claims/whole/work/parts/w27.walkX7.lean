abbrev rX6_paintings : Room := { frames := 29, cells := 0, slots := 0, locals := 929 }
set_option maxHeartbeats 4000000 in
set_option maxRecDepth 100000 in
theorem k_X6_paintings (l : Launch) (D : va_G) (cI cC cN : ClassId) (N : Nat) (q : Nat) (q_net : Nat) (q_draft : Nat) (q_snapshot : Nat) (q_history : Nat) (q_text : Nat) (q_painter : Nat) (q_covers : Nat) (q_net_ends : Nat) (q_net_colours : Nat) (q_painter_bits : Nat) (q_painter_lesser : Nat) (q_painter_greater : Nat) (q_painter_stops : Nat) (q_painter_beside : Nat) (q_painter_found : Nat) (sz : Nat) (f_hasSnapshot : Int32) (f_net_knots : Int32) (f_net_threads : Int32) (f_net_ends : Nat → Int32) (f_net_colours : Nat → Int32) (f_painter_bits : Nat → Int32) (f_painter_lesser : Nat → Int32) (f_painter_greater : Nat → Int32) (f_painter_placed : Int32) (f_painter_stops : Nat → Int32) (f_painter_groups : Int32) (f_painter_beside : Nat → Int32) (f_painter_found : Nat → Int32) (a1 : Int32) (r : Int32) (f_painter_bits' : Nat → Int32) (f_painter_lesser' : Nat → Int32) (f_painter_greater' : Nat → Int32) (f_painter_placed' : Int32) (f_painter_stops' : Nat → Int32) (f_painter_groups' : Int32) (f_painter_beside' : Nat → Int32) (hm : m_X6_paintings N f_net_threads f_net_ends f_net_colours f_painter_bits f_painter_lesser f_painter_greater f_painter_placed f_painter_stops f_painter_groups f_painter_beside a1 = some (r, f_painter_bits', f_painter_lesser', f_painter_greater', f_painter_placed', f_painter_stops', f_painter_groups', f_painter_beside')) : Met l yX6_paintings wsX6_paintings (rX6_paintings) (gPc D (tysG cI cC cN) [.ref q, .int a1] [(q, .inr (5, [.ref q_net, .ref q_draft, .ref q_snapshot, .int f_hasSnapshot, .ref q_history, .ref q_text, .ref q_painter, .ref q_covers])), (q_net, .inr (2, [.int f_net_knots, .int f_net_threads, .ref q_net_ends, .ref q_net_colours])), (q_net_ends, .inl (cI, 21, .inl f_net_ends)), (q_net_colours, .inl (cI, 21, .inl f_net_colours)), (q_painter, .inr (3, [.ref q_painter_bits, .ref q_painter_lesser, .ref q_painter_greater, .int f_painter_placed, .ref q_painter_stops, .int f_painter_groups, .ref q_painter_beside, .ref q_painter_found])), (q_painter_bits, .inl (cI, 21, .inl f_painter_bits)), (q_painter_lesser, .inl (cI, 21, .inl f_painter_lesser)), (q_painter_greater, .inl (cI, 21, .inl f_painter_greater)), (q_painter_stops, .inl (cI, 21, .inl f_painter_stops)), (q_painter_beside, .inl (cI, 21, .inl f_painter_beside)), (q_painter_found, .inl (cI, 21, .inl f_painter_found))] sz) (gQi D (tysG cI cC cN) (va_A [(q, .inr (5, [.ref q_net, .ref q_draft, .ref q_snapshot, .int f_hasSnapshot, .ref q_history, .ref q_text, .ref q_painter, .ref q_covers])), (q_net, .inr (2, [.int f_net_knots, .int f_net_threads, .ref q_net_ends, .ref q_net_colours])), (q_net_ends, .inl (cI, 21, .inl f_net_ends)), (q_net_colours, .inl (cI, 21, .inl f_net_colours)), (q_painter, .inr (3, [.ref q_painter_bits, .ref q_painter_lesser, .ref q_painter_greater, .int f_painter_placed, .ref q_painter_stops, .int f_painter_groups, .ref q_painter_beside, .ref q_painter_found])), (q_painter_bits, .inl (cI, 21, .inl f_painter_bits)), (q_painter_lesser, .inl (cI, 21, .inl f_painter_lesser)), (q_painter_greater, .inl (cI, 21, .inl f_painter_greater)), (q_painter_stops, .inl (cI, 21, .inl f_painter_stops)), (q_painter_beside, .inl (cI, 21, .inl f_painter_beside)), (q_painter_found, .inl (cI, 21, .inl f_painter_found))] sz) [(q, .inr (5, [.ref q_net, .ref q_draft, .ref q_snapshot, .int f_hasSnapshot, .ref q_history, .ref q_text, .ref q_painter, .ref q_covers])), (q_net, .inr (2, [.int f_net_knots, .int f_net_threads, .ref q_net_ends, .ref q_net_colours])), (q_net_ends, .inl (cI, 21, .inl f_net_ends)), (q_net_colours, .inl (cI, 21, .inl f_net_colours)), (q_painter, .inr (3, [.ref q_painter_bits, .ref q_painter_lesser, .ref q_painter_greater, .int f_painter_placed', .ref q_painter_stops, .int f_painter_groups', .ref q_painter_beside, .ref q_painter_found])), (q_painter_bits, .inl (cI, 21, .inl f_painter_bits')), (q_painter_lesser, .inl (cI, 21, .inl f_painter_lesser')), (q_painter_greater, .inl (cI, 21, .inl f_painter_greater')), (q_painter_stops, .inl (cI, 21, .inl f_painter_stops')), (q_painter_beside, .inl (cI, 21, .inl f_painter_beside')), (q_painter_found, .inl (cI, 21, .inl f_painter_found))] r) 0 0 (va_A [(q, .inr (5, [.ref q_net, .ref q_draft, .ref q_snapshot, .int f_hasSnapshot, .ref q_history, .ref q_text, .ref q_painter, .ref q_covers])), (q_net, .inr (2, [.int f_net_knots, .int f_net_threads, .ref q_net_ends, .ref q_net_colours])), (q_net_ends, .inl (cI, 21, .inl f_net_ends)), (q_net_colours, .inl (cI, 21, .inl f_net_colours)), (q_painter, .inr (3, [.ref q_painter_bits, .ref q_painter_lesser, .ref q_painter_greater, .int f_painter_placed, .ref q_painter_stops, .int f_painter_groups, .ref q_painter_beside, .ref q_painter_found])), (q_painter_bits, .inl (cI, 21, .inl f_painter_bits)), (q_painter_lesser, .inl (cI, 21, .inl f_painter_lesser)), (q_painter_greater, .inl (cI, 21, .inl f_painter_greater)), (q_painter_stops, .inl (cI, 21, .inl f_painter_stops)), (q_painter_beside, .inl (cI, 21, .inl f_painter_beside)), (q_painter_found, .inl (cI, 21, .inl f_painter_found))] sz) := by
  unfold m_X6_paintings at hm
  refine g_openI (cc := cX6_paintings) (maxL := 2) (own := RX6) (by decide) rfl rfl (Nat.le_of_ble_eq_true rfl) ?_
  intro p e s m args below meth c A Q hx hb hml hown hts hP hK hN hD hA hret ls hl
  have hS : va_S A s.heap s.heap [] := va_S.rf
  have hl : lv_has ls 2 [(0, .ref q), (1, .int a1)] := hl
  refine lv_iload_n hx hb dX6_paintings_0 rfl (lv_at hl 1 rfl) ?_
  by_cases hc : Int32.toInt a1 < 0 ∨ 2 < Int32.toInt a1
  · have hm := if_t _ hc hm
    refine lv_tableOut (tgt := 74) hx hb dX6_paintings_1 hc (by decide) ?_
    refine lv_bipush (v := (-2)) hx hb dX6_paintings_74 (by decide) ?_
    have z1 := so_use hm
    obtain ⟨y1, z2⟩ := pr_use z1
    obtain ⟨y2, z3⟩ := pr_use z2
    obtain ⟨y3, z4⟩ := pr_use z3
    obtain ⟨y4, z5⟩ := pr_use z4
    obtain ⟨y5, z6⟩ := pr_use z5
    obtain ⟨y6, z7⟩ := pr_use z6
    obtain ⟨y7, z8⟩ := pr_use z7
    subst y1
    subst y2
    subst y3
    subst y4
    subst y5
    subst y6
    subst y7
    subst z8
    exact hret _ _ _ _ _ dX6_paintings_76 rfl rfl hP hD hS
  have hm := if_f _ hc hm
  by_cases hc : a1 = 0
  · have hm := if_t _ hc hm
    refine lv_tableIn (off := 27) (tgt := 28) hx hb dX6_paintings_1 (by rw [hc]; decide) (by rw [hc]; decide) (by rw [hc]; rfl) (by decide) ?_
    refine lv_aload_n hx hb dX6_paintings_28 rfl (lv_at hl 0 rfl) ?_
    refine va_get (D := D) (ci := 5) (v := .ref q_painter) (C := RX6) (T := TX6) (N := 8) hx hb hts (by decide +kernel) hown hK hP 0 rfl rfl 6 (by decide) (hts (.fieldLink RX6 43 "KnotStripes" "painter" "LKnotStripes$Painter;") (by decide +kernel)) (fun _ h9 => h9) rfl dX6_paintings_29 ?_
    refine lv_aload_n hx hb dX6_paintings_32 rfl (lv_at hl 0 rfl) ?_
    refine va_get (D := D) (ci := 5) (v := .ref q_net) (C := RX6) (T := TX6) (N := 8) hx hb hts (by decide +kernel) hown hK hP 0 rfl rfl 0 (by decide) (hts (.fieldLink RX6 12 "KnotStripes" "net" "LKnotStripes$Net;") (by decide +kernel)) (fun _ h9 => h9) rfl dX6_paintings_33 ?_
    obtain ⟨⟨r_1, f_painter_bits_2, f_painter_lesser_3, f_painter_greater_4, f_painter_placed_5, f_painter_stops_6, f_painter_groups_7, f_painter_beside_8⟩, h_9, hm⟩ := bind_use hm
    refine g_ki (wc := [(q_painter, .inr (3, [.ref q_painter_bits, .ref q_painter_lesser, .ref q_painter_greater, .int f_painter_placed, .ref q_painter_stops, .int f_painter_groups, .ref q_painter_beside, .ref q_painter_found])), (q_painter_bits, .inl (cI, 21, .inl f_painter_bits)), (q_painter_lesser, .inl (cI, 21, .inl f_painter_lesser)), (q_painter_greater, .inl (cI, 21, .inl f_painter_greater)), (q_painter_stops, .inl (cI, 21, .inl f_painter_stops)), (q_painter_beside, .inl (cI, 21, .inl f_painter_beside)), (q_painter_found, .inl (cI, 21, .inl f_painter_found)), (q_net, .inr (2, [.int f_net_knots, .int f_net_threads, .ref q_net_ends, .ref q_net_colours])), (q_net_ends, .inl (cI, 21, .inl f_net_ends)), (q_net_colours, .inl (cI, 21, .inl f_net_colours))]) (wr := [(q, .inr (5, [.ref q_net, .ref q_draft, .ref q_snapshot, .int f_hasSnapshot, .ref q_history, .ref q_text, .ref q_painter, .ref q_covers]))]) (w2 := [(q, .inr (5, [.ref q_net, .ref q_draft, .ref q_snapshot, .int f_hasSnapshot, .ref q_history, .ref q_text, .ref q_painter, .ref q_covers])), (q_painter, .inr (3, [.ref q_painter_bits, .ref q_painter_lesser, .ref q_painter_greater, .int f_painter_placed_5, .ref q_painter_stops, .int f_painter_groups_7, .ref q_painter_beside, .ref q_painter_found])), (q_painter_bits, .inl (cI, 21, .inl f_painter_bits_2)), (q_painter_lesser, .inl (cI, 21, .inl f_painter_lesser_3)), (q_painter_greater, .inl (cI, 21, .inl f_painter_greater_4)), (q_painter_stops, .inl (cI, 21, .inl f_painter_stops_6)), (q_painter_beside, .inl (cI, 21, .inl f_painter_beside_8)), (q_painter_found, .inl (cI, 21, .inl f_painter_found)), (q_net, .inr (2, [.int f_net_knots, .int f_net_threads, .ref q_net_ends, .ref q_net_colours])), (q_net_ends, .inl (cI, 21, .inl f_net_ends)), (q_net_colours, .inl (cI, 21, .inl f_net_colours))]) (va_runV (As := [.ref q_net]) (rest := []) ⟨hx, hb, hml, hown, hts⟩ (k_X3_isPaintable l D cI cC cN N q_painter q_painter_bits q_painter_lesser q_painter_greater q_painter_stops q_painter_beside q_painter_found q_net q_net_ends q_net_colours s.heap.size f_painter_bits f_painter_lesser f_painter_greater f_painter_placed f_painter_stops f_painter_groups f_painter_beside f_painter_found f_net_knots f_net_threads f_net_ends f_net_colours r_1 f_painter_bits_2 f_painter_lesser_3 f_painter_greater_4 f_painter_placed_5 f_painter_stops_6 f_painter_groups_7 f_painter_beside_8 h_9) (cwV 1 hts gX6_paintings_X3_isPaintable rfl rfl rfl (by decide +kernel) ⟨Nat.le_of_ble_eq_true rfl, Nat.le_of_ble_eq_true rfl⟩) ⟨g_blind, va_recv (D := D) (ci := 3) (q0 := 4) hK hP rfl rfl, g_pre (hP.sub [4, 5, 6, 7, 8, 9, 10, 1, 2, 3] rfl) hK hN (hD.sub [4, 5, 6, 7, 8, 9, 10, 1, 2, 3] (by decide) rfl)⟩ rfl rfl hl.1 rfl (lv_room (Nat.le_of_ble_eq_true rfl)) dX6_paintings_36 ⟨Nat.zero_le _, Nat.zero_le _⟩) hP hD hS hA [4, 5, 6, 7, 8, 9, 10, 1, 2, 3] [0] rfl rfl (by decide) (by decide) rfl (fun H locs hP hD hS => ?_)
    refine lv_if_eq (tgt := 46) hx hb dX6_paintings_39 (by decide) (fun hc => ?_) (fun hc => ?_)
    · have hm := if_t _ hc hm
      refine lv_iconst (v := 0) hx hb dX6_paintings_46 (by decide) ?_
      have z1 := so_use hm
      obtain ⟨y1, z2⟩ := pr_use z1
      obtain ⟨y2, z3⟩ := pr_use z2
      obtain ⟨y3, z4⟩ := pr_use z3
      obtain ⟨y4, z5⟩ := pr_use z4
      obtain ⟨y5, z6⟩ := pr_use z5
      obtain ⟨y6, z7⟩ := pr_use z6
      obtain ⟨y7, z8⟩ := pr_use z7
      subst y1
      subst y2
      subst y3
      subst y4
      subst y5
      subst y6
      subst y7
      subst z8
      exact hret _ _ _ _ _ dX6_paintings_47 rfl rfl (hP.sub [0, 8, 9, 10, 1, 2, 3, 4, 5, 6, 7] rfl) (hD.sub [0, 8, 9, 10, 1, 2, 3, 4, 5, 6, 7] (by decide) rfl) hS
    · have hm := if_f _ hc hm
      refine lv_iconst (v := 1) hx hb dX6_paintings_42 (by decide) ?_
      refine lv_goto (tgt := 47) hx hb dX6_paintings_43 (by decide) ?_
      have z1 := so_use hm
      obtain ⟨y1, z2⟩ := pr_use z1
      obtain ⟨y2, z3⟩ := pr_use z2
      obtain ⟨y3, z4⟩ := pr_use z3
      obtain ⟨y4, z5⟩ := pr_use z4
      obtain ⟨y5, z6⟩ := pr_use z5
      obtain ⟨y6, z7⟩ := pr_use z6
      obtain ⟨y7, z8⟩ := pr_use z7
      subst y1
      subst y2
      subst y3
      subst y4
      subst y5
      subst y6
      subst y7
      subst z8
      exact hret _ _ _ _ _ dX6_paintings_47 rfl rfl (hP.sub [0, 8, 9, 10, 1, 2, 3, 4, 5, 6, 7] rfl) (hD.sub [0, 8, 9, 10, 1, 2, 3, 4, 5, 6, 7] (by decide) rfl) hS
  have hm := if_f _ hc hm
  by_cases hc : a1 = 1
  · have hm := if_t _ hc hm
    refine lv_tableIn (off := 47) (tgt := 48) hx hb dX6_paintings_1 (by rw [hc]; decide) (by rw [hc]; decide) (by rw [hc]; rfl) (by decide) ?_
    refine lv_aload_n hx hb dX6_paintings_48 rfl (lv_at hl 0 rfl) ?_
    refine va_get (D := D) (ci := 5) (v := .ref q_painter) (C := RX6) (T := TX6) (N := 8) hx hb hts (by decide +kernel) hown hK hP 0 rfl rfl 6 (by decide) (hts (.fieldLink RX6 43 "KnotStripes" "painter" "LKnotStripes$Painter;") (by decide +kernel)) (fun _ h9 => h9) rfl dX6_paintings_49 ?_
    refine lv_aload_n hx hb dX6_paintings_52 rfl (lv_at hl 0 rfl) ?_
    refine va_get (D := D) (ci := 5) (v := .ref q_net) (C := RX6) (T := TX6) (N := 8) hx hb hts (by decide +kernel) hown hK hP 0 rfl rfl 0 (by decide) (hts (.fieldLink RX6 12 "KnotStripes" "net" "LKnotStripes$Net;") (by decide +kernel)) (fun _ h9 => h9) rfl dX6_paintings_53 ?_
    refine lv_iconst (v := 1) hx hb dX6_paintings_56 (by decide) ?_
    obtain ⟨⟨r_10, f_painter_bits_11, f_painter_lesser_12, f_painter_greater_13, f_painter_placed_14, f_painter_stops_15, f_painter_groups_16, f_painter_beside_17⟩, h_18, hm⟩ := bind_use hm
    refine g_ki (wc := [(q_painter, .inr (3, [.ref q_painter_bits, .ref q_painter_lesser, .ref q_painter_greater, .int f_painter_placed, .ref q_painter_stops, .int f_painter_groups, .ref q_painter_beside, .ref q_painter_found])), (q_painter_bits, .inl (cI, 21, .inl f_painter_bits)), (q_painter_lesser, .inl (cI, 21, .inl f_painter_lesser)), (q_painter_greater, .inl (cI, 21, .inl f_painter_greater)), (q_painter_stops, .inl (cI, 21, .inl f_painter_stops)), (q_painter_beside, .inl (cI, 21, .inl f_painter_beside)), (q_painter_found, .inl (cI, 21, .inl f_painter_found)), (q_net, .inr (2, [.int f_net_knots, .int f_net_threads, .ref q_net_ends, .ref q_net_colours])), (q_net_ends, .inl (cI, 21, .inl f_net_ends)), (q_net_colours, .inl (cI, 21, .inl f_net_colours))]) (wr := [(q, .inr (5, [.ref q_net, .ref q_draft, .ref q_snapshot, .int f_hasSnapshot, .ref q_history, .ref q_text, .ref q_painter, .ref q_covers]))]) (w2 := [(q, .inr (5, [.ref q_net, .ref q_draft, .ref q_snapshot, .int f_hasSnapshot, .ref q_history, .ref q_text, .ref q_painter, .ref q_covers])), (q_painter, .inr (3, [.ref q_painter_bits, .ref q_painter_lesser, .ref q_painter_greater, .int f_painter_placed_14, .ref q_painter_stops, .int f_painter_groups_16, .ref q_painter_beside, .ref q_painter_found])), (q_painter_bits, .inl (cI, 21, .inl f_painter_bits_11)), (q_painter_lesser, .inl (cI, 21, .inl f_painter_lesser_12)), (q_painter_greater, .inl (cI, 21, .inl f_painter_greater_13)), (q_painter_stops, .inl (cI, 21, .inl f_painter_stops_15)), (q_painter_beside, .inl (cI, 21, .inl f_painter_beside_17)), (q_painter_found, .inl (cI, 21, .inl f_painter_found)), (q_net, .inr (2, [.int f_net_knots, .int f_net_threads, .ref q_net_ends, .ref q_net_colours])), (q_net_ends, .inl (cI, 21, .inl f_net_ends)), (q_net_colours, .inl (cI, 21, .inl f_net_colours))]) (va_runV (As := [.ref q_net, .int 1]) (rest := []) ⟨hx, hb, hml, hown, hts⟩ (k_X3_howMany l D cI cC cN N q_painter q_painter_bits q_painter_lesser q_painter_greater q_painter_stops q_painter_beside q_painter_found q_net q_net_ends q_net_colours s.heap.size f_painter_bits f_painter_lesser f_painter_greater f_painter_placed f_painter_stops f_painter_groups f_painter_beside f_painter_found f_net_knots f_net_threads f_net_ends f_net_colours 1 r_10 f_painter_bits_11 f_painter_lesser_12 f_painter_greater_13 f_painter_placed_14 f_painter_stops_15 f_painter_groups_16 f_painter_beside_17 h_18) (cwV 2 hts gX6_paintings_X3_howMany rfl rfl rfl (by decide +kernel) ⟨Nat.le_of_ble_eq_true rfl, Nat.le_of_ble_eq_true rfl⟩) ⟨g_blind, va_recv (D := D) (ci := 3) (q0 := 4) hK hP rfl rfl, g_pre (hP.sub [4, 5, 6, 7, 8, 9, 10, 1, 2, 3] rfl) hK hN (hD.sub [4, 5, 6, 7, 8, 9, 10, 1, 2, 3] (by decide) rfl)⟩ rfl rfl hl.1 rfl (lv_room (Nat.le_of_ble_eq_true rfl)) dX6_paintings_57 ⟨Nat.zero_le _, Nat.zero_le _⟩) hP hD hS hA [4, 5, 6, 7, 8, 9, 10, 1, 2, 3] [0] rfl rfl (by decide) (by decide) rfl (fun H locs hP hD hS => ?_)
    have z1 := so_use hm
    obtain ⟨y1, z2⟩ := pr_use z1
    obtain ⟨y2, z3⟩ := pr_use z2
    obtain ⟨y3, z4⟩ := pr_use z3
    obtain ⟨y4, z5⟩ := pr_use z4
    obtain ⟨y5, z6⟩ := pr_use z5
    obtain ⟨y6, z7⟩ := pr_use z6
    obtain ⟨y7, z8⟩ := pr_use z7
    subst y1
    subst y2
    subst y3
    subst y4
    subst y5
    subst y6
    subst y7
    subst z8
    exact hret _ _ _ _ _ dX6_paintings_60 rfl rfl (hP.sub [0, 8, 9, 10, 1, 2, 3, 4, 5, 6, 7] rfl) (hD.sub [0, 8, 9, 10, 1, 2, 3, 4, 5, 6, 7] (by decide) rfl) hS
  have hm := if_f _ hc hm
  by_cases hc : a1 = 2
  · have hm := if_t _ hc hm
    refine lv_tableIn (off := 60) (tgt := 61) hx hb dX6_paintings_1 (by rw [hc]; decide) (by rw [hc]; decide) (by rw [hc]; rfl) (by decide) ?_
    refine lv_aload_n hx hb dX6_paintings_61 rfl (lv_at hl 0 rfl) ?_
    refine va_get (D := D) (ci := 5) (v := .ref q_painter) (C := RX6) (T := TX6) (N := 8) hx hb hts (by decide +kernel) hown hK hP 0 rfl rfl 6 (by decide) (hts (.fieldLink RX6 43 "KnotStripes" "painter" "LKnotStripes$Painter;") (by decide +kernel)) (fun _ h9 => h9) rfl dX6_paintings_62 ?_
    refine lv_aload_n hx hb dX6_paintings_65 rfl (lv_at hl 0 rfl) ?_
    refine va_get (D := D) (ci := 5) (v := .ref q_net) (C := RX6) (T := TX6) (N := 8) hx hb hts (by decide +kernel) hown hK hP 0 rfl rfl 0 (by decide) (hts (.fieldLink RX6 12 "KnotStripes" "net" "LKnotStripes$Net;") (by decide +kernel)) (fun _ h9 => h9) rfl dX6_paintings_66 ?_
    refine lv_iconst (v := 0) hx hb dX6_paintings_69 (by decide) ?_
    obtain ⟨⟨r_19, f_painter_bits_20, f_painter_lesser_21, f_painter_greater_22, f_painter_placed_23, f_painter_stops_24, f_painter_groups_25, f_painter_beside_26⟩, h_27, hm⟩ := bind_use hm
    refine g_ki (wc := [(q_painter, .inr (3, [.ref q_painter_bits, .ref q_painter_lesser, .ref q_painter_greater, .int f_painter_placed, .ref q_painter_stops, .int f_painter_groups, .ref q_painter_beside, .ref q_painter_found])), (q_painter_bits, .inl (cI, 21, .inl f_painter_bits)), (q_painter_lesser, .inl (cI, 21, .inl f_painter_lesser)), (q_painter_greater, .inl (cI, 21, .inl f_painter_greater)), (q_painter_stops, .inl (cI, 21, .inl f_painter_stops)), (q_painter_beside, .inl (cI, 21, .inl f_painter_beside)), (q_painter_found, .inl (cI, 21, .inl f_painter_found)), (q_net, .inr (2, [.int f_net_knots, .int f_net_threads, .ref q_net_ends, .ref q_net_colours])), (q_net_ends, .inl (cI, 21, .inl f_net_ends)), (q_net_colours, .inl (cI, 21, .inl f_net_colours))]) (wr := [(q, .inr (5, [.ref q_net, .ref q_draft, .ref q_snapshot, .int f_hasSnapshot, .ref q_history, .ref q_text, .ref q_painter, .ref q_covers]))]) (w2 := [(q, .inr (5, [.ref q_net, .ref q_draft, .ref q_snapshot, .int f_hasSnapshot, .ref q_history, .ref q_text, .ref q_painter, .ref q_covers])), (q_painter, .inr (3, [.ref q_painter_bits, .ref q_painter_lesser, .ref q_painter_greater, .int f_painter_placed_23, .ref q_painter_stops, .int f_painter_groups_25, .ref q_painter_beside, .ref q_painter_found])), (q_painter_bits, .inl (cI, 21, .inl f_painter_bits_20)), (q_painter_lesser, .inl (cI, 21, .inl f_painter_lesser_21)), (q_painter_greater, .inl (cI, 21, .inl f_painter_greater_22)), (q_painter_stops, .inl (cI, 21, .inl f_painter_stops_24)), (q_painter_beside, .inl (cI, 21, .inl f_painter_beside_26)), (q_painter_found, .inl (cI, 21, .inl f_painter_found)), (q_net, .inr (2, [.int f_net_knots, .int f_net_threads, .ref q_net_ends, .ref q_net_colours])), (q_net_ends, .inl (cI, 21, .inl f_net_ends)), (q_net_colours, .inl (cI, 21, .inl f_net_colours))]) (va_runV (As := [.ref q_net, .int 0]) (rest := []) ⟨hx, hb, hml, hown, hts⟩ (k_X3_howMany l D cI cC cN N q_painter q_painter_bits q_painter_lesser q_painter_greater q_painter_stops q_painter_beside q_painter_found q_net q_net_ends q_net_colours s.heap.size f_painter_bits f_painter_lesser f_painter_greater f_painter_placed f_painter_stops f_painter_groups f_painter_beside f_painter_found f_net_knots f_net_threads f_net_ends f_net_colours 0 r_19 f_painter_bits_20 f_painter_lesser_21 f_painter_greater_22 f_painter_placed_23 f_painter_stops_24 f_painter_groups_25 f_painter_beside_26 h_27) (cwV 2 hts gX6_paintings_X3_howMany rfl rfl rfl (by decide +kernel) ⟨Nat.le_of_ble_eq_true rfl, Nat.le_of_ble_eq_true rfl⟩) ⟨g_blind, va_recv (D := D) (ci := 3) (q0 := 4) hK hP rfl rfl, g_pre (hP.sub [4, 5, 6, 7, 8, 9, 10, 1, 2, 3] rfl) hK hN (hD.sub [4, 5, 6, 7, 8, 9, 10, 1, 2, 3] (by decide) rfl)⟩ rfl rfl hl.1 rfl (lv_room (Nat.le_of_ble_eq_true rfl)) dX6_paintings_70 ⟨Nat.zero_le _, Nat.zero_le _⟩) hP hD hS hA [4, 5, 6, 7, 8, 9, 10, 1, 2, 3] [0] rfl rfl (by decide) (by decide) rfl (fun H locs hP hD hS => ?_)
    have z1 := so_use hm
    obtain ⟨y1, z2⟩ := pr_use z1
    obtain ⟨y2, z3⟩ := pr_use z2
    obtain ⟨y3, z4⟩ := pr_use z3
    obtain ⟨y4, z5⟩ := pr_use z4
    obtain ⟨y5, z6⟩ := pr_use z5
    obtain ⟨y6, z7⟩ := pr_use z6
    obtain ⟨y7, z8⟩ := pr_use z7
    subst y1
    subst y2
    subst y3
    subst y4
    subst y5
    subst y6
    subst y7
    subst z8
    exact hret _ _ _ _ _ dX6_paintings_73 rfl rfl (hP.sub [0, 8, 9, 10, 1, 2, 3, 4, 5, 6, 7] rfl) (hD.sub [0, 8, 9, 10, 1, 2, 3, 4, 5, 6, 7] (by decide) rfl) hS
  have hm := if_f _ hc hm
  exact no_use hm
abbrev rX6_firstPainting : Room := { frames := 30, cells := 0, slots := 0, locals := 960 }
set_option maxHeartbeats 4000000 in
set_option maxRecDepth 100000 in
theorem k_X6_firstPainting (l : Launch) (D : va_G) (cI cC cN : ClassId) (N : Nat) (q : Nat) (q_net : Nat) (q_draft : Nat) (q_snapshot : Nat) (q_history : Nat) (q_text : Nat) (q_painter : Nat) (q_covers : Nat) (q_net_ends : Nat) (q_net_colours : Nat) (q_painter_bits : Nat) (q_painter_lesser : Nat) (q_painter_greater : Nat) (q_painter_stops : Nat) (q_painter_beside : Nat) (q_painter_found : Nat) (sz : Nat) (f_hasSnapshot : Int32) (f_net_knots : Int32) (f_net_threads : Int32) (f_net_ends : Nat → Int32) (f_net_colours : Nat → Int32) (f_painter_bits : Nat → Int32) (f_painter_lesser : Nat → Int32) (f_painter_greater : Nat → Int32) (f_painter_placed : Int32) (f_painter_stops : Nat → Int32) (f_painter_groups : Int32) (f_painter_beside : Nat → Int32) (f_painter_found : Nat → Int32) (a1 : Int32) (r : Int32) (f_painter_bits' : Nat → Int32) (f_painter_lesser' : Nat → Int32) (f_painter_greater' : Nat → Int32) (f_painter_placed' : Int32) (f_painter_stops' : Nat → Int32) (f_painter_groups' : Int32) (f_painter_beside' : Nat → Int32) (f_painter_found' : Nat → Int32) (hm : m_X6_firstPainting N f_net_threads f_net_ends f_net_colours f_painter_bits f_painter_lesser f_painter_greater f_painter_placed f_painter_stops f_painter_groups f_painter_beside f_painter_found a1 = some (r, f_painter_bits', f_painter_lesser', f_painter_greater', f_painter_placed', f_painter_stops', f_painter_groups', f_painter_beside', f_painter_found')) : Met l yX6_firstPainting wsX6_firstPainting (rX6_firstPainting) (gPc D (tysG cI cC cN) [.ref q, .int a1] [(q, .inr (5, [.ref q_net, .ref q_draft, .ref q_snapshot, .int f_hasSnapshot, .ref q_history, .ref q_text, .ref q_painter, .ref q_covers])), (q_net, .inr (2, [.int f_net_knots, .int f_net_threads, .ref q_net_ends, .ref q_net_colours])), (q_net_ends, .inl (cI, 21, .inl f_net_ends)), (q_net_colours, .inl (cI, 21, .inl f_net_colours)), (q_painter, .inr (3, [.ref q_painter_bits, .ref q_painter_lesser, .ref q_painter_greater, .int f_painter_placed, .ref q_painter_stops, .int f_painter_groups, .ref q_painter_beside, .ref q_painter_found])), (q_painter_bits, .inl (cI, 21, .inl f_painter_bits)), (q_painter_lesser, .inl (cI, 21, .inl f_painter_lesser)), (q_painter_greater, .inl (cI, 21, .inl f_painter_greater)), (q_painter_stops, .inl (cI, 21, .inl f_painter_stops)), (q_painter_beside, .inl (cI, 21, .inl f_painter_beside)), (q_painter_found, .inl (cI, 21, .inl f_painter_found))] sz) (gQi D (tysG cI cC cN) (va_A [(q, .inr (5, [.ref q_net, .ref q_draft, .ref q_snapshot, .int f_hasSnapshot, .ref q_history, .ref q_text, .ref q_painter, .ref q_covers])), (q_net, .inr (2, [.int f_net_knots, .int f_net_threads, .ref q_net_ends, .ref q_net_colours])), (q_net_ends, .inl (cI, 21, .inl f_net_ends)), (q_net_colours, .inl (cI, 21, .inl f_net_colours)), (q_painter, .inr (3, [.ref q_painter_bits, .ref q_painter_lesser, .ref q_painter_greater, .int f_painter_placed, .ref q_painter_stops, .int f_painter_groups, .ref q_painter_beside, .ref q_painter_found])), (q_painter_bits, .inl (cI, 21, .inl f_painter_bits)), (q_painter_lesser, .inl (cI, 21, .inl f_painter_lesser)), (q_painter_greater, .inl (cI, 21, .inl f_painter_greater)), (q_painter_stops, .inl (cI, 21, .inl f_painter_stops)), (q_painter_beside, .inl (cI, 21, .inl f_painter_beside)), (q_painter_found, .inl (cI, 21, .inl f_painter_found))] sz) [(q, .inr (5, [.ref q_net, .ref q_draft, .ref q_snapshot, .int f_hasSnapshot, .ref q_history, .ref q_text, .ref q_painter, .ref q_covers])), (q_net, .inr (2, [.int f_net_knots, .int f_net_threads, .ref q_net_ends, .ref q_net_colours])), (q_net_ends, .inl (cI, 21, .inl f_net_ends)), (q_net_colours, .inl (cI, 21, .inl f_net_colours)), (q_painter, .inr (3, [.ref q_painter_bits, .ref q_painter_lesser, .ref q_painter_greater, .int f_painter_placed', .ref q_painter_stops, .int f_painter_groups', .ref q_painter_beside, .ref q_painter_found])), (q_painter_bits, .inl (cI, 21, .inl f_painter_bits')), (q_painter_lesser, .inl (cI, 21, .inl f_painter_lesser')), (q_painter_greater, .inl (cI, 21, .inl f_painter_greater')), (q_painter_stops, .inl (cI, 21, .inl f_painter_stops')), (q_painter_beside, .inl (cI, 21, .inl f_painter_beside')), (q_painter_found, .inl (cI, 21, .inl f_painter_found'))] r) 0 0 (va_A [(q, .inr (5, [.ref q_net, .ref q_draft, .ref q_snapshot, .int f_hasSnapshot, .ref q_history, .ref q_text, .ref q_painter, .ref q_covers])), (q_net, .inr (2, [.int f_net_knots, .int f_net_threads, .ref q_net_ends, .ref q_net_colours])), (q_net_ends, .inl (cI, 21, .inl f_net_ends)), (q_net_colours, .inl (cI, 21, .inl f_net_colours)), (q_painter, .inr (3, [.ref q_painter_bits, .ref q_painter_lesser, .ref q_painter_greater, .int f_painter_placed, .ref q_painter_stops, .int f_painter_groups, .ref q_painter_beside, .ref q_painter_found])), (q_painter_bits, .inl (cI, 21, .inl f_painter_bits)), (q_painter_lesser, .inl (cI, 21, .inl f_painter_lesser)), (q_painter_greater, .inl (cI, 21, .inl f_painter_greater)), (q_painter_stops, .inl (cI, 21, .inl f_painter_stops)), (q_painter_beside, .inl (cI, 21, .inl f_painter_beside)), (q_painter_found, .inl (cI, 21, .inl f_painter_found))] sz) := by
  unfold m_X6_firstPainting at hm
  refine g_openI (cc := cX6_firstPainting) (maxL := 2) (own := RX6) (by decide) rfl rfl (Nat.le_of_ble_eq_true rfl) ?_
  intro p e s m args below meth c A Q hx hb hml hown hts hP hK hN hD hA hret ls hl
  have hS : va_S A s.heap s.heap [] := va_S.rf
  have hl : lv_has ls 2 [(0, .ref q), (1, .int a1)] := hl
  refine lv_aload_n hx hb dX6_firstPainting_0 rfl (lv_at hl 0 rfl) ?_
  refine va_get (D := D) (ci := 5) (v := .ref q_net) (C := RX6) (T := TX6) (N := 8) hx hb hts (by decide +kernel) hown hK hP 0 rfl rfl 0 (by decide) (hts (.fieldLink RX6 12 "KnotStripes" "net" "LKnotStripes$Net;") (by decide +kernel)) (fun _ h9 => h9) rfl dX6_firstPainting_1 ?_
  refine lv_iload_n hx hb dX6_firstPainting_4 rfl (lv_at hl 1 rfl) ?_
  obtain ⟨r_1, h_2, hm⟩ := bind_use hm
  refine g_ki (wc := [(q_net, .inr (2, [.int f_net_knots, .int f_net_threads, .ref q_net_ends, .ref q_net_colours])), (q_net_ends, .inl (cI, 21, .inl f_net_ends)), (q_net_colours, .inl (cI, 21, .inl f_net_colours))]) (wr := [(q, .inr (5, [.ref q_net, .ref q_draft, .ref q_snapshot, .int f_hasSnapshot, .ref q_history, .ref q_text, .ref q_painter, .ref q_covers])), (q_painter, .inr (3, [.ref q_painter_bits, .ref q_painter_lesser, .ref q_painter_greater, .int f_painter_placed, .ref q_painter_stops, .int f_painter_groups, .ref q_painter_beside, .ref q_painter_found])), (q_painter_bits, .inl (cI, 21, .inl f_painter_bits)), (q_painter_lesser, .inl (cI, 21, .inl f_painter_lesser)), (q_painter_greater, .inl (cI, 21, .inl f_painter_greater)), (q_painter_stops, .inl (cI, 21, .inl f_painter_stops)), (q_painter_beside, .inl (cI, 21, .inl f_painter_beside)), (q_painter_found, .inl (cI, 21, .inl f_painter_found))]) (w2 := [(q, .inr (5, [.ref q_net, .ref q_draft, .ref q_snapshot, .int f_hasSnapshot, .ref q_history, .ref q_text, .ref q_painter, .ref q_covers])), (q_painter, .inr (3, [.ref q_painter_bits, .ref q_painter_lesser, .ref q_painter_greater, .int f_painter_placed, .ref q_painter_stops, .int f_painter_groups, .ref q_painter_beside, .ref q_painter_found])), (q_painter_bits, .inl (cI, 21, .inl f_painter_bits)), (q_painter_lesser, .inl (cI, 21, .inl f_painter_lesser)), (q_painter_greater, .inl (cI, 21, .inl f_painter_greater)), (q_painter_stops, .inl (cI, 21, .inl f_painter_stops)), (q_painter_beside, .inl (cI, 21, .inl f_painter_beside)), (q_painter_found, .inl (cI, 21, .inl f_painter_found)), (q_net, .inr (2, [.int f_net_knots, .int f_net_threads, .ref q_net_ends, .ref q_net_colours])), (q_net_ends, .inl (cI, 21, .inl f_net_ends)), (q_net_colours, .inl (cI, 21, .inl f_net_colours))]) (va_runV (As := [.int a1]) (rest := []) ⟨hx, hb, hml, hown, hts⟩ (k_X2_hasThread l D cI cC cN N q_net q_net_ends q_net_colours s.heap.size f_net_knots f_net_threads f_net_ends f_net_colours a1 r_1 h_2) (cwV 1 hts gX6_firstPainting_X2_hasThread rfl rfl rfl (by decide +kernel) ⟨Nat.le_of_ble_eq_true rfl, Nat.le_of_ble_eq_true rfl⟩) ⟨g_blind, va_recv (D := D) (ci := 2) (q0 := 1) hK hP rfl rfl, g_pre (hP.sub [1, 2, 3] rfl) hK hN (hD.sub [1, 2, 3] (by decide) rfl)⟩ rfl rfl hl.1 rfl (lv_room (Nat.le_of_ble_eq_true rfl)) dX6_firstPainting_5 ⟨Nat.zero_le _, Nat.zero_le _⟩) hP hD hS hA [1, 2, 3] [0, 4, 5, 6, 7, 8, 9, 10] rfl rfl (by decide) (by decide) rfl (fun H locs hP hD hS => ?_)
  refine lv_if_ne (tgt := 13) hx hb dX6_firstPainting_8 (by decide) (fun hc => ?_) (fun hc => ?_)
  · have hm := if_f _ hc hm
    refine lv_aload_n hx hb dX6_firstPainting_13 rfl (lv_at hl 0 rfl) ?_
    refine va_get (D := D) (ci := 5) (v := .ref q_painter) (C := RX6) (T := TX6) (N := 8) hx hb hts (by decide +kernel) hown hK hP 0 rfl rfl 6 (by decide) (hts (.fieldLink RX6 43 "KnotStripes" "painter" "LKnotStripes$Painter;") (by decide +kernel)) (fun _ h9 => h9) rfl dX6_firstPainting_14 ?_
    refine lv_aload_n hx hb dX6_firstPainting_17 rfl (lv_at hl 0 rfl) ?_
    refine va_get (D := D) (ci := 5) (v := .ref q_net) (C := RX6) (T := TX6) (N := 8) hx hb hts (by decide +kernel) hown hK hP 0 rfl rfl 0 (by decide) (hts (.fieldLink RX6 12 "KnotStripes" "net" "LKnotStripes$Net;") (by decide +kernel)) (fun _ h9 => h9) rfl dX6_firstPainting_18 ?_
    refine lv_iconst (v := 0) hx hb dX6_firstPainting_21 (by decide) ?_
    obtain ⟨⟨r_3, f_painter_bits_4, f_painter_lesser_5, f_painter_greater_6, f_painter_placed_7, f_painter_stops_8, f_painter_groups_9, f_painter_beside_10, f_painter_found_11⟩, h_12, hm⟩ := bind_use hm
    refine g_ki (wc := [(q_painter, .inr (3, [.ref q_painter_bits, .ref q_painter_lesser, .ref q_painter_greater, .int f_painter_placed, .ref q_painter_stops, .int f_painter_groups, .ref q_painter_beside, .ref q_painter_found])), (q_painter_bits, .inl (cI, 21, .inl f_painter_bits)), (q_painter_lesser, .inl (cI, 21, .inl f_painter_lesser)), (q_painter_greater, .inl (cI, 21, .inl f_painter_greater)), (q_painter_stops, .inl (cI, 21, .inl f_painter_stops)), (q_painter_beside, .inl (cI, 21, .inl f_painter_beside)), (q_painter_found, .inl (cI, 21, .inl f_painter_found)), (q_net, .inr (2, [.int f_net_knots, .int f_net_threads, .ref q_net_ends, .ref q_net_colours])), (q_net_ends, .inl (cI, 21, .inl f_net_ends)), (q_net_colours, .inl (cI, 21, .inl f_net_colours))]) (wr := [(q, .inr (5, [.ref q_net, .ref q_draft, .ref q_snapshot, .int f_hasSnapshot, .ref q_history, .ref q_text, .ref q_painter, .ref q_covers]))]) (w2 := [(q, .inr (5, [.ref q_net, .ref q_draft, .ref q_snapshot, .int f_hasSnapshot, .ref q_history, .ref q_text, .ref q_painter, .ref q_covers])), (q_painter, .inr (3, [.ref q_painter_bits, .ref q_painter_lesser, .ref q_painter_greater, .int f_painter_placed_7, .ref q_painter_stops, .int f_painter_groups_9, .ref q_painter_beside, .ref q_painter_found])), (q_painter_bits, .inl (cI, 21, .inl f_painter_bits_4)), (q_painter_lesser, .inl (cI, 21, .inl f_painter_lesser_5)), (q_painter_greater, .inl (cI, 21, .inl f_painter_greater_6)), (q_painter_stops, .inl (cI, 21, .inl f_painter_stops_8)), (q_painter_beside, .inl (cI, 21, .inl f_painter_beside_10)), (q_painter_found, .inl (cI, 21, .inl f_painter_found_11)), (q_net, .inr (2, [.int f_net_knots, .int f_net_threads, .ref q_net_ends, .ref q_net_colours])), (q_net_ends, .inl (cI, 21, .inl f_net_ends)), (q_net_colours, .inl (cI, 21, .inl f_net_colours))]) (va_runV (As := [.ref q_net, .int 0]) (rest := []) ⟨hx, hb, hml, hown, hts⟩ (k_X3_findFirst l D cI cC cN N q_painter q_painter_bits q_painter_lesser q_painter_greater q_painter_stops q_painter_beside q_painter_found q_net q_net_ends q_net_colours H.size f_painter_bits f_painter_lesser f_painter_greater f_painter_placed f_painter_stops f_painter_groups f_painter_beside f_painter_found f_net_knots f_net_threads f_net_ends f_net_colours 0 r_3 f_painter_bits_4 f_painter_lesser_5 f_painter_greater_6 f_painter_placed_7 f_painter_stops_8 f_painter_groups_9 f_painter_beside_10 f_painter_found_11 h_12) (cwV 2 hts gX6_firstPainting_X3_findFirst rfl rfl rfl (by decide +kernel) ⟨Nat.le_of_ble_eq_true rfl, Nat.le_of_ble_eq_true rfl⟩) ⟨g_blind, va_recv (D := D) (ci := 3) (q0 := 1) hK hP rfl rfl, g_pre (hP.sub [1, 2, 3, 4, 5, 6, 7, 8, 9, 10] rfl) hK hN (hD.sub [1, 2, 3, 4, 5, 6, 7, 8, 9, 10] (by decide) rfl)⟩ rfl rfl hl.1 rfl (lv_room (Nat.le_of_ble_eq_true rfl)) dX6_firstPainting_22 ⟨Nat.zero_le _, Nat.zero_le _⟩) hP hD hS hA [1, 2, 3, 4, 5, 6, 7, 8, 9, 10] [0] rfl rfl (by decide) (by decide) rfl (fun H locs hP hD hS => ?_)
    refine lv_if_eq (tgt := 39) hx hb dX6_firstPainting_25 (by decide) (fun hc => ?_) (fun hc => ?_)
    · have hm := if_t _ hc hm
      refine lv_bipush (v := (-5)) hx hb dX6_firstPainting_39 (by decide) ?_
      have z1 := so_use hm
      obtain ⟨y1, z2⟩ := pr_use z1
      obtain ⟨y2, z3⟩ := pr_use z2
      obtain ⟨y3, z4⟩ := pr_use z3
      obtain ⟨y4, z5⟩ := pr_use z4
      obtain ⟨y5, z6⟩ := pr_use z5
      obtain ⟨y6, z7⟩ := pr_use z6
      obtain ⟨y7, z8⟩ := pr_use z7
      obtain ⟨y8, z9⟩ := pr_use z8
      subst y1
      subst y2
      subst y3
      subst y4
      subst y5
      subst y6
      subst y7
      subst y8
      subst z9
      exact hret _ _ _ _ _ dX6_firstPainting_41 rfl rfl (hP.sub [0, 8, 9, 10, 1, 2, 3, 4, 5, 6, 7] rfl) (hD.sub [0, 8, 9, 10, 1, 2, 3, 4, 5, 6, 7] (by decide) rfl) hS
    · have hm := if_f _ hc hm
      refine lv_aload_n hx hb dX6_firstPainting_28 rfl (lv_at hl 0 rfl) ?_
      refine va_get (D := D) (ci := 5) (v := .ref q_painter) (C := RX6) (T := TX6) (N := 8) hx hb hts (by decide +kernel) hown hK hP 0 rfl rfl 6 (by decide) (hts (.fieldLink RX6 43 "KnotStripes" "painter" "LKnotStripes$Painter;") (by decide +kernel)) (fun _ h9 => h9) rfl dX6_firstPainting_29 ?_
      refine lv_iload_n hx hb dX6_firstPainting_32 rfl (lv_at hl 1 rfl) ?_
      obtain ⟨r_13, h_14, hm⟩ := bind_use hm
      refine g_ki (wc := [(q_painter, .inr (3, [.ref q_painter_bits, .ref q_painter_lesser, .ref q_painter_greater, .int f_painter_placed_7, .ref q_painter_stops, .int f_painter_groups_9, .ref q_painter_beside, .ref q_painter_found])), (q_painter_bits, .inl (cI, 21, .inl f_painter_bits_4)), (q_painter_lesser, .inl (cI, 21, .inl f_painter_lesser_5)), (q_painter_greater, .inl (cI, 21, .inl f_painter_greater_6)), (q_painter_stops, .inl (cI, 21, .inl f_painter_stops_8)), (q_painter_beside, .inl (cI, 21, .inl f_painter_beside_10)), (q_painter_found, .inl (cI, 21, .inl f_painter_found_11))]) (wr := [(q, .inr (5, [.ref q_net, .ref q_draft, .ref q_snapshot, .int f_hasSnapshot, .ref q_history, .ref q_text, .ref q_painter, .ref q_covers])), (q_net, .inr (2, [.int f_net_knots, .int f_net_threads, .ref q_net_ends, .ref q_net_colours])), (q_net_ends, .inl (cI, 21, .inl f_net_ends)), (q_net_colours, .inl (cI, 21, .inl f_net_colours))]) (w2 := [(q, .inr (5, [.ref q_net, .ref q_draft, .ref q_snapshot, .int f_hasSnapshot, .ref q_history, .ref q_text, .ref q_painter, .ref q_covers])), (q_net, .inr (2, [.int f_net_knots, .int f_net_threads, .ref q_net_ends, .ref q_net_colours])), (q_net_ends, .inl (cI, 21, .inl f_net_ends)), (q_net_colours, .inl (cI, 21, .inl f_net_colours)), (q_painter, .inr (3, [.ref q_painter_bits, .ref q_painter_lesser, .ref q_painter_greater, .int f_painter_placed_7, .ref q_painter_stops, .int f_painter_groups_9, .ref q_painter_beside, .ref q_painter_found])), (q_painter_bits, .inl (cI, 21, .inl f_painter_bits_4)), (q_painter_lesser, .inl (cI, 21, .inl f_painter_lesser_5)), (q_painter_greater, .inl (cI, 21, .inl f_painter_greater_6)), (q_painter_stops, .inl (cI, 21, .inl f_painter_stops_8)), (q_painter_beside, .inl (cI, 21, .inl f_painter_beside_10)), (q_painter_found, .inl (cI, 21, .inl f_painter_found_11))]) (va_runV (As := [.int a1]) (rest := []) ⟨hx, hb, hml, hown, hts⟩ (k_X3_foundColour l D cI cC cN N q_painter q_painter_bits q_painter_lesser q_painter_greater q_painter_stops q_painter_beside q_painter_found H.size f_painter_bits_4 f_painter_lesser_5 f_painter_greater_6 f_painter_placed_7 f_painter_stops_8 f_painter_groups_9 f_painter_beside_10 f_painter_found_11 a1 r_13 h_14) (cwV 1 hts gX6_firstPainting_X3_foundColour rfl rfl rfl (by decide +kernel) ⟨Nat.le_of_ble_eq_true rfl, Nat.le_of_ble_eq_true rfl⟩) ⟨g_blind, va_recv (D := D) (ci := 3) (q0 := 1) hK hP rfl rfl, g_pre (hP.sub [1, 2, 3, 4, 5, 6, 7] rfl) hK hN (hD.sub [1, 2, 3, 4, 5, 6, 7] (by decide) rfl)⟩ rfl rfl hl.1 rfl (lv_room (Nat.le_of_ble_eq_true rfl)) dX6_firstPainting_33 ⟨Nat.zero_le _, Nat.zero_le _⟩) hP hD hS hA [1, 2, 3, 4, 5, 6, 7] [0, 8, 9, 10] rfl rfl (by decide) (by decide) rfl (fun H locs hP hD hS => ?_)
      refine lv_goto (tgt := 41) hx hb dX6_firstPainting_36 (by decide) ?_
      have z1 := so_use hm
      obtain ⟨y1, z2⟩ := pr_use z1
      obtain ⟨y2, z3⟩ := pr_use z2
      obtain ⟨y3, z4⟩ := pr_use z3
      obtain ⟨y4, z5⟩ := pr_use z4
      obtain ⟨y5, z6⟩ := pr_use z5
      obtain ⟨y6, z7⟩ := pr_use z6
      obtain ⟨y7, z8⟩ := pr_use z7
      obtain ⟨y8, z9⟩ := pr_use z8
      subst y1
      subst y2
      subst y3
      subst y4
      subst y5
      subst y6
      subst y7
      subst y8
      subst z9
      exact hret _ _ _ _ _ dX6_firstPainting_41 rfl rfl hP hD hS
  · have hm := if_t _ hc hm
    refine lv_iconst (v := (-1)) hx hb dX6_firstPainting_11 (by decide) ?_
    have z1 := so_use hm
    obtain ⟨y1, z2⟩ := pr_use z1
    obtain ⟨y2, z3⟩ := pr_use z2
    obtain ⟨y3, z4⟩ := pr_use z3
    obtain ⟨y4, z5⟩ := pr_use z4
    obtain ⟨y5, z6⟩ := pr_use z5
    obtain ⟨y6, z7⟩ := pr_use z6
    obtain ⟨y7, z8⟩ := pr_use z7
    obtain ⟨y8, z9⟩ := pr_use z8
    subst y1
    subst y2
    subst y3
    subst y4
    subst y5
    subst y6
    subst y7
    subst y8
    subst z9
    exact hret _ _ _ _ _ dX6_firstPainting_12 rfl rfl (hP.sub [0, 8, 9, 10, 1, 2, 3, 4, 5, 6, 7] rfl) (hD.sub [0, 8, 9, 10, 1, 2, 3, 4, 5, 6, 7] (by decide) rfl) hS
abbrev rX6_takingOut : Room := { frames := 29, cells := 0, slots := 0, locals := 930 }
set_option maxHeartbeats 4000000 in
set_option maxRecDepth 100000 in
theorem k_X6_takingOut (l : Launch) (D : va_G) (cI cC cN : ClassId) (N : Nat) (q : Nat) (q_net : Nat) (q_draft : Nat) (q_snapshot : Nat) (q_history : Nat) (q_text : Nat) (q_painter : Nat) (q_covers : Nat) (q_net_ends : Nat) (q_net_colours : Nat) (q_painter_bits : Nat) (q_painter_lesser : Nat) (q_painter_greater : Nat) (q_painter_stops : Nat) (q_painter_beside : Nat) (q_painter_found : Nat) (sz : Nat) (f_hasSnapshot : Int32) (f_net_knots : Int32) (f_net_threads : Int32) (f_net_ends : Nat → Int32) (f_net_colours : Nat → Int32) (f_painter_bits : Nat → Int32) (f_painter_lesser : Nat → Int32) (f_painter_greater : Nat → Int32) (f_painter_placed : Int32) (f_painter_stops : Nat → Int32) (f_painter_groups : Int32) (f_painter_beside : Nat → Int32) (f_painter_found : Nat → Int32) (a1 : Int32) (r : Int32) (f_painter_bits' : Nat → Int32) (f_painter_lesser' : Nat → Int32) (f_painter_greater' : Nat → Int32) (f_painter_placed' : Int32) (f_painter_stops' : Nat → Int32) (f_painter_groups' : Int32) (f_painter_beside' : Nat → Int32) (hm : m_X6_takingOut N f_net_threads f_net_ends f_painter_bits f_painter_lesser f_painter_greater f_painter_placed f_painter_stops f_painter_groups f_painter_beside a1 = some (r, f_painter_bits', f_painter_lesser', f_painter_greater', f_painter_placed', f_painter_stops', f_painter_groups', f_painter_beside')) : Met l yX6_takingOut wsX6_takingOut (rX6_takingOut) (gPc D (tysG cI cC cN) [.ref q, .int a1] [(q, .inr (5, [.ref q_net, .ref q_draft, .ref q_snapshot, .int f_hasSnapshot, .ref q_history, .ref q_text, .ref q_painter, .ref q_covers])), (q_net, .inr (2, [.int f_net_knots, .int f_net_threads, .ref q_net_ends, .ref q_net_colours])), (q_net_ends, .inl (cI, 21, .inl f_net_ends)), (q_net_colours, .inl (cI, 21, .inl f_net_colours)), (q_painter, .inr (3, [.ref q_painter_bits, .ref q_painter_lesser, .ref q_painter_greater, .int f_painter_placed, .ref q_painter_stops, .int f_painter_groups, .ref q_painter_beside, .ref q_painter_found])), (q_painter_bits, .inl (cI, 21, .inl f_painter_bits)), (q_painter_lesser, .inl (cI, 21, .inl f_painter_lesser)), (q_painter_greater, .inl (cI, 21, .inl f_painter_greater)), (q_painter_stops, .inl (cI, 21, .inl f_painter_stops)), (q_painter_beside, .inl (cI, 21, .inl f_painter_beside)), (q_painter_found, .inl (cI, 21, .inl f_painter_found))] sz) (gQi D (tysG cI cC cN) (va_A [(q, .inr (5, [.ref q_net, .ref q_draft, .ref q_snapshot, .int f_hasSnapshot, .ref q_history, .ref q_text, .ref q_painter, .ref q_covers])), (q_net, .inr (2, [.int f_net_knots, .int f_net_threads, .ref q_net_ends, .ref q_net_colours])), (q_net_ends, .inl (cI, 21, .inl f_net_ends)), (q_net_colours, .inl (cI, 21, .inl f_net_colours)), (q_painter, .inr (3, [.ref q_painter_bits, .ref q_painter_lesser, .ref q_painter_greater, .int f_painter_placed, .ref q_painter_stops, .int f_painter_groups, .ref q_painter_beside, .ref q_painter_found])), (q_painter_bits, .inl (cI, 21, .inl f_painter_bits)), (q_painter_lesser, .inl (cI, 21, .inl f_painter_lesser)), (q_painter_greater, .inl (cI, 21, .inl f_painter_greater)), (q_painter_stops, .inl (cI, 21, .inl f_painter_stops)), (q_painter_beside, .inl (cI, 21, .inl f_painter_beside)), (q_painter_found, .inl (cI, 21, .inl f_painter_found))] sz) [(q, .inr (5, [.ref q_net, .ref q_draft, .ref q_snapshot, .int f_hasSnapshot, .ref q_history, .ref q_text, .ref q_painter, .ref q_covers])), (q_net, .inr (2, [.int f_net_knots, .int f_net_threads, .ref q_net_ends, .ref q_net_colours])), (q_net_ends, .inl (cI, 21, .inl f_net_ends)), (q_net_colours, .inl (cI, 21, .inl f_net_colours)), (q_painter, .inr (3, [.ref q_painter_bits, .ref q_painter_lesser, .ref q_painter_greater, .int f_painter_placed', .ref q_painter_stops, .int f_painter_groups', .ref q_painter_beside, .ref q_painter_found])), (q_painter_bits, .inl (cI, 21, .inl f_painter_bits')), (q_painter_lesser, .inl (cI, 21, .inl f_painter_lesser')), (q_painter_greater, .inl (cI, 21, .inl f_painter_greater')), (q_painter_stops, .inl (cI, 21, .inl f_painter_stops')), (q_painter_beside, .inl (cI, 21, .inl f_painter_beside')), (q_painter_found, .inl (cI, 21, .inl f_painter_found))] r) 0 0 (va_A [(q, .inr (5, [.ref q_net, .ref q_draft, .ref q_snapshot, .int f_hasSnapshot, .ref q_history, .ref q_text, .ref q_painter, .ref q_covers])), (q_net, .inr (2, [.int f_net_knots, .int f_net_threads, .ref q_net_ends, .ref q_net_colours])), (q_net_ends, .inl (cI, 21, .inl f_net_ends)), (q_net_colours, .inl (cI, 21, .inl f_net_colours)), (q_painter, .inr (3, [.ref q_painter_bits, .ref q_painter_lesser, .ref q_painter_greater, .int f_painter_placed, .ref q_painter_stops, .int f_painter_groups, .ref q_painter_beside, .ref q_painter_found])), (q_painter_bits, .inl (cI, 21, .inl f_painter_bits)), (q_painter_lesser, .inl (cI, 21, .inl f_painter_lesser)), (q_painter_greater, .inl (cI, 21, .inl f_painter_greater)), (q_painter_stops, .inl (cI, 21, .inl f_painter_stops)), (q_painter_beside, .inl (cI, 21, .inl f_painter_beside)), (q_painter_found, .inl (cI, 21, .inl f_painter_found))] sz) := by
  unfold m_X6_takingOut at hm
  refine g_openI (cc := cX6_takingOut) (maxL := 3) (own := RX6) (by decide) rfl rfl (Nat.le_of_ble_eq_true rfl) ?_
  intro p e s m args below meth c A Q hx hb hml hown hts hP hK hN hD hA hret ls hl
  have hS : va_S A s.heap s.heap [] := va_S.rf
  have hl : lv_has ls 3 [(0, .ref q), (1, .int a1)] := hl
  refine lv_iload_n hx hb dX6_takingOut_0 rfl (lv_at hl 1 rfl) ?_
  obtain ⟨J12, hJ12, hm⟩ := jn_use hm
  have j12 : ∀ (H : Heap) (locs : List Loc) (ls : Array Slot), va_P D vwCl [(q, .inr (5, [.ref q_net, .ref q_draft, .ref q_snapshot, .int f_hasSnapshot, .ref q_history, .ref q_text, .ref q_painter, .ref q_covers])), (q_net, .inr (2, [.int f_net_knots, .int f_net_threads, .ref q_net_ends, .ref q_net_colours])), (q_net_ends, .inl (cI, 21, .inl f_net_ends)), (q_net_colours, .inl (cI, 21, .inl f_net_colours)), (q_painter, .inr (3, [.ref q_painter_bits, .ref q_painter_lesser, .ref q_painter_greater, .int f_painter_placed, .ref q_painter_stops, .int f_painter_groups, .ref q_painter_beside, .ref q_painter_found])), (q_painter_bits, .inl (cI, 21, .inl f_painter_bits)), (q_painter_lesser, .inl (cI, 21, .inl f_painter_lesser)), (q_painter_greater, .inl (cI, 21, .inl f_painter_greater)), (q_painter_stops, .inl (cI, 21, .inl f_painter_stops)), (q_painter_beside, .inl (cI, 21, .inl f_painter_beside)), (q_painter_found, .inl (cI, 21, .inl f_painter_found))] H → va_D A [(q, .inr (5, [.ref q_net, .ref q_draft, .ref q_snapshot, .int f_hasSnapshot, .ref q_history, .ref q_text, .ref q_painter, .ref q_covers])), (q_net, .inr (2, [.int f_net_knots, .int f_net_threads, .ref q_net_ends, .ref q_net_colours])), (q_net_ends, .inl (cI, 21, .inl f_net_ends)), (q_net_colours, .inl (cI, 21, .inl f_net_colours)), (q_painter, .inr (3, [.ref q_painter_bits, .ref q_painter_lesser, .ref q_painter_greater, .int f_painter_placed, .ref q_painter_stops, .int f_painter_groups, .ref q_painter_beside, .ref q_painter_found])), (q_painter_bits, .inl (cI, 21, .inl f_painter_bits)), (q_painter_lesser, .inl (cI, 21, .inl f_painter_lesser)), (q_painter_greater, .inl (cI, 21, .inl f_painter_greater)), (q_painter_stops, .inl (cI, 21, .inl f_painter_stops)), (q_painter_beside, .inl (cI, 21, .inl f_painter_beside)), (q_painter_found, .inl (cI, 21, .inl f_painter_found))] → va_S A s.heap H locs → lv_has ls 3 [(0, .ref q), (1, .int a1)] → J12 = some (r, f_painter_bits', f_painter_lesser', f_painter_greater', f_painter_placed', f_painter_stops', f_painter_groups', f_painter_beside') → W p l e rX6_takingOut s m args below meth c H locs 0 0 Q (F0 m 12 ls []) := by
    intro H locs ls hP hD hS hl hm
    rw [hJ12] at hm
    refine lv_aload_n hx hb dX6_takingOut_12 rfl (lv_at hl 0 rfl) ?_
    refine va_get (D := D) (ci := 5) (v := .ref q_painter) (C := RX6) (T := TX6) (N := 8) hx hb hts (by decide +kernel) hown hK hP 0 rfl rfl 6 (by decide) (hts (.fieldLink RX6 43 "KnotStripes" "painter" "LKnotStripes$Painter;") (by decide +kernel)) (fun _ h9 => h9) rfl dX6_takingOut_13 ?_
    refine lv_aload_n hx hb dX6_takingOut_16 rfl (lv_at hl 0 rfl) ?_
    refine va_get (D := D) (ci := 5) (v := .ref q_net) (C := RX6) (T := TX6) (N := 8) hx hb hts (by decide +kernel) hown hK hP 0 rfl rfl 0 (by decide) (hts (.fieldLink RX6 12 "KnotStripes" "net" "LKnotStripes$Net;") (by decide +kernel)) (fun _ h9 => h9) rfl dX6_takingOut_17 ?_
    obtain ⟨⟨r_1, f_painter_bits_2, f_painter_lesser_3, f_painter_greater_4, f_painter_placed_5, f_painter_stops_6, f_painter_groups_7, f_painter_beside_8⟩, h_9, hm⟩ := bind_use hm
    refine g_ki (wc := [(q_painter, .inr (3, [.ref q_painter_bits, .ref q_painter_lesser, .ref q_painter_greater, .int f_painter_placed, .ref q_painter_stops, .int f_painter_groups, .ref q_painter_beside, .ref q_painter_found])), (q_painter_bits, .inl (cI, 21, .inl f_painter_bits)), (q_painter_lesser, .inl (cI, 21, .inl f_painter_lesser)), (q_painter_greater, .inl (cI, 21, .inl f_painter_greater)), (q_painter_stops, .inl (cI, 21, .inl f_painter_stops)), (q_painter_beside, .inl (cI, 21, .inl f_painter_beside)), (q_painter_found, .inl (cI, 21, .inl f_painter_found)), (q_net, .inr (2, [.int f_net_knots, .int f_net_threads, .ref q_net_ends, .ref q_net_colours])), (q_net_ends, .inl (cI, 21, .inl f_net_ends)), (q_net_colours, .inl (cI, 21, .inl f_net_colours))]) (wr := [(q, .inr (5, [.ref q_net, .ref q_draft, .ref q_snapshot, .int f_hasSnapshot, .ref q_history, .ref q_text, .ref q_painter, .ref q_covers]))]) (w2 := [(q, .inr (5, [.ref q_net, .ref q_draft, .ref q_snapshot, .int f_hasSnapshot, .ref q_history, .ref q_text, .ref q_painter, .ref q_covers])), (q_painter, .inr (3, [.ref q_painter_bits, .ref q_painter_lesser, .ref q_painter_greater, .int f_painter_placed_5, .ref q_painter_stops, .int f_painter_groups_7, .ref q_painter_beside, .ref q_painter_found])), (q_painter_bits, .inl (cI, 21, .inl f_painter_bits_2)), (q_painter_lesser, .inl (cI, 21, .inl f_painter_lesser_3)), (q_painter_greater, .inl (cI, 21, .inl f_painter_greater_4)), (q_painter_stops, .inl (cI, 21, .inl f_painter_stops_6)), (q_painter_beside, .inl (cI, 21, .inl f_painter_beside_8)), (q_painter_found, .inl (cI, 21, .inl f_painter_found)), (q_net, .inr (2, [.int f_net_knots, .int f_net_threads, .ref q_net_ends, .ref q_net_colours])), (q_net_ends, .inl (cI, 21, .inl f_net_ends)), (q_net_colours, .inl (cI, 21, .inl f_net_colours))]) (va_runV (As := [.ref q_net]) (rest := []) ⟨hx, hb, hml, hown, hts⟩ (k_X3_firstLeastSet l D cI cC cN N q_painter q_painter_bits q_painter_lesser q_painter_greater q_painter_stops q_painter_beside q_painter_found q_net q_net_ends q_net_colours H.size f_painter_bits f_painter_lesser f_painter_greater f_painter_placed f_painter_stops f_painter_groups f_painter_beside f_painter_found f_net_knots f_net_threads f_net_ends f_net_colours r_1 f_painter_bits_2 f_painter_lesser_3 f_painter_greater_4 f_painter_placed_5 f_painter_stops_6 f_painter_groups_7 f_painter_beside_8 h_9) (cwV 1 hts gX6_takingOut_X3_firstLeastSet rfl rfl rfl (by decide +kernel) ⟨Nat.le_of_ble_eq_true rfl, Nat.le_of_ble_eq_true rfl⟩) ⟨g_blind, va_recv (D := D) (ci := 3) (q0 := 4) hK hP rfl rfl, g_pre (hP.sub [4, 5, 6, 7, 8, 9, 10, 1, 2, 3] rfl) hK hN (hD.sub [4, 5, 6, 7, 8, 9, 10, 1, 2, 3] (by decide) rfl)⟩ rfl rfl hl.1 rfl (lv_room (Nat.le_of_ble_eq_true rfl)) dX6_takingOut_20 ⟨Nat.zero_le _, Nat.zero_le _⟩) hP hD hS hA [4, 5, 6, 7, 8, 9, 10, 1, 2, 3] [0] rfl rfl (by decide) (by decide) rfl (fun H locs hP hD hS => ?_)
    refine lv_istore_n (lv' := [(2, .int r_1), (0, .ref q), (1, .int a1)]) hx hb dX6_takingOut_23 rfl hl (by decide) rfl (fun ls hl => ?_)
    refine lv_iload_n hx hb dX6_takingOut_24 rfl (lv_at hl 2 rfl) ?_
    refine lv_if_ne (tgt := 35) hx hb dX6_takingOut_25 (by decide) (fun hc => ?_) (fun hc => ?_)
    · have hm := if_f _ hc hm
      refine lv_iload_n hx hb dX6_takingOut_35 rfl (lv_at hl 0 rfl) ?_
      have z1 := so_use hm
      obtain ⟨y1, z2⟩ := pr_use z1
      obtain ⟨y2, z3⟩ := pr_use z2
      obtain ⟨y3, z4⟩ := pr_use z3
      obtain ⟨y4, z5⟩ := pr_use z4
      obtain ⟨y5, z6⟩ := pr_use z5
      obtain ⟨y6, z7⟩ := pr_use z6
      obtain ⟨y7, z8⟩ := pr_use z7
      subst y1
      subst y2
      subst y3
      subst y4
      subst y5
      subst y6
      subst y7
      subst z8
      exact hret _ _ _ _ _ dX6_takingOut_36 rfl rfl (hP.sub [0, 8, 9, 10, 1, 2, 3, 4, 5, 6, 7] rfl) (hD.sub [0, 8, 9, 10, 1, 2, 3, 4, 5, 6, 7] (by decide) rfl) hS
    · have hm := if_t _ hc hm
      refine lv_iload_n hx hb dX6_takingOut_28 rfl (lv_at hl 0 rfl) ?_
      obtain ⟨r_10, h_11, hm⟩ := bind_use hm
      refine g_ki (wc := []) (wr := [(q, .inr (5, [.ref q_net, .ref q_draft, .ref q_snapshot, .int f_hasSnapshot, .ref q_history, .ref q_text, .ref q_painter, .ref q_covers])), (q_painter, .inr (3, [.ref q_painter_bits, .ref q_painter_lesser, .ref q_painter_greater, .int f_painter_placed_5, .ref q_painter_stops, .int f_painter_groups_7, .ref q_painter_beside, .ref q_painter_found])), (q_painter_bits, .inl (cI, 21, .inl f_painter_bits_2)), (q_painter_lesser, .inl (cI, 21, .inl f_painter_lesser_3)), (q_painter_greater, .inl (cI, 21, .inl f_painter_greater_4)), (q_painter_stops, .inl (cI, 21, .inl f_painter_stops_6)), (q_painter_beside, .inl (cI, 21, .inl f_painter_beside_8)), (q_painter_found, .inl (cI, 21, .inl f_painter_found)), (q_net, .inr (2, [.int f_net_knots, .int f_net_threads, .ref q_net_ends, .ref q_net_colours])), (q_net_ends, .inl (cI, 21, .inl f_net_ends)), (q_net_colours, .inl (cI, 21, .inl f_net_colours))]) (w2 := [(q, .inr (5, [.ref q_net, .ref q_draft, .ref q_snapshot, .int f_hasSnapshot, .ref q_history, .ref q_text, .ref q_painter, .ref q_covers])), (q_painter, .inr (3, [.ref q_painter_bits, .ref q_painter_lesser, .ref q_painter_greater, .int f_painter_placed_5, .ref q_painter_stops, .int f_painter_groups_7, .ref q_painter_beside, .ref q_painter_found])), (q_painter_bits, .inl (cI, 21, .inl f_painter_bits_2)), (q_painter_lesser, .inl (cI, 21, .inl f_painter_lesser_3)), (q_painter_greater, .inl (cI, 21, .inl f_painter_greater_4)), (q_painter_stops, .inl (cI, 21, .inl f_painter_stops_6)), (q_painter_beside, .inl (cI, 21, .inl f_painter_beside_8)), (q_painter_found, .inl (cI, 21, .inl f_painter_found)), (q_net, .inr (2, [.int f_net_knots, .int f_net_threads, .ref q_net_ends, .ref q_net_colours])), (q_net_ends, .inl (cI, 21, .inl f_net_ends)), (q_net_colours, .inl (cI, 21, .inl f_net_colours))]) (va_runS (As := [.int r_1]) (rest := []) ⟨hx, hb, hml, hown, hts⟩ (k_J6_bitCount_0f7a4 l D cI cC cN N H.size r_1 r_10 h_11) (va_cwS 1 hts gX6_takingOut_J6_bitCount_0f7a4 rfl rfl rfl (by decide +kernel) ⟨Nat.le_of_ble_eq_true rfl, Nat.le_of_ble_eq_true rfl⟩) ⟨g_blind, g_pre (hP.sub [] rfl) hK hN (hD.sub [] (by decide) rfl)⟩ rfl rfl hl.1 rfl (lv_room (Nat.le_of_ble_eq_true rfl)) dX6_takingOut_29 ⟨Nat.zero_le _, Nat.zero_le _⟩) hP hD hS hA [] [0, 1, 2, 3, 4, 5, 6, 7, 8, 9, 10] rfl rfl (by decide) (by decide) rfl (fun H locs hP hD hS => ?_)
      refine lv_goto (tgt := 36) hx hb dX6_takingOut_32 (by decide) ?_
      have z1 := so_use hm
      obtain ⟨y1, z2⟩ := pr_use z1
      obtain ⟨y2, z3⟩ := pr_use z2
      obtain ⟨y3, z4⟩ := pr_use z3
      obtain ⟨y4, z5⟩ := pr_use z4
      obtain ⟨y5, z6⟩ := pr_use z5
      obtain ⟨y6, z7⟩ := pr_use z6
      obtain ⟨y7, z8⟩ := pr_use z7
      subst y1
      subst y2
      subst y3
      subst y4
      subst y5
      subst y6
      subst y7
      subst z8
      exact hret _ _ _ _ _ dX6_takingOut_36 rfl rfl (hP.sub [0, 8, 9, 10, 1, 2, 3, 4, 5, 6, 7] rfl) (hD.sub [0, 8, 9, 10, 1, 2, 3, 4, 5, 6, 7] (by decide) rfl) hS
  refine lv_if_eq (tgt := 12) hx hb dX6_takingOut_1 (by decide) (fun hc => ?_) (fun hc => ?_)
  · have hm := if_t _ hc hm
    exact j12 _ _ _ hP hD hS hl hm
  · have hm := if_f _ hc hm
    refine lv_iload_n hx hb dX6_takingOut_4 rfl (lv_at hl 1 rfl) ?_
    refine lv_iconst (v := 1) hx hb dX6_takingOut_5 (by decide) ?_
    refine lv_icmp_eq (tgt := 12) hx hb dX6_takingOut_6 (by decide) (fun hc => ?_) (fun hc => ?_)
    · have hm := if_t _ hc hm
      exact j12 _ _ _ hP hD hS hl hm
    · have hm := if_f _ hc hm
      refine lv_bipush (v := (-2)) hx hb dX6_takingOut_9 (by decide) ?_
      have z1 := so_use hm
      obtain ⟨y1, z2⟩ := pr_use z1
      obtain ⟨y2, z3⟩ := pr_use z2
      obtain ⟨y3, z4⟩ := pr_use z3
      obtain ⟨y4, z5⟩ := pr_use z4
      obtain ⟨y5, z6⟩ := pr_use z5
      obtain ⟨y6, z7⟩ := pr_use z6
      obtain ⟨y7, z8⟩ := pr_use z7
      subst y1
      subst y2
      subst y3
      subst y4
      subst y5
      subst y6
      subst y7
      subst z8
      exact hret _ _ _ _ _ dX6_takingOut_11 rfl rfl hP hD hS
abbrev rX6_cover : Room := { frames := 28, cells := 0, slots := 0, locals := 741 }
set_option maxHeartbeats 4000000 in
set_option maxRecDepth 100000 in
theorem k_X6_cover (l : Launch) (D : va_G) (cI cC cN : ClassId) (N : Nat) (q : Nat) (q_net : Nat) (q_draft : Nat) (q_snapshot : Nat) (q_history : Nat) (q_text : Nat) (q_painter : Nat) (q_covers : Nat) (q_net_ends : Nat) (q_net_colours : Nat) (q_covers_found : Nat) (q_covers_before : Nat) (sz : Nat) (f_hasSnapshot : Int32) (f_net_knots : Int32) (f_net_threads : Int32) (f_net_ends : Nat → Int32) (f_net_colours : Nat → Int32) (f_covers_found : Nat → Int32) (f_covers_size : Int32) (f_covers_before : Nat → Int32) (f_covers_circles : Int32) (f_covers_oddCircles : Int32) (f_covers_longest : Int32) (a1 : Int32) (r : Int32) (f_covers_found' : Nat → Int32) (f_covers_size' : Int32) (f_covers_before' : Nat → Int32) (hm : m_X6_cover N f_net_knots f_net_threads f_net_ends f_covers_found f_covers_size f_covers_before a1 = some (r, f_covers_found', f_covers_size', f_covers_before')) : Met l yX6_cover wsX6_cover (rX6_cover) (gPc D (tysG cI cC cN) [.ref q, .int a1] [(q, .inr (5, [.ref q_net, .ref q_draft, .ref q_snapshot, .int f_hasSnapshot, .ref q_history, .ref q_text, .ref q_painter, .ref q_covers])), (q_net, .inr (2, [.int f_net_knots, .int f_net_threads, .ref q_net_ends, .ref q_net_colours])), (q_net_ends, .inl (cI, 21, .inl f_net_ends)), (q_net_colours, .inl (cI, 21, .inl f_net_colours)), (q_covers, .inr (0, [.ref q_covers_found, .int f_covers_size, .ref q_covers_before, .int f_covers_circles, .int f_covers_oddCircles, .int f_covers_longest])), (q_covers_found, .inl (cI, 80, .inl f_covers_found)), (q_covers_before, .inl (cI, 21, .inl f_covers_before))] sz) (gQi D (tysG cI cC cN) (va_A [(q, .inr (5, [.ref q_net, .ref q_draft, .ref q_snapshot, .int f_hasSnapshot, .ref q_history, .ref q_text, .ref q_painter, .ref q_covers])), (q_net, .inr (2, [.int f_net_knots, .int f_net_threads, .ref q_net_ends, .ref q_net_colours])), (q_net_ends, .inl (cI, 21, .inl f_net_ends)), (q_net_colours, .inl (cI, 21, .inl f_net_colours)), (q_covers, .inr (0, [.ref q_covers_found, .int f_covers_size, .ref q_covers_before, .int f_covers_circles, .int f_covers_oddCircles, .int f_covers_longest])), (q_covers_found, .inl (cI, 80, .inl f_covers_found)), (q_covers_before, .inl (cI, 21, .inl f_covers_before))] sz) [(q, .inr (5, [.ref q_net, .ref q_draft, .ref q_snapshot, .int f_hasSnapshot, .ref q_history, .ref q_text, .ref q_painter, .ref q_covers])), (q_net, .inr (2, [.int f_net_knots, .int f_net_threads, .ref q_net_ends, .ref q_net_colours])), (q_net_ends, .inl (cI, 21, .inl f_net_ends)), (q_net_colours, .inl (cI, 21, .inl f_net_colours)), (q_covers, .inr (0, [.ref q_covers_found, .int f_covers_size', .ref q_covers_before, .int f_covers_circles, .int f_covers_oddCircles, .int f_covers_longest])), (q_covers_found, .inl (cI, 80, .inl f_covers_found')), (q_covers_before, .inl (cI, 21, .inl f_covers_before'))] r) 0 0 (va_A [(q, .inr (5, [.ref q_net, .ref q_draft, .ref q_snapshot, .int f_hasSnapshot, .ref q_history, .ref q_text, .ref q_painter, .ref q_covers])), (q_net, .inr (2, [.int f_net_knots, .int f_net_threads, .ref q_net_ends, .ref q_net_colours])), (q_net_ends, .inl (cI, 21, .inl f_net_ends)), (q_net_colours, .inl (cI, 21, .inl f_net_colours)), (q_covers, .inr (0, [.ref q_covers_found, .int f_covers_size, .ref q_covers_before, .int f_covers_circles, .int f_covers_oddCircles, .int f_covers_longest])), (q_covers_found, .inl (cI, 80, .inl f_covers_found)), (q_covers_before, .inl (cI, 21, .inl f_covers_before))] sz) := by
  unfold m_X6_cover at hm
  refine g_openI (cc := cX6_cover) (maxL := 2) (own := RX6) (by decide) rfl rfl (Nat.le_of_ble_eq_true rfl) ?_
  intro p e s m args below meth c A Q hx hb hml hown hts hP hK hN hD hA hret ls hl
  have hS : va_S A s.heap s.heap [] := va_S.rf
  have hl : lv_has ls 2 [(0, .ref q), (1, .int a1)] := hl
  refine lv_iload_n hx hb dX6_cover_0 rfl (lv_at hl 1 rfl) ?_
  refine lv_if_ge (tgt := 7) hx hb dX6_cover_1 (by decide) (fun hc => ?_) (fun hc => ?_)
  · have hm := if_t _ hc hm
    refine lv_aload_n hx hb dX6_cover_7 rfl (lv_at hl 0 rfl) ?_
    refine va_get (D := D) (ci := 5) (v := .ref q_covers) (C := RX6) (T := TX6) (N := 8) hx hb hts (by decide +kernel) hown hK hP 0 rfl rfl 7 (by decide) (hts (.fieldLink RX6 50 "KnotStripes" "covers" "LKnotStripes$Covers;") (by decide +kernel)) (fun _ h9 => h9) rfl dX6_cover_8 ?_
    refine lv_aload_n hx hb dX6_cover_11 rfl (lv_at hl 0 rfl) ?_
    refine va_get (D := D) (ci := 5) (v := .ref q_net) (C := RX6) (T := TX6) (N := 8) hx hb hts (by decide +kernel) hown hK hP 0 rfl rfl 0 (by decide) (hts (.fieldLink RX6 12 "KnotStripes" "net" "LKnotStripes$Net;") (by decide +kernel)) (fun _ h9 => h9) rfl dX6_cover_12 ?_
    obtain ⟨⟨f_covers_found_1, f_covers_size_2, f_covers_before_3⟩, h_4, hm⟩ := bind_use hm
    refine g_kv (wc := [(q_covers, .inr (0, [.ref q_covers_found, .int f_covers_size, .ref q_covers_before, .int f_covers_circles, .int f_covers_oddCircles, .int f_covers_longest])), (q_covers_found, .inl (cI, 80, .inl f_covers_found)), (q_covers_before, .inl (cI, 21, .inl f_covers_before)), (q_net, .inr (2, [.int f_net_knots, .int f_net_threads, .ref q_net_ends, .ref q_net_colours])), (q_net_ends, .inl (cI, 21, .inl f_net_ends)), (q_net_colours, .inl (cI, 21, .inl f_net_colours))]) (wr := [(q, .inr (5, [.ref q_net, .ref q_draft, .ref q_snapshot, .int f_hasSnapshot, .ref q_history, .ref q_text, .ref q_painter, .ref q_covers]))]) (w2 := [(q, .inr (5, [.ref q_net, .ref q_draft, .ref q_snapshot, .int f_hasSnapshot, .ref q_history, .ref q_text, .ref q_painter, .ref q_covers])), (q_covers, .inr (0, [.ref q_covers_found, .int f_covers_size_2, .ref q_covers_before, .int f_covers_circles, .int f_covers_oddCircles, .int f_covers_longest])), (q_covers_found, .inl (cI, 80, .inl f_covers_found_1)), (q_covers_before, .inl (cI, 21, .inl f_covers_before_3)), (q_net, .inr (2, [.int f_net_knots, .int f_net_threads, .ref q_net_ends, .ref q_net_colours])), (q_net_ends, .inl (cI, 21, .inl f_net_ends)), (q_net_colours, .inl (cI, 21, .inl f_net_colours))]) (va_runV (As := [.ref q_net]) (rest := []) ⟨hx, hb, hml, hown, hts⟩ (k_X0_list l D cI cC cN N q_covers q_covers_found q_covers_before q_net q_net_ends q_net_colours s.heap.size f_covers_found f_covers_size f_covers_before f_covers_circles f_covers_oddCircles f_covers_longest f_net_knots f_net_threads f_net_ends f_net_colours f_covers_found_1 f_covers_size_2 f_covers_before_3 h_4) (cwV 1 hts gX6_cover_X0_list rfl rfl rfl (by decide +kernel) ⟨Nat.le_of_ble_eq_true rfl, Nat.le_of_ble_eq_true rfl⟩) ⟨g_blind, va_recv (D := D) (ci := 0) (q0 := 4) hK hP rfl rfl, g_pre (hP.sub [4, 5, 6, 1, 2, 3] rfl) hK hN (hD.sub [4, 5, 6, 1, 2, 3] (by decide) rfl)⟩ rfl rfl hl.1 rfl (lv_room (Nat.le_of_ble_eq_true rfl)) dX6_cover_15 ⟨Nat.zero_le _, Nat.zero_le _⟩) hP hD hS hA [4, 5, 6, 1, 2, 3] [0] rfl rfl (by decide) (by decide) rfl (fun H locs hP hD hS => ?_)
    refine lv_iload_n hx hb dX6_cover_18 rfl (lv_at hl 1 rfl) ?_
    refine lv_aload_n hx hb dX6_cover_19 rfl (lv_at hl 0 rfl) ?_
    refine va_get (D := D) (ci := 5) (v := .ref q_covers) (C := RX6) (T := TX6) (N := 8) hx hb hts (by decide +kernel) hown hK hP 0 rfl rfl 7 (by decide) (hts (.fieldLink RX6 50 "KnotStripes" "covers" "LKnotStripes$Covers;") (by decide +kernel)) (fun _ h9 => h9) rfl dX6_cover_20 ?_
    obtain ⟨r_5, h_6, hm⟩ := bind_use hm
    refine g_ki (wc := [(q_covers, .inr (0, [.ref q_covers_found, .int f_covers_size_2, .ref q_covers_before, .int f_covers_circles, .int f_covers_oddCircles, .int f_covers_longest])), (q_covers_found, .inl (cI, 80, .inl f_covers_found_1)), (q_covers_before, .inl (cI, 21, .inl f_covers_before_3))]) (wr := [(q, .inr (5, [.ref q_net, .ref q_draft, .ref q_snapshot, .int f_hasSnapshot, .ref q_history, .ref q_text, .ref q_painter, .ref q_covers])), (q_net, .inr (2, [.int f_net_knots, .int f_net_threads, .ref q_net_ends, .ref q_net_colours])), (q_net_ends, .inl (cI, 21, .inl f_net_ends)), (q_net_colours, .inl (cI, 21, .inl f_net_colours))]) (w2 := [(q, .inr (5, [.ref q_net, .ref q_draft, .ref q_snapshot, .int f_hasSnapshot, .ref q_history, .ref q_text, .ref q_painter, .ref q_covers])), (q_net, .inr (2, [.int f_net_knots, .int f_net_threads, .ref q_net_ends, .ref q_net_colours])), (q_net_ends, .inl (cI, 21, .inl f_net_ends)), (q_net_colours, .inl (cI, 21, .inl f_net_colours)), (q_covers, .inr (0, [.ref q_covers_found, .int f_covers_size_2, .ref q_covers_before, .int f_covers_circles, .int f_covers_oddCircles, .int f_covers_longest])), (q_covers_found, .inl (cI, 80, .inl f_covers_found_1)), (q_covers_before, .inl (cI, 21, .inl f_covers_before_3))]) (va_runV (As := []) (rest := [.int a1]) ⟨hx, hb, hml, hown, hts⟩ (k_X0_size l D cI cC cN N q_covers q_covers_found q_covers_before H.size f_covers_found_1 f_covers_size_2 f_covers_before_3 f_covers_circles f_covers_oddCircles f_covers_longest r_5 h_6) (cwV 0 hts gX6_cover_X0_size rfl rfl rfl (by decide +kernel) ⟨Nat.le_of_ble_eq_true rfl, Nat.le_of_ble_eq_true rfl⟩) ⟨g_blind, va_recv (D := D) (ci := 0) (q0 := 1) hK hP rfl rfl, g_pre (hP.sub [1, 2, 3] rfl) hK hN (hD.sub [1, 2, 3] (by decide) rfl)⟩ rfl rfl hl.1 rfl (lv_room (Nat.le_of_ble_eq_true rfl)) dX6_cover_23 ⟨Nat.zero_le _, Nat.zero_le _⟩) hP hD hS hA [1, 2, 3] [0, 4, 5, 6] rfl rfl (by decide) (by decide) rfl (fun H locs hP hD hS => ?_)
    refine lv_icmp_ge (tgt := 40) hx hb dX6_cover_26 (by decide) (fun hc => ?_) (fun hc => ?_)
    · have hm := if_t _ hc hm
      refine lv_bipush (v := (-5)) hx hb dX6_cover_40 (by decide) ?_
      have z1 := so_use hm
      obtain ⟨y1, z2⟩ := pr_use z1
      obtain ⟨y2, z3⟩ := pr_use z2
      obtain ⟨y3, z4⟩ := pr_use z3
      subst y1
      subst y2
      subst y3
      subst z4
      exact hret _ _ _ _ _ dX6_cover_42 rfl rfl hP hD hS
    · have hm := if_f _ hc hm
      refine lv_aload_n hx hb dX6_cover_29 rfl (lv_at hl 0 rfl) ?_
      refine va_get (D := D) (ci := 5) (v := .ref q_covers) (C := RX6) (T := TX6) (N := 8) hx hb hts (by decide +kernel) hown hK hP 0 rfl rfl 7 (by decide) (hts (.fieldLink RX6 50 "KnotStripes" "covers" "LKnotStripes$Covers;") (by decide +kernel)) (fun _ h9 => h9) rfl dX6_cover_30 ?_
      refine lv_iload_n hx hb dX6_cover_33 rfl (lv_at hl 1 rfl) ?_
      obtain ⟨r_7, h_8, hm⟩ := bind_use hm
      refine g_ki (wc := [(q_covers, .inr (0, [.ref q_covers_found, .int f_covers_size_2, .ref q_covers_before, .int f_covers_circles, .int f_covers_oddCircles, .int f_covers_longest])), (q_covers_found, .inl (cI, 80, .inl f_covers_found_1)), (q_covers_before, .inl (cI, 21, .inl f_covers_before_3))]) (wr := [(q, .inr (5, [.ref q_net, .ref q_draft, .ref q_snapshot, .int f_hasSnapshot, .ref q_history, .ref q_text, .ref q_painter, .ref q_covers])), (q_net, .inr (2, [.int f_net_knots, .int f_net_threads, .ref q_net_ends, .ref q_net_colours])), (q_net_ends, .inl (cI, 21, .inl f_net_ends)), (q_net_colours, .inl (cI, 21, .inl f_net_colours))]) (w2 := [(q, .inr (5, [.ref q_net, .ref q_draft, .ref q_snapshot, .int f_hasSnapshot, .ref q_history, .ref q_text, .ref q_painter, .ref q_covers])), (q_net, .inr (2, [.int f_net_knots, .int f_net_threads, .ref q_net_ends, .ref q_net_colours])), (q_net_ends, .inl (cI, 21, .inl f_net_ends)), (q_net_colours, .inl (cI, 21, .inl f_net_colours)), (q_covers, .inr (0, [.ref q_covers_found, .int f_covers_size_2, .ref q_covers_before, .int f_covers_circles, .int f_covers_oddCircles, .int f_covers_longest])), (q_covers_found, .inl (cI, 80, .inl f_covers_found_1)), (q_covers_before, .inl (cI, 21, .inl f_covers_before_3))]) (va_runV (As := [.int a1]) (rest := []) ⟨hx, hb, hml, hown, hts⟩ (k_X0_get l D cI cC cN N q_covers q_covers_found q_covers_before H.size f_covers_found_1 f_covers_size_2 f_covers_before_3 f_covers_circles f_covers_oddCircles f_covers_longest a1 r_7 h_8) (cwV 1 hts gX6_cover_X0_get rfl rfl rfl (by decide +kernel) ⟨Nat.le_of_ble_eq_true rfl, Nat.le_of_ble_eq_true rfl⟩) ⟨g_blind, va_recv (D := D) (ci := 0) (q0 := 4) hK hP rfl rfl, g_pre (hP.sub [4, 5, 6] rfl) hK hN (hD.sub [4, 5, 6] (by decide) rfl)⟩ rfl rfl hl.1 rfl (lv_room (Nat.le_of_ble_eq_true rfl)) dX6_cover_34 ⟨Nat.zero_le _, Nat.zero_le _⟩) hP hD hS hA [4, 5, 6] [0, 1, 2, 3] rfl rfl (by decide) (by decide) rfl (fun H locs hP hD hS => ?_)
      refine lv_goto (tgt := 42) hx hb dX6_cover_37 (by decide) ?_
      have z1 := so_use hm
      obtain ⟨y1, z2⟩ := pr_use z1
      obtain ⟨y2, z3⟩ := pr_use z2
      obtain ⟨y3, z4⟩ := pr_use z3
      subst y1
      subst y2
      subst y3
      subst z4
      exact hret _ _ _ _ _ dX6_cover_42 rfl rfl hP hD hS
  · have hm := if_f _ hc hm
    refine lv_bipush (v := (-2)) hx hb dX6_cover_4 (by decide) ?_
    have z1 := so_use hm
    obtain ⟨y1, z2⟩ := pr_use z1
    obtain ⟨y2, z3⟩ := pr_use z2
    obtain ⟨y3, z4⟩ := pr_use z3
    subst y1
    subst y2
    subst y3
    subst z4
    exact hret _ _ _ _ _ dX6_cover_6 rfl rfl hP hD hS
abbrev rX6_circles : Room := { frames := 28, cells := 0, slots := 0, locals := 741 }
set_option maxHeartbeats 4000000 in
set_option maxRecDepth 100000 in
theorem k_X6_circles (l : Launch) (D : va_G) (cI cC cN : ClassId) (N : Nat) (q : Nat) (q_net : Nat) (q_draft : Nat) (q_snapshot : Nat) (q_history : Nat) (q_text : Nat) (q_painter : Nat) (q_covers : Nat) (q_net_ends : Nat) (q_net_colours : Nat) (q_covers_found : Nat) (q_covers_before : Nat) (sz : Nat) (f_hasSnapshot : Int32) (f_net_knots : Int32) (f_net_threads : Int32) (f_net_ends : Nat → Int32) (f_net_colours : Nat → Int32) (f_covers_found : Nat → Int32) (f_covers_size : Int32) (f_covers_before : Nat → Int32) (f_covers_circles : Int32) (f_covers_oddCircles : Int32) (f_covers_longest : Int32) (a1 : Int32) (a2 : Int32) (r : Int32) (f_covers_found' : Nat → Int32) (f_covers_size' : Int32) (f_covers_before' : Nat → Int32) (f_covers_circles' : Int32) (f_covers_oddCircles' : Int32) (f_covers_longest' : Int32) (hm : m_X6_circles N f_net_knots f_net_threads f_net_ends f_covers_found f_covers_size f_covers_before f_covers_circles f_covers_oddCircles f_covers_longest a1 a2 = some (r, f_covers_found', f_covers_size', f_covers_before', f_covers_circles', f_covers_oddCircles', f_covers_longest')) : Met l yX6_circles wsX6_circles (rX6_circles) (gPc D (tysG cI cC cN) [.ref q, .int a1, .int a2] [(q, .inr (5, [.ref q_net, .ref q_draft, .ref q_snapshot, .int f_hasSnapshot, .ref q_history, .ref q_text, .ref q_painter, .ref q_covers])), (q_net, .inr (2, [.int f_net_knots, .int f_net_threads, .ref q_net_ends, .ref q_net_colours])), (q_net_ends, .inl (cI, 21, .inl f_net_ends)), (q_net_colours, .inl (cI, 21, .inl f_net_colours)), (q_covers, .inr (0, [.ref q_covers_found, .int f_covers_size, .ref q_covers_before, .int f_covers_circles, .int f_covers_oddCircles, .int f_covers_longest])), (q_covers_found, .inl (cI, 80, .inl f_covers_found)), (q_covers_before, .inl (cI, 21, .inl f_covers_before))] sz) (gQi D (tysG cI cC cN) (va_A [(q, .inr (5, [.ref q_net, .ref q_draft, .ref q_snapshot, .int f_hasSnapshot, .ref q_history, .ref q_text, .ref q_painter, .ref q_covers])), (q_net, .inr (2, [.int f_net_knots, .int f_net_threads, .ref q_net_ends, .ref q_net_colours])), (q_net_ends, .inl (cI, 21, .inl f_net_ends)), (q_net_colours, .inl (cI, 21, .inl f_net_colours)), (q_covers, .inr (0, [.ref q_covers_found, .int f_covers_size, .ref q_covers_before, .int f_covers_circles, .int f_covers_oddCircles, .int f_covers_longest])), (q_covers_found, .inl (cI, 80, .inl f_covers_found)), (q_covers_before, .inl (cI, 21, .inl f_covers_before))] sz) [(q, .inr (5, [.ref q_net, .ref q_draft, .ref q_snapshot, .int f_hasSnapshot, .ref q_history, .ref q_text, .ref q_painter, .ref q_covers])), (q_net, .inr (2, [.int f_net_knots, .int f_net_threads, .ref q_net_ends, .ref q_net_colours])), (q_net_ends, .inl (cI, 21, .inl f_net_ends)), (q_net_colours, .inl (cI, 21, .inl f_net_colours)), (q_covers, .inr (0, [.ref q_covers_found, .int f_covers_size', .ref q_covers_before, .int f_covers_circles', .int f_covers_oddCircles', .int f_covers_longest'])), (q_covers_found, .inl (cI, 80, .inl f_covers_found')), (q_covers_before, .inl (cI, 21, .inl f_covers_before'))] r) 0 0 (va_A [(q, .inr (5, [.ref q_net, .ref q_draft, .ref q_snapshot, .int f_hasSnapshot, .ref q_history, .ref q_text, .ref q_painter, .ref q_covers])), (q_net, .inr (2, [.int f_net_knots, .int f_net_threads, .ref q_net_ends, .ref q_net_colours])), (q_net_ends, .inl (cI, 21, .inl f_net_ends)), (q_net_colours, .inl (cI, 21, .inl f_net_colours)), (q_covers, .inr (0, [.ref q_covers_found, .int f_covers_size, .ref q_covers_before, .int f_covers_circles, .int f_covers_oddCircles, .int f_covers_longest])), (q_covers_found, .inl (cI, 80, .inl f_covers_found)), (q_covers_before, .inl (cI, 21, .inl f_covers_before))] sz) := by
  unfold m_X6_circles at hm
  refine g_openI (cc := cX6_circles) (maxL := 3) (own := RX6) (by decide) rfl rfl (Nat.le_of_ble_eq_true rfl) ?_
  intro p e s m args below meth c A Q hx hb hml hown hts hP hK hN hD hA hret ls hl
  have hS : va_S A s.heap s.heap [] := va_S.rf
  have hl : lv_has ls 3 [(0, .ref q), (1, .int a1), (2, .int a2)] := hl
  refine lv_aload_n hx hb dX6_circles_0 rfl (lv_at hl 0 rfl) ?_
  refine va_get (D := D) (ci := 5) (v := .ref q_net) (C := RX6) (T := TX6) (N := 8) hx hb hts (by decide +kernel) hown hK hP 0 rfl rfl 0 (by decide) (hts (.fieldLink RX6 12 "KnotStripes" "net" "LKnotStripes$Net;") (by decide +kernel)) (fun _ h9 => h9) rfl dX6_circles_1 ?_
  obtain ⟨r_1, h_2, hm⟩ := bind_use hm
  refine g_ki (wc := [(q_net, .inr (2, [.int f_net_knots, .int f_net_threads, .ref q_net_ends, .ref q_net_colours])), (q_net_ends, .inl (cI, 21, .inl f_net_ends)), (q_net_colours, .inl (cI, 21, .inl f_net_colours))]) (wr := [(q, .inr (5, [.ref q_net, .ref q_draft, .ref q_snapshot, .int f_hasSnapshot, .ref q_history, .ref q_text, .ref q_painter, .ref q_covers])), (q_covers, .inr (0, [.ref q_covers_found, .int f_covers_size, .ref q_covers_before, .int f_covers_circles, .int f_covers_oddCircles, .int f_covers_longest])), (q_covers_found, .inl (cI, 80, .inl f_covers_found)), (q_covers_before, .inl (cI, 21, .inl f_covers_before))]) (w2 := [(q, .inr (5, [.ref q_net, .ref q_draft, .ref q_snapshot, .int f_hasSnapshot, .ref q_history, .ref q_text, .ref q_painter, .ref q_covers])), (q_covers, .inr (0, [.ref q_covers_found, .int f_covers_size, .ref q_covers_before, .int f_covers_circles, .int f_covers_oddCircles, .int f_covers_longest])), (q_covers_found, .inl (cI, 80, .inl f_covers_found)), (q_covers_before, .inl (cI, 21, .inl f_covers_before)), (q_net, .inr (2, [.int f_net_knots, .int f_net_threads, .ref q_net_ends, .ref q_net_colours])), (q_net_ends, .inl (cI, 21, .inl f_net_ends)), (q_net_colours, .inl (cI, 21, .inl f_net_colours))]) (va_runV (As := []) (rest := []) ⟨hx, hb, hml, hown, hts⟩ (k_X2_isFull l D cI cC cN N q_net q_net_ends q_net_colours s.heap.size f_net_knots f_net_threads f_net_ends f_net_colours r_1 h_2) (cwV 0 hts gX6_circles_X2_isFull rfl rfl rfl (by decide +kernel) ⟨Nat.le_of_ble_eq_true rfl, Nat.le_of_ble_eq_true rfl⟩) ⟨g_blind, va_recv (D := D) (ci := 2) (q0 := 1) hK hP rfl rfl, g_pre (hP.sub [1, 2, 3] rfl) hK hN (hD.sub [1, 2, 3] (by decide) rfl)⟩ rfl rfl hl.1 rfl (lv_room (Nat.le_of_ble_eq_true rfl)) dX6_circles_4 ⟨Nat.zero_le _, Nat.zero_le _⟩) hP hD hS hA [1, 2, 3] [0, 4, 5, 6] rfl rfl (by decide) (by decide) rfl (fun H locs hP hD hS => ?_)
  refine lv_if_ne (tgt := 13) hx hb dX6_circles_7 (by decide) (fun hc => ?_) (fun hc => ?_)
  · have hm := if_f _ hc hm
    refine lv_iload_n hx hb dX6_circles_13 rfl (lv_at hl 1 rfl) ?_
    refine lv_if_lt (tgt := 26) hx hb dX6_circles_14 (by decide) (fun hc => ?_) (fun hc => ?_)
    · have hm := if_t _ hc hm
      refine lv_bipush (v := (-2)) hx hb dX6_circles_26 (by decide) ?_
      have z1 := so_use hm
      obtain ⟨y1, z2⟩ := pr_use z1
      obtain ⟨y2, z3⟩ := pr_use z2
      obtain ⟨y3, z4⟩ := pr_use z3
      obtain ⟨y4, z5⟩ := pr_use z4
      obtain ⟨y5, z6⟩ := pr_use z5
      obtain ⟨y6, z7⟩ := pr_use z6
      subst y1
      subst y2
      subst y3
      subst y4
      subst y5
      subst y6
      subst z7
      exact hret _ _ _ _ _ dX6_circles_28 rfl rfl (hP.sub [0, 4, 5, 6, 1, 2, 3] rfl) (hD.sub [0, 4, 5, 6, 1, 2, 3] (by decide) rfl) hS
    · have hm := if_f _ hc hm
      refine lv_iload_n hx hb dX6_circles_17 rfl (lv_at hl 2 rfl) ?_
      refine lv_if_lt (tgt := 26) hx hb dX6_circles_18 (by decide) (fun hc => ?_) (fun hc => ?_)
      · have hm := if_t _ hc hm
        refine lv_bipush (v := (-2)) hx hb dX6_circles_26 (by decide) ?_
        have z1 := so_use hm
        obtain ⟨y1, z2⟩ := pr_use z1
        obtain ⟨y2, z3⟩ := pr_use z2
        obtain ⟨y3, z4⟩ := pr_use z3
        obtain ⟨y4, z5⟩ := pr_use z4
        obtain ⟨y5, z6⟩ := pr_use z5
        obtain ⟨y6, z7⟩ := pr_use z6
        subst y1
        subst y2
        subst y3
        subst y4
        subst y5
        subst y6
        subst z7
        exact hret _ _ _ _ _ dX6_circles_28 rfl rfl (hP.sub [0, 4, 5, 6, 1, 2, 3] rfl) (hD.sub [0, 4, 5, 6, 1, 2, 3] (by decide) rfl) hS
      · have hm := if_f _ hc hm
        refine lv_iload_n hx hb dX6_circles_21 rfl (lv_at hl 2 rfl) ?_
        refine lv_iconst (v := 2) hx hb dX6_circles_22 (by decide) ?_
        refine lv_icmp_le (tgt := 29) hx hb dX6_circles_23 (by decide) (fun hc => ?_) (fun hc => ?_)
        · have hm := if_t _ hc hm
          refine lv_aload_n hx hb dX6_circles_29 rfl (lv_at hl 0 rfl) ?_
          refine va_get (D := D) (ci := 5) (v := .ref q_covers) (C := RX6) (T := TX6) (N := 8) hx hb hts (by decide +kernel) hown hK hP 0 rfl rfl 7 (by decide) (hts (.fieldLink RX6 50 "KnotStripes" "covers" "LKnotStripes$Covers;") (by decide +kernel)) (fun _ h9 => h9) rfl dX6_circles_30 ?_
          refine lv_aload_n hx hb dX6_circles_33 rfl (lv_at hl 0 rfl) ?_
          refine va_get (D := D) (ci := 5) (v := .ref q_net) (C := RX6) (T := TX6) (N := 8) hx hb hts (by decide +kernel) hown hK hP 0 rfl rfl 0 (by decide) (hts (.fieldLink RX6 12 "KnotStripes" "net" "LKnotStripes$Net;") (by decide +kernel)) (fun _ h9 => h9) rfl dX6_circles_34 ?_
          obtain ⟨⟨f_covers_found_3, f_covers_size_4, f_covers_before_5⟩, h_6, hm⟩ := bind_use hm
          refine g_kv (wc := [(q_covers, .inr (0, [.ref q_covers_found, .int f_covers_size, .ref q_covers_before, .int f_covers_circles, .int f_covers_oddCircles, .int f_covers_longest])), (q_covers_found, .inl (cI, 80, .inl f_covers_found)), (q_covers_before, .inl (cI, 21, .inl f_covers_before)), (q_net, .inr (2, [.int f_net_knots, .int f_net_threads, .ref q_net_ends, .ref q_net_colours])), (q_net_ends, .inl (cI, 21, .inl f_net_ends)), (q_net_colours, .inl (cI, 21, .inl f_net_colours))]) (wr := [(q, .inr (5, [.ref q_net, .ref q_draft, .ref q_snapshot, .int f_hasSnapshot, .ref q_history, .ref q_text, .ref q_painter, .ref q_covers]))]) (w2 := [(q, .inr (5, [.ref q_net, .ref q_draft, .ref q_snapshot, .int f_hasSnapshot, .ref q_history, .ref q_text, .ref q_painter, .ref q_covers])), (q_covers, .inr (0, [.ref q_covers_found, .int f_covers_size_4, .ref q_covers_before, .int f_covers_circles, .int f_covers_oddCircles, .int f_covers_longest])), (q_covers_found, .inl (cI, 80, .inl f_covers_found_3)), (q_covers_before, .inl (cI, 21, .inl f_covers_before_5)), (q_net, .inr (2, [.int f_net_knots, .int f_net_threads, .ref q_net_ends, .ref q_net_colours])), (q_net_ends, .inl (cI, 21, .inl f_net_ends)), (q_net_colours, .inl (cI, 21, .inl f_net_colours))]) (va_runV (As := [.ref q_net]) (rest := []) ⟨hx, hb, hml, hown, hts⟩ (k_X0_list l D cI cC cN N q_covers q_covers_found q_covers_before q_net q_net_ends q_net_colours H.size f_covers_found f_covers_size f_covers_before f_covers_circles f_covers_oddCircles f_covers_longest f_net_knots f_net_threads f_net_ends f_net_colours f_covers_found_3 f_covers_size_4 f_covers_before_5 h_6) (cwV 1 hts gX6_circles_X0_list rfl rfl rfl (by decide +kernel) ⟨Nat.le_of_ble_eq_true rfl, Nat.le_of_ble_eq_true rfl⟩) ⟨g_blind, va_recv (D := D) (ci := 0) (q0 := 1) hK hP rfl rfl, g_pre (hP.sub [1, 2, 3, 4, 5, 6] rfl) hK hN (hD.sub [1, 2, 3, 4, 5, 6] (by decide) rfl)⟩ rfl rfl hl.1 rfl (lv_room (Nat.le_of_ble_eq_true rfl)) dX6_circles_37 ⟨Nat.zero_le _, Nat.zero_le _⟩) hP hD hS hA [1, 2, 3, 4, 5, 6] [0] rfl rfl (by decide) (by decide) rfl (fun H locs hP hD hS => ?_)
          refine lv_iload_n hx hb dX6_circles_40 rfl (lv_at hl 1 rfl) ?_
          refine lv_aload_n hx hb dX6_circles_41 rfl (lv_at hl 0 rfl) ?_
          refine va_get (D := D) (ci := 5) (v := .ref q_covers) (C := RX6) (T := TX6) (N := 8) hx hb hts (by decide +kernel) hown hK hP 0 rfl rfl 7 (by decide) (hts (.fieldLink RX6 50 "KnotStripes" "covers" "LKnotStripes$Covers;") (by decide +kernel)) (fun _ h9 => h9) rfl dX6_circles_42 ?_
          obtain ⟨r_7, h_8, hm⟩ := bind_use hm
          refine g_ki (wc := [(q_covers, .inr (0, [.ref q_covers_found, .int f_covers_size_4, .ref q_covers_before, .int f_covers_circles, .int f_covers_oddCircles, .int f_covers_longest])), (q_covers_found, .inl (cI, 80, .inl f_covers_found_3)), (q_covers_before, .inl (cI, 21, .inl f_covers_before_5))]) (wr := [(q, .inr (5, [.ref q_net, .ref q_draft, .ref q_snapshot, .int f_hasSnapshot, .ref q_history, .ref q_text, .ref q_painter, .ref q_covers])), (q_net, .inr (2, [.int f_net_knots, .int f_net_threads, .ref q_net_ends, .ref q_net_colours])), (q_net_ends, .inl (cI, 21, .inl f_net_ends)), (q_net_colours, .inl (cI, 21, .inl f_net_colours))]) (w2 := [(q, .inr (5, [.ref q_net, .ref q_draft, .ref q_snapshot, .int f_hasSnapshot, .ref q_history, .ref q_text, .ref q_painter, .ref q_covers])), (q_net, .inr (2, [.int f_net_knots, .int f_net_threads, .ref q_net_ends, .ref q_net_colours])), (q_net_ends, .inl (cI, 21, .inl f_net_ends)), (q_net_colours, .inl (cI, 21, .inl f_net_colours)), (q_covers, .inr (0, [.ref q_covers_found, .int f_covers_size_4, .ref q_covers_before, .int f_covers_circles, .int f_covers_oddCircles, .int f_covers_longest])), (q_covers_found, .inl (cI, 80, .inl f_covers_found_3)), (q_covers_before, .inl (cI, 21, .inl f_covers_before_5))]) (va_runV (As := []) (rest := [.int a1]) ⟨hx, hb, hml, hown, hts⟩ (k_X0_size l D cI cC cN N q_covers q_covers_found q_covers_before H.size f_covers_found_3 f_covers_size_4 f_covers_before_5 f_covers_circles f_covers_oddCircles f_covers_longest r_7 h_8) (cwV 0 hts gX6_circles_X0_size rfl rfl rfl (by decide +kernel) ⟨Nat.le_of_ble_eq_true rfl, Nat.le_of_ble_eq_true rfl⟩) ⟨g_blind, va_recv (D := D) (ci := 0) (q0 := 1) hK hP rfl rfl, g_pre (hP.sub [1, 2, 3] rfl) hK hN (hD.sub [1, 2, 3] (by decide) rfl)⟩ rfl rfl hl.1 rfl (lv_room (Nat.le_of_ble_eq_true rfl)) dX6_circles_45 ⟨Nat.zero_le _, Nat.zero_le _⟩) hP hD hS hA [1, 2, 3] [0, 4, 5, 6] rfl rfl (by decide) (by decide) rfl (fun H locs hP hD hS => ?_)
          refine lv_icmp_lt (tgt := 54) hx hb dX6_circles_48 (by decide) (fun hc => ?_) (fun hc => ?_)
          · have hm := if_t _ hc hm
            refine lv_aload_n hx hb dX6_circles_54 rfl (lv_at hl 0 rfl) ?_
            refine va_get (D := D) (ci := 5) (v := .ref q_covers) (C := RX6) (T := TX6) (N := 8) hx hb hts (by decide +kernel) hown hK hP 0 rfl rfl 7 (by decide) (hts (.fieldLink RX6 50 "KnotStripes" "covers" "LKnotStripes$Covers;") (by decide +kernel)) (fun _ h9 => h9) rfl dX6_circles_55 ?_
            refine lv_aload_n hx hb dX6_circles_58 rfl (lv_at hl 0 rfl) ?_
            refine va_get (D := D) (ci := 5) (v := .ref q_net) (C := RX6) (T := TX6) (N := 8) hx hb hts (by decide +kernel) hown hK hP 0 rfl rfl 0 (by decide) (hts (.fieldLink RX6 12 "KnotStripes" "net" "LKnotStripes$Net;") (by decide +kernel)) (fun _ h9 => h9) rfl dX6_circles_59 ?_
            refine lv_iload_n hx hb dX6_circles_62 rfl (lv_at hl 1 rfl) ?_
            obtain ⟨⟨f_covers_circles_9, f_covers_oddCircles_10, f_covers_longest_11⟩, h_12, hm⟩ := bind_use hm
            refine g_kv (wc := [(q_covers, .inr (0, [.ref q_covers_found, .int f_covers_size_4, .ref q_covers_before, .int f_covers_circles, .int f_covers_oddCircles, .int f_covers_longest])), (q_covers_found, .inl (cI, 80, .inl f_covers_found_3)), (q_covers_before, .inl (cI, 21, .inl f_covers_before_5)), (q_net, .inr (2, [.int f_net_knots, .int f_net_threads, .ref q_net_ends, .ref q_net_colours])), (q_net_ends, .inl (cI, 21, .inl f_net_ends)), (q_net_colours, .inl (cI, 21, .inl f_net_colours))]) (wr := [(q, .inr (5, [.ref q_net, .ref q_draft, .ref q_snapshot, .int f_hasSnapshot, .ref q_history, .ref q_text, .ref q_painter, .ref q_covers]))]) (w2 := [(q, .inr (5, [.ref q_net, .ref q_draft, .ref q_snapshot, .int f_hasSnapshot, .ref q_history, .ref q_text, .ref q_painter, .ref q_covers])), (q_covers, .inr (0, [.ref q_covers_found, .int f_covers_size_4, .ref q_covers_before, .int f_covers_circles_9, .int f_covers_oddCircles_10, .int f_covers_longest_11])), (q_covers_found, .inl (cI, 80, .inl f_covers_found_3)), (q_covers_before, .inl (cI, 21, .inl f_covers_before_5)), (q_net, .inr (2, [.int f_net_knots, .int f_net_threads, .ref q_net_ends, .ref q_net_colours])), (q_net_ends, .inl (cI, 21, .inl f_net_ends)), (q_net_colours, .inl (cI, 21, .inl f_net_colours))]) (va_runV (As := [.ref q_net, .int a1]) (rest := []) ⟨hx, hb, hml, hown, hts⟩ (k_X0_leave l D cI cC cN N q_covers q_covers_found q_covers_before q_net q_net_ends q_net_colours H.size f_covers_found_3 f_covers_size_4 f_covers_before_5 f_covers_circles f_covers_oddCircles f_covers_longest f_net_knots f_net_threads f_net_ends f_net_colours a1 f_covers_circles_9 f_covers_oddCircles_10 f_covers_longest_11 h_12) (cwV 2 hts gX6_circles_X0_leave rfl rfl rfl (by decide +kernel) ⟨Nat.le_of_ble_eq_true rfl, Nat.le_of_ble_eq_true rfl⟩) ⟨g_blind, va_recv (D := D) (ci := 0) (q0 := 4) hK hP rfl rfl, g_pre (hP.sub [4, 5, 6, 1, 2, 3] rfl) hK hN (hD.sub [4, 5, 6, 1, 2, 3] (by decide) rfl)⟩ rfl rfl hl.1 rfl (lv_room (Nat.le_of_ble_eq_true rfl)) dX6_circles_63 ⟨Nat.zero_le _, Nat.zero_le _⟩) hP hD hS hA [4, 5, 6, 1, 2, 3] [0] rfl rfl (by decide) (by decide) rfl (fun H locs hP hD hS => ?_)
            refine lv_iload_n hx hb dX6_circles_66 rfl (lv_at hl 2 rfl) ?_
            by_cases hk0 : a2 = 0
            · have hm := if_t _ hk0 hm
              refine lv_lookup (off := 25) (tgt := 92) hx hb dX6_circles_67 (by decide) (by rw [hk0]; rfl) (by decide) ?_
              refine lv_aload_n hx hb dX6_circles_92 rfl (lv_at hl 0 rfl) ?_
              refine va_get (D := D) (ci := 5) (v := .ref q_covers) (C := RX6) (T := TX6) (N := 8) hx hb hts (by decide +kernel) hown hK hP 0 rfl rfl 7 (by decide) (hts (.fieldLink RX6 50 "KnotStripes" "covers" "LKnotStripes$Covers;") (by decide +kernel)) (fun _ h9 => h9) rfl dX6_circles_93 ?_
              obtain ⟨r_15, h_16, hm⟩ := bind_use hm
              refine g_ki (wc := [(q_covers, .inr (0, [.ref q_covers_found, .int f_covers_size_4, .ref q_covers_before, .int f_covers_circles_9, .int f_covers_oddCircles_10, .int f_covers_longest_11])), (q_covers_found, .inl (cI, 80, .inl f_covers_found_3)), (q_covers_before, .inl (cI, 21, .inl f_covers_before_5))]) (wr := [(q, .inr (5, [.ref q_net, .ref q_draft, .ref q_snapshot, .int f_hasSnapshot, .ref q_history, .ref q_text, .ref q_painter, .ref q_covers])), (q_net, .inr (2, [.int f_net_knots, .int f_net_threads, .ref q_net_ends, .ref q_net_colours])), (q_net_ends, .inl (cI, 21, .inl f_net_ends)), (q_net_colours, .inl (cI, 21, .inl f_net_colours))]) (w2 := [(q, .inr (5, [.ref q_net, .ref q_draft, .ref q_snapshot, .int f_hasSnapshot, .ref q_history, .ref q_text, .ref q_painter, .ref q_covers])), (q_net, .inr (2, [.int f_net_knots, .int f_net_threads, .ref q_net_ends, .ref q_net_colours])), (q_net_ends, .inl (cI, 21, .inl f_net_ends)), (q_net_colours, .inl (cI, 21, .inl f_net_colours)), (q_covers, .inr (0, [.ref q_covers_found, .int f_covers_size_4, .ref q_covers_before, .int f_covers_circles_9, .int f_covers_oddCircles_10, .int f_covers_longest_11])), (q_covers_found, .inl (cI, 80, .inl f_covers_found_3)), (q_covers_before, .inl (cI, 21, .inl f_covers_before_5))]) (va_runV (As := []) (rest := []) ⟨hx, hb, hml, hown, hts⟩ (k_X0_circlesLeft l D cI cC cN N q_covers q_covers_found q_covers_before H.size f_covers_found_3 f_covers_size_4 f_covers_before_5 f_covers_circles_9 f_covers_oddCircles_10 f_covers_longest_11 r_15 h_16) (cwV 0 hts gX6_circles_X0_circlesLeft rfl rfl rfl (by decide +kernel) ⟨Nat.le_of_ble_eq_true rfl, Nat.le_of_ble_eq_true rfl⟩) ⟨g_blind, va_recv (D := D) (ci := 0) (q0 := 1) hK hP rfl rfl, g_pre (hP.sub [1, 2, 3] rfl) hK hN (hD.sub [1, 2, 3] (by decide) rfl)⟩ rfl rfl hl.1 rfl (lv_room (Nat.le_of_ble_eq_true rfl)) dX6_circles_96 ⟨Nat.zero_le _, Nat.zero_le _⟩) hP hD hS hA [1, 2, 3] [0, 4, 5, 6] rfl rfl (by decide) (by decide) rfl (fun H locs hP hD hS => ?_)
              have z1 := so_use hm
              obtain ⟨y1, z2⟩ := pr_use z1
              obtain ⟨y2, z3⟩ := pr_use z2
              obtain ⟨y3, z4⟩ := pr_use z3
              obtain ⟨y4, z5⟩ := pr_use z4
              obtain ⟨y5, z6⟩ := pr_use z5
              obtain ⟨y6, z7⟩ := pr_use z6
              subst y1
              subst y2
              subst y3
              subst y4
              subst y5
              subst y6
              subst z7
              exact hret _ _ _ _ _ dX6_circles_99 rfl rfl hP hD hS
            have hm := if_f _ hk0 hm
            by_cases hk1 : a2 = 1
            · have hm := if_t _ hk1 hm
              refine lv_lookup (off := 33) (tgt := 100) hx hb dX6_circles_67 (by decide) (by rw [hk1]; rfl) (by decide) ?_
              refine lv_aload_n hx hb dX6_circles_100 rfl (lv_at hl 0 rfl) ?_
              refine va_get (D := D) (ci := 5) (v := .ref q_covers) (C := RX6) (T := TX6) (N := 8) hx hb hts (by decide +kernel) hown hK hP 0 rfl rfl 7 (by decide) (hts (.fieldLink RX6 50 "KnotStripes" "covers" "LKnotStripes$Covers;") (by decide +kernel)) (fun _ h9 => h9) rfl dX6_circles_101 ?_
              obtain ⟨r_17, h_18, hm⟩ := bind_use hm
              refine g_ki (wc := [(q_covers, .inr (0, [.ref q_covers_found, .int f_covers_size_4, .ref q_covers_before, .int f_covers_circles_9, .int f_covers_oddCircles_10, .int f_covers_longest_11])), (q_covers_found, .inl (cI, 80, .inl f_covers_found_3)), (q_covers_before, .inl (cI, 21, .inl f_covers_before_5))]) (wr := [(q, .inr (5, [.ref q_net, .ref q_draft, .ref q_snapshot, .int f_hasSnapshot, .ref q_history, .ref q_text, .ref q_painter, .ref q_covers])), (q_net, .inr (2, [.int f_net_knots, .int f_net_threads, .ref q_net_ends, .ref q_net_colours])), (q_net_ends, .inl (cI, 21, .inl f_net_ends)), (q_net_colours, .inl (cI, 21, .inl f_net_colours))]) (w2 := [(q, .inr (5, [.ref q_net, .ref q_draft, .ref q_snapshot, .int f_hasSnapshot, .ref q_history, .ref q_text, .ref q_painter, .ref q_covers])), (q_net, .inr (2, [.int f_net_knots, .int f_net_threads, .ref q_net_ends, .ref q_net_colours])), (q_net_ends, .inl (cI, 21, .inl f_net_ends)), (q_net_colours, .inl (cI, 21, .inl f_net_colours)), (q_covers, .inr (0, [.ref q_covers_found, .int f_covers_size_4, .ref q_covers_before, .int f_covers_circles_9, .int f_covers_oddCircles_10, .int f_covers_longest_11])), (q_covers_found, .inl (cI, 80, .inl f_covers_found_3)), (q_covers_before, .inl (cI, 21, .inl f_covers_before_5))]) (va_runV (As := []) (rest := []) ⟨hx, hb, hml, hown, hts⟩ (k_X0_oddCirclesLeft l D cI cC cN N q_covers q_covers_found q_covers_before H.size f_covers_found_3 f_covers_size_4 f_covers_before_5 f_covers_circles_9 f_covers_oddCircles_10 f_covers_longest_11 r_17 h_18) (cwV 0 hts gX6_circles_X0_oddCirclesLeft rfl rfl rfl (by decide +kernel) ⟨Nat.le_of_ble_eq_true rfl, Nat.le_of_ble_eq_true rfl⟩) ⟨g_blind, va_recv (D := D) (ci := 0) (q0 := 1) hK hP rfl rfl, g_pre (hP.sub [1, 2, 3] rfl) hK hN (hD.sub [1, 2, 3] (by decide) rfl)⟩ rfl rfl hl.1 rfl (lv_room (Nat.le_of_ble_eq_true rfl)) dX6_circles_104 ⟨Nat.zero_le _, Nat.zero_le _⟩) hP hD hS hA [1, 2, 3] [0, 4, 5, 6] rfl rfl (by decide) (by decide) rfl (fun H locs hP hD hS => ?_)
              have z1 := so_use hm
              obtain ⟨y1, z2⟩ := pr_use z1
              obtain ⟨y2, z3⟩ := pr_use z2
              obtain ⟨y3, z4⟩ := pr_use z3
              obtain ⟨y4, z5⟩ := pr_use z4
              obtain ⟨y5, z6⟩ := pr_use z5
              obtain ⟨y6, z7⟩ := pr_use z6
              subst y1
              subst y2
              subst y3
              subst y4
              subst y5
              subst y6
              subst z7
              exact hret _ _ _ _ _ dX6_circles_107 rfl rfl hP hD hS
            have hm := if_f _ hk1 hm
            refine lv_lookup (off := 41) (tgt := 108) hx hb dX6_circles_67 (by decide) (g_look2 hk0 hk1 (by decide) (by decide)) (by decide) ?_
            refine lv_aload_n hx hb dX6_circles_108 rfl (lv_at hl 0 rfl) ?_
            refine va_get (D := D) (ci := 5) (v := .ref q_covers) (C := RX6) (T := TX6) (N := 8) hx hb hts (by decide +kernel) hown hK hP 0 rfl rfl 7 (by decide) (hts (.fieldLink RX6 50 "KnotStripes" "covers" "LKnotStripes$Covers;") (by decide +kernel)) (fun _ h9 => h9) rfl dX6_circles_109 ?_
            obtain ⟨r_13, h_14, hm⟩ := bind_use hm
            refine g_ki (wc := [(q_covers, .inr (0, [.ref q_covers_found, .int f_covers_size_4, .ref q_covers_before, .int f_covers_circles_9, .int f_covers_oddCircles_10, .int f_covers_longest_11])), (q_covers_found, .inl (cI, 80, .inl f_covers_found_3)), (q_covers_before, .inl (cI, 21, .inl f_covers_before_5))]) (wr := [(q, .inr (5, [.ref q_net, .ref q_draft, .ref q_snapshot, .int f_hasSnapshot, .ref q_history, .ref q_text, .ref q_painter, .ref q_covers])), (q_net, .inr (2, [.int f_net_knots, .int f_net_threads, .ref q_net_ends, .ref q_net_colours])), (q_net_ends, .inl (cI, 21, .inl f_net_ends)), (q_net_colours, .inl (cI, 21, .inl f_net_colours))]) (w2 := [(q, .inr (5, [.ref q_net, .ref q_draft, .ref q_snapshot, .int f_hasSnapshot, .ref q_history, .ref q_text, .ref q_painter, .ref q_covers])), (q_net, .inr (2, [.int f_net_knots, .int f_net_threads, .ref q_net_ends, .ref q_net_colours])), (q_net_ends, .inl (cI, 21, .inl f_net_ends)), (q_net_colours, .inl (cI, 21, .inl f_net_colours)), (q_covers, .inr (0, [.ref q_covers_found, .int f_covers_size_4, .ref q_covers_before, .int f_covers_circles_9, .int f_covers_oddCircles_10, .int f_covers_longest_11])), (q_covers_found, .inl (cI, 80, .inl f_covers_found_3)), (q_covers_before, .inl (cI, 21, .inl f_covers_before_5))]) (va_runV (As := []) (rest := []) ⟨hx, hb, hml, hown, hts⟩ (k_X0_longestLeft l D cI cC cN N q_covers q_covers_found q_covers_before H.size f_covers_found_3 f_covers_size_4 f_covers_before_5 f_covers_circles_9 f_covers_oddCircles_10 f_covers_longest_11 r_13 h_14) (cwV 0 hts gX6_circles_X0_longestLeft rfl rfl rfl (by decide +kernel) ⟨Nat.le_of_ble_eq_true rfl, Nat.le_of_ble_eq_true rfl⟩) ⟨g_blind, va_recv (D := D) (ci := 0) (q0 := 1) hK hP rfl rfl, g_pre (hP.sub [1, 2, 3] rfl) hK hN (hD.sub [1, 2, 3] (by decide) rfl)⟩ rfl rfl hl.1 rfl (lv_room (Nat.le_of_ble_eq_true rfl)) dX6_circles_112 ⟨Nat.zero_le _, Nat.zero_le _⟩) hP hD hS hA [1, 2, 3] [0, 4, 5, 6] rfl rfl (by decide) (by decide) rfl (fun H locs hP hD hS => ?_)
            have z1 := so_use hm
            obtain ⟨y1, z2⟩ := pr_use z1
            obtain ⟨y2, z3⟩ := pr_use z2
            obtain ⟨y3, z4⟩ := pr_use z3
            obtain ⟨y4, z5⟩ := pr_use z4
            obtain ⟨y5, z6⟩ := pr_use z5
            obtain ⟨y6, z7⟩ := pr_use z6
            subst y1
            subst y2
            subst y3
            subst y4
            subst y5
            subst y6
            subst z7
            exact hret _ _ _ _ _ dX6_circles_115 rfl rfl hP hD hS
          · have hm := if_f _ hc hm
            refine lv_bipush (v := (-5)) hx hb dX6_circles_51 (by decide) ?_
            have z1 := so_use hm
            obtain ⟨y1, z2⟩ := pr_use z1
            obtain ⟨y2, z3⟩ := pr_use z2
            obtain ⟨y3, z4⟩ := pr_use z3
            obtain ⟨y4, z5⟩ := pr_use z4
            obtain ⟨y5, z6⟩ := pr_use z5
            obtain ⟨y6, z7⟩ := pr_use z6
            subst y1
            subst y2
            subst y3
            subst y4
            subst y5
            subst y6
            subst z7
            exact hret _ _ _ _ _ dX6_circles_53 rfl rfl hP hD hS
        · have hm := if_f _ hc hm
          refine lv_bipush (v := (-2)) hx hb dX6_circles_26 (by decide) ?_
          have z1 := so_use hm
          obtain ⟨y1, z2⟩ := pr_use z1
          obtain ⟨y2, z3⟩ := pr_use z2
          obtain ⟨y3, z4⟩ := pr_use z3
          obtain ⟨y4, z5⟩ := pr_use z4
          obtain ⟨y5, z6⟩ := pr_use z5
          obtain ⟨y6, z7⟩ := pr_use z6
          subst y1
          subst y2
          subst y3
          subst y4
          subst y5
          subst y6
          subst z7
          exact hret _ _ _ _ _ dX6_circles_28 rfl rfl (hP.sub [0, 4, 5, 6, 1, 2, 3] rfl) (hD.sub [0, 4, 5, 6, 1, 2, 3] (by decide) rfl) hS
  · have hm := if_t _ hc hm
    refine lv_bipush (v := (-4)) hx hb dX6_circles_10 (by decide) ?_
    have z1 := so_use hm
    obtain ⟨y1, z2⟩ := pr_use z1
    obtain ⟨y2, z3⟩ := pr_use z2
    obtain ⟨y3, z4⟩ := pr_use z3
    obtain ⟨y4, z5⟩ := pr_use z4
    obtain ⟨y5, z6⟩ := pr_use z5
    obtain ⟨y6, z7⟩ := pr_use z6
    subst y1
    subst y2
    subst y3
    subst y4
    subst y5
    subst y6
    subst z7
    exact hret _ _ _ _ _ dX6_circles_12 rfl rfl (hP.sub [0, 4, 5, 6, 1, 2, 3] rfl) (hD.sub [0, 4, 5, 6, 1, 2, 3] (by decide) rfl) hS
abbrev rX6_fewestOdd : Room := { frames := 28, cells := 0, slots := 0, locals := 741 }
set_option maxHeartbeats 4000000 in
set_option maxRecDepth 100000 in
theorem k_X6_fewestOdd (l : Launch) (D : va_G) (cI cC cN : ClassId) (N : Nat) (q : Nat) (q_net : Nat) (q_draft : Nat) (q_snapshot : Nat) (q_history : Nat) (q_text : Nat) (q_painter : Nat) (q_covers : Nat) (q_net_ends : Nat) (q_net_colours : Nat) (q_covers_found : Nat) (q_covers_before : Nat) (sz : Nat) (f_hasSnapshot : Int32) (f_net_knots : Int32) (f_net_threads : Int32) (f_net_ends : Nat → Int32) (f_net_colours : Nat → Int32) (f_covers_found : Nat → Int32) (f_covers_size : Int32) (f_covers_before : Nat → Int32) (f_covers_circles : Int32) (f_covers_oddCircles : Int32) (f_covers_longest : Int32) (r : Int32) (f_covers_found' : Nat → Int32) (f_covers_size' : Int32) (f_covers_before' : Nat → Int32) (f_covers_circles' : Int32) (f_covers_oddCircles' : Int32) (f_covers_longest' : Int32) (hm : m_X6_fewestOdd N f_net_knots f_net_threads f_net_ends f_covers_found f_covers_size f_covers_before f_covers_circles f_covers_oddCircles f_covers_longest = some (r, f_covers_found', f_covers_size', f_covers_before', f_covers_circles', f_covers_oddCircles', f_covers_longest')) : Met l yX6_fewestOdd wsX6_fewestOdd (rX6_fewestOdd) (gPc D (tysG cI cC cN) [.ref q] [(q, .inr (5, [.ref q_net, .ref q_draft, .ref q_snapshot, .int f_hasSnapshot, .ref q_history, .ref q_text, .ref q_painter, .ref q_covers])), (q_net, .inr (2, [.int f_net_knots, .int f_net_threads, .ref q_net_ends, .ref q_net_colours])), (q_net_ends, .inl (cI, 21, .inl f_net_ends)), (q_net_colours, .inl (cI, 21, .inl f_net_colours)), (q_covers, .inr (0, [.ref q_covers_found, .int f_covers_size, .ref q_covers_before, .int f_covers_circles, .int f_covers_oddCircles, .int f_covers_longest])), (q_covers_found, .inl (cI, 80, .inl f_covers_found)), (q_covers_before, .inl (cI, 21, .inl f_covers_before))] sz) (gQi D (tysG cI cC cN) (va_A [(q, .inr (5, [.ref q_net, .ref q_draft, .ref q_snapshot, .int f_hasSnapshot, .ref q_history, .ref q_text, .ref q_painter, .ref q_covers])), (q_net, .inr (2, [.int f_net_knots, .int f_net_threads, .ref q_net_ends, .ref q_net_colours])), (q_net_ends, .inl (cI, 21, .inl f_net_ends)), (q_net_colours, .inl (cI, 21, .inl f_net_colours)), (q_covers, .inr (0, [.ref q_covers_found, .int f_covers_size, .ref q_covers_before, .int f_covers_circles, .int f_covers_oddCircles, .int f_covers_longest])), (q_covers_found, .inl (cI, 80, .inl f_covers_found)), (q_covers_before, .inl (cI, 21, .inl f_covers_before))] sz) [(q, .inr (5, [.ref q_net, .ref q_draft, .ref q_snapshot, .int f_hasSnapshot, .ref q_history, .ref q_text, .ref q_painter, .ref q_covers])), (q_net, .inr (2, [.int f_net_knots, .int f_net_threads, .ref q_net_ends, .ref q_net_colours])), (q_net_ends, .inl (cI, 21, .inl f_net_ends)), (q_net_colours, .inl (cI, 21, .inl f_net_colours)), (q_covers, .inr (0, [.ref q_covers_found, .int f_covers_size', .ref q_covers_before, .int f_covers_circles', .int f_covers_oddCircles', .int f_covers_longest'])), (q_covers_found, .inl (cI, 80, .inl f_covers_found')), (q_covers_before, .inl (cI, 21, .inl f_covers_before'))] r) 0 0 (va_A [(q, .inr (5, [.ref q_net, .ref q_draft, .ref q_snapshot, .int f_hasSnapshot, .ref q_history, .ref q_text, .ref q_painter, .ref q_covers])), (q_net, .inr (2, [.int f_net_knots, .int f_net_threads, .ref q_net_ends, .ref q_net_colours])), (q_net_ends, .inl (cI, 21, .inl f_net_ends)), (q_net_colours, .inl (cI, 21, .inl f_net_colours)), (q_covers, .inr (0, [.ref q_covers_found, .int f_covers_size, .ref q_covers_before, .int f_covers_circles, .int f_covers_oddCircles, .int f_covers_longest])), (q_covers_found, .inl (cI, 80, .inl f_covers_found)), (q_covers_before, .inl (cI, 21, .inl f_covers_before))] sz) := by
  unfold m_X6_fewestOdd at hm
  refine g_openI (cc := cX6_fewestOdd) (maxL := 3) (own := RX6) (by decide) rfl rfl (Nat.le_of_ble_eq_true rfl) ?_
  intro p e s m args below meth c A Q hx hb hml hown hts hP hK hN hD hA hret ls hl
  have hS : va_S A s.heap s.heap [] := va_S.rf
  have hl : lv_has ls 3 [(0, .ref q)] := hl
  refine lv_aload_n hx hb dX6_fewestOdd_0 rfl (lv_at hl 0 rfl) ?_
  refine va_get (D := D) (ci := 5) (v := .ref q_net) (C := RX6) (T := TX6) (N := 8) hx hb hts (by decide +kernel) hown hK hP 0 rfl rfl 0 (by decide) (hts (.fieldLink RX6 12 "KnotStripes" "net" "LKnotStripes$Net;") (by decide +kernel)) (fun _ h9 => h9) rfl dX6_fewestOdd_1 ?_
  obtain ⟨r_1, h_2, hm⟩ := bind_use hm
  refine g_ki (wc := [(q_net, .inr (2, [.int f_net_knots, .int f_net_threads, .ref q_net_ends, .ref q_net_colours])), (q_net_ends, .inl (cI, 21, .inl f_net_ends)), (q_net_colours, .inl (cI, 21, .inl f_net_colours))]) (wr := [(q, .inr (5, [.ref q_net, .ref q_draft, .ref q_snapshot, .int f_hasSnapshot, .ref q_history, .ref q_text, .ref q_painter, .ref q_covers])), (q_covers, .inr (0, [.ref q_covers_found, .int f_covers_size, .ref q_covers_before, .int f_covers_circles, .int f_covers_oddCircles, .int f_covers_longest])), (q_covers_found, .inl (cI, 80, .inl f_covers_found)), (q_covers_before, .inl (cI, 21, .inl f_covers_before))]) (w2 := [(q, .inr (5, [.ref q_net, .ref q_draft, .ref q_snapshot, .int f_hasSnapshot, .ref q_history, .ref q_text, .ref q_painter, .ref q_covers])), (q_covers, .inr (0, [.ref q_covers_found, .int f_covers_size, .ref q_covers_before, .int f_covers_circles, .int f_covers_oddCircles, .int f_covers_longest])), (q_covers_found, .inl (cI, 80, .inl f_covers_found)), (q_covers_before, .inl (cI, 21, .inl f_covers_before)), (q_net, .inr (2, [.int f_net_knots, .int f_net_threads, .ref q_net_ends, .ref q_net_colours])), (q_net_ends, .inl (cI, 21, .inl f_net_ends)), (q_net_colours, .inl (cI, 21, .inl f_net_colours))]) (va_runV (As := []) (rest := []) ⟨hx, hb, hml, hown, hts⟩ (k_X2_isFull l D cI cC cN N q_net q_net_ends q_net_colours s.heap.size f_net_knots f_net_threads f_net_ends f_net_colours r_1 h_2) (cwV 0 hts gX6_fewestOdd_X2_isFull rfl rfl rfl (by decide +kernel) ⟨Nat.le_of_ble_eq_true rfl, Nat.le_of_ble_eq_true rfl⟩) ⟨g_blind, va_recv (D := D) (ci := 2) (q0 := 1) hK hP rfl rfl, g_pre (hP.sub [1, 2, 3] rfl) hK hN (hD.sub [1, 2, 3] (by decide) rfl)⟩ rfl rfl hl.1 rfl (lv_room (Nat.le_of_ble_eq_true rfl)) dX6_fewestOdd_4 ⟨Nat.zero_le _, Nat.zero_le _⟩) hP hD hS hA [1, 2, 3] [0, 4, 5, 6] rfl rfl (by decide) (by decide) rfl (fun H locs hP hD hS => ?_)
  refine lv_if_ne (tgt := 13) hx hb dX6_fewestOdd_7 (by decide) (fun hc => ?_) (fun hc => ?_)
  · have hm := if_f _ hc hm
    refine lv_aload_n hx hb dX6_fewestOdd_13 rfl (lv_at hl 0 rfl) ?_
    refine va_get (D := D) (ci := 5) (v := .ref q_covers) (C := RX6) (T := TX6) (N := 8) hx hb hts (by decide +kernel) hown hK hP 0 rfl rfl 7 (by decide) (hts (.fieldLink RX6 50 "KnotStripes" "covers" "LKnotStripes$Covers;") (by decide +kernel)) (fun _ h9 => h9) rfl dX6_fewestOdd_14 ?_
    refine lv_aload_n hx hb dX6_fewestOdd_17 rfl (lv_at hl 0 rfl) ?_
    refine va_get (D := D) (ci := 5) (v := .ref q_net) (C := RX6) (T := TX6) (N := 8) hx hb hts (by decide +kernel) hown hK hP 0 rfl rfl 0 (by decide) (hts (.fieldLink RX6 12 "KnotStripes" "net" "LKnotStripes$Net;") (by decide +kernel)) (fun _ h9 => h9) rfl dX6_fewestOdd_18 ?_
    obtain ⟨⟨f_covers_found_3, f_covers_size_4, f_covers_before_5⟩, h_6, hm⟩ := bind_use hm
    refine g_kv (wc := [(q_covers, .inr (0, [.ref q_covers_found, .int f_covers_size, .ref q_covers_before, .int f_covers_circles, .int f_covers_oddCircles, .int f_covers_longest])), (q_covers_found, .inl (cI, 80, .inl f_covers_found)), (q_covers_before, .inl (cI, 21, .inl f_covers_before)), (q_net, .inr (2, [.int f_net_knots, .int f_net_threads, .ref q_net_ends, .ref q_net_colours])), (q_net_ends, .inl (cI, 21, .inl f_net_ends)), (q_net_colours, .inl (cI, 21, .inl f_net_colours))]) (wr := [(q, .inr (5, [.ref q_net, .ref q_draft, .ref q_snapshot, .int f_hasSnapshot, .ref q_history, .ref q_text, .ref q_painter, .ref q_covers]))]) (w2 := [(q, .inr (5, [.ref q_net, .ref q_draft, .ref q_snapshot, .int f_hasSnapshot, .ref q_history, .ref q_text, .ref q_painter, .ref q_covers])), (q_covers, .inr (0, [.ref q_covers_found, .int f_covers_size_4, .ref q_covers_before, .int f_covers_circles, .int f_covers_oddCircles, .int f_covers_longest])), (q_covers_found, .inl (cI, 80, .inl f_covers_found_3)), (q_covers_before, .inl (cI, 21, .inl f_covers_before_5)), (q_net, .inr (2, [.int f_net_knots, .int f_net_threads, .ref q_net_ends, .ref q_net_colours])), (q_net_ends, .inl (cI, 21, .inl f_net_ends)), (q_net_colours, .inl (cI, 21, .inl f_net_colours))]) (va_runV (As := [.ref q_net]) (rest := []) ⟨hx, hb, hml, hown, hts⟩ (k_X0_list l D cI cC cN N q_covers q_covers_found q_covers_before q_net q_net_ends q_net_colours H.size f_covers_found f_covers_size f_covers_before f_covers_circles f_covers_oddCircles f_covers_longest f_net_knots f_net_threads f_net_ends f_net_colours f_covers_found_3 f_covers_size_4 f_covers_before_5 h_6) (cwV 1 hts gX6_fewestOdd_X0_list rfl rfl rfl (by decide +kernel) ⟨Nat.le_of_ble_eq_true rfl, Nat.le_of_ble_eq_true rfl⟩) ⟨g_blind, va_recv (D := D) (ci := 0) (q0 := 1) hK hP rfl rfl, g_pre (hP.sub [1, 2, 3, 4, 5, 6] rfl) hK hN (hD.sub [1, 2, 3, 4, 5, 6] (by decide) rfl)⟩ rfl rfl hl.1 rfl (lv_room (Nat.le_of_ble_eq_true rfl)) dX6_fewestOdd_21 ⟨Nat.zero_le _, Nat.zero_le _⟩) hP hD hS hA [1, 2, 3, 4, 5, 6] [0] rfl rfl (by decide) (by decide) rfl (fun H locs hP hD hS => ?_)
    refine lv_aload_n hx hb dX6_fewestOdd_24 rfl (lv_at hl 0 rfl) ?_
    refine va_get (D := D) (ci := 5) (v := .ref q_covers) (C := RX6) (T := TX6) (N := 8) hx hb hts (by decide +kernel) hown hK hP 0 rfl rfl 7 (by decide) (hts (.fieldLink RX6 50 "KnotStripes" "covers" "LKnotStripes$Covers;") (by decide +kernel)) (fun _ h9 => h9) rfl dX6_fewestOdd_25 ?_
    obtain ⟨r_7, h_8, hm⟩ := bind_use hm
    refine g_ki (wc := [(q_covers, .inr (0, [.ref q_covers_found, .int f_covers_size_4, .ref q_covers_before, .int f_covers_circles, .int f_covers_oddCircles, .int f_covers_longest])), (q_covers_found, .inl (cI, 80, .inl f_covers_found_3)), (q_covers_before, .inl (cI, 21, .inl f_covers_before_5))]) (wr := [(q, .inr (5, [.ref q_net, .ref q_draft, .ref q_snapshot, .int f_hasSnapshot, .ref q_history, .ref q_text, .ref q_painter, .ref q_covers])), (q_net, .inr (2, [.int f_net_knots, .int f_net_threads, .ref q_net_ends, .ref q_net_colours])), (q_net_ends, .inl (cI, 21, .inl f_net_ends)), (q_net_colours, .inl (cI, 21, .inl f_net_colours))]) (w2 := [(q, .inr (5, [.ref q_net, .ref q_draft, .ref q_snapshot, .int f_hasSnapshot, .ref q_history, .ref q_text, .ref q_painter, .ref q_covers])), (q_net, .inr (2, [.int f_net_knots, .int f_net_threads, .ref q_net_ends, .ref q_net_colours])), (q_net_ends, .inl (cI, 21, .inl f_net_ends)), (q_net_colours, .inl (cI, 21, .inl f_net_colours)), (q_covers, .inr (0, [.ref q_covers_found, .int f_covers_size_4, .ref q_covers_before, .int f_covers_circles, .int f_covers_oddCircles, .int f_covers_longest])), (q_covers_found, .inl (cI, 80, .inl f_covers_found_3)), (q_covers_before, .inl (cI, 21, .inl f_covers_before_5))]) (va_runV (As := []) (rest := []) ⟨hx, hb, hml, hown, hts⟩ (k_X0_size l D cI cC cN N q_covers q_covers_found q_covers_before H.size f_covers_found_3 f_covers_size_4 f_covers_before_5 f_covers_circles f_covers_oddCircles f_covers_longest r_7 h_8) (cwV 0 hts gX6_fewestOdd_X0_size rfl rfl rfl (by decide +kernel) ⟨Nat.le_of_ble_eq_true rfl, Nat.le_of_ble_eq_true rfl⟩) ⟨g_blind, va_recv (D := D) (ci := 0) (q0 := 1) hK hP rfl rfl, g_pre (hP.sub [1, 2, 3] rfl) hK hN (hD.sub [1, 2, 3] (by decide) rfl)⟩ rfl rfl hl.1 rfl (lv_room (Nat.le_of_ble_eq_true rfl)) dX6_fewestOdd_28 ⟨Nat.zero_le _, Nat.zero_le _⟩) hP hD hS hA [1, 2, 3] [0, 4, 5, 6] rfl rfl (by decide) (by decide) rfl (fun H locs hP hD hS => ?_)
    refine lv_if_ne (tgt := 37) hx hb dX6_fewestOdd_31 (by decide) (fun hc => ?_) (fun hc => ?_)
    · have hm := if_f _ hc hm
      refine lv_bipush (v := 14) hx hb dX6_fewestOdd_37 (by decide) ?_
      refine lv_istore_n (lv' := [(1, .int 14), (0, .ref q)]) hx hb dX6_fewestOdd_39 rfl hl (by decide) rfl (fun ls hl => ?_)
      refine lv_iconst (v := 0) hx hb dX6_fewestOdd_40 (by decide) ?_
      refine lv_istore_n (lv' := [(2, .int 0), (1, .int 14), (0, .ref q)]) hx hb dX6_fewestOdd_41 rfl hl (by decide) rfl (fun ls hl => ?_)
      have l42 : ∀ (n_42 : Nat) (x2_9 : Int32) (x1_10 : Int32) (f_covers_circles_11 : Int32) (f_covers_oddCircles_12 : Int32) (f_covers_longest_13 : Int32), ∀ (H : Heap) (locs : List Loc) (ls : Array Slot), va_P D vwCl [(q, .inr (5, [.ref q_net, .ref q_draft, .ref q_snapshot, .int f_hasSnapshot, .ref q_history, .ref q_text, .ref q_painter, .ref q_covers])), (q_net, .inr (2, [.int f_net_knots, .int f_net_threads, .ref q_net_ends, .ref q_net_colours])), (q_net_ends, .inl (cI, 21, .inl f_net_ends)), (q_net_colours, .inl (cI, 21, .inl f_net_colours)), (q_covers, .inr (0, [.ref q_covers_found, .int f_covers_size_4, .ref q_covers_before, .int f_covers_circles_11, .int f_covers_oddCircles_12, .int f_covers_longest_13])), (q_covers_found, .inl (cI, 80, .inl f_covers_found_3)), (q_covers_before, .inl (cI, 21, .inl f_covers_before_5))] H → va_D A [(q, .inr (5, [.ref q_net, .ref q_draft, .ref q_snapshot, .int f_hasSnapshot, .ref q_history, .ref q_text, .ref q_painter, .ref q_covers])), (q_net, .inr (2, [.int f_net_knots, .int f_net_threads, .ref q_net_ends, .ref q_net_colours])), (q_net_ends, .inl (cI, 21, .inl f_net_ends)), (q_net_colours, .inl (cI, 21, .inl f_net_colours)), (q_covers, .inr (0, [.ref q_covers_found, .int f_covers_size_4, .ref q_covers_before, .int f_covers_circles_11, .int f_covers_oddCircles_12, .int f_covers_longest_13])), (q_covers_found, .inl (cI, 80, .inl f_covers_found_3)), (q_covers_before, .inl (cI, 21, .inl f_covers_before_5))] → va_S A s.heap H locs → lv_has ls 3 [(2, .int x2_9), (1, .int x1_10), (0, .ref q)] → m_X6_fewestOdd_L42 N f_net_knots f_net_threads f_net_ends f_covers_found_3 f_covers_size_4 f_covers_before_5 n_42 x2_9 x1_10 f_covers_circles_11 f_covers_oddCircles_12 f_covers_longest_13 = some (r, f_covers_found', f_covers_size', f_covers_before', f_covers_circles', f_covers_oddCircles', f_covers_longest') → W p l e rX6_fewestOdd s m args below meth c H locs 0 0 Q (F0 m 42 ls []) := by
        intro n_42
        induction n_42 with
        | zero => intro x2_9 x1_10 f_covers_circles_11 f_covers_oddCircles_12 f_covers_longest_13 H locs ls hP hD hS hl hm; rw [m_X6_fewestOdd_L42] at hm; exact no_use hm
        | succ n_42 ih42 =>
          intro x2_9 x1_10 f_covers_circles_11 f_covers_oddCircles_12 f_covers_longest_13 H locs ls hP hD hS hl hm
          rw [m_X6_fewestOdd_L42] at hm
          refine lv_iload_n hx hb dX6_fewestOdd_42 rfl (lv_at hl 0 rfl) ?_
          refine lv_aload_n hx hb dX6_fewestOdd_43 rfl (lv_at hl 2 rfl) ?_
          refine va_get (D := D) (ci := 5) (v := .ref q_covers) (C := RX6) (T := TX6) (N := 8) hx hb hts (by decide +kernel) hown hK hP 0 rfl rfl 7 (by decide) (hts (.fieldLink RX6 50 "KnotStripes" "covers" "LKnotStripes$Covers;") (by decide +kernel)) (fun _ h9 => h9) rfl dX6_fewestOdd_44 ?_
          obtain ⟨r_14, h_15, hm⟩ := bind_use hm
          refine g_ki (wc := [(q_covers, .inr (0, [.ref q_covers_found, .int f_covers_size_4, .ref q_covers_before, .int f_covers_circles_11, .int f_covers_oddCircles_12, .int f_covers_longest_13])), (q_covers_found, .inl (cI, 80, .inl f_covers_found_3)), (q_covers_before, .inl (cI, 21, .inl f_covers_before_5))]) (wr := [(q, .inr (5, [.ref q_net, .ref q_draft, .ref q_snapshot, .int f_hasSnapshot, .ref q_history, .ref q_text, .ref q_painter, .ref q_covers])), (q_net, .inr (2, [.int f_net_knots, .int f_net_threads, .ref q_net_ends, .ref q_net_colours])), (q_net_ends, .inl (cI, 21, .inl f_net_ends)), (q_net_colours, .inl (cI, 21, .inl f_net_colours))]) (w2 := [(q, .inr (5, [.ref q_net, .ref q_draft, .ref q_snapshot, .int f_hasSnapshot, .ref q_history, .ref q_text, .ref q_painter, .ref q_covers])), (q_net, .inr (2, [.int f_net_knots, .int f_net_threads, .ref q_net_ends, .ref q_net_colours])), (q_net_ends, .inl (cI, 21, .inl f_net_ends)), (q_net_colours, .inl (cI, 21, .inl f_net_colours)), (q_covers, .inr (0, [.ref q_covers_found, .int f_covers_size_4, .ref q_covers_before, .int f_covers_circles_11, .int f_covers_oddCircles_12, .int f_covers_longest_13])), (q_covers_found, .inl (cI, 80, .inl f_covers_found_3)), (q_covers_before, .inl (cI, 21, .inl f_covers_before_5))]) (va_runV (As := []) (rest := [.int x2_9]) ⟨hx, hb, hml, hown, hts⟩ (k_X0_size l D cI cC cN N q_covers q_covers_found q_covers_before H.size f_covers_found_3 f_covers_size_4 f_covers_before_5 f_covers_circles_11 f_covers_oddCircles_12 f_covers_longest_13 r_14 h_15) (cwV 0 hts gX6_fewestOdd_X0_size rfl rfl rfl (by decide +kernel) ⟨Nat.le_of_ble_eq_true rfl, Nat.le_of_ble_eq_true rfl⟩) ⟨g_blind, va_recv (D := D) (ci := 0) (q0 := 4) hK hP rfl rfl, g_pre (hP.sub [4, 5, 6] rfl) hK hN (hD.sub [4, 5, 6] (by decide) rfl)⟩ rfl rfl hl.1 rfl (lv_room (Nat.le_of_ble_eq_true rfl)) dX6_fewestOdd_47 ⟨Nat.zero_le _, Nat.zero_le _⟩) hP hD hS hA [4, 5, 6] [0, 1, 2, 3] rfl rfl (by decide) (by decide) rfl (fun H locs hP hD hS => ?_)
          refine lv_icmp_ge (tgt := 83) hx hb dX6_fewestOdd_50 (by decide) (fun hc => ?_) (fun hc => ?_)
          · have hm := if_t _ hc hm
            refine lv_iload_n hx hb dX6_fewestOdd_83 rfl (lv_at hl 1 rfl) ?_
            have z1 := so_use hm
            obtain ⟨y1, z2⟩ := pr_use z1
            obtain ⟨y2, z3⟩ := pr_use z2
            obtain ⟨y3, z4⟩ := pr_use z3
            obtain ⟨y4, z5⟩ := pr_use z4
            obtain ⟨y5, z6⟩ := pr_use z5
            obtain ⟨y6, z7⟩ := pr_use z6
            subst y1
            subst y2
            subst y3
            subst y4
            subst y5
            subst y6
            subst z7
            exact hret _ _ _ _ _ dX6_fewestOdd_84 rfl rfl hP hD hS
          · have hm := if_f _ hc hm
            refine lv_aload_n hx hb dX6_fewestOdd_53 rfl (lv_at hl 2 rfl) ?_
            refine va_get (D := D) (ci := 5) (v := .ref q_covers) (C := RX6) (T := TX6) (N := 8) hx hb hts (by decide +kernel) hown hK hP 0 rfl rfl 7 (by decide) (hts (.fieldLink RX6 50 "KnotStripes" "covers" "LKnotStripes$Covers;") (by decide +kernel)) (fun _ h9 => h9) rfl dX6_fewestOdd_54 ?_
            refine lv_aload_n hx hb dX6_fewestOdd_57 rfl (lv_at hl 2 rfl) ?_
            refine va_get (D := D) (ci := 5) (v := .ref q_net) (C := RX6) (T := TX6) (N := 8) hx hb hts (by decide +kernel) hown hK hP 0 rfl rfl 0 (by decide) (hts (.fieldLink RX6 12 "KnotStripes" "net" "LKnotStripes$Net;") (by decide +kernel)) (fun _ h9 => h9) rfl dX6_fewestOdd_58 ?_
            refine lv_iload_n hx hb dX6_fewestOdd_61 rfl (lv_at hl 0 rfl) ?_
            obtain ⟨⟨f_covers_circles_16, f_covers_oddCircles_17, f_covers_longest_18⟩, h_19, hm⟩ := bind_use hm
            refine g_kv (wc := [(q_covers, .inr (0, [.ref q_covers_found, .int f_covers_size_4, .ref q_covers_before, .int f_covers_circles_11, .int f_covers_oddCircles_12, .int f_covers_longest_13])), (q_covers_found, .inl (cI, 80, .inl f_covers_found_3)), (q_covers_before, .inl (cI, 21, .inl f_covers_before_5)), (q_net, .inr (2, [.int f_net_knots, .int f_net_threads, .ref q_net_ends, .ref q_net_colours])), (q_net_ends, .inl (cI, 21, .inl f_net_ends)), (q_net_colours, .inl (cI, 21, .inl f_net_colours))]) (wr := [(q, .inr (5, [.ref q_net, .ref q_draft, .ref q_snapshot, .int f_hasSnapshot, .ref q_history, .ref q_text, .ref q_painter, .ref q_covers]))]) (w2 := [(q, .inr (5, [.ref q_net, .ref q_draft, .ref q_snapshot, .int f_hasSnapshot, .ref q_history, .ref q_text, .ref q_painter, .ref q_covers])), (q_covers, .inr (0, [.ref q_covers_found, .int f_covers_size_4, .ref q_covers_before, .int f_covers_circles_16, .int f_covers_oddCircles_17, .int f_covers_longest_18])), (q_covers_found, .inl (cI, 80, .inl f_covers_found_3)), (q_covers_before, .inl (cI, 21, .inl f_covers_before_5)), (q_net, .inr (2, [.int f_net_knots, .int f_net_threads, .ref q_net_ends, .ref q_net_colours])), (q_net_ends, .inl (cI, 21, .inl f_net_ends)), (q_net_colours, .inl (cI, 21, .inl f_net_colours))]) (va_runV (As := [.ref q_net, .int x2_9]) (rest := []) ⟨hx, hb, hml, hown, hts⟩ (k_X0_leave l D cI cC cN N q_covers q_covers_found q_covers_before q_net q_net_ends q_net_colours H.size f_covers_found_3 f_covers_size_4 f_covers_before_5 f_covers_circles_11 f_covers_oddCircles_12 f_covers_longest_13 f_net_knots f_net_threads f_net_ends f_net_colours x2_9 f_covers_circles_16 f_covers_oddCircles_17 f_covers_longest_18 h_19) (cwV 2 hts gX6_fewestOdd_X0_leave rfl rfl rfl (by decide +kernel) ⟨Nat.le_of_ble_eq_true rfl, Nat.le_of_ble_eq_true rfl⟩) ⟨g_blind, va_recv (D := D) (ci := 0) (q0 := 4) hK hP rfl rfl, g_pre (hP.sub [4, 5, 6, 1, 2, 3] rfl) hK hN (hD.sub [4, 5, 6, 1, 2, 3] (by decide) rfl)⟩ rfl rfl hl.1 rfl (lv_room (Nat.le_of_ble_eq_true rfl)) dX6_fewestOdd_62 ⟨Nat.zero_le _, Nat.zero_le _⟩) hP hD hS hA [4, 5, 6, 1, 2, 3] [0] rfl rfl (by decide) (by decide) rfl (fun H locs hP hD hS => ?_)
            refine lv_iload_n hx hb dX6_fewestOdd_65 rfl (lv_at hl 1 rfl) ?_
            refine lv_aload_n hx hb dX6_fewestOdd_66 rfl (lv_at hl 2 rfl) ?_
            refine va_get (D := D) (ci := 5) (v := .ref q_covers) (C := RX6) (T := TX6) (N := 8) hx hb hts (by decide +kernel) hown hK hP 0 rfl rfl 7 (by decide) (hts (.fieldLink RX6 50 "KnotStripes" "covers" "LKnotStripes$Covers;") (by decide +kernel)) (fun _ h9 => h9) rfl dX6_fewestOdd_67 ?_
            obtain ⟨r_20, h_21, hm⟩ := bind_use hm
            refine g_ki (wc := [(q_covers, .inr (0, [.ref q_covers_found, .int f_covers_size_4, .ref q_covers_before, .int f_covers_circles_16, .int f_covers_oddCircles_17, .int f_covers_longest_18])), (q_covers_found, .inl (cI, 80, .inl f_covers_found_3)), (q_covers_before, .inl (cI, 21, .inl f_covers_before_5))]) (wr := [(q, .inr (5, [.ref q_net, .ref q_draft, .ref q_snapshot, .int f_hasSnapshot, .ref q_history, .ref q_text, .ref q_painter, .ref q_covers])), (q_net, .inr (2, [.int f_net_knots, .int f_net_threads, .ref q_net_ends, .ref q_net_colours])), (q_net_ends, .inl (cI, 21, .inl f_net_ends)), (q_net_colours, .inl (cI, 21, .inl f_net_colours))]) (w2 := [(q, .inr (5, [.ref q_net, .ref q_draft, .ref q_snapshot, .int f_hasSnapshot, .ref q_history, .ref q_text, .ref q_painter, .ref q_covers])), (q_net, .inr (2, [.int f_net_knots, .int f_net_threads, .ref q_net_ends, .ref q_net_colours])), (q_net_ends, .inl (cI, 21, .inl f_net_ends)), (q_net_colours, .inl (cI, 21, .inl f_net_colours)), (q_covers, .inr (0, [.ref q_covers_found, .int f_covers_size_4, .ref q_covers_before, .int f_covers_circles_16, .int f_covers_oddCircles_17, .int f_covers_longest_18])), (q_covers_found, .inl (cI, 80, .inl f_covers_found_3)), (q_covers_before, .inl (cI, 21, .inl f_covers_before_5))]) (va_runV (As := []) (rest := [.int x1_10]) ⟨hx, hb, hml, hown, hts⟩ (k_X0_oddCirclesLeft l D cI cC cN N q_covers q_covers_found q_covers_before H.size f_covers_found_3 f_covers_size_4 f_covers_before_5 f_covers_circles_16 f_covers_oddCircles_17 f_covers_longest_18 r_20 h_21) (cwV 0 hts gX6_fewestOdd_X0_oddCirclesLeft rfl rfl rfl (by decide +kernel) ⟨Nat.le_of_ble_eq_true rfl, Nat.le_of_ble_eq_true rfl⟩) ⟨g_blind, va_recv (D := D) (ci := 0) (q0 := 1) hK hP rfl rfl, g_pre (hP.sub [1, 2, 3] rfl) hK hN (hD.sub [1, 2, 3] (by decide) rfl)⟩ rfl rfl hl.1 rfl (lv_room (Nat.le_of_ble_eq_true rfl)) dX6_fewestOdd_70 ⟨Nat.zero_le _, Nat.zero_le _⟩) hP hD hS hA [1, 2, 3] [0, 4, 5, 6] rfl rfl (by decide) (by decide) rfl (fun H locs hP hD hS => ?_)
            refine gv_mmin hx hb (by rw [hml]; exact hl.1.symm) (own := RX6) (index := 254) hown (hts (.methodLink RX6 254 Lib.Math.min.name) (by decide +kernel)) (hts (.static Lib.Math.min.name) (by decide +kernel)) (hts (.initialized "java/lang/Math") (by decide +kernel)) (hts (.code Lib.Math.min.name Lib.Math.min.code 2 (some .int)) (by decide +kernel)) (Nat.le_of_ble_eq_true rfl) (Nat.le_of_ble_eq_true rfl) (Nat.zero_le _) (Nat.zero_le _) dX6_fewestOdd_73 ?_
            refine lv_topi (fun v1_22 ev1_22 => ?_)
            have hm := nm_use ev1_22 hm
            refine lv_istore_n (lv' := [(1, .int v1_22), (2, .int x2_9), (0, .ref q)]) hx hb dX6_fewestOdd_76 rfl hl (by decide) rfl (fun ls hl => ?_)
            refine lv_iinc (v := (x2_9 + 1)) (lv' := [(2, .int (x2_9 + 1)), (1, .int v1_22), (0, .ref q)]) hx hb dX6_fewestOdd_77 hl (k := 1) rfl rfl (by decide) rfl (fun ls hl => ?_)
            refine lv_goto (tgt := 42) hx hb dX6_fewestOdd_80 (by decide) ?_
            exact ih42 (x2_9 + 1) v1_22 f_covers_circles_16 f_covers_oddCircles_17 f_covers_longest_18 _ _ _ hP hD hS hl hm
      exact l42 N 0 14 f_covers_circles f_covers_oddCircles f_covers_longest _ _ _ hP hD hS hl hm
    · have hm := if_t _ hc hm
      refine lv_bipush (v := (-5)) hx hb dX6_fewestOdd_34 (by decide) ?_
      have z1 := so_use hm
      obtain ⟨y1, z2⟩ := pr_use z1
      obtain ⟨y2, z3⟩ := pr_use z2
      obtain ⟨y3, z4⟩ := pr_use z3
      obtain ⟨y4, z5⟩ := pr_use z4
      obtain ⟨y5, z6⟩ := pr_use z5
      obtain ⟨y6, z7⟩ := pr_use z6
      subst y1
      subst y2
      subst y3
      subst y4
      subst y5
      subst y6
      subst z7
      exact hret _ _ _ _ _ dX6_fewestOdd_36 rfl rfl hP hD hS
  · have hm := if_t _ hc hm
    refine lv_bipush (v := (-4)) hx hb dX6_fewestOdd_10 (by decide) ?_
    have z1 := so_use hm
    obtain ⟨y1, z2⟩ := pr_use z1
    obtain ⟨y2, z3⟩ := pr_use z2
    obtain ⟨y3, z4⟩ := pr_use z3
    obtain ⟨y4, z5⟩ := pr_use z4
    obtain ⟨y5, z6⟩ := pr_use z5
    obtain ⟨y6, z7⟩ := pr_use z6
    subst y1
    subst y2
    subst y3
    subst y4
    subst y5
    subst y6
    subst z7
    exact hret _ _ _ _ _ dX6_fewestOdd_12 rfl rfl (hP.sub [0, 4, 5, 6, 1, 2, 3] rfl) (hD.sub [0, 4, 5, 6, 1, 2, 3] (by decide) rfl) hS
abbrev rX6_count : Room := { frames := 28, cells := 0, slots := 0, locals := 741 }
set_option maxHeartbeats 4000000 in
set_option maxRecDepth 100000 in
theorem k_X6_count (l : Launch) (D : va_G) (cI cC cN : ClassId) (N : Nat) (q : Nat) (q_net : Nat) (q_draft : Nat) (q_snapshot : Nat) (q_history : Nat) (q_text : Nat) (q_painter : Nat) (q_covers : Nat) (q_net_ends : Nat) (q_net_colours : Nat) (q_history_states : Nat) (q_history_h0 : Nat) (q_history_h1 : Nat) (q_history_h2 : Nat) (q_history_h3 : Nat) (q_text_signs : Nat) (q_text_pairs : Nat) (q_covers_found : Nat) (q_covers_before : Nat) (sz : Nat) (f_hasSnapshot : Int32) (f_net_knots : Int32) (f_net_threads : Int32) (f_net_ends : Nat → Int32) (f_net_colours : Nat → Int32) (f_history_size : Int32) (f_text_signs : Nat → Int32) (f_text_length : Int32) (f_text_pairs : Nat → Int32) (f_text_size : Int32) (f_covers_found : Nat → Int32) (f_covers_size : Int32) (f_covers_before : Nat → Int32) (f_covers_circles : Int32) (f_covers_oddCircles : Int32) (f_covers_longest : Int32) (a1 : Int32) (r : Int32) (f_covers_found' : Nat → Int32) (f_covers_size' : Int32) (f_covers_before' : Nat → Int32) (hm : m_X6_count N f_net_knots f_net_threads f_net_ends f_net_colours f_history_size f_text_length f_covers_found f_covers_size f_covers_before a1 = some (r, f_covers_found', f_covers_size', f_covers_before')) : Met l yX6_count wsX6_count (rX6_count) (gPc D (tysG cI cC cN) [.ref q, .int a1] [(q, .inr (5, [.ref q_net, .ref q_draft, .ref q_snapshot, .int f_hasSnapshot, .ref q_history, .ref q_text, .ref q_painter, .ref q_covers])), (q_net, .inr (2, [.int f_net_knots, .int f_net_threads, .ref q_net_ends, .ref q_net_colours])), (q_net_ends, .inl (cI, 21, .inl f_net_ends)), (q_net_colours, .inl (cI, 21, .inl f_net_colours)), (q_history, .inr (1, [.ref q_history_states, .int f_history_size])), (q_history_states, .inl (cN, 4, .inr (.inr (.inr (.inr (hisG q_history_h0 q_history_h1 q_history_h2 q_history_h3)))))), (q_text, .inr (4, [.ref q_text_signs, .int f_text_length, .ref q_text_pairs, .int f_text_size])), (q_text_signs, .inl (cC, 60, .inl f_text_signs)), (q_text_pairs, .inl (cI, 21, .inl f_text_pairs)), (q_covers, .inr (0, [.ref q_covers_found, .int f_covers_size, .ref q_covers_before, .int f_covers_circles, .int f_covers_oddCircles, .int f_covers_longest])), (q_covers_found, .inl (cI, 80, .inl f_covers_found)), (q_covers_before, .inl (cI, 21, .inl f_covers_before))] sz) (gQi D (tysG cI cC cN) (va_A [(q, .inr (5, [.ref q_net, .ref q_draft, .ref q_snapshot, .int f_hasSnapshot, .ref q_history, .ref q_text, .ref q_painter, .ref q_covers])), (q_net, .inr (2, [.int f_net_knots, .int f_net_threads, .ref q_net_ends, .ref q_net_colours])), (q_net_ends, .inl (cI, 21, .inl f_net_ends)), (q_net_colours, .inl (cI, 21, .inl f_net_colours)), (q_history, .inr (1, [.ref q_history_states, .int f_history_size])), (q_history_states, .inl (cN, 4, .inr (.inr (.inr (.inr (hisG q_history_h0 q_history_h1 q_history_h2 q_history_h3)))))), (q_text, .inr (4, [.ref q_text_signs, .int f_text_length, .ref q_text_pairs, .int f_text_size])), (q_text_signs, .inl (cC, 60, .inl f_text_signs)), (q_text_pairs, .inl (cI, 21, .inl f_text_pairs)), (q_covers, .inr (0, [.ref q_covers_found, .int f_covers_size, .ref q_covers_before, .int f_covers_circles, .int f_covers_oddCircles, .int f_covers_longest])), (q_covers_found, .inl (cI, 80, .inl f_covers_found)), (q_covers_before, .inl (cI, 21, .inl f_covers_before))] sz) [(q, .inr (5, [.ref q_net, .ref q_draft, .ref q_snapshot, .int f_hasSnapshot, .ref q_history, .ref q_text, .ref q_painter, .ref q_covers])), (q_net, .inr (2, [.int f_net_knots, .int f_net_threads, .ref q_net_ends, .ref q_net_colours])), (q_net_ends, .inl (cI, 21, .inl f_net_ends)), (q_net_colours, .inl (cI, 21, .inl f_net_colours)), (q_history, .inr (1, [.ref q_history_states, .int f_history_size])), (q_history_states, .inl (cN, 4, .inr (.inr (.inr (.inr (hisG q_history_h0 q_history_h1 q_history_h2 q_history_h3)))))), (q_text, .inr (4, [.ref q_text_signs, .int f_text_length, .ref q_text_pairs, .int f_text_size])), (q_text_signs, .inl (cC, 60, .inl f_text_signs)), (q_text_pairs, .inl (cI, 21, .inl f_text_pairs)), (q_covers, .inr (0, [.ref q_covers_found, .int f_covers_size', .ref q_covers_before, .int f_covers_circles, .int f_covers_oddCircles, .int f_covers_longest])), (q_covers_found, .inl (cI, 80, .inl f_covers_found')), (q_covers_before, .inl (cI, 21, .inl f_covers_before'))] r) 0 0 (va_A [(q, .inr (5, [.ref q_net, .ref q_draft, .ref q_snapshot, .int f_hasSnapshot, .ref q_history, .ref q_text, .ref q_painter, .ref q_covers])), (q_net, .inr (2, [.int f_net_knots, .int f_net_threads, .ref q_net_ends, .ref q_net_colours])), (q_net_ends, .inl (cI, 21, .inl f_net_ends)), (q_net_colours, .inl (cI, 21, .inl f_net_colours)), (q_history, .inr (1, [.ref q_history_states, .int f_history_size])), (q_history_states, .inl (cN, 4, .inr (.inr (.inr (.inr (hisG q_history_h0 q_history_h1 q_history_h2 q_history_h3)))))), (q_text, .inr (4, [.ref q_text_signs, .int f_text_length, .ref q_text_pairs, .int f_text_size])), (q_text_signs, .inl (cC, 60, .inl f_text_signs)), (q_text_pairs, .inl (cI, 21, .inl f_text_pairs)), (q_covers, .inr (0, [.ref q_covers_found, .int f_covers_size, .ref q_covers_before, .int f_covers_circles, .int f_covers_oddCircles, .int f_covers_longest])), (q_covers_found, .inl (cI, 80, .inl f_covers_found)), (q_covers_before, .inl (cI, 21, .inl f_covers_before))] sz) := by
  unfold m_X6_count at hm
  refine g_openI (cc := cX6_count) (maxL := 2) (own := RX6) (by decide) rfl rfl (Nat.le_of_ble_eq_true rfl) ?_
  intro p e s m args below meth c A Q hx hb hml hown hts hP hK hN hD hA hret ls hl
  have hS : va_S A s.heap s.heap [] := va_S.rf
  have hl : lv_has ls 2 [(0, .ref q), (1, .int a1)] := hl
  refine lv_iload_n hx hb dX6_count_0 rfl (lv_at hl 1 rfl) ?_
  by_cases hc : Int32.toInt a1 < 0 ∨ 10 < Int32.toInt a1
  · have hm := if_t _ hc hm
    refine lv_tableOut (tgt := 181) hx hb dX6_count_1 hc (by decide) ?_
    refine lv_bipush (v := (-2)) hx hb dX6_count_181 (by decide) ?_
    have z1 := so_use hm
    obtain ⟨y1, z2⟩ := pr_use z1
    obtain ⟨y2, z3⟩ := pr_use z2
    obtain ⟨y3, z4⟩ := pr_use z3
    subst y1
    subst y2
    subst y3
    subst z4
    exact hret _ _ _ _ _ dX6_count_183 rfl rfl hP hD hS
  have hm := if_f _ hc hm
  by_cases hc : a1 = 0
  · have hm := if_t _ hc hm
    refine lv_tableIn (off := 59) (tgt := 60) hx hb dX6_count_1 (by rw [hc]; decide) (by rw [hc]; decide) (by rw [hc]; rfl) (by decide) ?_
    refine lv_aload_n hx hb dX6_count_60 rfl (lv_at hl 0 rfl) ?_
    refine va_get (D := D) (ci := 5) (v := .ref q_net) (C := RX6) (T := TX6) (N := 8) hx hb hts (by decide +kernel) hown hK hP 0 rfl rfl 0 (by decide) (hts (.fieldLink RX6 12 "KnotStripes" "net" "LKnotStripes$Net;") (by decide +kernel)) (fun _ h9 => h9) rfl dX6_count_61 ?_
    obtain ⟨r_1, h_2, hm⟩ := bind_use hm
    refine g_ki (wc := [(q_net, .inr (2, [.int f_net_knots, .int f_net_threads, .ref q_net_ends, .ref q_net_colours])), (q_net_ends, .inl (cI, 21, .inl f_net_ends)), (q_net_colours, .inl (cI, 21, .inl f_net_colours))]) (wr := [(q, .inr (5, [.ref q_net, .ref q_draft, .ref q_snapshot, .int f_hasSnapshot, .ref q_history, .ref q_text, .ref q_painter, .ref q_covers])), (q_history, .inr (1, [.ref q_history_states, .int f_history_size])), (q_history_states, .inl (cN, 4, .inr (.inr (.inr (.inr (hisG q_history_h0 q_history_h1 q_history_h2 q_history_h3)))))), (q_text, .inr (4, [.ref q_text_signs, .int f_text_length, .ref q_text_pairs, .int f_text_size])), (q_text_signs, .inl (cC, 60, .inl f_text_signs)), (q_text_pairs, .inl (cI, 21, .inl f_text_pairs)), (q_covers, .inr (0, [.ref q_covers_found, .int f_covers_size, .ref q_covers_before, .int f_covers_circles, .int f_covers_oddCircles, .int f_covers_longest])), (q_covers_found, .inl (cI, 80, .inl f_covers_found)), (q_covers_before, .inl (cI, 21, .inl f_covers_before))]) (w2 := [(q, .inr (5, [.ref q_net, .ref q_draft, .ref q_snapshot, .int f_hasSnapshot, .ref q_history, .ref q_text, .ref q_painter, .ref q_covers])), (q_history, .inr (1, [.ref q_history_states, .int f_history_size])), (q_history_states, .inl (cN, 4, .inr (.inr (.inr (.inr (hisG q_history_h0 q_history_h1 q_history_h2 q_history_h3)))))), (q_text, .inr (4, [.ref q_text_signs, .int f_text_length, .ref q_text_pairs, .int f_text_size])), (q_text_signs, .inl (cC, 60, .inl f_text_signs)), (q_text_pairs, .inl (cI, 21, .inl f_text_pairs)), (q_covers, .inr (0, [.ref q_covers_found, .int f_covers_size, .ref q_covers_before, .int f_covers_circles, .int f_covers_oddCircles, .int f_covers_longest])), (q_covers_found, .inl (cI, 80, .inl f_covers_found)), (q_covers_before, .inl (cI, 21, .inl f_covers_before)), (q_net, .inr (2, [.int f_net_knots, .int f_net_threads, .ref q_net_ends, .ref q_net_colours])), (q_net_ends, .inl (cI, 21, .inl f_net_ends)), (q_net_colours, .inl (cI, 21, .inl f_net_colours))]) (va_runV (As := []) (rest := []) ⟨hx, hb, hml, hown, hts⟩ (k_X2_knots l D cI cC cN N q_net q_net_ends q_net_colours s.heap.size f_net_knots f_net_threads f_net_ends f_net_colours r_1 h_2) (cwV 0 hts gX6_count_X2_knots rfl rfl rfl (by decide +kernel) ⟨Nat.le_of_ble_eq_true rfl, Nat.le_of_ble_eq_true rfl⟩) ⟨g_blind, va_recv (D := D) (ci := 2) (q0 := 1) hK hP rfl rfl, g_pre (hP.sub [1, 2, 3] rfl) hK hN (hD.sub [1, 2, 3] (by decide) rfl)⟩ rfl rfl hl.1 rfl (lv_room (Nat.le_of_ble_eq_true rfl)) dX6_count_64 ⟨Nat.zero_le _, Nat.zero_le _⟩) hP hD hS hA [1, 2, 3] [0, 4, 5, 6, 7, 8, 9, 10, 11] rfl rfl (by decide) (by decide) rfl (fun H locs hP hD hS => ?_)
    have z1 := so_use hm
    obtain ⟨y1, z2⟩ := pr_use z1
    obtain ⟨y2, z3⟩ := pr_use z2
    obtain ⟨y3, z4⟩ := pr_use z3
    subst y1
    subst y2
    subst y3
    subst z4
    exact hret _ _ _ _ _ dX6_count_67 rfl rfl (hP.sub [0, 9, 10, 11, 1, 2, 3, 4, 5, 6, 7, 8] rfl) (hD.sub [0, 9, 10, 11, 1, 2, 3, 4, 5, 6, 7, 8] (by decide) rfl) hS
  have hm := if_f _ hc hm
  by_cases hc : a1 = 1
  · have hm := if_t _ hc hm
    refine lv_tableIn (off := 67) (tgt := 68) hx hb dX6_count_1 (by rw [hc]; decide) (by rw [hc]; decide) (by rw [hc]; rfl) (by decide) ?_
    refine lv_aload_n hx hb dX6_count_68 rfl (lv_at hl 0 rfl) ?_
    refine va_get (D := D) (ci := 5) (v := .ref q_net) (C := RX6) (T := TX6) (N := 8) hx hb hts (by decide +kernel) hown hK hP 0 rfl rfl 0 (by decide) (hts (.fieldLink RX6 12 "KnotStripes" "net" "LKnotStripes$Net;") (by decide +kernel)) (fun _ h9 => h9) rfl dX6_count_69 ?_
    obtain ⟨r_3, h_4, hm⟩ := bind_use hm
    refine g_ki (wc := [(q_net, .inr (2, [.int f_net_knots, .int f_net_threads, .ref q_net_ends, .ref q_net_colours])), (q_net_ends, .inl (cI, 21, .inl f_net_ends)), (q_net_colours, .inl (cI, 21, .inl f_net_colours))]) (wr := [(q, .inr (5, [.ref q_net, .ref q_draft, .ref q_snapshot, .int f_hasSnapshot, .ref q_history, .ref q_text, .ref q_painter, .ref q_covers])), (q_history, .inr (1, [.ref q_history_states, .int f_history_size])), (q_history_states, .inl (cN, 4, .inr (.inr (.inr (.inr (hisG q_history_h0 q_history_h1 q_history_h2 q_history_h3)))))), (q_text, .inr (4, [.ref q_text_signs, .int f_text_length, .ref q_text_pairs, .int f_text_size])), (q_text_signs, .inl (cC, 60, .inl f_text_signs)), (q_text_pairs, .inl (cI, 21, .inl f_text_pairs)), (q_covers, .inr (0, [.ref q_covers_found, .int f_covers_size, .ref q_covers_before, .int f_covers_circles, .int f_covers_oddCircles, .int f_covers_longest])), (q_covers_found, .inl (cI, 80, .inl f_covers_found)), (q_covers_before, .inl (cI, 21, .inl f_covers_before))]) (w2 := [(q, .inr (5, [.ref q_net, .ref q_draft, .ref q_snapshot, .int f_hasSnapshot, .ref q_history, .ref q_text, .ref q_painter, .ref q_covers])), (q_history, .inr (1, [.ref q_history_states, .int f_history_size])), (q_history_states, .inl (cN, 4, .inr (.inr (.inr (.inr (hisG q_history_h0 q_history_h1 q_history_h2 q_history_h3)))))), (q_text, .inr (4, [.ref q_text_signs, .int f_text_length, .ref q_text_pairs, .int f_text_size])), (q_text_signs, .inl (cC, 60, .inl f_text_signs)), (q_text_pairs, .inl (cI, 21, .inl f_text_pairs)), (q_covers, .inr (0, [.ref q_covers_found, .int f_covers_size, .ref q_covers_before, .int f_covers_circles, .int f_covers_oddCircles, .int f_covers_longest])), (q_covers_found, .inl (cI, 80, .inl f_covers_found)), (q_covers_before, .inl (cI, 21, .inl f_covers_before)), (q_net, .inr (2, [.int f_net_knots, .int f_net_threads, .ref q_net_ends, .ref q_net_colours])), (q_net_ends, .inl (cI, 21, .inl f_net_ends)), (q_net_colours, .inl (cI, 21, .inl f_net_colours))]) (va_runV (As := []) (rest := []) ⟨hx, hb, hml, hown, hts⟩ (k_X2_threads l D cI cC cN N q_net q_net_ends q_net_colours s.heap.size f_net_knots f_net_threads f_net_ends f_net_colours r_3 h_4) (cwV 0 hts gX6_count_X2_threads rfl rfl rfl (by decide +kernel) ⟨Nat.le_of_ble_eq_true rfl, Nat.le_of_ble_eq_true rfl⟩) ⟨g_blind, va_recv (D := D) (ci := 2) (q0 := 1) hK hP rfl rfl, g_pre (hP.sub [1, 2, 3] rfl) hK hN (hD.sub [1, 2, 3] (by decide) rfl)⟩ rfl rfl hl.1 rfl (lv_room (Nat.le_of_ble_eq_true rfl)) dX6_count_72 ⟨Nat.zero_le _, Nat.zero_le _⟩) hP hD hS hA [1, 2, 3] [0, 4, 5, 6, 7, 8, 9, 10, 11] rfl rfl (by decide) (by decide) rfl (fun H locs hP hD hS => ?_)
    have z1 := so_use hm
    obtain ⟨y1, z2⟩ := pr_use z1
    obtain ⟨y2, z3⟩ := pr_use z2
    obtain ⟨y3, z4⟩ := pr_use z3
    subst y1
    subst y2
    subst y3
    subst z4
    exact hret _ _ _ _ _ dX6_count_75 rfl rfl (hP.sub [0, 9, 10, 11, 1, 2, 3, 4, 5, 6, 7, 8] rfl) (hD.sub [0, 9, 10, 11, 1, 2, 3, 4, 5, 6, 7, 8] (by decide) rfl) hS
  have hm := if_f _ hc hm
  by_cases hc : a1 = 2
  · have hm := if_t _ hc hm
    refine lv_tableIn (off := 75) (tgt := 76) hx hb dX6_count_1 (by rw [hc]; decide) (by rw [hc]; decide) (by rw [hc]; rfl) (by decide) ?_
    refine lv_aload_n hx hb dX6_count_76 rfl (lv_at hl 0 rfl) ?_
    refine va_get (D := D) (ci := 5) (v := .ref q_net) (C := RX6) (T := TX6) (N := 8) hx hb hts (by decide +kernel) hown hK hP 0 rfl rfl 0 (by decide) (hts (.fieldLink RX6 12 "KnotStripes" "net" "LKnotStripes$Net;") (by decide +kernel)) (fun _ h9 => h9) rfl dX6_count_77 ?_
    obtain ⟨r_5, h_6, hm⟩ := bind_use hm
    refine g_ki (wc := [(q_net, .inr (2, [.int f_net_knots, .int f_net_threads, .ref q_net_ends, .ref q_net_colours])), (q_net_ends, .inl (cI, 21, .inl f_net_ends)), (q_net_colours, .inl (cI, 21, .inl f_net_colours))]) (wr := [(q, .inr (5, [.ref q_net, .ref q_draft, .ref q_snapshot, .int f_hasSnapshot, .ref q_history, .ref q_text, .ref q_painter, .ref q_covers])), (q_history, .inr (1, [.ref q_history_states, .int f_history_size])), (q_history_states, .inl (cN, 4, .inr (.inr (.inr (.inr (hisG q_history_h0 q_history_h1 q_history_h2 q_history_h3)))))), (q_text, .inr (4, [.ref q_text_signs, .int f_text_length, .ref q_text_pairs, .int f_text_size])), (q_text_signs, .inl (cC, 60, .inl f_text_signs)), (q_text_pairs, .inl (cI, 21, .inl f_text_pairs)), (q_covers, .inr (0, [.ref q_covers_found, .int f_covers_size, .ref q_covers_before, .int f_covers_circles, .int f_covers_oddCircles, .int f_covers_longest])), (q_covers_found, .inl (cI, 80, .inl f_covers_found)), (q_covers_before, .inl (cI, 21, .inl f_covers_before))]) (w2 := [(q, .inr (5, [.ref q_net, .ref q_draft, .ref q_snapshot, .int f_hasSnapshot, .ref q_history, .ref q_text, .ref q_painter, .ref q_covers])), (q_history, .inr (1, [.ref q_history_states, .int f_history_size])), (q_history_states, .inl (cN, 4, .inr (.inr (.inr (.inr (hisG q_history_h0 q_history_h1 q_history_h2 q_history_h3)))))), (q_text, .inr (4, [.ref q_text_signs, .int f_text_length, .ref q_text_pairs, .int f_text_size])), (q_text_signs, .inl (cC, 60, .inl f_text_signs)), (q_text_pairs, .inl (cI, 21, .inl f_text_pairs)), (q_covers, .inr (0, [.ref q_covers_found, .int f_covers_size, .ref q_covers_before, .int f_covers_circles, .int f_covers_oddCircles, .int f_covers_longest])), (q_covers_found, .inl (cI, 80, .inl f_covers_found)), (q_covers_before, .inl (cI, 21, .inl f_covers_before)), (q_net, .inr (2, [.int f_net_knots, .int f_net_threads, .ref q_net_ends, .ref q_net_colours])), (q_net_ends, .inl (cI, 21, .inl f_net_ends)), (q_net_colours, .inl (cI, 21, .inl f_net_colours))]) (va_runV (As := []) (rest := []) ⟨hx, hb, hml, hown, hts⟩ (k_X2_isFull l D cI cC cN N q_net q_net_ends q_net_colours s.heap.size f_net_knots f_net_threads f_net_ends f_net_colours r_5 h_6) (cwV 0 hts gX6_count_X2_isFull rfl rfl rfl (by decide +kernel) ⟨Nat.le_of_ble_eq_true rfl, Nat.le_of_ble_eq_true rfl⟩) ⟨g_blind, va_recv (D := D) (ci := 2) (q0 := 1) hK hP rfl rfl, g_pre (hP.sub [1, 2, 3] rfl) hK hN (hD.sub [1, 2, 3] (by decide) rfl)⟩ rfl rfl hl.1 rfl (lv_room (Nat.le_of_ble_eq_true rfl)) dX6_count_80 ⟨Nat.zero_le _, Nat.zero_le _⟩) hP hD hS hA [1, 2, 3] [0, 4, 5, 6, 7, 8, 9, 10, 11] rfl rfl (by decide) (by decide) rfl (fun H locs hP hD hS => ?_)
    refine lv_if_eq (tgt := 90) hx hb dX6_count_83 (by decide) (fun hc => ?_) (fun hc => ?_)
    · have hm := if_t _ hc hm
      refine lv_iconst (v := 0) hx hb dX6_count_90 (by decide) ?_
      have z1 := so_use hm
      obtain ⟨y1, z2⟩ := pr_use z1
      obtain ⟨y2, z3⟩ := pr_use z2
      obtain ⟨y3, z4⟩ := pr_use z3
      subst y1
      subst y2
      subst y3
      subst z4
      exact hret _ _ _ _ _ dX6_count_91 rfl rfl (hP.sub [0, 9, 10, 11, 1, 2, 3, 4, 5, 6, 7, 8] rfl) (hD.sub [0, 9, 10, 11, 1, 2, 3, 4, 5, 6, 7, 8] (by decide) rfl) hS
    · have hm := if_f _ hc hm
      refine lv_iconst (v := 1) hx hb dX6_count_86 (by decide) ?_
      refine lv_goto (tgt := 91) hx hb dX6_count_87 (by decide) ?_
      have z1 := so_use hm
      obtain ⟨y1, z2⟩ := pr_use z1
      obtain ⟨y2, z3⟩ := pr_use z2
      obtain ⟨y3, z4⟩ := pr_use z3
      subst y1
      subst y2
      subst y3
      subst z4
      exact hret _ _ _ _ _ dX6_count_91 rfl rfl (hP.sub [0, 9, 10, 11, 1, 2, 3, 4, 5, 6, 7, 8] rfl) (hD.sub [0, 9, 10, 11, 1, 2, 3, 4, 5, 6, 7, 8] (by decide) rfl) hS
  have hm := if_f _ hc hm
  by_cases hc : a1 = 3
  · have hm := if_t _ hc hm
    refine lv_tableIn (off := 91) (tgt := 92) hx hb dX6_count_1 (by rw [hc]; decide) (by rw [hc]; decide) (by rw [hc]; rfl) (by decide) ?_
    refine lv_aload_n hx hb dX6_count_92 rfl (lv_at hl 0 rfl) ?_
    refine va_get (D := D) (ci := 5) (v := .ref q_net) (C := RX6) (T := TX6) (N := 8) hx hb hts (by decide +kernel) hown hK hP 0 rfl rfl 0 (by decide) (hts (.fieldLink RX6 12 "KnotStripes" "net" "LKnotStripes$Net;") (by decide +kernel)) (fun _ h9 => h9) rfl dX6_count_93 ?_
    obtain ⟨r_7, h_8, hm⟩ := bind_use hm
    refine g_ki (wc := [(q_net, .inr (2, [.int f_net_knots, .int f_net_threads, .ref q_net_ends, .ref q_net_colours])), (q_net_ends, .inl (cI, 21, .inl f_net_ends)), (q_net_colours, .inl (cI, 21, .inl f_net_colours))]) (wr := [(q, .inr (5, [.ref q_net, .ref q_draft, .ref q_snapshot, .int f_hasSnapshot, .ref q_history, .ref q_text, .ref q_painter, .ref q_covers])), (q_history, .inr (1, [.ref q_history_states, .int f_history_size])), (q_history_states, .inl (cN, 4, .inr (.inr (.inr (.inr (hisG q_history_h0 q_history_h1 q_history_h2 q_history_h3)))))), (q_text, .inr (4, [.ref q_text_signs, .int f_text_length, .ref q_text_pairs, .int f_text_size])), (q_text_signs, .inl (cC, 60, .inl f_text_signs)), (q_text_pairs, .inl (cI, 21, .inl f_text_pairs)), (q_covers, .inr (0, [.ref q_covers_found, .int f_covers_size, .ref q_covers_before, .int f_covers_circles, .int f_covers_oddCircles, .int f_covers_longest])), (q_covers_found, .inl (cI, 80, .inl f_covers_found)), (q_covers_before, .inl (cI, 21, .inl f_covers_before))]) (w2 := [(q, .inr (5, [.ref q_net, .ref q_draft, .ref q_snapshot, .int f_hasSnapshot, .ref q_history, .ref q_text, .ref q_painter, .ref q_covers])), (q_history, .inr (1, [.ref q_history_states, .int f_history_size])), (q_history_states, .inl (cN, 4, .inr (.inr (.inr (.inr (hisG q_history_h0 q_history_h1 q_history_h2 q_history_h3)))))), (q_text, .inr (4, [.ref q_text_signs, .int f_text_length, .ref q_text_pairs, .int f_text_size])), (q_text_signs, .inl (cC, 60, .inl f_text_signs)), (q_text_pairs, .inl (cI, 21, .inl f_text_pairs)), (q_covers, .inr (0, [.ref q_covers_found, .int f_covers_size, .ref q_covers_before, .int f_covers_circles, .int f_covers_oddCircles, .int f_covers_longest])), (q_covers_found, .inl (cI, 80, .inl f_covers_found)), (q_covers_before, .inl (cI, 21, .inl f_covers_before)), (q_net, .inr (2, [.int f_net_knots, .int f_net_threads, .ref q_net_ends, .ref q_net_colours])), (q_net_ends, .inl (cI, 21, .inl f_net_ends)), (q_net_colours, .inl (cI, 21, .inl f_net_colours))]) (va_runS (As := [.ref q_net]) (rest := []) ⟨hx, hb, hml, hown, hts⟩ (k_X5_parts l D cI cC cN N q_net q_net_ends q_net_colours s.heap.size f_net_knots f_net_threads f_net_ends f_net_colours r_7 h_8) (va_cwS 1 hts gX6_count_X5_parts rfl rfl rfl (by decide +kernel) ⟨Nat.le_of_ble_eq_true rfl, Nat.le_of_ble_eq_true rfl⟩) ⟨g_blind, g_pre (hP.sub [1, 2, 3] rfl) hK hN (hD.sub [1, 2, 3] (by decide) rfl)⟩ rfl rfl hl.1 rfl (lv_room (Nat.le_of_ble_eq_true rfl)) dX6_count_96 ⟨Nat.zero_le _, Nat.zero_le _⟩) hP hD hS hA [1, 2, 3] [0, 4, 5, 6, 7, 8, 9, 10, 11] rfl rfl (by decide) (by decide) rfl (fun H locs hP hD hS => ?_)
    have z1 := so_use hm
    obtain ⟨y1, z2⟩ := pr_use z1
    obtain ⟨y2, z3⟩ := pr_use z2
    obtain ⟨y3, z4⟩ := pr_use z3
    subst y1
    subst y2
    subst y3
    subst z4
    exact hret _ _ _ _ _ dX6_count_99 rfl rfl (hP.sub [0, 9, 10, 11, 1, 2, 3, 4, 5, 6, 7, 8] rfl) (hD.sub [0, 9, 10, 11, 1, 2, 3, 4, 5, 6, 7, 8] (by decide) rfl) hS
  have hm := if_f _ hc hm
  by_cases hc : a1 = 4
  · have hm := if_t _ hc hm
    refine lv_tableIn (off := 99) (tgt := 100) hx hb dX6_count_1 (by rw [hc]; decide) (by rw [hc]; decide) (by rw [hc]; rfl) (by decide) ?_
    refine lv_aload_n hx hb dX6_count_100 rfl (lv_at hl 0 rfl) ?_
    refine va_get (D := D) (ci := 5) (v := .ref q_net) (C := RX6) (T := TX6) (N := 8) hx hb hts (by decide +kernel) hown hK hP 0 rfl rfl 0 (by decide) (hts (.fieldLink RX6 12 "KnotStripes" "net" "LKnotStripes$Net;") (by decide +kernel)) (fun _ h9 => h9) rfl dX6_count_101 ?_
    obtain ⟨r_9, h_10, hm⟩ := bind_use hm
    refine g_ki (wc := [(q_net, .inr (2, [.int f_net_knots, .int f_net_threads, .ref q_net_ends, .ref q_net_colours])), (q_net_ends, .inl (cI, 21, .inl f_net_ends)), (q_net_colours, .inl (cI, 21, .inl f_net_colours))]) (wr := [(q, .inr (5, [.ref q_net, .ref q_draft, .ref q_snapshot, .int f_hasSnapshot, .ref q_history, .ref q_text, .ref q_painter, .ref q_covers])), (q_history, .inr (1, [.ref q_history_states, .int f_history_size])), (q_history_states, .inl (cN, 4, .inr (.inr (.inr (.inr (hisG q_history_h0 q_history_h1 q_history_h2 q_history_h3)))))), (q_text, .inr (4, [.ref q_text_signs, .int f_text_length, .ref q_text_pairs, .int f_text_size])), (q_text_signs, .inl (cC, 60, .inl f_text_signs)), (q_text_pairs, .inl (cI, 21, .inl f_text_pairs)), (q_covers, .inr (0, [.ref q_covers_found, .int f_covers_size, .ref q_covers_before, .int f_covers_circles, .int f_covers_oddCircles, .int f_covers_longest])), (q_covers_found, .inl (cI, 80, .inl f_covers_found)), (q_covers_before, .inl (cI, 21, .inl f_covers_before))]) (w2 := [(q, .inr (5, [.ref q_net, .ref q_draft, .ref q_snapshot, .int f_hasSnapshot, .ref q_history, .ref q_text, .ref q_painter, .ref q_covers])), (q_history, .inr (1, [.ref q_history_states, .int f_history_size])), (q_history_states, .inl (cN, 4, .inr (.inr (.inr (.inr (hisG q_history_h0 q_history_h1 q_history_h2 q_history_h3)))))), (q_text, .inr (4, [.ref q_text_signs, .int f_text_length, .ref q_text_pairs, .int f_text_size])), (q_text_signs, .inl (cC, 60, .inl f_text_signs)), (q_text_pairs, .inl (cI, 21, .inl f_text_pairs)), (q_covers, .inr (0, [.ref q_covers_found, .int f_covers_size, .ref q_covers_before, .int f_covers_circles, .int f_covers_oddCircles, .int f_covers_longest])), (q_covers_found, .inl (cI, 80, .inl f_covers_found)), (q_covers_before, .inl (cI, 21, .inl f_covers_before)), (q_net, .inr (2, [.int f_net_knots, .int f_net_threads, .ref q_net_ends, .ref q_net_colours])), (q_net_ends, .inl (cI, 21, .inl f_net_ends)), (q_net_colours, .inl (cI, 21, .inl f_net_colours))]) (va_runS (As := [.ref q_net]) (rest := []) ⟨hx, hb, hml, hown, hts⟩ (k_X5_bridges l D cI cC cN N q_net q_net_ends q_net_colours s.heap.size f_net_knots f_net_threads f_net_ends f_net_colours r_9 h_10) (va_cwS 1 hts gX6_count_X5_bridges rfl rfl rfl (by decide +kernel) ⟨Nat.le_of_ble_eq_true rfl, Nat.le_of_ble_eq_true rfl⟩) ⟨g_blind, g_pre (hP.sub [1, 2, 3] rfl) hK hN (hD.sub [1, 2, 3] (by decide) rfl)⟩ rfl rfl hl.1 rfl (lv_room (Nat.le_of_ble_eq_true rfl)) dX6_count_104 ⟨Nat.zero_le _, Nat.zero_le _⟩) hP hD hS hA [1, 2, 3] [0, 4, 5, 6, 7, 8, 9, 10, 11] rfl rfl (by decide) (by decide) rfl (fun H locs hP hD hS => ?_)
    have z1 := so_use hm
    obtain ⟨y1, z2⟩ := pr_use z1
    obtain ⟨y2, z3⟩ := pr_use z2
    obtain ⟨y3, z4⟩ := pr_use z3
    subst y1
    subst y2
    subst y3
    subst z4
    exact hret _ _ _ _ _ dX6_count_107 rfl rfl (hP.sub [0, 9, 10, 11, 1, 2, 3, 4, 5, 6, 7, 8] rfl) (hD.sub [0, 9, 10, 11, 1, 2, 3, 4, 5, 6, 7, 8] (by decide) rfl) hS
  have hm := if_f _ hc hm
  by_cases hc : a1 = 5
  · have hm := if_t _ hc hm
    refine lv_tableIn (off := 107) (tgt := 108) hx hb dX6_count_1 (by rw [hc]; decide) (by rw [hc]; decide) (by rw [hc]; rfl) (by decide) ?_
    refine lv_aload_n hx hb dX6_count_108 rfl (lv_at hl 0 rfl) ?_
    refine va_get (D := D) (ci := 5) (v := .ref q_net) (C := RX6) (T := TX6) (N := 8) hx hb hts (by decide +kernel) hown hK hP 0 rfl rfl 0 (by decide) (hts (.fieldLink RX6 12 "KnotStripes" "net" "LKnotStripes$Net;") (by decide +kernel)) (fun _ h9 => h9) rfl dX6_count_109 ?_
    refine lv_aload_n hx hb dX6_count_112 rfl (lv_at hl 0 rfl) ?_
    refine va_get (D := D) (ci := 5) (v := .ref q_net) (C := RX6) (T := TX6) (N := 8) hx hb hts (by decide +kernel) hown hK hP 0 rfl rfl 0 (by decide) (hts (.fieldLink RX6 12 "KnotStripes" "net" "LKnotStripes$Net;") (by decide +kernel)) (fun _ h9 => h9) rfl dX6_count_113 ?_
    obtain ⟨r_11, h_12, hm⟩ := bind_use hm
    refine g_ki (wc := [(q_net, .inr (2, [.int f_net_knots, .int f_net_threads, .ref q_net_ends, .ref q_net_colours])), (q_net_ends, .inl (cI, 21, .inl f_net_ends)), (q_net_colours, .inl (cI, 21, .inl f_net_colours))]) (wr := [(q, .inr (5, [.ref q_net, .ref q_draft, .ref q_snapshot, .int f_hasSnapshot, .ref q_history, .ref q_text, .ref q_painter, .ref q_covers])), (q_history, .inr (1, [.ref q_history_states, .int f_history_size])), (q_history_states, .inl (cN, 4, .inr (.inr (.inr (.inr (hisG q_history_h0 q_history_h1 q_history_h2 q_history_h3)))))), (q_text, .inr (4, [.ref q_text_signs, .int f_text_length, .ref q_text_pairs, .int f_text_size])), (q_text_signs, .inl (cC, 60, .inl f_text_signs)), (q_text_pairs, .inl (cI, 21, .inl f_text_pairs)), (q_covers, .inr (0, [.ref q_covers_found, .int f_covers_size, .ref q_covers_before, .int f_covers_circles, .int f_covers_oddCircles, .int f_covers_longest])), (q_covers_found, .inl (cI, 80, .inl f_covers_found)), (q_covers_before, .inl (cI, 21, .inl f_covers_before))]) (w2 := [(q, .inr (5, [.ref q_net, .ref q_draft, .ref q_snapshot, .int f_hasSnapshot, .ref q_history, .ref q_text, .ref q_painter, .ref q_covers])), (q_history, .inr (1, [.ref q_history_states, .int f_history_size])), (q_history_states, .inl (cN, 4, .inr (.inr (.inr (.inr (hisG q_history_h0 q_history_h1 q_history_h2 q_history_h3)))))), (q_text, .inr (4, [.ref q_text_signs, .int f_text_length, .ref q_text_pairs, .int f_text_size])), (q_text_signs, .inl (cC, 60, .inl f_text_signs)), (q_text_pairs, .inl (cI, 21, .inl f_text_pairs)), (q_covers, .inr (0, [.ref q_covers_found, .int f_covers_size, .ref q_covers_before, .int f_covers_circles, .int f_covers_oddCircles, .int f_covers_longest])), (q_covers_found, .inl (cI, 80, .inl f_covers_found)), (q_covers_before, .inl (cI, 21, .inl f_covers_before)), (q_net, .inr (2, [.int f_net_knots, .int f_net_threads, .ref q_net_ends, .ref q_net_colours])), (q_net_ends, .inl (cI, 21, .inl f_net_ends)), (q_net_colours, .inl (cI, 21, .inl f_net_colours))]) (va_runV (As := []) (rest := [.ref q_net]) ⟨hx, hb, hml, hown, hts⟩ (k_X2_allThreads l D cI cC cN N q_net q_net_ends q_net_colours s.heap.size f_net_knots f_net_threads f_net_ends f_net_colours r_11 h_12) (cwV 0 hts gX6_count_X2_allThreads rfl rfl rfl (by decide +kernel) ⟨Nat.le_of_ble_eq_true rfl, Nat.le_of_ble_eq_true rfl⟩) ⟨g_blind, va_recv (D := D) (ci := 2) (q0 := 1) hK hP rfl rfl, g_pre (hP.sub [1, 2, 3] rfl) hK hN (hD.sub [1, 2, 3] (by decide) rfl)⟩ rfl rfl hl.1 rfl (lv_room (Nat.le_of_ble_eq_true rfl)) dX6_count_116 ⟨Nat.zero_le _, Nat.zero_le _⟩) hP hD hS hA [1, 2, 3] [0, 4, 5, 6, 7, 8, 9, 10, 11] rfl rfl (by decide) (by decide) rfl (fun H locs hP hD hS => ?_)
    obtain ⟨r_13, h_14, hm⟩ := bind_use hm
    refine g_ki (wc := [(q_net, .inr (2, [.int f_net_knots, .int f_net_threads, .ref q_net_ends, .ref q_net_colours])), (q_net_ends, .inl (cI, 21, .inl f_net_ends)), (q_net_colours, .inl (cI, 21, .inl f_net_colours))]) (wr := [(q, .inr (5, [.ref q_net, .ref q_draft, .ref q_snapshot, .int f_hasSnapshot, .ref q_history, .ref q_text, .ref q_painter, .ref q_covers])), (q_history, .inr (1, [.ref q_history_states, .int f_history_size])), (q_history_states, .inl (cN, 4, .inr (.inr (.inr (.inr (hisG q_history_h0 q_history_h1 q_history_h2 q_history_h3)))))), (q_text, .inr (4, [.ref q_text_signs, .int f_text_length, .ref q_text_pairs, .int f_text_size])), (q_text_signs, .inl (cC, 60, .inl f_text_signs)), (q_text_pairs, .inl (cI, 21, .inl f_text_pairs)), (q_covers, .inr (0, [.ref q_covers_found, .int f_covers_size, .ref q_covers_before, .int f_covers_circles, .int f_covers_oddCircles, .int f_covers_longest])), (q_covers_found, .inl (cI, 80, .inl f_covers_found)), (q_covers_before, .inl (cI, 21, .inl f_covers_before))]) (w2 := [(q, .inr (5, [.ref q_net, .ref q_draft, .ref q_snapshot, .int f_hasSnapshot, .ref q_history, .ref q_text, .ref q_painter, .ref q_covers])), (q_history, .inr (1, [.ref q_history_states, .int f_history_size])), (q_history_states, .inl (cN, 4, .inr (.inr (.inr (.inr (hisG q_history_h0 q_history_h1 q_history_h2 q_history_h3)))))), (q_text, .inr (4, [.ref q_text_signs, .int f_text_length, .ref q_text_pairs, .int f_text_size])), (q_text_signs, .inl (cC, 60, .inl f_text_signs)), (q_text_pairs, .inl (cI, 21, .inl f_text_pairs)), (q_covers, .inr (0, [.ref q_covers_found, .int f_covers_size, .ref q_covers_before, .int f_covers_circles, .int f_covers_oddCircles, .int f_covers_longest])), (q_covers_found, .inl (cI, 80, .inl f_covers_found)), (q_covers_before, .inl (cI, 21, .inl f_covers_before)), (q_net, .inr (2, [.int f_net_knots, .int f_net_threads, .ref q_net_ends, .ref q_net_colours])), (q_net_ends, .inl (cI, 21, .inl f_net_ends)), (q_net_colours, .inl (cI, 21, .inl f_net_colours))]) (va_runS (As := [.ref q_net, .int r_11]) (rest := []) ⟨hx, hb, hml, hown, hts⟩ (k_X5_shortestCircle l D cI cC cN N q_net q_net_ends q_net_colours H.size f_net_knots f_net_threads f_net_ends f_net_colours r_11 r_13 h_14) (va_cwS 2 hts gX6_count_X5_shortestCircle rfl rfl rfl (by decide +kernel) ⟨Nat.le_of_ble_eq_true rfl, Nat.le_of_ble_eq_true rfl⟩) ⟨g_blind, g_pre (hP.sub [9, 10, 11] rfl) hK hN (hD.sub [9, 10, 11] (by decide) rfl)⟩ rfl rfl hl.1 rfl (lv_room (Nat.le_of_ble_eq_true rfl)) dX6_count_119 ⟨Nat.zero_le _, Nat.zero_le _⟩) hP hD hS hA [9, 10, 11] [0, 1, 2, 3, 4, 5, 6, 7, 8] rfl rfl (by decide) (by decide) rfl (fun H locs hP hD hS => ?_)
    obtain ⟨r_15, h_16, hm⟩ := bind_use hm
    refine g_ki (wc := []) (wr := [(q, .inr (5, [.ref q_net, .ref q_draft, .ref q_snapshot, .int f_hasSnapshot, .ref q_history, .ref q_text, .ref q_painter, .ref q_covers])), (q_history, .inr (1, [.ref q_history_states, .int f_history_size])), (q_history_states, .inl (cN, 4, .inr (.inr (.inr (.inr (hisG q_history_h0 q_history_h1 q_history_h2 q_history_h3)))))), (q_text, .inr (4, [.ref q_text_signs, .int f_text_length, .ref q_text_pairs, .int f_text_size])), (q_text_signs, .inl (cC, 60, .inl f_text_signs)), (q_text_pairs, .inl (cI, 21, .inl f_text_pairs)), (q_covers, .inr (0, [.ref q_covers_found, .int f_covers_size, .ref q_covers_before, .int f_covers_circles, .int f_covers_oddCircles, .int f_covers_longest])), (q_covers_found, .inl (cI, 80, .inl f_covers_found)), (q_covers_before, .inl (cI, 21, .inl f_covers_before)), (q_net, .inr (2, [.int f_net_knots, .int f_net_threads, .ref q_net_ends, .ref q_net_colours])), (q_net_ends, .inl (cI, 21, .inl f_net_ends)), (q_net_colours, .inl (cI, 21, .inl f_net_colours))]) (w2 := [(q, .inr (5, [.ref q_net, .ref q_draft, .ref q_snapshot, .int f_hasSnapshot, .ref q_history, .ref q_text, .ref q_painter, .ref q_covers])), (q_history, .inr (1, [.ref q_history_states, .int f_history_size])), (q_history_states, .inl (cN, 4, .inr (.inr (.inr (.inr (hisG q_history_h0 q_history_h1 q_history_h2 q_history_h3)))))), (q_text, .inr (4, [.ref q_text_signs, .int f_text_length, .ref q_text_pairs, .int f_text_size])), (q_text_signs, .inl (cC, 60, .inl f_text_signs)), (q_text_pairs, .inl (cI, 21, .inl f_text_pairs)), (q_covers, .inr (0, [.ref q_covers_found, .int f_covers_size, .ref q_covers_before, .int f_covers_circles, .int f_covers_oddCircles, .int f_covers_longest])), (q_covers_found, .inl (cI, 80, .inl f_covers_found)), (q_covers_before, .inl (cI, 21, .inl f_covers_before)), (q_net, .inr (2, [.int f_net_knots, .int f_net_threads, .ref q_net_ends, .ref q_net_colours])), (q_net_ends, .inl (cI, 21, .inl f_net_ends)), (q_net_colours, .inl (cI, 21, .inl f_net_colours))]) (va_runS (As := [.int r_13]) (rest := []) ⟨hx, hb, hml, hown, hts⟩ (k_X6_orNone l D cI cC cN N H.size r_13 r_15 h_16) (va_cwS 1 hts gX6_count_X6_orNone rfl rfl rfl (by decide +kernel) ⟨Nat.le_of_ble_eq_true rfl, Nat.le_of_ble_eq_true rfl⟩) ⟨g_blind, g_pre (hP.sub [] rfl) hK hN (hD.sub [] (by decide) rfl)⟩ rfl rfl hl.1 rfl (lv_room (Nat.le_of_ble_eq_true rfl)) dX6_count_122 ⟨Nat.zero_le _, Nat.zero_le _⟩) hP hD hS hA [] [0, 1, 2, 3, 4, 5, 6, 7, 8, 9, 10, 11] rfl rfl (by decide) (by decide) rfl (fun H locs hP hD hS => ?_)
    have z1 := so_use hm
    obtain ⟨y1, z2⟩ := pr_use z1
    obtain ⟨y2, z3⟩ := pr_use z2
    obtain ⟨y3, z4⟩ := pr_use z3
    subst y1
    subst y2
    subst y3
    subst z4
    exact hret _ _ _ _ _ dX6_count_125 rfl rfl (hP.sub [0, 9, 10, 11, 1, 2, 3, 4, 5, 6, 7, 8] rfl) (hD.sub [0, 9, 10, 11, 1, 2, 3, 4, 5, 6, 7, 8] (by decide) rfl) hS
  have hm := if_f _ hc hm
  by_cases hc : a1 = 6
  · have hm := if_t _ hc hm
    refine lv_tableIn (off := 125) (tgt := 126) hx hb dX6_count_1 (by rw [hc]; decide) (by rw [hc]; decide) (by rw [hc]; rfl) (by decide) ?_
    refine lv_aload_n hx hb dX6_count_126 rfl (lv_at hl 0 rfl) ?_
    refine va_get (D := D) (ci := 5) (v := .ref q_covers) (C := RX6) (T := TX6) (N := 8) hx hb hts (by decide +kernel) hown hK hP 0 rfl rfl 7 (by decide) (hts (.fieldLink RX6 50 "KnotStripes" "covers" "LKnotStripes$Covers;") (by decide +kernel)) (fun _ h9 => h9) rfl dX6_count_127 ?_
    refine lv_aload_n hx hb dX6_count_130 rfl (lv_at hl 0 rfl) ?_
    refine va_get (D := D) (ci := 5) (v := .ref q_net) (C := RX6) (T := TX6) (N := 8) hx hb hts (by decide +kernel) hown hK hP 0 rfl rfl 0 (by decide) (hts (.fieldLink RX6 12 "KnotStripes" "net" "LKnotStripes$Net;") (by decide +kernel)) (fun _ h9 => h9) rfl dX6_count_131 ?_
    obtain ⟨⟨f_covers_found_17, f_covers_size_18, f_covers_before_19⟩, h_20, hm⟩ := bind_use hm
    refine g_kv (wc := [(q_covers, .inr (0, [.ref q_covers_found, .int f_covers_size, .ref q_covers_before, .int f_covers_circles, .int f_covers_oddCircles, .int f_covers_longest])), (q_covers_found, .inl (cI, 80, .inl f_covers_found)), (q_covers_before, .inl (cI, 21, .inl f_covers_before)), (q_net, .inr (2, [.int f_net_knots, .int f_net_threads, .ref q_net_ends, .ref q_net_colours])), (q_net_ends, .inl (cI, 21, .inl f_net_ends)), (q_net_colours, .inl (cI, 21, .inl f_net_colours))]) (wr := [(q, .inr (5, [.ref q_net, .ref q_draft, .ref q_snapshot, .int f_hasSnapshot, .ref q_history, .ref q_text, .ref q_painter, .ref q_covers])), (q_history, .inr (1, [.ref q_history_states, .int f_history_size])), (q_history_states, .inl (cN, 4, .inr (.inr (.inr (.inr (hisG q_history_h0 q_history_h1 q_history_h2 q_history_h3)))))), (q_text, .inr (4, [.ref q_text_signs, .int f_text_length, .ref q_text_pairs, .int f_text_size])), (q_text_signs, .inl (cC, 60, .inl f_text_signs)), (q_text_pairs, .inl (cI, 21, .inl f_text_pairs))]) (w2 := [(q, .inr (5, [.ref q_net, .ref q_draft, .ref q_snapshot, .int f_hasSnapshot, .ref q_history, .ref q_text, .ref q_painter, .ref q_covers])), (q_history, .inr (1, [.ref q_history_states, .int f_history_size])), (q_history_states, .inl (cN, 4, .inr (.inr (.inr (.inr (hisG q_history_h0 q_history_h1 q_history_h2 q_history_h3)))))), (q_text, .inr (4, [.ref q_text_signs, .int f_text_length, .ref q_text_pairs, .int f_text_size])), (q_text_signs, .inl (cC, 60, .inl f_text_signs)), (q_text_pairs, .inl (cI, 21, .inl f_text_pairs)), (q_covers, .inr (0, [.ref q_covers_found, .int f_covers_size_18, .ref q_covers_before, .int f_covers_circles, .int f_covers_oddCircles, .int f_covers_longest])), (q_covers_found, .inl (cI, 80, .inl f_covers_found_17)), (q_covers_before, .inl (cI, 21, .inl f_covers_before_19)), (q_net, .inr (2, [.int f_net_knots, .int f_net_threads, .ref q_net_ends, .ref q_net_colours])), (q_net_ends, .inl (cI, 21, .inl f_net_ends)), (q_net_colours, .inl (cI, 21, .inl f_net_colours))]) (va_runV (As := [.ref q_net]) (rest := []) ⟨hx, hb, hml, hown, hts⟩ (k_X0_list l D cI cC cN N q_covers q_covers_found q_covers_before q_net q_net_ends q_net_colours s.heap.size f_covers_found f_covers_size f_covers_before f_covers_circles f_covers_oddCircles f_covers_longest f_net_knots f_net_threads f_net_ends f_net_colours f_covers_found_17 f_covers_size_18 f_covers_before_19 h_20) (cwV 1 hts gX6_count_X0_list rfl rfl rfl (by decide +kernel) ⟨Nat.le_of_ble_eq_true rfl, Nat.le_of_ble_eq_true rfl⟩) ⟨g_blind, va_recv (D := D) (ci := 0) (q0 := 9) hK hP rfl rfl, g_pre (hP.sub [9, 10, 11, 1, 2, 3] rfl) hK hN (hD.sub [9, 10, 11, 1, 2, 3] (by decide) rfl)⟩ rfl rfl hl.1 rfl (lv_room (Nat.le_of_ble_eq_true rfl)) dX6_count_134 ⟨Nat.zero_le _, Nat.zero_le _⟩) hP hD hS hA [9, 10, 11, 1, 2, 3] [0, 4, 5, 6, 7, 8] rfl rfl (by decide) (by decide) rfl (fun H locs hP hD hS => ?_)
    refine lv_aload_n hx hb dX6_count_137 rfl (lv_at hl 0 rfl) ?_
    refine va_get (D := D) (ci := 5) (v := .ref q_covers) (C := RX6) (T := TX6) (N := 8) hx hb hts (by decide +kernel) hown hK hP 0 rfl rfl 7 (by decide) (hts (.fieldLink RX6 50 "KnotStripes" "covers" "LKnotStripes$Covers;") (by decide +kernel)) (fun _ h9 => h9) rfl dX6_count_138 ?_
    obtain ⟨r_21, h_22, hm⟩ := bind_use hm
    refine g_ki (wc := [(q_covers, .inr (0, [.ref q_covers_found, .int f_covers_size_18, .ref q_covers_before, .int f_covers_circles, .int f_covers_oddCircles, .int f_covers_longest])), (q_covers_found, .inl (cI, 80, .inl f_covers_found_17)), (q_covers_before, .inl (cI, 21, .inl f_covers_before_19))]) (wr := [(q, .inr (5, [.ref q_net, .ref q_draft, .ref q_snapshot, .int f_hasSnapshot, .ref q_history, .ref q_text, .ref q_painter, .ref q_covers])), (q_history, .inr (1, [.ref q_history_states, .int f_history_size])), (q_history_states, .inl (cN, 4, .inr (.inr (.inr (.inr (hisG q_history_h0 q_history_h1 q_history_h2 q_history_h3)))))), (q_text, .inr (4, [.ref q_text_signs, .int f_text_length, .ref q_text_pairs, .int f_text_size])), (q_text_signs, .inl (cC, 60, .inl f_text_signs)), (q_text_pairs, .inl (cI, 21, .inl f_text_pairs)), (q_net, .inr (2, [.int f_net_knots, .int f_net_threads, .ref q_net_ends, .ref q_net_colours])), (q_net_ends, .inl (cI, 21, .inl f_net_ends)), (q_net_colours, .inl (cI, 21, .inl f_net_colours))]) (w2 := [(q, .inr (5, [.ref q_net, .ref q_draft, .ref q_snapshot, .int f_hasSnapshot, .ref q_history, .ref q_text, .ref q_painter, .ref q_covers])), (q_history, .inr (1, [.ref q_history_states, .int f_history_size])), (q_history_states, .inl (cN, 4, .inr (.inr (.inr (.inr (hisG q_history_h0 q_history_h1 q_history_h2 q_history_h3)))))), (q_text, .inr (4, [.ref q_text_signs, .int f_text_length, .ref q_text_pairs, .int f_text_size])), (q_text_signs, .inl (cC, 60, .inl f_text_signs)), (q_text_pairs, .inl (cI, 21, .inl f_text_pairs)), (q_net, .inr (2, [.int f_net_knots, .int f_net_threads, .ref q_net_ends, .ref q_net_colours])), (q_net_ends, .inl (cI, 21, .inl f_net_ends)), (q_net_colours, .inl (cI, 21, .inl f_net_colours)), (q_covers, .inr (0, [.ref q_covers_found, .int f_covers_size_18, .ref q_covers_before, .int f_covers_circles, .int f_covers_oddCircles, .int f_covers_longest])), (q_covers_found, .inl (cI, 80, .inl f_covers_found_17)), (q_covers_before, .inl (cI, 21, .inl f_covers_before_19))]) (va_runV (As := []) (rest := []) ⟨hx, hb, hml, hown, hts⟩ (k_X0_size l D cI cC cN N q_covers q_covers_found q_covers_before H.size f_covers_found_17 f_covers_size_18 f_covers_before_19 f_covers_circles f_covers_oddCircles f_covers_longest r_21 h_22) (cwV 0 hts gX6_count_X0_size rfl rfl rfl (by decide +kernel) ⟨Nat.le_of_ble_eq_true rfl, Nat.le_of_ble_eq_true rfl⟩) ⟨g_blind, va_recv (D := D) (ci := 0) (q0 := 6) hK hP rfl rfl, g_pre (hP.sub [6, 7, 8] rfl) hK hN (hD.sub [6, 7, 8] (by decide) rfl)⟩ rfl rfl hl.1 rfl (lv_room (Nat.le_of_ble_eq_true rfl)) dX6_count_141 ⟨Nat.zero_le _, Nat.zero_le _⟩) hP hD hS hA [6, 7, 8] [0, 1, 2, 3, 4, 5, 9, 10, 11] rfl rfl (by decide) (by decide) rfl (fun H locs hP hD hS => ?_)
    have z1 := so_use hm
    obtain ⟨y1, z2⟩ := pr_use z1
    obtain ⟨y2, z3⟩ := pr_use z2
    obtain ⟨y3, z4⟩ := pr_use z3
    subst y1
    subst y2
    subst y3
    subst z4
    exact hret _ _ _ _ _ dX6_count_144 rfl rfl (hP.sub [0, 6, 7, 8, 1, 2, 3, 4, 5, 9, 10, 11] rfl) (hD.sub [0, 6, 7, 8, 1, 2, 3, 4, 5, 9, 10, 11] (by decide) rfl) hS
  have hm := if_f _ hc hm
  by_cases hc : a1 = 7
  · have hm := if_t _ hc hm
    refine lv_tableIn (off := 144) (tgt := 145) hx hb dX6_count_1 (by rw [hc]; decide) (by rw [hc]; decide) (by rw [hc]; rfl) (by decide) ?_
    refine lv_aload_n hx hb dX6_count_145 rfl (lv_at hl 0 rfl) ?_
    refine va_get (D := D) (ci := 5) (v := .ref q_net) (C := RX6) (T := TX6) (N := 8) hx hb hts (by decide +kernel) hown hK hP 0 rfl rfl 0 (by decide) (hts (.fieldLink RX6 12 "KnotStripes" "net" "LKnotStripes$Net;") (by decide +kernel)) (fun _ h9 => h9) rfl dX6_count_146 ?_
    obtain ⟨r_23, h_24, hm⟩ := bind_use hm
    refine g_ki (wc := [(q_net, .inr (2, [.int f_net_knots, .int f_net_threads, .ref q_net_ends, .ref q_net_colours])), (q_net_ends, .inl (cI, 21, .inl f_net_ends)), (q_net_colours, .inl (cI, 21, .inl f_net_colours))]) (wr := [(q, .inr (5, [.ref q_net, .ref q_draft, .ref q_snapshot, .int f_hasSnapshot, .ref q_history, .ref q_text, .ref q_painter, .ref q_covers])), (q_history, .inr (1, [.ref q_history_states, .int f_history_size])), (q_history_states, .inl (cN, 4, .inr (.inr (.inr (.inr (hisG q_history_h0 q_history_h1 q_history_h2 q_history_h3)))))), (q_text, .inr (4, [.ref q_text_signs, .int f_text_length, .ref q_text_pairs, .int f_text_size])), (q_text_signs, .inl (cC, 60, .inl f_text_signs)), (q_text_pairs, .inl (cI, 21, .inl f_text_pairs)), (q_covers, .inr (0, [.ref q_covers_found, .int f_covers_size, .ref q_covers_before, .int f_covers_circles, .int f_covers_oddCircles, .int f_covers_longest])), (q_covers_found, .inl (cI, 80, .inl f_covers_found)), (q_covers_before, .inl (cI, 21, .inl f_covers_before))]) (w2 := [(q, .inr (5, [.ref q_net, .ref q_draft, .ref q_snapshot, .int f_hasSnapshot, .ref q_history, .ref q_text, .ref q_painter, .ref q_covers])), (q_history, .inr (1, [.ref q_history_states, .int f_history_size])), (q_history_states, .inl (cN, 4, .inr (.inr (.inr (.inr (hisG q_history_h0 q_history_h1 q_history_h2 q_history_h3)))))), (q_text, .inr (4, [.ref q_text_signs, .int f_text_length, .ref q_text_pairs, .int f_text_size])), (q_text_signs, .inl (cC, 60, .inl f_text_signs)), (q_text_pairs, .inl (cI, 21, .inl f_text_pairs)), (q_covers, .inr (0, [.ref q_covers_found, .int f_covers_size, .ref q_covers_before, .int f_covers_circles, .int f_covers_oddCircles, .int f_covers_longest])), (q_covers_found, .inl (cI, 80, .inl f_covers_found)), (q_covers_before, .inl (cI, 21, .inl f_covers_before)), (q_net, .inr (2, [.int f_net_knots, .int f_net_threads, .ref q_net_ends, .ref q_net_colours])), (q_net_ends, .inl (cI, 21, .inl f_net_ends)), (q_net_colours, .inl (cI, 21, .inl f_net_colours))]) (va_runV (As := []) (rest := []) ⟨hx, hb, hml, hown, hts⟩ (k_X2_wrongKnots l D cI cC cN N q_net q_net_ends q_net_colours s.heap.size f_net_knots f_net_threads f_net_ends f_net_colours r_23 h_24) (cwV 0 hts gX6_count_X2_wrongKnots rfl rfl rfl (by decide +kernel) ⟨Nat.le_of_ble_eq_true rfl, Nat.le_of_ble_eq_true rfl⟩) ⟨g_blind, va_recv (D := D) (ci := 2) (q0 := 1) hK hP rfl rfl, g_pre (hP.sub [1, 2, 3] rfl) hK hN (hD.sub [1, 2, 3] (by decide) rfl)⟩ rfl rfl hl.1 rfl (lv_room (Nat.le_of_ble_eq_true rfl)) dX6_count_149 ⟨Nat.zero_le _, Nat.zero_le _⟩) hP hD hS hA [1, 2, 3] [0, 4, 5, 6, 7, 8, 9, 10, 11] rfl rfl (by decide) (by decide) rfl (fun H locs hP hD hS => ?_)
    have z1 := so_use hm
    obtain ⟨y1, z2⟩ := pr_use z1
    obtain ⟨y2, z3⟩ := pr_use z2
    obtain ⟨y3, z4⟩ := pr_use z3
    subst y1
    subst y2
    subst y3
    subst z4
    exact hret _ _ _ _ _ dX6_count_152 rfl rfl (hP.sub [0, 9, 10, 11, 1, 2, 3, 4, 5, 6, 7, 8] rfl) (hD.sub [0, 9, 10, 11, 1, 2, 3, 4, 5, 6, 7, 8] (by decide) rfl) hS
  have hm := if_f _ hc hm
  by_cases hc : a1 = 8
  · have hm := if_t _ hc hm
    refine lv_tableIn (off := 152) (tgt := 153) hx hb dX6_count_1 (by rw [hc]; decide) (by rw [hc]; decide) (by rw [hc]; rfl) (by decide) ?_
    refine lv_aload_n hx hb dX6_count_153 rfl (lv_at hl 0 rfl) ?_
    refine va_get (D := D) (ci := 5) (v := .ref q_net) (C := RX6) (T := TX6) (N := 8) hx hb hts (by decide +kernel) hown hK hP 0 rfl rfl 0 (by decide) (hts (.fieldLink RX6 12 "KnotStripes" "net" "LKnotStripes$Net;") (by decide +kernel)) (fun _ h9 => h9) rfl dX6_count_154 ?_
    refine lv_iconst (v := 3) hx hb dX6_count_157 (by decide) ?_
    obtain ⟨r_25, h_26, hm⟩ := bind_use hm
    refine g_ki (wc := [(q_net, .inr (2, [.int f_net_knots, .int f_net_threads, .ref q_net_ends, .ref q_net_colours])), (q_net_ends, .inl (cI, 21, .inl f_net_ends)), (q_net_colours, .inl (cI, 21, .inl f_net_colours))]) (wr := [(q, .inr (5, [.ref q_net, .ref q_draft, .ref q_snapshot, .int f_hasSnapshot, .ref q_history, .ref q_text, .ref q_painter, .ref q_covers])), (q_history, .inr (1, [.ref q_history_states, .int f_history_size])), (q_history_states, .inl (cN, 4, .inr (.inr (.inr (.inr (hisG q_history_h0 q_history_h1 q_history_h2 q_history_h3)))))), (q_text, .inr (4, [.ref q_text_signs, .int f_text_length, .ref q_text_pairs, .int f_text_size])), (q_text_signs, .inl (cC, 60, .inl f_text_signs)), (q_text_pairs, .inl (cI, 21, .inl f_text_pairs)), (q_covers, .inr (0, [.ref q_covers_found, .int f_covers_size, .ref q_covers_before, .int f_covers_circles, .int f_covers_oddCircles, .int f_covers_longest])), (q_covers_found, .inl (cI, 80, .inl f_covers_found)), (q_covers_before, .inl (cI, 21, .inl f_covers_before))]) (w2 := [(q, .inr (5, [.ref q_net, .ref q_draft, .ref q_snapshot, .int f_hasSnapshot, .ref q_history, .ref q_text, .ref q_painter, .ref q_covers])), (q_history, .inr (1, [.ref q_history_states, .int f_history_size])), (q_history_states, .inl (cN, 4, .inr (.inr (.inr (.inr (hisG q_history_h0 q_history_h1 q_history_h2 q_history_h3)))))), (q_text, .inr (4, [.ref q_text_signs, .int f_text_length, .ref q_text_pairs, .int f_text_size])), (q_text_signs, .inl (cC, 60, .inl f_text_signs)), (q_text_pairs, .inl (cI, 21, .inl f_text_pairs)), (q_covers, .inr (0, [.ref q_covers_found, .int f_covers_size, .ref q_covers_before, .int f_covers_circles, .int f_covers_oddCircles, .int f_covers_longest])), (q_covers_found, .inl (cI, 80, .inl f_covers_found)), (q_covers_before, .inl (cI, 21, .inl f_covers_before)), (q_net, .inr (2, [.int f_net_knots, .int f_net_threads, .ref q_net_ends, .ref q_net_colours])), (q_net_ends, .inl (cI, 21, .inl f_net_ends)), (q_net_colours, .inl (cI, 21, .inl f_net_colours))]) (va_runV (As := [.int 3]) (rest := []) ⟨hx, hb, hml, hown, hts⟩ (k_X2_coloured l D cI cC cN N q_net q_net_ends q_net_colours s.heap.size f_net_knots f_net_threads f_net_ends f_net_colours 3 r_25 h_26) (cwV 1 hts gX6_count_X2_coloured rfl rfl rfl (by decide +kernel) ⟨Nat.le_of_ble_eq_true rfl, Nat.le_of_ble_eq_true rfl⟩) ⟨g_blind, va_recv (D := D) (ci := 2) (q0 := 1) hK hP rfl rfl, g_pre (hP.sub [1, 2, 3] rfl) hK hN (hD.sub [1, 2, 3] (by decide) rfl)⟩ rfl rfl hl.1 rfl (lv_room (Nat.le_of_ble_eq_true rfl)) dX6_count_158 ⟨Nat.zero_le _, Nat.zero_le _⟩) hP hD hS hA [1, 2, 3] [0, 4, 5, 6, 7, 8, 9, 10, 11] rfl rfl (by decide) (by decide) rfl (fun H locs hP hD hS => ?_)
    obtain ⟨r_27, h_28, hm⟩ := bind_use hm
    refine g_ki (wc := []) (wr := [(q, .inr (5, [.ref q_net, .ref q_draft, .ref q_snapshot, .int f_hasSnapshot, .ref q_history, .ref q_text, .ref q_painter, .ref q_covers])), (q_history, .inr (1, [.ref q_history_states, .int f_history_size])), (q_history_states, .inl (cN, 4, .inr (.inr (.inr (.inr (hisG q_history_h0 q_history_h1 q_history_h2 q_history_h3)))))), (q_text, .inr (4, [.ref q_text_signs, .int f_text_length, .ref q_text_pairs, .int f_text_size])), (q_text_signs, .inl (cC, 60, .inl f_text_signs)), (q_text_pairs, .inl (cI, 21, .inl f_text_pairs)), (q_covers, .inr (0, [.ref q_covers_found, .int f_covers_size, .ref q_covers_before, .int f_covers_circles, .int f_covers_oddCircles, .int f_covers_longest])), (q_covers_found, .inl (cI, 80, .inl f_covers_found)), (q_covers_before, .inl (cI, 21, .inl f_covers_before)), (q_net, .inr (2, [.int f_net_knots, .int f_net_threads, .ref q_net_ends, .ref q_net_colours])), (q_net_ends, .inl (cI, 21, .inl f_net_ends)), (q_net_colours, .inl (cI, 21, .inl f_net_colours))]) (w2 := [(q, .inr (5, [.ref q_net, .ref q_draft, .ref q_snapshot, .int f_hasSnapshot, .ref q_history, .ref q_text, .ref q_painter, .ref q_covers])), (q_history, .inr (1, [.ref q_history_states, .int f_history_size])), (q_history_states, .inl (cN, 4, .inr (.inr (.inr (.inr (hisG q_history_h0 q_history_h1 q_history_h2 q_history_h3)))))), (q_text, .inr (4, [.ref q_text_signs, .int f_text_length, .ref q_text_pairs, .int f_text_size])), (q_text_signs, .inl (cC, 60, .inl f_text_signs)), (q_text_pairs, .inl (cI, 21, .inl f_text_pairs)), (q_covers, .inr (0, [.ref q_covers_found, .int f_covers_size, .ref q_covers_before, .int f_covers_circles, .int f_covers_oddCircles, .int f_covers_longest])), (q_covers_found, .inl (cI, 80, .inl f_covers_found)), (q_covers_before, .inl (cI, 21, .inl f_covers_before)), (q_net, .inr (2, [.int f_net_knots, .int f_net_threads, .ref q_net_ends, .ref q_net_colours])), (q_net_ends, .inl (cI, 21, .inl f_net_ends)), (q_net_colours, .inl (cI, 21, .inl f_net_colours))]) (va_runS (As := [.int r_25]) (rest := []) ⟨hx, hb, hml, hown, hts⟩ (k_J6_bitCount_0f7a4 l D cI cC cN N H.size r_25 r_27 h_28) (va_cwS 1 hts gX6_count_J6_bitCount_0f7a4 rfl rfl rfl (by decide +kernel) ⟨Nat.le_of_ble_eq_true rfl, Nat.le_of_ble_eq_true rfl⟩) ⟨g_blind, g_pre (hP.sub [] rfl) hK hN (hD.sub [] (by decide) rfl)⟩ rfl rfl hl.1 rfl (lv_room (Nat.le_of_ble_eq_true rfl)) dX6_count_161 ⟨Nat.zero_le _, Nat.zero_le _⟩) hP hD hS hA [] [0, 1, 2, 3, 4, 5, 6, 7, 8, 9, 10, 11] rfl rfl (by decide) (by decide) rfl (fun H locs hP hD hS => ?_)
    have z1 := so_use hm
    obtain ⟨y1, z2⟩ := pr_use z1
    obtain ⟨y2, z3⟩ := pr_use z2
    obtain ⟨y3, z4⟩ := pr_use z3
    subst y1
    subst y2
    subst y3
    subst z4
    exact hret _ _ _ _ _ dX6_count_164 rfl rfl (hP.sub [0, 9, 10, 11, 1, 2, 3, 4, 5, 6, 7, 8] rfl) (hD.sub [0, 9, 10, 11, 1, 2, 3, 4, 5, 6, 7, 8] (by decide) rfl) hS
  have hm := if_f _ hc hm
  by_cases hc : a1 = 9
  · have hm := if_t _ hc hm
    refine lv_tableIn (off := 164) (tgt := 165) hx hb dX6_count_1 (by rw [hc]; decide) (by rw [hc]; decide) (by rw [hc]; rfl) (by decide) ?_
    refine lv_aload_n hx hb dX6_count_165 rfl (lv_at hl 0 rfl) ?_
    refine va_get (D := D) (ci := 5) (v := .ref q_history) (C := RX6) (T := TX6) (N := 8) hx hb hts (by decide +kernel) hown hK hP 0 rfl rfl 4 (by decide) (hts (.fieldLink RX6 29 "KnotStripes" "history" "LKnotStripes$History;") (by decide +kernel)) (fun _ h9 => h9) rfl dX6_count_166 ?_
    obtain ⟨r_29, h_30, hm⟩ := bind_use hm
    refine g_ki (wc := [(q_history, .inr (1, [.ref q_history_states, .int f_history_size])), (q_history_states, .inl (cN, 4, .inr (.inr (.inr (.inr (hisG q_history_h0 q_history_h1 q_history_h2 q_history_h3))))))]) (wr := [(q, .inr (5, [.ref q_net, .ref q_draft, .ref q_snapshot, .int f_hasSnapshot, .ref q_history, .ref q_text, .ref q_painter, .ref q_covers])), (q_net, .inr (2, [.int f_net_knots, .int f_net_threads, .ref q_net_ends, .ref q_net_colours])), (q_net_ends, .inl (cI, 21, .inl f_net_ends)), (q_net_colours, .inl (cI, 21, .inl f_net_colours)), (q_text, .inr (4, [.ref q_text_signs, .int f_text_length, .ref q_text_pairs, .int f_text_size])), (q_text_signs, .inl (cC, 60, .inl f_text_signs)), (q_text_pairs, .inl (cI, 21, .inl f_text_pairs)), (q_covers, .inr (0, [.ref q_covers_found, .int f_covers_size, .ref q_covers_before, .int f_covers_circles, .int f_covers_oddCircles, .int f_covers_longest])), (q_covers_found, .inl (cI, 80, .inl f_covers_found)), (q_covers_before, .inl (cI, 21, .inl f_covers_before))]) (w2 := [(q, .inr (5, [.ref q_net, .ref q_draft, .ref q_snapshot, .int f_hasSnapshot, .ref q_history, .ref q_text, .ref q_painter, .ref q_covers])), (q_net, .inr (2, [.int f_net_knots, .int f_net_threads, .ref q_net_ends, .ref q_net_colours])), (q_net_ends, .inl (cI, 21, .inl f_net_ends)), (q_net_colours, .inl (cI, 21, .inl f_net_colours)), (q_text, .inr (4, [.ref q_text_signs, .int f_text_length, .ref q_text_pairs, .int f_text_size])), (q_text_signs, .inl (cC, 60, .inl f_text_signs)), (q_text_pairs, .inl (cI, 21, .inl f_text_pairs)), (q_covers, .inr (0, [.ref q_covers_found, .int f_covers_size, .ref q_covers_before, .int f_covers_circles, .int f_covers_oddCircles, .int f_covers_longest])), (q_covers_found, .inl (cI, 80, .inl f_covers_found)), (q_covers_before, .inl (cI, 21, .inl f_covers_before)), (q_history, .inr (1, [.ref q_history_states, .int f_history_size])), (q_history_states, .inl (cN, 4, .inr (.inr (.inr (.inr (hisG q_history_h0 q_history_h1 q_history_h2 q_history_h3))))))]) (va_runV (As := []) (rest := []) ⟨hx, hb, hml, hown, hts⟩ (k_X1_size l D cI cC cN N q_history q_history_states q_history_h0 q_history_h1 q_history_h2 q_history_h3 s.heap.size f_history_size r_29 h_30) (cwV 0 hts gX6_count_X1_size rfl rfl rfl (by decide +kernel) ⟨Nat.le_of_ble_eq_true rfl, Nat.le_of_ble_eq_true rfl⟩) ⟨g_blind, va_recv (D := D) (ci := 1) (q0 := 4) hK hP rfl rfl, g_pre (hP.sub [4, 5] rfl) hK hN (hD.sub [4, 5] (by decide) rfl)⟩ rfl rfl hl.1 rfl (lv_room (Nat.le_of_ble_eq_true rfl)) dX6_count_169 ⟨Nat.zero_le _, Nat.zero_le _⟩) hP hD hS hA [4, 5] [0, 1, 2, 3, 6, 7, 8, 9, 10, 11] rfl rfl (by decide) (by decide) rfl (fun H locs hP hD hS => ?_)
    have z1 := so_use hm
    obtain ⟨y1, z2⟩ := pr_use z1
    obtain ⟨y2, z3⟩ := pr_use z2
    obtain ⟨y3, z4⟩ := pr_use z3
    subst y1
    subst y2
    subst y3
    subst z4
    exact hret _ _ _ _ _ dX6_count_172 rfl rfl (hP.sub [0, 1, 2, 3, 10, 11, 4, 5, 6, 7, 8, 9] rfl) (hD.sub [0, 1, 2, 3, 10, 11, 4, 5, 6, 7, 8, 9] (by decide) rfl) hS
  have hm := if_f _ hc hm
  by_cases hc : a1 = 10
  · have hm := if_t _ hc hm
    refine lv_tableIn (off := 172) (tgt := 173) hx hb dX6_count_1 (by rw [hc]; decide) (by rw [hc]; decide) (by rw [hc]; rfl) (by decide) ?_
    refine lv_aload_n hx hb dX6_count_173 rfl (lv_at hl 0 rfl) ?_
    refine va_get (D := D) (ci := 5) (v := .ref q_text) (C := RX6) (T := TX6) (N := 8) hx hb hts (by decide +kernel) hown hK hP 0 rfl rfl 5 (by decide) (hts (.fieldLink RX6 36 "KnotStripes" "text" "LKnotStripes$Text;") (by decide +kernel)) (fun _ h9 => h9) rfl dX6_count_174 ?_
    obtain ⟨r_31, h_32, hm⟩ := bind_use hm
    refine g_ki (wc := [(q_text, .inr (4, [.ref q_text_signs, .int f_text_length, .ref q_text_pairs, .int f_text_size])), (q_text_signs, .inl (cC, 60, .inl f_text_signs)), (q_text_pairs, .inl (cI, 21, .inl f_text_pairs))]) (wr := [(q, .inr (5, [.ref q_net, .ref q_draft, .ref q_snapshot, .int f_hasSnapshot, .ref q_history, .ref q_text, .ref q_painter, .ref q_covers])), (q_net, .inr (2, [.int f_net_knots, .int f_net_threads, .ref q_net_ends, .ref q_net_colours])), (q_net_ends, .inl (cI, 21, .inl f_net_ends)), (q_net_colours, .inl (cI, 21, .inl f_net_colours)), (q_history, .inr (1, [.ref q_history_states, .int f_history_size])), (q_history_states, .inl (cN, 4, .inr (.inr (.inr (.inr (hisG q_history_h0 q_history_h1 q_history_h2 q_history_h3)))))), (q_covers, .inr (0, [.ref q_covers_found, .int f_covers_size, .ref q_covers_before, .int f_covers_circles, .int f_covers_oddCircles, .int f_covers_longest])), (q_covers_found, .inl (cI, 80, .inl f_covers_found)), (q_covers_before, .inl (cI, 21, .inl f_covers_before))]) (w2 := [(q, .inr (5, [.ref q_net, .ref q_draft, .ref q_snapshot, .int f_hasSnapshot, .ref q_history, .ref q_text, .ref q_painter, .ref q_covers])), (q_net, .inr (2, [.int f_net_knots, .int f_net_threads, .ref q_net_ends, .ref q_net_colours])), (q_net_ends, .inl (cI, 21, .inl f_net_ends)), (q_net_colours, .inl (cI, 21, .inl f_net_colours)), (q_history, .inr (1, [.ref q_history_states, .int f_history_size])), (q_history_states, .inl (cN, 4, .inr (.inr (.inr (.inr (hisG q_history_h0 q_history_h1 q_history_h2 q_history_h3)))))), (q_covers, .inr (0, [.ref q_covers_found, .int f_covers_size, .ref q_covers_before, .int f_covers_circles, .int f_covers_oddCircles, .int f_covers_longest])), (q_covers_found, .inl (cI, 80, .inl f_covers_found)), (q_covers_before, .inl (cI, 21, .inl f_covers_before)), (q_text, .inr (4, [.ref q_text_signs, .int f_text_length, .ref q_text_pairs, .int f_text_size])), (q_text_signs, .inl (cC, 60, .inl f_text_signs)), (q_text_pairs, .inl (cI, 21, .inl f_text_pairs))]) (va_runV (As := []) (rest := []) ⟨hx, hb, hml, hown, hts⟩ (k_X4_length l D cI cC cN N q_text q_text_signs q_text_pairs s.heap.size f_text_signs f_text_length f_text_pairs f_text_size r_31 h_32) (cwV 0 hts gX6_count_X4_length rfl rfl rfl (by decide +kernel) ⟨Nat.le_of_ble_eq_true rfl, Nat.le_of_ble_eq_true rfl⟩) ⟨g_blind, va_recv (D := D) (ci := 4) (q0 := 6) hK hP rfl rfl, g_pre (hP.sub [6, 7, 8] rfl) hK hN (hD.sub [6, 7, 8] (by decide) rfl)⟩ rfl rfl hl.1 rfl (lv_room (Nat.le_of_ble_eq_true rfl)) dX6_count_177 ⟨Nat.zero_le _, Nat.zero_le _⟩) hP hD hS hA [6, 7, 8] [0, 1, 2, 3, 4, 5, 9, 10, 11] rfl rfl (by decide) (by decide) rfl (fun H locs hP hD hS => ?_)
    have z1 := so_use hm
    obtain ⟨y1, z2⟩ := pr_use z1
    obtain ⟨y2, z3⟩ := pr_use z2
    obtain ⟨y3, z4⟩ := pr_use z3
    subst y1
    subst y2
    subst y3
    subst z4
    exact hret _ _ _ _ _ dX6_count_180 rfl rfl (hP.sub [0, 1, 2, 3, 4, 5, 9, 10, 11, 6, 7, 8] rfl) (hD.sub [0, 1, 2, 3, 4, 5, 9, 10, 11, 6, 7, 8] (by decide) rfl) hS
  have hm := if_f _ hc hm
  exact no_use hm
