abbrev rX1_push : Room := { frames := 4, cells := 0, slots := 0, locals := 87 }
set_option maxHeartbeats 4000000 in
set_option maxRecDepth 100000 in
theorem k_X1_push (l : Launch) (D : va_G) (cI cC cN : ClassId) (N : Nat) (q : Nat) (q_states : Nat) (q_h0 : Nat) (q_h1 : Nat) (q_h2 : Nat) (q_h3 : Nat) (q_h0_ends : Nat) (q_h0_colours : Nat) (q_h1_ends : Nat) (q_h1_colours : Nat) (q_h2_ends : Nat) (q_h2_colours : Nat) (q_h3_ends : Nat) (q_h3_colours : Nat) (q_p0 : Nat) (q_p0_ends : Nat) (q_p0_colours : Nat) (sz : Nat) (f_size : Int32) (f_h0_knots : Int32) (f_h0_threads : Int32) (f_h0_ends : Nat → Int32) (f_h0_colours : Nat → Int32) (f_h1_knots : Int32) (f_h1_threads : Int32) (f_h1_ends : Nat → Int32) (f_h1_colours : Nat → Int32) (f_h2_knots : Int32) (f_h2_threads : Int32) (f_h2_ends : Nat → Int32) (f_h2_colours : Nat → Int32) (f_h3_knots : Int32) (f_h3_threads : Int32) (f_h3_ends : Nat → Int32) (f_h3_colours : Nat → Int32) (f_p0_knots : Int32) (f_p0_threads : Int32) (f_p0_ends : Nat → Int32) (f_p0_colours : Nat → Int32) (f_size' : Int32) (f_h0_knots' : Int32) (f_h0_threads' : Int32) (f_h0_ends' : Nat → Int32) (f_h0_colours' : Nat → Int32) (f_h1_knots' : Int32) (f_h1_threads' : Int32) (f_h1_ends' : Nat → Int32) (f_h1_colours' : Nat → Int32) (f_h2_knots' : Int32) (f_h2_threads' : Int32) (f_h2_ends' : Nat → Int32) (f_h2_colours' : Nat → Int32) (f_h3_knots' : Int32) (f_h3_threads' : Int32) (f_h3_ends' : Nat → Int32) (f_h3_colours' : Nat → Int32) (hm : m_X1_push N f_size f_h0_knots f_h0_threads f_h0_ends f_h0_colours f_h1_knots f_h1_threads f_h1_ends f_h1_colours f_h2_knots f_h2_threads f_h2_ends f_h2_colours f_h3_knots f_h3_threads f_h3_ends f_h3_colours f_p0_knots f_p0_threads f_p0_ends f_p0_colours = some (f_size', f_h0_knots', f_h0_threads', f_h0_ends', f_h0_colours', f_h1_knots', f_h1_threads', f_h1_ends', f_h1_colours', f_h2_knots', f_h2_threads', f_h2_ends', f_h2_colours', f_h3_knots', f_h3_threads', f_h3_ends', f_h3_colours')) : Met l yX1_push wsX1_push (rX1_push) (gPc D (tysG cI cC cN) [.ref q, .ref q_p0] [(q, .inr (1, [.ref q_states, .int f_size])), (q_states, .inl (cN, 4, .inr (.inr (.inr (.inr (hisG q_h0 q_h1 q_h2 q_h3)))))), (q_h0, .inr (2, [.int f_h0_knots, .int f_h0_threads, .ref q_h0_ends, .ref q_h0_colours])), (q_h0_ends, .inl (cI, 21, .inl f_h0_ends)), (q_h0_colours, .inl (cI, 21, .inl f_h0_colours)), (q_h1, .inr (2, [.int f_h1_knots, .int f_h1_threads, .ref q_h1_ends, .ref q_h1_colours])), (q_h1_ends, .inl (cI, 21, .inl f_h1_ends)), (q_h1_colours, .inl (cI, 21, .inl f_h1_colours)), (q_h2, .inr (2, [.int f_h2_knots, .int f_h2_threads, .ref q_h2_ends, .ref q_h2_colours])), (q_h2_ends, .inl (cI, 21, .inl f_h2_ends)), (q_h2_colours, .inl (cI, 21, .inl f_h2_colours)), (q_h3, .inr (2, [.int f_h3_knots, .int f_h3_threads, .ref q_h3_ends, .ref q_h3_colours])), (q_h3_ends, .inl (cI, 21, .inl f_h3_ends)), (q_h3_colours, .inl (cI, 21, .inl f_h3_colours)), (q_p0, .inr (2, [.int f_p0_knots, .int f_p0_threads, .ref q_p0_ends, .ref q_p0_colours])), (q_p0_ends, .inl (cI, 21, .inl f_p0_ends)), (q_p0_colours, .inl (cI, 21, .inl f_p0_colours))] sz) (gQv D (tysG cI cC cN) (va_A [(q, .inr (1, [.ref q_states, .int f_size])), (q_states, .inl (cN, 4, .inr (.inr (.inr (.inr (hisG q_h0 q_h1 q_h2 q_h3)))))), (q_h0, .inr (2, [.int f_h0_knots, .int f_h0_threads, .ref q_h0_ends, .ref q_h0_colours])), (q_h0_ends, .inl (cI, 21, .inl f_h0_ends)), (q_h0_colours, .inl (cI, 21, .inl f_h0_colours)), (q_h1, .inr (2, [.int f_h1_knots, .int f_h1_threads, .ref q_h1_ends, .ref q_h1_colours])), (q_h1_ends, .inl (cI, 21, .inl f_h1_ends)), (q_h1_colours, .inl (cI, 21, .inl f_h1_colours)), (q_h2, .inr (2, [.int f_h2_knots, .int f_h2_threads, .ref q_h2_ends, .ref q_h2_colours])), (q_h2_ends, .inl (cI, 21, .inl f_h2_ends)), (q_h2_colours, .inl (cI, 21, .inl f_h2_colours)), (q_h3, .inr (2, [.int f_h3_knots, .int f_h3_threads, .ref q_h3_ends, .ref q_h3_colours])), (q_h3_ends, .inl (cI, 21, .inl f_h3_ends)), (q_h3_colours, .inl (cI, 21, .inl f_h3_colours)), (q_p0, .inr (2, [.int f_p0_knots, .int f_p0_threads, .ref q_p0_ends, .ref q_p0_colours])), (q_p0_ends, .inl (cI, 21, .inl f_p0_ends)), (q_p0_colours, .inl (cI, 21, .inl f_p0_colours))] sz) [(q, .inr (1, [.ref q_states, .int f_size'])), (q_states, .inl (cN, 4, .inr (.inr (.inr (.inr (hisG q_h0 q_h1 q_h2 q_h3)))))), (q_h0, .inr (2, [.int f_h0_knots', .int f_h0_threads', .ref q_h0_ends, .ref q_h0_colours])), (q_h0_ends, .inl (cI, 21, .inl f_h0_ends')), (q_h0_colours, .inl (cI, 21, .inl f_h0_colours')), (q_h1, .inr (2, [.int f_h1_knots', .int f_h1_threads', .ref q_h1_ends, .ref q_h1_colours])), (q_h1_ends, .inl (cI, 21, .inl f_h1_ends')), (q_h1_colours, .inl (cI, 21, .inl f_h1_colours')), (q_h2, .inr (2, [.int f_h2_knots', .int f_h2_threads', .ref q_h2_ends, .ref q_h2_colours])), (q_h2_ends, .inl (cI, 21, .inl f_h2_ends')), (q_h2_colours, .inl (cI, 21, .inl f_h2_colours')), (q_h3, .inr (2, [.int f_h3_knots', .int f_h3_threads', .ref q_h3_ends, .ref q_h3_colours])), (q_h3_ends, .inl (cI, 21, .inl f_h3_ends')), (q_h3_colours, .inl (cI, 21, .inl f_h3_colours')), (q_p0, .inr (2, [.int f_p0_knots, .int f_p0_threads, .ref q_p0_ends, .ref q_p0_colours])), (q_p0_ends, .inl (cI, 21, .inl f_p0_ends)), (q_p0_colours, .inl (cI, 21, .inl f_p0_colours))]) 0 0 (va_A [(q, .inr (1, [.ref q_states, .int f_size])), (q_states, .inl (cN, 4, .inr (.inr (.inr (.inr (hisG q_h0 q_h1 q_h2 q_h3)))))), (q_h0, .inr (2, [.int f_h0_knots, .int f_h0_threads, .ref q_h0_ends, .ref q_h0_colours])), (q_h0_ends, .inl (cI, 21, .inl f_h0_ends)), (q_h0_colours, .inl (cI, 21, .inl f_h0_colours)), (q_h1, .inr (2, [.int f_h1_knots, .int f_h1_threads, .ref q_h1_ends, .ref q_h1_colours])), (q_h1_ends, .inl (cI, 21, .inl f_h1_ends)), (q_h1_colours, .inl (cI, 21, .inl f_h1_colours)), (q_h2, .inr (2, [.int f_h2_knots, .int f_h2_threads, .ref q_h2_ends, .ref q_h2_colours])), (q_h2_ends, .inl (cI, 21, .inl f_h2_ends)), (q_h2_colours, .inl (cI, 21, .inl f_h2_colours)), (q_h3, .inr (2, [.int f_h3_knots, .int f_h3_threads, .ref q_h3_ends, .ref q_h3_colours])), (q_h3_ends, .inl (cI, 21, .inl f_h3_ends)), (q_h3_colours, .inl (cI, 21, .inl f_h3_colours)), (q_p0, .inr (2, [.int f_p0_knots, .int f_p0_threads, .ref q_p0_ends, .ref q_p0_colours])), (q_p0_ends, .inl (cI, 21, .inl f_p0_ends)), (q_p0_colours, .inl (cI, 21, .inl f_p0_colours))] sz) := by
  unfold m_X1_push at hm
  refine g_openV (cc := cX1_push) (maxL := 3) (own := RX1) (by decide) rfl rfl (Nat.le_of_ble_eq_true rfl) ?_
  intro p e s m args below meth c A Q hx hb hml hown hts hP hK hN hD hA hret ls hl
  have hS : va_S A s.heap s.heap [] := va_S.rf
  have hl : lv_has ls 3 [(0, .ref q), (1, .ref q_p0)] := hl
  refine lv_aload_n hx hb dX1_push_0 rfl (lv_at hl 0 rfl) ?_
  refine va_get (D := D) (ci := 1) (v := .int f_size) (C := RX1) (T := TX1) (N := 2) hx hb hts (by decide +kernel) hown hK hP 0 rfl rfl 1 (by decide) (hts (.fieldLink RX1 18 "KnotStripes$History" "size" "I") (by decide +kernel)) (fun _ h9 => h9) rfl dX1_push_1 ?_
  refine lv_aload_n hx hb dX1_push_4 rfl (lv_at hl 0 rfl) ?_
  refine va_get (D := D) (ci := 1) (v := .ref q_states) (C := RX1) (T := TX1) (N := 2) hx hb hts (by decide +kernel) hown hK hP 0 rfl rfl 0 (by decide) (hts (.fieldLink RX1 11 "KnotStripes$History" "states" "[LKnotStripes$Net;") (by decide +kernel)) (fun _ h9 => h9) rfl dX1_push_5 ?_
  refine va_alen (D := D) (v := 4) hx hb hK hP 1 2 rfl rfl rfl dX1_push_8 ?_
  refine lv_icmp_lt (tgt := 16) hx hb dX1_push_9 (by decide) (fun hc => ?_) (fun hc => ?_)
  · have hm := if_t _ hc hm
    refine lv_aload_n hx hb dX1_push_16 rfl (lv_at hl 0 rfl) ?_
    refine va_get (D := D) (ci := 1) (v := .int f_size) (C := RX1) (T := TX1) (N := 2) hx hb hts (by decide +kernel) hown hK hP 0 rfl rfl 1 (by decide) (hts (.fieldLink RX1 18 "KnotStripes$History" "size" "I") (by decide +kernel)) (fun _ h9 => h9) rfl dX1_push_17 ?_
    refine lv_if_lt (tgt := 35) hx hb dX1_push_20 (by decide) (fun hc => ?_) (fun hc => ?_)
    · have hm := if_t _ hc hm
      have z1 := so_use hm
      obtain ⟨y1, z2⟩ := pr_use z1
      obtain ⟨y2, z3⟩ := pr_use z2
      obtain ⟨y3, z4⟩ := pr_use z3
      obtain ⟨y4, z5⟩ := pr_use z4
      obtain ⟨y5, z6⟩ := pr_use z5
      obtain ⟨y6, z7⟩ := pr_use z6
      obtain ⟨y7, z8⟩ := pr_use z7
      obtain ⟨y8, z9⟩ := pr_use z8
      obtain ⟨y9, z10⟩ := pr_use z9
      obtain ⟨y10, z11⟩ := pr_use z10
      obtain ⟨y11, z12⟩ := pr_use z11
      obtain ⟨y12, z13⟩ := pr_use z12
      obtain ⟨y13, z14⟩ := pr_use z13
      obtain ⟨y14, z15⟩ := pr_use z14
      obtain ⟨y15, z16⟩ := pr_use z15
      obtain ⟨y16, z17⟩ := pr_use z16
      subst y1
      subst y2
      subst y3
      subst y4
      subst y5
      subst y6
      subst y7
      subst y8
      subst y9
      subst y10
      subst y11
      subst y12
      subst y13
      subst y14
      subst y15
      subst y16
      subst z17
      exact hret _ _ _ _ dX1_push_35 hP hD hS
    · have hm := if_f _ hc hm
      refine lv_aload_n hx hb dX1_push_23 rfl (lv_at hl 0 rfl) ?_
      refine va_get (D := D) (ci := 1) (v := .int f_size) (C := RX1) (T := TX1) (N := 2) hx hb hts (by decide +kernel) hown hK hP 0 rfl rfl 1 (by decide) (hts (.fieldLink RX1 18 "KnotStripes$History" "size" "I") (by decide +kernel)) (fun _ h9 => h9) rfl dX1_push_24 ?_
      refine lv_aload_n hx hb dX1_push_27 rfl (lv_at hl 0 rfl) ?_
      refine va_get (D := D) (ci := 1) (v := .ref q_states) (C := RX1) (T := TX1) (N := 2) hx hb hts (by decide +kernel) hown hK hP 0 rfl rfl 0 (by decide) (hts (.fieldLink RX1 11 "KnotStripes$History" "states" "[LKnotStripes$Net;") (by decide +kernel)) (fun _ h9 => h9) rfl dX1_push_28 ?_
      refine va_alen (D := D) (v := 4) hx hb hK hP 1 2 rfl rfl rfl dX1_push_31 ?_
      refine lv_icmp_lt (tgt := 36) hx hb dX1_push_32 (by decide) (fun hc => ?_) (fun hc => ?_)
      · have hm := if_t _ hc hm
        refine lv_aload_n hx hb dX1_push_36 rfl (lv_at hl 0 rfl) ?_
        refine va_get (D := D) (ci := 1) (v := .ref q_states) (C := RX1) (T := TX1) (N := 2) hx hb hts (by decide +kernel) hown hK hP 0 rfl rfl 0 (by decide) (hts (.fieldLink RX1 11 "KnotStripes$History" "states" "[LKnotStripes$Net;") (by decide +kernel)) (fun _ h9 => h9) rfl dX1_push_37 ?_
        refine lv_aload_n hx hb dX1_push_40 rfl (lv_at hl 0 rfl) ?_
        refine va_get (D := D) (ci := 1) (v := .int f_size) (C := RX1) (T := TX1) (N := 2) hx hb hts (by decide +kernel) hown hK hP 0 rfl rfl 1 (by decide) (hts (.fieldLink RX1 18 "KnotStripes$History" "size" "I") (by decide +kernel)) (fun _ h9 => h9) rfl dX1_push_41 ?_
        by_cases hc0 : f_size = 0
        · have hm := if_t _ hc0 hm
          subst hc0
          refine va_aldq (D := D) (n := 4) (f := hisG q_h0 q_h1 q_h2 q_h3) hx hb hK hP 1 2 rfl rfl (by unfold vp_in; decide) dX1_push_44 ?_
          refine W.eq (g2 := F0 m 45 ls [.ref q_h0]) rfl ?_
          refine lv_astore_n (lv' := [(2, .ref q_h0), (0, .ref q), (1, .ref q_p0)]) hx hb dX1_push_45 rfl hl (by decide) rfl (fun ls hl => ?_)
          refine lv_aload_n hx hb dX1_push_46 rfl (lv_at hl 0 rfl) ?_
          refine lv_ifnull hx hb dX1_push_47 ?_
          refine lv_aload_n hx hb dX1_push_50 rfl (lv_at hl 0 rfl) ?_
          refine lv_aload_n hx hb dX1_push_51 rfl (lv_at hl 2 rfl) ?_
          obtain ⟨⟨f_h0_knots_1, f_h0_threads_2, f_h0_ends_3, f_h0_colours_4⟩, h_5, hm⟩ := bind_use hm
          refine g_kv (wc := [(q_h0, .inr (2, [.int f_h0_knots, .int f_h0_threads, .ref q_h0_ends, .ref q_h0_colours])), (q_h0_ends, .inl (cI, 21, .inl f_h0_ends)), (q_h0_colours, .inl (cI, 21, .inl f_h0_colours)), (q_p0, .inr (2, [.int f_p0_knots, .int f_p0_threads, .ref q_p0_ends, .ref q_p0_colours])), (q_p0_ends, .inl (cI, 21, .inl f_p0_ends)), (q_p0_colours, .inl (cI, 21, .inl f_p0_colours))]) (wr := [(q, .inr (1, [.ref q_states, .int 0])), (q_states, .inl (cN, 4, .inr (.inr (.inr (.inr (hisG q_h0 q_h1 q_h2 q_h3)))))), (q_h1, .inr (2, [.int f_h1_knots, .int f_h1_threads, .ref q_h1_ends, .ref q_h1_colours])), (q_h1_ends, .inl (cI, 21, .inl f_h1_ends)), (q_h1_colours, .inl (cI, 21, .inl f_h1_colours)), (q_h2, .inr (2, [.int f_h2_knots, .int f_h2_threads, .ref q_h2_ends, .ref q_h2_colours])), (q_h2_ends, .inl (cI, 21, .inl f_h2_ends)), (q_h2_colours, .inl (cI, 21, .inl f_h2_colours)), (q_h3, .inr (2, [.int f_h3_knots, .int f_h3_threads, .ref q_h3_ends, .ref q_h3_colours])), (q_h3_ends, .inl (cI, 21, .inl f_h3_ends)), (q_h3_colours, .inl (cI, 21, .inl f_h3_colours))]) (w2 := [(q, .inr (1, [.ref q_states, .int 0])), (q_states, .inl (cN, 4, .inr (.inr (.inr (.inr (hisG q_h0 q_h1 q_h2 q_h3)))))), (q_h1, .inr (2, [.int f_h1_knots, .int f_h1_threads, .ref q_h1_ends, .ref q_h1_colours])), (q_h1_ends, .inl (cI, 21, .inl f_h1_ends)), (q_h1_colours, .inl (cI, 21, .inl f_h1_colours)), (q_h2, .inr (2, [.int f_h2_knots, .int f_h2_threads, .ref q_h2_ends, .ref q_h2_colours])), (q_h2_ends, .inl (cI, 21, .inl f_h2_ends)), (q_h2_colours, .inl (cI, 21, .inl f_h2_colours)), (q_h3, .inr (2, [.int f_h3_knots, .int f_h3_threads, .ref q_h3_ends, .ref q_h3_colours])), (q_h3_ends, .inl (cI, 21, .inl f_h3_ends)), (q_h3_colours, .inl (cI, 21, .inl f_h3_colours)), (q_h0, .inr (2, [.int f_h0_knots_1, .int f_h0_threads_2, .ref q_h0_ends, .ref q_h0_colours])), (q_h0_ends, .inl (cI, 21, .inl f_h0_ends_3)), (q_h0_colours, .inl (cI, 21, .inl f_h0_colours_4)), (q_p0, .inr (2, [.int f_p0_knots, .int f_p0_threads, .ref q_p0_ends, .ref q_p0_colours])), (q_p0_ends, .inl (cI, 21, .inl f_p0_ends)), (q_p0_colours, .inl (cI, 21, .inl f_p0_colours))]) (va_runV (As := [.ref q_p0]) (rest := []) ⟨hx, hb, hml, hown, hts⟩ (k_X2_copyFrom l D cI cC cN N q_h0 q_h0_ends q_h0_colours q_p0 q_p0_ends q_p0_colours s.heap.size f_h0_knots f_h0_threads f_h0_ends f_h0_colours f_p0_knots f_p0_threads f_p0_ends f_p0_colours f_h0_knots_1 f_h0_threads_2 f_h0_ends_3 f_h0_colours_4 h_5) (cwV 1 hts gX1_push_X2_copyFrom rfl rfl rfl (by decide +kernel) ⟨Nat.le_of_ble_eq_true rfl, Nat.le_of_ble_eq_true rfl⟩) ⟨g_blind, va_recv (D := D) (ci := 2) (q0 := 2) hK hP rfl rfl, g_pre (hP.sub [2, 3, 4, 14, 15, 16] rfl) hK hN (hD.sub [2, 3, 4, 14, 15, 16] (by decide) rfl)⟩ rfl rfl hl.1 rfl (lv_room (Nat.le_of_ble_eq_true rfl)) dX1_push_52 ⟨Nat.zero_le _, Nat.zero_le _⟩) hP hD hS hA [2, 3, 4, 14, 15, 16] [0, 1, 5, 6, 7, 8, 9, 10, 11, 12, 13] rfl rfl (by decide) (by decide) rfl (fun H locs hP hD hS => ?_)
          refine lv_aload_n hx hb dX1_push_55 rfl (lv_at hl 1 rfl) ?_
          refine lv_dup hx hb dX1_push_56 rfl ?_
          refine va_get (D := D) (ci := 1) (v := .int 0) (C := RX1) (T := TX1) (N := 2) hx hb hts (by decide +kernel) hown hK hP 0 rfl rfl 1 (by decide) (hts (.fieldLink RX1 18 "KnotStripes$History" "size" "I") (by decide +kernel)) (fun _ h9 => h9) rfl dX1_push_57 ?_
          refine lv_iconst (v := 1) hx hb dX1_push_60 (by decide) ?_
          refine lv_iadd hx hb dX1_push_61 ?_
          refine lv_topi (fun t_6 et_6 => ?_)
          obtain rfl : t_6 = 1 := et_6.trans (by decide)
          refine va_put (D := D) (ci := 1) (v := .int 1) (ty := .int) (C := RX1) (T := TX1) (N := 2) hx hb hts (by decide +kernel) tyX1 tyX1_ok nmX1 hown hK hP hD hS 0 rfl rfl 1 (by decide) (hts (.fieldLink RX1 18 "KnotStripes$History" "size" "I") (by decide +kernel)) (fun _ h9 => h9) rfl (by decide +kernel) rfl rfl (Nat.le_of_ble_eq_true rfl) dX1_push_62 (fun H locs hP hD hS => ?_)
          have hP : va_P D vwCl [(q, .inr (1, [.ref q_states, .int 1])), (q_states, .inl (cN, 4, .inr (.inr (.inr (.inr (hisG q_h0 q_h1 q_h2 q_h3)))))), (q_h1, .inr (2, [.int f_h1_knots, .int f_h1_threads, .ref q_h1_ends, .ref q_h1_colours])), (q_h1_ends, .inl (cI, 21, .inl f_h1_ends)), (q_h1_colours, .inl (cI, 21, .inl f_h1_colours)), (q_h2, .inr (2, [.int f_h2_knots, .int f_h2_threads, .ref q_h2_ends, .ref q_h2_colours])), (q_h2_ends, .inl (cI, 21, .inl f_h2_ends)), (q_h2_colours, .inl (cI, 21, .inl f_h2_colours)), (q_h3, .inr (2, [.int f_h3_knots, .int f_h3_threads, .ref q_h3_ends, .ref q_h3_colours])), (q_h3_ends, .inl (cI, 21, .inl f_h3_ends)), (q_h3_colours, .inl (cI, 21, .inl f_h3_colours)), (q_h0, .inr (2, [.int f_h0_knots_1, .int f_h0_threads_2, .ref q_h0_ends, .ref q_h0_colours])), (q_h0_ends, .inl (cI, 21, .inl f_h0_ends_3)), (q_h0_colours, .inl (cI, 21, .inl f_h0_colours_4)), (q_p0, .inr (2, [.int f_p0_knots, .int f_p0_threads, .ref q_p0_ends, .ref q_p0_colours])), (q_p0_ends, .inl (cI, 21, .inl f_p0_ends)), (q_p0_colours, .inl (cI, 21, .inl f_p0_colours))] H := hP
          have hD : va_D A [(q, .inr (1, [.ref q_states, .int 1])), (q_states, .inl (cN, 4, .inr (.inr (.inr (.inr (hisG q_h0 q_h1 q_h2 q_h3)))))), (q_h1, .inr (2, [.int f_h1_knots, .int f_h1_threads, .ref q_h1_ends, .ref q_h1_colours])), (q_h1_ends, .inl (cI, 21, .inl f_h1_ends)), (q_h1_colours, .inl (cI, 21, .inl f_h1_colours)), (q_h2, .inr (2, [.int f_h2_knots, .int f_h2_threads, .ref q_h2_ends, .ref q_h2_colours])), (q_h2_ends, .inl (cI, 21, .inl f_h2_ends)), (q_h2_colours, .inl (cI, 21, .inl f_h2_colours)), (q_h3, .inr (2, [.int f_h3_knots, .int f_h3_threads, .ref q_h3_ends, .ref q_h3_colours])), (q_h3_ends, .inl (cI, 21, .inl f_h3_ends)), (q_h3_colours, .inl (cI, 21, .inl f_h3_colours)), (q_h0, .inr (2, [.int f_h0_knots_1, .int f_h0_threads_2, .ref q_h0_ends, .ref q_h0_colours])), (q_h0_ends, .inl (cI, 21, .inl f_h0_ends_3)), (q_h0_colours, .inl (cI, 21, .inl f_h0_colours_4)), (q_p0, .inr (2, [.int f_p0_knots, .int f_p0_threads, .ref q_p0_ends, .ref q_p0_colours])), (q_p0_ends, .inl (cI, 21, .inl f_p0_ends)), (q_p0_colours, .inl (cI, 21, .inl f_p0_colours))] := hD
          have z1 := so_use hm
          obtain ⟨y1, z2⟩ := pr_use z1
          obtain ⟨y2, z3⟩ := pr_use z2
          obtain ⟨y3, z4⟩ := pr_use z3
          obtain ⟨y4, z5⟩ := pr_use z4
          obtain ⟨y5, z6⟩ := pr_use z5
          obtain ⟨y6, z7⟩ := pr_use z6
          obtain ⟨y7, z8⟩ := pr_use z7
          obtain ⟨y8, z9⟩ := pr_use z8
          obtain ⟨y9, z10⟩ := pr_use z9
          obtain ⟨y10, z11⟩ := pr_use z10
          obtain ⟨y11, z12⟩ := pr_use z11
          obtain ⟨y12, z13⟩ := pr_use z12
          obtain ⟨y13, z14⟩ := pr_use z13
          obtain ⟨y14, z15⟩ := pr_use z14
          obtain ⟨y15, z16⟩ := pr_use z15
          obtain ⟨y16, z17⟩ := pr_use z16
          subst y1
          subst y2
          subst y3
          subst y4
          subst y5
          subst y6
          subst y7
          subst y8
          subst y9
          subst y10
          subst y11
          subst y12
          subst y13
          subst y14
          subst y15
          subst y16
          subst z17
          exact hret _ _ _ _ dX1_push_65 (hP.sub [0, 1, 11, 12, 13, 2, 3, 4, 5, 6, 7, 8, 9, 10, 14, 15, 16] rfl) (hD.sub [0, 1, 11, 12, 13, 2, 3, 4, 5, 6, 7, 8, 9, 10, 14, 15, 16] (by decide) rfl) hS
        · have hm := if_f _ hc0 hm
          by_cases hc1 : f_size = 1
          · have hm := if_t _ hc1 hm
            subst hc1
            refine va_aldq (D := D) (n := 4) (f := hisG q_h0 q_h1 q_h2 q_h3) hx hb hK hP 1 2 rfl rfl (by unfold vp_in; decide) dX1_push_44 ?_
            refine W.eq (g2 := F0 m 45 ls [.ref q_h1]) rfl ?_
            refine lv_astore_n (lv' := [(2, .ref q_h1), (0, .ref q), (1, .ref q_p0)]) hx hb dX1_push_45 rfl hl (by decide) rfl (fun ls hl => ?_)
            refine lv_aload_n hx hb dX1_push_46 rfl (lv_at hl 0 rfl) ?_
            refine lv_ifnull hx hb dX1_push_47 ?_
            refine lv_aload_n hx hb dX1_push_50 rfl (lv_at hl 0 rfl) ?_
            refine lv_aload_n hx hb dX1_push_51 rfl (lv_at hl 2 rfl) ?_
            obtain ⟨⟨f_h1_knots_7, f_h1_threads_8, f_h1_ends_9, f_h1_colours_10⟩, h_11, hm⟩ := bind_use hm
            refine g_kv (wc := [(q_h1, .inr (2, [.int f_h1_knots, .int f_h1_threads, .ref q_h1_ends, .ref q_h1_colours])), (q_h1_ends, .inl (cI, 21, .inl f_h1_ends)), (q_h1_colours, .inl (cI, 21, .inl f_h1_colours)), (q_p0, .inr (2, [.int f_p0_knots, .int f_p0_threads, .ref q_p0_ends, .ref q_p0_colours])), (q_p0_ends, .inl (cI, 21, .inl f_p0_ends)), (q_p0_colours, .inl (cI, 21, .inl f_p0_colours))]) (wr := [(q, .inr (1, [.ref q_states, .int 1])), (q_states, .inl (cN, 4, .inr (.inr (.inr (.inr (hisG q_h0 q_h1 q_h2 q_h3)))))), (q_h0, .inr (2, [.int f_h0_knots, .int f_h0_threads, .ref q_h0_ends, .ref q_h0_colours])), (q_h0_ends, .inl (cI, 21, .inl f_h0_ends)), (q_h0_colours, .inl (cI, 21, .inl f_h0_colours)), (q_h2, .inr (2, [.int f_h2_knots, .int f_h2_threads, .ref q_h2_ends, .ref q_h2_colours])), (q_h2_ends, .inl (cI, 21, .inl f_h2_ends)), (q_h2_colours, .inl (cI, 21, .inl f_h2_colours)), (q_h3, .inr (2, [.int f_h3_knots, .int f_h3_threads, .ref q_h3_ends, .ref q_h3_colours])), (q_h3_ends, .inl (cI, 21, .inl f_h3_ends)), (q_h3_colours, .inl (cI, 21, .inl f_h3_colours))]) (w2 := [(q, .inr (1, [.ref q_states, .int 1])), (q_states, .inl (cN, 4, .inr (.inr (.inr (.inr (hisG q_h0 q_h1 q_h2 q_h3)))))), (q_h0, .inr (2, [.int f_h0_knots, .int f_h0_threads, .ref q_h0_ends, .ref q_h0_colours])), (q_h0_ends, .inl (cI, 21, .inl f_h0_ends)), (q_h0_colours, .inl (cI, 21, .inl f_h0_colours)), (q_h2, .inr (2, [.int f_h2_knots, .int f_h2_threads, .ref q_h2_ends, .ref q_h2_colours])), (q_h2_ends, .inl (cI, 21, .inl f_h2_ends)), (q_h2_colours, .inl (cI, 21, .inl f_h2_colours)), (q_h3, .inr (2, [.int f_h3_knots, .int f_h3_threads, .ref q_h3_ends, .ref q_h3_colours])), (q_h3_ends, .inl (cI, 21, .inl f_h3_ends)), (q_h3_colours, .inl (cI, 21, .inl f_h3_colours)), (q_h1, .inr (2, [.int f_h1_knots_7, .int f_h1_threads_8, .ref q_h1_ends, .ref q_h1_colours])), (q_h1_ends, .inl (cI, 21, .inl f_h1_ends_9)), (q_h1_colours, .inl (cI, 21, .inl f_h1_colours_10)), (q_p0, .inr (2, [.int f_p0_knots, .int f_p0_threads, .ref q_p0_ends, .ref q_p0_colours])), (q_p0_ends, .inl (cI, 21, .inl f_p0_ends)), (q_p0_colours, .inl (cI, 21, .inl f_p0_colours))]) (va_runV (As := [.ref q_p0]) (rest := []) ⟨hx, hb, hml, hown, hts⟩ (k_X2_copyFrom l D cI cC cN N q_h1 q_h1_ends q_h1_colours q_p0 q_p0_ends q_p0_colours s.heap.size f_h1_knots f_h1_threads f_h1_ends f_h1_colours f_p0_knots f_p0_threads f_p0_ends f_p0_colours f_h1_knots_7 f_h1_threads_8 f_h1_ends_9 f_h1_colours_10 h_11) (cwV 1 hts gX1_push_X2_copyFrom rfl rfl rfl (by decide +kernel) ⟨Nat.le_of_ble_eq_true rfl, Nat.le_of_ble_eq_true rfl⟩) ⟨g_blind, va_recv (D := D) (ci := 2) (q0 := 5) hK hP rfl rfl, g_pre (hP.sub [5, 6, 7, 14, 15, 16] rfl) hK hN (hD.sub [5, 6, 7, 14, 15, 16] (by decide) rfl)⟩ rfl rfl hl.1 rfl (lv_room (Nat.le_of_ble_eq_true rfl)) dX1_push_52 ⟨Nat.zero_le _, Nat.zero_le _⟩) hP hD hS hA [5, 6, 7, 14, 15, 16] [0, 1, 2, 3, 4, 8, 9, 10, 11, 12, 13] rfl rfl (by decide) (by decide) rfl (fun H locs hP hD hS => ?_)
            refine lv_aload_n hx hb dX1_push_55 rfl (lv_at hl 1 rfl) ?_
            refine lv_dup hx hb dX1_push_56 rfl ?_
            refine va_get (D := D) (ci := 1) (v := .int 1) (C := RX1) (T := TX1) (N := 2) hx hb hts (by decide +kernel) hown hK hP 0 rfl rfl 1 (by decide) (hts (.fieldLink RX1 18 "KnotStripes$History" "size" "I") (by decide +kernel)) (fun _ h9 => h9) rfl dX1_push_57 ?_
            refine lv_iconst (v := 1) hx hb dX1_push_60 (by decide) ?_
            refine lv_iadd hx hb dX1_push_61 ?_
            refine lv_topi (fun t_12 et_12 => ?_)
            obtain rfl : t_12 = 2 := et_12.trans (by decide)
            refine va_put (D := D) (ci := 1) (v := .int 2) (ty := .int) (C := RX1) (T := TX1) (N := 2) hx hb hts (by decide +kernel) tyX1 tyX1_ok nmX1 hown hK hP hD hS 0 rfl rfl 1 (by decide) (hts (.fieldLink RX1 18 "KnotStripes$History" "size" "I") (by decide +kernel)) (fun _ h9 => h9) rfl (by decide +kernel) rfl rfl (Nat.le_of_ble_eq_true rfl) dX1_push_62 (fun H locs hP hD hS => ?_)
            have hP : va_P D vwCl [(q, .inr (1, [.ref q_states, .int 2])), (q_states, .inl (cN, 4, .inr (.inr (.inr (.inr (hisG q_h0 q_h1 q_h2 q_h3)))))), (q_h0, .inr (2, [.int f_h0_knots, .int f_h0_threads, .ref q_h0_ends, .ref q_h0_colours])), (q_h0_ends, .inl (cI, 21, .inl f_h0_ends)), (q_h0_colours, .inl (cI, 21, .inl f_h0_colours)), (q_h2, .inr (2, [.int f_h2_knots, .int f_h2_threads, .ref q_h2_ends, .ref q_h2_colours])), (q_h2_ends, .inl (cI, 21, .inl f_h2_ends)), (q_h2_colours, .inl (cI, 21, .inl f_h2_colours)), (q_h3, .inr (2, [.int f_h3_knots, .int f_h3_threads, .ref q_h3_ends, .ref q_h3_colours])), (q_h3_ends, .inl (cI, 21, .inl f_h3_ends)), (q_h3_colours, .inl (cI, 21, .inl f_h3_colours)), (q_h1, .inr (2, [.int f_h1_knots_7, .int f_h1_threads_8, .ref q_h1_ends, .ref q_h1_colours])), (q_h1_ends, .inl (cI, 21, .inl f_h1_ends_9)), (q_h1_colours, .inl (cI, 21, .inl f_h1_colours_10)), (q_p0, .inr (2, [.int f_p0_knots, .int f_p0_threads, .ref q_p0_ends, .ref q_p0_colours])), (q_p0_ends, .inl (cI, 21, .inl f_p0_ends)), (q_p0_colours, .inl (cI, 21, .inl f_p0_colours))] H := hP
            have hD : va_D A [(q, .inr (1, [.ref q_states, .int 2])), (q_states, .inl (cN, 4, .inr (.inr (.inr (.inr (hisG q_h0 q_h1 q_h2 q_h3)))))), (q_h0, .inr (2, [.int f_h0_knots, .int f_h0_threads, .ref q_h0_ends, .ref q_h0_colours])), (q_h0_ends, .inl (cI, 21, .inl f_h0_ends)), (q_h0_colours, .inl (cI, 21, .inl f_h0_colours)), (q_h2, .inr (2, [.int f_h2_knots, .int f_h2_threads, .ref q_h2_ends, .ref q_h2_colours])), (q_h2_ends, .inl (cI, 21, .inl f_h2_ends)), (q_h2_colours, .inl (cI, 21, .inl f_h2_colours)), (q_h3, .inr (2, [.int f_h3_knots, .int f_h3_threads, .ref q_h3_ends, .ref q_h3_colours])), (q_h3_ends, .inl (cI, 21, .inl f_h3_ends)), (q_h3_colours, .inl (cI, 21, .inl f_h3_colours)), (q_h1, .inr (2, [.int f_h1_knots_7, .int f_h1_threads_8, .ref q_h1_ends, .ref q_h1_colours])), (q_h1_ends, .inl (cI, 21, .inl f_h1_ends_9)), (q_h1_colours, .inl (cI, 21, .inl f_h1_colours_10)), (q_p0, .inr (2, [.int f_p0_knots, .int f_p0_threads, .ref q_p0_ends, .ref q_p0_colours])), (q_p0_ends, .inl (cI, 21, .inl f_p0_ends)), (q_p0_colours, .inl (cI, 21, .inl f_p0_colours))] := hD
            have z1 := so_use hm
            obtain ⟨y1, z2⟩ := pr_use z1
            obtain ⟨y2, z3⟩ := pr_use z2
            obtain ⟨y3, z4⟩ := pr_use z3
            obtain ⟨y4, z5⟩ := pr_use z4
            obtain ⟨y5, z6⟩ := pr_use z5
            obtain ⟨y6, z7⟩ := pr_use z6
            obtain ⟨y7, z8⟩ := pr_use z7
            obtain ⟨y8, z9⟩ := pr_use z8
            obtain ⟨y9, z10⟩ := pr_use z9
            obtain ⟨y10, z11⟩ := pr_use z10
            obtain ⟨y11, z12⟩ := pr_use z11
            obtain ⟨y12, z13⟩ := pr_use z12
            obtain ⟨y13, z14⟩ := pr_use z13
            obtain ⟨y14, z15⟩ := pr_use z14
            obtain ⟨y15, z16⟩ := pr_use z15
            obtain ⟨y16, z17⟩ := pr_use z16
            subst y1
            subst y2
            subst y3
            subst y4
            subst y5
            subst y6
            subst y7
            subst y8
            subst y9
            subst y10
            subst y11
            subst y12
            subst y13
            subst y14
            subst y15
            subst y16
            subst z17
            exact hret _ _ _ _ dX1_push_65 (hP.sub [0, 1, 2, 3, 4, 11, 12, 13, 5, 6, 7, 8, 9, 10, 14, 15, 16] rfl) (hD.sub [0, 1, 2, 3, 4, 11, 12, 13, 5, 6, 7, 8, 9, 10, 14, 15, 16] (by decide) rfl) hS
          · have hm := if_f _ hc1 hm
            by_cases hc2 : f_size = 2
            · have hm := if_t _ hc2 hm
              subst hc2
              refine va_aldq (D := D) (n := 4) (f := hisG q_h0 q_h1 q_h2 q_h3) hx hb hK hP 1 2 rfl rfl (by unfold vp_in; decide) dX1_push_44 ?_
              refine W.eq (g2 := F0 m 45 ls [.ref q_h2]) rfl ?_
              refine lv_astore_n (lv' := [(2, .ref q_h2), (0, .ref q), (1, .ref q_p0)]) hx hb dX1_push_45 rfl hl (by decide) rfl (fun ls hl => ?_)
              refine lv_aload_n hx hb dX1_push_46 rfl (lv_at hl 0 rfl) ?_
              refine lv_ifnull hx hb dX1_push_47 ?_
              refine lv_aload_n hx hb dX1_push_50 rfl (lv_at hl 0 rfl) ?_
              refine lv_aload_n hx hb dX1_push_51 rfl (lv_at hl 2 rfl) ?_
              obtain ⟨⟨f_h2_knots_13, f_h2_threads_14, f_h2_ends_15, f_h2_colours_16⟩, h_17, hm⟩ := bind_use hm
              refine g_kv (wc := [(q_h2, .inr (2, [.int f_h2_knots, .int f_h2_threads, .ref q_h2_ends, .ref q_h2_colours])), (q_h2_ends, .inl (cI, 21, .inl f_h2_ends)), (q_h2_colours, .inl (cI, 21, .inl f_h2_colours)), (q_p0, .inr (2, [.int f_p0_knots, .int f_p0_threads, .ref q_p0_ends, .ref q_p0_colours])), (q_p0_ends, .inl (cI, 21, .inl f_p0_ends)), (q_p0_colours, .inl (cI, 21, .inl f_p0_colours))]) (wr := [(q, .inr (1, [.ref q_states, .int 2])), (q_states, .inl (cN, 4, .inr (.inr (.inr (.inr (hisG q_h0 q_h1 q_h2 q_h3)))))), (q_h0, .inr (2, [.int f_h0_knots, .int f_h0_threads, .ref q_h0_ends, .ref q_h0_colours])), (q_h0_ends, .inl (cI, 21, .inl f_h0_ends)), (q_h0_colours, .inl (cI, 21, .inl f_h0_colours)), (q_h1, .inr (2, [.int f_h1_knots, .int f_h1_threads, .ref q_h1_ends, .ref q_h1_colours])), (q_h1_ends, .inl (cI, 21, .inl f_h1_ends)), (q_h1_colours, .inl (cI, 21, .inl f_h1_colours)), (q_h3, .inr (2, [.int f_h3_knots, .int f_h3_threads, .ref q_h3_ends, .ref q_h3_colours])), (q_h3_ends, .inl (cI, 21, .inl f_h3_ends)), (q_h3_colours, .inl (cI, 21, .inl f_h3_colours))]) (w2 := [(q, .inr (1, [.ref q_states, .int 2])), (q_states, .inl (cN, 4, .inr (.inr (.inr (.inr (hisG q_h0 q_h1 q_h2 q_h3)))))), (q_h0, .inr (2, [.int f_h0_knots, .int f_h0_threads, .ref q_h0_ends, .ref q_h0_colours])), (q_h0_ends, .inl (cI, 21, .inl f_h0_ends)), (q_h0_colours, .inl (cI, 21, .inl f_h0_colours)), (q_h1, .inr (2, [.int f_h1_knots, .int f_h1_threads, .ref q_h1_ends, .ref q_h1_colours])), (q_h1_ends, .inl (cI, 21, .inl f_h1_ends)), (q_h1_colours, .inl (cI, 21, .inl f_h1_colours)), (q_h3, .inr (2, [.int f_h3_knots, .int f_h3_threads, .ref q_h3_ends, .ref q_h3_colours])), (q_h3_ends, .inl (cI, 21, .inl f_h3_ends)), (q_h3_colours, .inl (cI, 21, .inl f_h3_colours)), (q_h2, .inr (2, [.int f_h2_knots_13, .int f_h2_threads_14, .ref q_h2_ends, .ref q_h2_colours])), (q_h2_ends, .inl (cI, 21, .inl f_h2_ends_15)), (q_h2_colours, .inl (cI, 21, .inl f_h2_colours_16)), (q_p0, .inr (2, [.int f_p0_knots, .int f_p0_threads, .ref q_p0_ends, .ref q_p0_colours])), (q_p0_ends, .inl (cI, 21, .inl f_p0_ends)), (q_p0_colours, .inl (cI, 21, .inl f_p0_colours))]) (va_runV (As := [.ref q_p0]) (rest := []) ⟨hx, hb, hml, hown, hts⟩ (k_X2_copyFrom l D cI cC cN N q_h2 q_h2_ends q_h2_colours q_p0 q_p0_ends q_p0_colours s.heap.size f_h2_knots f_h2_threads f_h2_ends f_h2_colours f_p0_knots f_p0_threads f_p0_ends f_p0_colours f_h2_knots_13 f_h2_threads_14 f_h2_ends_15 f_h2_colours_16 h_17) (cwV 1 hts gX1_push_X2_copyFrom rfl rfl rfl (by decide +kernel) ⟨Nat.le_of_ble_eq_true rfl, Nat.le_of_ble_eq_true rfl⟩) ⟨g_blind, va_recv (D := D) (ci := 2) (q0 := 8) hK hP rfl rfl, g_pre (hP.sub [8, 9, 10, 14, 15, 16] rfl) hK hN (hD.sub [8, 9, 10, 14, 15, 16] (by decide) rfl)⟩ rfl rfl hl.1 rfl (lv_room (Nat.le_of_ble_eq_true rfl)) dX1_push_52 ⟨Nat.zero_le _, Nat.zero_le _⟩) hP hD hS hA [8, 9, 10, 14, 15, 16] [0, 1, 2, 3, 4, 5, 6, 7, 11, 12, 13] rfl rfl (by decide) (by decide) rfl (fun H locs hP hD hS => ?_)
              refine lv_aload_n hx hb dX1_push_55 rfl (lv_at hl 1 rfl) ?_
              refine lv_dup hx hb dX1_push_56 rfl ?_
              refine va_get (D := D) (ci := 1) (v := .int 2) (C := RX1) (T := TX1) (N := 2) hx hb hts (by decide +kernel) hown hK hP 0 rfl rfl 1 (by decide) (hts (.fieldLink RX1 18 "KnotStripes$History" "size" "I") (by decide +kernel)) (fun _ h9 => h9) rfl dX1_push_57 ?_
              refine lv_iconst (v := 1) hx hb dX1_push_60 (by decide) ?_
              refine lv_iadd hx hb dX1_push_61 ?_
              refine lv_topi (fun t_18 et_18 => ?_)
              obtain rfl : t_18 = 3 := et_18.trans (by decide)
              refine va_put (D := D) (ci := 1) (v := .int 3) (ty := .int) (C := RX1) (T := TX1) (N := 2) hx hb hts (by decide +kernel) tyX1 tyX1_ok nmX1 hown hK hP hD hS 0 rfl rfl 1 (by decide) (hts (.fieldLink RX1 18 "KnotStripes$History" "size" "I") (by decide +kernel)) (fun _ h9 => h9) rfl (by decide +kernel) rfl rfl (Nat.le_of_ble_eq_true rfl) dX1_push_62 (fun H locs hP hD hS => ?_)
              have hP : va_P D vwCl [(q, .inr (1, [.ref q_states, .int 3])), (q_states, .inl (cN, 4, .inr (.inr (.inr (.inr (hisG q_h0 q_h1 q_h2 q_h3)))))), (q_h0, .inr (2, [.int f_h0_knots, .int f_h0_threads, .ref q_h0_ends, .ref q_h0_colours])), (q_h0_ends, .inl (cI, 21, .inl f_h0_ends)), (q_h0_colours, .inl (cI, 21, .inl f_h0_colours)), (q_h1, .inr (2, [.int f_h1_knots, .int f_h1_threads, .ref q_h1_ends, .ref q_h1_colours])), (q_h1_ends, .inl (cI, 21, .inl f_h1_ends)), (q_h1_colours, .inl (cI, 21, .inl f_h1_colours)), (q_h3, .inr (2, [.int f_h3_knots, .int f_h3_threads, .ref q_h3_ends, .ref q_h3_colours])), (q_h3_ends, .inl (cI, 21, .inl f_h3_ends)), (q_h3_colours, .inl (cI, 21, .inl f_h3_colours)), (q_h2, .inr (2, [.int f_h2_knots_13, .int f_h2_threads_14, .ref q_h2_ends, .ref q_h2_colours])), (q_h2_ends, .inl (cI, 21, .inl f_h2_ends_15)), (q_h2_colours, .inl (cI, 21, .inl f_h2_colours_16)), (q_p0, .inr (2, [.int f_p0_knots, .int f_p0_threads, .ref q_p0_ends, .ref q_p0_colours])), (q_p0_ends, .inl (cI, 21, .inl f_p0_ends)), (q_p0_colours, .inl (cI, 21, .inl f_p0_colours))] H := hP
              have hD : va_D A [(q, .inr (1, [.ref q_states, .int 3])), (q_states, .inl (cN, 4, .inr (.inr (.inr (.inr (hisG q_h0 q_h1 q_h2 q_h3)))))), (q_h0, .inr (2, [.int f_h0_knots, .int f_h0_threads, .ref q_h0_ends, .ref q_h0_colours])), (q_h0_ends, .inl (cI, 21, .inl f_h0_ends)), (q_h0_colours, .inl (cI, 21, .inl f_h0_colours)), (q_h1, .inr (2, [.int f_h1_knots, .int f_h1_threads, .ref q_h1_ends, .ref q_h1_colours])), (q_h1_ends, .inl (cI, 21, .inl f_h1_ends)), (q_h1_colours, .inl (cI, 21, .inl f_h1_colours)), (q_h3, .inr (2, [.int f_h3_knots, .int f_h3_threads, .ref q_h3_ends, .ref q_h3_colours])), (q_h3_ends, .inl (cI, 21, .inl f_h3_ends)), (q_h3_colours, .inl (cI, 21, .inl f_h3_colours)), (q_h2, .inr (2, [.int f_h2_knots_13, .int f_h2_threads_14, .ref q_h2_ends, .ref q_h2_colours])), (q_h2_ends, .inl (cI, 21, .inl f_h2_ends_15)), (q_h2_colours, .inl (cI, 21, .inl f_h2_colours_16)), (q_p0, .inr (2, [.int f_p0_knots, .int f_p0_threads, .ref q_p0_ends, .ref q_p0_colours])), (q_p0_ends, .inl (cI, 21, .inl f_p0_ends)), (q_p0_colours, .inl (cI, 21, .inl f_p0_colours))] := hD
              have z1 := so_use hm
              obtain ⟨y1, z2⟩ := pr_use z1
              obtain ⟨y2, z3⟩ := pr_use z2
              obtain ⟨y3, z4⟩ := pr_use z3
              obtain ⟨y4, z5⟩ := pr_use z4
              obtain ⟨y5, z6⟩ := pr_use z5
              obtain ⟨y6, z7⟩ := pr_use z6
              obtain ⟨y7, z8⟩ := pr_use z7
              obtain ⟨y8, z9⟩ := pr_use z8
              obtain ⟨y9, z10⟩ := pr_use z9
              obtain ⟨y10, z11⟩ := pr_use z10
              obtain ⟨y11, z12⟩ := pr_use z11
              obtain ⟨y12, z13⟩ := pr_use z12
              obtain ⟨y13, z14⟩ := pr_use z13
              obtain ⟨y14, z15⟩ := pr_use z14
              obtain ⟨y15, z16⟩ := pr_use z15
              obtain ⟨y16, z17⟩ := pr_use z16
              subst y1
              subst y2
              subst y3
              subst y4
              subst y5
              subst y6
              subst y7
              subst y8
              subst y9
              subst y10
              subst y11
              subst y12
              subst y13
              subst y14
              subst y15
              subst y16
              subst z17
              exact hret _ _ _ _ dX1_push_65 (hP.sub [0, 1, 2, 3, 4, 5, 6, 7, 11, 12, 13, 8, 9, 10, 14, 15, 16] rfl) (hD.sub [0, 1, 2, 3, 4, 5, 6, 7, 11, 12, 13, 8, 9, 10, 14, 15, 16] (by decide) rfl) hS
            · have hm := if_f _ hc2 hm
              by_cases hc3 : f_size = 3
              · have hm := if_t _ hc3 hm
                subst hc3
                refine va_aldq (D := D) (n := 4) (f := hisG q_h0 q_h1 q_h2 q_h3) hx hb hK hP 1 2 rfl rfl (by unfold vp_in; decide) dX1_push_44 ?_
                refine W.eq (g2 := F0 m 45 ls [.ref q_h3]) rfl ?_
                refine lv_astore_n (lv' := [(2, .ref q_h3), (0, .ref q), (1, .ref q_p0)]) hx hb dX1_push_45 rfl hl (by decide) rfl (fun ls hl => ?_)
                refine lv_aload_n hx hb dX1_push_46 rfl (lv_at hl 0 rfl) ?_
                refine lv_ifnull hx hb dX1_push_47 ?_
                refine lv_aload_n hx hb dX1_push_50 rfl (lv_at hl 0 rfl) ?_
                refine lv_aload_n hx hb dX1_push_51 rfl (lv_at hl 2 rfl) ?_
                obtain ⟨⟨f_h3_knots_19, f_h3_threads_20, f_h3_ends_21, f_h3_colours_22⟩, h_23, hm⟩ := bind_use hm
                refine g_kv (wc := [(q_h3, .inr (2, [.int f_h3_knots, .int f_h3_threads, .ref q_h3_ends, .ref q_h3_colours])), (q_h3_ends, .inl (cI, 21, .inl f_h3_ends)), (q_h3_colours, .inl (cI, 21, .inl f_h3_colours)), (q_p0, .inr (2, [.int f_p0_knots, .int f_p0_threads, .ref q_p0_ends, .ref q_p0_colours])), (q_p0_ends, .inl (cI, 21, .inl f_p0_ends)), (q_p0_colours, .inl (cI, 21, .inl f_p0_colours))]) (wr := [(q, .inr (1, [.ref q_states, .int 3])), (q_states, .inl (cN, 4, .inr (.inr (.inr (.inr (hisG q_h0 q_h1 q_h2 q_h3)))))), (q_h0, .inr (2, [.int f_h0_knots, .int f_h0_threads, .ref q_h0_ends, .ref q_h0_colours])), (q_h0_ends, .inl (cI, 21, .inl f_h0_ends)), (q_h0_colours, .inl (cI, 21, .inl f_h0_colours)), (q_h1, .inr (2, [.int f_h1_knots, .int f_h1_threads, .ref q_h1_ends, .ref q_h1_colours])), (q_h1_ends, .inl (cI, 21, .inl f_h1_ends)), (q_h1_colours, .inl (cI, 21, .inl f_h1_colours)), (q_h2, .inr (2, [.int f_h2_knots, .int f_h2_threads, .ref q_h2_ends, .ref q_h2_colours])), (q_h2_ends, .inl (cI, 21, .inl f_h2_ends)), (q_h2_colours, .inl (cI, 21, .inl f_h2_colours))]) (w2 := [(q, .inr (1, [.ref q_states, .int 3])), (q_states, .inl (cN, 4, .inr (.inr (.inr (.inr (hisG q_h0 q_h1 q_h2 q_h3)))))), (q_h0, .inr (2, [.int f_h0_knots, .int f_h0_threads, .ref q_h0_ends, .ref q_h0_colours])), (q_h0_ends, .inl (cI, 21, .inl f_h0_ends)), (q_h0_colours, .inl (cI, 21, .inl f_h0_colours)), (q_h1, .inr (2, [.int f_h1_knots, .int f_h1_threads, .ref q_h1_ends, .ref q_h1_colours])), (q_h1_ends, .inl (cI, 21, .inl f_h1_ends)), (q_h1_colours, .inl (cI, 21, .inl f_h1_colours)), (q_h2, .inr (2, [.int f_h2_knots, .int f_h2_threads, .ref q_h2_ends, .ref q_h2_colours])), (q_h2_ends, .inl (cI, 21, .inl f_h2_ends)), (q_h2_colours, .inl (cI, 21, .inl f_h2_colours)), (q_h3, .inr (2, [.int f_h3_knots_19, .int f_h3_threads_20, .ref q_h3_ends, .ref q_h3_colours])), (q_h3_ends, .inl (cI, 21, .inl f_h3_ends_21)), (q_h3_colours, .inl (cI, 21, .inl f_h3_colours_22)), (q_p0, .inr (2, [.int f_p0_knots, .int f_p0_threads, .ref q_p0_ends, .ref q_p0_colours])), (q_p0_ends, .inl (cI, 21, .inl f_p0_ends)), (q_p0_colours, .inl (cI, 21, .inl f_p0_colours))]) (va_runV (As := [.ref q_p0]) (rest := []) ⟨hx, hb, hml, hown, hts⟩ (k_X2_copyFrom l D cI cC cN N q_h3 q_h3_ends q_h3_colours q_p0 q_p0_ends q_p0_colours s.heap.size f_h3_knots f_h3_threads f_h3_ends f_h3_colours f_p0_knots f_p0_threads f_p0_ends f_p0_colours f_h3_knots_19 f_h3_threads_20 f_h3_ends_21 f_h3_colours_22 h_23) (cwV 1 hts gX1_push_X2_copyFrom rfl rfl rfl (by decide +kernel) ⟨Nat.le_of_ble_eq_true rfl, Nat.le_of_ble_eq_true rfl⟩) ⟨g_blind, va_recv (D := D) (ci := 2) (q0 := 11) hK hP rfl rfl, g_pre (hP.sub [11, 12, 13, 14, 15, 16] rfl) hK hN (hD.sub [11, 12, 13, 14, 15, 16] (by decide) rfl)⟩ rfl rfl hl.1 rfl (lv_room (Nat.le_of_ble_eq_true rfl)) dX1_push_52 ⟨Nat.zero_le _, Nat.zero_le _⟩) hP hD hS hA [11, 12, 13, 14, 15, 16] [0, 1, 2, 3, 4, 5, 6, 7, 8, 9, 10] rfl rfl (by decide) (by decide) rfl (fun H locs hP hD hS => ?_)
                refine lv_aload_n hx hb dX1_push_55 rfl (lv_at hl 1 rfl) ?_
                refine lv_dup hx hb dX1_push_56 rfl ?_
                refine va_get (D := D) (ci := 1) (v := .int 3) (C := RX1) (T := TX1) (N := 2) hx hb hts (by decide +kernel) hown hK hP 0 rfl rfl 1 (by decide) (hts (.fieldLink RX1 18 "KnotStripes$History" "size" "I") (by decide +kernel)) (fun _ h9 => h9) rfl dX1_push_57 ?_
                refine lv_iconst (v := 1) hx hb dX1_push_60 (by decide) ?_
                refine lv_iadd hx hb dX1_push_61 ?_
                refine lv_topi (fun t_24 et_24 => ?_)
                obtain rfl : t_24 = 4 := et_24.trans (by decide)
                refine va_put (D := D) (ci := 1) (v := .int 4) (ty := .int) (C := RX1) (T := TX1) (N := 2) hx hb hts (by decide +kernel) tyX1 tyX1_ok nmX1 hown hK hP hD hS 0 rfl rfl 1 (by decide) (hts (.fieldLink RX1 18 "KnotStripes$History" "size" "I") (by decide +kernel)) (fun _ h9 => h9) rfl (by decide +kernel) rfl rfl (Nat.le_of_ble_eq_true rfl) dX1_push_62 (fun H locs hP hD hS => ?_)
                have hP : va_P D vwCl [(q, .inr (1, [.ref q_states, .int 4])), (q_states, .inl (cN, 4, .inr (.inr (.inr (.inr (hisG q_h0 q_h1 q_h2 q_h3)))))), (q_h0, .inr (2, [.int f_h0_knots, .int f_h0_threads, .ref q_h0_ends, .ref q_h0_colours])), (q_h0_ends, .inl (cI, 21, .inl f_h0_ends)), (q_h0_colours, .inl (cI, 21, .inl f_h0_colours)), (q_h1, .inr (2, [.int f_h1_knots, .int f_h1_threads, .ref q_h1_ends, .ref q_h1_colours])), (q_h1_ends, .inl (cI, 21, .inl f_h1_ends)), (q_h1_colours, .inl (cI, 21, .inl f_h1_colours)), (q_h2, .inr (2, [.int f_h2_knots, .int f_h2_threads, .ref q_h2_ends, .ref q_h2_colours])), (q_h2_ends, .inl (cI, 21, .inl f_h2_ends)), (q_h2_colours, .inl (cI, 21, .inl f_h2_colours)), (q_h3, .inr (2, [.int f_h3_knots_19, .int f_h3_threads_20, .ref q_h3_ends, .ref q_h3_colours])), (q_h3_ends, .inl (cI, 21, .inl f_h3_ends_21)), (q_h3_colours, .inl (cI, 21, .inl f_h3_colours_22)), (q_p0, .inr (2, [.int f_p0_knots, .int f_p0_threads, .ref q_p0_ends, .ref q_p0_colours])), (q_p0_ends, .inl (cI, 21, .inl f_p0_ends)), (q_p0_colours, .inl (cI, 21, .inl f_p0_colours))] H := hP
                have hD : va_D A [(q, .inr (1, [.ref q_states, .int 4])), (q_states, .inl (cN, 4, .inr (.inr (.inr (.inr (hisG q_h0 q_h1 q_h2 q_h3)))))), (q_h0, .inr (2, [.int f_h0_knots, .int f_h0_threads, .ref q_h0_ends, .ref q_h0_colours])), (q_h0_ends, .inl (cI, 21, .inl f_h0_ends)), (q_h0_colours, .inl (cI, 21, .inl f_h0_colours)), (q_h1, .inr (2, [.int f_h1_knots, .int f_h1_threads, .ref q_h1_ends, .ref q_h1_colours])), (q_h1_ends, .inl (cI, 21, .inl f_h1_ends)), (q_h1_colours, .inl (cI, 21, .inl f_h1_colours)), (q_h2, .inr (2, [.int f_h2_knots, .int f_h2_threads, .ref q_h2_ends, .ref q_h2_colours])), (q_h2_ends, .inl (cI, 21, .inl f_h2_ends)), (q_h2_colours, .inl (cI, 21, .inl f_h2_colours)), (q_h3, .inr (2, [.int f_h3_knots_19, .int f_h3_threads_20, .ref q_h3_ends, .ref q_h3_colours])), (q_h3_ends, .inl (cI, 21, .inl f_h3_ends_21)), (q_h3_colours, .inl (cI, 21, .inl f_h3_colours_22)), (q_p0, .inr (2, [.int f_p0_knots, .int f_p0_threads, .ref q_p0_ends, .ref q_p0_colours])), (q_p0_ends, .inl (cI, 21, .inl f_p0_ends)), (q_p0_colours, .inl (cI, 21, .inl f_p0_colours))] := hD
                have z1 := so_use hm
                obtain ⟨y1, z2⟩ := pr_use z1
                obtain ⟨y2, z3⟩ := pr_use z2
                obtain ⟨y3, z4⟩ := pr_use z3
                obtain ⟨y4, z5⟩ := pr_use z4
                obtain ⟨y5, z6⟩ := pr_use z5
                obtain ⟨y6, z7⟩ := pr_use z6
                obtain ⟨y7, z8⟩ := pr_use z7
                obtain ⟨y8, z9⟩ := pr_use z8
                obtain ⟨y9, z10⟩ := pr_use z9
                obtain ⟨y10, z11⟩ := pr_use z10
                obtain ⟨y11, z12⟩ := pr_use z11
                obtain ⟨y12, z13⟩ := pr_use z12
                obtain ⟨y13, z14⟩ := pr_use z13
                obtain ⟨y14, z15⟩ := pr_use z14
                obtain ⟨y15, z16⟩ := pr_use z15
                obtain ⟨y16, z17⟩ := pr_use z16
                subst y1
                subst y2
                subst y3
                subst y4
                subst y5
                subst y6
                subst y7
                subst y8
                subst y9
                subst y10
                subst y11
                subst y12
                subst y13
                subst y14
                subst y15
                subst y16
                subst z17
                exact hret _ _ _ _ dX1_push_65 hP hD hS
              · have hm := if_f _ hc3 hm
                exact no_use hm
      · have hm := if_f _ hc hm
        have z1 := so_use hm
        obtain ⟨y1, z2⟩ := pr_use z1
        obtain ⟨y2, z3⟩ := pr_use z2
        obtain ⟨y3, z4⟩ := pr_use z3
        obtain ⟨y4, z5⟩ := pr_use z4
        obtain ⟨y5, z6⟩ := pr_use z5
        obtain ⟨y6, z7⟩ := pr_use z6
        obtain ⟨y7, z8⟩ := pr_use z7
        obtain ⟨y8, z9⟩ := pr_use z8
        obtain ⟨y9, z10⟩ := pr_use z9
        obtain ⟨y10, z11⟩ := pr_use z10
        obtain ⟨y11, z12⟩ := pr_use z11
        obtain ⟨y12, z13⟩ := pr_use z12
        obtain ⟨y13, z14⟩ := pr_use z13
        obtain ⟨y14, z15⟩ := pr_use z14
        obtain ⟨y15, z16⟩ := pr_use z15
        obtain ⟨y16, z17⟩ := pr_use z16
        subst y1
        subst y2
        subst y3
        subst y4
        subst y5
        subst y6
        subst y7
        subst y8
        subst y9
        subst y10
        subst y11
        subst y12
        subst y13
        subst y14
        subst y15
        subst y16
        subst z17
        exact hret _ _ _ _ dX1_push_35 hP hD hS
  · have hm := if_f _ hc hm
    refine lv_aload_n hx hb dX1_push_12 rfl (lv_at hl 0 rfl) ?_
    obtain ⟨⟨f_size_25, f_h0_knots_26, f_h0_threads_27, f_h0_ends_28, f_h0_colours_29, f_h1_knots_30, f_h1_threads_31, f_h1_ends_32, f_h1_colours_33, f_h2_knots_34, f_h2_threads_35, f_h2_ends_36, f_h2_colours_37, f_h3_knots_38, f_h3_threads_39, f_h3_ends_40, f_h3_colours_41⟩, h_42, hm⟩ := bind_use hm
    refine g_kv (wc := [(q, .inr (1, [.ref q_states, .int f_size])), (q_states, .inl (cN, 4, .inr (.inr (.inr (.inr (hisG q_h0 q_h1 q_h2 q_h3)))))), (q_h0, .inr (2, [.int f_h0_knots, .int f_h0_threads, .ref q_h0_ends, .ref q_h0_colours])), (q_h0_ends, .inl (cI, 21, .inl f_h0_ends)), (q_h0_colours, .inl (cI, 21, .inl f_h0_colours)), (q_h1, .inr (2, [.int f_h1_knots, .int f_h1_threads, .ref q_h1_ends, .ref q_h1_colours])), (q_h1_ends, .inl (cI, 21, .inl f_h1_ends)), (q_h1_colours, .inl (cI, 21, .inl f_h1_colours)), (q_h2, .inr (2, [.int f_h2_knots, .int f_h2_threads, .ref q_h2_ends, .ref q_h2_colours])), (q_h2_ends, .inl (cI, 21, .inl f_h2_ends)), (q_h2_colours, .inl (cI, 21, .inl f_h2_colours)), (q_h3, .inr (2, [.int f_h3_knots, .int f_h3_threads, .ref q_h3_ends, .ref q_h3_colours])), (q_h3_ends, .inl (cI, 21, .inl f_h3_ends)), (q_h3_colours, .inl (cI, 21, .inl f_h3_colours))]) (wr := [(q_p0, .inr (2, [.int f_p0_knots, .int f_p0_threads, .ref q_p0_ends, .ref q_p0_colours])), (q_p0_ends, .inl (cI, 21, .inl f_p0_ends)), (q_p0_colours, .inl (cI, 21, .inl f_p0_colours))]) (w2 := [(q_p0, .inr (2, [.int f_p0_knots, .int f_p0_threads, .ref q_p0_ends, .ref q_p0_colours])), (q_p0_ends, .inl (cI, 21, .inl f_p0_ends)), (q_p0_colours, .inl (cI, 21, .inl f_p0_colours)), (q, .inr (1, [.ref q_states, .int f_size_25])), (q_states, .inl (cN, 4, .inr (.inr (.inr (.inr (hisG q_h0 q_h1 q_h2 q_h3)))))), (q_h0, .inr (2, [.int f_h0_knots_26, .int f_h0_threads_27, .ref q_h0_ends, .ref q_h0_colours])), (q_h0_ends, .inl (cI, 21, .inl f_h0_ends_28)), (q_h0_colours, .inl (cI, 21, .inl f_h0_colours_29)), (q_h1, .inr (2, [.int f_h1_knots_30, .int f_h1_threads_31, .ref q_h1_ends, .ref q_h1_colours])), (q_h1_ends, .inl (cI, 21, .inl f_h1_ends_32)), (q_h1_colours, .inl (cI, 21, .inl f_h1_colours_33)), (q_h2, .inr (2, [.int f_h2_knots_34, .int f_h2_threads_35, .ref q_h2_ends, .ref q_h2_colours])), (q_h2_ends, .inl (cI, 21, .inl f_h2_ends_36)), (q_h2_colours, .inl (cI, 21, .inl f_h2_colours_37)), (q_h3, .inr (2, [.int f_h3_knots_38, .int f_h3_threads_39, .ref q_h3_ends, .ref q_h3_colours])), (q_h3_ends, .inl (cI, 21, .inl f_h3_ends_40)), (q_h3_colours, .inl (cI, 21, .inl f_h3_colours_41))]) (va_runV (As := []) (rest := []) ⟨hx, hb, hml, hown, hts⟩ (k_X1_dropOldest l D cI cC cN N q q_states q_h0 q_h1 q_h2 q_h3 q_h0_ends q_h0_colours q_h1_ends q_h1_colours q_h2_ends q_h2_colours q_h3_ends q_h3_colours s.heap.size f_size f_h0_knots f_h0_threads f_h0_ends f_h0_colours f_h1_knots f_h1_threads f_h1_ends f_h1_colours f_h2_knots f_h2_threads f_h2_ends f_h2_colours f_h3_knots f_h3_threads f_h3_ends f_h3_colours f_size_25 f_h0_knots_26 f_h0_threads_27 f_h0_ends_28 f_h0_colours_29 f_h1_knots_30 f_h1_threads_31 f_h1_ends_32 f_h1_colours_33 f_h2_knots_34 f_h2_threads_35 f_h2_ends_36 f_h2_colours_37 f_h3_knots_38 f_h3_threads_39 f_h3_ends_40 f_h3_colours_41 h_42) (cwV 0 hts gX1_push_X1_dropOldest rfl rfl rfl (by decide +kernel) ⟨Nat.le_of_ble_eq_true rfl, Nat.le_of_ble_eq_true rfl⟩) ⟨g_blind, va_recv (D := D) (ci := 1) (q0 := 0) hK hP rfl rfl, g_pre (hP.sub [0, 1, 2, 3, 4, 5, 6, 7, 8, 9, 10, 11, 12, 13] rfl) hK hN (hD.sub [0, 1, 2, 3, 4, 5, 6, 7, 8, 9, 10, 11, 12, 13] (by decide) rfl)⟩ rfl rfl hl.1 rfl (lv_room (Nat.le_of_ble_eq_true rfl)) dX1_push_13 ⟨Nat.zero_le _, Nat.zero_le _⟩) hP hD hS hA [0, 1, 2, 3, 4, 5, 6, 7, 8, 9, 10, 11, 12, 13] [14, 15, 16] rfl rfl (by decide) (by decide) rfl (fun H locs hP hD hS => ?_)
    refine lv_aload_n hx hb dX1_push_16 rfl (lv_at hl 0 rfl) ?_
    refine va_get (D := D) (ci := 1) (v := .int f_size_25) (C := RX1) (T := TX1) (N := 2) hx hb hts (by decide +kernel) hown hK hP 3 rfl rfl 1 (by decide) (hts (.fieldLink RX1 18 "KnotStripes$History" "size" "I") (by decide +kernel)) (fun _ h9 => h9) rfl dX1_push_17 ?_
    refine lv_if_lt (tgt := 35) hx hb dX1_push_20 (by decide) (fun hc => ?_) (fun hc => ?_)
    · have hm := if_t _ hc hm
      have z1 := so_use hm
      obtain ⟨y1, z2⟩ := pr_use z1
      obtain ⟨y2, z3⟩ := pr_use z2
      obtain ⟨y3, z4⟩ := pr_use z3
      obtain ⟨y4, z5⟩ := pr_use z4
      obtain ⟨y5, z6⟩ := pr_use z5
      obtain ⟨y6, z7⟩ := pr_use z6
      obtain ⟨y7, z8⟩ := pr_use z7
      obtain ⟨y8, z9⟩ := pr_use z8
      obtain ⟨y9, z10⟩ := pr_use z9
      obtain ⟨y10, z11⟩ := pr_use z10
      obtain ⟨y11, z12⟩ := pr_use z11
      obtain ⟨y12, z13⟩ := pr_use z12
      obtain ⟨y13, z14⟩ := pr_use z13
      obtain ⟨y14, z15⟩ := pr_use z14
      obtain ⟨y15, z16⟩ := pr_use z15
      obtain ⟨y16, z17⟩ := pr_use z16
      subst y1
      subst y2
      subst y3
      subst y4
      subst y5
      subst y6
      subst y7
      subst y8
      subst y9
      subst y10
      subst y11
      subst y12
      subst y13
      subst y14
      subst y15
      subst y16
      subst z17
      exact hret _ _ _ _ dX1_push_35 (hP.sub [3, 4, 5, 6, 7, 8, 9, 10, 11, 12, 13, 14, 15, 16, 0, 1, 2] rfl) (hD.sub [3, 4, 5, 6, 7, 8, 9, 10, 11, 12, 13, 14, 15, 16, 0, 1, 2] (by decide) rfl) hS
    · have hm := if_f _ hc hm
      refine lv_aload_n hx hb dX1_push_23 rfl (lv_at hl 0 rfl) ?_
      refine va_get (D := D) (ci := 1) (v := .int f_size_25) (C := RX1) (T := TX1) (N := 2) hx hb hts (by decide +kernel) hown hK hP 3 rfl rfl 1 (by decide) (hts (.fieldLink RX1 18 "KnotStripes$History" "size" "I") (by decide +kernel)) (fun _ h9 => h9) rfl dX1_push_24 ?_
      refine lv_aload_n hx hb dX1_push_27 rfl (lv_at hl 0 rfl) ?_
      refine va_get (D := D) (ci := 1) (v := .ref q_states) (C := RX1) (T := TX1) (N := 2) hx hb hts (by decide +kernel) hown hK hP 3 rfl rfl 0 (by decide) (hts (.fieldLink RX1 11 "KnotStripes$History" "states" "[LKnotStripes$Net;") (by decide +kernel)) (fun _ h9 => h9) rfl dX1_push_28 ?_
      refine va_alen (D := D) (v := 4) hx hb hK hP 4 2 rfl rfl rfl dX1_push_31 ?_
      refine lv_icmp_lt (tgt := 36) hx hb dX1_push_32 (by decide) (fun hc => ?_) (fun hc => ?_)
      · have hm := if_t _ hc hm
        refine lv_aload_n hx hb dX1_push_36 rfl (lv_at hl 0 rfl) ?_
        refine va_get (D := D) (ci := 1) (v := .ref q_states) (C := RX1) (T := TX1) (N := 2) hx hb hts (by decide +kernel) hown hK hP 3 rfl rfl 0 (by decide) (hts (.fieldLink RX1 11 "KnotStripes$History" "states" "[LKnotStripes$Net;") (by decide +kernel)) (fun _ h9 => h9) rfl dX1_push_37 ?_
        refine lv_aload_n hx hb dX1_push_40 rfl (lv_at hl 0 rfl) ?_
        refine va_get (D := D) (ci := 1) (v := .int f_size_25) (C := RX1) (T := TX1) (N := 2) hx hb hts (by decide +kernel) hown hK hP 3 rfl rfl 1 (by decide) (hts (.fieldLink RX1 18 "KnotStripes$History" "size" "I") (by decide +kernel)) (fun _ h9 => h9) rfl dX1_push_41 ?_
        by_cases hc0 : f_size_25 = 0
        · have hm := if_t _ hc0 hm
          subst hc0
          refine va_aldq (D := D) (n := 4) (f := hisG q_h0 q_h1 q_h2 q_h3) hx hb hK hP 4 2 rfl rfl (by unfold vp_in; decide) dX1_push_44 ?_
          refine W.eq (g2 := F0 m 45 ls [.ref q_h0]) rfl ?_
          refine lv_astore_n (lv' := [(2, .ref q_h0), (0, .ref q), (1, .ref q_p0)]) hx hb dX1_push_45 rfl hl (by decide) rfl (fun ls hl => ?_)
          refine lv_aload_n hx hb dX1_push_46 rfl (lv_at hl 0 rfl) ?_
          refine lv_ifnull hx hb dX1_push_47 ?_
          refine lv_aload_n hx hb dX1_push_50 rfl (lv_at hl 0 rfl) ?_
          refine lv_aload_n hx hb dX1_push_51 rfl (lv_at hl 2 rfl) ?_
          obtain ⟨⟨f_h0_knots_43, f_h0_threads_44, f_h0_ends_45, f_h0_colours_46⟩, h_47, hm⟩ := bind_use hm
          refine g_kv (wc := [(q_h0, .inr (2, [.int f_h0_knots_26, .int f_h0_threads_27, .ref q_h0_ends, .ref q_h0_colours])), (q_h0_ends, .inl (cI, 21, .inl f_h0_ends_28)), (q_h0_colours, .inl (cI, 21, .inl f_h0_colours_29)), (q_p0, .inr (2, [.int f_p0_knots, .int f_p0_threads, .ref q_p0_ends, .ref q_p0_colours])), (q_p0_ends, .inl (cI, 21, .inl f_p0_ends)), (q_p0_colours, .inl (cI, 21, .inl f_p0_colours))]) (wr := [(q, .inr (1, [.ref q_states, .int 0])), (q_states, .inl (cN, 4, .inr (.inr (.inr (.inr (hisG q_h0 q_h1 q_h2 q_h3)))))), (q_h1, .inr (2, [.int f_h1_knots_30, .int f_h1_threads_31, .ref q_h1_ends, .ref q_h1_colours])), (q_h1_ends, .inl (cI, 21, .inl f_h1_ends_32)), (q_h1_colours, .inl (cI, 21, .inl f_h1_colours_33)), (q_h2, .inr (2, [.int f_h2_knots_34, .int f_h2_threads_35, .ref q_h2_ends, .ref q_h2_colours])), (q_h2_ends, .inl (cI, 21, .inl f_h2_ends_36)), (q_h2_colours, .inl (cI, 21, .inl f_h2_colours_37)), (q_h3, .inr (2, [.int f_h3_knots_38, .int f_h3_threads_39, .ref q_h3_ends, .ref q_h3_colours])), (q_h3_ends, .inl (cI, 21, .inl f_h3_ends_40)), (q_h3_colours, .inl (cI, 21, .inl f_h3_colours_41))]) (w2 := [(q, .inr (1, [.ref q_states, .int 0])), (q_states, .inl (cN, 4, .inr (.inr (.inr (.inr (hisG q_h0 q_h1 q_h2 q_h3)))))), (q_h1, .inr (2, [.int f_h1_knots_30, .int f_h1_threads_31, .ref q_h1_ends, .ref q_h1_colours])), (q_h1_ends, .inl (cI, 21, .inl f_h1_ends_32)), (q_h1_colours, .inl (cI, 21, .inl f_h1_colours_33)), (q_h2, .inr (2, [.int f_h2_knots_34, .int f_h2_threads_35, .ref q_h2_ends, .ref q_h2_colours])), (q_h2_ends, .inl (cI, 21, .inl f_h2_ends_36)), (q_h2_colours, .inl (cI, 21, .inl f_h2_colours_37)), (q_h3, .inr (2, [.int f_h3_knots_38, .int f_h3_threads_39, .ref q_h3_ends, .ref q_h3_colours])), (q_h3_ends, .inl (cI, 21, .inl f_h3_ends_40)), (q_h3_colours, .inl (cI, 21, .inl f_h3_colours_41)), (q_h0, .inr (2, [.int f_h0_knots_43, .int f_h0_threads_44, .ref q_h0_ends, .ref q_h0_colours])), (q_h0_ends, .inl (cI, 21, .inl f_h0_ends_45)), (q_h0_colours, .inl (cI, 21, .inl f_h0_colours_46)), (q_p0, .inr (2, [.int f_p0_knots, .int f_p0_threads, .ref q_p0_ends, .ref q_p0_colours])), (q_p0_ends, .inl (cI, 21, .inl f_p0_ends)), (q_p0_colours, .inl (cI, 21, .inl f_p0_colours))]) (va_runV (As := [.ref q_p0]) (rest := []) ⟨hx, hb, hml, hown, hts⟩ (k_X2_copyFrom l D cI cC cN N q_h0 q_h0_ends q_h0_colours q_p0 q_p0_ends q_p0_colours H.size f_h0_knots_26 f_h0_threads_27 f_h0_ends_28 f_h0_colours_29 f_p0_knots f_p0_threads f_p0_ends f_p0_colours f_h0_knots_43 f_h0_threads_44 f_h0_ends_45 f_h0_colours_46 h_47) (cwV 1 hts gX1_push_X2_copyFrom rfl rfl rfl (by decide +kernel) ⟨Nat.le_of_ble_eq_true rfl, Nat.le_of_ble_eq_true rfl⟩) ⟨g_blind, va_recv (D := D) (ci := 2) (q0 := 5) hK hP rfl rfl, g_pre (hP.sub [5, 6, 7, 0, 1, 2] rfl) hK hN (hD.sub [5, 6, 7, 0, 1, 2] (by decide) rfl)⟩ rfl rfl hl.1 rfl (lv_room (Nat.le_of_ble_eq_true rfl)) dX1_push_52 ⟨Nat.zero_le _, Nat.zero_le _⟩) hP hD hS hA [5, 6, 7, 0, 1, 2] [3, 4, 8, 9, 10, 11, 12, 13, 14, 15, 16] rfl rfl (by decide) (by decide) rfl (fun H locs hP hD hS => ?_)
          refine lv_aload_n hx hb dX1_push_55 rfl (lv_at hl 1 rfl) ?_
          refine lv_dup hx hb dX1_push_56 rfl ?_
          refine va_get (D := D) (ci := 1) (v := .int 0) (C := RX1) (T := TX1) (N := 2) hx hb hts (by decide +kernel) hown hK hP 0 rfl rfl 1 (by decide) (hts (.fieldLink RX1 18 "KnotStripes$History" "size" "I") (by decide +kernel)) (fun _ h9 => h9) rfl dX1_push_57 ?_
          refine lv_iconst (v := 1) hx hb dX1_push_60 (by decide) ?_
          refine lv_iadd hx hb dX1_push_61 ?_
          refine lv_topi (fun t_48 et_48 => ?_)
          obtain rfl : t_48 = 1 := et_48.trans (by decide)
          refine va_put (D := D) (ci := 1) (v := .int 1) (ty := .int) (C := RX1) (T := TX1) (N := 2) hx hb hts (by decide +kernel) tyX1 tyX1_ok nmX1 hown hK hP hD hS 0 rfl rfl 1 (by decide) (hts (.fieldLink RX1 18 "KnotStripes$History" "size" "I") (by decide +kernel)) (fun _ h9 => h9) rfl (by decide +kernel) rfl rfl (Nat.le_of_ble_eq_true rfl) dX1_push_62 (fun H locs hP hD hS => ?_)
          have hP : va_P D vwCl [(q, .inr (1, [.ref q_states, .int 1])), (q_states, .inl (cN, 4, .inr (.inr (.inr (.inr (hisG q_h0 q_h1 q_h2 q_h3)))))), (q_h1, .inr (2, [.int f_h1_knots_30, .int f_h1_threads_31, .ref q_h1_ends, .ref q_h1_colours])), (q_h1_ends, .inl (cI, 21, .inl f_h1_ends_32)), (q_h1_colours, .inl (cI, 21, .inl f_h1_colours_33)), (q_h2, .inr (2, [.int f_h2_knots_34, .int f_h2_threads_35, .ref q_h2_ends, .ref q_h2_colours])), (q_h2_ends, .inl (cI, 21, .inl f_h2_ends_36)), (q_h2_colours, .inl (cI, 21, .inl f_h2_colours_37)), (q_h3, .inr (2, [.int f_h3_knots_38, .int f_h3_threads_39, .ref q_h3_ends, .ref q_h3_colours])), (q_h3_ends, .inl (cI, 21, .inl f_h3_ends_40)), (q_h3_colours, .inl (cI, 21, .inl f_h3_colours_41)), (q_h0, .inr (2, [.int f_h0_knots_43, .int f_h0_threads_44, .ref q_h0_ends, .ref q_h0_colours])), (q_h0_ends, .inl (cI, 21, .inl f_h0_ends_45)), (q_h0_colours, .inl (cI, 21, .inl f_h0_colours_46)), (q_p0, .inr (2, [.int f_p0_knots, .int f_p0_threads, .ref q_p0_ends, .ref q_p0_colours])), (q_p0_ends, .inl (cI, 21, .inl f_p0_ends)), (q_p0_colours, .inl (cI, 21, .inl f_p0_colours))] H := hP
          have hD : va_D A [(q, .inr (1, [.ref q_states, .int 1])), (q_states, .inl (cN, 4, .inr (.inr (.inr (.inr (hisG q_h0 q_h1 q_h2 q_h3)))))), (q_h1, .inr (2, [.int f_h1_knots_30, .int f_h1_threads_31, .ref q_h1_ends, .ref q_h1_colours])), (q_h1_ends, .inl (cI, 21, .inl f_h1_ends_32)), (q_h1_colours, .inl (cI, 21, .inl f_h1_colours_33)), (q_h2, .inr (2, [.int f_h2_knots_34, .int f_h2_threads_35, .ref q_h2_ends, .ref q_h2_colours])), (q_h2_ends, .inl (cI, 21, .inl f_h2_ends_36)), (q_h2_colours, .inl (cI, 21, .inl f_h2_colours_37)), (q_h3, .inr (2, [.int f_h3_knots_38, .int f_h3_threads_39, .ref q_h3_ends, .ref q_h3_colours])), (q_h3_ends, .inl (cI, 21, .inl f_h3_ends_40)), (q_h3_colours, .inl (cI, 21, .inl f_h3_colours_41)), (q_h0, .inr (2, [.int f_h0_knots_43, .int f_h0_threads_44, .ref q_h0_ends, .ref q_h0_colours])), (q_h0_ends, .inl (cI, 21, .inl f_h0_ends_45)), (q_h0_colours, .inl (cI, 21, .inl f_h0_colours_46)), (q_p0, .inr (2, [.int f_p0_knots, .int f_p0_threads, .ref q_p0_ends, .ref q_p0_colours])), (q_p0_ends, .inl (cI, 21, .inl f_p0_ends)), (q_p0_colours, .inl (cI, 21, .inl f_p0_colours))] := hD
          have z1 := so_use hm
          obtain ⟨y1, z2⟩ := pr_use z1
          obtain ⟨y2, z3⟩ := pr_use z2
          obtain ⟨y3, z4⟩ := pr_use z3
          obtain ⟨y4, z5⟩ := pr_use z4
          obtain ⟨y5, z6⟩ := pr_use z5
          obtain ⟨y6, z7⟩ := pr_use z6
          obtain ⟨y7, z8⟩ := pr_use z7
          obtain ⟨y8, z9⟩ := pr_use z8
          obtain ⟨y9, z10⟩ := pr_use z9
          obtain ⟨y10, z11⟩ := pr_use z10
          obtain ⟨y11, z12⟩ := pr_use z11
          obtain ⟨y12, z13⟩ := pr_use z12
          obtain ⟨y13, z14⟩ := pr_use z13
          obtain ⟨y14, z15⟩ := pr_use z14
          obtain ⟨y15, z16⟩ := pr_use z15
          obtain ⟨y16, z17⟩ := pr_use z16
          subst y1
          subst y2
          subst y3
          subst y4
          subst y5
          subst y6
          subst y7
          subst y8
          subst y9
          subst y10
          subst y11
          subst y12
          subst y13
          subst y14
          subst y15
          subst y16
          subst z17
          exact hret _ _ _ _ dX1_push_65 (hP.sub [0, 1, 11, 12, 13, 2, 3, 4, 5, 6, 7, 8, 9, 10, 14, 15, 16] rfl) (hD.sub [0, 1, 11, 12, 13, 2, 3, 4, 5, 6, 7, 8, 9, 10, 14, 15, 16] (by decide) rfl) hS
        · have hm := if_f _ hc0 hm
          by_cases hc1 : f_size_25 = 1
          · have hm := if_t _ hc1 hm
            subst hc1
            refine va_aldq (D := D) (n := 4) (f := hisG q_h0 q_h1 q_h2 q_h3) hx hb hK hP 4 2 rfl rfl (by unfold vp_in; decide) dX1_push_44 ?_
            refine W.eq (g2 := F0 m 45 ls [.ref q_h1]) rfl ?_
            refine lv_astore_n (lv' := [(2, .ref q_h1), (0, .ref q), (1, .ref q_p0)]) hx hb dX1_push_45 rfl hl (by decide) rfl (fun ls hl => ?_)
            refine lv_aload_n hx hb dX1_push_46 rfl (lv_at hl 0 rfl) ?_
            refine lv_ifnull hx hb dX1_push_47 ?_
            refine lv_aload_n hx hb dX1_push_50 rfl (lv_at hl 0 rfl) ?_
            refine lv_aload_n hx hb dX1_push_51 rfl (lv_at hl 2 rfl) ?_
            obtain ⟨⟨f_h1_knots_49, f_h1_threads_50, f_h1_ends_51, f_h1_colours_52⟩, h_53, hm⟩ := bind_use hm
            refine g_kv (wc := [(q_h1, .inr (2, [.int f_h1_knots_30, .int f_h1_threads_31, .ref q_h1_ends, .ref q_h1_colours])), (q_h1_ends, .inl (cI, 21, .inl f_h1_ends_32)), (q_h1_colours, .inl (cI, 21, .inl f_h1_colours_33)), (q_p0, .inr (2, [.int f_p0_knots, .int f_p0_threads, .ref q_p0_ends, .ref q_p0_colours])), (q_p0_ends, .inl (cI, 21, .inl f_p0_ends)), (q_p0_colours, .inl (cI, 21, .inl f_p0_colours))]) (wr := [(q, .inr (1, [.ref q_states, .int 1])), (q_states, .inl (cN, 4, .inr (.inr (.inr (.inr (hisG q_h0 q_h1 q_h2 q_h3)))))), (q_h0, .inr (2, [.int f_h0_knots_26, .int f_h0_threads_27, .ref q_h0_ends, .ref q_h0_colours])), (q_h0_ends, .inl (cI, 21, .inl f_h0_ends_28)), (q_h0_colours, .inl (cI, 21, .inl f_h0_colours_29)), (q_h2, .inr (2, [.int f_h2_knots_34, .int f_h2_threads_35, .ref q_h2_ends, .ref q_h2_colours])), (q_h2_ends, .inl (cI, 21, .inl f_h2_ends_36)), (q_h2_colours, .inl (cI, 21, .inl f_h2_colours_37)), (q_h3, .inr (2, [.int f_h3_knots_38, .int f_h3_threads_39, .ref q_h3_ends, .ref q_h3_colours])), (q_h3_ends, .inl (cI, 21, .inl f_h3_ends_40)), (q_h3_colours, .inl (cI, 21, .inl f_h3_colours_41))]) (w2 := [(q, .inr (1, [.ref q_states, .int 1])), (q_states, .inl (cN, 4, .inr (.inr (.inr (.inr (hisG q_h0 q_h1 q_h2 q_h3)))))), (q_h0, .inr (2, [.int f_h0_knots_26, .int f_h0_threads_27, .ref q_h0_ends, .ref q_h0_colours])), (q_h0_ends, .inl (cI, 21, .inl f_h0_ends_28)), (q_h0_colours, .inl (cI, 21, .inl f_h0_colours_29)), (q_h2, .inr (2, [.int f_h2_knots_34, .int f_h2_threads_35, .ref q_h2_ends, .ref q_h2_colours])), (q_h2_ends, .inl (cI, 21, .inl f_h2_ends_36)), (q_h2_colours, .inl (cI, 21, .inl f_h2_colours_37)), (q_h3, .inr (2, [.int f_h3_knots_38, .int f_h3_threads_39, .ref q_h3_ends, .ref q_h3_colours])), (q_h3_ends, .inl (cI, 21, .inl f_h3_ends_40)), (q_h3_colours, .inl (cI, 21, .inl f_h3_colours_41)), (q_h1, .inr (2, [.int f_h1_knots_49, .int f_h1_threads_50, .ref q_h1_ends, .ref q_h1_colours])), (q_h1_ends, .inl (cI, 21, .inl f_h1_ends_51)), (q_h1_colours, .inl (cI, 21, .inl f_h1_colours_52)), (q_p0, .inr (2, [.int f_p0_knots, .int f_p0_threads, .ref q_p0_ends, .ref q_p0_colours])), (q_p0_ends, .inl (cI, 21, .inl f_p0_ends)), (q_p0_colours, .inl (cI, 21, .inl f_p0_colours))]) (va_runV (As := [.ref q_p0]) (rest := []) ⟨hx, hb, hml, hown, hts⟩ (k_X2_copyFrom l D cI cC cN N q_h1 q_h1_ends q_h1_colours q_p0 q_p0_ends q_p0_colours H.size f_h1_knots_30 f_h1_threads_31 f_h1_ends_32 f_h1_colours_33 f_p0_knots f_p0_threads f_p0_ends f_p0_colours f_h1_knots_49 f_h1_threads_50 f_h1_ends_51 f_h1_colours_52 h_53) (cwV 1 hts gX1_push_X2_copyFrom rfl rfl rfl (by decide +kernel) ⟨Nat.le_of_ble_eq_true rfl, Nat.le_of_ble_eq_true rfl⟩) ⟨g_blind, va_recv (D := D) (ci := 2) (q0 := 8) hK hP rfl rfl, g_pre (hP.sub [8, 9, 10, 0, 1, 2] rfl) hK hN (hD.sub [8, 9, 10, 0, 1, 2] (by decide) rfl)⟩ rfl rfl hl.1 rfl (lv_room (Nat.le_of_ble_eq_true rfl)) dX1_push_52 ⟨Nat.zero_le _, Nat.zero_le _⟩) hP hD hS hA [8, 9, 10, 0, 1, 2] [3, 4, 5, 6, 7, 11, 12, 13, 14, 15, 16] rfl rfl (by decide) (by decide) rfl (fun H locs hP hD hS => ?_)
            refine lv_aload_n hx hb dX1_push_55 rfl (lv_at hl 1 rfl) ?_
            refine lv_dup hx hb dX1_push_56 rfl ?_
            refine va_get (D := D) (ci := 1) (v := .int 1) (C := RX1) (T := TX1) (N := 2) hx hb hts (by decide +kernel) hown hK hP 0 rfl rfl 1 (by decide) (hts (.fieldLink RX1 18 "KnotStripes$History" "size" "I") (by decide +kernel)) (fun _ h9 => h9) rfl dX1_push_57 ?_
            refine lv_iconst (v := 1) hx hb dX1_push_60 (by decide) ?_
            refine lv_iadd hx hb dX1_push_61 ?_
            refine lv_topi (fun t_54 et_54 => ?_)
            obtain rfl : t_54 = 2 := et_54.trans (by decide)
            refine va_put (D := D) (ci := 1) (v := .int 2) (ty := .int) (C := RX1) (T := TX1) (N := 2) hx hb hts (by decide +kernel) tyX1 tyX1_ok nmX1 hown hK hP hD hS 0 rfl rfl 1 (by decide) (hts (.fieldLink RX1 18 "KnotStripes$History" "size" "I") (by decide +kernel)) (fun _ h9 => h9) rfl (by decide +kernel) rfl rfl (Nat.le_of_ble_eq_true rfl) dX1_push_62 (fun H locs hP hD hS => ?_)
            have hP : va_P D vwCl [(q, .inr (1, [.ref q_states, .int 2])), (q_states, .inl (cN, 4, .inr (.inr (.inr (.inr (hisG q_h0 q_h1 q_h2 q_h3)))))), (q_h0, .inr (2, [.int f_h0_knots_26, .int f_h0_threads_27, .ref q_h0_ends, .ref q_h0_colours])), (q_h0_ends, .inl (cI, 21, .inl f_h0_ends_28)), (q_h0_colours, .inl (cI, 21, .inl f_h0_colours_29)), (q_h2, .inr (2, [.int f_h2_knots_34, .int f_h2_threads_35, .ref q_h2_ends, .ref q_h2_colours])), (q_h2_ends, .inl (cI, 21, .inl f_h2_ends_36)), (q_h2_colours, .inl (cI, 21, .inl f_h2_colours_37)), (q_h3, .inr (2, [.int f_h3_knots_38, .int f_h3_threads_39, .ref q_h3_ends, .ref q_h3_colours])), (q_h3_ends, .inl (cI, 21, .inl f_h3_ends_40)), (q_h3_colours, .inl (cI, 21, .inl f_h3_colours_41)), (q_h1, .inr (2, [.int f_h1_knots_49, .int f_h1_threads_50, .ref q_h1_ends, .ref q_h1_colours])), (q_h1_ends, .inl (cI, 21, .inl f_h1_ends_51)), (q_h1_colours, .inl (cI, 21, .inl f_h1_colours_52)), (q_p0, .inr (2, [.int f_p0_knots, .int f_p0_threads, .ref q_p0_ends, .ref q_p0_colours])), (q_p0_ends, .inl (cI, 21, .inl f_p0_ends)), (q_p0_colours, .inl (cI, 21, .inl f_p0_colours))] H := hP
            have hD : va_D A [(q, .inr (1, [.ref q_states, .int 2])), (q_states, .inl (cN, 4, .inr (.inr (.inr (.inr (hisG q_h0 q_h1 q_h2 q_h3)))))), (q_h0, .inr (2, [.int f_h0_knots_26, .int f_h0_threads_27, .ref q_h0_ends, .ref q_h0_colours])), (q_h0_ends, .inl (cI, 21, .inl f_h0_ends_28)), (q_h0_colours, .inl (cI, 21, .inl f_h0_colours_29)), (q_h2, .inr (2, [.int f_h2_knots_34, .int f_h2_threads_35, .ref q_h2_ends, .ref q_h2_colours])), (q_h2_ends, .inl (cI, 21, .inl f_h2_ends_36)), (q_h2_colours, .inl (cI, 21, .inl f_h2_colours_37)), (q_h3, .inr (2, [.int f_h3_knots_38, .int f_h3_threads_39, .ref q_h3_ends, .ref q_h3_colours])), (q_h3_ends, .inl (cI, 21, .inl f_h3_ends_40)), (q_h3_colours, .inl (cI, 21, .inl f_h3_colours_41)), (q_h1, .inr (2, [.int f_h1_knots_49, .int f_h1_threads_50, .ref q_h1_ends, .ref q_h1_colours])), (q_h1_ends, .inl (cI, 21, .inl f_h1_ends_51)), (q_h1_colours, .inl (cI, 21, .inl f_h1_colours_52)), (q_p0, .inr (2, [.int f_p0_knots, .int f_p0_threads, .ref q_p0_ends, .ref q_p0_colours])), (q_p0_ends, .inl (cI, 21, .inl f_p0_ends)), (q_p0_colours, .inl (cI, 21, .inl f_p0_colours))] := hD
            have z1 := so_use hm
            obtain ⟨y1, z2⟩ := pr_use z1
            obtain ⟨y2, z3⟩ := pr_use z2
            obtain ⟨y3, z4⟩ := pr_use z3
            obtain ⟨y4, z5⟩ := pr_use z4
            obtain ⟨y5, z6⟩ := pr_use z5
            obtain ⟨y6, z7⟩ := pr_use z6
            obtain ⟨y7, z8⟩ := pr_use z7
            obtain ⟨y8, z9⟩ := pr_use z8
            obtain ⟨y9, z10⟩ := pr_use z9
            obtain ⟨y10, z11⟩ := pr_use z10
            obtain ⟨y11, z12⟩ := pr_use z11
            obtain ⟨y12, z13⟩ := pr_use z12
            obtain ⟨y13, z14⟩ := pr_use z13
            obtain ⟨y14, z15⟩ := pr_use z14
            obtain ⟨y15, z16⟩ := pr_use z15
            obtain ⟨y16, z17⟩ := pr_use z16
            subst y1
            subst y2
            subst y3
            subst y4
            subst y5
            subst y6
            subst y7
            subst y8
            subst y9
            subst y10
            subst y11
            subst y12
            subst y13
            subst y14
            subst y15
            subst y16
            subst z17
            exact hret _ _ _ _ dX1_push_65 (hP.sub [0, 1, 2, 3, 4, 11, 12, 13, 5, 6, 7, 8, 9, 10, 14, 15, 16] rfl) (hD.sub [0, 1, 2, 3, 4, 11, 12, 13, 5, 6, 7, 8, 9, 10, 14, 15, 16] (by decide) rfl) hS
          · have hm := if_f _ hc1 hm
            by_cases hc2 : f_size_25 = 2
            · have hm := if_t _ hc2 hm
              subst hc2
              refine va_aldq (D := D) (n := 4) (f := hisG q_h0 q_h1 q_h2 q_h3) hx hb hK hP 4 2 rfl rfl (by unfold vp_in; decide) dX1_push_44 ?_
              refine W.eq (g2 := F0 m 45 ls [.ref q_h2]) rfl ?_
              refine lv_astore_n (lv' := [(2, .ref q_h2), (0, .ref q), (1, .ref q_p0)]) hx hb dX1_push_45 rfl hl (by decide) rfl (fun ls hl => ?_)
              refine lv_aload_n hx hb dX1_push_46 rfl (lv_at hl 0 rfl) ?_
              refine lv_ifnull hx hb dX1_push_47 ?_
              refine lv_aload_n hx hb dX1_push_50 rfl (lv_at hl 0 rfl) ?_
              refine lv_aload_n hx hb dX1_push_51 rfl (lv_at hl 2 rfl) ?_
              obtain ⟨⟨f_h2_knots_55, f_h2_threads_56, f_h2_ends_57, f_h2_colours_58⟩, h_59, hm⟩ := bind_use hm
              refine g_kv (wc := [(q_h2, .inr (2, [.int f_h2_knots_34, .int f_h2_threads_35, .ref q_h2_ends, .ref q_h2_colours])), (q_h2_ends, .inl (cI, 21, .inl f_h2_ends_36)), (q_h2_colours, .inl (cI, 21, .inl f_h2_colours_37)), (q_p0, .inr (2, [.int f_p0_knots, .int f_p0_threads, .ref q_p0_ends, .ref q_p0_colours])), (q_p0_ends, .inl (cI, 21, .inl f_p0_ends)), (q_p0_colours, .inl (cI, 21, .inl f_p0_colours))]) (wr := [(q, .inr (1, [.ref q_states, .int 2])), (q_states, .inl (cN, 4, .inr (.inr (.inr (.inr (hisG q_h0 q_h1 q_h2 q_h3)))))), (q_h0, .inr (2, [.int f_h0_knots_26, .int f_h0_threads_27, .ref q_h0_ends, .ref q_h0_colours])), (q_h0_ends, .inl (cI, 21, .inl f_h0_ends_28)), (q_h0_colours, .inl (cI, 21, .inl f_h0_colours_29)), (q_h1, .inr (2, [.int f_h1_knots_30, .int f_h1_threads_31, .ref q_h1_ends, .ref q_h1_colours])), (q_h1_ends, .inl (cI, 21, .inl f_h1_ends_32)), (q_h1_colours, .inl (cI, 21, .inl f_h1_colours_33)), (q_h3, .inr (2, [.int f_h3_knots_38, .int f_h3_threads_39, .ref q_h3_ends, .ref q_h3_colours])), (q_h3_ends, .inl (cI, 21, .inl f_h3_ends_40)), (q_h3_colours, .inl (cI, 21, .inl f_h3_colours_41))]) (w2 := [(q, .inr (1, [.ref q_states, .int 2])), (q_states, .inl (cN, 4, .inr (.inr (.inr (.inr (hisG q_h0 q_h1 q_h2 q_h3)))))), (q_h0, .inr (2, [.int f_h0_knots_26, .int f_h0_threads_27, .ref q_h0_ends, .ref q_h0_colours])), (q_h0_ends, .inl (cI, 21, .inl f_h0_ends_28)), (q_h0_colours, .inl (cI, 21, .inl f_h0_colours_29)), (q_h1, .inr (2, [.int f_h1_knots_30, .int f_h1_threads_31, .ref q_h1_ends, .ref q_h1_colours])), (q_h1_ends, .inl (cI, 21, .inl f_h1_ends_32)), (q_h1_colours, .inl (cI, 21, .inl f_h1_colours_33)), (q_h3, .inr (2, [.int f_h3_knots_38, .int f_h3_threads_39, .ref q_h3_ends, .ref q_h3_colours])), (q_h3_ends, .inl (cI, 21, .inl f_h3_ends_40)), (q_h3_colours, .inl (cI, 21, .inl f_h3_colours_41)), (q_h2, .inr (2, [.int f_h2_knots_55, .int f_h2_threads_56, .ref q_h2_ends, .ref q_h2_colours])), (q_h2_ends, .inl (cI, 21, .inl f_h2_ends_57)), (q_h2_colours, .inl (cI, 21, .inl f_h2_colours_58)), (q_p0, .inr (2, [.int f_p0_knots, .int f_p0_threads, .ref q_p0_ends, .ref q_p0_colours])), (q_p0_ends, .inl (cI, 21, .inl f_p0_ends)), (q_p0_colours, .inl (cI, 21, .inl f_p0_colours))]) (va_runV (As := [.ref q_p0]) (rest := []) ⟨hx, hb, hml, hown, hts⟩ (k_X2_copyFrom l D cI cC cN N q_h2 q_h2_ends q_h2_colours q_p0 q_p0_ends q_p0_colours H.size f_h2_knots_34 f_h2_threads_35 f_h2_ends_36 f_h2_colours_37 f_p0_knots f_p0_threads f_p0_ends f_p0_colours f_h2_knots_55 f_h2_threads_56 f_h2_ends_57 f_h2_colours_58 h_59) (cwV 1 hts gX1_push_X2_copyFrom rfl rfl rfl (by decide +kernel) ⟨Nat.le_of_ble_eq_true rfl, Nat.le_of_ble_eq_true rfl⟩) ⟨g_blind, va_recv (D := D) (ci := 2) (q0 := 11) hK hP rfl rfl, g_pre (hP.sub [11, 12, 13, 0, 1, 2] rfl) hK hN (hD.sub [11, 12, 13, 0, 1, 2] (by decide) rfl)⟩ rfl rfl hl.1 rfl (lv_room (Nat.le_of_ble_eq_true rfl)) dX1_push_52 ⟨Nat.zero_le _, Nat.zero_le _⟩) hP hD hS hA [11, 12, 13, 0, 1, 2] [3, 4, 5, 6, 7, 8, 9, 10, 14, 15, 16] rfl rfl (by decide) (by decide) rfl (fun H locs hP hD hS => ?_)
              refine lv_aload_n hx hb dX1_push_55 rfl (lv_at hl 1 rfl) ?_
              refine lv_dup hx hb dX1_push_56 rfl ?_
              refine va_get (D := D) (ci := 1) (v := .int 2) (C := RX1) (T := TX1) (N := 2) hx hb hts (by decide +kernel) hown hK hP 0 rfl rfl 1 (by decide) (hts (.fieldLink RX1 18 "KnotStripes$History" "size" "I") (by decide +kernel)) (fun _ h9 => h9) rfl dX1_push_57 ?_
              refine lv_iconst (v := 1) hx hb dX1_push_60 (by decide) ?_
              refine lv_iadd hx hb dX1_push_61 ?_
              refine lv_topi (fun t_60 et_60 => ?_)
              obtain rfl : t_60 = 3 := et_60.trans (by decide)
              refine va_put (D := D) (ci := 1) (v := .int 3) (ty := .int) (C := RX1) (T := TX1) (N := 2) hx hb hts (by decide +kernel) tyX1 tyX1_ok nmX1 hown hK hP hD hS 0 rfl rfl 1 (by decide) (hts (.fieldLink RX1 18 "KnotStripes$History" "size" "I") (by decide +kernel)) (fun _ h9 => h9) rfl (by decide +kernel) rfl rfl (Nat.le_of_ble_eq_true rfl) dX1_push_62 (fun H locs hP hD hS => ?_)
              have hP : va_P D vwCl [(q, .inr (1, [.ref q_states, .int 3])), (q_states, .inl (cN, 4, .inr (.inr (.inr (.inr (hisG q_h0 q_h1 q_h2 q_h3)))))), (q_h0, .inr (2, [.int f_h0_knots_26, .int f_h0_threads_27, .ref q_h0_ends, .ref q_h0_colours])), (q_h0_ends, .inl (cI, 21, .inl f_h0_ends_28)), (q_h0_colours, .inl (cI, 21, .inl f_h0_colours_29)), (q_h1, .inr (2, [.int f_h1_knots_30, .int f_h1_threads_31, .ref q_h1_ends, .ref q_h1_colours])), (q_h1_ends, .inl (cI, 21, .inl f_h1_ends_32)), (q_h1_colours, .inl (cI, 21, .inl f_h1_colours_33)), (q_h3, .inr (2, [.int f_h3_knots_38, .int f_h3_threads_39, .ref q_h3_ends, .ref q_h3_colours])), (q_h3_ends, .inl (cI, 21, .inl f_h3_ends_40)), (q_h3_colours, .inl (cI, 21, .inl f_h3_colours_41)), (q_h2, .inr (2, [.int f_h2_knots_55, .int f_h2_threads_56, .ref q_h2_ends, .ref q_h2_colours])), (q_h2_ends, .inl (cI, 21, .inl f_h2_ends_57)), (q_h2_colours, .inl (cI, 21, .inl f_h2_colours_58)), (q_p0, .inr (2, [.int f_p0_knots, .int f_p0_threads, .ref q_p0_ends, .ref q_p0_colours])), (q_p0_ends, .inl (cI, 21, .inl f_p0_ends)), (q_p0_colours, .inl (cI, 21, .inl f_p0_colours))] H := hP
              have hD : va_D A [(q, .inr (1, [.ref q_states, .int 3])), (q_states, .inl (cN, 4, .inr (.inr (.inr (.inr (hisG q_h0 q_h1 q_h2 q_h3)))))), (q_h0, .inr (2, [.int f_h0_knots_26, .int f_h0_threads_27, .ref q_h0_ends, .ref q_h0_colours])), (q_h0_ends, .inl (cI, 21, .inl f_h0_ends_28)), (q_h0_colours, .inl (cI, 21, .inl f_h0_colours_29)), (q_h1, .inr (2, [.int f_h1_knots_30, .int f_h1_threads_31, .ref q_h1_ends, .ref q_h1_colours])), (q_h1_ends, .inl (cI, 21, .inl f_h1_ends_32)), (q_h1_colours, .inl (cI, 21, .inl f_h1_colours_33)), (q_h3, .inr (2, [.int f_h3_knots_38, .int f_h3_threads_39, .ref q_h3_ends, .ref q_h3_colours])), (q_h3_ends, .inl (cI, 21, .inl f_h3_ends_40)), (q_h3_colours, .inl (cI, 21, .inl f_h3_colours_41)), (q_h2, .inr (2, [.int f_h2_knots_55, .int f_h2_threads_56, .ref q_h2_ends, .ref q_h2_colours])), (q_h2_ends, .inl (cI, 21, .inl f_h2_ends_57)), (q_h2_colours, .inl (cI, 21, .inl f_h2_colours_58)), (q_p0, .inr (2, [.int f_p0_knots, .int f_p0_threads, .ref q_p0_ends, .ref q_p0_colours])), (q_p0_ends, .inl (cI, 21, .inl f_p0_ends)), (q_p0_colours, .inl (cI, 21, .inl f_p0_colours))] := hD
              have z1 := so_use hm
              obtain ⟨y1, z2⟩ := pr_use z1
              obtain ⟨y2, z3⟩ := pr_use z2
              obtain ⟨y3, z4⟩ := pr_use z3
              obtain ⟨y4, z5⟩ := pr_use z4
              obtain ⟨y5, z6⟩ := pr_use z5
              obtain ⟨y6, z7⟩ := pr_use z6
              obtain ⟨y7, z8⟩ := pr_use z7
              obtain ⟨y8, z9⟩ := pr_use z8
              obtain ⟨y9, z10⟩ := pr_use z9
              obtain ⟨y10, z11⟩ := pr_use z10
              obtain ⟨y11, z12⟩ := pr_use z11
              obtain ⟨y12, z13⟩ := pr_use z12
              obtain ⟨y13, z14⟩ := pr_use z13
              obtain ⟨y14, z15⟩ := pr_use z14
              obtain ⟨y15, z16⟩ := pr_use z15
              obtain ⟨y16, z17⟩ := pr_use z16
              subst y1
              subst y2
              subst y3
              subst y4
              subst y5
              subst y6
              subst y7
              subst y8
              subst y9
              subst y10
              subst y11
              subst y12
              subst y13
              subst y14
              subst y15
              subst y16
              subst z17
              exact hret _ _ _ _ dX1_push_65 (hP.sub [0, 1, 2, 3, 4, 5, 6, 7, 11, 12, 13, 8, 9, 10, 14, 15, 16] rfl) (hD.sub [0, 1, 2, 3, 4, 5, 6, 7, 11, 12, 13, 8, 9, 10, 14, 15, 16] (by decide) rfl) hS
            · have hm := if_f _ hc2 hm
              by_cases hc3 : f_size_25 = 3
              · have hm := if_t _ hc3 hm
                subst hc3
                refine va_aldq (D := D) (n := 4) (f := hisG q_h0 q_h1 q_h2 q_h3) hx hb hK hP 4 2 rfl rfl (by unfold vp_in; decide) dX1_push_44 ?_
                refine W.eq (g2 := F0 m 45 ls [.ref q_h3]) rfl ?_
                refine lv_astore_n (lv' := [(2, .ref q_h3), (0, .ref q), (1, .ref q_p0)]) hx hb dX1_push_45 rfl hl (by decide) rfl (fun ls hl => ?_)
                refine lv_aload_n hx hb dX1_push_46 rfl (lv_at hl 0 rfl) ?_
                refine lv_ifnull hx hb dX1_push_47 ?_
                refine lv_aload_n hx hb dX1_push_50 rfl (lv_at hl 0 rfl) ?_
                refine lv_aload_n hx hb dX1_push_51 rfl (lv_at hl 2 rfl) ?_
                obtain ⟨⟨f_h3_knots_61, f_h3_threads_62, f_h3_ends_63, f_h3_colours_64⟩, h_65, hm⟩ := bind_use hm
                refine g_kv (wc := [(q_h3, .inr (2, [.int f_h3_knots_38, .int f_h3_threads_39, .ref q_h3_ends, .ref q_h3_colours])), (q_h3_ends, .inl (cI, 21, .inl f_h3_ends_40)), (q_h3_colours, .inl (cI, 21, .inl f_h3_colours_41)), (q_p0, .inr (2, [.int f_p0_knots, .int f_p0_threads, .ref q_p0_ends, .ref q_p0_colours])), (q_p0_ends, .inl (cI, 21, .inl f_p0_ends)), (q_p0_colours, .inl (cI, 21, .inl f_p0_colours))]) (wr := [(q, .inr (1, [.ref q_states, .int 3])), (q_states, .inl (cN, 4, .inr (.inr (.inr (.inr (hisG q_h0 q_h1 q_h2 q_h3)))))), (q_h0, .inr (2, [.int f_h0_knots_26, .int f_h0_threads_27, .ref q_h0_ends, .ref q_h0_colours])), (q_h0_ends, .inl (cI, 21, .inl f_h0_ends_28)), (q_h0_colours, .inl (cI, 21, .inl f_h0_colours_29)), (q_h1, .inr (2, [.int f_h1_knots_30, .int f_h1_threads_31, .ref q_h1_ends, .ref q_h1_colours])), (q_h1_ends, .inl (cI, 21, .inl f_h1_ends_32)), (q_h1_colours, .inl (cI, 21, .inl f_h1_colours_33)), (q_h2, .inr (2, [.int f_h2_knots_34, .int f_h2_threads_35, .ref q_h2_ends, .ref q_h2_colours])), (q_h2_ends, .inl (cI, 21, .inl f_h2_ends_36)), (q_h2_colours, .inl (cI, 21, .inl f_h2_colours_37))]) (w2 := [(q, .inr (1, [.ref q_states, .int 3])), (q_states, .inl (cN, 4, .inr (.inr (.inr (.inr (hisG q_h0 q_h1 q_h2 q_h3)))))), (q_h0, .inr (2, [.int f_h0_knots_26, .int f_h0_threads_27, .ref q_h0_ends, .ref q_h0_colours])), (q_h0_ends, .inl (cI, 21, .inl f_h0_ends_28)), (q_h0_colours, .inl (cI, 21, .inl f_h0_colours_29)), (q_h1, .inr (2, [.int f_h1_knots_30, .int f_h1_threads_31, .ref q_h1_ends, .ref q_h1_colours])), (q_h1_ends, .inl (cI, 21, .inl f_h1_ends_32)), (q_h1_colours, .inl (cI, 21, .inl f_h1_colours_33)), (q_h2, .inr (2, [.int f_h2_knots_34, .int f_h2_threads_35, .ref q_h2_ends, .ref q_h2_colours])), (q_h2_ends, .inl (cI, 21, .inl f_h2_ends_36)), (q_h2_colours, .inl (cI, 21, .inl f_h2_colours_37)), (q_h3, .inr (2, [.int f_h3_knots_61, .int f_h3_threads_62, .ref q_h3_ends, .ref q_h3_colours])), (q_h3_ends, .inl (cI, 21, .inl f_h3_ends_63)), (q_h3_colours, .inl (cI, 21, .inl f_h3_colours_64)), (q_p0, .inr (2, [.int f_p0_knots, .int f_p0_threads, .ref q_p0_ends, .ref q_p0_colours])), (q_p0_ends, .inl (cI, 21, .inl f_p0_ends)), (q_p0_colours, .inl (cI, 21, .inl f_p0_colours))]) (va_runV (As := [.ref q_p0]) (rest := []) ⟨hx, hb, hml, hown, hts⟩ (k_X2_copyFrom l D cI cC cN N q_h3 q_h3_ends q_h3_colours q_p0 q_p0_ends q_p0_colours H.size f_h3_knots_38 f_h3_threads_39 f_h3_ends_40 f_h3_colours_41 f_p0_knots f_p0_threads f_p0_ends f_p0_colours f_h3_knots_61 f_h3_threads_62 f_h3_ends_63 f_h3_colours_64 h_65) (cwV 1 hts gX1_push_X2_copyFrom rfl rfl rfl (by decide +kernel) ⟨Nat.le_of_ble_eq_true rfl, Nat.le_of_ble_eq_true rfl⟩) ⟨g_blind, va_recv (D := D) (ci := 2) (q0 := 14) hK hP rfl rfl, g_pre (hP.sub [14, 15, 16, 0, 1, 2] rfl) hK hN (hD.sub [14, 15, 16, 0, 1, 2] (by decide) rfl)⟩ rfl rfl hl.1 rfl (lv_room (Nat.le_of_ble_eq_true rfl)) dX1_push_52 ⟨Nat.zero_le _, Nat.zero_le _⟩) hP hD hS hA [14, 15, 16, 0, 1, 2] [3, 4, 5, 6, 7, 8, 9, 10, 11, 12, 13] rfl rfl (by decide) (by decide) rfl (fun H locs hP hD hS => ?_)
                refine lv_aload_n hx hb dX1_push_55 rfl (lv_at hl 1 rfl) ?_
                refine lv_dup hx hb dX1_push_56 rfl ?_
                refine va_get (D := D) (ci := 1) (v := .int 3) (C := RX1) (T := TX1) (N := 2) hx hb hts (by decide +kernel) hown hK hP 0 rfl rfl 1 (by decide) (hts (.fieldLink RX1 18 "KnotStripes$History" "size" "I") (by decide +kernel)) (fun _ h9 => h9) rfl dX1_push_57 ?_
                refine lv_iconst (v := 1) hx hb dX1_push_60 (by decide) ?_
                refine lv_iadd hx hb dX1_push_61 ?_
                refine lv_topi (fun t_66 et_66 => ?_)
                obtain rfl : t_66 = 4 := et_66.trans (by decide)
                refine va_put (D := D) (ci := 1) (v := .int 4) (ty := .int) (C := RX1) (T := TX1) (N := 2) hx hb hts (by decide +kernel) tyX1 tyX1_ok nmX1 hown hK hP hD hS 0 rfl rfl 1 (by decide) (hts (.fieldLink RX1 18 "KnotStripes$History" "size" "I") (by decide +kernel)) (fun _ h9 => h9) rfl (by decide +kernel) rfl rfl (Nat.le_of_ble_eq_true rfl) dX1_push_62 (fun H locs hP hD hS => ?_)
                have hP : va_P D vwCl [(q, .inr (1, [.ref q_states, .int 4])), (q_states, .inl (cN, 4, .inr (.inr (.inr (.inr (hisG q_h0 q_h1 q_h2 q_h3)))))), (q_h0, .inr (2, [.int f_h0_knots_26, .int f_h0_threads_27, .ref q_h0_ends, .ref q_h0_colours])), (q_h0_ends, .inl (cI, 21, .inl f_h0_ends_28)), (q_h0_colours, .inl (cI, 21, .inl f_h0_colours_29)), (q_h1, .inr (2, [.int f_h1_knots_30, .int f_h1_threads_31, .ref q_h1_ends, .ref q_h1_colours])), (q_h1_ends, .inl (cI, 21, .inl f_h1_ends_32)), (q_h1_colours, .inl (cI, 21, .inl f_h1_colours_33)), (q_h2, .inr (2, [.int f_h2_knots_34, .int f_h2_threads_35, .ref q_h2_ends, .ref q_h2_colours])), (q_h2_ends, .inl (cI, 21, .inl f_h2_ends_36)), (q_h2_colours, .inl (cI, 21, .inl f_h2_colours_37)), (q_h3, .inr (2, [.int f_h3_knots_61, .int f_h3_threads_62, .ref q_h3_ends, .ref q_h3_colours])), (q_h3_ends, .inl (cI, 21, .inl f_h3_ends_63)), (q_h3_colours, .inl (cI, 21, .inl f_h3_colours_64)), (q_p0, .inr (2, [.int f_p0_knots, .int f_p0_threads, .ref q_p0_ends, .ref q_p0_colours])), (q_p0_ends, .inl (cI, 21, .inl f_p0_ends)), (q_p0_colours, .inl (cI, 21, .inl f_p0_colours))] H := hP
                have hD : va_D A [(q, .inr (1, [.ref q_states, .int 4])), (q_states, .inl (cN, 4, .inr (.inr (.inr (.inr (hisG q_h0 q_h1 q_h2 q_h3)))))), (q_h0, .inr (2, [.int f_h0_knots_26, .int f_h0_threads_27, .ref q_h0_ends, .ref q_h0_colours])), (q_h0_ends, .inl (cI, 21, .inl f_h0_ends_28)), (q_h0_colours, .inl (cI, 21, .inl f_h0_colours_29)), (q_h1, .inr (2, [.int f_h1_knots_30, .int f_h1_threads_31, .ref q_h1_ends, .ref q_h1_colours])), (q_h1_ends, .inl (cI, 21, .inl f_h1_ends_32)), (q_h1_colours, .inl (cI, 21, .inl f_h1_colours_33)), (q_h2, .inr (2, [.int f_h2_knots_34, .int f_h2_threads_35, .ref q_h2_ends, .ref q_h2_colours])), (q_h2_ends, .inl (cI, 21, .inl f_h2_ends_36)), (q_h2_colours, .inl (cI, 21, .inl f_h2_colours_37)), (q_h3, .inr (2, [.int f_h3_knots_61, .int f_h3_threads_62, .ref q_h3_ends, .ref q_h3_colours])), (q_h3_ends, .inl (cI, 21, .inl f_h3_ends_63)), (q_h3_colours, .inl (cI, 21, .inl f_h3_colours_64)), (q_p0, .inr (2, [.int f_p0_knots, .int f_p0_threads, .ref q_p0_ends, .ref q_p0_colours])), (q_p0_ends, .inl (cI, 21, .inl f_p0_ends)), (q_p0_colours, .inl (cI, 21, .inl f_p0_colours))] := hD
                have z1 := so_use hm
                obtain ⟨y1, z2⟩ := pr_use z1
                obtain ⟨y2, z3⟩ := pr_use z2
                obtain ⟨y3, z4⟩ := pr_use z3
                obtain ⟨y4, z5⟩ := pr_use z4
                obtain ⟨y5, z6⟩ := pr_use z5
                obtain ⟨y6, z7⟩ := pr_use z6
                obtain ⟨y7, z8⟩ := pr_use z7
                obtain ⟨y8, z9⟩ := pr_use z8
                obtain ⟨y9, z10⟩ := pr_use z9
                obtain ⟨y10, z11⟩ := pr_use z10
                obtain ⟨y11, z12⟩ := pr_use z11
                obtain ⟨y12, z13⟩ := pr_use z12
                obtain ⟨y13, z14⟩ := pr_use z13
                obtain ⟨y14, z15⟩ := pr_use z14
                obtain ⟨y15, z16⟩ := pr_use z15
                obtain ⟨y16, z17⟩ := pr_use z16
                subst y1
                subst y2
                subst y3
                subst y4
                subst y5
                subst y6
                subst y7
                subst y8
                subst y9
                subst y10
                subst y11
                subst y12
                subst y13
                subst y14
                subst y15
                subst y16
                subst z17
                exact hret _ _ _ _ dX1_push_65 hP hD hS
              · have hm := if_f _ hc3 hm
                exact no_use hm
      · have hm := if_f _ hc hm
        have z1 := so_use hm
        obtain ⟨y1, z2⟩ := pr_use z1
        obtain ⟨y2, z3⟩ := pr_use z2
        obtain ⟨y3, z4⟩ := pr_use z3
        obtain ⟨y4, z5⟩ := pr_use z4
        obtain ⟨y5, z6⟩ := pr_use z5
        obtain ⟨y6, z7⟩ := pr_use z6
        obtain ⟨y7, z8⟩ := pr_use z7
        obtain ⟨y8, z9⟩ := pr_use z8
        obtain ⟨y9, z10⟩ := pr_use z9
        obtain ⟨y10, z11⟩ := pr_use z10
        obtain ⟨y11, z12⟩ := pr_use z11
        obtain ⟨y12, z13⟩ := pr_use z12
        obtain ⟨y13, z14⟩ := pr_use z13
        obtain ⟨y14, z15⟩ := pr_use z14
        obtain ⟨y15, z16⟩ := pr_use z15
        obtain ⟨y16, z17⟩ := pr_use z16
        subst y1
        subst y2
        subst y3
        subst y4
        subst y5
        subst y6
        subst y7
        subst y8
        subst y9
        subst y10
        subst y11
        subst y12
        subst y13
        subst y14
        subst y15
        subst y16
        subst z17
        exact hret _ _ _ _ dX1_push_35 (hP.sub [3, 4, 5, 6, 7, 8, 9, 10, 11, 12, 13, 14, 15, 16, 0, 1, 2] rfl) (hD.sub [3, 4, 5, 6, 7, 8, 9, 10, 11, 12, 13, 14, 15, 16, 0, 1, 2] (by decide) rfl) hS
abbrev rX1_pop : Room := { frames := 3, cells := 0, slots := 0, locals := 64 }
set_option maxHeartbeats 4000000 in
set_option maxRecDepth 100000 in
theorem k_X1_pop (l : Launch) (D : va_G) (cI cC cN : ClassId) (N : Nat) (q : Nat) (q_states : Nat) (q_h0 : Nat) (q_h1 : Nat) (q_h2 : Nat) (q_h3 : Nat) (q_h0_ends : Nat) (q_h0_colours : Nat) (q_h1_ends : Nat) (q_h1_colours : Nat) (q_h2_ends : Nat) (q_h2_colours : Nat) (q_h3_ends : Nat) (q_h3_colours : Nat) (q_p0 : Nat) (q_p0_ends : Nat) (q_p0_colours : Nat) (sz : Nat) (f_size : Int32) (f_h0_knots : Int32) (f_h0_threads : Int32) (f_h0_ends : Nat → Int32) (f_h0_colours : Nat → Int32) (f_h1_knots : Int32) (f_h1_threads : Int32) (f_h1_ends : Nat → Int32) (f_h1_colours : Nat → Int32) (f_h2_knots : Int32) (f_h2_threads : Int32) (f_h2_ends : Nat → Int32) (f_h2_colours : Nat → Int32) (f_h3_knots : Int32) (f_h3_threads : Int32) (f_h3_ends : Nat → Int32) (f_h3_colours : Nat → Int32) (f_p0_knots : Int32) (f_p0_threads : Int32) (f_p0_ends : Nat → Int32) (f_p0_colours : Nat → Int32) (r : Int32) (f_size' : Int32) (f_p0_knots' : Int32) (f_p0_threads' : Int32) (f_p0_ends' : Nat → Int32) (f_p0_colours' : Nat → Int32) (hm : m_X1_pop N f_size f_h0_knots f_h0_threads f_h0_ends f_h0_colours f_h1_knots f_h1_threads f_h1_ends f_h1_colours f_h2_knots f_h2_threads f_h2_ends f_h2_colours f_h3_knots f_h3_threads f_h3_ends f_h3_colours f_p0_knots f_p0_threads f_p0_ends f_p0_colours = some (r, f_size', f_p0_knots', f_p0_threads', f_p0_ends', f_p0_colours')) : Met l yX1_pop wsX1_pop (rX1_pop) (gPc D (tysG cI cC cN) [.ref q, .ref q_p0] [(q, .inr (1, [.ref q_states, .int f_size])), (q_states, .inl (cN, 4, .inr (.inr (.inr (.inr (hisG q_h0 q_h1 q_h2 q_h3)))))), (q_h0, .inr (2, [.int f_h0_knots, .int f_h0_threads, .ref q_h0_ends, .ref q_h0_colours])), (q_h0_ends, .inl (cI, 21, .inl f_h0_ends)), (q_h0_colours, .inl (cI, 21, .inl f_h0_colours)), (q_h1, .inr (2, [.int f_h1_knots, .int f_h1_threads, .ref q_h1_ends, .ref q_h1_colours])), (q_h1_ends, .inl (cI, 21, .inl f_h1_ends)), (q_h1_colours, .inl (cI, 21, .inl f_h1_colours)), (q_h2, .inr (2, [.int f_h2_knots, .int f_h2_threads, .ref q_h2_ends, .ref q_h2_colours])), (q_h2_ends, .inl (cI, 21, .inl f_h2_ends)), (q_h2_colours, .inl (cI, 21, .inl f_h2_colours)), (q_h3, .inr (2, [.int f_h3_knots, .int f_h3_threads, .ref q_h3_ends, .ref q_h3_colours])), (q_h3_ends, .inl (cI, 21, .inl f_h3_ends)), (q_h3_colours, .inl (cI, 21, .inl f_h3_colours)), (q_p0, .inr (2, [.int f_p0_knots, .int f_p0_threads, .ref q_p0_ends, .ref q_p0_colours])), (q_p0_ends, .inl (cI, 21, .inl f_p0_ends)), (q_p0_colours, .inl (cI, 21, .inl f_p0_colours))] sz) (gQi D (tysG cI cC cN) (va_A [(q, .inr (1, [.ref q_states, .int f_size])), (q_states, .inl (cN, 4, .inr (.inr (.inr (.inr (hisG q_h0 q_h1 q_h2 q_h3)))))), (q_h0, .inr (2, [.int f_h0_knots, .int f_h0_threads, .ref q_h0_ends, .ref q_h0_colours])), (q_h0_ends, .inl (cI, 21, .inl f_h0_ends)), (q_h0_colours, .inl (cI, 21, .inl f_h0_colours)), (q_h1, .inr (2, [.int f_h1_knots, .int f_h1_threads, .ref q_h1_ends, .ref q_h1_colours])), (q_h1_ends, .inl (cI, 21, .inl f_h1_ends)), (q_h1_colours, .inl (cI, 21, .inl f_h1_colours)), (q_h2, .inr (2, [.int f_h2_knots, .int f_h2_threads, .ref q_h2_ends, .ref q_h2_colours])), (q_h2_ends, .inl (cI, 21, .inl f_h2_ends)), (q_h2_colours, .inl (cI, 21, .inl f_h2_colours)), (q_h3, .inr (2, [.int f_h3_knots, .int f_h3_threads, .ref q_h3_ends, .ref q_h3_colours])), (q_h3_ends, .inl (cI, 21, .inl f_h3_ends)), (q_h3_colours, .inl (cI, 21, .inl f_h3_colours)), (q_p0, .inr (2, [.int f_p0_knots, .int f_p0_threads, .ref q_p0_ends, .ref q_p0_colours])), (q_p0_ends, .inl (cI, 21, .inl f_p0_ends)), (q_p0_colours, .inl (cI, 21, .inl f_p0_colours))] sz) [(q, .inr (1, [.ref q_states, .int f_size'])), (q_states, .inl (cN, 4, .inr (.inr (.inr (.inr (hisG q_h0 q_h1 q_h2 q_h3)))))), (q_h0, .inr (2, [.int f_h0_knots, .int f_h0_threads, .ref q_h0_ends, .ref q_h0_colours])), (q_h0_ends, .inl (cI, 21, .inl f_h0_ends)), (q_h0_colours, .inl (cI, 21, .inl f_h0_colours)), (q_h1, .inr (2, [.int f_h1_knots, .int f_h1_threads, .ref q_h1_ends, .ref q_h1_colours])), (q_h1_ends, .inl (cI, 21, .inl f_h1_ends)), (q_h1_colours, .inl (cI, 21, .inl f_h1_colours)), (q_h2, .inr (2, [.int f_h2_knots, .int f_h2_threads, .ref q_h2_ends, .ref q_h2_colours])), (q_h2_ends, .inl (cI, 21, .inl f_h2_ends)), (q_h2_colours, .inl (cI, 21, .inl f_h2_colours)), (q_h3, .inr (2, [.int f_h3_knots, .int f_h3_threads, .ref q_h3_ends, .ref q_h3_colours])), (q_h3_ends, .inl (cI, 21, .inl f_h3_ends)), (q_h3_colours, .inl (cI, 21, .inl f_h3_colours)), (q_p0, .inr (2, [.int f_p0_knots', .int f_p0_threads', .ref q_p0_ends, .ref q_p0_colours])), (q_p0_ends, .inl (cI, 21, .inl f_p0_ends')), (q_p0_colours, .inl (cI, 21, .inl f_p0_colours'))] r) 0 0 (va_A [(q, .inr (1, [.ref q_states, .int f_size])), (q_states, .inl (cN, 4, .inr (.inr (.inr (.inr (hisG q_h0 q_h1 q_h2 q_h3)))))), (q_h0, .inr (2, [.int f_h0_knots, .int f_h0_threads, .ref q_h0_ends, .ref q_h0_colours])), (q_h0_ends, .inl (cI, 21, .inl f_h0_ends)), (q_h0_colours, .inl (cI, 21, .inl f_h0_colours)), (q_h1, .inr (2, [.int f_h1_knots, .int f_h1_threads, .ref q_h1_ends, .ref q_h1_colours])), (q_h1_ends, .inl (cI, 21, .inl f_h1_ends)), (q_h1_colours, .inl (cI, 21, .inl f_h1_colours)), (q_h2, .inr (2, [.int f_h2_knots, .int f_h2_threads, .ref q_h2_ends, .ref q_h2_colours])), (q_h2_ends, .inl (cI, 21, .inl f_h2_ends)), (q_h2_colours, .inl (cI, 21, .inl f_h2_colours)), (q_h3, .inr (2, [.int f_h3_knots, .int f_h3_threads, .ref q_h3_ends, .ref q_h3_colours])), (q_h3_ends, .inl (cI, 21, .inl f_h3_ends)), (q_h3_colours, .inl (cI, 21, .inl f_h3_colours)), (q_p0, .inr (2, [.int f_p0_knots, .int f_p0_threads, .ref q_p0_ends, .ref q_p0_colours])), (q_p0_ends, .inl (cI, 21, .inl f_p0_ends)), (q_p0_colours, .inl (cI, 21, .inl f_p0_colours))] sz) := by
  unfold m_X1_pop at hm
  refine g_openI (cc := cX1_pop) (maxL := 4) (own := RX1) (by decide) rfl rfl (Nat.le_of_ble_eq_true rfl) ?_
  intro p e s m args below meth c A Q hx hb hml hown hts hP hK hN hD hA hret ls hl
  have hS : va_S A s.heap s.heap [] := va_S.rf
  have hl : lv_has ls 4 [(0, .ref q), (1, .ref q_p0)] := hl
  refine lv_aload_n hx hb dX1_pop_0 rfl (lv_at hl 0 rfl) ?_
  refine va_get (D := D) (ci := 1) (v := .int f_size) (C := RX1) (T := TX1) (N := 2) hx hb hts (by decide +kernel) hown hK hP 0 rfl rfl 1 (by decide) (hts (.fieldLink RX1 18 "KnotStripes$History" "size" "I") (by decide +kernel)) (fun _ h9 => h9) rfl dX1_pop_1 ?_
  refine lv_iconst (v := 1) hx hb dX1_pop_4 (by decide) ?_
  refine lv_isub hx hb dX1_pop_5 ?_
  refine lv_topi (fun v2_1 ev2_1 => ?_)
  have hm := nm_use ev2_1 hm
  refine lv_istore_n (lv' := [(2, .int v2_1), (0, .ref q), (1, .ref q_p0)]) hx hb dX1_pop_6 rfl hl (by decide) rfl (fun ls hl => ?_)
  refine lv_iload_n hx hb dX1_pop_7 rfl (lv_at hl 0 rfl) ?_
  refine lv_if_lt (tgt := 20) hx hb dX1_pop_8 (by decide) (fun hc => ?_) (fun hc => ?_)
  · have hm := if_t _ hc hm
    refine lv_iconst (v := 0) hx hb dX1_pop_20 (by decide) ?_
    have z1 := so_use hm
    obtain ⟨y1, z2⟩ := pr_use z1
    obtain ⟨y2, z3⟩ := pr_use z2
    obtain ⟨y3, z4⟩ := pr_use z3
    obtain ⟨y4, z5⟩ := pr_use z4
    obtain ⟨y5, z6⟩ := pr_use z5
    subst y1
    subst y2
    subst y3
    subst y4
    subst y5
    subst z6
    exact hret _ _ _ _ _ dX1_pop_21 rfl rfl hP hD hS
  · have hm := if_f _ hc hm
    refine lv_iload_n hx hb dX1_pop_11 rfl (lv_at hl 0 rfl) ?_
    refine lv_aload_n hx hb dX1_pop_12 rfl (lv_at hl 1 rfl) ?_
    refine va_get (D := D) (ci := 1) (v := .ref q_states) (C := RX1) (T := TX1) (N := 2) hx hb hts (by decide +kernel) hown hK hP 0 rfl rfl 0 (by decide) (hts (.fieldLink RX1 11 "KnotStripes$History" "states" "[LKnotStripes$Net;") (by decide +kernel)) (fun _ h9 => h9) rfl dX1_pop_13 ?_
    refine va_alen (D := D) (v := 4) hx hb hK hP 1 2 rfl rfl rfl dX1_pop_16 ?_
    refine lv_icmp_lt (tgt := 22) hx hb dX1_pop_17 (by decide) (fun hc => ?_) (fun hc => ?_)
    · have hm := if_t _ hc hm
      refine lv_aload_n hx hb dX1_pop_22 rfl (lv_at hl 1 rfl) ?_
      refine va_get (D := D) (ci := 1) (v := .ref q_states) (C := RX1) (T := TX1) (N := 2) hx hb hts (by decide +kernel) hown hK hP 0 rfl rfl 0 (by decide) (hts (.fieldLink RX1 11 "KnotStripes$History" "states" "[LKnotStripes$Net;") (by decide +kernel)) (fun _ h9 => h9) rfl dX1_pop_23 ?_
      refine lv_iload_n hx hb dX1_pop_26 rfl (lv_at hl 0 rfl) ?_
      by_cases hc0 : v2_1 = 0
      · have hm := if_t _ hc0 hm
        subst hc0
        refine va_aldq (D := D) (n := 4) (f := hisG q_h0 q_h1 q_h2 q_h3) hx hb hK hP 1 2 rfl rfl (by unfold vp_in; decide) dX1_pop_27 ?_
        refine W.eq (g2 := F0 m 28 ls [.ref q_h0]) rfl ?_
        refine lv_astore_n (lv' := [(3, .ref q_h0), (2, .int 0), (0, .ref q), (1, .ref q_p0)]) hx hb dX1_pop_28 rfl hl (by decide) rfl (fun ls hl => ?_)
        refine lv_aload_n hx hb dX1_pop_29 rfl (lv_at hl 0 rfl) ?_
        refine lv_ifnonnull (tgt := 35) hx hb dX1_pop_30 (by decide) ?_
        refine lv_aload_n hx hb dX1_pop_35 rfl (lv_at hl 3 rfl) ?_
        refine lv_aload_n hx hb dX1_pop_36 rfl (lv_at hl 0 rfl) ?_
        obtain ⟨⟨f_p0_knots_2, f_p0_threads_3, f_p0_ends_4, f_p0_colours_5⟩, h_6, hm⟩ := bind_use hm
        refine g_kv (wc := [(q_p0, .inr (2, [.int f_p0_knots, .int f_p0_threads, .ref q_p0_ends, .ref q_p0_colours])), (q_p0_ends, .inl (cI, 21, .inl f_p0_ends)), (q_p0_colours, .inl (cI, 21, .inl f_p0_colours)), (q_h0, .inr (2, [.int f_h0_knots, .int f_h0_threads, .ref q_h0_ends, .ref q_h0_colours])), (q_h0_ends, .inl (cI, 21, .inl f_h0_ends)), (q_h0_colours, .inl (cI, 21, .inl f_h0_colours))]) (wr := [(q, .inr (1, [.ref q_states, .int f_size])), (q_states, .inl (cN, 4, .inr (.inr (.inr (.inr (hisG q_h0 q_h1 q_h2 q_h3)))))), (q_h1, .inr (2, [.int f_h1_knots, .int f_h1_threads, .ref q_h1_ends, .ref q_h1_colours])), (q_h1_ends, .inl (cI, 21, .inl f_h1_ends)), (q_h1_colours, .inl (cI, 21, .inl f_h1_colours)), (q_h2, .inr (2, [.int f_h2_knots, .int f_h2_threads, .ref q_h2_ends, .ref q_h2_colours])), (q_h2_ends, .inl (cI, 21, .inl f_h2_ends)), (q_h2_colours, .inl (cI, 21, .inl f_h2_colours)), (q_h3, .inr (2, [.int f_h3_knots, .int f_h3_threads, .ref q_h3_ends, .ref q_h3_colours])), (q_h3_ends, .inl (cI, 21, .inl f_h3_ends)), (q_h3_colours, .inl (cI, 21, .inl f_h3_colours))]) (w2 := [(q, .inr (1, [.ref q_states, .int f_size])), (q_states, .inl (cN, 4, .inr (.inr (.inr (.inr (hisG q_h0 q_h1 q_h2 q_h3)))))), (q_h1, .inr (2, [.int f_h1_knots, .int f_h1_threads, .ref q_h1_ends, .ref q_h1_colours])), (q_h1_ends, .inl (cI, 21, .inl f_h1_ends)), (q_h1_colours, .inl (cI, 21, .inl f_h1_colours)), (q_h2, .inr (2, [.int f_h2_knots, .int f_h2_threads, .ref q_h2_ends, .ref q_h2_colours])), (q_h2_ends, .inl (cI, 21, .inl f_h2_ends)), (q_h2_colours, .inl (cI, 21, .inl f_h2_colours)), (q_h3, .inr (2, [.int f_h3_knots, .int f_h3_threads, .ref q_h3_ends, .ref q_h3_colours])), (q_h3_ends, .inl (cI, 21, .inl f_h3_ends)), (q_h3_colours, .inl (cI, 21, .inl f_h3_colours)), (q_p0, .inr (2, [.int f_p0_knots_2, .int f_p0_threads_3, .ref q_p0_ends, .ref q_p0_colours])), (q_p0_ends, .inl (cI, 21, .inl f_p0_ends_4)), (q_p0_colours, .inl (cI, 21, .inl f_p0_colours_5)), (q_h0, .inr (2, [.int f_h0_knots, .int f_h0_threads, .ref q_h0_ends, .ref q_h0_colours])), (q_h0_ends, .inl (cI, 21, .inl f_h0_ends)), (q_h0_colours, .inl (cI, 21, .inl f_h0_colours))]) (va_runV (As := [.ref q_h0]) (rest := []) ⟨hx, hb, hml, hown, hts⟩ (k_X2_copyFrom l D cI cC cN N q_p0 q_p0_ends q_p0_colours q_h0 q_h0_ends q_h0_colours s.heap.size f_p0_knots f_p0_threads f_p0_ends f_p0_colours f_h0_knots f_h0_threads f_h0_ends f_h0_colours f_p0_knots_2 f_p0_threads_3 f_p0_ends_4 f_p0_colours_5 h_6) (cwV 1 hts gX1_pop_X2_copyFrom rfl rfl rfl (by decide +kernel) ⟨Nat.le_of_ble_eq_true rfl, Nat.le_of_ble_eq_true rfl⟩) ⟨g_blind, va_recv (D := D) (ci := 2) (q0 := 14) hK hP rfl rfl, g_pre (hP.sub [14, 15, 16, 2, 3, 4] rfl) hK hN (hD.sub [14, 15, 16, 2, 3, 4] (by decide) rfl)⟩ rfl rfl hl.1 rfl (lv_room (Nat.le_of_ble_eq_true rfl)) dX1_pop_37 ⟨Nat.zero_le _, Nat.zero_le _⟩) hP hD hS hA [14, 15, 16, 2, 3, 4] [0, 1, 5, 6, 7, 8, 9, 10, 11, 12, 13] rfl rfl (by decide) (by decide) rfl (fun H locs hP hD hS => ?_)
        refine lv_aload_n hx hb dX1_pop_40 rfl (lv_at hl 2 rfl) ?_
        refine lv_iload_n hx hb dX1_pop_41 rfl (lv_at hl 1 rfl) ?_
        refine va_put (D := D) (ci := 1) (v := .int 0) (ty := .int) (C := RX1) (T := TX1) (N := 2) hx hb hts (by decide +kernel) tyX1 tyX1_ok nmX1 hown hK hP hD hS 0 rfl rfl 1 (by decide) (hts (.fieldLink RX1 18 "KnotStripes$History" "size" "I") (by decide +kernel)) (fun _ h9 => h9) rfl (by decide +kernel) rfl rfl (Nat.le_of_ble_eq_true rfl) dX1_pop_42 (fun H locs hP hD hS => ?_)
        have hP : va_P D vwCl [(q, .inr (1, [.ref q_states, .int 0])), (q_states, .inl (cN, 4, .inr (.inr (.inr (.inr (hisG q_h0 q_h1 q_h2 q_h3)))))), (q_h1, .inr (2, [.int f_h1_knots, .int f_h1_threads, .ref q_h1_ends, .ref q_h1_colours])), (q_h1_ends, .inl (cI, 21, .inl f_h1_ends)), (q_h1_colours, .inl (cI, 21, .inl f_h1_colours)), (q_h2, .inr (2, [.int f_h2_knots, .int f_h2_threads, .ref q_h2_ends, .ref q_h2_colours])), (q_h2_ends, .inl (cI, 21, .inl f_h2_ends)), (q_h2_colours, .inl (cI, 21, .inl f_h2_colours)), (q_h3, .inr (2, [.int f_h3_knots, .int f_h3_threads, .ref q_h3_ends, .ref q_h3_colours])), (q_h3_ends, .inl (cI, 21, .inl f_h3_ends)), (q_h3_colours, .inl (cI, 21, .inl f_h3_colours)), (q_p0, .inr (2, [.int f_p0_knots_2, .int f_p0_threads_3, .ref q_p0_ends, .ref q_p0_colours])), (q_p0_ends, .inl (cI, 21, .inl f_p0_ends_4)), (q_p0_colours, .inl (cI, 21, .inl f_p0_colours_5)), (q_h0, .inr (2, [.int f_h0_knots, .int f_h0_threads, .ref q_h0_ends, .ref q_h0_colours])), (q_h0_ends, .inl (cI, 21, .inl f_h0_ends)), (q_h0_colours, .inl (cI, 21, .inl f_h0_colours))] H := hP
        have hD : va_D A [(q, .inr (1, [.ref q_states, .int 0])), (q_states, .inl (cN, 4, .inr (.inr (.inr (.inr (hisG q_h0 q_h1 q_h2 q_h3)))))), (q_h1, .inr (2, [.int f_h1_knots, .int f_h1_threads, .ref q_h1_ends, .ref q_h1_colours])), (q_h1_ends, .inl (cI, 21, .inl f_h1_ends)), (q_h1_colours, .inl (cI, 21, .inl f_h1_colours)), (q_h2, .inr (2, [.int f_h2_knots, .int f_h2_threads, .ref q_h2_ends, .ref q_h2_colours])), (q_h2_ends, .inl (cI, 21, .inl f_h2_ends)), (q_h2_colours, .inl (cI, 21, .inl f_h2_colours)), (q_h3, .inr (2, [.int f_h3_knots, .int f_h3_threads, .ref q_h3_ends, .ref q_h3_colours])), (q_h3_ends, .inl (cI, 21, .inl f_h3_ends)), (q_h3_colours, .inl (cI, 21, .inl f_h3_colours)), (q_p0, .inr (2, [.int f_p0_knots_2, .int f_p0_threads_3, .ref q_p0_ends, .ref q_p0_colours])), (q_p0_ends, .inl (cI, 21, .inl f_p0_ends_4)), (q_p0_colours, .inl (cI, 21, .inl f_p0_colours_5)), (q_h0, .inr (2, [.int f_h0_knots, .int f_h0_threads, .ref q_h0_ends, .ref q_h0_colours])), (q_h0_ends, .inl (cI, 21, .inl f_h0_ends)), (q_h0_colours, .inl (cI, 21, .inl f_h0_colours))] := hD
        refine lv_iconst (v := 1) hx hb dX1_pop_45 (by decide) ?_
        have z1 := so_use hm
        obtain ⟨y1, z2⟩ := pr_use z1
        obtain ⟨y2, z3⟩ := pr_use z2
        obtain ⟨y3, z4⟩ := pr_use z3
        obtain ⟨y4, z5⟩ := pr_use z4
        obtain ⟨y5, z6⟩ := pr_use z5
        subst y1
        subst y2
        subst y3
        subst y4
        subst y5
        subst z6
        exact hret _ _ _ _ _ dX1_pop_46 rfl rfl (hP.sub [0, 1, 14, 15, 16, 2, 3, 4, 5, 6, 7, 8, 9, 10, 11, 12, 13] rfl) (hD.sub [0, 1, 14, 15, 16, 2, 3, 4, 5, 6, 7, 8, 9, 10, 11, 12, 13] (by decide) rfl) hS
      · have hm := if_f _ hc0 hm
        by_cases hc1 : v2_1 = 1
        · have hm := if_t _ hc1 hm
          subst hc1
          refine va_aldq (D := D) (n := 4) (f := hisG q_h0 q_h1 q_h2 q_h3) hx hb hK hP 1 2 rfl rfl (by unfold vp_in; decide) dX1_pop_27 ?_
          refine W.eq (g2 := F0 m 28 ls [.ref q_h1]) rfl ?_
          refine lv_astore_n (lv' := [(3, .ref q_h1), (2, .int 1), (0, .ref q), (1, .ref q_p0)]) hx hb dX1_pop_28 rfl hl (by decide) rfl (fun ls hl => ?_)
          refine lv_aload_n hx hb dX1_pop_29 rfl (lv_at hl 0 rfl) ?_
          refine lv_ifnonnull (tgt := 35) hx hb dX1_pop_30 (by decide) ?_
          refine lv_aload_n hx hb dX1_pop_35 rfl (lv_at hl 3 rfl) ?_
          refine lv_aload_n hx hb dX1_pop_36 rfl (lv_at hl 0 rfl) ?_
          obtain ⟨⟨f_p0_knots_7, f_p0_threads_8, f_p0_ends_9, f_p0_colours_10⟩, h_11, hm⟩ := bind_use hm
          refine g_kv (wc := [(q_p0, .inr (2, [.int f_p0_knots, .int f_p0_threads, .ref q_p0_ends, .ref q_p0_colours])), (q_p0_ends, .inl (cI, 21, .inl f_p0_ends)), (q_p0_colours, .inl (cI, 21, .inl f_p0_colours)), (q_h1, .inr (2, [.int f_h1_knots, .int f_h1_threads, .ref q_h1_ends, .ref q_h1_colours])), (q_h1_ends, .inl (cI, 21, .inl f_h1_ends)), (q_h1_colours, .inl (cI, 21, .inl f_h1_colours))]) (wr := [(q, .inr (1, [.ref q_states, .int f_size])), (q_states, .inl (cN, 4, .inr (.inr (.inr (.inr (hisG q_h0 q_h1 q_h2 q_h3)))))), (q_h0, .inr (2, [.int f_h0_knots, .int f_h0_threads, .ref q_h0_ends, .ref q_h0_colours])), (q_h0_ends, .inl (cI, 21, .inl f_h0_ends)), (q_h0_colours, .inl (cI, 21, .inl f_h0_colours)), (q_h2, .inr (2, [.int f_h2_knots, .int f_h2_threads, .ref q_h2_ends, .ref q_h2_colours])), (q_h2_ends, .inl (cI, 21, .inl f_h2_ends)), (q_h2_colours, .inl (cI, 21, .inl f_h2_colours)), (q_h3, .inr (2, [.int f_h3_knots, .int f_h3_threads, .ref q_h3_ends, .ref q_h3_colours])), (q_h3_ends, .inl (cI, 21, .inl f_h3_ends)), (q_h3_colours, .inl (cI, 21, .inl f_h3_colours))]) (w2 := [(q, .inr (1, [.ref q_states, .int f_size])), (q_states, .inl (cN, 4, .inr (.inr (.inr (.inr (hisG q_h0 q_h1 q_h2 q_h3)))))), (q_h0, .inr (2, [.int f_h0_knots, .int f_h0_threads, .ref q_h0_ends, .ref q_h0_colours])), (q_h0_ends, .inl (cI, 21, .inl f_h0_ends)), (q_h0_colours, .inl (cI, 21, .inl f_h0_colours)), (q_h2, .inr (2, [.int f_h2_knots, .int f_h2_threads, .ref q_h2_ends, .ref q_h2_colours])), (q_h2_ends, .inl (cI, 21, .inl f_h2_ends)), (q_h2_colours, .inl (cI, 21, .inl f_h2_colours)), (q_h3, .inr (2, [.int f_h3_knots, .int f_h3_threads, .ref q_h3_ends, .ref q_h3_colours])), (q_h3_ends, .inl (cI, 21, .inl f_h3_ends)), (q_h3_colours, .inl (cI, 21, .inl f_h3_colours)), (q_p0, .inr (2, [.int f_p0_knots_7, .int f_p0_threads_8, .ref q_p0_ends, .ref q_p0_colours])), (q_p0_ends, .inl (cI, 21, .inl f_p0_ends_9)), (q_p0_colours, .inl (cI, 21, .inl f_p0_colours_10)), (q_h1, .inr (2, [.int f_h1_knots, .int f_h1_threads, .ref q_h1_ends, .ref q_h1_colours])), (q_h1_ends, .inl (cI, 21, .inl f_h1_ends)), (q_h1_colours, .inl (cI, 21, .inl f_h1_colours))]) (va_runV (As := [.ref q_h1]) (rest := []) ⟨hx, hb, hml, hown, hts⟩ (k_X2_copyFrom l D cI cC cN N q_p0 q_p0_ends q_p0_colours q_h1 q_h1_ends q_h1_colours s.heap.size f_p0_knots f_p0_threads f_p0_ends f_p0_colours f_h1_knots f_h1_threads f_h1_ends f_h1_colours f_p0_knots_7 f_p0_threads_8 f_p0_ends_9 f_p0_colours_10 h_11) (cwV 1 hts gX1_pop_X2_copyFrom rfl rfl rfl (by decide +kernel) ⟨Nat.le_of_ble_eq_true rfl, Nat.le_of_ble_eq_true rfl⟩) ⟨g_blind, va_recv (D := D) (ci := 2) (q0 := 14) hK hP rfl rfl, g_pre (hP.sub [14, 15, 16, 5, 6, 7] rfl) hK hN (hD.sub [14, 15, 16, 5, 6, 7] (by decide) rfl)⟩ rfl rfl hl.1 rfl (lv_room (Nat.le_of_ble_eq_true rfl)) dX1_pop_37 ⟨Nat.zero_le _, Nat.zero_le _⟩) hP hD hS hA [14, 15, 16, 5, 6, 7] [0, 1, 2, 3, 4, 8, 9, 10, 11, 12, 13] rfl rfl (by decide) (by decide) rfl (fun H locs hP hD hS => ?_)
          refine lv_aload_n hx hb dX1_pop_40 rfl (lv_at hl 2 rfl) ?_
          refine lv_iload_n hx hb dX1_pop_41 rfl (lv_at hl 1 rfl) ?_
          refine va_put (D := D) (ci := 1) (v := .int 1) (ty := .int) (C := RX1) (T := TX1) (N := 2) hx hb hts (by decide +kernel) tyX1 tyX1_ok nmX1 hown hK hP hD hS 0 rfl rfl 1 (by decide) (hts (.fieldLink RX1 18 "KnotStripes$History" "size" "I") (by decide +kernel)) (fun _ h9 => h9) rfl (by decide +kernel) rfl rfl (Nat.le_of_ble_eq_true rfl) dX1_pop_42 (fun H locs hP hD hS => ?_)
          have hP : va_P D vwCl [(q, .inr (1, [.ref q_states, .int 1])), (q_states, .inl (cN, 4, .inr (.inr (.inr (.inr (hisG q_h0 q_h1 q_h2 q_h3)))))), (q_h0, .inr (2, [.int f_h0_knots, .int f_h0_threads, .ref q_h0_ends, .ref q_h0_colours])), (q_h0_ends, .inl (cI, 21, .inl f_h0_ends)), (q_h0_colours, .inl (cI, 21, .inl f_h0_colours)), (q_h2, .inr (2, [.int f_h2_knots, .int f_h2_threads, .ref q_h2_ends, .ref q_h2_colours])), (q_h2_ends, .inl (cI, 21, .inl f_h2_ends)), (q_h2_colours, .inl (cI, 21, .inl f_h2_colours)), (q_h3, .inr (2, [.int f_h3_knots, .int f_h3_threads, .ref q_h3_ends, .ref q_h3_colours])), (q_h3_ends, .inl (cI, 21, .inl f_h3_ends)), (q_h3_colours, .inl (cI, 21, .inl f_h3_colours)), (q_p0, .inr (2, [.int f_p0_knots_7, .int f_p0_threads_8, .ref q_p0_ends, .ref q_p0_colours])), (q_p0_ends, .inl (cI, 21, .inl f_p0_ends_9)), (q_p0_colours, .inl (cI, 21, .inl f_p0_colours_10)), (q_h1, .inr (2, [.int f_h1_knots, .int f_h1_threads, .ref q_h1_ends, .ref q_h1_colours])), (q_h1_ends, .inl (cI, 21, .inl f_h1_ends)), (q_h1_colours, .inl (cI, 21, .inl f_h1_colours))] H := hP
          have hD : va_D A [(q, .inr (1, [.ref q_states, .int 1])), (q_states, .inl (cN, 4, .inr (.inr (.inr (.inr (hisG q_h0 q_h1 q_h2 q_h3)))))), (q_h0, .inr (2, [.int f_h0_knots, .int f_h0_threads, .ref q_h0_ends, .ref q_h0_colours])), (q_h0_ends, .inl (cI, 21, .inl f_h0_ends)), (q_h0_colours, .inl (cI, 21, .inl f_h0_colours)), (q_h2, .inr (2, [.int f_h2_knots, .int f_h2_threads, .ref q_h2_ends, .ref q_h2_colours])), (q_h2_ends, .inl (cI, 21, .inl f_h2_ends)), (q_h2_colours, .inl (cI, 21, .inl f_h2_colours)), (q_h3, .inr (2, [.int f_h3_knots, .int f_h3_threads, .ref q_h3_ends, .ref q_h3_colours])), (q_h3_ends, .inl (cI, 21, .inl f_h3_ends)), (q_h3_colours, .inl (cI, 21, .inl f_h3_colours)), (q_p0, .inr (2, [.int f_p0_knots_7, .int f_p0_threads_8, .ref q_p0_ends, .ref q_p0_colours])), (q_p0_ends, .inl (cI, 21, .inl f_p0_ends_9)), (q_p0_colours, .inl (cI, 21, .inl f_p0_colours_10)), (q_h1, .inr (2, [.int f_h1_knots, .int f_h1_threads, .ref q_h1_ends, .ref q_h1_colours])), (q_h1_ends, .inl (cI, 21, .inl f_h1_ends)), (q_h1_colours, .inl (cI, 21, .inl f_h1_colours))] := hD
          refine lv_iconst (v := 1) hx hb dX1_pop_45 (by decide) ?_
          have z1 := so_use hm
          obtain ⟨y1, z2⟩ := pr_use z1
          obtain ⟨y2, z3⟩ := pr_use z2
          obtain ⟨y3, z4⟩ := pr_use z3
          obtain ⟨y4, z5⟩ := pr_use z4
          obtain ⟨y5, z6⟩ := pr_use z5
          subst y1
          subst y2
          subst y3
          subst y4
          subst y5
          subst z6
          exact hret _ _ _ _ _ dX1_pop_46 rfl rfl (hP.sub [0, 1, 2, 3, 4, 14, 15, 16, 5, 6, 7, 8, 9, 10, 11, 12, 13] rfl) (hD.sub [0, 1, 2, 3, 4, 14, 15, 16, 5, 6, 7, 8, 9, 10, 11, 12, 13] (by decide) rfl) hS
        · have hm := if_f _ hc1 hm
          by_cases hc2 : v2_1 = 2
          · have hm := if_t _ hc2 hm
            subst hc2
            refine va_aldq (D := D) (n := 4) (f := hisG q_h0 q_h1 q_h2 q_h3) hx hb hK hP 1 2 rfl rfl (by unfold vp_in; decide) dX1_pop_27 ?_
            refine W.eq (g2 := F0 m 28 ls [.ref q_h2]) rfl ?_
            refine lv_astore_n (lv' := [(3, .ref q_h2), (2, .int 2), (0, .ref q), (1, .ref q_p0)]) hx hb dX1_pop_28 rfl hl (by decide) rfl (fun ls hl => ?_)
            refine lv_aload_n hx hb dX1_pop_29 rfl (lv_at hl 0 rfl) ?_
            refine lv_ifnonnull (tgt := 35) hx hb dX1_pop_30 (by decide) ?_
            refine lv_aload_n hx hb dX1_pop_35 rfl (lv_at hl 3 rfl) ?_
            refine lv_aload_n hx hb dX1_pop_36 rfl (lv_at hl 0 rfl) ?_
            obtain ⟨⟨f_p0_knots_12, f_p0_threads_13, f_p0_ends_14, f_p0_colours_15⟩, h_16, hm⟩ := bind_use hm
            refine g_kv (wc := [(q_p0, .inr (2, [.int f_p0_knots, .int f_p0_threads, .ref q_p0_ends, .ref q_p0_colours])), (q_p0_ends, .inl (cI, 21, .inl f_p0_ends)), (q_p0_colours, .inl (cI, 21, .inl f_p0_colours)), (q_h2, .inr (2, [.int f_h2_knots, .int f_h2_threads, .ref q_h2_ends, .ref q_h2_colours])), (q_h2_ends, .inl (cI, 21, .inl f_h2_ends)), (q_h2_colours, .inl (cI, 21, .inl f_h2_colours))]) (wr := [(q, .inr (1, [.ref q_states, .int f_size])), (q_states, .inl (cN, 4, .inr (.inr (.inr (.inr (hisG q_h0 q_h1 q_h2 q_h3)))))), (q_h0, .inr (2, [.int f_h0_knots, .int f_h0_threads, .ref q_h0_ends, .ref q_h0_colours])), (q_h0_ends, .inl (cI, 21, .inl f_h0_ends)), (q_h0_colours, .inl (cI, 21, .inl f_h0_colours)), (q_h1, .inr (2, [.int f_h1_knots, .int f_h1_threads, .ref q_h1_ends, .ref q_h1_colours])), (q_h1_ends, .inl (cI, 21, .inl f_h1_ends)), (q_h1_colours, .inl (cI, 21, .inl f_h1_colours)), (q_h3, .inr (2, [.int f_h3_knots, .int f_h3_threads, .ref q_h3_ends, .ref q_h3_colours])), (q_h3_ends, .inl (cI, 21, .inl f_h3_ends)), (q_h3_colours, .inl (cI, 21, .inl f_h3_colours))]) (w2 := [(q, .inr (1, [.ref q_states, .int f_size])), (q_states, .inl (cN, 4, .inr (.inr (.inr (.inr (hisG q_h0 q_h1 q_h2 q_h3)))))), (q_h0, .inr (2, [.int f_h0_knots, .int f_h0_threads, .ref q_h0_ends, .ref q_h0_colours])), (q_h0_ends, .inl (cI, 21, .inl f_h0_ends)), (q_h0_colours, .inl (cI, 21, .inl f_h0_colours)), (q_h1, .inr (2, [.int f_h1_knots, .int f_h1_threads, .ref q_h1_ends, .ref q_h1_colours])), (q_h1_ends, .inl (cI, 21, .inl f_h1_ends)), (q_h1_colours, .inl (cI, 21, .inl f_h1_colours)), (q_h3, .inr (2, [.int f_h3_knots, .int f_h3_threads, .ref q_h3_ends, .ref q_h3_colours])), (q_h3_ends, .inl (cI, 21, .inl f_h3_ends)), (q_h3_colours, .inl (cI, 21, .inl f_h3_colours)), (q_p0, .inr (2, [.int f_p0_knots_12, .int f_p0_threads_13, .ref q_p0_ends, .ref q_p0_colours])), (q_p0_ends, .inl (cI, 21, .inl f_p0_ends_14)), (q_p0_colours, .inl (cI, 21, .inl f_p0_colours_15)), (q_h2, .inr (2, [.int f_h2_knots, .int f_h2_threads, .ref q_h2_ends, .ref q_h2_colours])), (q_h2_ends, .inl (cI, 21, .inl f_h2_ends)), (q_h2_colours, .inl (cI, 21, .inl f_h2_colours))]) (va_runV (As := [.ref q_h2]) (rest := []) ⟨hx, hb, hml, hown, hts⟩ (k_X2_copyFrom l D cI cC cN N q_p0 q_p0_ends q_p0_colours q_h2 q_h2_ends q_h2_colours s.heap.size f_p0_knots f_p0_threads f_p0_ends f_p0_colours f_h2_knots f_h2_threads f_h2_ends f_h2_colours f_p0_knots_12 f_p0_threads_13 f_p0_ends_14 f_p0_colours_15 h_16) (cwV 1 hts gX1_pop_X2_copyFrom rfl rfl rfl (by decide +kernel) ⟨Nat.le_of_ble_eq_true rfl, Nat.le_of_ble_eq_true rfl⟩) ⟨g_blind, va_recv (D := D) (ci := 2) (q0 := 14) hK hP rfl rfl, g_pre (hP.sub [14, 15, 16, 8, 9, 10] rfl) hK hN (hD.sub [14, 15, 16, 8, 9, 10] (by decide) rfl)⟩ rfl rfl hl.1 rfl (lv_room (Nat.le_of_ble_eq_true rfl)) dX1_pop_37 ⟨Nat.zero_le _, Nat.zero_le _⟩) hP hD hS hA [14, 15, 16, 8, 9, 10] [0, 1, 2, 3, 4, 5, 6, 7, 11, 12, 13] rfl rfl (by decide) (by decide) rfl (fun H locs hP hD hS => ?_)
            refine lv_aload_n hx hb dX1_pop_40 rfl (lv_at hl 2 rfl) ?_
            refine lv_iload_n hx hb dX1_pop_41 rfl (lv_at hl 1 rfl) ?_
            refine va_put (D := D) (ci := 1) (v := .int 2) (ty := .int) (C := RX1) (T := TX1) (N := 2) hx hb hts (by decide +kernel) tyX1 tyX1_ok nmX1 hown hK hP hD hS 0 rfl rfl 1 (by decide) (hts (.fieldLink RX1 18 "KnotStripes$History" "size" "I") (by decide +kernel)) (fun _ h9 => h9) rfl (by decide +kernel) rfl rfl (Nat.le_of_ble_eq_true rfl) dX1_pop_42 (fun H locs hP hD hS => ?_)
            have hP : va_P D vwCl [(q, .inr (1, [.ref q_states, .int 2])), (q_states, .inl (cN, 4, .inr (.inr (.inr (.inr (hisG q_h0 q_h1 q_h2 q_h3)))))), (q_h0, .inr (2, [.int f_h0_knots, .int f_h0_threads, .ref q_h0_ends, .ref q_h0_colours])), (q_h0_ends, .inl (cI, 21, .inl f_h0_ends)), (q_h0_colours, .inl (cI, 21, .inl f_h0_colours)), (q_h1, .inr (2, [.int f_h1_knots, .int f_h1_threads, .ref q_h1_ends, .ref q_h1_colours])), (q_h1_ends, .inl (cI, 21, .inl f_h1_ends)), (q_h1_colours, .inl (cI, 21, .inl f_h1_colours)), (q_h3, .inr (2, [.int f_h3_knots, .int f_h3_threads, .ref q_h3_ends, .ref q_h3_colours])), (q_h3_ends, .inl (cI, 21, .inl f_h3_ends)), (q_h3_colours, .inl (cI, 21, .inl f_h3_colours)), (q_p0, .inr (2, [.int f_p0_knots_12, .int f_p0_threads_13, .ref q_p0_ends, .ref q_p0_colours])), (q_p0_ends, .inl (cI, 21, .inl f_p0_ends_14)), (q_p0_colours, .inl (cI, 21, .inl f_p0_colours_15)), (q_h2, .inr (2, [.int f_h2_knots, .int f_h2_threads, .ref q_h2_ends, .ref q_h2_colours])), (q_h2_ends, .inl (cI, 21, .inl f_h2_ends)), (q_h2_colours, .inl (cI, 21, .inl f_h2_colours))] H := hP
            have hD : va_D A [(q, .inr (1, [.ref q_states, .int 2])), (q_states, .inl (cN, 4, .inr (.inr (.inr (.inr (hisG q_h0 q_h1 q_h2 q_h3)))))), (q_h0, .inr (2, [.int f_h0_knots, .int f_h0_threads, .ref q_h0_ends, .ref q_h0_colours])), (q_h0_ends, .inl (cI, 21, .inl f_h0_ends)), (q_h0_colours, .inl (cI, 21, .inl f_h0_colours)), (q_h1, .inr (2, [.int f_h1_knots, .int f_h1_threads, .ref q_h1_ends, .ref q_h1_colours])), (q_h1_ends, .inl (cI, 21, .inl f_h1_ends)), (q_h1_colours, .inl (cI, 21, .inl f_h1_colours)), (q_h3, .inr (2, [.int f_h3_knots, .int f_h3_threads, .ref q_h3_ends, .ref q_h3_colours])), (q_h3_ends, .inl (cI, 21, .inl f_h3_ends)), (q_h3_colours, .inl (cI, 21, .inl f_h3_colours)), (q_p0, .inr (2, [.int f_p0_knots_12, .int f_p0_threads_13, .ref q_p0_ends, .ref q_p0_colours])), (q_p0_ends, .inl (cI, 21, .inl f_p0_ends_14)), (q_p0_colours, .inl (cI, 21, .inl f_p0_colours_15)), (q_h2, .inr (2, [.int f_h2_knots, .int f_h2_threads, .ref q_h2_ends, .ref q_h2_colours])), (q_h2_ends, .inl (cI, 21, .inl f_h2_ends)), (q_h2_colours, .inl (cI, 21, .inl f_h2_colours))] := hD
            refine lv_iconst (v := 1) hx hb dX1_pop_45 (by decide) ?_
            have z1 := so_use hm
            obtain ⟨y1, z2⟩ := pr_use z1
            obtain ⟨y2, z3⟩ := pr_use z2
            obtain ⟨y3, z4⟩ := pr_use z3
            obtain ⟨y4, z5⟩ := pr_use z4
            obtain ⟨y5, z6⟩ := pr_use z5
            subst y1
            subst y2
            subst y3
            subst y4
            subst y5
            subst z6
            exact hret _ _ _ _ _ dX1_pop_46 rfl rfl (hP.sub [0, 1, 2, 3, 4, 5, 6, 7, 14, 15, 16, 8, 9, 10, 11, 12, 13] rfl) (hD.sub [0, 1, 2, 3, 4, 5, 6, 7, 14, 15, 16, 8, 9, 10, 11, 12, 13] (by decide) rfl) hS
          · have hm := if_f _ hc2 hm
            by_cases hc3 : v2_1 = 3
            · have hm := if_t _ hc3 hm
              subst hc3
              refine va_aldq (D := D) (n := 4) (f := hisG q_h0 q_h1 q_h2 q_h3) hx hb hK hP 1 2 rfl rfl (by unfold vp_in; decide) dX1_pop_27 ?_
              refine W.eq (g2 := F0 m 28 ls [.ref q_h3]) rfl ?_
              refine lv_astore_n (lv' := [(3, .ref q_h3), (2, .int 3), (0, .ref q), (1, .ref q_p0)]) hx hb dX1_pop_28 rfl hl (by decide) rfl (fun ls hl => ?_)
              refine lv_aload_n hx hb dX1_pop_29 rfl (lv_at hl 0 rfl) ?_
              refine lv_ifnonnull (tgt := 35) hx hb dX1_pop_30 (by decide) ?_
              refine lv_aload_n hx hb dX1_pop_35 rfl (lv_at hl 3 rfl) ?_
              refine lv_aload_n hx hb dX1_pop_36 rfl (lv_at hl 0 rfl) ?_
              obtain ⟨⟨f_p0_knots_17, f_p0_threads_18, f_p0_ends_19, f_p0_colours_20⟩, h_21, hm⟩ := bind_use hm
              refine g_kv (wc := [(q_p0, .inr (2, [.int f_p0_knots, .int f_p0_threads, .ref q_p0_ends, .ref q_p0_colours])), (q_p0_ends, .inl (cI, 21, .inl f_p0_ends)), (q_p0_colours, .inl (cI, 21, .inl f_p0_colours)), (q_h3, .inr (2, [.int f_h3_knots, .int f_h3_threads, .ref q_h3_ends, .ref q_h3_colours])), (q_h3_ends, .inl (cI, 21, .inl f_h3_ends)), (q_h3_colours, .inl (cI, 21, .inl f_h3_colours))]) (wr := [(q, .inr (1, [.ref q_states, .int f_size])), (q_states, .inl (cN, 4, .inr (.inr (.inr (.inr (hisG q_h0 q_h1 q_h2 q_h3)))))), (q_h0, .inr (2, [.int f_h0_knots, .int f_h0_threads, .ref q_h0_ends, .ref q_h0_colours])), (q_h0_ends, .inl (cI, 21, .inl f_h0_ends)), (q_h0_colours, .inl (cI, 21, .inl f_h0_colours)), (q_h1, .inr (2, [.int f_h1_knots, .int f_h1_threads, .ref q_h1_ends, .ref q_h1_colours])), (q_h1_ends, .inl (cI, 21, .inl f_h1_ends)), (q_h1_colours, .inl (cI, 21, .inl f_h1_colours)), (q_h2, .inr (2, [.int f_h2_knots, .int f_h2_threads, .ref q_h2_ends, .ref q_h2_colours])), (q_h2_ends, .inl (cI, 21, .inl f_h2_ends)), (q_h2_colours, .inl (cI, 21, .inl f_h2_colours))]) (w2 := [(q, .inr (1, [.ref q_states, .int f_size])), (q_states, .inl (cN, 4, .inr (.inr (.inr (.inr (hisG q_h0 q_h1 q_h2 q_h3)))))), (q_h0, .inr (2, [.int f_h0_knots, .int f_h0_threads, .ref q_h0_ends, .ref q_h0_colours])), (q_h0_ends, .inl (cI, 21, .inl f_h0_ends)), (q_h0_colours, .inl (cI, 21, .inl f_h0_colours)), (q_h1, .inr (2, [.int f_h1_knots, .int f_h1_threads, .ref q_h1_ends, .ref q_h1_colours])), (q_h1_ends, .inl (cI, 21, .inl f_h1_ends)), (q_h1_colours, .inl (cI, 21, .inl f_h1_colours)), (q_h2, .inr (2, [.int f_h2_knots, .int f_h2_threads, .ref q_h2_ends, .ref q_h2_colours])), (q_h2_ends, .inl (cI, 21, .inl f_h2_ends)), (q_h2_colours, .inl (cI, 21, .inl f_h2_colours)), (q_p0, .inr (2, [.int f_p0_knots_17, .int f_p0_threads_18, .ref q_p0_ends, .ref q_p0_colours])), (q_p0_ends, .inl (cI, 21, .inl f_p0_ends_19)), (q_p0_colours, .inl (cI, 21, .inl f_p0_colours_20)), (q_h3, .inr (2, [.int f_h3_knots, .int f_h3_threads, .ref q_h3_ends, .ref q_h3_colours])), (q_h3_ends, .inl (cI, 21, .inl f_h3_ends)), (q_h3_colours, .inl (cI, 21, .inl f_h3_colours))]) (va_runV (As := [.ref q_h3]) (rest := []) ⟨hx, hb, hml, hown, hts⟩ (k_X2_copyFrom l D cI cC cN N q_p0 q_p0_ends q_p0_colours q_h3 q_h3_ends q_h3_colours s.heap.size f_p0_knots f_p0_threads f_p0_ends f_p0_colours f_h3_knots f_h3_threads f_h3_ends f_h3_colours f_p0_knots_17 f_p0_threads_18 f_p0_ends_19 f_p0_colours_20 h_21) (cwV 1 hts gX1_pop_X2_copyFrom rfl rfl rfl (by decide +kernel) ⟨Nat.le_of_ble_eq_true rfl, Nat.le_of_ble_eq_true rfl⟩) ⟨g_blind, va_recv (D := D) (ci := 2) (q0 := 14) hK hP rfl rfl, g_pre (hP.sub [14, 15, 16, 11, 12, 13] rfl) hK hN (hD.sub [14, 15, 16, 11, 12, 13] (by decide) rfl)⟩ rfl rfl hl.1 rfl (lv_room (Nat.le_of_ble_eq_true rfl)) dX1_pop_37 ⟨Nat.zero_le _, Nat.zero_le _⟩) hP hD hS hA [14, 15, 16, 11, 12, 13] [0, 1, 2, 3, 4, 5, 6, 7, 8, 9, 10] rfl rfl (by decide) (by decide) rfl (fun H locs hP hD hS => ?_)
              refine lv_aload_n hx hb dX1_pop_40 rfl (lv_at hl 2 rfl) ?_
              refine lv_iload_n hx hb dX1_pop_41 rfl (lv_at hl 1 rfl) ?_
              refine va_put (D := D) (ci := 1) (v := .int 3) (ty := .int) (C := RX1) (T := TX1) (N := 2) hx hb hts (by decide +kernel) tyX1 tyX1_ok nmX1 hown hK hP hD hS 0 rfl rfl 1 (by decide) (hts (.fieldLink RX1 18 "KnotStripes$History" "size" "I") (by decide +kernel)) (fun _ h9 => h9) rfl (by decide +kernel) rfl rfl (Nat.le_of_ble_eq_true rfl) dX1_pop_42 (fun H locs hP hD hS => ?_)
              have hP : va_P D vwCl [(q, .inr (1, [.ref q_states, .int 3])), (q_states, .inl (cN, 4, .inr (.inr (.inr (.inr (hisG q_h0 q_h1 q_h2 q_h3)))))), (q_h0, .inr (2, [.int f_h0_knots, .int f_h0_threads, .ref q_h0_ends, .ref q_h0_colours])), (q_h0_ends, .inl (cI, 21, .inl f_h0_ends)), (q_h0_colours, .inl (cI, 21, .inl f_h0_colours)), (q_h1, .inr (2, [.int f_h1_knots, .int f_h1_threads, .ref q_h1_ends, .ref q_h1_colours])), (q_h1_ends, .inl (cI, 21, .inl f_h1_ends)), (q_h1_colours, .inl (cI, 21, .inl f_h1_colours)), (q_h2, .inr (2, [.int f_h2_knots, .int f_h2_threads, .ref q_h2_ends, .ref q_h2_colours])), (q_h2_ends, .inl (cI, 21, .inl f_h2_ends)), (q_h2_colours, .inl (cI, 21, .inl f_h2_colours)), (q_p0, .inr (2, [.int f_p0_knots_17, .int f_p0_threads_18, .ref q_p0_ends, .ref q_p0_colours])), (q_p0_ends, .inl (cI, 21, .inl f_p0_ends_19)), (q_p0_colours, .inl (cI, 21, .inl f_p0_colours_20)), (q_h3, .inr (2, [.int f_h3_knots, .int f_h3_threads, .ref q_h3_ends, .ref q_h3_colours])), (q_h3_ends, .inl (cI, 21, .inl f_h3_ends)), (q_h3_colours, .inl (cI, 21, .inl f_h3_colours))] H := hP
              have hD : va_D A [(q, .inr (1, [.ref q_states, .int 3])), (q_states, .inl (cN, 4, .inr (.inr (.inr (.inr (hisG q_h0 q_h1 q_h2 q_h3)))))), (q_h0, .inr (2, [.int f_h0_knots, .int f_h0_threads, .ref q_h0_ends, .ref q_h0_colours])), (q_h0_ends, .inl (cI, 21, .inl f_h0_ends)), (q_h0_colours, .inl (cI, 21, .inl f_h0_colours)), (q_h1, .inr (2, [.int f_h1_knots, .int f_h1_threads, .ref q_h1_ends, .ref q_h1_colours])), (q_h1_ends, .inl (cI, 21, .inl f_h1_ends)), (q_h1_colours, .inl (cI, 21, .inl f_h1_colours)), (q_h2, .inr (2, [.int f_h2_knots, .int f_h2_threads, .ref q_h2_ends, .ref q_h2_colours])), (q_h2_ends, .inl (cI, 21, .inl f_h2_ends)), (q_h2_colours, .inl (cI, 21, .inl f_h2_colours)), (q_p0, .inr (2, [.int f_p0_knots_17, .int f_p0_threads_18, .ref q_p0_ends, .ref q_p0_colours])), (q_p0_ends, .inl (cI, 21, .inl f_p0_ends_19)), (q_p0_colours, .inl (cI, 21, .inl f_p0_colours_20)), (q_h3, .inr (2, [.int f_h3_knots, .int f_h3_threads, .ref q_h3_ends, .ref q_h3_colours])), (q_h3_ends, .inl (cI, 21, .inl f_h3_ends)), (q_h3_colours, .inl (cI, 21, .inl f_h3_colours))] := hD
              refine lv_iconst (v := 1) hx hb dX1_pop_45 (by decide) ?_
              have z1 := so_use hm
              obtain ⟨y1, z2⟩ := pr_use z1
              obtain ⟨y2, z3⟩ := pr_use z2
              obtain ⟨y3, z4⟩ := pr_use z3
              obtain ⟨y4, z5⟩ := pr_use z4
              obtain ⟨y5, z6⟩ := pr_use z5
              subst y1
              subst y2
              subst y3
              subst y4
              subst y5
              subst z6
              exact hret _ _ _ _ _ dX1_pop_46 rfl rfl (hP.sub [0, 1, 2, 3, 4, 5, 6, 7, 8, 9, 10, 14, 15, 16, 11, 12, 13] rfl) (hD.sub [0, 1, 2, 3, 4, 5, 6, 7, 8, 9, 10, 14, 15, 16, 11, 12, 13] (by decide) rfl) hS
            · have hm := if_f _ hc3 hm
              exact no_use hm
    · have hm := if_f _ hc hm
      refine lv_iconst (v := 0) hx hb dX1_pop_20 (by decide) ?_
      have z1 := so_use hm
      obtain ⟨y1, z2⟩ := pr_use z1
      obtain ⟨y2, z3⟩ := pr_use z2
      obtain ⟨y3, z4⟩ := pr_use z3
      obtain ⟨y4, z5⟩ := pr_use z4
      obtain ⟨y5, z6⟩ := pr_use z5
      subst y1
      subst y2
      subst y3
      subst y4
      subst y5
      subst z6
      exact hret _ _ _ _ _ dX1_pop_21 rfl rfl hP hD hS
abbrev rX2_hasKnot : Room := { frames := 0, cells := 0, slots := 0, locals := 0 }
set_option maxHeartbeats 4000000 in
set_option maxRecDepth 100000 in
theorem k_X2_hasKnot (l : Launch) (D : va_G) (cI cC cN : ClassId) (N : Nat) (q : Nat) (q_ends : Nat) (q_colours : Nat) (sz : Nat) (f_knots : Int32) (f_threads : Int32) (f_ends : Nat → Int32) (f_colours : Nat → Int32) (a1 : Int32) (r : Int32) (hm : m_X2_hasKnot N f_knots a1 = some r) : Met l yX2_hasKnot wsX2_hasKnot (rX2_hasKnot) (gPc D (tysG cI cC cN) [.ref q, .int a1] [(q, .inr (2, [.int f_knots, .int f_threads, .ref q_ends, .ref q_colours])), (q_ends, .inl (cI, 21, .inl f_ends)), (q_colours, .inl (cI, 21, .inl f_colours))] sz) (gQi D (tysG cI cC cN) (va_A [(q, .inr (2, [.int f_knots, .int f_threads, .ref q_ends, .ref q_colours])), (q_ends, .inl (cI, 21, .inl f_ends)), (q_colours, .inl (cI, 21, .inl f_colours))] sz) [(q, .inr (2, [.int f_knots, .int f_threads, .ref q_ends, .ref q_colours])), (q_ends, .inl (cI, 21, .inl f_ends)), (q_colours, .inl (cI, 21, .inl f_colours))] r) 0 0 (va_A [(q, .inr (2, [.int f_knots, .int f_threads, .ref q_ends, .ref q_colours])), (q_ends, .inl (cI, 21, .inl f_ends)), (q_colours, .inl (cI, 21, .inl f_colours))] sz) := by
  unfold m_X2_hasKnot at hm
  refine g_openI (cc := cX2_hasKnot) (maxL := 2) (own := RX2) (by decide) rfl rfl (Nat.le_of_ble_eq_true rfl) ?_
  intro p e s m args below meth c A Q hx hb hml hown hts hP hK hN hD hA hret ls hl
  have hS : va_S A s.heap s.heap [] := va_S.rf
  have hl : lv_has ls 2 [(0, .ref q), (1, .int a1)] := hl
  refine lv_iload_n hx hb dX2_hasKnot_0 rfl (lv_at hl 1 rfl) ?_
  refine lv_if_lt (tgt := 16) hx hb dX2_hasKnot_1 (by decide) (fun hc => ?_) (fun hc => ?_)
  · have hm := if_t _ hc hm
    refine lv_iconst (v := 0) hx hb dX2_hasKnot_16 (by decide) ?_
    have z1 := so_use hm
    subst z1
    exact hret _ _ _ _ _ dX2_hasKnot_17 rfl rfl hP hD hS
  · have hm := if_f _ hc hm
    refine lv_iload_n hx hb dX2_hasKnot_4 rfl (lv_at hl 1 rfl) ?_
    refine lv_aload_n hx hb dX2_hasKnot_5 rfl (lv_at hl 0 rfl) ?_
    refine va_get (D := D) (ci := 2) (v := .int f_knots) (C := RX2) (T := TX2) (N := 4) hx hb hts (by decide +kernel) hown hK hP 0 rfl rfl 0 (by decide) (hts (.fieldLink RX2 9 "KnotStripes$Net" "knots" "I") (by decide +kernel)) (fun _ h9 => h9) rfl dX2_hasKnot_6 ?_
    refine lv_icmp_ge (tgt := 16) hx hb dX2_hasKnot_9 (by decide) (fun hc => ?_) (fun hc => ?_)
    · have hm := if_t _ hc hm
      refine lv_iconst (v := 0) hx hb dX2_hasKnot_16 (by decide) ?_
      have z1 := so_use hm
      subst z1
      exact hret _ _ _ _ _ dX2_hasKnot_17 rfl rfl hP hD hS
    · have hm := if_f _ hc hm
      refine lv_iconst (v := 1) hx hb dX2_hasKnot_12 (by decide) ?_
      refine lv_goto (tgt := 17) hx hb dX2_hasKnot_13 (by decide) ?_
      have z1 := so_use hm
      subst z1
      exact hret _ _ _ _ _ dX2_hasKnot_17 rfl rfl hP hD hS
abbrev rX2_hasThread : Room := { frames := 0, cells := 0, slots := 0, locals := 0 }
set_option maxHeartbeats 4000000 in
set_option maxRecDepth 100000 in
theorem k_X2_hasThread (l : Launch) (D : va_G) (cI cC cN : ClassId) (N : Nat) (q : Nat) (q_ends : Nat) (q_colours : Nat) (sz : Nat) (f_knots : Int32) (f_threads : Int32) (f_ends : Nat → Int32) (f_colours : Nat → Int32) (a1 : Int32) (r : Int32) (hm : m_X2_hasThread N f_threads a1 = some r) : Met l yX2_hasThread wsX2_hasThread (rX2_hasThread) (gPc D (tysG cI cC cN) [.ref q, .int a1] [(q, .inr (2, [.int f_knots, .int f_threads, .ref q_ends, .ref q_colours])), (q_ends, .inl (cI, 21, .inl f_ends)), (q_colours, .inl (cI, 21, .inl f_colours))] sz) (gQi D (tysG cI cC cN) (va_A [(q, .inr (2, [.int f_knots, .int f_threads, .ref q_ends, .ref q_colours])), (q_ends, .inl (cI, 21, .inl f_ends)), (q_colours, .inl (cI, 21, .inl f_colours))] sz) [(q, .inr (2, [.int f_knots, .int f_threads, .ref q_ends, .ref q_colours])), (q_ends, .inl (cI, 21, .inl f_ends)), (q_colours, .inl (cI, 21, .inl f_colours))] r) 0 0 (va_A [(q, .inr (2, [.int f_knots, .int f_threads, .ref q_ends, .ref q_colours])), (q_ends, .inl (cI, 21, .inl f_ends)), (q_colours, .inl (cI, 21, .inl f_colours))] sz) := by
  unfold m_X2_hasThread at hm
  refine g_openI (cc := cX2_hasThread) (maxL := 2) (own := RX2) (by decide) rfl rfl (Nat.le_of_ble_eq_true rfl) ?_
  intro p e s m args below meth c A Q hx hb hml hown hts hP hK hN hD hA hret ls hl
  have hS : va_S A s.heap s.heap [] := va_S.rf
  have hl : lv_has ls 2 [(0, .ref q), (1, .int a1)] := hl
  refine lv_iload_n hx hb dX2_hasThread_0 rfl (lv_at hl 1 rfl) ?_
  refine lv_if_lt (tgt := 16) hx hb dX2_hasThread_1 (by decide) (fun hc => ?_) (fun hc => ?_)
  · have hm := if_t _ hc hm
    refine lv_iconst (v := 0) hx hb dX2_hasThread_16 (by decide) ?_
    have z1 := so_use hm
    subst z1
    exact hret _ _ _ _ _ dX2_hasThread_17 rfl rfl hP hD hS
  · have hm := if_f _ hc hm
    refine lv_iload_n hx hb dX2_hasThread_4 rfl (lv_at hl 1 rfl) ?_
    refine lv_aload_n hx hb dX2_hasThread_5 rfl (lv_at hl 0 rfl) ?_
    refine va_get (D := D) (ci := 2) (v := .int f_threads) (C := RX2) (T := TX2) (N := 4) hx hb hts (by decide +kernel) hown hK hP 0 rfl rfl 1 (by decide) (hts (.fieldLink RX2 15 "KnotStripes$Net" "threads" "I") (by decide +kernel)) (fun _ h9 => h9) rfl dX2_hasThread_6 ?_
    refine lv_icmp_ge (tgt := 16) hx hb dX2_hasThread_9 (by decide) (fun hc => ?_) (fun hc => ?_)
    · have hm := if_t _ hc hm
      refine lv_iconst (v := 0) hx hb dX2_hasThread_16 (by decide) ?_
      have z1 := so_use hm
      subst z1
      exact hret _ _ _ _ _ dX2_hasThread_17 rfl rfl hP hD hS
    · have hm := if_f _ hc hm
      refine lv_iconst (v := 1) hx hb dX2_hasThread_12 (by decide) ?_
      refine lv_goto (tgt := 17) hx hb dX2_hasThread_13 (by decide) ?_
      have z1 := so_use hm
      subst z1
      exact hret _ _ _ _ _ dX2_hasThread_17 rfl rfl hP hD hS
abbrev rJ6_numberOfTrailingZeros_0f7a4 : Room := { frames := 0, cells := 0, slots := 0, locals := 0 }
set_option maxHeartbeats 4000000 in
set_option maxRecDepth 100000 in
theorem k_J6_numberOfTrailingZeros_0f7a4 (l : Launch) (D : va_G) (cI cC cN : ClassId) (N : Nat) (sz : Nat) (a0 : Int32) (r : Int32) (hm : m_J6_numberOfTrailingZeros_0f7a4 N a0 = some r) : Met l yJ6_numberOfTrailingZeros_0f7a4 wsJ6_numberOfTrailingZeros_0f7a4 (rJ6_numberOfTrailingZeros_0f7a4) (gPc D (tysG cI cC cN) [.int a0] [] sz) (gQi D (tysG cI cC cN) (va_A [] sz) [] r) 0 0 (va_A [] sz) := by
  unfold m_J6_numberOfTrailingZeros_0f7a4 at hm
  refine g_openI (cc := cJ6_numberOfTrailingZeros_0f7a4) (maxL := 2) (own := RJ6) (by decide) rfl rfl (Nat.le_of_ble_eq_true rfl) ?_
  intro p e s m args below meth c A Q hx hb hml hown hts hP hK hN hD hA hret ls hl
  have hS : va_S A s.heap s.heap [] := va_S.rf
  have hl : lv_has ls 2 [(0, .int a0)] := hl
  refine lv_iload_n hx hb dJ6_numberOfTrailingZeros_0f7a4_0 rfl (lv_at hl 0 rfl) ?_
  refine lv_iconst (v := (-1)) hx hb dJ6_numberOfTrailingZeros_0f7a4_1 (by decide) ?_
  refine lv_ixor hx hb dJ6_numberOfTrailingZeros_0f7a4_2 ?_
  refine lv_iload_n hx hb dJ6_numberOfTrailingZeros_0f7a4_3 rfl (lv_at hl 0 rfl) ?_
  refine lv_iconst (v := 1) hx hb dJ6_numberOfTrailingZeros_0f7a4_4 (by decide) ?_
  refine lv_isub hx hb dJ6_numberOfTrailingZeros_0f7a4_5 ?_
  refine lv_iand hx hb dJ6_numberOfTrailingZeros_0f7a4_6 ?_
  refine lv_topi (fun v0_1 ev0_1 => ?_)
  have hm := nm_use ev0_1 hm
  refine lv_istore_n (lv' := [(0, .int v0_1)]) hx hb dJ6_numberOfTrailingZeros_0f7a4_7 rfl hl (by decide) rfl (fun ls hl => ?_)
  refine lv_iload_n hx hb dJ6_numberOfTrailingZeros_0f7a4_8 rfl (lv_at hl 0 rfl) ?_
  refine lv_if_gt (tgt := 17) hx hb dJ6_numberOfTrailingZeros_0f7a4_9 (by decide) (fun hc => ?_) (fun hc => ?_)
  · have hm := if_t _ hc hm
    refine lv_iconst (v := 1) hx hb dJ6_numberOfTrailingZeros_0f7a4_17 (by decide) ?_
    refine lv_istore_n (lv' := [(1, .int 1), (0, .int v0_1)]) hx hb dJ6_numberOfTrailingZeros_0f7a4_18 rfl hl (by decide) rfl (fun ls hl => ?_)
    refine lv_iload_n hx hb dJ6_numberOfTrailingZeros_0f7a4_19 rfl (lv_at hl 1 rfl) ?_
    refine lv_ldcw (own := RJ6) (index := 264) (v := 65536) hx hb hown (hts (.constant RJ6 264 65536) (by decide +kernel)) dJ6_numberOfTrailingZeros_0f7a4_20 ?_
    obtain ⟨J34, hJ34, hm⟩ := jn_use hm
    have j34 : ∀ (x1_2 : Int32) (x0_3 : Int32), ∀ (H : Heap) (locs : List Loc) (ls : Array Slot), va_P D vwCl [] H → va_D A [] → va_S A s.heap H locs → lv_has ls 2 [(1, .int x1_2), (0, .int x0_3)] → J34 x1_2 x0_3 = some r → W p l e rJ6_numberOfTrailingZeros_0f7a4 s m args below meth c H locs 0 0 Q (F0 m 34 ls []) := by
      intro x1_2 x0_3 H locs ls hP hD hS hl hm
      rw [hJ34] at hm
      refine lv_iload_n hx hb dJ6_numberOfTrailingZeros_0f7a4_34 rfl (lv_at hl 1 rfl) ?_
      refine lv_sipush (v := 256) hx hb dJ6_numberOfTrailingZeros_0f7a4_35 (by decide) ?_
      obtain ⟨J49, hJ49, hm⟩ := jn_use hm
      have j49 : ∀ (x1_4 : Int32) (x0_5 : Int32), ∀ (H : Heap) (locs : List Loc) (ls : Array Slot), va_P D vwCl [] H → va_D A [] → va_S A s.heap H locs → lv_has ls 2 [(1, .int x1_4), (0, .int x0_5)] → J49 x1_4 x0_5 = some r → W p l e rJ6_numberOfTrailingZeros_0f7a4 s m args below meth c H locs 0 0 Q (F0 m 49 ls []) := by
        intro x1_4 x0_5 H locs ls hP hD hS hl hm
        rw [hJ49] at hm
        refine lv_iload_n hx hb dJ6_numberOfTrailingZeros_0f7a4_49 rfl (lv_at hl 1 rfl) ?_
        refine lv_bipush (v := 16) hx hb dJ6_numberOfTrailingZeros_0f7a4_50 (by decide) ?_
        obtain ⟨J62, hJ62, hm⟩ := jn_use hm
        have j62 : ∀ (x1_6 : Int32) (x0_7 : Int32), ∀ (H : Heap) (locs : List Loc) (ls : Array Slot), va_P D vwCl [] H → va_D A [] → va_S A s.heap H locs → lv_has ls 2 [(1, .int x1_6), (0, .int x0_7)] → J62 x1_6 x0_7 = some r → W p l e rJ6_numberOfTrailingZeros_0f7a4 s m args below meth c H locs 0 0 Q (F0 m 62 ls []) := by
          intro x1_6 x0_7 H locs ls hP hD hS hl hm
          rw [hJ62] at hm
          refine lv_iload_n hx hb dJ6_numberOfTrailingZeros_0f7a4_62 rfl (lv_at hl 1 rfl) ?_
          refine lv_iconst (v := 4) hx hb dJ6_numberOfTrailingZeros_0f7a4_63 (by decide) ?_
          refine lv_icmp_le (tgt := 74) hx hb dJ6_numberOfTrailingZeros_0f7a4_64 (by decide) (fun hc => ?_) (fun hc => ?_)
          · have hm := if_t _ hc hm
            refine lv_iload_n hx hb dJ6_numberOfTrailingZeros_0f7a4_74 rfl (lv_at hl 0 rfl) ?_
            refine lv_iload_n hx hb dJ6_numberOfTrailingZeros_0f7a4_75 rfl (lv_at hl 1 rfl) ?_
            refine lv_iconst (v := 1) hx hb dJ6_numberOfTrailingZeros_0f7a4_76 (by decide) ?_
            refine gv_iushr hx hb dJ6_numberOfTrailingZeros_0f7a4_77 ?_
            refine lv_iadd hx hb dJ6_numberOfTrailingZeros_0f7a4_78 ?_
            have z1 := so_use hm
            subst z1
            exact hret _ _ _ _ _ dJ6_numberOfTrailingZeros_0f7a4_79 rfl rfl hP hD hS
          · have hm := if_f _ hc hm
            refine lv_iinc (v := (x1_6 + 2)) (lv' := [(1, .int (x1_6 + 2)), (0, .int x0_7)]) hx hb dJ6_numberOfTrailingZeros_0f7a4_67 hl (k := 0) rfl rfl (by decide) rfl (fun ls hl => ?_)
            refine lv_iload_n hx hb dJ6_numberOfTrailingZeros_0f7a4_70 rfl (lv_at hl 1 rfl) ?_
            refine lv_iconst (v := 2) hx hb dJ6_numberOfTrailingZeros_0f7a4_71 (by decide) ?_
            refine gv_iushr hx hb dJ6_numberOfTrailingZeros_0f7a4_72 ?_
            refine lv_topi (fun v0_8 ev0_8 => ?_)
            have hm := nm_use ev0_8 hm
            refine lv_istore_n (lv' := [(0, .int v0_8), (1, .int (x1_6 + 2))]) hx hb dJ6_numberOfTrailingZeros_0f7a4_73 rfl hl (by decide) rfl (fun ls hl => ?_)
            refine lv_iload_n hx hb dJ6_numberOfTrailingZeros_0f7a4_74 rfl (lv_at hl 1 rfl) ?_
            refine lv_iload_n hx hb dJ6_numberOfTrailingZeros_0f7a4_75 rfl (lv_at hl 0 rfl) ?_
            refine lv_iconst (v := 1) hx hb dJ6_numberOfTrailingZeros_0f7a4_76 (by decide) ?_
            refine gv_iushr hx hb dJ6_numberOfTrailingZeros_0f7a4_77 ?_
            refine lv_iadd hx hb dJ6_numberOfTrailingZeros_0f7a4_78 ?_
            have z1 := so_use hm
            subst z1
            exact hret _ _ _ _ _ dJ6_numberOfTrailingZeros_0f7a4_79 rfl rfl hP hD hS
        refine lv_icmp_le (tgt := 62) hx hb dJ6_numberOfTrailingZeros_0f7a4_52 (by decide) (fun hc => ?_) (fun hc => ?_)
        · have hm := if_t _ hc hm
          exact j62 x1_4 x0_5 _ _ _ hP hD hS hl hm
        · have hm := if_f _ hc hm
          refine lv_iinc (v := (x1_4 + 4)) (lv' := [(1, .int (x1_4 + 4)), (0, .int x0_5)]) hx hb dJ6_numberOfTrailingZeros_0f7a4_55 hl (k := 0) rfl rfl (by decide) rfl (fun ls hl => ?_)
          refine lv_iload_n hx hb dJ6_numberOfTrailingZeros_0f7a4_58 rfl (lv_at hl 1 rfl) ?_
          refine lv_iconst (v := 4) hx hb dJ6_numberOfTrailingZeros_0f7a4_59 (by decide) ?_
          refine gv_iushr hx hb dJ6_numberOfTrailingZeros_0f7a4_60 ?_
          refine lv_topi (fun v0_9 ev0_9 => ?_)
          have hm := nm_use ev0_9 hm
          refine lv_istore_n (lv' := [(0, .int v0_9), (1, .int (x1_4 + 4))]) hx hb dJ6_numberOfTrailingZeros_0f7a4_61 rfl hl (by decide) rfl (fun ls hl => ?_)
          exact j62 (x1_4 + 4) v0_9 _ _ _ hP hD hS (lv_sub hl [1, 0] rfl) hm
      refine lv_icmp_le (tgt := 49) hx hb dJ6_numberOfTrailingZeros_0f7a4_38 (by decide) (fun hc => ?_) (fun hc => ?_)
      · have hm := if_t _ hc hm
        exact j49 x1_2 x0_3 _ _ _ hP hD hS hl hm
      · have hm := if_f _ hc hm
        refine lv_iinc (v := (x1_2 + 8)) (lv' := [(1, .int (x1_2 + 8)), (0, .int x0_3)]) hx hb dJ6_numberOfTrailingZeros_0f7a4_41 hl (k := 0) rfl rfl (by decide) rfl (fun ls hl => ?_)
        refine lv_iload_n hx hb dJ6_numberOfTrailingZeros_0f7a4_44 rfl (lv_at hl 1 rfl) ?_
        refine lv_bipush (v := 8) hx hb dJ6_numberOfTrailingZeros_0f7a4_45 (by decide) ?_
        refine gv_iushr hx hb dJ6_numberOfTrailingZeros_0f7a4_47 ?_
        refine lv_topi (fun v0_10 ev0_10 => ?_)
        have hm := nm_use ev0_10 hm
        refine lv_istore_n (lv' := [(0, .int v0_10), (1, .int (x1_2 + 8))]) hx hb dJ6_numberOfTrailingZeros_0f7a4_48 rfl hl (by decide) rfl (fun ls hl => ?_)
        exact j49 (x1_2 + 8) v0_10 _ _ _ hP hD hS (lv_sub hl [1, 0] rfl) hm
    refine lv_icmp_le (tgt := 34) hx hb dJ6_numberOfTrailingZeros_0f7a4_23 (by decide) (fun hc => ?_) (fun hc => ?_)
    · have hm := if_t _ hc hm
      exact j34 1 v0_1 _ _ _ hP hD hS hl hm
    · have hm := if_f _ hc hm
      refine lv_iinc (v := (1 + 16)) (lv' := [(1, .int (1 + 16)), (0, .int v0_1)]) hx hb dJ6_numberOfTrailingZeros_0f7a4_26 hl (k := 0) rfl rfl (by decide) rfl (fun ls hl => ?_)
      refine lv_iload_n hx hb dJ6_numberOfTrailingZeros_0f7a4_29 rfl (lv_at hl 1 rfl) ?_
      refine lv_bipush (v := 16) hx hb dJ6_numberOfTrailingZeros_0f7a4_30 (by decide) ?_
      refine gv_iushr hx hb dJ6_numberOfTrailingZeros_0f7a4_32 ?_
      refine lv_topi (fun v0_11 ev0_11 => ?_)
      have hm := nm_use ev0_11 hm
      refine lv_istore_n (lv' := [(0, .int v0_11), (1, .int (1 + 16))]) hx hb dJ6_numberOfTrailingZeros_0f7a4_33 rfl hl (by decide) rfl (fun ls hl => ?_)
      exact j34 (1 + 16) v0_11 _ _ _ hP hD hS (lv_sub hl [1, 0] rfl) hm
  · have hm := if_f _ hc hm
    refine lv_iload_n hx hb dJ6_numberOfTrailingZeros_0f7a4_12 rfl (lv_at hl 0 rfl) ?_
    refine lv_bipush (v := 32) hx hb dJ6_numberOfTrailingZeros_0f7a4_13 (by decide) ?_
    refine lv_iand hx hb dJ6_numberOfTrailingZeros_0f7a4_15 ?_
    have z1 := so_use hm
    subst z1
    exact hret _ _ _ _ _ dJ6_numberOfTrailingZeros_0f7a4_16 rfl rfl hP hD hS
abbrev rX2_lesserKnot : Room := { frames := 2, cells := 0, slots := 0, locals := 42 }
set_option maxHeartbeats 4000000 in
set_option maxRecDepth 100000 in
theorem k_X2_lesserKnot (l : Launch) (D : va_G) (cI cC cN : ClassId) (N : Nat) (q : Nat) (q_ends : Nat) (q_colours : Nat) (sz : Nat) (f_knots : Int32) (f_threads : Int32) (f_ends : Nat → Int32) (f_colours : Nat → Int32) (a1 : Int32) (r : Int32) (hm : m_X2_lesserKnot N f_ends a1 = some r) : Met l yX2_lesserKnot wsX2_lesserKnot (rX2_lesserKnot) (gPc D (tysG cI cC cN) [.ref q, .int a1] [(q, .inr (2, [.int f_knots, .int f_threads, .ref q_ends, .ref q_colours])), (q_ends, .inl (cI, 21, .inl f_ends)), (q_colours, .inl (cI, 21, .inl f_colours))] sz) (gQi D (tysG cI cC cN) (va_A [(q, .inr (2, [.int f_knots, .int f_threads, .ref q_ends, .ref q_colours])), (q_ends, .inl (cI, 21, .inl f_ends)), (q_colours, .inl (cI, 21, .inl f_colours))] sz) [(q, .inr (2, [.int f_knots, .int f_threads, .ref q_ends, .ref q_colours])), (q_ends, .inl (cI, 21, .inl f_ends)), (q_colours, .inl (cI, 21, .inl f_colours))] r) 0 0 (va_A [(q, .inr (2, [.int f_knots, .int f_threads, .ref q_ends, .ref q_colours])), (q_ends, .inl (cI, 21, .inl f_ends)), (q_colours, .inl (cI, 21, .inl f_colours))] sz) := by
  unfold m_X2_lesserKnot at hm
  refine g_openI (cc := cX2_lesserKnot) (maxL := 2) (own := RX2) (by decide) rfl rfl (Nat.le_of_ble_eq_true rfl) ?_
  intro p e s m args below meth c A Q hx hb hml hown hts hP hK hN hD hA hret ls hl
  have hS : va_S A s.heap s.heap [] := va_S.rf
  have hl : lv_has ls 2 [(0, .ref q), (1, .int a1)] := hl
  refine lv_aload_n hx hb dX2_lesserKnot_0 rfl (lv_at hl 0 rfl) ?_
  refine lv_iload_n hx hb dX2_lesserKnot_1 rfl (lv_at hl 1 rfl) ?_
  obtain ⟨r_1, h_2, hm⟩ := bind_use hm
  refine g_ki (wc := [(q, .inr (2, [.int f_knots, .int f_threads, .ref q_ends, .ref q_colours])), (q_ends, .inl (cI, 21, .inl f_ends)), (q_colours, .inl (cI, 21, .inl f_colours))]) (wr := []) (w2 := [(q, .inr (2, [.int f_knots, .int f_threads, .ref q_ends, .ref q_colours])), (q_ends, .inl (cI, 21, .inl f_ends)), (q_colours, .inl (cI, 21, .inl f_colours))]) (va_runV (As := [.int a1]) (rest := []) ⟨hx, hb, hml, hown, hts⟩ (k_X2_ends l D cI cC cN N q q_ends q_colours s.heap.size f_knots f_threads f_ends f_colours a1 r_1 h_2) (cwV 1 hts gX2_lesserKnot_X2_ends rfl rfl rfl (by decide +kernel) ⟨Nat.le_of_ble_eq_true rfl, Nat.le_of_ble_eq_true rfl⟩) ⟨g_blind, va_recv (D := D) (ci := 2) (q0 := 0) hK hP rfl rfl, g_pre (hP.sub [0, 1, 2] rfl) hK hN (hD.sub [0, 1, 2] (by decide) rfl)⟩ rfl rfl hl.1 rfl (lv_room (Nat.le_of_ble_eq_true rfl)) dX2_lesserKnot_2 ⟨Nat.zero_le _, Nat.zero_le _⟩) hP hD hS hA [0, 1, 2] [] rfl rfl (by decide) (by decide) rfl (fun H locs hP hD hS => ?_)
  obtain ⟨r_3, h_4, hm⟩ := bind_use hm
  refine g_ki (wc := []) (wr := [(q, .inr (2, [.int f_knots, .int f_threads, .ref q_ends, .ref q_colours])), (q_ends, .inl (cI, 21, .inl f_ends)), (q_colours, .inl (cI, 21, .inl f_colours))]) (w2 := [(q, .inr (2, [.int f_knots, .int f_threads, .ref q_ends, .ref q_colours])), (q_ends, .inl (cI, 21, .inl f_ends)), (q_colours, .inl (cI, 21, .inl f_colours))]) (va_runS (As := [.int r_1]) (rest := []) ⟨hx, hb, hml, hown, hts⟩ (k_J6_numberOfTrailingZeros_0f7a4 l D cI cC cN N H.size r_1 r_3 h_4) (va_cwS 1 hts gX2_lesserKnot_J6_numberOfTrailingZeros_0f7a4 rfl rfl rfl (by decide +kernel) ⟨Nat.le_of_ble_eq_true rfl, Nat.le_of_ble_eq_true rfl⟩) ⟨g_blind, g_pre (hP.sub [] rfl) hK hN (hD.sub [] (by decide) rfl)⟩ rfl rfl hl.1 rfl (lv_room (Nat.le_of_ble_eq_true rfl)) dX2_lesserKnot_5 ⟨Nat.zero_le _, Nat.zero_le _⟩) hP hD hS hA [] [0, 1, 2] rfl rfl (by decide) (by decide) rfl (fun H locs hP hD hS => ?_)
  have z1 := so_use hm
  subst z1
  exact hret _ _ _ _ _ dX2_lesserKnot_8 rfl rfl hP hD hS
abbrev rJ6_numberOfLeadingZeros_0f7a4 : Room := { frames := 0, cells := 0, slots := 0, locals := 0 }
set_option maxHeartbeats 4000000 in
set_option maxRecDepth 100000 in
theorem k_J6_numberOfLeadingZeros_0f7a4 (l : Launch) (D : va_G) (cI cC cN : ClassId) (N : Nat) (sz : Nat) (a0 : Int32) (r : Int32) (hm : m_J6_numberOfLeadingZeros_0f7a4 N a0 = some r) : Met l yJ6_numberOfLeadingZeros_0f7a4 wsJ6_numberOfLeadingZeros_0f7a4 (rJ6_numberOfLeadingZeros_0f7a4) (gPc D (tysG cI cC cN) [.int a0] [] sz) (gQi D (tysG cI cC cN) (va_A [] sz) [] r) 0 0 (va_A [] sz) := by
  unfold m_J6_numberOfLeadingZeros_0f7a4 at hm
  refine g_openI (cc := cJ6_numberOfLeadingZeros_0f7a4) (maxL := 2) (own := RJ6) (by decide) rfl rfl (Nat.le_of_ble_eq_true rfl) ?_
  intro p e s m args below meth c A Q hx hb hml hown hts hP hK hN hD hA hret ls hl
  have hS : va_S A s.heap s.heap [] := va_S.rf
  have hl : lv_has ls 2 [(0, .int a0)] := hl
  refine lv_iload_n hx hb dJ6_numberOfLeadingZeros_0f7a4_0 rfl (lv_at hl 0 rfl) ?_
  refine lv_if_gt (tgt := 15) hx hb dJ6_numberOfLeadingZeros_0f7a4_1 (by decide) (fun hc => ?_) (fun hc => ?_)
  · have hm := if_t _ hc hm
    refine lv_bipush (v := 31) hx hb dJ6_numberOfLeadingZeros_0f7a4_15 (by decide) ?_
    refine lv_istore_n (lv' := [(1, .int 31), (0, .int a0)]) hx hb dJ6_numberOfLeadingZeros_0f7a4_17 rfl hl (by decide) rfl (fun ls hl => ?_)
    refine lv_iload_n hx hb dJ6_numberOfLeadingZeros_0f7a4_18 rfl (lv_at hl 1 rfl) ?_
    refine lv_ldcw (own := RJ6) (index := 264) (v := 65536) hx hb hown (hts (.constant RJ6 264 65536) (by decide +kernel)) dJ6_numberOfLeadingZeros_0f7a4_19 ?_
    obtain ⟨J33, hJ33, hm⟩ := jn_use hm
    have j33 : ∀ (x1_1 : Int32) (x0_2 : Int32), ∀ (H : Heap) (locs : List Loc) (ls : Array Slot), va_P D vwCl [] H → va_D A [] → va_S A s.heap H locs → lv_has ls 2 [(1, .int x1_1), (0, .int x0_2)] → J33 x1_1 x0_2 = some r → W p l e rJ6_numberOfLeadingZeros_0f7a4 s m args below meth c H locs 0 0 Q (F0 m 33 ls []) := by
      intro x1_1 x0_2 H locs ls hP hD hS hl hm
      rw [hJ33] at hm
      refine lv_iload_n hx hb dJ6_numberOfLeadingZeros_0f7a4_33 rfl (lv_at hl 1 rfl) ?_
      refine lv_sipush (v := 256) hx hb dJ6_numberOfLeadingZeros_0f7a4_34 (by decide) ?_
      obtain ⟨J48, hJ48, hm⟩ := jn_use hm
      have j48 : ∀ (x1_3 : Int32) (x0_4 : Int32), ∀ (H : Heap) (locs : List Loc) (ls : Array Slot), va_P D vwCl [] H → va_D A [] → va_S A s.heap H locs → lv_has ls 2 [(1, .int x1_3), (0, .int x0_4)] → J48 x1_3 x0_4 = some r → W p l e rJ6_numberOfLeadingZeros_0f7a4 s m args below meth c H locs 0 0 Q (F0 m 48 ls []) := by
        intro x1_3 x0_4 H locs ls hP hD hS hl hm
        rw [hJ48] at hm
        refine lv_iload_n hx hb dJ6_numberOfLeadingZeros_0f7a4_48 rfl (lv_at hl 1 rfl) ?_
        refine lv_bipush (v := 16) hx hb dJ6_numberOfLeadingZeros_0f7a4_49 (by decide) ?_
        obtain ⟨J61, hJ61, hm⟩ := jn_use hm
        have j61 : ∀ (x1_5 : Int32) (x0_6 : Int32), ∀ (H : Heap) (locs : List Loc) (ls : Array Slot), va_P D vwCl [] H → va_D A [] → va_S A s.heap H locs → lv_has ls 2 [(1, .int x1_5), (0, .int x0_6)] → J61 x1_5 x0_6 = some r → W p l e rJ6_numberOfLeadingZeros_0f7a4 s m args below meth c H locs 0 0 Q (F0 m 61 ls []) := by
          intro x1_5 x0_6 H locs ls hP hD hS hl hm
          rw [hJ61] at hm
          refine lv_iload_n hx hb dJ6_numberOfLeadingZeros_0f7a4_61 rfl (lv_at hl 1 rfl) ?_
          refine lv_iconst (v := 4) hx hb dJ6_numberOfLeadingZeros_0f7a4_62 (by decide) ?_
          refine lv_icmp_lt (tgt := 73) hx hb dJ6_numberOfLeadingZeros_0f7a4_63 (by decide) (fun hc => ?_) (fun hc => ?_)
          · have hm := if_t _ hc hm
            refine lv_iload_n hx hb dJ6_numberOfLeadingZeros_0f7a4_73 rfl (lv_at hl 0 rfl) ?_
            refine lv_iload_n hx hb dJ6_numberOfLeadingZeros_0f7a4_74 rfl (lv_at hl 1 rfl) ?_
            refine lv_iconst (v := 1) hx hb dJ6_numberOfLeadingZeros_0f7a4_75 (by decide) ?_
            refine gv_iushr hx hb dJ6_numberOfLeadingZeros_0f7a4_76 ?_
            refine lv_isub hx hb dJ6_numberOfLeadingZeros_0f7a4_77 ?_
            have z1 := so_use hm
            subst z1
            exact hret _ _ _ _ _ dJ6_numberOfLeadingZeros_0f7a4_78 rfl rfl hP hD hS
          · have hm := if_f _ hc hm
            refine lv_iinc (v := (x1_5 + (-2))) (lv' := [(1, .int (x1_5 + (-2))), (0, .int x0_6)]) hx hb dJ6_numberOfLeadingZeros_0f7a4_66 hl (k := 0) rfl rfl (by decide) rfl (fun ls hl => ?_)
            refine lv_iload_n hx hb dJ6_numberOfLeadingZeros_0f7a4_69 rfl (lv_at hl 1 rfl) ?_
            refine lv_iconst (v := 2) hx hb dJ6_numberOfLeadingZeros_0f7a4_70 (by decide) ?_
            refine gv_iushr hx hb dJ6_numberOfLeadingZeros_0f7a4_71 ?_
            refine lv_topi (fun v0_7 ev0_7 => ?_)
            have hm := nm_use ev0_7 hm
            refine lv_istore_n (lv' := [(0, .int v0_7), (1, .int (x1_5 + (-2)))]) hx hb dJ6_numberOfLeadingZeros_0f7a4_72 rfl hl (by decide) rfl (fun ls hl => ?_)
            refine lv_iload_n hx hb dJ6_numberOfLeadingZeros_0f7a4_73 rfl (lv_at hl 1 rfl) ?_
            refine lv_iload_n hx hb dJ6_numberOfLeadingZeros_0f7a4_74 rfl (lv_at hl 0 rfl) ?_
            refine lv_iconst (v := 1) hx hb dJ6_numberOfLeadingZeros_0f7a4_75 (by decide) ?_
            refine gv_iushr hx hb dJ6_numberOfLeadingZeros_0f7a4_76 ?_
            refine lv_isub hx hb dJ6_numberOfLeadingZeros_0f7a4_77 ?_
            have z1 := so_use hm
            subst z1
            exact hret _ _ _ _ _ dJ6_numberOfLeadingZeros_0f7a4_78 rfl rfl hP hD hS
        refine lv_icmp_lt (tgt := 61) hx hb dJ6_numberOfLeadingZeros_0f7a4_51 (by decide) (fun hc => ?_) (fun hc => ?_)
        · have hm := if_t _ hc hm
          exact j61 x1_3 x0_4 _ _ _ hP hD hS hl hm
        · have hm := if_f _ hc hm
          refine lv_iinc (v := (x1_3 + (-4))) (lv' := [(1, .int (x1_3 + (-4))), (0, .int x0_4)]) hx hb dJ6_numberOfLeadingZeros_0f7a4_54 hl (k := 0) rfl rfl (by decide) rfl (fun ls hl => ?_)
          refine lv_iload_n hx hb dJ6_numberOfLeadingZeros_0f7a4_57 rfl (lv_at hl 1 rfl) ?_
          refine lv_iconst (v := 4) hx hb dJ6_numberOfLeadingZeros_0f7a4_58 (by decide) ?_
          refine gv_iushr hx hb dJ6_numberOfLeadingZeros_0f7a4_59 ?_
          refine lv_topi (fun v0_8 ev0_8 => ?_)
          have hm := nm_use ev0_8 hm
          refine lv_istore_n (lv' := [(0, .int v0_8), (1, .int (x1_3 + (-4)))]) hx hb dJ6_numberOfLeadingZeros_0f7a4_60 rfl hl (by decide) rfl (fun ls hl => ?_)
          exact j61 (x1_3 + (-4)) v0_8 _ _ _ hP hD hS (lv_sub hl [1, 0] rfl) hm
      refine lv_icmp_lt (tgt := 48) hx hb dJ6_numberOfLeadingZeros_0f7a4_37 (by decide) (fun hc => ?_) (fun hc => ?_)
      · have hm := if_t _ hc hm
        exact j48 x1_1 x0_2 _ _ _ hP hD hS hl hm
      · have hm := if_f _ hc hm
        refine lv_iinc (v := (x1_1 + (-8))) (lv' := [(1, .int (x1_1 + (-8))), (0, .int x0_2)]) hx hb dJ6_numberOfLeadingZeros_0f7a4_40 hl (k := 0) rfl rfl (by decide) rfl (fun ls hl => ?_)
        refine lv_iload_n hx hb dJ6_numberOfLeadingZeros_0f7a4_43 rfl (lv_at hl 1 rfl) ?_
        refine lv_bipush (v := 8) hx hb dJ6_numberOfLeadingZeros_0f7a4_44 (by decide) ?_
        refine gv_iushr hx hb dJ6_numberOfLeadingZeros_0f7a4_46 ?_
        refine lv_topi (fun v0_9 ev0_9 => ?_)
        have hm := nm_use ev0_9 hm
        refine lv_istore_n (lv' := [(0, .int v0_9), (1, .int (x1_1 + (-8)))]) hx hb dJ6_numberOfLeadingZeros_0f7a4_47 rfl hl (by decide) rfl (fun ls hl => ?_)
        exact j48 (x1_1 + (-8)) v0_9 _ _ _ hP hD hS (lv_sub hl [1, 0] rfl) hm
    refine lv_icmp_lt (tgt := 33) hx hb dJ6_numberOfLeadingZeros_0f7a4_22 (by decide) (fun hc => ?_) (fun hc => ?_)
    · have hm := if_t _ hc hm
      exact j33 31 a0 _ _ _ hP hD hS hl hm
    · have hm := if_f _ hc hm
      refine lv_iinc (v := (31 + (-16))) (lv' := [(1, .int (31 + (-16))), (0, .int a0)]) hx hb dJ6_numberOfLeadingZeros_0f7a4_25 hl (k := 0) rfl rfl (by decide) rfl (fun ls hl => ?_)
      refine lv_iload_n hx hb dJ6_numberOfLeadingZeros_0f7a4_28 rfl (lv_at hl 1 rfl) ?_
      refine lv_bipush (v := 16) hx hb dJ6_numberOfLeadingZeros_0f7a4_29 (by decide) ?_
      refine gv_iushr hx hb dJ6_numberOfLeadingZeros_0f7a4_31 ?_
      refine lv_topi (fun v0_10 ev0_10 => ?_)
      have hm := nm_use ev0_10 hm
      refine lv_istore_n (lv' := [(0, .int v0_10), (1, .int (31 + (-16)))]) hx hb dJ6_numberOfLeadingZeros_0f7a4_32 rfl hl (by decide) rfl (fun ls hl => ?_)
      exact j33 (31 + (-16)) v0_10 _ _ _ hP hD hS (lv_sub hl [1, 0] rfl) hm
  · have hm := if_f _ hc hm
    refine lv_iload_n hx hb dJ6_numberOfLeadingZeros_0f7a4_4 rfl (lv_at hl 0 rfl) ?_
    refine lv_if_ne (tgt := 13) hx hb dJ6_numberOfLeadingZeros_0f7a4_5 (by decide) (fun hc => ?_) (fun hc => ?_)
    · have hm := if_f _ hc hm
      refine lv_iconst (v := 0) hx hb dJ6_numberOfLeadingZeros_0f7a4_13 (by decide) ?_
      have z1 := so_use hm
      subst z1
      exact hret _ _ _ _ _ dJ6_numberOfLeadingZeros_0f7a4_14 rfl rfl hP hD hS
    · have hm := if_t _ hc hm
      refine lv_bipush (v := 32) hx hb dJ6_numberOfLeadingZeros_0f7a4_8 (by decide) ?_
      refine lv_goto (tgt := 14) hx hb dJ6_numberOfLeadingZeros_0f7a4_10 (by decide) ?_
      have z1 := so_use hm
      subst z1
      exact hret _ _ _ _ _ dJ6_numberOfLeadingZeros_0f7a4_14 rfl rfl hP hD hS
abbrev rX2_greaterKnot : Room := { frames := 2, cells := 0, slots := 0, locals := 42 }
set_option maxHeartbeats 4000000 in
set_option maxRecDepth 100000 in
theorem k_X2_greaterKnot (l : Launch) (D : va_G) (cI cC cN : ClassId) (N : Nat) (q : Nat) (q_ends : Nat) (q_colours : Nat) (sz : Nat) (f_knots : Int32) (f_threads : Int32) (f_ends : Nat → Int32) (f_colours : Nat → Int32) (a1 : Int32) (r : Int32) (hm : m_X2_greaterKnot N f_ends a1 = some r) : Met l yX2_greaterKnot wsX2_greaterKnot (rX2_greaterKnot) (gPc D (tysG cI cC cN) [.ref q, .int a1] [(q, .inr (2, [.int f_knots, .int f_threads, .ref q_ends, .ref q_colours])), (q_ends, .inl (cI, 21, .inl f_ends)), (q_colours, .inl (cI, 21, .inl f_colours))] sz) (gQi D (tysG cI cC cN) (va_A [(q, .inr (2, [.int f_knots, .int f_threads, .ref q_ends, .ref q_colours])), (q_ends, .inl (cI, 21, .inl f_ends)), (q_colours, .inl (cI, 21, .inl f_colours))] sz) [(q, .inr (2, [.int f_knots, .int f_threads, .ref q_ends, .ref q_colours])), (q_ends, .inl (cI, 21, .inl f_ends)), (q_colours, .inl (cI, 21, .inl f_colours))] r) 0 0 (va_A [(q, .inr (2, [.int f_knots, .int f_threads, .ref q_ends, .ref q_colours])), (q_ends, .inl (cI, 21, .inl f_ends)), (q_colours, .inl (cI, 21, .inl f_colours))] sz) := by
  unfold m_X2_greaterKnot at hm
  refine g_openI (cc := cX2_greaterKnot) (maxL := 2) (own := RX2) (by decide) rfl rfl (Nat.le_of_ble_eq_true rfl) ?_
  intro p e s m args below meth c A Q hx hb hml hown hts hP hK hN hD hA hret ls hl
  have hS : va_S A s.heap s.heap [] := va_S.rf
  have hl : lv_has ls 2 [(0, .ref q), (1, .int a1)] := hl
  refine lv_bipush (v := 31) hx hb dX2_greaterKnot_0 (by decide) ?_
  refine lv_aload_n hx hb dX2_greaterKnot_2 rfl (lv_at hl 0 rfl) ?_
  refine lv_iload_n hx hb dX2_greaterKnot_3 rfl (lv_at hl 1 rfl) ?_
  obtain ⟨r_1, h_2, hm⟩ := bind_use hm
  refine g_ki (wc := [(q, .inr (2, [.int f_knots, .int f_threads, .ref q_ends, .ref q_colours])), (q_ends, .inl (cI, 21, .inl f_ends)), (q_colours, .inl (cI, 21, .inl f_colours))]) (wr := []) (w2 := [(q, .inr (2, [.int f_knots, .int f_threads, .ref q_ends, .ref q_colours])), (q_ends, .inl (cI, 21, .inl f_ends)), (q_colours, .inl (cI, 21, .inl f_colours))]) (va_runV (As := [.int a1]) (rest := [.int 31]) ⟨hx, hb, hml, hown, hts⟩ (k_X2_ends l D cI cC cN N q q_ends q_colours s.heap.size f_knots f_threads f_ends f_colours a1 r_1 h_2) (cwV 1 hts gX2_greaterKnot_X2_ends rfl rfl rfl (by decide +kernel) ⟨Nat.le_of_ble_eq_true rfl, Nat.le_of_ble_eq_true rfl⟩) ⟨g_blind, va_recv (D := D) (ci := 2) (q0 := 0) hK hP rfl rfl, g_pre (hP.sub [0, 1, 2] rfl) hK hN (hD.sub [0, 1, 2] (by decide) rfl)⟩ rfl rfl hl.1 rfl (lv_room (Nat.le_of_ble_eq_true rfl)) dX2_greaterKnot_4 ⟨Nat.zero_le _, Nat.zero_le _⟩) hP hD hS hA [0, 1, 2] [] rfl rfl (by decide) (by decide) rfl (fun H locs hP hD hS => ?_)
  obtain ⟨r_3, h_4, hm⟩ := bind_use hm
  refine g_ki (wc := []) (wr := [(q, .inr (2, [.int f_knots, .int f_threads, .ref q_ends, .ref q_colours])), (q_ends, .inl (cI, 21, .inl f_ends)), (q_colours, .inl (cI, 21, .inl f_colours))]) (w2 := [(q, .inr (2, [.int f_knots, .int f_threads, .ref q_ends, .ref q_colours])), (q_ends, .inl (cI, 21, .inl f_ends)), (q_colours, .inl (cI, 21, .inl f_colours))]) (va_runS (As := [.int r_1]) (rest := [.int 31]) ⟨hx, hb, hml, hown, hts⟩ (k_J6_numberOfLeadingZeros_0f7a4 l D cI cC cN N H.size r_1 r_3 h_4) (va_cwS 1 hts gX2_greaterKnot_J6_numberOfLeadingZeros_0f7a4 rfl rfl rfl (by decide +kernel) ⟨Nat.le_of_ble_eq_true rfl, Nat.le_of_ble_eq_true rfl⟩) ⟨g_blind, g_pre (hP.sub [] rfl) hK hN (hD.sub [] (by decide) rfl)⟩ rfl rfl hl.1 rfl (lv_room (Nat.le_of_ble_eq_true rfl)) dX2_greaterKnot_7 ⟨Nat.zero_le _, Nat.zero_le _⟩) hP hD hS hA [] [0, 1, 2] rfl rfl (by decide) (by decide) rfl (fun H locs hP hD hS => ?_)
  refine lv_isub hx hb dX2_greaterKnot_10 ?_
  have z1 := so_use hm
  subst z1
  exact hret _ _ _ _ _ dX2_greaterKnot_11 rfl rfl hP hD hS
abbrev rX2_setColour : Room := { frames := 1, cells := 0, slots := 0, locals := 22 }
set_option maxHeartbeats 4000000 in
set_option maxRecDepth 100000 in
theorem k_X2_setColour (l : Launch) (D : va_G) (cI cC cN : ClassId) (N : Nat) (q : Nat) (q_ends : Nat) (q_colours : Nat) (sz : Nat) (f_knots : Int32) (f_threads : Int32) (f_ends : Nat → Int32) (f_colours : Nat → Int32) (a1 : Int32) (a2 : Int32) (f_colours' : Nat → Int32) (hm : m_X2_setColour N f_colours a1 a2 = some f_colours') : Met l yX2_setColour wsX2_setColour (rX2_setColour) (gPc D (tysG cI cC cN) [.ref q, .int a1, .int a2] [(q, .inr (2, [.int f_knots, .int f_threads, .ref q_ends, .ref q_colours])), (q_ends, .inl (cI, 21, .inl f_ends)), (q_colours, .inl (cI, 21, .inl f_colours))] sz) (gQv D (tysG cI cC cN) (va_A [(q, .inr (2, [.int f_knots, .int f_threads, .ref q_ends, .ref q_colours])), (q_ends, .inl (cI, 21, .inl f_ends)), (q_colours, .inl (cI, 21, .inl f_colours))] sz) [(q, .inr (2, [.int f_knots, .int f_threads, .ref q_ends, .ref q_colours])), (q_ends, .inl (cI, 21, .inl f_ends)), (q_colours, .inl (cI, 21, .inl f_colours'))]) 0 0 (va_A [(q, .inr (2, [.int f_knots, .int f_threads, .ref q_ends, .ref q_colours])), (q_ends, .inl (cI, 21, .inl f_ends)), (q_colours, .inl (cI, 21, .inl f_colours))] sz) := by
  unfold m_X2_setColour at hm
  refine g_openV (cc := cX2_setColour) (maxL := 3) (own := RX2) (by decide) rfl rfl (Nat.le_of_ble_eq_true rfl) ?_
  intro p e s m args below meth c A Q hx hb hml hown hts hP hK hN hD hA hret ls hl
  have hS : va_S A s.heap s.heap [] := va_S.rf
  have hl : lv_has ls 3 [(0, .ref q), (1, .int a1), (2, .int a2)] := hl
  refine lv_aload_n hx hb dX2_setColour_0 rfl (lv_at hl 0 rfl) ?_
  refine va_get (D := D) (ci := 2) (v := .ref q_colours) (C := RX2) (T := TX2) (N := 4) hx hb hts (by decide +kernel) hown hK hP 0 rfl rfl 3 (by decide) (hts (.fieldLink RX2 22 "KnotStripes$Net" "colours" "[I") (by decide +kernel)) (fun _ h9 => h9) rfl dX2_setColour_1 ?_
  refine lv_iload_n hx hb dX2_setColour_4 rfl (lv_at hl 1 rfl) ?_
  refine lv_iload_n hx hb dX2_setColour_5 rfl (lv_at hl 2 rfl) ?_
  obtain ⟨f_colours_1, h_2, hm⟩ := bind_use hm
  refine g_kv (wc := [(q_colours, .inl (cI, 21, .inl f_colours))]) (wr := [(q, .inr (2, [.int f_knots, .int f_threads, .ref q_ends, .ref q_colours])), (q_ends, .inl (cI, 21, .inl f_ends))]) (w2 := [(q, .inr (2, [.int f_knots, .int f_threads, .ref q_ends, .ref q_colours])), (q_ends, .inl (cI, 21, .inl f_ends)), (q_colours, .inl (cI, 21, .inl f_colours_1))]) (va_runSN (As := [.ref q_colours, .int a1, .int a2]) (rest := []) ⟨hx, hb, hml, hown, hts⟩ (k_X6_put l D cI cC cN N q_colours 21 s.heap.size f_colours a1 a2 f_colours_1 h_2) ⟨va_cnB 3 hts gX2_setColour_X6_put_n43 rfl rfl rfl (hN (.methodLinkNest RX2 43 yX6_put RX6) (by decide +kernel)) (hts (.initialized RX6) (by decide +kernel)) (by decide +kernel) ⟨Nat.le_of_ble_eq_true rfl, Nat.le_of_ble_eq_true rfl⟩, hts (.static yX6_put) (by decide +kernel), trivial⟩ ⟨g_blind, g_pre (hP.sub [2] rfl) hK hN (hD.sub [2] (by decide) rfl)⟩ rfl rfl hl.1 rfl (lv_room (Nat.le_of_ble_eq_true rfl)) dX2_setColour_6 ⟨Nat.zero_le _, Nat.zero_le _⟩) hP hD hS hA [2] [0, 1] rfl rfl (by decide) (by decide) rfl (fun H locs hP hD hS => ?_)
  have z1 := so_use hm
  subst z1
  exact hret _ _ _ _ dX2_setColour_9 hP hD hS
abbrev rX2_coloured : Room := { frames := 2, cells := 0, slots := 0, locals := 42 }
set_option maxHeartbeats 4000000 in
set_option maxRecDepth 100000 in
theorem k_X2_coloured (l : Launch) (D : va_G) (cI cC cN : ClassId) (N : Nat) (q : Nat) (q_ends : Nat) (q_colours : Nat) (sz : Nat) (f_knots : Int32) (f_threads : Int32) (f_ends : Nat → Int32) (f_colours : Nat → Int32) (a1 : Int32) (r : Int32) (hm : m_X2_coloured N f_threads f_colours a1 = some r) : Met l yX2_coloured wsX2_coloured (rX2_coloured) (gPc D (tysG cI cC cN) [.ref q, .int a1] [(q, .inr (2, [.int f_knots, .int f_threads, .ref q_ends, .ref q_colours])), (q_ends, .inl (cI, 21, .inl f_ends)), (q_colours, .inl (cI, 21, .inl f_colours))] sz) (gQi D (tysG cI cC cN) (va_A [(q, .inr (2, [.int f_knots, .int f_threads, .ref q_ends, .ref q_colours])), (q_ends, .inl (cI, 21, .inl f_ends)), (q_colours, .inl (cI, 21, .inl f_colours))] sz) [(q, .inr (2, [.int f_knots, .int f_threads, .ref q_ends, .ref q_colours])), (q_ends, .inl (cI, 21, .inl f_ends)), (q_colours, .inl (cI, 21, .inl f_colours))] r) 0 0 (va_A [(q, .inr (2, [.int f_knots, .int f_threads, .ref q_ends, .ref q_colours])), (q_ends, .inl (cI, 21, .inl f_ends)), (q_colours, .inl (cI, 21, .inl f_colours))] sz) := by
  unfold m_X2_coloured at hm
  refine g_openI (cc := cX2_coloured) (maxL := 4) (own := RX2) (by decide) rfl rfl (Nat.le_of_ble_eq_true rfl) ?_
  intro p e s m args below meth c A Q hx hb hml hown hts hP hK hN hD hA hret ls hl
  have hS : va_S A s.heap s.heap [] := va_S.rf
  have hl : lv_has ls 4 [(0, .ref q), (1, .int a1)] := hl
  refine lv_iconst (v := 0) hx hb dX2_coloured_0 (by decide) ?_
  refine lv_istore_n (lv' := [(2, .int 0), (0, .ref q), (1, .int a1)]) hx hb dX2_coloured_1 rfl hl (by decide) rfl (fun ls hl => ?_)
  refine lv_iconst (v := 0) hx hb dX2_coloured_2 (by decide) ?_
  refine lv_istore_n (lv' := [(3, .int 0), (2, .int 0), (0, .ref q), (1, .int a1)]) hx hb dX2_coloured_3 rfl hl (by decide) rfl (fun ls hl => ?_)
  have l4 : ∀ (n_4 : Nat) (x3_1 : Int32) (x2_2 : Int32), ∀ (H : Heap) (locs : List Loc) (ls : Array Slot), va_P D vwCl [(q, .inr (2, [.int f_knots, .int f_threads, .ref q_ends, .ref q_colours])), (q_ends, .inl (cI, 21, .inl f_ends)), (q_colours, .inl (cI, 21, .inl f_colours))] H → va_D A [(q, .inr (2, [.int f_knots, .int f_threads, .ref q_ends, .ref q_colours])), (q_ends, .inl (cI, 21, .inl f_ends)), (q_colours, .inl (cI, 21, .inl f_colours))] → va_S A s.heap H locs → lv_has ls 4 [(3, .int x3_1), (2, .int x2_2), (0, .ref q), (1, .int a1)] → m_X2_coloured_L4 N f_threads f_colours a1 n_4 x3_1 x2_2 = some r → W p l e rX2_coloured s m args below meth c H locs 0 0 Q (F0 m 4 ls []) := by
    intro n_4
    induction n_4 with
    | zero => intro x3_1 x2_2 H locs ls hP hD hS hl hm; rw [m_X2_coloured_L4] at hm; exact no_use hm
    | succ n_4 ih4 =>
      intro x3_1 x2_2 H locs ls hP hD hS hl hm
      rw [m_X2_coloured_L4] at hm
      refine lv_iload_n hx hb dX2_coloured_4 rfl (lv_at hl 0 rfl) ?_
      refine lv_aload_n hx hb dX2_coloured_5 rfl (lv_at hl 2 rfl) ?_
      refine va_get (D := D) (ci := 2) (v := .int f_threads) (C := RX2) (T := TX2) (N := 4) hx hb hts (by decide +kernel) hown hK hP 0 rfl rfl 1 (by decide) (hts (.fieldLink RX2 15 "KnotStripes$Net" "threads" "I") (by decide +kernel)) (fun _ h9 => h9) rfl dX2_coloured_6 ?_
      refine lv_icmp_ge (tgt := 34) hx hb dX2_coloured_9 (by decide) (fun hc => ?_) (fun hc => ?_)
      · have hm := if_t _ hc hm
        refine lv_iload_n hx hb dX2_coloured_34 rfl (lv_at hl 1 rfl) ?_
        have z1 := so_use hm
        subst z1
        exact hret _ _ _ _ _ dX2_coloured_35 rfl rfl hP hD hS
      · have hm := if_f _ hc hm
        refine lv_aload_n hx hb dX2_coloured_12 rfl (lv_at hl 2 rfl) ?_
        refine lv_iload_n hx hb dX2_coloured_13 rfl (lv_at hl 0 rfl) ?_
        obtain ⟨r_3, h_4, hm⟩ := bind_use hm
        refine g_ki (wc := [(q, .inr (2, [.int f_knots, .int f_threads, .ref q_ends, .ref q_colours])), (q_ends, .inl (cI, 21, .inl f_ends)), (q_colours, .inl (cI, 21, .inl f_colours))]) (wr := []) (w2 := [(q, .inr (2, [.int f_knots, .int f_threads, .ref q_ends, .ref q_colours])), (q_ends, .inl (cI, 21, .inl f_ends)), (q_colours, .inl (cI, 21, .inl f_colours))]) (va_runV (As := [.int x3_1]) (rest := []) ⟨hx, hb, hml, hown, hts⟩ (k_X2_colour l D cI cC cN N q q_ends q_colours H.size f_knots f_threads f_ends f_colours x3_1 r_3 h_4) (cwV 1 hts gX2_coloured_X2_colour rfl rfl rfl (by decide +kernel) ⟨Nat.le_of_ble_eq_true rfl, Nat.le_of_ble_eq_true rfl⟩) ⟨g_blind, va_recv (D := D) (ci := 2) (q0 := 0) hK hP rfl rfl, g_pre (hP.sub [0, 1, 2] rfl) hK hN (hD.sub [0, 1, 2] (by decide) rfl)⟩ rfl rfl hl.1 rfl (lv_room (Nat.le_of_ble_eq_true rfl)) dX2_coloured_14 ⟨Nat.zero_le _, Nat.zero_le _⟩) hP hD hS hA [0, 1, 2] [] rfl rfl (by decide) (by decide) rfl (fun H locs hP hD hS => ?_)
        refine lv_iload_n hx hb dX2_coloured_17 rfl (lv_at hl 3 rfl) ?_
        refine lv_icmp_ne (tgt := 28) hx hb dX2_coloured_18 (by decide) (fun hc => ?_) (fun hc => ?_)
        · have hm := if_f _ hc hm
          refine lv_iinc (v := (x3_1 + 1)) (lv' := [(3, .int (x3_1 + 1)), (2, .int x2_2), (0, .ref q), (1, .int a1)]) hx hb dX2_coloured_28 hl (k := 0) rfl rfl (by decide) rfl (fun ls hl => ?_)
          refine lv_goto (tgt := 4) hx hb dX2_coloured_31 (by decide) ?_
          exact ih4 (x3_1 + 1) x2_2 _ _ _ hP hD hS hl hm
        · have hm := if_t _ hc hm
          refine lv_iload_n hx hb dX2_coloured_21 rfl (lv_at hl 1 rfl) ?_
          refine lv_iload_n hx hb dX2_coloured_22 rfl (lv_at hl 0 rfl) ?_
          obtain ⟨r_5, h_6, hm⟩ := bind_use hm
          refine g_ki (wc := []) (wr := [(q, .inr (2, [.int f_knots, .int f_threads, .ref q_ends, .ref q_colours])), (q_ends, .inl (cI, 21, .inl f_ends)), (q_colours, .inl (cI, 21, .inl f_colours))]) (w2 := [(q, .inr (2, [.int f_knots, .int f_threads, .ref q_ends, .ref q_colours])), (q_ends, .inl (cI, 21, .inl f_ends)), (q_colours, .inl (cI, 21, .inl f_colours))]) (va_runSN (As := [.int x3_1]) (rest := [.int x2_2]) ⟨hx, hb, hml, hown, hts⟩ (k_X6_bit l D cI cC cN N H.size x3_1 r_5 h_6) ⟨va_cnB 1 hts gX2_coloured_X6_bit_n25 rfl rfl rfl (hN (.methodLinkNest RX2 25 yX6_bit RX6) (by decide +kernel)) (hts (.initialized RX6) (by decide +kernel)) (by decide +kernel) ⟨Nat.le_of_ble_eq_true rfl, Nat.le_of_ble_eq_true rfl⟩, hts (.static yX6_bit) (by decide +kernel), trivial⟩ ⟨g_blind, g_pre (hP.sub [] rfl) hK hN (hD.sub [] (by decide) rfl)⟩ rfl rfl hl.1 rfl (lv_room (Nat.le_of_ble_eq_true rfl)) dX2_coloured_23 ⟨Nat.zero_le _, Nat.zero_le _⟩) hP hD hS hA [] [0, 1, 2] rfl rfl (by decide) (by decide) rfl (fun H locs hP hD hS => ?_)
          refine lv_ior hx hb dX2_coloured_26 ?_
          refine lv_topi (fun v2_7 ev2_7 => ?_)
          have hm := nm_use ev2_7 hm
          refine lv_istore_n (lv' := [(2, .int v2_7), (3, .int x3_1), (0, .ref q), (1, .int a1)]) hx hb dX2_coloured_27 rfl hl (by decide) rfl (fun ls hl => ?_)
          refine lv_iinc (v := (x3_1 + 1)) (lv' := [(3, .int (x3_1 + 1)), (2, .int v2_7), (0, .ref q), (1, .int a1)]) hx hb dX2_coloured_28 hl (k := 1) rfl rfl (by decide) rfl (fun ls hl => ?_)
          refine lv_goto (tgt := 4) hx hb dX2_coloured_31 (by decide) ?_
          exact ih4 (x3_1 + 1) v2_7 _ _ _ hP hD hS hl hm
  exact l4 N 0 0 _ _ _ hP hD hS hl hm
abbrev rX2_threadsAt : Room := { frames := 2, cells := 0, slots := 0, locals := 42 }
set_option maxHeartbeats 4000000 in
set_option maxRecDepth 100000 in
theorem k_X2_threadsAt (l : Launch) (D : va_G) (cI cC cN : ClassId) (N : Nat) (q : Nat) (q_ends : Nat) (q_colours : Nat) (sz : Nat) (f_knots : Int32) (f_threads : Int32) (f_ends : Nat → Int32) (f_colours : Nat → Int32) (a1 : Int32) (r : Int32) (hm : m_X2_threadsAt N f_threads f_ends a1 = some r) : Met l yX2_threadsAt wsX2_threadsAt (rX2_threadsAt) (gPc D (tysG cI cC cN) [.ref q, .int a1] [(q, .inr (2, [.int f_knots, .int f_threads, .ref q_ends, .ref q_colours])), (q_ends, .inl (cI, 21, .inl f_ends)), (q_colours, .inl (cI, 21, .inl f_colours))] sz) (gQi D (tysG cI cC cN) (va_A [(q, .inr (2, [.int f_knots, .int f_threads, .ref q_ends, .ref q_colours])), (q_ends, .inl (cI, 21, .inl f_ends)), (q_colours, .inl (cI, 21, .inl f_colours))] sz) [(q, .inr (2, [.int f_knots, .int f_threads, .ref q_ends, .ref q_colours])), (q_ends, .inl (cI, 21, .inl f_ends)), (q_colours, .inl (cI, 21, .inl f_colours))] r) 0 0 (va_A [(q, .inr (2, [.int f_knots, .int f_threads, .ref q_ends, .ref q_colours])), (q_ends, .inl (cI, 21, .inl f_ends)), (q_colours, .inl (cI, 21, .inl f_colours))] sz) := by
  unfold m_X2_threadsAt at hm
  refine g_openI (cc := cX2_threadsAt) (maxL := 4) (own := RX2) (by decide) rfl rfl (Nat.le_of_ble_eq_true rfl) ?_
  intro p e s m args below meth c A Q hx hb hml hown hts hP hK hN hD hA hret ls hl
  have hS : va_S A s.heap s.heap [] := va_S.rf
  have hl : lv_has ls 4 [(0, .ref q), (1, .int a1)] := hl
  refine lv_iconst (v := 0) hx hb dX2_threadsAt_0 (by decide) ?_
  refine lv_istore_n (lv' := [(2, .int 0), (0, .ref q), (1, .int a1)]) hx hb dX2_threadsAt_1 rfl hl (by decide) rfl (fun ls hl => ?_)
  refine lv_iconst (v := 0) hx hb dX2_threadsAt_2 (by decide) ?_
  refine lv_istore_n (lv' := [(3, .int 0), (2, .int 0), (0, .ref q), (1, .int a1)]) hx hb dX2_threadsAt_3 rfl hl (by decide) rfl (fun ls hl => ?_)
  have l4 : ∀ (n_4 : Nat) (x3_1 : Int32) (x2_2 : Int32), ∀ (H : Heap) (locs : List Loc) (ls : Array Slot), va_P D vwCl [(q, .inr (2, [.int f_knots, .int f_threads, .ref q_ends, .ref q_colours])), (q_ends, .inl (cI, 21, .inl f_ends)), (q_colours, .inl (cI, 21, .inl f_colours))] H → va_D A [(q, .inr (2, [.int f_knots, .int f_threads, .ref q_ends, .ref q_colours])), (q_ends, .inl (cI, 21, .inl f_ends)), (q_colours, .inl (cI, 21, .inl f_colours))] → va_S A s.heap H locs → lv_has ls 4 [(3, .int x3_1), (2, .int x2_2), (0, .ref q), (1, .int a1)] → m_X2_threadsAt_L4 N f_threads f_ends a1 n_4 x3_1 x2_2 = some r → W p l e rX2_threadsAt s m args below meth c H locs 0 0 Q (F0 m 4 ls []) := by
    intro n_4
    induction n_4 with
    | zero => intro x3_1 x2_2 H locs ls hP hD hS hl hm; rw [m_X2_threadsAt_L4] at hm; exact no_use hm
    | succ n_4 ih4 =>
      intro x3_1 x2_2 H locs ls hP hD hS hl hm
      rw [m_X2_threadsAt_L4] at hm
      refine lv_iload_n hx hb dX2_threadsAt_4 rfl (lv_at hl 0 rfl) ?_
      refine lv_aload_n hx hb dX2_threadsAt_5 rfl (lv_at hl 2 rfl) ?_
      refine va_get (D := D) (ci := 2) (v := .int f_threads) (C := RX2) (T := TX2) (N := 4) hx hb hts (by decide +kernel) hown hK hP 0 rfl rfl 1 (by decide) (hts (.fieldLink RX2 15 "KnotStripes$Net" "threads" "I") (by decide +kernel)) (fun _ h9 => h9) rfl dX2_threadsAt_6 ?_
      refine lv_icmp_ge (tgt := 35) hx hb dX2_threadsAt_9 (by decide) (fun hc => ?_) (fun hc => ?_)
      · have hm := if_t _ hc hm
        refine lv_iload_n hx hb dX2_threadsAt_35 rfl (lv_at hl 1 rfl) ?_
        have z1 := so_use hm
        subst z1
        exact hret _ _ _ _ _ dX2_threadsAt_36 rfl rfl hP hD hS
      · have hm := if_f _ hc hm
        refine lv_aload_n hx hb dX2_threadsAt_12 rfl (lv_at hl 2 rfl) ?_
        refine lv_iload_n hx hb dX2_threadsAt_13 rfl (lv_at hl 0 rfl) ?_
        obtain ⟨r_3, h_4, hm⟩ := bind_use hm
        refine g_ki (wc := [(q, .inr (2, [.int f_knots, .int f_threads, .ref q_ends, .ref q_colours])), (q_ends, .inl (cI, 21, .inl f_ends)), (q_colours, .inl (cI, 21, .inl f_colours))]) (wr := []) (w2 := [(q, .inr (2, [.int f_knots, .int f_threads, .ref q_ends, .ref q_colours])), (q_ends, .inl (cI, 21, .inl f_ends)), (q_colours, .inl (cI, 21, .inl f_colours))]) (va_runV (As := [.int x3_1]) (rest := []) ⟨hx, hb, hml, hown, hts⟩ (k_X2_ends l D cI cC cN N q q_ends q_colours H.size f_knots f_threads f_ends f_colours x3_1 r_3 h_4) (cwV 1 hts gX2_threadsAt_X2_ends rfl rfl rfl (by decide +kernel) ⟨Nat.le_of_ble_eq_true rfl, Nat.le_of_ble_eq_true rfl⟩) ⟨g_blind, va_recv (D := D) (ci := 2) (q0 := 0) hK hP rfl rfl, g_pre (hP.sub [0, 1, 2] rfl) hK hN (hD.sub [0, 1, 2] (by decide) rfl)⟩ rfl rfl hl.1 rfl (lv_room (Nat.le_of_ble_eq_true rfl)) dX2_threadsAt_14 ⟨Nat.zero_le _, Nat.zero_le _⟩) hP hD hS hA [0, 1, 2] [] rfl rfl (by decide) (by decide) rfl (fun H locs hP hD hS => ?_)
        refine lv_iload_n hx hb dX2_threadsAt_17 rfl (lv_at hl 3 rfl) ?_
        refine lv_iand hx hb dX2_threadsAt_18 ?_
        refine lv_if_eq (tgt := 29) hx hb dX2_threadsAt_19 (by decide) (fun hc => ?_) (fun hc => ?_)
        · have hm := if_t _ hc hm
          refine lv_iinc (v := (x3_1 + 1)) (lv' := [(3, .int (x3_1 + 1)), (2, .int x2_2), (0, .ref q), (1, .int a1)]) hx hb dX2_threadsAt_29 hl (k := 0) rfl rfl (by decide) rfl (fun ls hl => ?_)
          refine lv_goto (tgt := 4) hx hb dX2_threadsAt_32 (by decide) ?_
          exact ih4 (x3_1 + 1) x2_2 _ _ _ hP hD hS hl hm
        · have hm := if_f _ hc hm
          refine lv_iload_n hx hb dX2_threadsAt_22 rfl (lv_at hl 1 rfl) ?_
          refine lv_iload_n hx hb dX2_threadsAt_23 rfl (lv_at hl 0 rfl) ?_
          obtain ⟨r_5, h_6, hm⟩ := bind_use hm
          refine g_ki (wc := []) (wr := [(q, .inr (2, [.int f_knots, .int f_threads, .ref q_ends, .ref q_colours])), (q_ends, .inl (cI, 21, .inl f_ends)), (q_colours, .inl (cI, 21, .inl f_colours))]) (w2 := [(q, .inr (2, [.int f_knots, .int f_threads, .ref q_ends, .ref q_colours])), (q_ends, .inl (cI, 21, .inl f_ends)), (q_colours, .inl (cI, 21, .inl f_colours))]) (va_runSN (As := [.int x3_1]) (rest := [.int x2_2]) ⟨hx, hb, hml, hown, hts⟩ (k_X6_bit l D cI cC cN N H.size x3_1 r_5 h_6) ⟨va_cnB 1 hts gX2_threadsAt_X6_bit_n25 rfl rfl rfl (hN (.methodLinkNest RX2 25 yX6_bit RX6) (by decide +kernel)) (hts (.initialized RX6) (by decide +kernel)) (by decide +kernel) ⟨Nat.le_of_ble_eq_true rfl, Nat.le_of_ble_eq_true rfl⟩, hts (.static yX6_bit) (by decide +kernel), trivial⟩ ⟨g_blind, g_pre (hP.sub [] rfl) hK hN (hD.sub [] (by decide) rfl)⟩ rfl rfl hl.1 rfl (lv_room (Nat.le_of_ble_eq_true rfl)) dX2_threadsAt_24 ⟨Nat.zero_le _, Nat.zero_le _⟩) hP hD hS hA [] [0, 1, 2] rfl rfl (by decide) (by decide) rfl (fun H locs hP hD hS => ?_)
          refine lv_ior hx hb dX2_threadsAt_27 ?_
          refine lv_topi (fun v2_7 ev2_7 => ?_)
          have hm := nm_use ev2_7 hm
          refine lv_istore_n (lv' := [(2, .int v2_7), (3, .int x3_1), (0, .ref q), (1, .int a1)]) hx hb dX2_threadsAt_28 rfl hl (by decide) rfl (fun ls hl => ?_)
          refine lv_iinc (v := (x3_1 + 1)) (lv' := [(3, .int (x3_1 + 1)), (2, .int v2_7), (0, .ref q), (1, .int a1)]) hx hb dX2_threadsAt_29 hl (k := 1) rfl rfl (by decide) rfl (fun ls hl => ?_)
          refine lv_goto (tgt := 4) hx hb dX2_threadsAt_32 (by decide) ?_
          exact ih4 (x3_1 + 1) v2_7 _ _ _ hP hD hS hl hm
  exact l4 N 0 0 _ _ _ hP hD hS hl hm
abbrev rX2_neighbours : Room := { frames := 2, cells := 0, slots := 0, locals := 42 }
set_option maxHeartbeats 4000000 in
set_option maxRecDepth 100000 in
theorem k_X2_neighbours (l : Launch) (D : va_G) (cI cC cN : ClassId) (N : Nat) (q : Nat) (q_ends : Nat) (q_colours : Nat) (sz : Nat) (f_knots : Int32) (f_threads : Int32) (f_ends : Nat → Int32) (f_colours : Nat → Int32) (a1 : Int32) (r : Int32) (hm : m_X2_neighbours N f_threads f_ends a1 = some r) : Met l yX2_neighbours wsX2_neighbours (rX2_neighbours) (gPc D (tysG cI cC cN) [.ref q, .int a1] [(q, .inr (2, [.int f_knots, .int f_threads, .ref q_ends, .ref q_colours])), (q_ends, .inl (cI, 21, .inl f_ends)), (q_colours, .inl (cI, 21, .inl f_colours))] sz) (gQi D (tysG cI cC cN) (va_A [(q, .inr (2, [.int f_knots, .int f_threads, .ref q_ends, .ref q_colours])), (q_ends, .inl (cI, 21, .inl f_ends)), (q_colours, .inl (cI, 21, .inl f_colours))] sz) [(q, .inr (2, [.int f_knots, .int f_threads, .ref q_ends, .ref q_colours])), (q_ends, .inl (cI, 21, .inl f_ends)), (q_colours, .inl (cI, 21, .inl f_colours))] r) 0 0 (va_A [(q, .inr (2, [.int f_knots, .int f_threads, .ref q_ends, .ref q_colours])), (q_ends, .inl (cI, 21, .inl f_ends)), (q_colours, .inl (cI, 21, .inl f_colours))] sz) := by
  unfold m_X2_neighbours at hm
  refine g_openI (cc := cX2_neighbours) (maxL := 4) (own := RX2) (by decide) rfl rfl (Nat.le_of_ble_eq_true rfl) ?_
  intro p e s m args below meth c A Q hx hb hml hown hts hP hK hN hD hA hret ls hl
  have hS : va_S A s.heap s.heap [] := va_S.rf
  have hl : lv_has ls 4 [(0, .ref q), (1, .int a1)] := hl
  refine lv_iconst (v := 0) hx hb dX2_neighbours_0 (by decide) ?_
  refine lv_istore_n (lv' := [(2, .int 0), (0, .ref q), (1, .int a1)]) hx hb dX2_neighbours_1 rfl hl (by decide) rfl (fun ls hl => ?_)
  refine lv_iconst (v := 0) hx hb dX2_neighbours_2 (by decide) ?_
  refine lv_istore_n (lv' := [(3, .int 0), (2, .int 0), (0, .ref q), (1, .int a1)]) hx hb dX2_neighbours_3 rfl hl (by decide) rfl (fun ls hl => ?_)
  obtain ⟨J38, hJ38, hm⟩ := jn_use hm
  have j38 : ∀ (x2_1 : Int32), ∀ (H : Heap) (locs : List Loc) (ls : Array Slot), va_P D vwCl [(q, .inr (2, [.int f_knots, .int f_threads, .ref q_ends, .ref q_colours])), (q_ends, .inl (cI, 21, .inl f_ends)), (q_colours, .inl (cI, 21, .inl f_colours))] H → va_D A [(q, .inr (2, [.int f_knots, .int f_threads, .ref q_ends, .ref q_colours])), (q_ends, .inl (cI, 21, .inl f_ends)), (q_colours, .inl (cI, 21, .inl f_colours))] → va_S A s.heap H locs → lv_has ls 4 [(2, .int x2_1), (1, .int a1)] → J38 x2_1 = some r → W p l e rX2_neighbours s m args below meth c H locs 0 0 Q (F0 m 38 ls []) := by
    intro x2_1 H locs ls hP hD hS hl hm
    rw [hJ38] at hm
    refine lv_iload_n hx hb dX2_neighbours_38 rfl (lv_at hl 0 rfl) ?_
    refine lv_iload_n hx hb dX2_neighbours_39 rfl (lv_at hl 1 rfl) ?_
    obtain ⟨r_2, h_3, hm⟩ := bind_use hm
    refine g_ki (wc := []) (wr := [(q, .inr (2, [.int f_knots, .int f_threads, .ref q_ends, .ref q_colours])), (q_ends, .inl (cI, 21, .inl f_ends)), (q_colours, .inl (cI, 21, .inl f_colours))]) (w2 := [(q, .inr (2, [.int f_knots, .int f_threads, .ref q_ends, .ref q_colours])), (q_ends, .inl (cI, 21, .inl f_ends)), (q_colours, .inl (cI, 21, .inl f_colours))]) (va_runSN (As := [.int a1]) (rest := [.int x2_1]) ⟨hx, hb, hml, hown, hts⟩ (k_X6_bit l D cI cC cN N H.size a1 r_2 h_3) ⟨va_cnB 1 hts gX2_neighbours_X6_bit_n25 rfl rfl rfl (hN (.methodLinkNest RX2 25 yX6_bit RX6) (by decide +kernel)) (hts (.initialized RX6) (by decide +kernel)) (by decide +kernel) ⟨Nat.le_of_ble_eq_true rfl, Nat.le_of_ble_eq_true rfl⟩, hts (.static yX6_bit) (by decide +kernel), trivial⟩ ⟨g_blind, g_pre (hP.sub [] rfl) hK hN (hD.sub [] (by decide) rfl)⟩ rfl rfl hl.1 rfl (lv_room (Nat.le_of_ble_eq_true rfl)) dX2_neighbours_40 ⟨Nat.zero_le _, Nat.zero_le _⟩) hP hD hS hA [] [0, 1, 2] rfl rfl (by decide) (by decide) rfl (fun H locs hP hD hS => ?_)
    refine lv_iconst (v := (-1)) hx hb dX2_neighbours_43 (by decide) ?_
    refine lv_ixor hx hb dX2_neighbours_44 ?_
    refine lv_iand hx hb dX2_neighbours_45 ?_
    have z1 := so_use hm
    subst z1
    exact hret _ _ _ _ _ dX2_neighbours_46 rfl rfl hP hD hS
  have l4 : ∀ (n_4 : Nat) (x3_4 : Int32) (x2_5 : Int32), ∀ (H : Heap) (locs : List Loc) (ls : Array Slot), va_P D vwCl [(q, .inr (2, [.int f_knots, .int f_threads, .ref q_ends, .ref q_colours])), (q_ends, .inl (cI, 21, .inl f_ends)), (q_colours, .inl (cI, 21, .inl f_colours))] H → va_D A [(q, .inr (2, [.int f_knots, .int f_threads, .ref q_ends, .ref q_colours])), (q_ends, .inl (cI, 21, .inl f_ends)), (q_colours, .inl (cI, 21, .inl f_colours))] → va_S A s.heap H locs → lv_has ls 4 [(3, .int x3_4), (2, .int x2_5), (0, .ref q), (1, .int a1)] → m_X2_neighbours_L4 N f_threads f_ends a1 J38 n_4 x3_4 x2_5 = some r → W p l e rX2_neighbours s m args below meth c H locs 0 0 Q (F0 m 4 ls []) := by
    intro n_4
    induction n_4 with
    | zero => intro x3_4 x2_5 H locs ls hP hD hS hl hm; rw [m_X2_neighbours_L4] at hm; exact no_use hm
    | succ n_4 ih4 =>
      intro x3_4 x2_5 H locs ls hP hD hS hl hm
      rw [m_X2_neighbours_L4] at hm
      refine lv_iload_n hx hb dX2_neighbours_4 rfl (lv_at hl 0 rfl) ?_
      refine lv_aload_n hx hb dX2_neighbours_5 rfl (lv_at hl 2 rfl) ?_
      refine va_get (D := D) (ci := 2) (v := .int f_threads) (C := RX2) (T := TX2) (N := 4) hx hb hts (by decide +kernel) hown hK hP 0 rfl rfl 1 (by decide) (hts (.fieldLink RX2 15 "KnotStripes$Net" "threads" "I") (by decide +kernel)) (fun _ h9 => h9) rfl dX2_neighbours_6 ?_
      refine lv_icmp_ge (tgt := 38) hx hb dX2_neighbours_9 (by decide) (fun hc => ?_) (fun hc => ?_)
      · have hm := if_t _ hc hm
        exact j38 x2_5 _ _ _ hP hD hS (lv_sub hl [1, 3] rfl) hm
      · have hm := if_f _ hc hm
        refine lv_aload_n hx hb dX2_neighbours_12 rfl (lv_at hl 2 rfl) ?_
        refine lv_iload_n hx hb dX2_neighbours_13 rfl (lv_at hl 0 rfl) ?_
        obtain ⟨r_6, h_7, hm⟩ := bind_use hm
        refine g_ki (wc := [(q, .inr (2, [.int f_knots, .int f_threads, .ref q_ends, .ref q_colours])), (q_ends, .inl (cI, 21, .inl f_ends)), (q_colours, .inl (cI, 21, .inl f_colours))]) (wr := []) (w2 := [(q, .inr (2, [.int f_knots, .int f_threads, .ref q_ends, .ref q_colours])), (q_ends, .inl (cI, 21, .inl f_ends)), (q_colours, .inl (cI, 21, .inl f_colours))]) (va_runV (As := [.int x3_4]) (rest := []) ⟨hx, hb, hml, hown, hts⟩ (k_X2_ends l D cI cC cN N q q_ends q_colours H.size f_knots f_threads f_ends f_colours x3_4 r_6 h_7) (cwV 1 hts gX2_neighbours_X2_ends rfl rfl rfl (by decide +kernel) ⟨Nat.le_of_ble_eq_true rfl, Nat.le_of_ble_eq_true rfl⟩) ⟨g_blind, va_recv (D := D) (ci := 2) (q0 := 0) hK hP rfl rfl, g_pre (hP.sub [0, 1, 2] rfl) hK hN (hD.sub [0, 1, 2] (by decide) rfl)⟩ rfl rfl hl.1 rfl (lv_room (Nat.le_of_ble_eq_true rfl)) dX2_neighbours_14 ⟨Nat.zero_le _, Nat.zero_le _⟩) hP hD hS hA [0, 1, 2] [] rfl rfl (by decide) (by decide) rfl (fun H locs hP hD hS => ?_)
        refine lv_iload_n hx hb dX2_neighbours_17 rfl (lv_at hl 3 rfl) ?_
        obtain ⟨r_8, h_9, hm⟩ := bind_use hm
        refine g_ki (wc := []) (wr := [(q, .inr (2, [.int f_knots, .int f_threads, .ref q_ends, .ref q_colours])), (q_ends, .inl (cI, 21, .inl f_ends)), (q_colours, .inl (cI, 21, .inl f_colours))]) (w2 := [(q, .inr (2, [.int f_knots, .int f_threads, .ref q_ends, .ref q_colours])), (q_ends, .inl (cI, 21, .inl f_ends)), (q_colours, .inl (cI, 21, .inl f_colours))]) (va_runSN (As := [.int r_6, .int a1]) (rest := []) ⟨hx, hb, hml, hown, hts⟩ (k_X6_holds l D cI cC cN N H.size r_6 a1 r_8 h_9) ⟨va_cnB 2 hts gX2_neighbours_X6_holds_n50 rfl rfl rfl (hN (.methodLinkNest RX2 50 yX6_holds RX6) (by decide +kernel)) (hts (.initialized RX6) (by decide +kernel)) (by decide +kernel) ⟨Nat.le_of_ble_eq_true rfl, Nat.le_of_ble_eq_true rfl⟩, hts (.static yX6_holds) (by decide +kernel), trivial⟩ ⟨g_blind, g_pre (hP.sub [] rfl) hK hN (hD.sub [] (by decide) rfl)⟩ rfl rfl hl.1 rfl (lv_room (Nat.le_of_ble_eq_true rfl)) dX2_neighbours_18 ⟨Nat.zero_le _, Nat.zero_le _⟩) hP hD hS hA [] [0, 1, 2] rfl rfl (by decide) (by decide) rfl (fun H locs hP hD hS => ?_)
        refine lv_if_eq (tgt := 32) hx hb dX2_neighbours_21 (by decide) (fun hc => ?_) (fun hc => ?_)
        · have hm := if_t _ hc hm
          refine lv_iinc (v := (x3_4 + 1)) (lv' := [(3, .int (x3_4 + 1)), (2, .int x2_5), (0, .ref q), (1, .int a1)]) hx hb dX2_neighbours_32 hl (k := 0) rfl rfl (by decide) rfl (fun ls hl => ?_)
          refine lv_goto (tgt := 4) hx hb dX2_neighbours_35 (by decide) ?_
          exact ih4 (x3_4 + 1) x2_5 _ _ _ hP hD hS hl hm
        · have hm := if_f _ hc hm
          refine lv_iload_n hx hb dX2_neighbours_24 rfl (lv_at hl 1 rfl) ?_
          refine lv_aload_n hx hb dX2_neighbours_25 rfl (lv_at hl 2 rfl) ?_
          refine lv_iload_n hx hb dX2_neighbours_26 rfl (lv_at hl 0 rfl) ?_
          obtain ⟨r_10, h_11, hm⟩ := bind_use hm
          refine g_ki (wc := [(q, .inr (2, [.int f_knots, .int f_threads, .ref q_ends, .ref q_colours])), (q_ends, .inl (cI, 21, .inl f_ends)), (q_colours, .inl (cI, 21, .inl f_colours))]) (wr := []) (w2 := [(q, .inr (2, [.int f_knots, .int f_threads, .ref q_ends, .ref q_colours])), (q_ends, .inl (cI, 21, .inl f_ends)), (q_colours, .inl (cI, 21, .inl f_colours))]) (va_runV (As := [.int x3_4]) (rest := [.int x2_5]) ⟨hx, hb, hml, hown, hts⟩ (k_X2_ends l D cI cC cN N q q_ends q_colours H.size f_knots f_threads f_ends f_colours x3_4 r_10 h_11) (cwV 1 hts gX2_neighbours_X2_ends rfl rfl rfl (by decide +kernel) ⟨Nat.le_of_ble_eq_true rfl, Nat.le_of_ble_eq_true rfl⟩) ⟨g_blind, va_recv (D := D) (ci := 2) (q0 := 0) hK hP rfl rfl, g_pre (hP.sub [0, 1, 2] rfl) hK hN (hD.sub [0, 1, 2] (by decide) rfl)⟩ rfl rfl hl.1 rfl (lv_room (Nat.le_of_ble_eq_true rfl)) dX2_neighbours_27 ⟨Nat.zero_le _, Nat.zero_le _⟩) hP hD hS hA [0, 1, 2] [] rfl rfl (by decide) (by decide) rfl (fun H locs hP hD hS => ?_)
          refine lv_ior hx hb dX2_neighbours_30 ?_
          refine lv_topi (fun v2_12 ev2_12 => ?_)
          have hm := nm_use ev2_12 hm
          refine lv_istore_n (lv' := [(2, .int v2_12), (3, .int x3_4), (0, .ref q), (1, .int a1)]) hx hb dX2_neighbours_31 rfl hl (by decide) rfl (fun ls hl => ?_)
          refine lv_iinc (v := (x3_4 + 1)) (lv' := [(3, .int (x3_4 + 1)), (2, .int v2_12), (0, .ref q), (1, .int a1)]) hx hb dX2_neighbours_32 hl (k := 1) rfl rfl (by decide) rfl (fun ls hl => ?_)
          refine lv_goto (tgt := 4) hx hb dX2_neighbours_35 (by decide) ?_
          exact ih4 (x3_4 + 1) v2_12 _ _ _ hP hD hS hl hm
  exact l4 N 0 0 _ _ _ hP hD hS hl hm
abbrev rX2_find : Room := { frames := 2, cells := 0, slots := 0, locals := 42 }
set_option maxHeartbeats 4000000 in
set_option maxRecDepth 100000 in
theorem k_X2_find (l : Launch) (D : va_G) (cI cC cN : ClassId) (N : Nat) (q : Nat) (q_ends : Nat) (q_colours : Nat) (sz : Nat) (f_knots : Int32) (f_threads : Int32) (f_ends : Nat → Int32) (f_colours : Nat → Int32) (a1 : Int32) (r : Int32) (hm : m_X2_find N f_threads f_ends a1 = some r) : Met l yX2_find wsX2_find (rX2_find) (gPc D (tysG cI cC cN) [.ref q, .int a1] [(q, .inr (2, [.int f_knots, .int f_threads, .ref q_ends, .ref q_colours])), (q_ends, .inl (cI, 21, .inl f_ends)), (q_colours, .inl (cI, 21, .inl f_colours))] sz) (gQi D (tysG cI cC cN) (va_A [(q, .inr (2, [.int f_knots, .int f_threads, .ref q_ends, .ref q_colours])), (q_ends, .inl (cI, 21, .inl f_ends)), (q_colours, .inl (cI, 21, .inl f_colours))] sz) [(q, .inr (2, [.int f_knots, .int f_threads, .ref q_ends, .ref q_colours])), (q_ends, .inl (cI, 21, .inl f_ends)), (q_colours, .inl (cI, 21, .inl f_colours))] r) 0 0 (va_A [(q, .inr (2, [.int f_knots, .int f_threads, .ref q_ends, .ref q_colours])), (q_ends, .inl (cI, 21, .inl f_ends)), (q_colours, .inl (cI, 21, .inl f_colours))] sz) := by
  unfold m_X2_find at hm
  refine g_openI (cc := cX2_find) (maxL := 3) (own := RX2) (by decide) rfl rfl (Nat.le_of_ble_eq_true rfl) ?_
  intro p e s m args below meth c A Q hx hb hml hown hts hP hK hN hD hA hret ls hl
  have hS : va_S A s.heap s.heap [] := va_S.rf
  have hl : lv_has ls 3 [(0, .ref q), (1, .int a1)] := hl
  refine lv_iconst (v := 0) hx hb dX2_find_0 (by decide) ?_
  refine lv_istore_n (lv' := [(2, .int 0), (0, .ref q), (1, .int a1)]) hx hb dX2_find_1 rfl hl (by decide) rfl (fun ls hl => ?_)
  have l2 : ∀ (n_2 : Nat) (x2_1 : Int32), ∀ (H : Heap) (locs : List Loc) (ls : Array Slot), va_P D vwCl [(q, .inr (2, [.int f_knots, .int f_threads, .ref q_ends, .ref q_colours])), (q_ends, .inl (cI, 21, .inl f_ends)), (q_colours, .inl (cI, 21, .inl f_colours))] H → va_D A [(q, .inr (2, [.int f_knots, .int f_threads, .ref q_ends, .ref q_colours])), (q_ends, .inl (cI, 21, .inl f_ends)), (q_colours, .inl (cI, 21, .inl f_colours))] → va_S A s.heap H locs → lv_has ls 3 [(2, .int x2_1), (0, .ref q), (1, .int a1)] → m_X2_find_L2 N f_threads f_ends a1 n_2 x2_1 = some r → W p l e rX2_find s m args below meth c H locs 0 0 Q (F0 m 2 ls []) := by
    intro n_2
    induction n_2 with
    | zero => intro x2_1 H locs ls hP hD hS hl hm; rw [m_X2_find_L2] at hm; exact no_use hm
    | succ n_2 ih2 =>
      intro x2_1 H locs ls hP hD hS hl hm
      rw [m_X2_find_L2] at hm
      refine lv_iload_n hx hb dX2_find_2 rfl (lv_at hl 0 rfl) ?_
      refine lv_aload_n hx hb dX2_find_3 rfl (lv_at hl 1 rfl) ?_
      refine va_get (D := D) (ci := 2) (v := .int f_threads) (C := RX2) (T := TX2) (N := 4) hx hb hts (by decide +kernel) hown hK hP 0 rfl rfl 1 (by decide) (hts (.fieldLink RX2 15 "KnotStripes$Net" "threads" "I") (by decide +kernel)) (fun _ h9 => h9) rfl dX2_find_4 ?_
      refine lv_icmp_ge (tgt := 27) hx hb dX2_find_7 (by decide) (fun hc => ?_) (fun hc => ?_)
      · have hm := if_t _ hc hm
        refine lv_iconst (v := (-1)) hx hb dX2_find_27 (by decide) ?_
        have z1 := so_use hm
        subst z1
        exact hret _ _ _ _ _ dX2_find_28 rfl rfl hP hD hS
      · have hm := if_f _ hc hm
        refine lv_aload_n hx hb dX2_find_10 rfl (lv_at hl 1 rfl) ?_
        refine lv_iload_n hx hb dX2_find_11 rfl (lv_at hl 0 rfl) ?_
        obtain ⟨r_2, h_3, hm⟩ := bind_use hm
        refine g_ki (wc := [(q, .inr (2, [.int f_knots, .int f_threads, .ref q_ends, .ref q_colours])), (q_ends, .inl (cI, 21, .inl f_ends)), (q_colours, .inl (cI, 21, .inl f_colours))]) (wr := []) (w2 := [(q, .inr (2, [.int f_knots, .int f_threads, .ref q_ends, .ref q_colours])), (q_ends, .inl (cI, 21, .inl f_ends)), (q_colours, .inl (cI, 21, .inl f_colours))]) (va_runV (As := [.int x2_1]) (rest := []) ⟨hx, hb, hml, hown, hts⟩ (k_X2_ends l D cI cC cN N q q_ends q_colours H.size f_knots f_threads f_ends f_colours x2_1 r_2 h_3) (cwV 1 hts gX2_find_X2_ends rfl rfl rfl (by decide +kernel) ⟨Nat.le_of_ble_eq_true rfl, Nat.le_of_ble_eq_true rfl⟩) ⟨g_blind, va_recv (D := D) (ci := 2) (q0 := 0) hK hP rfl rfl, g_pre (hP.sub [0, 1, 2] rfl) hK hN (hD.sub [0, 1, 2] (by decide) rfl)⟩ rfl rfl hl.1 rfl (lv_room (Nat.le_of_ble_eq_true rfl)) dX2_find_12 ⟨Nat.zero_le _, Nat.zero_le _⟩) hP hD hS hA [0, 1, 2] [] rfl rfl (by decide) (by decide) rfl (fun H locs hP hD hS => ?_)
        refine lv_iload_n hx hb dX2_find_15 rfl (lv_at hl 2 rfl) ?_
        refine lv_icmp_ne (tgt := 21) hx hb dX2_find_16 (by decide) (fun hc => ?_) (fun hc => ?_)
        · have hm := if_f _ hc hm
          refine lv_iinc (v := (x2_1 + 1)) (lv' := [(2, .int (x2_1 + 1)), (0, .ref q), (1, .int a1)]) hx hb dX2_find_21 hl (k := 0) rfl rfl (by decide) rfl (fun ls hl => ?_)
          refine lv_goto (tgt := 2) hx hb dX2_find_24 (by decide) ?_
          exact ih2 (x2_1 + 1) _ _ _ hP hD hS hl hm
        · have hm := if_t _ hc hm
          refine lv_iload_n hx hb dX2_find_19 rfl (lv_at hl 0 rfl) ?_
          have z1 := so_use hm
          subst z1
          exact hret _ _ _ _ _ dX2_find_20 rfl rfl hP hD hS
  exact l2 N 0 _ _ _ hP hD hS hl hm
abbrev rX2_isFullKnot : Room := { frames := 3, cells := 0, slots := 0, locals := 65 }
set_option maxHeartbeats 4000000 in
set_option maxRecDepth 100000 in
theorem k_X2_isFullKnot (l : Launch) (D : va_G) (cI cC cN : ClassId) (N : Nat) (q : Nat) (q_ends : Nat) (q_colours : Nat) (sz : Nat) (f_knots : Int32) (f_threads : Int32) (f_ends : Nat → Int32) (f_colours : Nat → Int32) (a1 : Int32) (r : Int32) (hm : m_X2_isFullKnot N f_threads f_ends a1 = some r) : Met l yX2_isFullKnot wsX2_isFullKnot (rX2_isFullKnot) (gPc D (tysG cI cC cN) [.ref q, .int a1] [(q, .inr (2, [.int f_knots, .int f_threads, .ref q_ends, .ref q_colours])), (q_ends, .inl (cI, 21, .inl f_ends)), (q_colours, .inl (cI, 21, .inl f_colours))] sz) (gQi D (tysG cI cC cN) (va_A [(q, .inr (2, [.int f_knots, .int f_threads, .ref q_ends, .ref q_colours])), (q_ends, .inl (cI, 21, .inl f_ends)), (q_colours, .inl (cI, 21, .inl f_colours))] sz) [(q, .inr (2, [.int f_knots, .int f_threads, .ref q_ends, .ref q_colours])), (q_ends, .inl (cI, 21, .inl f_ends)), (q_colours, .inl (cI, 21, .inl f_colours))] r) 0 0 (va_A [(q, .inr (2, [.int f_knots, .int f_threads, .ref q_ends, .ref q_colours])), (q_ends, .inl (cI, 21, .inl f_ends)), (q_colours, .inl (cI, 21, .inl f_colours))] sz) := by
  unfold m_X2_isFullKnot at hm
  refine g_openI (cc := cX2_isFullKnot) (maxL := 2) (own := RX2) (by decide) rfl rfl (Nat.le_of_ble_eq_true rfl) ?_
  intro p e s m args below meth c A Q hx hb hml hown hts hP hK hN hD hA hret ls hl
  have hS : va_S A s.heap s.heap [] := va_S.rf
  have hl : lv_has ls 2 [(0, .ref q), (1, .int a1)] := hl
  refine lv_aload_n hx hb dX2_isFullKnot_0 rfl (lv_at hl 0 rfl) ?_
  refine lv_iload_n hx hb dX2_isFullKnot_1 rfl (lv_at hl 1 rfl) ?_
  obtain ⟨r_1, h_2, hm⟩ := bind_use hm
  refine g_ki (wc := []) (wr := [(q, .inr (2, [.int f_knots, .int f_threads, .ref q_ends, .ref q_colours])), (q_ends, .inl (cI, 21, .inl f_ends)), (q_colours, .inl (cI, 21, .inl f_colours))]) (w2 := [(q, .inr (2, [.int f_knots, .int f_threads, .ref q_ends, .ref q_colours])), (q_ends, .inl (cI, 21, .inl f_ends)), (q_colours, .inl (cI, 21, .inl f_colours))]) (va_runSN (As := [.int a1]) (rest := [.ref q]) ⟨hx, hb, hml, hown, hts⟩ (k_X6_bit l D cI cC cN N s.heap.size a1 r_1 h_2) ⟨va_cnB 1 hts gX2_isFullKnot_X6_bit_n25 rfl rfl rfl (hN (.methodLinkNest RX2 25 yX6_bit RX6) (by decide +kernel)) (hts (.initialized RX6) (by decide +kernel)) (by decide +kernel) ⟨Nat.le_of_ble_eq_true rfl, Nat.le_of_ble_eq_true rfl⟩, hts (.static yX6_bit) (by decide +kernel), trivial⟩ ⟨g_blind, g_pre (hP.sub [] rfl) hK hN (hD.sub [] (by decide) rfl)⟩ rfl rfl hl.1 rfl (lv_room (Nat.le_of_ble_eq_true rfl)) dX2_isFullKnot_2 ⟨Nat.zero_le _, Nat.zero_le _⟩) hP hD hS hA [] [0, 1, 2] rfl rfl (by decide) (by decide) rfl (fun H locs hP hD hS => ?_)
  obtain ⟨r_3, h_4, hm⟩ := bind_use hm
  refine g_ki (wc := [(q, .inr (2, [.int f_knots, .int f_threads, .ref q_ends, .ref q_colours])), (q_ends, .inl (cI, 21, .inl f_ends)), (q_colours, .inl (cI, 21, .inl f_colours))]) (wr := []) (w2 := [(q, .inr (2, [.int f_knots, .int f_threads, .ref q_ends, .ref q_colours])), (q_ends, .inl (cI, 21, .inl f_ends)), (q_colours, .inl (cI, 21, .inl f_colours))]) (va_runV (As := [.int r_1]) (rest := []) ⟨hx, hb, hml, hown, hts⟩ (k_X2_threadsAt l D cI cC cN N q q_ends q_colours H.size f_knots f_threads f_ends f_colours r_1 r_3 h_4) (cwV 1 hts gX2_isFullKnot_X2_threadsAt rfl rfl rfl (by decide +kernel) ⟨Nat.le_of_ble_eq_true rfl, Nat.le_of_ble_eq_true rfl⟩) ⟨g_blind, va_recv (D := D) (ci := 2) (q0 := 0) hK hP rfl rfl, g_pre (hP.sub [0, 1, 2] rfl) hK hN (hD.sub [0, 1, 2] (by decide) rfl)⟩ rfl rfl hl.1 rfl (lv_room (Nat.le_of_ble_eq_true rfl)) dX2_isFullKnot_5 ⟨Nat.zero_le _, Nat.zero_le _⟩) hP hD hS hA [0, 1, 2] [] rfl rfl (by decide) (by decide) rfl (fun H locs hP hD hS => ?_)
  obtain ⟨r_5, h_6, hm⟩ := bind_use hm
  refine g_ki (wc := []) (wr := [(q, .inr (2, [.int f_knots, .int f_threads, .ref q_ends, .ref q_colours])), (q_ends, .inl (cI, 21, .inl f_ends)), (q_colours, .inl (cI, 21, .inl f_colours))]) (w2 := [(q, .inr (2, [.int f_knots, .int f_threads, .ref q_ends, .ref q_colours])), (q_ends, .inl (cI, 21, .inl f_ends)), (q_colours, .inl (cI, 21, .inl f_colours))]) (va_runS (As := [.int r_3]) (rest := []) ⟨hx, hb, hml, hown, hts⟩ (k_J6_bitCount_0f7a4 l D cI cC cN N H.size r_3 r_5 h_6) (va_cwS 1 hts gX2_isFullKnot_J6_bitCount_0f7a4 rfl rfl rfl (by decide +kernel) ⟨Nat.le_of_ble_eq_true rfl, Nat.le_of_ble_eq_true rfl⟩) ⟨g_blind, g_pre (hP.sub [] rfl) hK hN (hD.sub [] (by decide) rfl)⟩ rfl rfl hl.1 rfl (lv_room (Nat.le_of_ble_eq_true rfl)) dX2_isFullKnot_8 ⟨Nat.zero_le _, Nat.zero_le _⟩) hP hD hS hA [] [0, 1, 2] rfl rfl (by decide) (by decide) rfl (fun H locs hP hD hS => ?_)
  refine lv_iconst (v := 3) hx hb dX2_isFullKnot_11 (by decide) ?_
  refine lv_icmp_lt (tgt := 19) hx hb dX2_isFullKnot_12 (by decide) (fun hc => ?_) (fun hc => ?_)
  · have hm := if_t _ hc hm
    refine lv_iconst (v := 0) hx hb dX2_isFullKnot_19 (by decide) ?_
    have z1 := so_use hm
    subst z1
    exact hret _ _ _ _ _ dX2_isFullKnot_20 rfl rfl hP hD hS
  · have hm := if_f _ hc hm
    refine lv_iconst (v := 1) hx hb dX2_isFullKnot_15 (by decide) ?_
    refine lv_goto (tgt := 20) hx hb dX2_isFullKnot_16 (by decide) ?_
    have z1 := so_use hm
    subst z1
    exact hret _ _ _ _ _ dX2_isFullKnot_20 rfl rfl hP hD hS
abbrev rX2_isFull : Room := { frames := 4, cells := 0, slots := 0, locals := 86 }
set_option maxHeartbeats 4000000 in
set_option maxRecDepth 100000 in
theorem k_X2_isFull (l : Launch) (D : va_G) (cI cC cN : ClassId) (N : Nat) (q : Nat) (q_ends : Nat) (q_colours : Nat) (sz : Nat) (f_knots : Int32) (f_threads : Int32) (f_ends : Nat → Int32) (f_colours : Nat → Int32) (r : Int32) (hm : m_X2_isFull N f_knots f_threads f_ends = some r) : Met l yX2_isFull wsX2_isFull (rX2_isFull) (gPc D (tysG cI cC cN) [.ref q] [(q, .inr (2, [.int f_knots, .int f_threads, .ref q_ends, .ref q_colours])), (q_ends, .inl (cI, 21, .inl f_ends)), (q_colours, .inl (cI, 21, .inl f_colours))] sz) (gQi D (tysG cI cC cN) (va_A [(q, .inr (2, [.int f_knots, .int f_threads, .ref q_ends, .ref q_colours])), (q_ends, .inl (cI, 21, .inl f_ends)), (q_colours, .inl (cI, 21, .inl f_colours))] sz) [(q, .inr (2, [.int f_knots, .int f_threads, .ref q_ends, .ref q_colours])), (q_ends, .inl (cI, 21, .inl f_ends)), (q_colours, .inl (cI, 21, .inl f_colours))] r) 0 0 (va_A [(q, .inr (2, [.int f_knots, .int f_threads, .ref q_ends, .ref q_colours])), (q_ends, .inl (cI, 21, .inl f_ends)), (q_colours, .inl (cI, 21, .inl f_colours))] sz) := by
  unfold m_X2_isFull at hm
  refine g_openI (cc := cX2_isFull) (maxL := 2) (own := RX2) (by decide) rfl rfl (Nat.le_of_ble_eq_true rfl) ?_
  intro p e s m args below meth c A Q hx hb hml hown hts hP hK hN hD hA hret ls hl
  have hS : va_S A s.heap s.heap [] := va_S.rf
  have hl : lv_has ls 2 [(0, .ref q)] := hl
  refine lv_iconst (v := 0) hx hb dX2_isFull_0 (by decide) ?_
  refine lv_istore_n (lv' := [(1, .int 0), (0, .ref q)]) hx hb dX2_isFull_1 rfl hl (by decide) rfl (fun ls hl => ?_)
  obtain ⟨J26, hJ26, hm⟩ := jn_use hm
  have j26 : ∀ (H : Heap) (locs : List Loc) (ls : Array Slot), va_P D vwCl [(q, .inr (2, [.int f_knots, .int f_threads, .ref q_ends, .ref q_colours])), (q_ends, .inl (cI, 21, .inl f_ends)), (q_colours, .inl (cI, 21, .inl f_colours))] H → va_D A [(q, .inr (2, [.int f_knots, .int f_threads, .ref q_ends, .ref q_colours])), (q_ends, .inl (cI, 21, .inl f_ends)), (q_colours, .inl (cI, 21, .inl f_colours))] → va_S A s.heap H locs → lv_has ls 2 [(0, .ref q)] → J26 = some r → W p l e rX2_isFull s m args below meth c H locs 0 0 Q (F0 m 26 ls []) := by
    intro H locs ls hP hD hS hl hm
    rw [hJ26] at hm
    refine lv_aload_n hx hb dX2_isFull_26 rfl (lv_at hl 0 rfl) ?_
    refine va_get (D := D) (ci := 2) (v := .int f_knots) (C := RX2) (T := TX2) (N := 4) hx hb hts (by decide +kernel) hown hK hP 0 rfl rfl 0 (by decide) (hts (.fieldLink RX2 9 "KnotStripes$Net" "knots" "I") (by decide +kernel)) (fun _ h9 => h9) rfl dX2_isFull_27 ?_
    refine lv_if_le (tgt := 37) hx hb dX2_isFull_30 (by decide) (fun hc => ?_) (fun hc => ?_)
    · have hm := if_t _ hc hm
      refine lv_iconst (v := 0) hx hb dX2_isFull_37 (by decide) ?_
      have z1 := so_use hm
      subst z1
      exact hret _ _ _ _ _ dX2_isFull_38 rfl rfl hP hD hS
    · have hm := if_f _ hc hm
      refine lv_iconst (v := 1) hx hb dX2_isFull_33 (by decide) ?_
      refine lv_goto (tgt := 38) hx hb dX2_isFull_34 (by decide) ?_
      have z1 := so_use hm
      subst z1
      exact hret _ _ _ _ _ dX2_isFull_38 rfl rfl hP hD hS
  have l2 : ∀ (n_2 : Nat) (x1_1 : Int32), ∀ (H : Heap) (locs : List Loc) (ls : Array Slot), va_P D vwCl [(q, .inr (2, [.int f_knots, .int f_threads, .ref q_ends, .ref q_colours])), (q_ends, .inl (cI, 21, .inl f_ends)), (q_colours, .inl (cI, 21, .inl f_colours))] H → va_D A [(q, .inr (2, [.int f_knots, .int f_threads, .ref q_ends, .ref q_colours])), (q_ends, .inl (cI, 21, .inl f_ends)), (q_colours, .inl (cI, 21, .inl f_colours))] → va_S A s.heap H locs → lv_has ls 2 [(1, .int x1_1), (0, .ref q)] → m_X2_isFull_L2 N f_knots f_threads f_ends J26 n_2 x1_1 = some r → W p l e rX2_isFull s m args below meth c H locs 0 0 Q (F0 m 2 ls []) := by
    intro n_2
    induction n_2 with
    | zero => intro x1_1 H locs ls hP hD hS hl hm; rw [m_X2_isFull_L2] at hm; exact no_use hm
    | succ n_2 ih2 =>
      intro x1_1 H locs ls hP hD hS hl hm
      rw [m_X2_isFull_L2] at hm
      refine lv_iload_n hx hb dX2_isFull_2 rfl (lv_at hl 0 rfl) ?_
      refine lv_aload_n hx hb dX2_isFull_3 rfl (lv_at hl 1 rfl) ?_
      refine va_get (D := D) (ci := 2) (v := .int f_knots) (C := RX2) (T := TX2) (N := 4) hx hb hts (by decide +kernel) hown hK hP 0 rfl rfl 0 (by decide) (hts (.fieldLink RX2 9 "KnotStripes$Net" "knots" "I") (by decide +kernel)) (fun _ h9 => h9) rfl dX2_isFull_4 ?_
      refine lv_icmp_ge (tgt := 26) hx hb dX2_isFull_7 (by decide) (fun hc => ?_) (fun hc => ?_)
      · have hm := if_t _ hc hm
        exact j26 _ _ _ hP hD hS (lv_sub hl [1] rfl) hm
      · have hm := if_f _ hc hm
        refine lv_aload_n hx hb dX2_isFull_10 rfl (lv_at hl 1 rfl) ?_
        refine lv_iload_n hx hb dX2_isFull_11 rfl (lv_at hl 0 rfl) ?_
        obtain ⟨r_2, h_3, hm⟩ := bind_use hm
        refine g_ki (wc := [(q, .inr (2, [.int f_knots, .int f_threads, .ref q_ends, .ref q_colours])), (q_ends, .inl (cI, 21, .inl f_ends)), (q_colours, .inl (cI, 21, .inl f_colours))]) (wr := []) (w2 := [(q, .inr (2, [.int f_knots, .int f_threads, .ref q_ends, .ref q_colours])), (q_ends, .inl (cI, 21, .inl f_ends)), (q_colours, .inl (cI, 21, .inl f_colours))]) (va_runV (As := [.int x1_1]) (rest := []) ⟨hx, hb, hml, hown, hts⟩ (k_X2_isFullKnot l D cI cC cN N q q_ends q_colours H.size f_knots f_threads f_ends f_colours x1_1 r_2 h_3) (cwV 1 hts gX2_isFull_X2_isFullKnot rfl rfl rfl (by decide +kernel) ⟨Nat.le_of_ble_eq_true rfl, Nat.le_of_ble_eq_true rfl⟩) ⟨g_blind, va_recv (D := D) (ci := 2) (q0 := 0) hK hP rfl rfl, g_pre (hP.sub [0, 1, 2] rfl) hK hN (hD.sub [0, 1, 2] (by decide) rfl)⟩ rfl rfl hl.1 rfl (lv_room (Nat.le_of_ble_eq_true rfl)) dX2_isFull_12 ⟨Nat.zero_le _, Nat.zero_le _⟩) hP hD hS hA [0, 1, 2] [] rfl rfl (by decide) (by decide) rfl (fun H locs hP hD hS => ?_)
        refine lv_if_ne (tgt := 20) hx hb dX2_isFull_15 (by decide) (fun hc => ?_) (fun hc => ?_)
        · have hm := if_f _ hc hm
          refine lv_iinc (v := (x1_1 + 1)) (lv' := [(1, .int (x1_1 + 1)), (0, .ref q)]) hx hb dX2_isFull_20 hl (k := 0) rfl rfl (by decide) rfl (fun ls hl => ?_)
          refine lv_goto (tgt := 2) hx hb dX2_isFull_23 (by decide) ?_
          exact ih2 (x1_1 + 1) _ _ _ hP hD hS hl hm
        · have hm := if_t _ hc hm
          refine lv_iconst (v := 0) hx hb dX2_isFull_18 (by decide) ?_
          have z1 := so_use hm
          subst z1
          exact hret _ _ _ _ _ dX2_isFull_19 rfl rfl hP hD hS
  exact l2 N 0 _ _ _ hP hD hS hl hm
abbrev rX2_isWrong : Room := { frames := 2, cells := 0, slots := 0, locals := 42 }
set_option maxHeartbeats 4000000 in
set_option maxRecDepth 100000 in
theorem k_X2_isWrong (l : Launch) (D : va_G) (cI cC cN : ClassId) (N : Nat) (q : Nat) (q_ends : Nat) (q_colours : Nat) (sz : Nat) (f_knots : Int32) (f_threads : Int32) (f_ends : Nat → Int32) (f_colours : Nat → Int32) (a1 : Int32) (r : Int32) (hm : m_X2_isWrong N f_threads f_ends f_colours a1 = some r) : Met l yX2_isWrong wsX2_isWrong (rX2_isWrong) (gPc D (tysG cI cC cN) [.ref q, .int a1] [(q, .inr (2, [.int f_knots, .int f_threads, .ref q_ends, .ref q_colours])), (q_ends, .inl (cI, 21, .inl f_ends)), (q_colours, .inl (cI, 21, .inl f_colours))] sz) (gQi D (tysG cI cC cN) (va_A [(q, .inr (2, [.int f_knots, .int f_threads, .ref q_ends, .ref q_colours])), (q_ends, .inl (cI, 21, .inl f_ends)), (q_colours, .inl (cI, 21, .inl f_colours))] sz) [(q, .inr (2, [.int f_knots, .int f_threads, .ref q_ends, .ref q_colours])), (q_ends, .inl (cI, 21, .inl f_ends)), (q_colours, .inl (cI, 21, .inl f_colours))] r) 0 0 (va_A [(q, .inr (2, [.int f_knots, .int f_threads, .ref q_ends, .ref q_colours])), (q_ends, .inl (cI, 21, .inl f_ends)), (q_colours, .inl (cI, 21, .inl f_colours))] sz) := by
  unfold m_X2_isWrong at hm
  refine g_openI (cc := cX2_isWrong) (maxL := 5) (own := RX2) (by decide) rfl rfl (Nat.le_of_ble_eq_true rfl) ?_
  intro p e s m args below meth c A Q hx hb hml hown hts hP hK hN hD hA hret ls hl
  have hS : va_S A s.heap s.heap [] := va_S.rf
  have hl : lv_has ls 5 [(0, .ref q), (1, .int a1)] := hl
  refine lv_iconst (v := 0) hx hb dX2_isWrong_0 (by decide) ?_
  refine lv_istore_n (lv' := [(2, .int 0), (0, .ref q), (1, .int a1)]) hx hb dX2_isWrong_1 rfl hl (by decide) rfl (fun ls hl => ?_)
  refine lv_iconst (v := 0) hx hb dX2_isWrong_2 (by decide) ?_
  refine lv_istore_n (lv' := [(3, .int 0), (2, .int 0), (0, .ref q), (1, .int a1)]) hx hb dX2_isWrong_3 rfl hl (by decide) rfl (fun ls hl => ?_)
  have l4 : ∀ (n_4 : Nat) (x3_1 : Int32) (x2_2 : Int32), ∀ (H : Heap) (locs : List Loc) (ls : Array Slot), va_P D vwCl [(q, .inr (2, [.int f_knots, .int f_threads, .ref q_ends, .ref q_colours])), (q_ends, .inl (cI, 21, .inl f_ends)), (q_colours, .inl (cI, 21, .inl f_colours))] H → va_D A [(q, .inr (2, [.int f_knots, .int f_threads, .ref q_ends, .ref q_colours])), (q_ends, .inl (cI, 21, .inl f_ends)), (q_colours, .inl (cI, 21, .inl f_colours))] → va_S A s.heap H locs → lv_has ls 5 [(3, .int x3_1), (2, .int x2_2), (0, .ref q), (1, .int a1)] → m_X2_isWrong_L4 N f_threads f_ends f_colours a1 n_4 x3_1 x2_2 = some r → W p l e rX2_isWrong s m args below meth c H locs 0 0 Q (F0 m 4 ls []) := by
    intro n_4
    induction n_4 with
    | zero => intro x3_1 x2_2 H locs ls hP hD hS hl hm; rw [m_X2_isWrong_L4] at hm; exact no_use hm
    | succ n_4 ih4 =>
      intro x3_1 x2_2 H locs ls hP hD hS hl hm
      rw [m_X2_isWrong_L4] at hm
      refine lv_iload_n hx hb dX2_isWrong_4 rfl (lv_at hl 0 rfl) ?_
      refine lv_aload_n hx hb dX2_isWrong_5 rfl (lv_at hl 2 rfl) ?_
      refine va_get (D := D) (ci := 2) (v := .int f_threads) (C := RX2) (T := TX2) (N := 4) hx hb hts (by decide +kernel) hown hK hP 0 rfl rfl 1 (by decide) (hts (.fieldLink RX2 15 "KnotStripes$Net" "threads" "I") (by decide +kernel)) (fun _ h9 => h9) rfl dX2_isWrong_6 ?_
      refine lv_icmp_ge (tgt := 62) hx hb dX2_isWrong_9 (by decide) (fun hc => ?_) (fun hc => ?_)
      · have hm := if_t _ hc hm
        refine lv_iconst (v := 0) hx hb dX2_isWrong_62 (by decide) ?_
        have z1 := so_use hm
        subst z1
        exact hret _ _ _ _ _ dX2_isWrong_63 rfl rfl hP hD hS
      · have hm := if_f _ hc hm
        refine lv_aload_n hx hb dX2_isWrong_12 rfl (lv_at hl 2 rfl) ?_
        refine lv_iload_n hx hb dX2_isWrong_13 rfl (lv_at hl 0 rfl) ?_
        obtain ⟨r_3, h_4, hm⟩ := bind_use hm
        refine g_ki (wc := [(q, .inr (2, [.int f_knots, .int f_threads, .ref q_ends, .ref q_colours])), (q_ends, .inl (cI, 21, .inl f_ends)), (q_colours, .inl (cI, 21, .inl f_colours))]) (wr := []) (w2 := [(q, .inr (2, [.int f_knots, .int f_threads, .ref q_ends, .ref q_colours])), (q_ends, .inl (cI, 21, .inl f_ends)), (q_colours, .inl (cI, 21, .inl f_colours))]) (va_runV (As := [.int x3_1]) (rest := []) ⟨hx, hb, hml, hown, hts⟩ (k_X2_colour l D cI cC cN N q q_ends q_colours H.size f_knots f_threads f_ends f_colours x3_1 r_3 h_4) (cwV 1 hts gX2_isWrong_X2_colour rfl rfl rfl (by decide +kernel) ⟨Nat.le_of_ble_eq_true rfl, Nat.le_of_ble_eq_true rfl⟩) ⟨g_blind, va_recv (D := D) (ci := 2) (q0 := 0) hK hP rfl rfl, g_pre (hP.sub [0, 1, 2] rfl) hK hN (hD.sub [0, 1, 2] (by decide) rfl)⟩ rfl rfl hl.1 rfl (lv_room (Nat.le_of_ble_eq_true rfl)) dX2_isWrong_14 ⟨Nat.zero_le _, Nat.zero_le _⟩) hP hD hS hA [0, 1, 2] [] rfl rfl (by decide) (by decide) rfl (fun H locs hP hD hS => ?_)
        refine lv_istore (lv' := [(4, .int r_3), (3, .int x3_1), (2, .int x2_2), (0, .ref q), (1, .int a1)]) hx hb dX2_isWrong_17 hl (by decide) rfl (fun ls hl => ?_)
        refine lv_aload_n hx hb dX2_isWrong_19 rfl (lv_at hl 3 rfl) ?_
        refine lv_iload_n hx hb dX2_isWrong_20 rfl (lv_at hl 1 rfl) ?_
        obtain ⟨r_5, h_6, hm⟩ := bind_use hm
        refine g_ki (wc := [(q, .inr (2, [.int f_knots, .int f_threads, .ref q_ends, .ref q_colours])), (q_ends, .inl (cI, 21, .inl f_ends)), (q_colours, .inl (cI, 21, .inl f_colours))]) (wr := []) (w2 := [(q, .inr (2, [.int f_knots, .int f_threads, .ref q_ends, .ref q_colours])), (q_ends, .inl (cI, 21, .inl f_ends)), (q_colours, .inl (cI, 21, .inl f_colours))]) (va_runV (As := [.int x3_1]) (rest := []) ⟨hx, hb, hml, hown, hts⟩ (k_X2_ends l D cI cC cN N q q_ends q_colours H.size f_knots f_threads f_ends f_colours x3_1 r_5 h_6) (cwV 1 hts gX2_isWrong_X2_ends rfl rfl rfl (by decide +kernel) ⟨Nat.le_of_ble_eq_true rfl, Nat.le_of_ble_eq_true rfl⟩) ⟨g_blind, va_recv (D := D) (ci := 2) (q0 := 0) hK hP rfl rfl, g_pre (hP.sub [0, 1, 2] rfl) hK hN (hD.sub [0, 1, 2] (by decide) rfl)⟩ rfl rfl hl.1 rfl (lv_room (Nat.le_of_ble_eq_true rfl)) dX2_isWrong_21 ⟨Nat.zero_le _, Nat.zero_le _⟩) hP hD hS hA [0, 1, 2] [] rfl rfl (by decide) (by decide) rfl (fun H locs hP hD hS => ?_)
        refine lv_iload_n hx hb dX2_isWrong_24 rfl (lv_at hl 4 rfl) ?_
        obtain ⟨r_7, h_8, hm⟩ := bind_use hm
        refine g_ki (wc := []) (wr := [(q, .inr (2, [.int f_knots, .int f_threads, .ref q_ends, .ref q_colours])), (q_ends, .inl (cI, 21, .inl f_ends)), (q_colours, .inl (cI, 21, .inl f_colours))]) (w2 := [(q, .inr (2, [.int f_knots, .int f_threads, .ref q_ends, .ref q_colours])), (q_ends, .inl (cI, 21, .inl f_ends)), (q_colours, .inl (cI, 21, .inl f_colours))]) (va_runSN (As := [.int r_5, .int a1]) (rest := []) ⟨hx, hb, hml, hown, hts⟩ (k_X6_holds l D cI cC cN N H.size r_5 a1 r_7 h_8) ⟨va_cnB 2 hts gX2_isWrong_X6_holds_n50 rfl rfl rfl (hN (.methodLinkNest RX2 50 yX6_holds RX6) (by decide +kernel)) (hts (.initialized RX6) (by decide +kernel)) (by decide +kernel) ⟨Nat.le_of_ble_eq_true rfl, Nat.le_of_ble_eq_true rfl⟩, hts (.static yX6_holds) (by decide +kernel), trivial⟩ ⟨g_blind, g_pre (hP.sub [] rfl) hK hN (hD.sub [] (by decide) rfl)⟩ rfl rfl hl.1 rfl (lv_room (Nat.le_of_ble_eq_true rfl)) dX2_isWrong_25 ⟨Nat.zero_le _, Nat.zero_le _⟩) hP hD hS hA [] [0, 1, 2] rfl rfl (by decide) (by decide) rfl (fun H locs hP hD hS => ?_)
        refine lv_if_eq (tgt := 56) hx hb dX2_isWrong_28 (by decide) (fun hc => ?_) (fun hc => ?_)
        · have hm := if_t _ hc hm
          refine lv_iinc (v := (x3_1 + 1)) (lv' := [(3, .int (x3_1 + 1)), (4, .int r_3), (2, .int x2_2), (0, .ref q), (1, .int a1)]) hx hb dX2_isWrong_56 hl (k := 1) rfl rfl (by decide) rfl (fun ls hl => ?_)
          refine lv_goto (tgt := 4) hx hb dX2_isWrong_59 (by decide) ?_
          exact ih4 (x3_1 + 1) x2_2 _ _ _ hP hD hS (lv_sub hl [0, 2, 3, 4] rfl) hm
        · have hm := if_f _ hc hm
          refine lv_iload hx hb dX2_isWrong_31 (lv_at hl 0 rfl) ?_
          refine lv_iconst (v := 3) hx hb dX2_isWrong_33 (by decide) ?_
          refine lv_icmp_eq (tgt := 56) hx hb dX2_isWrong_34 (by decide) (fun hc => ?_) (fun hc => ?_)
          · have hm := if_t _ hc hm
            refine lv_iinc (v := (x3_1 + 1)) (lv' := [(3, .int (x3_1 + 1)), (4, .int r_3), (2, .int x2_2), (0, .ref q), (1, .int a1)]) hx hb dX2_isWrong_56 hl (k := 1) rfl rfl (by decide) rfl (fun ls hl => ?_)
            refine lv_goto (tgt := 4) hx hb dX2_isWrong_59 (by decide) ?_
            exact ih4 (x3_1 + 1) x2_2 _ _ _ hP hD hS (lv_sub hl [0, 2, 3, 4] rfl) hm
          · have hm := if_f _ hc hm
            refine lv_iload_n hx hb dX2_isWrong_37 rfl (lv_at hl 2 rfl) ?_
            refine lv_iload hx hb dX2_isWrong_38 (lv_at hl 0 rfl) ?_
            obtain ⟨r_9, h_10, hm⟩ := bind_use hm
            refine g_ki (wc := []) (wr := [(q, .inr (2, [.int f_knots, .int f_threads, .ref q_ends, .ref q_colours])), (q_ends, .inl (cI, 21, .inl f_ends)), (q_colours, .inl (cI, 21, .inl f_colours))]) (w2 := [(q, .inr (2, [.int f_knots, .int f_threads, .ref q_ends, .ref q_colours])), (q_ends, .inl (cI, 21, .inl f_ends)), (q_colours, .inl (cI, 21, .inl f_colours))]) (va_runSN (As := [.int x2_2, .int r_3]) (rest := []) ⟨hx, hb, hml, hown, hts⟩ (k_X6_holds l D cI cC cN N H.size x2_2 r_3 r_9 h_10) ⟨va_cnB 2 hts gX2_isWrong_X6_holds_n50 rfl rfl rfl (hN (.methodLinkNest RX2 50 yX6_holds RX6) (by decide +kernel)) (hts (.initialized RX6) (by decide +kernel)) (by decide +kernel) ⟨Nat.le_of_ble_eq_true rfl, Nat.le_of_ble_eq_true rfl⟩, hts (.static yX6_holds) (by decide +kernel), trivial⟩ ⟨g_blind, g_pre (hP.sub [] rfl) hK hN (hD.sub [] (by decide) rfl)⟩ rfl rfl hl.1 rfl (lv_room (Nat.le_of_ble_eq_true rfl)) dX2_isWrong_40 ⟨Nat.zero_le _, Nat.zero_le _⟩) hP hD hS hA [] [0, 1, 2] rfl rfl (by decide) (by decide) rfl (fun H locs hP hD hS => ?_)
            refine lv_if_eq (tgt := 48) hx hb dX2_isWrong_43 (by decide) (fun hc => ?_) (fun hc => ?_)
            · have hm := if_t _ hc hm
              refine lv_iload_n hx hb dX2_isWrong_48 rfl (lv_at hl 2 rfl) ?_
              refine lv_iload hx hb dX2_isWrong_49 (lv_at hl 0 rfl) ?_
              obtain ⟨r_11, h_12, hm⟩ := bind_use hm
              refine g_ki (wc := []) (wr := [(q, .inr (2, [.int f_knots, .int f_threads, .ref q_ends, .ref q_colours])), (q_ends, .inl (cI, 21, .inl f_ends)), (q_colours, .inl (cI, 21, .inl f_colours))]) (w2 := [(q, .inr (2, [.int f_knots, .int f_threads, .ref q_ends, .ref q_colours])), (q_ends, .inl (cI, 21, .inl f_ends)), (q_colours, .inl (cI, 21, .inl f_colours))]) (va_runSN (As := [.int r_3]) (rest := [.int x2_2]) ⟨hx, hb, hml, hown, hts⟩ (k_X6_bit l D cI cC cN N H.size r_3 r_11 h_12) ⟨va_cnB 1 hts gX2_isWrong_X6_bit_n25 rfl rfl rfl (hN (.methodLinkNest RX2 25 yX6_bit RX6) (by decide +kernel)) (hts (.initialized RX6) (by decide +kernel)) (by decide +kernel) ⟨Nat.le_of_ble_eq_true rfl, Nat.le_of_ble_eq_true rfl⟩, hts (.static yX6_bit) (by decide +kernel), trivial⟩ ⟨g_blind, g_pre (hP.sub [] rfl) hK hN (hD.sub [] (by decide) rfl)⟩ rfl rfl hl.1 rfl (lv_room (Nat.le_of_ble_eq_true rfl)) dX2_isWrong_51 ⟨Nat.zero_le _, Nat.zero_le _⟩) hP hD hS hA [] [0, 1, 2] rfl rfl (by decide) (by decide) rfl (fun H locs hP hD hS => ?_)
              refine lv_ior hx hb dX2_isWrong_54 ?_
              refine lv_topi (fun v2_13 ev2_13 => ?_)
              have hm := nm_use ev2_13 hm
              refine lv_istore_n (lv' := [(2, .int v2_13), (4, .int r_3), (3, .int x3_1), (0, .ref q), (1, .int a1)]) hx hb dX2_isWrong_55 rfl hl (by decide) rfl (fun ls hl => ?_)
              refine lv_iinc (v := (x3_1 + 1)) (lv' := [(3, .int (x3_1 + 1)), (2, .int v2_13), (4, .int r_3), (0, .ref q), (1, .int a1)]) hx hb dX2_isWrong_56 hl (k := 2) rfl rfl (by decide) rfl (fun ls hl => ?_)
              refine lv_goto (tgt := 4) hx hb dX2_isWrong_59 (by decide) ?_
              exact ih4 (x3_1 + 1) v2_13 _ _ _ hP hD hS (lv_sub hl [0, 1, 3, 4] rfl) hm
            · have hm := if_f _ hc hm
              refine lv_iconst (v := 1) hx hb dX2_isWrong_46 (by decide) ?_
              have z1 := so_use hm
              subst z1
              exact hret _ _ _ _ _ dX2_isWrong_47 rfl rfl hP hD hS
  exact l4 N 0 0 _ _ _ hP hD hS hl hm
abbrev rX2_wrongKnots : Room := { frames := 3, cells := 0, slots := 0, locals := 66 }
set_option maxHeartbeats 4000000 in
set_option maxRecDepth 100000 in
theorem k_X2_wrongKnots (l : Launch) (D : va_G) (cI cC cN : ClassId) (N : Nat) (q : Nat) (q_ends : Nat) (q_colours : Nat) (sz : Nat) (f_knots : Int32) (f_threads : Int32) (f_ends : Nat → Int32) (f_colours : Nat → Int32) (r : Int32) (hm : m_X2_wrongKnots N f_knots f_threads f_ends f_colours = some r) : Met l yX2_wrongKnots wsX2_wrongKnots (rX2_wrongKnots) (gPc D (tysG cI cC cN) [.ref q] [(q, .inr (2, [.int f_knots, .int f_threads, .ref q_ends, .ref q_colours])), (q_ends, .inl (cI, 21, .inl f_ends)), (q_colours, .inl (cI, 21, .inl f_colours))] sz) (gQi D (tysG cI cC cN) (va_A [(q, .inr (2, [.int f_knots, .int f_threads, .ref q_ends, .ref q_colours])), (q_ends, .inl (cI, 21, .inl f_ends)), (q_colours, .inl (cI, 21, .inl f_colours))] sz) [(q, .inr (2, [.int f_knots, .int f_threads, .ref q_ends, .ref q_colours])), (q_ends, .inl (cI, 21, .inl f_ends)), (q_colours, .inl (cI, 21, .inl f_colours))] r) 0 0 (va_A [(q, .inr (2, [.int f_knots, .int f_threads, .ref q_ends, .ref q_colours])), (q_ends, .inl (cI, 21, .inl f_ends)), (q_colours, .inl (cI, 21, .inl f_colours))] sz) := by
  unfold m_X2_wrongKnots at hm
  refine g_openI (cc := cX2_wrongKnots) (maxL := 3) (own := RX2) (by decide) rfl rfl (Nat.le_of_ble_eq_true rfl) ?_
  intro p e s m args below meth c A Q hx hb hml hown hts hP hK hN hD hA hret ls hl
  have hS : va_S A s.heap s.heap [] := va_S.rf
  have hl : lv_has ls 3 [(0, .ref q)] := hl
  refine lv_iconst (v := 0) hx hb dX2_wrongKnots_0 (by decide) ?_
  refine lv_istore_n (lv' := [(1, .int 0), (0, .ref q)]) hx hb dX2_wrongKnots_1 rfl hl (by decide) rfl (fun ls hl => ?_)
  refine lv_iconst (v := 0) hx hb dX2_wrongKnots_2 (by decide) ?_
  refine lv_istore_n (lv' := [(2, .int 0), (1, .int 0), (0, .ref q)]) hx hb dX2_wrongKnots_3 rfl hl (by decide) rfl (fun ls hl => ?_)
  have l4 : ∀ (n_4 : Nat) (x2_1 : Int32) (x1_2 : Int32), ∀ (H : Heap) (locs : List Loc) (ls : Array Slot), va_P D vwCl [(q, .inr (2, [.int f_knots, .int f_threads, .ref q_ends, .ref q_colours])), (q_ends, .inl (cI, 21, .inl f_ends)), (q_colours, .inl (cI, 21, .inl f_colours))] H → va_D A [(q, .inr (2, [.int f_knots, .int f_threads, .ref q_ends, .ref q_colours])), (q_ends, .inl (cI, 21, .inl f_ends)), (q_colours, .inl (cI, 21, .inl f_colours))] → va_S A s.heap H locs → lv_has ls 3 [(2, .int x2_1), (1, .int x1_2), (0, .ref q)] → m_X2_wrongKnots_L4 N f_knots f_threads f_ends f_colours n_4 x2_1 x1_2 = some r → W p l e rX2_wrongKnots s m args below meth c H locs 0 0 Q (F0 m 4 ls []) := by
    intro n_4
    induction n_4 with
    | zero => intro x2_1 x1_2 H locs ls hP hD hS hl hm; rw [m_X2_wrongKnots_L4] at hm; exact no_use hm
    | succ n_4 ih4 =>
      intro x2_1 x1_2 H locs ls hP hD hS hl hm
      rw [m_X2_wrongKnots_L4] at hm
      refine lv_iload_n hx hb dX2_wrongKnots_4 rfl (lv_at hl 0 rfl) ?_
      refine lv_aload_n hx hb dX2_wrongKnots_5 rfl (lv_at hl 2 rfl) ?_
      refine va_get (D := D) (ci := 2) (v := .int f_knots) (C := RX2) (T := TX2) (N := 4) hx hb hts (by decide +kernel) hown hK hP 0 rfl rfl 0 (by decide) (hts (.fieldLink RX2 9 "KnotStripes$Net" "knots" "I") (by decide +kernel)) (fun _ h9 => h9) rfl dX2_wrongKnots_6 ?_
      refine lv_icmp_ge (tgt := 29) hx hb dX2_wrongKnots_9 (by decide) (fun hc => ?_) (fun hc => ?_)
      · have hm := if_t _ hc hm
        refine lv_iload_n hx hb dX2_wrongKnots_29 rfl (lv_at hl 1 rfl) ?_
        have z1 := so_use hm
        subst z1
        exact hret _ _ _ _ _ dX2_wrongKnots_30 rfl rfl hP hD hS
      · have hm := if_f _ hc hm
        refine lv_aload_n hx hb dX2_wrongKnots_12 rfl (lv_at hl 2 rfl) ?_
        refine lv_iload_n hx hb dX2_wrongKnots_13 rfl (lv_at hl 0 rfl) ?_
        obtain ⟨r_3, h_4, hm⟩ := bind_use hm
        refine g_ki (wc := [(q, .inr (2, [.int f_knots, .int f_threads, .ref q_ends, .ref q_colours])), (q_ends, .inl (cI, 21, .inl f_ends)), (q_colours, .inl (cI, 21, .inl f_colours))]) (wr := []) (w2 := [(q, .inr (2, [.int f_knots, .int f_threads, .ref q_ends, .ref q_colours])), (q_ends, .inl (cI, 21, .inl f_ends)), (q_colours, .inl (cI, 21, .inl f_colours))]) (va_runV (As := [.int x2_1]) (rest := []) ⟨hx, hb, hml, hown, hts⟩ (k_X2_isWrong l D cI cC cN N q q_ends q_colours H.size f_knots f_threads f_ends f_colours x2_1 r_3 h_4) (cwV 1 hts gX2_wrongKnots_X2_isWrong rfl rfl rfl (by decide +kernel) ⟨Nat.le_of_ble_eq_true rfl, Nat.le_of_ble_eq_true rfl⟩) ⟨g_blind, va_recv (D := D) (ci := 2) (q0 := 0) hK hP rfl rfl, g_pre (hP.sub [0, 1, 2] rfl) hK hN (hD.sub [0, 1, 2] (by decide) rfl)⟩ rfl rfl hl.1 rfl (lv_room (Nat.le_of_ble_eq_true rfl)) dX2_wrongKnots_14 ⟨Nat.zero_le _, Nat.zero_le _⟩) hP hD hS hA [0, 1, 2] [] rfl rfl (by decide) (by decide) rfl (fun H locs hP hD hS => ?_)
        refine lv_if_eq (tgt := 23) hx hb dX2_wrongKnots_17 (by decide) (fun hc => ?_) (fun hc => ?_)
        · have hm := if_t _ hc hm
          refine lv_iinc (v := (x2_1 + 1)) (lv' := [(2, .int (x2_1 + 1)), (1, .int x1_2), (0, .ref q)]) hx hb dX2_wrongKnots_23 hl (k := 0) rfl rfl (by decide) rfl (fun ls hl => ?_)
          refine lv_goto (tgt := 4) hx hb dX2_wrongKnots_26 (by decide) ?_
          exact ih4 (x2_1 + 1) x1_2 _ _ _ hP hD hS hl hm
        · have hm := if_f _ hc hm
          refine lv_iinc (v := (x1_2 + 1)) (lv' := [(1, .int (x1_2 + 1)), (2, .int x2_1), (0, .ref q)]) hx hb dX2_wrongKnots_20 hl (k := 1) rfl rfl (by decide) rfl (fun ls hl => ?_)
          refine lv_iinc (v := (x2_1 + 1)) (lv' := [(2, .int (x2_1 + 1)), (1, .int (x1_2 + 1)), (0, .ref q)]) hx hb dX2_wrongKnots_23 hl (k := 1) rfl rfl (by decide) rfl (fun ls hl => ?_)
          refine lv_goto (tgt := 4) hx hb dX2_wrongKnots_26 (by decide) ?_
          exact ih4 (x2_1 + 1) (x1_2 + 1) _ _ _ hP hD hS hl hm
  exact l4 N 0 0 _ _ _ hP hD hS hl hm
abbrev rX2_empty : Room := { frames := 0, cells := 0, slots := 0, locals := 0 }
set_option maxHeartbeats 4000000 in
set_option maxRecDepth 100000 in
theorem k_X2_empty (l : Launch) (D : va_G) (cI cC cN : ClassId) (N : Nat) (q : Nat) (q_ends : Nat) (q_colours : Nat) (sz : Nat) (f_knots : Int32) (f_threads : Int32) (f_ends : Nat → Int32) (f_colours : Nat → Int32) (f_knots' : Int32) (f_threads' : Int32) (hm : m_X2_empty N f_knots f_threads = some (f_knots', f_threads')) : Met l yX2_empty wsX2_empty (rX2_empty) (gPc D (tysG cI cC cN) [.ref q] [(q, .inr (2, [.int f_knots, .int f_threads, .ref q_ends, .ref q_colours])), (q_ends, .inl (cI, 21, .inl f_ends)), (q_colours, .inl (cI, 21, .inl f_colours))] sz) (gQv D (tysG cI cC cN) (va_A [(q, .inr (2, [.int f_knots, .int f_threads, .ref q_ends, .ref q_colours])), (q_ends, .inl (cI, 21, .inl f_ends)), (q_colours, .inl (cI, 21, .inl f_colours))] sz) [(q, .inr (2, [.int f_knots', .int f_threads', .ref q_ends, .ref q_colours])), (q_ends, .inl (cI, 21, .inl f_ends)), (q_colours, .inl (cI, 21, .inl f_colours))]) 0 0 (va_A [(q, .inr (2, [.int f_knots, .int f_threads, .ref q_ends, .ref q_colours])), (q_ends, .inl (cI, 21, .inl f_ends)), (q_colours, .inl (cI, 21, .inl f_colours))] sz) := by
  unfold m_X2_empty at hm
  refine g_openV (cc := cX2_empty) (maxL := 1) (own := RX2) (by decide) rfl rfl (Nat.le_of_ble_eq_true rfl) ?_
  intro p e s m args below meth c A Q hx hb hml hown hts hP hK hN hD hA hret ls hl
  have hS : va_S A s.heap s.heap [] := va_S.rf
  have hl : lv_has ls 1 [(0, .ref q)] := hl
  refine lv_aload_n hx hb dX2_empty_0 rfl (lv_at hl 0 rfl) ?_
  refine lv_iconst (v := 0) hx hb dX2_empty_1 (by decide) ?_
  refine va_put (D := D) (ci := 2) (v := .int 0) (ty := .int) (C := RX2) (T := TX2) (N := 4) hx hb hts (by decide +kernel) tyX2 tyX2_ok nmX2 hown hK hP hD hS 0 rfl rfl 0 (by decide) (hts (.fieldLink RX2 9 "KnotStripes$Net" "knots" "I") (by decide +kernel)) (fun _ h9 => h9) rfl (by decide +kernel) rfl rfl (Nat.le_of_ble_eq_true rfl) dX2_empty_2 (fun H locs hP hD hS => ?_)
  have hP : va_P D vwCl [(q, .inr (2, [.int 0, .int f_threads, .ref q_ends, .ref q_colours])), (q_ends, .inl (cI, 21, .inl f_ends)), (q_colours, .inl (cI, 21, .inl f_colours))] H := hP
  have hD : va_D A [(q, .inr (2, [.int 0, .int f_threads, .ref q_ends, .ref q_colours])), (q_ends, .inl (cI, 21, .inl f_ends)), (q_colours, .inl (cI, 21, .inl f_colours))] := hD
  refine lv_aload_n hx hb dX2_empty_5 rfl (lv_at hl 0 rfl) ?_
  refine lv_iconst (v := 0) hx hb dX2_empty_6 (by decide) ?_
  refine va_put (D := D) (ci := 2) (v := .int 0) (ty := .int) (C := RX2) (T := TX2) (N := 4) hx hb hts (by decide +kernel) tyX2 tyX2_ok nmX2 hown hK hP hD hS 0 rfl rfl 1 (by decide) (hts (.fieldLink RX2 15 "KnotStripes$Net" "threads" "I") (by decide +kernel)) (fun _ h9 => h9) rfl (by decide +kernel) rfl rfl (Nat.le_of_ble_eq_true rfl) dX2_empty_7 (fun H locs hP hD hS => ?_)
  have hP : va_P D vwCl [(q, .inr (2, [.int 0, .int 0, .ref q_ends, .ref q_colours])), (q_ends, .inl (cI, 21, .inl f_ends)), (q_colours, .inl (cI, 21, .inl f_colours))] H := hP
  have hD : va_D A [(q, .inr (2, [.int 0, .int 0, .ref q_ends, .ref q_colours])), (q_ends, .inl (cI, 21, .inl f_ends)), (q_colours, .inl (cI, 21, .inl f_colours))] := hD
  have z1 := so_use hm
  obtain ⟨y1, z2⟩ := pr_use z1
  subst y1
  subst z2
  exact hret _ _ _ _ dX2_empty_10 hP hD hS
abbrev rX2_addKnots : Room := { frames := 1, cells := 0, slots := 0, locals := 30 }
set_option maxHeartbeats 4000000 in
set_option maxRecDepth 100000 in
theorem k_X2_addKnots (l : Launch) (D : va_G) (cI cC cN : ClassId) (N : Nat) (q : Nat) (q_ends : Nat) (q_colours : Nat) (sz : Nat) (f_knots : Int32) (f_threads : Int32) (f_ends : Nat → Int32) (f_colours : Nat → Int32) (a1 : Int32) (f_knots' : Int32) (hm : m_X2_addKnots N f_knots a1 = some f_knots') : Met l yX2_addKnots wsX2_addKnots (rX2_addKnots) (gPc D (tysG cI cC cN) [.ref q, .int a1] [(q, .inr (2, [.int f_knots, .int f_threads, .ref q_ends, .ref q_colours])), (q_ends, .inl (cI, 21, .inl f_ends)), (q_colours, .inl (cI, 21, .inl f_colours))] sz) (gQv D (tysG cI cC cN) (va_A [(q, .inr (2, [.int f_knots, .int f_threads, .ref q_ends, .ref q_colours])), (q_ends, .inl (cI, 21, .inl f_ends)), (q_colours, .inl (cI, 21, .inl f_colours))] sz) [(q, .inr (2, [.int f_knots', .int f_threads, .ref q_ends, .ref q_colours])), (q_ends, .inl (cI, 21, .inl f_ends)), (q_colours, .inl (cI, 21, .inl f_colours))]) 0 0 (va_A [(q, .inr (2, [.int f_knots, .int f_threads, .ref q_ends, .ref q_colours])), (q_ends, .inl (cI, 21, .inl f_ends)), (q_colours, .inl (cI, 21, .inl f_colours))] sz) := by
  unfold m_X2_addKnots at hm
  refine g_openV (cc := cX2_addKnots) (maxL := 2) (own := RX2) (by decide) rfl rfl (Nat.le_of_ble_eq_true rfl) ?_
  intro p e s m args below meth c A Q hx hb hml hown hts hP hK hN hD hA hret ls hl
  have hS : va_S A s.heap s.heap [] := va_S.rf
  have hl : lv_has ls 2 [(0, .ref q), (1, .int a1)] := hl
  refine lv_aload_n hx hb dX2_addKnots_0 rfl (lv_at hl 0 rfl) ?_
  refine lv_aload_n hx hb dX2_addKnots_1 rfl (lv_at hl 0 rfl) ?_
  refine va_get (D := D) (ci := 2) (v := .int f_knots) (C := RX2) (T := TX2) (N := 4) hx hb hts (by decide +kernel) hown hK hP 0 rfl rfl 0 (by decide) (hts (.fieldLink RX2 9 "KnotStripes$Net" "knots" "I") (by decide +kernel)) (fun _ h9 => h9) rfl dX2_addKnots_2 ?_
  refine lv_iload_n hx hb dX2_addKnots_5 rfl (lv_at hl 1 rfl) ?_
  refine lv_iadd hx hb dX2_addKnots_6 ?_
  refine lv_bipush (v := 14) hx hb dX2_addKnots_7 (by decide) ?_
  refine gv_mmin hx hb (by rw [hml]; exact hl.1.symm) (own := RX2) (index := 67) hown (hts (.methodLink RX2 67 Lib.Math.min.name) (by decide +kernel)) (hts (.static Lib.Math.min.name) (by decide +kernel)) (hts (.initialized "java/lang/Math") (by decide +kernel)) (hts (.code Lib.Math.min.name Lib.Math.min.code 2 (some .int)) (by decide +kernel)) (Nat.le_of_ble_eq_true rfl) (Nat.le_of_ble_eq_true rfl) (Nat.zero_le _) (Nat.zero_le _) dX2_addKnots_9 ?_
  refine W.eq (g2 := F0 m 12 ls (.int (mni (f_knots + a1) 14) :: [.ref q])) rfl ?_
  refine lv_topi (fun w_1 ew_1 => ?_)
  have hm := nm_use ew_1 hm
  refine va_put (D := D) (ci := 2) (v := .int w_1) (ty := .int) (C := RX2) (T := TX2) (N := 4) hx hb hts (by decide +kernel) tyX2 tyX2_ok nmX2 hown hK hP hD hS 0 rfl rfl 0 (by decide) (hts (.fieldLink RX2 9 "KnotStripes$Net" "knots" "I") (by decide +kernel)) (fun _ h9 => h9) rfl (by decide +kernel) rfl rfl (Nat.le_of_ble_eq_true rfl) dX2_addKnots_12 (fun H locs hP hD hS => ?_)
  have hP : va_P D vwCl [(q, .inr (2, [.int w_1, .int f_threads, .ref q_ends, .ref q_colours])), (q_ends, .inl (cI, 21, .inl f_ends)), (q_colours, .inl (cI, 21, .inl f_colours))] H := hP
  have hD : va_D A [(q, .inr (2, [.int w_1, .int f_threads, .ref q_ends, .ref q_colours])), (q_ends, .inl (cI, 21, .inl f_ends)), (q_colours, .inl (cI, 21, .inl f_colours))] := hD
  have z1 := so_use hm
  subst z1
  exact hret _ _ _ _ dX2_addKnots_15 hP hD hS
abbrev rX2_mayTie : Room := { frames := 4, cells := 0, slots := 0, locals := 86 }
set_option maxHeartbeats 4000000 in
set_option maxRecDepth 100000 in
theorem k_X2_mayTie (l : Launch) (D : va_G) (cI cC cN : ClassId) (N : Nat) (q : Nat) (q_ends : Nat) (q_colours : Nat) (sz : Nat) (f_knots : Int32) (f_threads : Int32) (f_ends : Nat → Int32) (f_colours : Nat → Int32) (a1 : Int32) (r : Int32) (hm : m_X2_mayTie N f_threads f_ends a1 = some r) : Met l yX2_mayTie wsX2_mayTie (rX2_mayTie) (gPc D (tysG cI cC cN) [.ref q, .int a1] [(q, .inr (2, [.int f_knots, .int f_threads, .ref q_ends, .ref q_colours])), (q_ends, .inl (cI, 21, .inl f_ends)), (q_colours, .inl (cI, 21, .inl f_colours))] sz) (gQi D (tysG cI cC cN) (va_A [(q, .inr (2, [.int f_knots, .int f_threads, .ref q_ends, .ref q_colours])), (q_ends, .inl (cI, 21, .inl f_ends)), (q_colours, .inl (cI, 21, .inl f_colours))] sz) [(q, .inr (2, [.int f_knots, .int f_threads, .ref q_ends, .ref q_colours])), (q_ends, .inl (cI, 21, .inl f_ends)), (q_colours, .inl (cI, 21, .inl f_colours))] r) 0 0 (va_A [(q, .inr (2, [.int f_knots, .int f_threads, .ref q_ends, .ref q_colours])), (q_ends, .inl (cI, 21, .inl f_ends)), (q_colours, .inl (cI, 21, .inl f_colours))] sz) := by
  unfold m_X2_mayTie at hm
  refine g_openI (cc := cX2_mayTie) (maxL := 4) (own := RX2) (by decide) rfl rfl (Nat.le_of_ble_eq_true rfl) ?_
  intro p e s m args below meth c A Q hx hb hml hown hts hP hK hN hD hA hret ls hl
  have hS : va_S A s.heap s.heap [] := va_S.rf
  have hl : lv_has ls 4 [(0, .ref q), (1, .int a1)] := hl
  refine lv_aload_n hx hb dX2_mayTie_0 rfl (lv_at hl 0 rfl) ?_
  refine lv_iload_n hx hb dX2_mayTie_1 rfl (lv_at hl 1 rfl) ?_
  obtain ⟨r_1, h_2, hm⟩ := bind_use hm
  refine g_ki (wc := [(q, .inr (2, [.int f_knots, .int f_threads, .ref q_ends, .ref q_colours])), (q_ends, .inl (cI, 21, .inl f_ends)), (q_colours, .inl (cI, 21, .inl f_colours))]) (wr := []) (w2 := [(q, .inr (2, [.int f_knots, .int f_threads, .ref q_ends, .ref q_colours])), (q_ends, .inl (cI, 21, .inl f_ends)), (q_colours, .inl (cI, 21, .inl f_colours))]) (va_runV (As := [.int a1]) (rest := []) ⟨hx, hb, hml, hown, hts⟩ (k_X2_find l D cI cC cN N q q_ends q_colours s.heap.size f_knots f_threads f_ends f_colours a1 r_1 h_2) (cwV 1 hts gX2_mayTie_X2_find rfl rfl rfl (by decide +kernel) ⟨Nat.le_of_ble_eq_true rfl, Nat.le_of_ble_eq_true rfl⟩) ⟨g_blind, va_recv (D := D) (ci := 2) (q0 := 0) hK hP rfl rfl, g_pre (hP.sub [0, 1, 2] rfl) hK hN (hD.sub [0, 1, 2] (by decide) rfl)⟩ rfl rfl hl.1 rfl (lv_room (Nat.le_of_ble_eq_true rfl)) dX2_mayTie_2 ⟨Nat.zero_le _, Nat.zero_le _⟩) hP hD hS hA [0, 1, 2] [] rfl rfl (by decide) (by decide) rfl (fun H locs hP hD hS => ?_)
  refine lv_if_lt (tgt := 10) hx hb dX2_mayTie_5 (by decide) (fun hc => ?_) (fun hc => ?_)
  · have hm := if_t _ hc hm
    refine lv_iload_n hx hb dX2_mayTie_10 rfl (lv_at hl 1 rfl) ?_
    obtain ⟨r_3, h_4, hm⟩ := bind_use hm
    refine g_ki (wc := []) (wr := [(q, .inr (2, [.int f_knots, .int f_threads, .ref q_ends, .ref q_colours])), (q_ends, .inl (cI, 21, .inl f_ends)), (q_colours, .inl (cI, 21, .inl f_colours))]) (w2 := [(q, .inr (2, [.int f_knots, .int f_threads, .ref q_ends, .ref q_colours])), (q_ends, .inl (cI, 21, .inl f_ends)), (q_colours, .inl (cI, 21, .inl f_colours))]) (va_runS (As := [.int a1]) (rest := []) ⟨hx, hb, hml, hown, hts⟩ (k_J6_numberOfTrailingZeros_0f7a4 l D cI cC cN N H.size a1 r_3 h_4) (va_cwS 1 hts gX2_mayTie_J6_numberOfTrailingZeros_0f7a4 rfl rfl rfl (by decide +kernel) ⟨Nat.le_of_ble_eq_true rfl, Nat.le_of_ble_eq_true rfl⟩) ⟨g_blind, g_pre (hP.sub [] rfl) hK hN (hD.sub [] (by decide) rfl)⟩ rfl rfl hl.1 rfl (lv_room (Nat.le_of_ble_eq_true rfl)) dX2_mayTie_11 ⟨Nat.zero_le _, Nat.zero_le _⟩) hP hD hS hA [] [0, 1, 2] rfl rfl (by decide) (by decide) rfl (fun H locs hP hD hS => ?_)
    refine lv_istore_n (lv' := [(2, .int r_3), (0, .ref q), (1, .int a1)]) hx hb dX2_mayTie_14 rfl hl (by decide) rfl (fun ls hl => ?_)
    refine lv_bipush (v := 31) hx hb dX2_mayTie_15 (by decide) ?_
    refine lv_iload_n hx hb dX2_mayTie_17 rfl (lv_at hl 2 rfl) ?_
    obtain ⟨r_5, h_6, hm⟩ := bind_use hm
    refine g_ki (wc := []) (wr := [(q, .inr (2, [.int f_knots, .int f_threads, .ref q_ends, .ref q_colours])), (q_ends, .inl (cI, 21, .inl f_ends)), (q_colours, .inl (cI, 21, .inl f_colours))]) (w2 := [(q, .inr (2, [.int f_knots, .int f_threads, .ref q_ends, .ref q_colours])), (q_ends, .inl (cI, 21, .inl f_ends)), (q_colours, .inl (cI, 21, .inl f_colours))]) (va_runS (As := [.int a1]) (rest := [.int 31]) ⟨hx, hb, hml, hown, hts⟩ (k_J6_numberOfLeadingZeros_0f7a4 l D cI cC cN N H.size a1 r_5 h_6) (va_cwS 1 hts gX2_mayTie_J6_numberOfLeadingZeros_0f7a4 rfl rfl rfl (by decide +kernel) ⟨Nat.le_of_ble_eq_true rfl, Nat.le_of_ble_eq_true rfl⟩) ⟨g_blind, g_pre (hP.sub [] rfl) hK hN (hD.sub [] (by decide) rfl)⟩ rfl rfl hl.1 rfl (lv_room (Nat.le_of_ble_eq_true rfl)) dX2_mayTie_18 ⟨Nat.zero_le _, Nat.zero_le _⟩) hP hD hS hA [] [0, 1, 2] rfl rfl (by decide) (by decide) rfl (fun H locs hP hD hS => ?_)
    refine lv_isub hx hb dX2_mayTie_21 ?_
    refine lv_topi (fun v3_7 ev3_7 => ?_)
    have hm := nm_use ev3_7 hm
    refine lv_istore_n (lv' := [(3, .int v3_7), (2, .int r_3), (0, .ref q), (1, .int a1)]) hx hb dX2_mayTie_22 rfl hl (by decide) rfl (fun ls hl => ?_)
    refine lv_aload_n hx hb dX2_mayTie_23 rfl (lv_at hl 2 rfl) ?_
    refine lv_iload_n hx hb dX2_mayTie_24 rfl (lv_at hl 1 rfl) ?_
    obtain ⟨r_8, h_9, hm⟩ := bind_use hm
    refine g_ki (wc := [(q, .inr (2, [.int f_knots, .int f_threads, .ref q_ends, .ref q_colours])), (q_ends, .inl (cI, 21, .inl f_ends)), (q_colours, .inl (cI, 21, .inl f_colours))]) (wr := []) (w2 := [(q, .inr (2, [.int f_knots, .int f_threads, .ref q_ends, .ref q_colours])), (q_ends, .inl (cI, 21, .inl f_ends)), (q_colours, .inl (cI, 21, .inl f_colours))]) (va_runV (As := [.int r_3]) (rest := []) ⟨hx, hb, hml, hown, hts⟩ (k_X2_isFullKnot l D cI cC cN N q q_ends q_colours H.size f_knots f_threads f_ends f_colours r_3 r_8 h_9) (cwV 1 hts gX2_mayTie_X2_isFullKnot rfl rfl rfl (by decide +kernel) ⟨Nat.le_of_ble_eq_true rfl, Nat.le_of_ble_eq_true rfl⟩) ⟨g_blind, va_recv (D := D) (ci := 2) (q0 := 0) hK hP rfl rfl, g_pre (hP.sub [0, 1, 2] rfl) hK hN (hD.sub [0, 1, 2] (by decide) rfl)⟩ rfl rfl hl.1 rfl (lv_room (Nat.le_of_ble_eq_true rfl)) dX2_mayTie_25 ⟨Nat.zero_le _, Nat.zero_le _⟩) hP hD hS hA [0, 1, 2] [] rfl rfl (by decide) (by decide) rfl (fun H locs hP hD hS => ?_)
    refine lv_if_ne (tgt := 43) hx hb dX2_mayTie_28 (by decide) (fun hc => ?_) (fun hc => ?_)
    · have hm := if_f _ hc hm
      refine lv_iconst (v := 0) hx hb dX2_mayTie_43 (by decide) ?_
      have z1 := so_use hm
      subst z1
      exact hret _ _ _ _ _ dX2_mayTie_44 rfl rfl hP hD hS
    · have hm := if_t _ hc hm
      refine lv_aload_n hx hb dX2_mayTie_31 rfl (lv_at hl 2 rfl) ?_
      refine lv_iload_n hx hb dX2_mayTie_32 rfl (lv_at hl 0 rfl) ?_
      obtain ⟨r_10, h_11, hm⟩ := bind_use hm
      refine g_ki (wc := [(q, .inr (2, [.int f_knots, .int f_threads, .ref q_ends, .ref q_colours])), (q_ends, .inl (cI, 21, .inl f_ends)), (q_colours, .inl (cI, 21, .inl f_colours))]) (wr := []) (w2 := [(q, .inr (2, [.int f_knots, .int f_threads, .ref q_ends, .ref q_colours])), (q_ends, .inl (cI, 21, .inl f_ends)), (q_colours, .inl (cI, 21, .inl f_colours))]) (va_runV (As := [.int v3_7]) (rest := []) ⟨hx, hb, hml, hown, hts⟩ (k_X2_isFullKnot l D cI cC cN N q q_ends q_colours H.size f_knots f_threads f_ends f_colours v3_7 r_10 h_11) (cwV 1 hts gX2_mayTie_X2_isFullKnot rfl rfl rfl (by decide +kernel) ⟨Nat.le_of_ble_eq_true rfl, Nat.le_of_ble_eq_true rfl⟩) ⟨g_blind, va_recv (D := D) (ci := 2) (q0 := 0) hK hP rfl rfl, g_pre (hP.sub [0, 1, 2] rfl) hK hN (hD.sub [0, 1, 2] (by decide) rfl)⟩ rfl rfl hl.1 rfl (lv_room (Nat.le_of_ble_eq_true rfl)) dX2_mayTie_33 ⟨Nat.zero_le _, Nat.zero_le _⟩) hP hD hS hA [0, 1, 2] [] rfl rfl (by decide) (by decide) rfl (fun H locs hP hD hS => ?_)
      refine lv_if_ne (tgt := 43) hx hb dX2_mayTie_36 (by decide) (fun hc => ?_) (fun hc => ?_)
      · have hm := if_f _ hc hm
        refine lv_iconst (v := 0) hx hb dX2_mayTie_43 (by decide) ?_
        have z1 := so_use hm
        subst z1
        exact hret _ _ _ _ _ dX2_mayTie_44 rfl rfl hP hD hS
      · have hm := if_t _ hc hm
        refine lv_iconst (v := 1) hx hb dX2_mayTie_39 (by decide) ?_
        refine lv_goto (tgt := 44) hx hb dX2_mayTie_40 (by decide) ?_
        have z1 := so_use hm
        subst z1
        exact hret _ _ _ _ _ dX2_mayTie_44 rfl rfl hP hD hS
  · have hm := if_f _ hc hm
    refine lv_iconst (v := 0) hx hb dX2_mayTie_8 (by decide) ?_
    have z1 := so_use hm
    subst z1
    exact hret _ _ _ _ _ dX2_mayTie_9 rfl rfl hP hD hS
abbrev rX2_tie : Room := { frames := 1, cells := 0, slots := 0, locals := 22 }
set_option maxHeartbeats 4000000 in
set_option maxRecDepth 100000 in
theorem k_X2_tie (l : Launch) (D : va_G) (cI cC cN : ClassId) (N : Nat) (q : Nat) (q_ends : Nat) (q_colours : Nat) (sz : Nat) (f_knots : Int32) (f_threads : Int32) (f_ends : Nat → Int32) (f_colours : Nat → Int32) (a1 : Int32) (f_threads' : Int32) (f_ends' : Nat → Int32) (f_colours' : Nat → Int32) (hm : m_X2_tie N f_threads f_ends f_colours a1 = some (f_threads', f_ends', f_colours')) : Met l yX2_tie wsX2_tie (rX2_tie) (gPc D (tysG cI cC cN) [.ref q, .int a1] [(q, .inr (2, [.int f_knots, .int f_threads, .ref q_ends, .ref q_colours])), (q_ends, .inl (cI, 21, .inl f_ends)), (q_colours, .inl (cI, 21, .inl f_colours))] sz) (gQv D (tysG cI cC cN) (va_A [(q, .inr (2, [.int f_knots, .int f_threads, .ref q_ends, .ref q_colours])), (q_ends, .inl (cI, 21, .inl f_ends)), (q_colours, .inl (cI, 21, .inl f_colours))] sz) [(q, .inr (2, [.int f_knots, .int f_threads', .ref q_ends, .ref q_colours])), (q_ends, .inl (cI, 21, .inl f_ends')), (q_colours, .inl (cI, 21, .inl f_colours'))]) 0 0 (va_A [(q, .inr (2, [.int f_knots, .int f_threads, .ref q_ends, .ref q_colours])), (q_ends, .inl (cI, 21, .inl f_ends)), (q_colours, .inl (cI, 21, .inl f_colours))] sz) := by
  unfold m_X2_tie at hm
  refine g_openV (cc := cX2_tie) (maxL := 2) (own := RX2) (by decide) rfl rfl (Nat.le_of_ble_eq_true rfl) ?_
  intro p e s m args below meth c A Q hx hb hml hown hts hP hK hN hD hA hret ls hl
  have hS : va_S A s.heap s.heap [] := va_S.rf
  have hl : lv_has ls 2 [(0, .ref q), (1, .int a1)] := hl
  refine lv_aload_n hx hb dX2_tie_0 rfl (lv_at hl 0 rfl) ?_
  refine va_get (D := D) (ci := 2) (v := .int f_threads) (C := RX2) (T := TX2) (N := 4) hx hb hts (by decide +kernel) hown hK hP 0 rfl rfl 1 (by decide) (hts (.fieldLink RX2 15 "KnotStripes$Net" "threads" "I") (by decide +kernel)) (fun _ h9 => h9) rfl dX2_tie_1 ?_
  refine lv_bipush (v := 21) hx hb dX2_tie_4 (by decide) ?_
  refine lv_icmp_ge (tgt := 43) hx hb dX2_tie_6 (by decide) (fun hc => ?_) (fun hc => ?_)
  · have hm := if_t _ hc hm
    have z1 := so_use hm
    obtain ⟨y1, z2⟩ := pr_use z1
    obtain ⟨y2, z3⟩ := pr_use z2
    subst y1
    subst y2
    subst z3
    exact hret _ _ _ _ dX2_tie_43 hP hD hS
  · have hm := if_f _ hc hm
    refine lv_aload_n hx hb dX2_tie_9 rfl (lv_at hl 0 rfl) ?_
    refine va_get (D := D) (ci := 2) (v := .ref q_ends) (C := RX2) (T := TX2) (N := 4) hx hb hts (by decide +kernel) hown hK hP 0 rfl rfl 2 (by decide) (hts (.fieldLink RX2 18 "KnotStripes$Net" "ends" "[I") (by decide +kernel)) (fun _ h9 => h9) rfl dX2_tie_10 ?_
    refine lv_aload_n hx hb dX2_tie_13 rfl (lv_at hl 0 rfl) ?_
    refine va_get (D := D) (ci := 2) (v := .int f_threads) (C := RX2) (T := TX2) (N := 4) hx hb hts (by decide +kernel) hown hK hP 0 rfl rfl 1 (by decide) (hts (.fieldLink RX2 15 "KnotStripes$Net" "threads" "I") (by decide +kernel)) (fun _ h9 => h9) rfl dX2_tie_14 ?_
    refine lv_iload_n hx hb dX2_tie_17 rfl (lv_at hl 1 rfl) ?_
    obtain ⟨f_ends_1, h_2, hm⟩ := bind_use hm
    refine g_kv (wc := [(q_ends, .inl (cI, 21, .inl f_ends))]) (wr := [(q, .inr (2, [.int f_knots, .int f_threads, .ref q_ends, .ref q_colours])), (q_colours, .inl (cI, 21, .inl f_colours))]) (w2 := [(q, .inr (2, [.int f_knots, .int f_threads, .ref q_ends, .ref q_colours])), (q_colours, .inl (cI, 21, .inl f_colours)), (q_ends, .inl (cI, 21, .inl f_ends_1))]) (va_runSN (As := [.ref q_ends, .int f_threads, .int a1]) (rest := []) ⟨hx, hb, hml, hown, hts⟩ (k_X6_put l D cI cC cN N q_ends 21 s.heap.size f_ends f_threads a1 f_ends_1 h_2) ⟨va_cnB 3 hts gX2_tie_X6_put_n43 rfl rfl rfl (hN (.methodLinkNest RX2 43 yX6_put RX6) (by decide +kernel)) (hts (.initialized RX6) (by decide +kernel)) (by decide +kernel) ⟨Nat.le_of_ble_eq_true rfl, Nat.le_of_ble_eq_true rfl⟩, hts (.static yX6_put) (by decide +kernel), trivial⟩ ⟨g_blind, g_pre (hP.sub [1] rfl) hK hN (hD.sub [1] (by decide) rfl)⟩ rfl rfl hl.1 rfl (lv_room (Nat.le_of_ble_eq_true rfl)) dX2_tie_18 ⟨Nat.zero_le _, Nat.zero_le _⟩) hP hD hS hA [1] [0, 2] rfl rfl (by decide) (by decide) rfl (fun H locs hP hD hS => ?_)
    refine lv_aload_n hx hb dX2_tie_21 rfl (lv_at hl 0 rfl) ?_
    refine va_get (D := D) (ci := 2) (v := .ref q_colours) (C := RX2) (T := TX2) (N := 4) hx hb hts (by decide +kernel) hown hK hP 0 rfl rfl 3 (by decide) (hts (.fieldLink RX2 22 "KnotStripes$Net" "colours" "[I") (by decide +kernel)) (fun _ h9 => h9) rfl dX2_tie_22 ?_
    refine lv_aload_n hx hb dX2_tie_25 rfl (lv_at hl 0 rfl) ?_
    refine va_get (D := D) (ci := 2) (v := .int f_threads) (C := RX2) (T := TX2) (N := 4) hx hb hts (by decide +kernel) hown hK hP 0 rfl rfl 1 (by decide) (hts (.fieldLink RX2 15 "KnotStripes$Net" "threads" "I") (by decide +kernel)) (fun _ h9 => h9) rfl dX2_tie_26 ?_
    refine lv_iconst (v := 3) hx hb dX2_tie_29 (by decide) ?_
    obtain ⟨f_colours_3, h_4, hm⟩ := bind_use hm
    refine g_kv (wc := [(q_colours, .inl (cI, 21, .inl f_colours))]) (wr := [(q, .inr (2, [.int f_knots, .int f_threads, .ref q_ends, .ref q_colours])), (q_ends, .inl (cI, 21, .inl f_ends_1))]) (w2 := [(q, .inr (2, [.int f_knots, .int f_threads, .ref q_ends, .ref q_colours])), (q_ends, .inl (cI, 21, .inl f_ends_1)), (q_colours, .inl (cI, 21, .inl f_colours_3))]) (va_runSN (As := [.ref q_colours, .int f_threads, .int 3]) (rest := []) ⟨hx, hb, hml, hown, hts⟩ (k_X6_put l D cI cC cN N q_colours 21 H.size f_colours f_threads 3 f_colours_3 h_4) ⟨va_cnB 3 hts gX2_tie_X6_put_n43 rfl rfl rfl (hN (.methodLinkNest RX2 43 yX6_put RX6) (by decide +kernel)) (hts (.initialized RX6) (by decide +kernel)) (by decide +kernel) ⟨Nat.le_of_ble_eq_true rfl, Nat.le_of_ble_eq_true rfl⟩, hts (.static yX6_put) (by decide +kernel), trivial⟩ ⟨g_blind, g_pre (hP.sub [1] rfl) hK hN (hD.sub [1] (by decide) rfl)⟩ rfl rfl hl.1 rfl (lv_room (Nat.le_of_ble_eq_true rfl)) dX2_tie_30 ⟨Nat.zero_le _, Nat.zero_le _⟩) hP hD hS hA [1] [0, 2] rfl rfl (by decide) (by decide) rfl (fun H locs hP hD hS => ?_)
    refine lv_aload_n hx hb dX2_tie_33 rfl (lv_at hl 0 rfl) ?_
    refine lv_dup hx hb dX2_tie_34 rfl ?_
    refine va_get (D := D) (ci := 2) (v := .int f_threads) (C := RX2) (T := TX2) (N := 4) hx hb hts (by decide +kernel) hown hK hP 0 rfl rfl 1 (by decide) (hts (.fieldLink RX2 15 "KnotStripes$Net" "threads" "I") (by decide +kernel)) (fun _ h9 => h9) rfl dX2_tie_35 ?_
    refine lv_iconst (v := 1) hx hb dX2_tie_38 (by decide) ?_
    refine lv_iadd hx hb dX2_tie_39 ?_
    refine W.eq (g2 := F0 m 40 ls (.int (f_threads + 1) :: [.ref q])) rfl ?_
    refine lv_topi (fun w_5 ew_5 => ?_)
    have hm := nm_use ew_5 hm
    refine va_put (D := D) (ci := 2) (v := .int w_5) (ty := .int) (C := RX2) (T := TX2) (N := 4) hx hb hts (by decide +kernel) tyX2 tyX2_ok nmX2 hown hK hP hD hS 0 rfl rfl 1 (by decide) (hts (.fieldLink RX2 15 "KnotStripes$Net" "threads" "I") (by decide +kernel)) (fun _ h9 => h9) rfl (by decide +kernel) rfl rfl (Nat.le_of_ble_eq_true rfl) dX2_tie_40 (fun H locs hP hD hS => ?_)
    have hP : va_P D vwCl [(q, .inr (2, [.int f_knots, .int w_5, .ref q_ends, .ref q_colours])), (q_ends, .inl (cI, 21, .inl f_ends_1)), (q_colours, .inl (cI, 21, .inl f_colours_3))] H := hP
    have hD : va_D A [(q, .inr (2, [.int f_knots, .int w_5, .ref q_ends, .ref q_colours])), (q_ends, .inl (cI, 21, .inl f_ends_1)), (q_colours, .inl (cI, 21, .inl f_colours_3))] := hD
    have z1 := so_use hm
    obtain ⟨y1, z2⟩ := pr_use z1
    obtain ⟨y2, z3⟩ := pr_use z2
    subst y1
    subst y2
    subst z3
    exact hret _ _ _ _ dX2_tie_43 hP hD hS
abbrev rX2_dropThread : Room := { frames := 1, cells := 0, slots := 0, locals := 22 }
set_option maxHeartbeats 4000000 in
set_option maxRecDepth 100000 in
theorem k_X2_dropThread (l : Launch) (D : va_G) (cI cC cN : ClassId) (N : Nat) (q : Nat) (q_ends : Nat) (q_colours : Nat) (sz : Nat) (f_knots : Int32) (f_threads : Int32) (f_ends : Nat → Int32) (f_colours : Nat → Int32) (a1 : Int32) (f_threads' : Int32) (f_ends' : Nat → Int32) (f_colours' : Nat → Int32) (hm : m_X2_dropThread N f_threads f_ends f_colours a1 = some (f_threads', f_ends', f_colours')) : Met l yX2_dropThread wsX2_dropThread (rX2_dropThread) (gPc D (tysG cI cC cN) [.ref q, .int a1] [(q, .inr (2, [.int f_knots, .int f_threads, .ref q_ends, .ref q_colours])), (q_ends, .inl (cI, 21, .inl f_ends)), (q_colours, .inl (cI, 21, .inl f_colours))] sz) (gQv D (tysG cI cC cN) (va_A [(q, .inr (2, [.int f_knots, .int f_threads, .ref q_ends, .ref q_colours])), (q_ends, .inl (cI, 21, .inl f_ends)), (q_colours, .inl (cI, 21, .inl f_colours))] sz) [(q, .inr (2, [.int f_knots, .int f_threads', .ref q_ends, .ref q_colours])), (q_ends, .inl (cI, 21, .inl f_ends')), (q_colours, .inl (cI, 21, .inl f_colours'))]) 0 0 (va_A [(q, .inr (2, [.int f_knots, .int f_threads, .ref q_ends, .ref q_colours])), (q_ends, .inl (cI, 21, .inl f_ends)), (q_colours, .inl (cI, 21, .inl f_colours))] sz) := by
  unfold m_X2_dropThread at hm
  refine g_openV (cc := cX2_dropThread) (maxL := 3) (own := RX2) (by decide) rfl rfl (Nat.le_of_ble_eq_true rfl) ?_
  intro p e s m args below meth c A Q hx hb hml hown hts hP hK hN hD hA hret ls hl
  have hS : va_S A s.heap s.heap [] := va_S.rf
  have hl : lv_has ls 3 [(0, .ref q), (1, .int a1)] := hl
  refine lv_aload_n hx hb dX2_dropThread_0 rfl (lv_at hl 0 rfl) ?_
  refine lv_iload_n hx hb dX2_dropThread_1 rfl (lv_at hl 1 rfl) ?_
  obtain ⟨r_1, h_2, hm⟩ := bind_use hm
  refine g_ki (wc := [(q, .inr (2, [.int f_knots, .int f_threads, .ref q_ends, .ref q_colours])), (q_ends, .inl (cI, 21, .inl f_ends)), (q_colours, .inl (cI, 21, .inl f_colours))]) (wr := []) (w2 := [(q, .inr (2, [.int f_knots, .int f_threads, .ref q_ends, .ref q_colours])), (q_ends, .inl (cI, 21, .inl f_ends)), (q_colours, .inl (cI, 21, .inl f_colours))]) (va_runV (As := [.int a1]) (rest := []) ⟨hx, hb, hml, hown, hts⟩ (k_X2_hasThread l D cI cC cN N q q_ends q_colours s.heap.size f_knots f_threads f_ends f_colours a1 r_1 h_2) (cwV 1 hts gX2_dropThread_X2_hasThread rfl rfl rfl (by decide +kernel) ⟨Nat.le_of_ble_eq_true rfl, Nat.le_of_ble_eq_true rfl⟩) ⟨g_blind, va_recv (D := D) (ci := 2) (q0 := 0) hK hP rfl rfl, g_pre (hP.sub [0, 1, 2] rfl) hK hN (hD.sub [0, 1, 2] (by decide) rfl)⟩ rfl rfl hl.1 rfl (lv_room (Nat.le_of_ble_eq_true rfl)) dX2_dropThread_2 ⟨Nat.zero_le _, Nat.zero_le _⟩) hP hD hS hA [0, 1, 2] [] rfl rfl (by decide) (by decide) rfl (fun H locs hP hD hS => ?_)
  refine lv_if_ne (tgt := 9) hx hb dX2_dropThread_5 (by decide) (fun hc => ?_) (fun hc => ?_)
  · have hm := if_f _ hc hm
    refine lv_iload_n hx hb dX2_dropThread_9 rfl (lv_at hl 1 rfl) ?_
    refine lv_istore_n (lv' := [(2, .int a1), (0, .ref q), (1, .int a1)]) hx hb dX2_dropThread_10 rfl hl (by decide) rfl (fun ls hl => ?_)
    obtain ⟨J63, hJ63, hm⟩ := jn_use hm
    have j63 : ∀ (f_ends_3 : Nat → Int32) (f_colours_4 : Nat → Int32), ∀ (H : Heap) (locs : List Loc) (ls : Array Slot), va_P D vwCl [(q, .inr (2, [.int f_knots, .int f_threads, .ref q_ends, .ref q_colours])), (q_ends, .inl (cI, 21, .inl f_ends_3)), (q_colours, .inl (cI, 21, .inl f_colours_4))] H → va_D A [(q, .inr (2, [.int f_knots, .int f_threads, .ref q_ends, .ref q_colours])), (q_ends, .inl (cI, 21, .inl f_ends_3)), (q_colours, .inl (cI, 21, .inl f_colours_4))] → va_S A s.heap H locs → lv_has ls 3 [(0, .ref q)] → J63 f_ends_3 f_colours_4 = some (f_threads', f_ends', f_colours') → W p l e rX2_dropThread s m args below meth c H locs 0 0 Q (F0 m 63 ls []) := by
      intro f_ends_3 f_colours_4 H locs ls hP hD hS hl hm
      rw [hJ63] at hm
      refine lv_aload_n hx hb dX2_dropThread_63 rfl (lv_at hl 0 rfl) ?_
      refine lv_dup hx hb dX2_dropThread_64 rfl ?_
      refine va_get (D := D) (ci := 2) (v := .int f_threads) (C := RX2) (T := TX2) (N := 4) hx hb hts (by decide +kernel) hown hK hP 0 rfl rfl 1 (by decide) (hts (.fieldLink RX2 15 "KnotStripes$Net" "threads" "I") (by decide +kernel)) (fun _ h9 => h9) rfl dX2_dropThread_65 ?_
      refine lv_iconst (v := 1) hx hb dX2_dropThread_68 (by decide) ?_
      refine lv_isub hx hb dX2_dropThread_69 ?_
      refine W.eq (g2 := F0 m 70 ls (.int (f_threads - 1) :: [.ref q])) rfl ?_
      refine lv_topi (fun w_5 ew_5 => ?_)
      have hm := nm_use ew_5 hm
      refine va_put (D := D) (ci := 2) (v := .int w_5) (ty := .int) (C := RX2) (T := TX2) (N := 4) hx hb hts (by decide +kernel) tyX2 tyX2_ok nmX2 hown hK hP hD hS 0 rfl rfl 1 (by decide) (hts (.fieldLink RX2 15 "KnotStripes$Net" "threads" "I") (by decide +kernel)) (fun _ h9 => h9) rfl (by decide +kernel) rfl rfl (Nat.le_of_ble_eq_true rfl) dX2_dropThread_70 (fun H locs hP hD hS => ?_)
      have hP : va_P D vwCl [(q, .inr (2, [.int f_knots, .int w_5, .ref q_ends, .ref q_colours])), (q_ends, .inl (cI, 21, .inl f_ends_3)), (q_colours, .inl (cI, 21, .inl f_colours_4))] H := hP
      have hD : va_D A [(q, .inr (2, [.int f_knots, .int w_5, .ref q_ends, .ref q_colours])), (q_ends, .inl (cI, 21, .inl f_ends_3)), (q_colours, .inl (cI, 21, .inl f_colours_4))] := hD
      have z1 := so_use hm
      obtain ⟨y1, z2⟩ := pr_use z1
      obtain ⟨y2, z3⟩ := pr_use z2
      subst y1
      subst y2
      subst z3
      exact hret _ _ _ _ dX2_dropThread_73 hP hD hS
    have l11 : ∀ (n_11 : Nat) (x2_6 : Int32) (f_ends_7 : Nat → Int32) (f_colours_8 : Nat → Int32), ∀ (H : Heap) (locs : List Loc) (ls : Array Slot), va_P D vwCl [(q, .inr (2, [.int f_knots, .int f_threads, .ref q_ends, .ref q_colours])), (q_ends, .inl (cI, 21, .inl f_ends_7)), (q_colours, .inl (cI, 21, .inl f_colours_8))] H → va_D A [(q, .inr (2, [.int f_knots, .int f_threads, .ref q_ends, .ref q_colours])), (q_ends, .inl (cI, 21, .inl f_ends_7)), (q_colours, .inl (cI, 21, .inl f_colours_8))] → va_S A s.heap H locs → lv_has ls 3 [(2, .int x2_6), (0, .ref q)] → m_X2_dropThread_L11 N f_threads J63 n_11 x2_6 f_ends_7 f_colours_8 = some (f_threads', f_ends', f_colours') → W p l e rX2_dropThread s m args below meth c H locs 0 0 Q (F0 m 11 ls []) := by
      intro n_11
      induction n_11 with
      | zero => intro x2_6 f_ends_7 f_colours_8 H locs ls hP hD hS hl hm; rw [m_X2_dropThread_L11] at hm; exact no_use hm
      | succ n_11 ih11 =>
        intro x2_6 f_ends_7 f_colours_8 H locs ls hP hD hS hl hm
        rw [m_X2_dropThread_L11] at hm
        refine lv_iload_n hx hb dX2_dropThread_11 rfl (lv_at hl 0 rfl) ?_
        refine lv_iconst (v := 1) hx hb dX2_dropThread_12 (by decide) ?_
        refine lv_iadd hx hb dX2_dropThread_13 ?_
        refine lv_aload_n hx hb dX2_dropThread_14 rfl (lv_at hl 1 rfl) ?_
        refine va_get (D := D) (ci := 2) (v := .int f_threads) (C := RX2) (T := TX2) (N := 4) hx hb hts (by decide +kernel) hown hK hP 0 rfl rfl 1 (by decide) (hts (.fieldLink RX2 15 "KnotStripes$Net" "threads" "I") (by decide +kernel)) (fun _ h9 => h9) rfl dX2_dropThread_15 ?_
        refine lv_icmp_ge (tgt := 63) hx hb dX2_dropThread_18 (by decide) (fun hc => ?_) (fun hc => ?_)
        · have hm := if_t _ hc hm
          exact j63 f_ends_7 f_colours_8 _ _ _ hP hD hS (lv_sub hl [1] rfl) hm
        · have hm := if_f _ hc hm
          refine lv_aload_n hx hb dX2_dropThread_21 rfl (lv_at hl 1 rfl) ?_
          refine va_get (D := D) (ci := 2) (v := .ref q_ends) (C := RX2) (T := TX2) (N := 4) hx hb hts (by decide +kernel) hown hK hP 0 rfl rfl 2 (by decide) (hts (.fieldLink RX2 18 "KnotStripes$Net" "ends" "[I") (by decide +kernel)) (fun _ h9 => h9) rfl dX2_dropThread_22 ?_
          refine lv_iload_n hx hb dX2_dropThread_25 rfl (lv_at hl 0 rfl) ?_
          refine lv_aload_n hx hb dX2_dropThread_26 rfl (lv_at hl 1 rfl) ?_
          refine va_get (D := D) (ci := 2) (v := .ref q_ends) (C := RX2) (T := TX2) (N := 4) hx hb hts (by decide +kernel) hown hK hP 0 rfl rfl 2 (by decide) (hts (.fieldLink RX2 18 "KnotStripes$Net" "ends" "[I") (by decide +kernel)) (fun _ h9 => h9) rfl dX2_dropThread_27 ?_
          refine lv_iload_n hx hb dX2_dropThread_30 rfl (lv_at hl 0 rfl) ?_
          refine lv_iconst (v := 1) hx hb dX2_dropThread_31 (by decide) ?_
          refine lv_iadd hx hb dX2_dropThread_32 ?_
          obtain ⟨r_9, h_10, hm⟩ := bind_use hm
          refine g_ki (wc := [(q_ends, .inl (cI, 21, .inl f_ends_7))]) (wr := [(q, .inr (2, [.int f_knots, .int f_threads, .ref q_ends, .ref q_colours])), (q_colours, .inl (cI, 21, .inl f_colours_8))]) (w2 := [(q, .inr (2, [.int f_knots, .int f_threads, .ref q_ends, .ref q_colours])), (q_colours, .inl (cI, 21, .inl f_colours_8)), (q_ends, .inl (cI, 21, .inl f_ends_7))]) (va_runSN (As := [.ref q_ends, .int (x2_6 + 1)]) (rest := [.int x2_6, .ref q_ends]) ⟨hx, hb, hml, hown, hts⟩ (k_X6_at l D cI cC cN N q_ends 21 H.size f_ends_7 (x2_6 + 1) r_9 h_10) ⟨va_cnB 2 hts gX2_dropThread_X6_at_n29 rfl rfl rfl (hN (.methodLinkNest RX2 29 yX6_at RX6) (by decide +kernel)) (hts (.initialized RX6) (by decide +kernel)) (by decide +kernel) ⟨Nat.le_of_ble_eq_true rfl, Nat.le_of_ble_eq_true rfl⟩, hts (.static yX6_at) (by decide +kernel), trivial⟩ ⟨g_blind, g_pre (hP.sub [1] rfl) hK hN (hD.sub [1] (by decide) rfl)⟩ rfl rfl hl.1 rfl (lv_room (Nat.le_of_ble_eq_true rfl)) dX2_dropThread_33 ⟨Nat.zero_le _, Nat.zero_le _⟩) hP hD hS hA [1] [0, 2] rfl rfl (by decide) (by decide) rfl (fun H locs hP hD hS => ?_)
          obtain ⟨f_ends_11, h_12, hm⟩ := bind_use hm
          refine g_kv (wc := [(q_ends, .inl (cI, 21, .inl f_ends_7))]) (wr := [(q, .inr (2, [.int f_knots, .int f_threads, .ref q_ends, .ref q_colours])), (q_colours, .inl (cI, 21, .inl f_colours_8))]) (w2 := [(q, .inr (2, [.int f_knots, .int f_threads, .ref q_ends, .ref q_colours])), (q_colours, .inl (cI, 21, .inl f_colours_8)), (q_ends, .inl (cI, 21, .inl f_ends_11))]) (va_runSN (As := [.ref q_ends, .int x2_6, .int r_9]) (rest := []) ⟨hx, hb, hml, hown, hts⟩ (k_X6_put l D cI cC cN N q_ends 21 H.size f_ends_7 x2_6 r_9 f_ends_11 h_12) ⟨va_cnB 3 hts gX2_dropThread_X6_put_n43 rfl rfl rfl (hN (.methodLinkNest RX2 43 yX6_put RX6) (by decide +kernel)) (hts (.initialized RX6) (by decide +kernel)) (by decide +kernel) ⟨Nat.le_of_ble_eq_true rfl, Nat.le_of_ble_eq_true rfl⟩, hts (.static yX6_put) (by decide +kernel), trivial⟩ ⟨g_blind, g_pre (hP.sub [2] rfl) hK hN (hD.sub [2] (by decide) rfl)⟩ rfl rfl hl.1 rfl (lv_room (Nat.le_of_ble_eq_true rfl)) dX2_dropThread_36 ⟨Nat.zero_le _, Nat.zero_le _⟩) hP hD hS hA [2] [0, 1] rfl rfl (by decide) (by decide) rfl (fun H locs hP hD hS => ?_)
          refine lv_aload_n hx hb dX2_dropThread_39 rfl (lv_at hl 1 rfl) ?_
          refine va_get (D := D) (ci := 2) (v := .ref q_colours) (C := RX2) (T := TX2) (N := 4) hx hb hts (by decide +kernel) hown hK hP 0 rfl rfl 3 (by decide) (hts (.fieldLink RX2 22 "KnotStripes$Net" "colours" "[I") (by decide +kernel)) (fun _ h9 => h9) rfl dX2_dropThread_40 ?_
          refine lv_iload_n hx hb dX2_dropThread_43 rfl (lv_at hl 0 rfl) ?_
          refine lv_aload_n hx hb dX2_dropThread_44 rfl (lv_at hl 1 rfl) ?_
          refine va_get (D := D) (ci := 2) (v := .ref q_colours) (C := RX2) (T := TX2) (N := 4) hx hb hts (by decide +kernel) hown hK hP 0 rfl rfl 3 (by decide) (hts (.fieldLink RX2 22 "KnotStripes$Net" "colours" "[I") (by decide +kernel)) (fun _ h9 => h9) rfl dX2_dropThread_45 ?_
          refine lv_iload_n hx hb dX2_dropThread_48 rfl (lv_at hl 0 rfl) ?_
          refine lv_iconst (v := 1) hx hb dX2_dropThread_49 (by decide) ?_
          refine lv_iadd hx hb dX2_dropThread_50 ?_
          obtain ⟨r_13, h_14, hm⟩ := bind_use hm
          refine g_ki (wc := [(q_colours, .inl (cI, 21, .inl f_colours_8))]) (wr := [(q, .inr (2, [.int f_knots, .int f_threads, .ref q_ends, .ref q_colours])), (q_ends, .inl (cI, 21, .inl f_ends_11))]) (w2 := [(q, .inr (2, [.int f_knots, .int f_threads, .ref q_ends, .ref q_colours])), (q_ends, .inl (cI, 21, .inl f_ends_11)), (q_colours, .inl (cI, 21, .inl f_colours_8))]) (va_runSN (As := [.ref q_colours, .int (x2_6 + 1)]) (rest := [.int x2_6, .ref q_colours]) ⟨hx, hb, hml, hown, hts⟩ (k_X6_at l D cI cC cN N q_colours 21 H.size f_colours_8 (x2_6 + 1) r_13 h_14) ⟨va_cnB 2 hts gX2_dropThread_X6_at_n29 rfl rfl rfl (hN (.methodLinkNest RX2 29 yX6_at RX6) (by decide +kernel)) (hts (.initialized RX6) (by decide +kernel)) (by decide +kernel) ⟨Nat.le_of_ble_eq_true rfl, Nat.le_of_ble_eq_true rfl⟩, hts (.static yX6_at) (by decide +kernel), trivial⟩ ⟨g_blind, g_pre (hP.sub [1] rfl) hK hN (hD.sub [1] (by decide) rfl)⟩ rfl rfl hl.1 rfl (lv_room (Nat.le_of_ble_eq_true rfl)) dX2_dropThread_51 ⟨Nat.zero_le _, Nat.zero_le _⟩) hP hD hS hA [1] [0, 2] rfl rfl (by decide) (by decide) rfl (fun H locs hP hD hS => ?_)
          obtain ⟨f_colours_15, h_16, hm⟩ := bind_use hm
          refine g_kv (wc := [(q_colours, .inl (cI, 21, .inl f_colours_8))]) (wr := [(q, .inr (2, [.int f_knots, .int f_threads, .ref q_ends, .ref q_colours])), (q_ends, .inl (cI, 21, .inl f_ends_11))]) (w2 := [(q, .inr (2, [.int f_knots, .int f_threads, .ref q_ends, .ref q_colours])), (q_ends, .inl (cI, 21, .inl f_ends_11)), (q_colours, .inl (cI, 21, .inl f_colours_15))]) (va_runSN (As := [.ref q_colours, .int x2_6, .int r_13]) (rest := []) ⟨hx, hb, hml, hown, hts⟩ (k_X6_put l D cI cC cN N q_colours 21 H.size f_colours_8 x2_6 r_13 f_colours_15 h_16) ⟨va_cnB 3 hts gX2_dropThread_X6_put_n43 rfl rfl rfl (hN (.methodLinkNest RX2 43 yX6_put RX6) (by decide +kernel)) (hts (.initialized RX6) (by decide +kernel)) (by decide +kernel) ⟨Nat.le_of_ble_eq_true rfl, Nat.le_of_ble_eq_true rfl⟩, hts (.static yX6_put) (by decide +kernel), trivial⟩ ⟨g_blind, g_pre (hP.sub [2] rfl) hK hN (hD.sub [2] (by decide) rfl)⟩ rfl rfl hl.1 rfl (lv_room (Nat.le_of_ble_eq_true rfl)) dX2_dropThread_54 ⟨Nat.zero_le _, Nat.zero_le _⟩) hP hD hS hA [2] [0, 1] rfl rfl (by decide) (by decide) rfl (fun H locs hP hD hS => ?_)
          refine lv_iinc (v := (x2_6 + 1)) (lv' := [(2, .int (x2_6 + 1)), (0, .ref q)]) hx hb dX2_dropThread_57 hl (k := 0) rfl rfl (by decide) rfl (fun ls hl => ?_)
          refine lv_goto (tgt := 11) hx hb dX2_dropThread_60 (by decide) ?_
          exact ih11 (x2_6 + 1) f_ends_11 f_colours_15 _ _ _ hP hD hS hl hm
    exact l11 N a1 f_ends f_colours _ _ _ hP hD hS (lv_sub hl [0, 1] rfl) hm
  · have hm := if_t _ hc hm
    have z1 := so_use hm
    obtain ⟨y1, z2⟩ := pr_use z1
    obtain ⟨y2, z3⟩ := pr_use z2
    subst y1
    subst y2
    subst z3
    exact hret _ _ _ _ dX2_dropThread_8 hP hD hS
