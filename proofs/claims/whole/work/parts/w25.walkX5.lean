abbrev rX6_readNet : Room := { frames := 6, cells := 0, slots := 0, locals := 132 }
set_option maxHeartbeats 4000000 in
set_option maxRecDepth 100000 in
theorem k_X6_readNet (l : Launch) (D : va_G) (cI cC cN : ClassId) (N : Nat) (q : Nat) (q_net : Nat) (q_draft : Nat) (q_snapshot : Nat) (q_history : Nat) (q_text : Nat) (q_painter : Nat) (q_covers : Nat) (q_net_ends : Nat) (q_net_colours : Nat) (q_draft_ends : Nat) (q_draft_colours : Nat) (q_history_states : Nat) (q_history_h0 : Nat) (q_history_h1 : Nat) (q_history_h2 : Nat) (q_history_h3 : Nat) (q_history_h0_ends : Nat) (q_history_h0_colours : Nat) (q_history_h1_ends : Nat) (q_history_h1_colours : Nat) (q_history_h2_ends : Nat) (q_history_h2_colours : Nat) (q_history_h3_ends : Nat) (q_history_h3_colours : Nat) (q_text_signs : Nat) (q_text_pairs : Nat) (sz : Nat) (f_hasSnapshot : Int32) (f_net_knots : Int32) (f_net_threads : Int32) (f_net_ends : Nat → Int32) (f_net_colours : Nat → Int32) (f_draft_knots : Int32) (f_draft_threads : Int32) (f_draft_ends : Nat → Int32) (f_draft_colours : Nat → Int32) (f_history_size : Int32) (f_history_h0_knots : Int32) (f_history_h0_threads : Int32) (f_history_h0_ends : Nat → Int32) (f_history_h0_colours : Nat → Int32) (f_history_h1_knots : Int32) (f_history_h1_threads : Int32) (f_history_h1_ends : Nat → Int32) (f_history_h1_colours : Nat → Int32) (f_history_h2_knots : Int32) (f_history_h2_threads : Int32) (f_history_h2_ends : Nat → Int32) (f_history_h2_colours : Nat → Int32) (f_history_h3_knots : Int32) (f_history_h3_threads : Int32) (f_history_h3_ends : Nat → Int32) (f_history_h3_colours : Nat → Int32) (f_text_signs : Nat → Int32) (f_text_length : Int32) (f_text_pairs : Nat → Int32) (f_text_size : Int32) (r : Int32) (f_net_knots' : Int32) (f_net_threads' : Int32) (f_net_ends' : Nat → Int32) (f_net_colours' : Nat → Int32) (f_draft_knots' : Int32) (f_draft_threads' : Int32) (f_draft_ends' : Nat → Int32) (f_draft_colours' : Nat → Int32) (f_history_size' : Int32) (f_history_h0_knots' : Int32) (f_history_h0_threads' : Int32) (f_history_h0_ends' : Nat → Int32) (f_history_h0_colours' : Nat → Int32) (f_history_h1_knots' : Int32) (f_history_h1_threads' : Int32) (f_history_h1_ends' : Nat → Int32) (f_history_h1_colours' : Nat → Int32) (f_history_h2_knots' : Int32) (f_history_h2_threads' : Int32) (f_history_h2_ends' : Nat → Int32) (f_history_h2_colours' : Nat → Int32) (f_history_h3_knots' : Int32) (f_history_h3_threads' : Int32) (f_history_h3_ends' : Nat → Int32) (f_history_h3_colours' : Nat → Int32) (f_text_pairs' : Nat → Int32) (f_text_size' : Int32) (hm : m_X6_readNet N f_net_knots f_net_threads f_net_ends f_net_colours f_draft_knots f_draft_threads f_draft_ends f_draft_colours f_history_size f_history_h0_knots f_history_h0_threads f_history_h0_ends f_history_h0_colours f_history_h1_knots f_history_h1_threads f_history_h1_ends f_history_h1_colours f_history_h2_knots f_history_h2_threads f_history_h2_ends f_history_h2_colours f_history_h3_knots f_history_h3_threads f_history_h3_ends f_history_h3_colours f_text_signs f_text_length f_text_pairs f_text_size = some (r, f_net_knots', f_net_threads', f_net_ends', f_net_colours', f_draft_knots', f_draft_threads', f_draft_ends', f_draft_colours', f_history_size', f_history_h0_knots', f_history_h0_threads', f_history_h0_ends', f_history_h0_colours', f_history_h1_knots', f_history_h1_threads', f_history_h1_ends', f_history_h1_colours', f_history_h2_knots', f_history_h2_threads', f_history_h2_ends', f_history_h2_colours', f_history_h3_knots', f_history_h3_threads', f_history_h3_ends', f_history_h3_colours', f_text_pairs', f_text_size')) : Met l yX6_readNet wsX6_readNet (rX6_readNet) (gPc D (tysG cI cC cN) [.ref q] [(q, .inr (5, [.ref q_net, .ref q_draft, .ref q_snapshot, .int f_hasSnapshot, .ref q_history, .ref q_text, .ref q_painter, .ref q_covers])), (q_net, .inr (2, [.int f_net_knots, .int f_net_threads, .ref q_net_ends, .ref q_net_colours])), (q_net_ends, .inl (cI, 21, .inl f_net_ends)), (q_net_colours, .inl (cI, 21, .inl f_net_colours)), (q_draft, .inr (2, [.int f_draft_knots, .int f_draft_threads, .ref q_draft_ends, .ref q_draft_colours])), (q_draft_ends, .inl (cI, 21, .inl f_draft_ends)), (q_draft_colours, .inl (cI, 21, .inl f_draft_colours)), (q_history, .inr (1, [.ref q_history_states, .int f_history_size])), (q_history_states, .inl (cN, 4, .inr (.inr (.inr (.inr (hisG q_history_h0 q_history_h1 q_history_h2 q_history_h3)))))), (q_history_h0, .inr (2, [.int f_history_h0_knots, .int f_history_h0_threads, .ref q_history_h0_ends, .ref q_history_h0_colours])), (q_history_h0_ends, .inl (cI, 21, .inl f_history_h0_ends)), (q_history_h0_colours, .inl (cI, 21, .inl f_history_h0_colours)), (q_history_h1, .inr (2, [.int f_history_h1_knots, .int f_history_h1_threads, .ref q_history_h1_ends, .ref q_history_h1_colours])), (q_history_h1_ends, .inl (cI, 21, .inl f_history_h1_ends)), (q_history_h1_colours, .inl (cI, 21, .inl f_history_h1_colours)), (q_history_h2, .inr (2, [.int f_history_h2_knots, .int f_history_h2_threads, .ref q_history_h2_ends, .ref q_history_h2_colours])), (q_history_h2_ends, .inl (cI, 21, .inl f_history_h2_ends)), (q_history_h2_colours, .inl (cI, 21, .inl f_history_h2_colours)), (q_history_h3, .inr (2, [.int f_history_h3_knots, .int f_history_h3_threads, .ref q_history_h3_ends, .ref q_history_h3_colours])), (q_history_h3_ends, .inl (cI, 21, .inl f_history_h3_ends)), (q_history_h3_colours, .inl (cI, 21, .inl f_history_h3_colours)), (q_text, .inr (4, [.ref q_text_signs, .int f_text_length, .ref q_text_pairs, .int f_text_size])), (q_text_signs, .inl (cC, 60, .inl f_text_signs)), (q_text_pairs, .inl (cI, 21, .inl f_text_pairs))] sz) (gQi D (tysG cI cC cN) (va_A [(q, .inr (5, [.ref q_net, .ref q_draft, .ref q_snapshot, .int f_hasSnapshot, .ref q_history, .ref q_text, .ref q_painter, .ref q_covers])), (q_net, .inr (2, [.int f_net_knots, .int f_net_threads, .ref q_net_ends, .ref q_net_colours])), (q_net_ends, .inl (cI, 21, .inl f_net_ends)), (q_net_colours, .inl (cI, 21, .inl f_net_colours)), (q_draft, .inr (2, [.int f_draft_knots, .int f_draft_threads, .ref q_draft_ends, .ref q_draft_colours])), (q_draft_ends, .inl (cI, 21, .inl f_draft_ends)), (q_draft_colours, .inl (cI, 21, .inl f_draft_colours)), (q_history, .inr (1, [.ref q_history_states, .int f_history_size])), (q_history_states, .inl (cN, 4, .inr (.inr (.inr (.inr (hisG q_history_h0 q_history_h1 q_history_h2 q_history_h3)))))), (q_history_h0, .inr (2, [.int f_history_h0_knots, .int f_history_h0_threads, .ref q_history_h0_ends, .ref q_history_h0_colours])), (q_history_h0_ends, .inl (cI, 21, .inl f_history_h0_ends)), (q_history_h0_colours, .inl (cI, 21, .inl f_history_h0_colours)), (q_history_h1, .inr (2, [.int f_history_h1_knots, .int f_history_h1_threads, .ref q_history_h1_ends, .ref q_history_h1_colours])), (q_history_h1_ends, .inl (cI, 21, .inl f_history_h1_ends)), (q_history_h1_colours, .inl (cI, 21, .inl f_history_h1_colours)), (q_history_h2, .inr (2, [.int f_history_h2_knots, .int f_history_h2_threads, .ref q_history_h2_ends, .ref q_history_h2_colours])), (q_history_h2_ends, .inl (cI, 21, .inl f_history_h2_ends)), (q_history_h2_colours, .inl (cI, 21, .inl f_history_h2_colours)), (q_history_h3, .inr (2, [.int f_history_h3_knots, .int f_history_h3_threads, .ref q_history_h3_ends, .ref q_history_h3_colours])), (q_history_h3_ends, .inl (cI, 21, .inl f_history_h3_ends)), (q_history_h3_colours, .inl (cI, 21, .inl f_history_h3_colours)), (q_text, .inr (4, [.ref q_text_signs, .int f_text_length, .ref q_text_pairs, .int f_text_size])), (q_text_signs, .inl (cC, 60, .inl f_text_signs)), (q_text_pairs, .inl (cI, 21, .inl f_text_pairs))] sz) [(q, .inr (5, [.ref q_net, .ref q_draft, .ref q_snapshot, .int f_hasSnapshot, .ref q_history, .ref q_text, .ref q_painter, .ref q_covers])), (q_net, .inr (2, [.int f_net_knots', .int f_net_threads', .ref q_net_ends, .ref q_net_colours])), (q_net_ends, .inl (cI, 21, .inl f_net_ends')), (q_net_colours, .inl (cI, 21, .inl f_net_colours')), (q_draft, .inr (2, [.int f_draft_knots', .int f_draft_threads', .ref q_draft_ends, .ref q_draft_colours])), (q_draft_ends, .inl (cI, 21, .inl f_draft_ends')), (q_draft_colours, .inl (cI, 21, .inl f_draft_colours')), (q_history, .inr (1, [.ref q_history_states, .int f_history_size'])), (q_history_states, .inl (cN, 4, .inr (.inr (.inr (.inr (hisG q_history_h0 q_history_h1 q_history_h2 q_history_h3)))))), (q_history_h0, .inr (2, [.int f_history_h0_knots', .int f_history_h0_threads', .ref q_history_h0_ends, .ref q_history_h0_colours])), (q_history_h0_ends, .inl (cI, 21, .inl f_history_h0_ends')), (q_history_h0_colours, .inl (cI, 21, .inl f_history_h0_colours')), (q_history_h1, .inr (2, [.int f_history_h1_knots', .int f_history_h1_threads', .ref q_history_h1_ends, .ref q_history_h1_colours])), (q_history_h1_ends, .inl (cI, 21, .inl f_history_h1_ends')), (q_history_h1_colours, .inl (cI, 21, .inl f_history_h1_colours')), (q_history_h2, .inr (2, [.int f_history_h2_knots', .int f_history_h2_threads', .ref q_history_h2_ends, .ref q_history_h2_colours])), (q_history_h2_ends, .inl (cI, 21, .inl f_history_h2_ends')), (q_history_h2_colours, .inl (cI, 21, .inl f_history_h2_colours')), (q_history_h3, .inr (2, [.int f_history_h3_knots', .int f_history_h3_threads', .ref q_history_h3_ends, .ref q_history_h3_colours])), (q_history_h3_ends, .inl (cI, 21, .inl f_history_h3_ends')), (q_history_h3_colours, .inl (cI, 21, .inl f_history_h3_colours')), (q_text, .inr (4, [.ref q_text_signs, .int f_text_length, .ref q_text_pairs, .int f_text_size'])), (q_text_signs, .inl (cC, 60, .inl f_text_signs)), (q_text_pairs, .inl (cI, 21, .inl f_text_pairs'))] r) 0 0 (va_A [(q, .inr (5, [.ref q_net, .ref q_draft, .ref q_snapshot, .int f_hasSnapshot, .ref q_history, .ref q_text, .ref q_painter, .ref q_covers])), (q_net, .inr (2, [.int f_net_knots, .int f_net_threads, .ref q_net_ends, .ref q_net_colours])), (q_net_ends, .inl (cI, 21, .inl f_net_ends)), (q_net_colours, .inl (cI, 21, .inl f_net_colours)), (q_draft, .inr (2, [.int f_draft_knots, .int f_draft_threads, .ref q_draft_ends, .ref q_draft_colours])), (q_draft_ends, .inl (cI, 21, .inl f_draft_ends)), (q_draft_colours, .inl (cI, 21, .inl f_draft_colours)), (q_history, .inr (1, [.ref q_history_states, .int f_history_size])), (q_history_states, .inl (cN, 4, .inr (.inr (.inr (.inr (hisG q_history_h0 q_history_h1 q_history_h2 q_history_h3)))))), (q_history_h0, .inr (2, [.int f_history_h0_knots, .int f_history_h0_threads, .ref q_history_h0_ends, .ref q_history_h0_colours])), (q_history_h0_ends, .inl (cI, 21, .inl f_history_h0_ends)), (q_history_h0_colours, .inl (cI, 21, .inl f_history_h0_colours)), (q_history_h1, .inr (2, [.int f_history_h1_knots, .int f_history_h1_threads, .ref q_history_h1_ends, .ref q_history_h1_colours])), (q_history_h1_ends, .inl (cI, 21, .inl f_history_h1_ends)), (q_history_h1_colours, .inl (cI, 21, .inl f_history_h1_colours)), (q_history_h2, .inr (2, [.int f_history_h2_knots, .int f_history_h2_threads, .ref q_history_h2_ends, .ref q_history_h2_colours])), (q_history_h2_ends, .inl (cI, 21, .inl f_history_h2_ends)), (q_history_h2_colours, .inl (cI, 21, .inl f_history_h2_colours)), (q_history_h3, .inr (2, [.int f_history_h3_knots, .int f_history_h3_threads, .ref q_history_h3_ends, .ref q_history_h3_colours])), (q_history_h3_ends, .inl (cI, 21, .inl f_history_h3_ends)), (q_history_h3_colours, .inl (cI, 21, .inl f_history_h3_colours)), (q_text, .inr (4, [.ref q_text_signs, .int f_text_length, .ref q_text_pairs, .int f_text_size])), (q_text_signs, .inl (cC, 60, .inl f_text_signs)), (q_text_pairs, .inl (cI, 21, .inl f_text_pairs))] sz) := by
  unfold m_X6_readNet at hm
  refine g_openI (cc := cX6_readNet) (maxL := 2) (own := RX6) (by decide) rfl rfl (Nat.le_of_ble_eq_true rfl) ?_
  intro p e s m args below meth c A Q hx hb hml hown hts hP hK hN hD hA hret ls hl
  have hS : va_S A s.heap s.heap [] := va_S.rf
  have hl : lv_has ls 2 [(0, .ref q)] := hl
  refine lv_aload_n hx hb dX6_readNet_0 rfl (lv_at hl 0 rfl) ?_
  refine va_get (D := D) (ci := 5) (v := .ref q_text) (C := RX6) (T := TX6) (N := 8) hx hb hts (by decide +kernel) hown hK hP 0 rfl rfl 5 (by decide) (hts (.fieldLink RX6 36 "KnotStripes" "text" "LKnotStripes$Text;") (by decide +kernel)) (fun _ h9 => h9) rfl dX6_readNet_1 ?_
  obtain ⟨⟨r_1, f_text_pairs_2, f_text_size_3⟩, h_4, hm⟩ := bind_use hm
  refine g_ki (wc := [(q_text, .inr (4, [.ref q_text_signs, .int f_text_length, .ref q_text_pairs, .int f_text_size])), (q_text_signs, .inl (cC, 60, .inl f_text_signs)), (q_text_pairs, .inl (cI, 21, .inl f_text_pairs))]) (wr := [(q, .inr (5, [.ref q_net, .ref q_draft, .ref q_snapshot, .int f_hasSnapshot, .ref q_history, .ref q_text, .ref q_painter, .ref q_covers])), (q_net, .inr (2, [.int f_net_knots, .int f_net_threads, .ref q_net_ends, .ref q_net_colours])), (q_net_ends, .inl (cI, 21, .inl f_net_ends)), (q_net_colours, .inl (cI, 21, .inl f_net_colours)), (q_draft, .inr (2, [.int f_draft_knots, .int f_draft_threads, .ref q_draft_ends, .ref q_draft_colours])), (q_draft_ends, .inl (cI, 21, .inl f_draft_ends)), (q_draft_colours, .inl (cI, 21, .inl f_draft_colours)), (q_history, .inr (1, [.ref q_history_states, .int f_history_size])), (q_history_states, .inl (cN, 4, .inr (.inr (.inr (.inr (hisG q_history_h0 q_history_h1 q_history_h2 q_history_h3)))))), (q_history_h0, .inr (2, [.int f_history_h0_knots, .int f_history_h0_threads, .ref q_history_h0_ends, .ref q_history_h0_colours])), (q_history_h0_ends, .inl (cI, 21, .inl f_history_h0_ends)), (q_history_h0_colours, .inl (cI, 21, .inl f_history_h0_colours)), (q_history_h1, .inr (2, [.int f_history_h1_knots, .int f_history_h1_threads, .ref q_history_h1_ends, .ref q_history_h1_colours])), (q_history_h1_ends, .inl (cI, 21, .inl f_history_h1_ends)), (q_history_h1_colours, .inl (cI, 21, .inl f_history_h1_colours)), (q_history_h2, .inr (2, [.int f_history_h2_knots, .int f_history_h2_threads, .ref q_history_h2_ends, .ref q_history_h2_colours])), (q_history_h2_ends, .inl (cI, 21, .inl f_history_h2_ends)), (q_history_h2_colours, .inl (cI, 21, .inl f_history_h2_colours)), (q_history_h3, .inr (2, [.int f_history_h3_knots, .int f_history_h3_threads, .ref q_history_h3_ends, .ref q_history_h3_colours])), (q_history_h3_ends, .inl (cI, 21, .inl f_history_h3_ends)), (q_history_h3_colours, .inl (cI, 21, .inl f_history_h3_colours))]) (w2 := [(q, .inr (5, [.ref q_net, .ref q_draft, .ref q_snapshot, .int f_hasSnapshot, .ref q_history, .ref q_text, .ref q_painter, .ref q_covers])), (q_net, .inr (2, [.int f_net_knots, .int f_net_threads, .ref q_net_ends, .ref q_net_colours])), (q_net_ends, .inl (cI, 21, .inl f_net_ends)), (q_net_colours, .inl (cI, 21, .inl f_net_colours)), (q_draft, .inr (2, [.int f_draft_knots, .int f_draft_threads, .ref q_draft_ends, .ref q_draft_colours])), (q_draft_ends, .inl (cI, 21, .inl f_draft_ends)), (q_draft_colours, .inl (cI, 21, .inl f_draft_colours)), (q_history, .inr (1, [.ref q_history_states, .int f_history_size])), (q_history_states, .inl (cN, 4, .inr (.inr (.inr (.inr (hisG q_history_h0 q_history_h1 q_history_h2 q_history_h3)))))), (q_history_h0, .inr (2, [.int f_history_h0_knots, .int f_history_h0_threads, .ref q_history_h0_ends, .ref q_history_h0_colours])), (q_history_h0_ends, .inl (cI, 21, .inl f_history_h0_ends)), (q_history_h0_colours, .inl (cI, 21, .inl f_history_h0_colours)), (q_history_h1, .inr (2, [.int f_history_h1_knots, .int f_history_h1_threads, .ref q_history_h1_ends, .ref q_history_h1_colours])), (q_history_h1_ends, .inl (cI, 21, .inl f_history_h1_ends)), (q_history_h1_colours, .inl (cI, 21, .inl f_history_h1_colours)), (q_history_h2, .inr (2, [.int f_history_h2_knots, .int f_history_h2_threads, .ref q_history_h2_ends, .ref q_history_h2_colours])), (q_history_h2_ends, .inl (cI, 21, .inl f_history_h2_ends)), (q_history_h2_colours, .inl (cI, 21, .inl f_history_h2_colours)), (q_history_h3, .inr (2, [.int f_history_h3_knots, .int f_history_h3_threads, .ref q_history_h3_ends, .ref q_history_h3_colours])), (q_history_h3_ends, .inl (cI, 21, .inl f_history_h3_ends)), (q_history_h3_colours, .inl (cI, 21, .inl f_history_h3_colours)), (q_text, .inr (4, [.ref q_text_signs, .int f_text_length, .ref q_text_pairs, .int f_text_size_3])), (q_text_signs, .inl (cC, 60, .inl f_text_signs)), (q_text_pairs, .inl (cI, 21, .inl f_text_pairs_2))]) (va_runV (As := []) (rest := []) ⟨hx, hb, hml, hown, hts⟩ (k_X4_read l D cI cC cN N q_text q_text_signs q_text_pairs s.heap.size f_text_signs f_text_length f_text_pairs f_text_size r_1 f_text_pairs_2 f_text_size_3 h_4) (cwV 0 hts gX6_readNet_X4_read rfl rfl rfl (by decide +kernel) ⟨Nat.le_of_ble_eq_true rfl, Nat.le_of_ble_eq_true rfl⟩) ⟨g_blind, va_recv (D := D) (ci := 4) (q0 := 21) hK hP rfl rfl, g_pre (hP.sub [21, 22, 23] rfl) hK hN (hD.sub [21, 22, 23] (by decide) rfl)⟩ rfl rfl hl.1 rfl (lv_room (Nat.le_of_ble_eq_true rfl)) dX6_readNet_4 ⟨Nat.zero_le _, Nat.zero_le _⟩) hP hD hS hA [21, 22, 23] [0, 1, 2, 3, 4, 5, 6, 7, 8, 9, 10, 11, 12, 13, 14, 15, 16, 17, 18, 19, 20] rfl rfl (by decide) (by decide) rfl (fun H locs hP hD hS => ?_)
  refine lv_istore_n (lv' := [(1, .int r_1), (0, .ref q)]) hx hb dX6_readNet_7 rfl hl (by decide) rfl (fun ls hl => ?_)
  refine lv_iload_n hx hb dX6_readNet_8 rfl (lv_at hl 0 rfl) ?_
  refine lv_if_lt (tgt := 17) hx hb dX6_readNet_9 (by decide) (fun hc => ?_) (fun hc => ?_)
  · have hm := if_t _ hc hm
    refine lv_aload_n hx hb dX6_readNet_17 rfl (lv_at hl 1 rfl) ?_
    refine va_get (D := D) (ci := 5) (v := .ref q_text) (C := RX6) (T := TX6) (N := 8) hx hb hts (by decide +kernel) hown hK hP 0 rfl rfl 5 (by decide) (hts (.fieldLink RX6 36 "KnotStripes" "text" "LKnotStripes$Text;") (by decide +kernel)) (fun _ h9 => h9) rfl dX6_readNet_18 ?_
    obtain ⟨r_5, h_6, hm⟩ := bind_use hm
    refine g_ki (wc := [(q_text, .inr (4, [.ref q_text_signs, .int f_text_length, .ref q_text_pairs, .int f_text_size_3])), (q_text_signs, .inl (cC, 60, .inl f_text_signs)), (q_text_pairs, .inl (cI, 21, .inl f_text_pairs_2))]) (wr := [(q, .inr (5, [.ref q_net, .ref q_draft, .ref q_snapshot, .int f_hasSnapshot, .ref q_history, .ref q_text, .ref q_painter, .ref q_covers])), (q_net, .inr (2, [.int f_net_knots, .int f_net_threads, .ref q_net_ends, .ref q_net_colours])), (q_net_ends, .inl (cI, 21, .inl f_net_ends)), (q_net_colours, .inl (cI, 21, .inl f_net_colours)), (q_draft, .inr (2, [.int f_draft_knots, .int f_draft_threads, .ref q_draft_ends, .ref q_draft_colours])), (q_draft_ends, .inl (cI, 21, .inl f_draft_ends)), (q_draft_colours, .inl (cI, 21, .inl f_draft_colours)), (q_history, .inr (1, [.ref q_history_states, .int f_history_size])), (q_history_states, .inl (cN, 4, .inr (.inr (.inr (.inr (hisG q_history_h0 q_history_h1 q_history_h2 q_history_h3)))))), (q_history_h0, .inr (2, [.int f_history_h0_knots, .int f_history_h0_threads, .ref q_history_h0_ends, .ref q_history_h0_colours])), (q_history_h0_ends, .inl (cI, 21, .inl f_history_h0_ends)), (q_history_h0_colours, .inl (cI, 21, .inl f_history_h0_colours)), (q_history_h1, .inr (2, [.int f_history_h1_knots, .int f_history_h1_threads, .ref q_history_h1_ends, .ref q_history_h1_colours])), (q_history_h1_ends, .inl (cI, 21, .inl f_history_h1_ends)), (q_history_h1_colours, .inl (cI, 21, .inl f_history_h1_colours)), (q_history_h2, .inr (2, [.int f_history_h2_knots, .int f_history_h2_threads, .ref q_history_h2_ends, .ref q_history_h2_colours])), (q_history_h2_ends, .inl (cI, 21, .inl f_history_h2_ends)), (q_history_h2_colours, .inl (cI, 21, .inl f_history_h2_colours)), (q_history_h3, .inr (2, [.int f_history_h3_knots, .int f_history_h3_threads, .ref q_history_h3_ends, .ref q_history_h3_colours])), (q_history_h3_ends, .inl (cI, 21, .inl f_history_h3_ends)), (q_history_h3_colours, .inl (cI, 21, .inl f_history_h3_colours))]) (w2 := [(q, .inr (5, [.ref q_net, .ref q_draft, .ref q_snapshot, .int f_hasSnapshot, .ref q_history, .ref q_text, .ref q_painter, .ref q_covers])), (q_net, .inr (2, [.int f_net_knots, .int f_net_threads, .ref q_net_ends, .ref q_net_colours])), (q_net_ends, .inl (cI, 21, .inl f_net_ends)), (q_net_colours, .inl (cI, 21, .inl f_net_colours)), (q_draft, .inr (2, [.int f_draft_knots, .int f_draft_threads, .ref q_draft_ends, .ref q_draft_colours])), (q_draft_ends, .inl (cI, 21, .inl f_draft_ends)), (q_draft_colours, .inl (cI, 21, .inl f_draft_colours)), (q_history, .inr (1, [.ref q_history_states, .int f_history_size])), (q_history_states, .inl (cN, 4, .inr (.inr (.inr (.inr (hisG q_history_h0 q_history_h1 q_history_h2 q_history_h3)))))), (q_history_h0, .inr (2, [.int f_history_h0_knots, .int f_history_h0_threads, .ref q_history_h0_ends, .ref q_history_h0_colours])), (q_history_h0_ends, .inl (cI, 21, .inl f_history_h0_ends)), (q_history_h0_colours, .inl (cI, 21, .inl f_history_h0_colours)), (q_history_h1, .inr (2, [.int f_history_h1_knots, .int f_history_h1_threads, .ref q_history_h1_ends, .ref q_history_h1_colours])), (q_history_h1_ends, .inl (cI, 21, .inl f_history_h1_ends)), (q_history_h1_colours, .inl (cI, 21, .inl f_history_h1_colours)), (q_history_h2, .inr (2, [.int f_history_h2_knots, .int f_history_h2_threads, .ref q_history_h2_ends, .ref q_history_h2_colours])), (q_history_h2_ends, .inl (cI, 21, .inl f_history_h2_ends)), (q_history_h2_colours, .inl (cI, 21, .inl f_history_h2_colours)), (q_history_h3, .inr (2, [.int f_history_h3_knots, .int f_history_h3_threads, .ref q_history_h3_ends, .ref q_history_h3_colours])), (q_history_h3_ends, .inl (cI, 21, .inl f_history_h3_ends)), (q_history_h3_colours, .inl (cI, 21, .inl f_history_h3_colours)), (q_text, .inr (4, [.ref q_text_signs, .int f_text_length, .ref q_text_pairs, .int f_text_size_3])), (q_text_signs, .inl (cC, 60, .inl f_text_signs)), (q_text_pairs, .inl (cI, 21, .inl f_text_pairs_2))]) (va_runV (As := []) (rest := []) ⟨hx, hb, hml, hown, hts⟩ (k_X4_tiesAKnotToItself l D cI cC cN N q_text q_text_signs q_text_pairs H.size f_text_signs f_text_length f_text_pairs_2 f_text_size_3 r_5 h_6) (cwV 0 hts gX6_readNet_X4_tiesAKnotToItself rfl rfl rfl (by decide +kernel) ⟨Nat.le_of_ble_eq_true rfl, Nat.le_of_ble_eq_true rfl⟩) ⟨g_blind, va_recv (D := D) (ci := 4) (q0 := 21) hK hP rfl rfl, g_pre (hP.sub [21, 22, 23] rfl) hK hN (hD.sub [21, 22, 23] (by decide) rfl)⟩ rfl rfl hl.1 rfl (lv_room (Nat.le_of_ble_eq_true rfl)) dX6_readNet_21 ⟨Nat.zero_le _, Nat.zero_le _⟩) hP hD hS hA [21, 22, 23] [0, 1, 2, 3, 4, 5, 6, 7, 8, 9, 10, 11, 12, 13, 14, 15, 16, 17, 18, 19, 20] rfl rfl (by decide) (by decide) rfl (fun H locs hP hD hS => ?_)
    refine lv_if_eq (tgt := 30) hx hb dX6_readNet_24 (by decide) (fun hc => ?_) (fun hc => ?_)
    · have hm := if_t _ hc hm
      refine lv_aload_n hx hb dX6_readNet_30 rfl (lv_at hl 1 rfl) ?_
      refine va_get (D := D) (ci := 5) (v := .ref q_text) (C := RX6) (T := TX6) (N := 8) hx hb hts (by decide +kernel) hown hK hP 0 rfl rfl 5 (by decide) (hts (.fieldLink RX6 36 "KnotStripes" "text" "LKnotStripes$Text;") (by decide +kernel)) (fun _ h9 => h9) rfl dX6_readNet_31 ?_
      refine lv_aload_n hx hb dX6_readNet_34 rfl (lv_at hl 1 rfl) ?_
      refine va_get (D := D) (ci := 5) (v := .ref q_draft) (C := RX6) (T := TX6) (N := 8) hx hb hts (by decide +kernel) hown hK hP 0 rfl rfl 1 (by decide) (hts (.fieldLink RX6 16 "KnotStripes" "draft" "LKnotStripes$Net;") (by decide +kernel)) (fun _ h9 => h9) rfl dX6_readNet_35 ?_
      obtain ⟨⟨r_7, f_draft_knots_8, f_draft_threads_9, f_draft_ends_10, f_draft_colours_11⟩, h_12, hm⟩ := bind_use hm
      refine g_ki (wc := [(q_text, .inr (4, [.ref q_text_signs, .int f_text_length, .ref q_text_pairs, .int f_text_size_3])), (q_text_signs, .inl (cC, 60, .inl f_text_signs)), (q_text_pairs, .inl (cI, 21, .inl f_text_pairs_2)), (q_draft, .inr (2, [.int f_draft_knots, .int f_draft_threads, .ref q_draft_ends, .ref q_draft_colours])), (q_draft_ends, .inl (cI, 21, .inl f_draft_ends)), (q_draft_colours, .inl (cI, 21, .inl f_draft_colours))]) (wr := [(q, .inr (5, [.ref q_net, .ref q_draft, .ref q_snapshot, .int f_hasSnapshot, .ref q_history, .ref q_text, .ref q_painter, .ref q_covers])), (q_net, .inr (2, [.int f_net_knots, .int f_net_threads, .ref q_net_ends, .ref q_net_colours])), (q_net_ends, .inl (cI, 21, .inl f_net_ends)), (q_net_colours, .inl (cI, 21, .inl f_net_colours)), (q_history, .inr (1, [.ref q_history_states, .int f_history_size])), (q_history_states, .inl (cN, 4, .inr (.inr (.inr (.inr (hisG q_history_h0 q_history_h1 q_history_h2 q_history_h3)))))), (q_history_h0, .inr (2, [.int f_history_h0_knots, .int f_history_h0_threads, .ref q_history_h0_ends, .ref q_history_h0_colours])), (q_history_h0_ends, .inl (cI, 21, .inl f_history_h0_ends)), (q_history_h0_colours, .inl (cI, 21, .inl f_history_h0_colours)), (q_history_h1, .inr (2, [.int f_history_h1_knots, .int f_history_h1_threads, .ref q_history_h1_ends, .ref q_history_h1_colours])), (q_history_h1_ends, .inl (cI, 21, .inl f_history_h1_ends)), (q_history_h1_colours, .inl (cI, 21, .inl f_history_h1_colours)), (q_history_h2, .inr (2, [.int f_history_h2_knots, .int f_history_h2_threads, .ref q_history_h2_ends, .ref q_history_h2_colours])), (q_history_h2_ends, .inl (cI, 21, .inl f_history_h2_ends)), (q_history_h2_colours, .inl (cI, 21, .inl f_history_h2_colours)), (q_history_h3, .inr (2, [.int f_history_h3_knots, .int f_history_h3_threads, .ref q_history_h3_ends, .ref q_history_h3_colours])), (q_history_h3_ends, .inl (cI, 21, .inl f_history_h3_ends)), (q_history_h3_colours, .inl (cI, 21, .inl f_history_h3_colours))]) (w2 := [(q, .inr (5, [.ref q_net, .ref q_draft, .ref q_snapshot, .int f_hasSnapshot, .ref q_history, .ref q_text, .ref q_painter, .ref q_covers])), (q_net, .inr (2, [.int f_net_knots, .int f_net_threads, .ref q_net_ends, .ref q_net_colours])), (q_net_ends, .inl (cI, 21, .inl f_net_ends)), (q_net_colours, .inl (cI, 21, .inl f_net_colours)), (q_history, .inr (1, [.ref q_history_states, .int f_history_size])), (q_history_states, .inl (cN, 4, .inr (.inr (.inr (.inr (hisG q_history_h0 q_history_h1 q_history_h2 q_history_h3)))))), (q_history_h0, .inr (2, [.int f_history_h0_knots, .int f_history_h0_threads, .ref q_history_h0_ends, .ref q_history_h0_colours])), (q_history_h0_ends, .inl (cI, 21, .inl f_history_h0_ends)), (q_history_h0_colours, .inl (cI, 21, .inl f_history_h0_colours)), (q_history_h1, .inr (2, [.int f_history_h1_knots, .int f_history_h1_threads, .ref q_history_h1_ends, .ref q_history_h1_colours])), (q_history_h1_ends, .inl (cI, 21, .inl f_history_h1_ends)), (q_history_h1_colours, .inl (cI, 21, .inl f_history_h1_colours)), (q_history_h2, .inr (2, [.int f_history_h2_knots, .int f_history_h2_threads, .ref q_history_h2_ends, .ref q_history_h2_colours])), (q_history_h2_ends, .inl (cI, 21, .inl f_history_h2_ends)), (q_history_h2_colours, .inl (cI, 21, .inl f_history_h2_colours)), (q_history_h3, .inr (2, [.int f_history_h3_knots, .int f_history_h3_threads, .ref q_history_h3_ends, .ref q_history_h3_colours])), (q_history_h3_ends, .inl (cI, 21, .inl f_history_h3_ends)), (q_history_h3_colours, .inl (cI, 21, .inl f_history_h3_colours)), (q_text, .inr (4, [.ref q_text_signs, .int f_text_length, .ref q_text_pairs, .int f_text_size_3])), (q_text_signs, .inl (cC, 60, .inl f_text_signs)), (q_text_pairs, .inl (cI, 21, .inl f_text_pairs_2)), (q_draft, .inr (2, [.int f_draft_knots_8, .int f_draft_threads_9, .ref q_draft_ends, .ref q_draft_colours])), (q_draft_ends, .inl (cI, 21, .inl f_draft_ends_10)), (q_draft_colours, .inl (cI, 21, .inl f_draft_colours_11))]) (va_runV (As := [.ref q_draft]) (rest := []) ⟨hx, hb, hml, hown, hts⟩ (k_X4_tieInto l D cI cC cN N q_text q_text_signs q_text_pairs q_draft q_draft_ends q_draft_colours H.size f_text_signs f_text_length f_text_pairs_2 f_text_size_3 f_draft_knots f_draft_threads f_draft_ends f_draft_colours r_7 f_draft_knots_8 f_draft_threads_9 f_draft_ends_10 f_draft_colours_11 h_12) (cwV 1 hts gX6_readNet_X4_tieInto rfl rfl rfl (by decide +kernel) ⟨Nat.le_of_ble_eq_true rfl, Nat.le_of_ble_eq_true rfl⟩) ⟨g_blind, va_recv (D := D) (ci := 4) (q0 := 21) hK hP rfl rfl, g_pre (hP.sub [21, 22, 23, 4, 5, 6] rfl) hK hN (hD.sub [21, 22, 23, 4, 5, 6] (by decide) rfl)⟩ rfl rfl hl.1 rfl (lv_room (Nat.le_of_ble_eq_true rfl)) dX6_readNet_38 ⟨Nat.zero_le _, Nat.zero_le _⟩) hP hD hS hA [21, 22, 23, 4, 5, 6] [0, 1, 2, 3, 7, 8, 9, 10, 11, 12, 13, 14, 15, 16, 17, 18, 19, 20] rfl rfl (by decide) (by decide) rfl (fun H locs hP hD hS => ?_)
      refine lv_if_ne (tgt := 47) hx hb dX6_readNet_41 (by decide) (fun hc => ?_) (fun hc => ?_)
      · have hm := if_f _ hc hm
        refine lv_aload_n hx hb dX6_readNet_47 rfl (lv_at hl 1 rfl) ?_
        refine va_get (D := D) (ci := 5) (v := .ref q_history) (C := RX6) (T := TX6) (N := 8) hx hb hts (by decide +kernel) hown hK hP 0 rfl rfl 4 (by decide) (hts (.fieldLink RX6 29 "KnotStripes" "history" "LKnotStripes$History;") (by decide +kernel)) (fun _ h9 => h9) rfl dX6_readNet_48 ?_
        refine lv_aload_n hx hb dX6_readNet_51 rfl (lv_at hl 1 rfl) ?_
        refine va_get (D := D) (ci := 5) (v := .ref q_net) (C := RX6) (T := TX6) (N := 8) hx hb hts (by decide +kernel) hown hK hP 0 rfl rfl 0 (by decide) (hts (.fieldLink RX6 12 "KnotStripes" "net" "LKnotStripes$Net;") (by decide +kernel)) (fun _ h9 => h9) rfl dX6_readNet_52 ?_
        obtain ⟨⟨f_history_size_13, f_history_h0_knots_14, f_history_h0_threads_15, f_history_h0_ends_16, f_history_h0_colours_17, f_history_h1_knots_18, f_history_h1_threads_19, f_history_h1_ends_20, f_history_h1_colours_21, f_history_h2_knots_22, f_history_h2_threads_23, f_history_h2_ends_24, f_history_h2_colours_25, f_history_h3_knots_26, f_history_h3_threads_27, f_history_h3_ends_28, f_history_h3_colours_29⟩, h_30, hm⟩ := bind_use hm
        refine g_kv (wc := [(q_history, .inr (1, [.ref q_history_states, .int f_history_size])), (q_history_states, .inl (cN, 4, .inr (.inr (.inr (.inr (hisG q_history_h0 q_history_h1 q_history_h2 q_history_h3)))))), (q_history_h0, .inr (2, [.int f_history_h0_knots, .int f_history_h0_threads, .ref q_history_h0_ends, .ref q_history_h0_colours])), (q_history_h0_ends, .inl (cI, 21, .inl f_history_h0_ends)), (q_history_h0_colours, .inl (cI, 21, .inl f_history_h0_colours)), (q_history_h1, .inr (2, [.int f_history_h1_knots, .int f_history_h1_threads, .ref q_history_h1_ends, .ref q_history_h1_colours])), (q_history_h1_ends, .inl (cI, 21, .inl f_history_h1_ends)), (q_history_h1_colours, .inl (cI, 21, .inl f_history_h1_colours)), (q_history_h2, .inr (2, [.int f_history_h2_knots, .int f_history_h2_threads, .ref q_history_h2_ends, .ref q_history_h2_colours])), (q_history_h2_ends, .inl (cI, 21, .inl f_history_h2_ends)), (q_history_h2_colours, .inl (cI, 21, .inl f_history_h2_colours)), (q_history_h3, .inr (2, [.int f_history_h3_knots, .int f_history_h3_threads, .ref q_history_h3_ends, .ref q_history_h3_colours])), (q_history_h3_ends, .inl (cI, 21, .inl f_history_h3_ends)), (q_history_h3_colours, .inl (cI, 21, .inl f_history_h3_colours)), (q_net, .inr (2, [.int f_net_knots, .int f_net_threads, .ref q_net_ends, .ref q_net_colours])), (q_net_ends, .inl (cI, 21, .inl f_net_ends)), (q_net_colours, .inl (cI, 21, .inl f_net_colours))]) (wr := [(q, .inr (5, [.ref q_net, .ref q_draft, .ref q_snapshot, .int f_hasSnapshot, .ref q_history, .ref q_text, .ref q_painter, .ref q_covers])), (q_text, .inr (4, [.ref q_text_signs, .int f_text_length, .ref q_text_pairs, .int f_text_size_3])), (q_text_signs, .inl (cC, 60, .inl f_text_signs)), (q_text_pairs, .inl (cI, 21, .inl f_text_pairs_2)), (q_draft, .inr (2, [.int f_draft_knots_8, .int f_draft_threads_9, .ref q_draft_ends, .ref q_draft_colours])), (q_draft_ends, .inl (cI, 21, .inl f_draft_ends_10)), (q_draft_colours, .inl (cI, 21, .inl f_draft_colours_11))]) (w2 := [(q, .inr (5, [.ref q_net, .ref q_draft, .ref q_snapshot, .int f_hasSnapshot, .ref q_history, .ref q_text, .ref q_painter, .ref q_covers])), (q_text, .inr (4, [.ref q_text_signs, .int f_text_length, .ref q_text_pairs, .int f_text_size_3])), (q_text_signs, .inl (cC, 60, .inl f_text_signs)), (q_text_pairs, .inl (cI, 21, .inl f_text_pairs_2)), (q_draft, .inr (2, [.int f_draft_knots_8, .int f_draft_threads_9, .ref q_draft_ends, .ref q_draft_colours])), (q_draft_ends, .inl (cI, 21, .inl f_draft_ends_10)), (q_draft_colours, .inl (cI, 21, .inl f_draft_colours_11)), (q_history, .inr (1, [.ref q_history_states, .int f_history_size_13])), (q_history_states, .inl (cN, 4, .inr (.inr (.inr (.inr (hisG q_history_h0 q_history_h1 q_history_h2 q_history_h3)))))), (q_history_h0, .inr (2, [.int f_history_h0_knots_14, .int f_history_h0_threads_15, .ref q_history_h0_ends, .ref q_history_h0_colours])), (q_history_h0_ends, .inl (cI, 21, .inl f_history_h0_ends_16)), (q_history_h0_colours, .inl (cI, 21, .inl f_history_h0_colours_17)), (q_history_h1, .inr (2, [.int f_history_h1_knots_18, .int f_history_h1_threads_19, .ref q_history_h1_ends, .ref q_history_h1_colours])), (q_history_h1_ends, .inl (cI, 21, .inl f_history_h1_ends_20)), (q_history_h1_colours, .inl (cI, 21, .inl f_history_h1_colours_21)), (q_history_h2, .inr (2, [.int f_history_h2_knots_22, .int f_history_h2_threads_23, .ref q_history_h2_ends, .ref q_history_h2_colours])), (q_history_h2_ends, .inl (cI, 21, .inl f_history_h2_ends_24)), (q_history_h2_colours, .inl (cI, 21, .inl f_history_h2_colours_25)), (q_history_h3, .inr (2, [.int f_history_h3_knots_26, .int f_history_h3_threads_27, .ref q_history_h3_ends, .ref q_history_h3_colours])), (q_history_h3_ends, .inl (cI, 21, .inl f_history_h3_ends_28)), (q_history_h3_colours, .inl (cI, 21, .inl f_history_h3_colours_29)), (q_net, .inr (2, [.int f_net_knots, .int f_net_threads, .ref q_net_ends, .ref q_net_colours])), (q_net_ends, .inl (cI, 21, .inl f_net_ends)), (q_net_colours, .inl (cI, 21, .inl f_net_colours))]) (va_runV (As := [.ref q_net]) (rest := []) ⟨hx, hb, hml, hown, hts⟩ (k_X1_push l D cI cC cN N q_history q_history_states q_history_h0 q_history_h1 q_history_h2 q_history_h3 q_history_h0_ends q_history_h0_colours q_history_h1_ends q_history_h1_colours q_history_h2_ends q_history_h2_colours q_history_h3_ends q_history_h3_colours q_net q_net_ends q_net_colours H.size f_history_size f_history_h0_knots f_history_h0_threads f_history_h0_ends f_history_h0_colours f_history_h1_knots f_history_h1_threads f_history_h1_ends f_history_h1_colours f_history_h2_knots f_history_h2_threads f_history_h2_ends f_history_h2_colours f_history_h3_knots f_history_h3_threads f_history_h3_ends f_history_h3_colours f_net_knots f_net_threads f_net_ends f_net_colours f_history_size_13 f_history_h0_knots_14 f_history_h0_threads_15 f_history_h0_ends_16 f_history_h0_colours_17 f_history_h1_knots_18 f_history_h1_threads_19 f_history_h1_ends_20 f_history_h1_colours_21 f_history_h2_knots_22 f_history_h2_threads_23 f_history_h2_ends_24 f_history_h2_colours_25 f_history_h3_knots_26 f_history_h3_threads_27 f_history_h3_ends_28 f_history_h3_colours_29 h_30) (cwV 1 hts gX6_readNet_X1_push rfl rfl rfl (by decide +kernel) ⟨Nat.le_of_ble_eq_true rfl, Nat.le_of_ble_eq_true rfl⟩) ⟨g_blind, va_recv (D := D) (ci := 1) (q0 := 4) hK hP rfl rfl, g_pre (hP.sub [4, 5, 6, 7, 8, 9, 10, 11, 12, 13, 14, 15, 16, 17, 1, 2, 3] rfl) hK hN (hD.sub [4, 5, 6, 7, 8, 9, 10, 11, 12, 13, 14, 15, 16, 17, 1, 2, 3] (by decide) rfl)⟩ rfl rfl hl.1 rfl (lv_room (Nat.le_of_ble_eq_true rfl)) dX6_readNet_55 ⟨Nat.zero_le _, Nat.zero_le _⟩) hP hD hS hA [4, 5, 6, 7, 8, 9, 10, 11, 12, 13, 14, 15, 16, 17, 1, 2, 3] [0, 18, 19, 20, 21, 22, 23] rfl rfl (by decide) (by decide) rfl (fun H locs hP hD hS => ?_)
        refine lv_aload_n hx hb dX6_readNet_58 rfl (lv_at hl 1 rfl) ?_
        refine va_get (D := D) (ci := 5) (v := .ref q_net) (C := RX6) (T := TX6) (N := 8) hx hb hts (by decide +kernel) hown hK hP 0 rfl rfl 0 (by decide) (hts (.fieldLink RX6 12 "KnotStripes" "net" "LKnotStripes$Net;") (by decide +kernel)) (fun _ h9 => h9) rfl dX6_readNet_59 ?_
        refine lv_aload_n hx hb dX6_readNet_62 rfl (lv_at hl 1 rfl) ?_
        refine va_get (D := D) (ci := 5) (v := .ref q_draft) (C := RX6) (T := TX6) (N := 8) hx hb hts (by decide +kernel) hown hK hP 0 rfl rfl 1 (by decide) (hts (.fieldLink RX6 16 "KnotStripes" "draft" "LKnotStripes$Net;") (by decide +kernel)) (fun _ h9 => h9) rfl dX6_readNet_63 ?_
        obtain ⟨⟨f_net_knots_31, f_net_threads_32, f_net_ends_33, f_net_colours_34⟩, h_35, hm⟩ := bind_use hm
        refine g_kv (wc := [(q_net, .inr (2, [.int f_net_knots, .int f_net_threads, .ref q_net_ends, .ref q_net_colours])), (q_net_ends, .inl (cI, 21, .inl f_net_ends)), (q_net_colours, .inl (cI, 21, .inl f_net_colours)), (q_draft, .inr (2, [.int f_draft_knots_8, .int f_draft_threads_9, .ref q_draft_ends, .ref q_draft_colours])), (q_draft_ends, .inl (cI, 21, .inl f_draft_ends_10)), (q_draft_colours, .inl (cI, 21, .inl f_draft_colours_11))]) (wr := [(q, .inr (5, [.ref q_net, .ref q_draft, .ref q_snapshot, .int f_hasSnapshot, .ref q_history, .ref q_text, .ref q_painter, .ref q_covers])), (q_text, .inr (4, [.ref q_text_signs, .int f_text_length, .ref q_text_pairs, .int f_text_size_3])), (q_text_signs, .inl (cC, 60, .inl f_text_signs)), (q_text_pairs, .inl (cI, 21, .inl f_text_pairs_2)), (q_history, .inr (1, [.ref q_history_states, .int f_history_size_13])), (q_history_states, .inl (cN, 4, .inr (.inr (.inr (.inr (hisG q_history_h0 q_history_h1 q_history_h2 q_history_h3)))))), (q_history_h0, .inr (2, [.int f_history_h0_knots_14, .int f_history_h0_threads_15, .ref q_history_h0_ends, .ref q_history_h0_colours])), (q_history_h0_ends, .inl (cI, 21, .inl f_history_h0_ends_16)), (q_history_h0_colours, .inl (cI, 21, .inl f_history_h0_colours_17)), (q_history_h1, .inr (2, [.int f_history_h1_knots_18, .int f_history_h1_threads_19, .ref q_history_h1_ends, .ref q_history_h1_colours])), (q_history_h1_ends, .inl (cI, 21, .inl f_history_h1_ends_20)), (q_history_h1_colours, .inl (cI, 21, .inl f_history_h1_colours_21)), (q_history_h2, .inr (2, [.int f_history_h2_knots_22, .int f_history_h2_threads_23, .ref q_history_h2_ends, .ref q_history_h2_colours])), (q_history_h2_ends, .inl (cI, 21, .inl f_history_h2_ends_24)), (q_history_h2_colours, .inl (cI, 21, .inl f_history_h2_colours_25)), (q_history_h3, .inr (2, [.int f_history_h3_knots_26, .int f_history_h3_threads_27, .ref q_history_h3_ends, .ref q_history_h3_colours])), (q_history_h3_ends, .inl (cI, 21, .inl f_history_h3_ends_28)), (q_history_h3_colours, .inl (cI, 21, .inl f_history_h3_colours_29))]) (w2 := [(q, .inr (5, [.ref q_net, .ref q_draft, .ref q_snapshot, .int f_hasSnapshot, .ref q_history, .ref q_text, .ref q_painter, .ref q_covers])), (q_text, .inr (4, [.ref q_text_signs, .int f_text_length, .ref q_text_pairs, .int f_text_size_3])), (q_text_signs, .inl (cC, 60, .inl f_text_signs)), (q_text_pairs, .inl (cI, 21, .inl f_text_pairs_2)), (q_history, .inr (1, [.ref q_history_states, .int f_history_size_13])), (q_history_states, .inl (cN, 4, .inr (.inr (.inr (.inr (hisG q_history_h0 q_history_h1 q_history_h2 q_history_h3)))))), (q_history_h0, .inr (2, [.int f_history_h0_knots_14, .int f_history_h0_threads_15, .ref q_history_h0_ends, .ref q_history_h0_colours])), (q_history_h0_ends, .inl (cI, 21, .inl f_history_h0_ends_16)), (q_history_h0_colours, .inl (cI, 21, .inl f_history_h0_colours_17)), (q_history_h1, .inr (2, [.int f_history_h1_knots_18, .int f_history_h1_threads_19, .ref q_history_h1_ends, .ref q_history_h1_colours])), (q_history_h1_ends, .inl (cI, 21, .inl f_history_h1_ends_20)), (q_history_h1_colours, .inl (cI, 21, .inl f_history_h1_colours_21)), (q_history_h2, .inr (2, [.int f_history_h2_knots_22, .int f_history_h2_threads_23, .ref q_history_h2_ends, .ref q_history_h2_colours])), (q_history_h2_ends, .inl (cI, 21, .inl f_history_h2_ends_24)), (q_history_h2_colours, .inl (cI, 21, .inl f_history_h2_colours_25)), (q_history_h3, .inr (2, [.int f_history_h3_knots_26, .int f_history_h3_threads_27, .ref q_history_h3_ends, .ref q_history_h3_colours])), (q_history_h3_ends, .inl (cI, 21, .inl f_history_h3_ends_28)), (q_history_h3_colours, .inl (cI, 21, .inl f_history_h3_colours_29)), (q_net, .inr (2, [.int f_net_knots_31, .int f_net_threads_32, .ref q_net_ends, .ref q_net_colours])), (q_net_ends, .inl (cI, 21, .inl f_net_ends_33)), (q_net_colours, .inl (cI, 21, .inl f_net_colours_34)), (q_draft, .inr (2, [.int f_draft_knots_8, .int f_draft_threads_9, .ref q_draft_ends, .ref q_draft_colours])), (q_draft_ends, .inl (cI, 21, .inl f_draft_ends_10)), (q_draft_colours, .inl (cI, 21, .inl f_draft_colours_11))]) (va_runV (As := [.ref q_draft]) (rest := []) ⟨hx, hb, hml, hown, hts⟩ (k_X2_copyFrom l D cI cC cN N q_net q_net_ends q_net_colours q_draft q_draft_ends q_draft_colours H.size f_net_knots f_net_threads f_net_ends f_net_colours f_draft_knots_8 f_draft_threads_9 f_draft_ends_10 f_draft_colours_11 f_net_knots_31 f_net_threads_32 f_net_ends_33 f_net_colours_34 h_35) (cwV 1 hts gX6_readNet_X2_copyFrom rfl rfl rfl (by decide +kernel) ⟨Nat.le_of_ble_eq_true rfl, Nat.le_of_ble_eq_true rfl⟩) ⟨g_blind, va_recv (D := D) (ci := 2) (q0 := 21) hK hP rfl rfl, g_pre (hP.sub [21, 22, 23, 4, 5, 6] rfl) hK hN (hD.sub [21, 22, 23, 4, 5, 6] (by decide) rfl)⟩ rfl rfl hl.1 rfl (lv_room (Nat.le_of_ble_eq_true rfl)) dX6_readNet_66 ⟨Nat.zero_le _, Nat.zero_le _⟩) hP hD hS hA [21, 22, 23, 4, 5, 6] [0, 1, 2, 3, 7, 8, 9, 10, 11, 12, 13, 14, 15, 16, 17, 18, 19, 20] rfl rfl (by decide) (by decide) rfl (fun H locs hP hD hS => ?_)
        refine lv_aload_n hx hb dX6_readNet_69 rfl (lv_at hl 1 rfl) ?_
        refine va_get (D := D) (ci := 5) (v := .ref q_net) (C := RX6) (T := TX6) (N := 8) hx hb hts (by decide +kernel) hown hK hP 0 rfl rfl 0 (by decide) (hts (.fieldLink RX6 12 "KnotStripes" "net" "LKnotStripes$Net;") (by decide +kernel)) (fun _ h9 => h9) rfl dX6_readNet_70 ?_
        obtain ⟨r_36, h_37, hm⟩ := bind_use hm
        refine g_ki (wc := [(q_net, .inr (2, [.int f_net_knots_31, .int f_net_threads_32, .ref q_net_ends, .ref q_net_colours])), (q_net_ends, .inl (cI, 21, .inl f_net_ends_33)), (q_net_colours, .inl (cI, 21, .inl f_net_colours_34))]) (wr := [(q, .inr (5, [.ref q_net, .ref q_draft, .ref q_snapshot, .int f_hasSnapshot, .ref q_history, .ref q_text, .ref q_painter, .ref q_covers])), (q_text, .inr (4, [.ref q_text_signs, .int f_text_length, .ref q_text_pairs, .int f_text_size_3])), (q_text_signs, .inl (cC, 60, .inl f_text_signs)), (q_text_pairs, .inl (cI, 21, .inl f_text_pairs_2)), (q_history, .inr (1, [.ref q_history_states, .int f_history_size_13])), (q_history_states, .inl (cN, 4, .inr (.inr (.inr (.inr (hisG q_history_h0 q_history_h1 q_history_h2 q_history_h3)))))), (q_history_h0, .inr (2, [.int f_history_h0_knots_14, .int f_history_h0_threads_15, .ref q_history_h0_ends, .ref q_history_h0_colours])), (q_history_h0_ends, .inl (cI, 21, .inl f_history_h0_ends_16)), (q_history_h0_colours, .inl (cI, 21, .inl f_history_h0_colours_17)), (q_history_h1, .inr (2, [.int f_history_h1_knots_18, .int f_history_h1_threads_19, .ref q_history_h1_ends, .ref q_history_h1_colours])), (q_history_h1_ends, .inl (cI, 21, .inl f_history_h1_ends_20)), (q_history_h1_colours, .inl (cI, 21, .inl f_history_h1_colours_21)), (q_history_h2, .inr (2, [.int f_history_h2_knots_22, .int f_history_h2_threads_23, .ref q_history_h2_ends, .ref q_history_h2_colours])), (q_history_h2_ends, .inl (cI, 21, .inl f_history_h2_ends_24)), (q_history_h2_colours, .inl (cI, 21, .inl f_history_h2_colours_25)), (q_history_h3, .inr (2, [.int f_history_h3_knots_26, .int f_history_h3_threads_27, .ref q_history_h3_ends, .ref q_history_h3_colours])), (q_history_h3_ends, .inl (cI, 21, .inl f_history_h3_ends_28)), (q_history_h3_colours, .inl (cI, 21, .inl f_history_h3_colours_29)), (q_draft, .inr (2, [.int f_draft_knots_8, .int f_draft_threads_9, .ref q_draft_ends, .ref q_draft_colours])), (q_draft_ends, .inl (cI, 21, .inl f_draft_ends_10)), (q_draft_colours, .inl (cI, 21, .inl f_draft_colours_11))]) (w2 := [(q, .inr (5, [.ref q_net, .ref q_draft, .ref q_snapshot, .int f_hasSnapshot, .ref q_history, .ref q_text, .ref q_painter, .ref q_covers])), (q_text, .inr (4, [.ref q_text_signs, .int f_text_length, .ref q_text_pairs, .int f_text_size_3])), (q_text_signs, .inl (cC, 60, .inl f_text_signs)), (q_text_pairs, .inl (cI, 21, .inl f_text_pairs_2)), (q_history, .inr (1, [.ref q_history_states, .int f_history_size_13])), (q_history_states, .inl (cN, 4, .inr (.inr (.inr (.inr (hisG q_history_h0 q_history_h1 q_history_h2 q_history_h3)))))), (q_history_h0, .inr (2, [.int f_history_h0_knots_14, .int f_history_h0_threads_15, .ref q_history_h0_ends, .ref q_history_h0_colours])), (q_history_h0_ends, .inl (cI, 21, .inl f_history_h0_ends_16)), (q_history_h0_colours, .inl (cI, 21, .inl f_history_h0_colours_17)), (q_history_h1, .inr (2, [.int f_history_h1_knots_18, .int f_history_h1_threads_19, .ref q_history_h1_ends, .ref q_history_h1_colours])), (q_history_h1_ends, .inl (cI, 21, .inl f_history_h1_ends_20)), (q_history_h1_colours, .inl (cI, 21, .inl f_history_h1_colours_21)), (q_history_h2, .inr (2, [.int f_history_h2_knots_22, .int f_history_h2_threads_23, .ref q_history_h2_ends, .ref q_history_h2_colours])), (q_history_h2_ends, .inl (cI, 21, .inl f_history_h2_ends_24)), (q_history_h2_colours, .inl (cI, 21, .inl f_history_h2_colours_25)), (q_history_h3, .inr (2, [.int f_history_h3_knots_26, .int f_history_h3_threads_27, .ref q_history_h3_ends, .ref q_history_h3_colours])), (q_history_h3_ends, .inl (cI, 21, .inl f_history_h3_ends_28)), (q_history_h3_colours, .inl (cI, 21, .inl f_history_h3_colours_29)), (q_draft, .inr (2, [.int f_draft_knots_8, .int f_draft_threads_9, .ref q_draft_ends, .ref q_draft_colours])), (q_draft_ends, .inl (cI, 21, .inl f_draft_ends_10)), (q_draft_colours, .inl (cI, 21, .inl f_draft_colours_11)), (q_net, .inr (2, [.int f_net_knots_31, .int f_net_threads_32, .ref q_net_ends, .ref q_net_colours])), (q_net_ends, .inl (cI, 21, .inl f_net_ends_33)), (q_net_colours, .inl (cI, 21, .inl f_net_colours_34))]) (va_runV (As := []) (rest := []) ⟨hx, hb, hml, hown, hts⟩ (k_X2_knots l D cI cC cN N q_net q_net_ends q_net_colours H.size f_net_knots_31 f_net_threads_32 f_net_ends_33 f_net_colours_34 r_36 h_37) (cwV 0 hts gX6_readNet_X2_knots rfl rfl rfl (by decide +kernel) ⟨Nat.le_of_ble_eq_true rfl, Nat.le_of_ble_eq_true rfl⟩) ⟨g_blind, va_recv (D := D) (ci := 2) (q0 := 18) hK hP rfl rfl, g_pre (hP.sub [18, 19, 20] rfl) hK hN (hD.sub [18, 19, 20] (by decide) rfl)⟩ rfl rfl hl.1 rfl (lv_room (Nat.le_of_ble_eq_true rfl)) dX6_readNet_73 ⟨Nat.zero_le _, Nat.zero_le _⟩) hP hD hS hA [18, 19, 20] [0, 1, 2, 3, 4, 5, 6, 7, 8, 9, 10, 11, 12, 13, 14, 15, 16, 17, 21, 22, 23] rfl rfl (by decide) (by decide) rfl (fun H locs hP hD hS => ?_)
        have z1 := so_use hm
        obtain ⟨y1, z2⟩ := pr_use z1
        obtain ⟨y2, z3⟩ := pr_use z2
        obtain ⟨y3, z4⟩ := pr_use z3
        obtain ⟨y4, z5⟩ := pr_use z4
        obtain ⟨y5, z6⟩ := pr_use z5
        obtain ⟨y6, z7⟩ := pr_use z6
        obtain ⟨y7, z8⟩ := pr_use z7
        obtain ⟨y8, z9⟩ := pr_use z8
        obtain ⟨y9, z10⟩ := pr_use z9
        obtain ⟨y10, z11⟩ := pr_use z10
        obtain ⟨y11, z12⟩ := pr_use z11
        obtain ⟨y12, z13⟩ := pr_use z12
        obtain ⟨y13, z14⟩ := pr_use z13
        obtain ⟨y14, z15⟩ := pr_use z14
        obtain ⟨y15, z16⟩ := pr_use z15
        obtain ⟨y16, z17⟩ := pr_use z16
        obtain ⟨y17, z18⟩ := pr_use z17
        obtain ⟨y18, z19⟩ := pr_use z18
        obtain ⟨y19, z20⟩ := pr_use z19
        obtain ⟨y20, z21⟩ := pr_use z20
        obtain ⟨y21, z22⟩ := pr_use z21
        obtain ⟨y22, z23⟩ := pr_use z22
        obtain ⟨y23, z24⟩ := pr_use z23
        obtain ⟨y24, z25⟩ := pr_use z24
        obtain ⟨y25, z26⟩ := pr_use z25
        obtain ⟨y26, z27⟩ := pr_use z26
        obtain ⟨y27, z28⟩ := pr_use z27
        subst y1
        subst y2
        subst y3
        subst y4
        subst y5
        subst y6
        subst y7
        subst y8
        subst y9
        subst y10
        subst y11
        subst y12
        subst y13
        subst y14
        subst y15
        subst y16
        subst y17
        subst y18
        subst y19
        subst y20
        subst y21
        subst y22
        subst y23
        subst y24
        subst y25
        subst y26
        subst y27
        subst z28
        exact hret _ _ _ _ _ dX6_readNet_76 rfl rfl (hP.sub [0, 21, 22, 23, 18, 19, 20, 4, 5, 6, 7, 8, 9, 10, 11, 12, 13, 14, 15, 16, 17, 1, 2, 3] rfl) (hD.sub [0, 21, 22, 23, 18, 19, 20, 4, 5, 6, 7, 8, 9, 10, 11, 12, 13, 14, 15, 16, 17, 1, 2, 3] (by decide) rfl) hS
      · have hm := if_t _ hc hm
        refine lv_bipush (v := (-4)) hx hb dX6_readNet_44 (by decide) ?_
        have z1 := so_use hm
        obtain ⟨y1, z2⟩ := pr_use z1
        obtain ⟨y2, z3⟩ := pr_use z2
        obtain ⟨y3, z4⟩ := pr_use z3
        obtain ⟨y4, z5⟩ := pr_use z4
        obtain ⟨y5, z6⟩ := pr_use z5
        obtain ⟨y6, z7⟩ := pr_use z6
        obtain ⟨y7, z8⟩ := pr_use z7
        obtain ⟨y8, z9⟩ := pr_use z8
        obtain ⟨y9, z10⟩ := pr_use z9
        obtain ⟨y10, z11⟩ := pr_use z10
        obtain ⟨y11, z12⟩ := pr_use z11
        obtain ⟨y12, z13⟩ := pr_use z12
        obtain ⟨y13, z14⟩ := pr_use z13
        obtain ⟨y14, z15⟩ := pr_use z14
        obtain ⟨y15, z16⟩ := pr_use z15
        obtain ⟨y16, z17⟩ := pr_use z16
        obtain ⟨y17, z18⟩ := pr_use z17
        obtain ⟨y18, z19⟩ := pr_use z18
        obtain ⟨y19, z20⟩ := pr_use z19
        obtain ⟨y20, z21⟩ := pr_use z20
        obtain ⟨y21, z22⟩ := pr_use z21
        obtain ⟨y22, z23⟩ := pr_use z22
        obtain ⟨y23, z24⟩ := pr_use z23
        obtain ⟨y24, z25⟩ := pr_use z24
        obtain ⟨y25, z26⟩ := pr_use z25
        obtain ⟨y26, z27⟩ := pr_use z26
        obtain ⟨y27, z28⟩ := pr_use z27
        subst y1
        subst y2
        subst y3
        subst y4
        subst y5
        subst y6
        subst y7
        subst y8
        subst y9
        subst y10
        subst y11
        subst y12
        subst y13
        subst y14
        subst y15
        subst y16
        subst y17
        subst y18
        subst y19
        subst y20
        subst y21
        subst y22
        subst y23
        subst y24
        subst y25
        subst y26
        subst y27
        subst z28
        exact hret _ _ _ _ _ dX6_readNet_46 rfl rfl (hP.sub [0, 1, 2, 3, 21, 22, 23, 4, 5, 6, 7, 8, 9, 10, 11, 12, 13, 14, 15, 16, 17, 18, 19, 20] rfl) (hD.sub [0, 1, 2, 3, 21, 22, 23, 4, 5, 6, 7, 8, 9, 10, 11, 12, 13, 14, 15, 16, 17, 18, 19, 20] (by decide) rfl) hS
    · have hm := if_f _ hc hm
      refine lv_bipush (v := (-2)) hx hb dX6_readNet_27 (by decide) ?_
      have z1 := so_use hm
      obtain ⟨y1, z2⟩ := pr_use z1
      obtain ⟨y2, z3⟩ := pr_use z2
      obtain ⟨y3, z4⟩ := pr_use z3
      obtain ⟨y4, z5⟩ := pr_use z4
      obtain ⟨y5, z6⟩ := pr_use z5
      obtain ⟨y6, z7⟩ := pr_use z6
      obtain ⟨y7, z8⟩ := pr_use z7
      obtain ⟨y8, z9⟩ := pr_use z8
      obtain ⟨y9, z10⟩ := pr_use z9
      obtain ⟨y10, z11⟩ := pr_use z10
      obtain ⟨y11, z12⟩ := pr_use z11
      obtain ⟨y12, z13⟩ := pr_use z12
      obtain ⟨y13, z14⟩ := pr_use z13
      obtain ⟨y14, z15⟩ := pr_use z14
      obtain ⟨y15, z16⟩ := pr_use z15
      obtain ⟨y16, z17⟩ := pr_use z16
      obtain ⟨y17, z18⟩ := pr_use z17
      obtain ⟨y18, z19⟩ := pr_use z18
      obtain ⟨y19, z20⟩ := pr_use z19
      obtain ⟨y20, z21⟩ := pr_use z20
      obtain ⟨y21, z22⟩ := pr_use z21
      obtain ⟨y22, z23⟩ := pr_use z22
      obtain ⟨y23, z24⟩ := pr_use z23
      obtain ⟨y24, z25⟩ := pr_use z24
      obtain ⟨y25, z26⟩ := pr_use z25
      obtain ⟨y26, z27⟩ := pr_use z26
      obtain ⟨y27, z28⟩ := pr_use z27
      subst y1
      subst y2
      subst y3
      subst y4
      subst y5
      subst y6
      subst y7
      subst y8
      subst y9
      subst y10
      subst y11
      subst y12
      subst y13
      subst y14
      subst y15
      subst y16
      subst y17
      subst y18
      subst y19
      subst y20
      subst y21
      subst y22
      subst y23
      subst y24
      subst y25
      subst y26
      subst y27
      subst z28
      exact hret _ _ _ _ _ dX6_readNet_29 rfl rfl hP hD hS
  · have hm := if_f _ hc hm
    refine lv_bipush (v := (-100)) hx hb dX6_readNet_12 (by decide) ?_
    refine lv_iload_n hx hb dX6_readNet_14 rfl (lv_at hl 0 rfl) ?_
    refine lv_isub hx hb dX6_readNet_15 ?_
    have z1 := so_use hm
    obtain ⟨y1, z2⟩ := pr_use z1
    obtain ⟨y2, z3⟩ := pr_use z2
    obtain ⟨y3, z4⟩ := pr_use z3
    obtain ⟨y4, z5⟩ := pr_use z4
    obtain ⟨y5, z6⟩ := pr_use z5
    obtain ⟨y6, z7⟩ := pr_use z6
    obtain ⟨y7, z8⟩ := pr_use z7
    obtain ⟨y8, z9⟩ := pr_use z8
    obtain ⟨y9, z10⟩ := pr_use z9
    obtain ⟨y10, z11⟩ := pr_use z10
    obtain ⟨y11, z12⟩ := pr_use z11
    obtain ⟨y12, z13⟩ := pr_use z12
    obtain ⟨y13, z14⟩ := pr_use z13
    obtain ⟨y14, z15⟩ := pr_use z14
    obtain ⟨y15, z16⟩ := pr_use z15
    obtain ⟨y16, z17⟩ := pr_use z16
    obtain ⟨y17, z18⟩ := pr_use z17
    obtain ⟨y18, z19⟩ := pr_use z18
    obtain ⟨y19, z20⟩ := pr_use z19
    obtain ⟨y20, z21⟩ := pr_use z20
    obtain ⟨y21, z22⟩ := pr_use z21
    obtain ⟨y22, z23⟩ := pr_use z22
    obtain ⟨y23, z24⟩ := pr_use z23
    obtain ⟨y24, z25⟩ := pr_use z24
    obtain ⟨y25, z26⟩ := pr_use z25
    obtain ⟨y26, z27⟩ := pr_use z26
    obtain ⟨y27, z28⟩ := pr_use z27
    subst y1
    subst y2
    subst y3
    subst y4
    subst y5
    subst y6
    subst y7
    subst y8
    subst y9
    subst y10
    subst y11
    subst y12
    subst y13
    subst y14
    subst y15
    subst y16
    subst y17
    subst y18
    subst y19
    subst y20
    subst y21
    subst y22
    subst y23
    subst y24
    subst y25
    subst y26
    subst y27
    subst z28
    exact hret _ _ _ _ _ dX6_readNet_16 rfl rfl hP hD hS
abbrev rX6_grow : Room := { frames := 5, cells := 0, slots := 0, locals := 109 }
set_option maxHeartbeats 4000000 in
set_option maxRecDepth 100000 in
theorem k_X6_grow (l : Launch) (D : va_G) (cI cC cN : ClassId) (N : Nat) (q : Nat) (q_net : Nat) (q_draft : Nat) (q_snapshot : Nat) (q_history : Nat) (q_text : Nat) (q_painter : Nat) (q_covers : Nat) (q_net_ends : Nat) (q_net_colours : Nat) (q_history_states : Nat) (q_history_h0 : Nat) (q_history_h1 : Nat) (q_history_h2 : Nat) (q_history_h3 : Nat) (q_history_h0_ends : Nat) (q_history_h0_colours : Nat) (q_history_h1_ends : Nat) (q_history_h1_colours : Nat) (q_history_h2_ends : Nat) (q_history_h2_colours : Nat) (q_history_h3_ends : Nat) (q_history_h3_colours : Nat) (sz : Nat) (f_hasSnapshot : Int32) (f_net_knots : Int32) (f_net_threads : Int32) (f_net_ends : Nat → Int32) (f_net_colours : Nat → Int32) (f_history_size : Int32) (f_history_h0_knots : Int32) (f_history_h0_threads : Int32) (f_history_h0_ends : Nat → Int32) (f_history_h0_colours : Nat → Int32) (f_history_h1_knots : Int32) (f_history_h1_threads : Int32) (f_history_h1_ends : Nat → Int32) (f_history_h1_colours : Nat → Int32) (f_history_h2_knots : Int32) (f_history_h2_threads : Int32) (f_history_h2_ends : Nat → Int32) (f_history_h2_colours : Nat → Int32) (f_history_h3_knots : Int32) (f_history_h3_threads : Int32) (f_history_h3_ends : Nat → Int32) (f_history_h3_colours : Nat → Int32) (a1 : Int32) (r : Int32) (f_net_knots' : Int32) (f_net_threads' : Int32) (f_net_ends' : Nat → Int32) (f_net_colours' : Nat → Int32) (f_history_size' : Int32) (f_history_h0_knots' : Int32) (f_history_h0_threads' : Int32) (f_history_h0_ends' : Nat → Int32) (f_history_h0_colours' : Nat → Int32) (f_history_h1_knots' : Int32) (f_history_h1_threads' : Int32) (f_history_h1_ends' : Nat → Int32) (f_history_h1_colours' : Nat → Int32) (f_history_h2_knots' : Int32) (f_history_h2_threads' : Int32) (f_history_h2_ends' : Nat → Int32) (f_history_h2_colours' : Nat → Int32) (f_history_h3_knots' : Int32) (f_history_h3_threads' : Int32) (f_history_h3_ends' : Nat → Int32) (f_history_h3_colours' : Nat → Int32) (hm : m_X6_grow N f_net_knots f_net_threads f_net_ends f_net_colours f_history_size f_history_h0_knots f_history_h0_threads f_history_h0_ends f_history_h0_colours f_history_h1_knots f_history_h1_threads f_history_h1_ends f_history_h1_colours f_history_h2_knots f_history_h2_threads f_history_h2_ends f_history_h2_colours f_history_h3_knots f_history_h3_threads f_history_h3_ends f_history_h3_colours a1 = some (r, f_net_knots', f_net_threads', f_net_ends', f_net_colours', f_history_size', f_history_h0_knots', f_history_h0_threads', f_history_h0_ends', f_history_h0_colours', f_history_h1_knots', f_history_h1_threads', f_history_h1_ends', f_history_h1_colours', f_history_h2_knots', f_history_h2_threads', f_history_h2_ends', f_history_h2_colours', f_history_h3_knots', f_history_h3_threads', f_history_h3_ends', f_history_h3_colours')) : Met l yX6_grow wsX6_grow (rX6_grow) (gPc D (tysG cI cC cN) [.ref q, .int a1] [(q, .inr (5, [.ref q_net, .ref q_draft, .ref q_snapshot, .int f_hasSnapshot, .ref q_history, .ref q_text, .ref q_painter, .ref q_covers])), (q_net, .inr (2, [.int f_net_knots, .int f_net_threads, .ref q_net_ends, .ref q_net_colours])), (q_net_ends, .inl (cI, 21, .inl f_net_ends)), (q_net_colours, .inl (cI, 21, .inl f_net_colours)), (q_history, .inr (1, [.ref q_history_states, .int f_history_size])), (q_history_states, .inl (cN, 4, .inr (.inr (.inr (.inr (hisG q_history_h0 q_history_h1 q_history_h2 q_history_h3)))))), (q_history_h0, .inr (2, [.int f_history_h0_knots, .int f_history_h0_threads, .ref q_history_h0_ends, .ref q_history_h0_colours])), (q_history_h0_ends, .inl (cI, 21, .inl f_history_h0_ends)), (q_history_h0_colours, .inl (cI, 21, .inl f_history_h0_colours)), (q_history_h1, .inr (2, [.int f_history_h1_knots, .int f_history_h1_threads, .ref q_history_h1_ends, .ref q_history_h1_colours])), (q_history_h1_ends, .inl (cI, 21, .inl f_history_h1_ends)), (q_history_h1_colours, .inl (cI, 21, .inl f_history_h1_colours)), (q_history_h2, .inr (2, [.int f_history_h2_knots, .int f_history_h2_threads, .ref q_history_h2_ends, .ref q_history_h2_colours])), (q_history_h2_ends, .inl (cI, 21, .inl f_history_h2_ends)), (q_history_h2_colours, .inl (cI, 21, .inl f_history_h2_colours)), (q_history_h3, .inr (2, [.int f_history_h3_knots, .int f_history_h3_threads, .ref q_history_h3_ends, .ref q_history_h3_colours])), (q_history_h3_ends, .inl (cI, 21, .inl f_history_h3_ends)), (q_history_h3_colours, .inl (cI, 21, .inl f_history_h3_colours))] sz) (gQi D (tysG cI cC cN) (va_A [(q, .inr (5, [.ref q_net, .ref q_draft, .ref q_snapshot, .int f_hasSnapshot, .ref q_history, .ref q_text, .ref q_painter, .ref q_covers])), (q_net, .inr (2, [.int f_net_knots, .int f_net_threads, .ref q_net_ends, .ref q_net_colours])), (q_net_ends, .inl (cI, 21, .inl f_net_ends)), (q_net_colours, .inl (cI, 21, .inl f_net_colours)), (q_history, .inr (1, [.ref q_history_states, .int f_history_size])), (q_history_states, .inl (cN, 4, .inr (.inr (.inr (.inr (hisG q_history_h0 q_history_h1 q_history_h2 q_history_h3)))))), (q_history_h0, .inr (2, [.int f_history_h0_knots, .int f_history_h0_threads, .ref q_history_h0_ends, .ref q_history_h0_colours])), (q_history_h0_ends, .inl (cI, 21, .inl f_history_h0_ends)), (q_history_h0_colours, .inl (cI, 21, .inl f_history_h0_colours)), (q_history_h1, .inr (2, [.int f_history_h1_knots, .int f_history_h1_threads, .ref q_history_h1_ends, .ref q_history_h1_colours])), (q_history_h1_ends, .inl (cI, 21, .inl f_history_h1_ends)), (q_history_h1_colours, .inl (cI, 21, .inl f_history_h1_colours)), (q_history_h2, .inr (2, [.int f_history_h2_knots, .int f_history_h2_threads, .ref q_history_h2_ends, .ref q_history_h2_colours])), (q_history_h2_ends, .inl (cI, 21, .inl f_history_h2_ends)), (q_history_h2_colours, .inl (cI, 21, .inl f_history_h2_colours)), (q_history_h3, .inr (2, [.int f_history_h3_knots, .int f_history_h3_threads, .ref q_history_h3_ends, .ref q_history_h3_colours])), (q_history_h3_ends, .inl (cI, 21, .inl f_history_h3_ends)), (q_history_h3_colours, .inl (cI, 21, .inl f_history_h3_colours))] sz) [(q, .inr (5, [.ref q_net, .ref q_draft, .ref q_snapshot, .int f_hasSnapshot, .ref q_history, .ref q_text, .ref q_painter, .ref q_covers])), (q_net, .inr (2, [.int f_net_knots', .int f_net_threads', .ref q_net_ends, .ref q_net_colours])), (q_net_ends, .inl (cI, 21, .inl f_net_ends')), (q_net_colours, .inl (cI, 21, .inl f_net_colours')), (q_history, .inr (1, [.ref q_history_states, .int f_history_size'])), (q_history_states, .inl (cN, 4, .inr (.inr (.inr (.inr (hisG q_history_h0 q_history_h1 q_history_h2 q_history_h3)))))), (q_history_h0, .inr (2, [.int f_history_h0_knots', .int f_history_h0_threads', .ref q_history_h0_ends, .ref q_history_h0_colours])), (q_history_h0_ends, .inl (cI, 21, .inl f_history_h0_ends')), (q_history_h0_colours, .inl (cI, 21, .inl f_history_h0_colours')), (q_history_h1, .inr (2, [.int f_history_h1_knots', .int f_history_h1_threads', .ref q_history_h1_ends, .ref q_history_h1_colours])), (q_history_h1_ends, .inl (cI, 21, .inl f_history_h1_ends')), (q_history_h1_colours, .inl (cI, 21, .inl f_history_h1_colours')), (q_history_h2, .inr (2, [.int f_history_h2_knots', .int f_history_h2_threads', .ref q_history_h2_ends, .ref q_history_h2_colours])), (q_history_h2_ends, .inl (cI, 21, .inl f_history_h2_ends')), (q_history_h2_colours, .inl (cI, 21, .inl f_history_h2_colours')), (q_history_h3, .inr (2, [.int f_history_h3_knots', .int f_history_h3_threads', .ref q_history_h3_ends, .ref q_history_h3_colours])), (q_history_h3_ends, .inl (cI, 21, .inl f_history_h3_ends')), (q_history_h3_colours, .inl (cI, 21, .inl f_history_h3_colours'))] r) 0 0 (va_A [(q, .inr (5, [.ref q_net, .ref q_draft, .ref q_snapshot, .int f_hasSnapshot, .ref q_history, .ref q_text, .ref q_painter, .ref q_covers])), (q_net, .inr (2, [.int f_net_knots, .int f_net_threads, .ref q_net_ends, .ref q_net_colours])), (q_net_ends, .inl (cI, 21, .inl f_net_ends)), (q_net_colours, .inl (cI, 21, .inl f_net_colours)), (q_history, .inr (1, [.ref q_history_states, .int f_history_size])), (q_history_states, .inl (cN, 4, .inr (.inr (.inr (.inr (hisG q_history_h0 q_history_h1 q_history_h2 q_history_h3)))))), (q_history_h0, .inr (2, [.int f_history_h0_knots, .int f_history_h0_threads, .ref q_history_h0_ends, .ref q_history_h0_colours])), (q_history_h0_ends, .inl (cI, 21, .inl f_history_h0_ends)), (q_history_h0_colours, .inl (cI, 21, .inl f_history_h0_colours)), (q_history_h1, .inr (2, [.int f_history_h1_knots, .int f_history_h1_threads, .ref q_history_h1_ends, .ref q_history_h1_colours])), (q_history_h1_ends, .inl (cI, 21, .inl f_history_h1_ends)), (q_history_h1_colours, .inl (cI, 21, .inl f_history_h1_colours)), (q_history_h2, .inr (2, [.int f_history_h2_knots, .int f_history_h2_threads, .ref q_history_h2_ends, .ref q_history_h2_colours])), (q_history_h2_ends, .inl (cI, 21, .inl f_history_h2_ends)), (q_history_h2_colours, .inl (cI, 21, .inl f_history_h2_colours)), (q_history_h3, .inr (2, [.int f_history_h3_knots, .int f_history_h3_threads, .ref q_history_h3_ends, .ref q_history_h3_colours])), (q_history_h3_ends, .inl (cI, 21, .inl f_history_h3_ends)), (q_history_h3_colours, .inl (cI, 21, .inl f_history_h3_colours))] sz) := by
  unfold m_X6_grow at hm
  refine g_openI (cc := cX6_grow) (maxL := 2) (own := RX6) (by decide) rfl rfl (Nat.le_of_ble_eq_true rfl) ?_
  intro p e s m args below meth c A Q hx hb hml hown hts hP hK hN hD hA hret ls hl
  have hS : va_S A s.heap s.heap [] := va_S.rf
  have hl : lv_has ls 2 [(0, .ref q), (1, .int a1)] := hl
  refine lv_aload_n hx hb dX6_grow_0 rfl (lv_at hl 0 rfl) ?_
  refine va_get (D := D) (ci := 5) (v := .ref q_net) (C := RX6) (T := TX6) (N := 8) hx hb hts (by decide +kernel) hown hK hP 0 rfl rfl 0 (by decide) (hts (.fieldLink RX6 12 "KnotStripes" "net" "LKnotStripes$Net;") (by decide +kernel)) (fun _ h9 => h9) rfl dX6_grow_1 ?_
  refine lv_iload_n hx hb dX6_grow_4 rfl (lv_at hl 1 rfl) ?_
  obtain ⟨r_1, h_2, hm⟩ := bind_use hm
  refine g_ki (wc := [(q_net, .inr (2, [.int f_net_knots, .int f_net_threads, .ref q_net_ends, .ref q_net_colours])), (q_net_ends, .inl (cI, 21, .inl f_net_ends)), (q_net_colours, .inl (cI, 21, .inl f_net_colours))]) (wr := [(q, .inr (5, [.ref q_net, .ref q_draft, .ref q_snapshot, .int f_hasSnapshot, .ref q_history, .ref q_text, .ref q_painter, .ref q_covers])), (q_history, .inr (1, [.ref q_history_states, .int f_history_size])), (q_history_states, .inl (cN, 4, .inr (.inr (.inr (.inr (hisG q_history_h0 q_history_h1 q_history_h2 q_history_h3)))))), (q_history_h0, .inr (2, [.int f_history_h0_knots, .int f_history_h0_threads, .ref q_history_h0_ends, .ref q_history_h0_colours])), (q_history_h0_ends, .inl (cI, 21, .inl f_history_h0_ends)), (q_history_h0_colours, .inl (cI, 21, .inl f_history_h0_colours)), (q_history_h1, .inr (2, [.int f_history_h1_knots, .int f_history_h1_threads, .ref q_history_h1_ends, .ref q_history_h1_colours])), (q_history_h1_ends, .inl (cI, 21, .inl f_history_h1_ends)), (q_history_h1_colours, .inl (cI, 21, .inl f_history_h1_colours)), (q_history_h2, .inr (2, [.int f_history_h2_knots, .int f_history_h2_threads, .ref q_history_h2_ends, .ref q_history_h2_colours])), (q_history_h2_ends, .inl (cI, 21, .inl f_history_h2_ends)), (q_history_h2_colours, .inl (cI, 21, .inl f_history_h2_colours)), (q_history_h3, .inr (2, [.int f_history_h3_knots, .int f_history_h3_threads, .ref q_history_h3_ends, .ref q_history_h3_colours])), (q_history_h3_ends, .inl (cI, 21, .inl f_history_h3_ends)), (q_history_h3_colours, .inl (cI, 21, .inl f_history_h3_colours))]) (w2 := [(q, .inr (5, [.ref q_net, .ref q_draft, .ref q_snapshot, .int f_hasSnapshot, .ref q_history, .ref q_text, .ref q_painter, .ref q_covers])), (q_history, .inr (1, [.ref q_history_states, .int f_history_size])), (q_history_states, .inl (cN, 4, .inr (.inr (.inr (.inr (hisG q_history_h0 q_history_h1 q_history_h2 q_history_h3)))))), (q_history_h0, .inr (2, [.int f_history_h0_knots, .int f_history_h0_threads, .ref q_history_h0_ends, .ref q_history_h0_colours])), (q_history_h0_ends, .inl (cI, 21, .inl f_history_h0_ends)), (q_history_h0_colours, .inl (cI, 21, .inl f_history_h0_colours)), (q_history_h1, .inr (2, [.int f_history_h1_knots, .int f_history_h1_threads, .ref q_history_h1_ends, .ref q_history_h1_colours])), (q_history_h1_ends, .inl (cI, 21, .inl f_history_h1_ends)), (q_history_h1_colours, .inl (cI, 21, .inl f_history_h1_colours)), (q_history_h2, .inr (2, [.int f_history_h2_knots, .int f_history_h2_threads, .ref q_history_h2_ends, .ref q_history_h2_colours])), (q_history_h2_ends, .inl (cI, 21, .inl f_history_h2_ends)), (q_history_h2_colours, .inl (cI, 21, .inl f_history_h2_colours)), (q_history_h3, .inr (2, [.int f_history_h3_knots, .int f_history_h3_threads, .ref q_history_h3_ends, .ref q_history_h3_colours])), (q_history_h3_ends, .inl (cI, 21, .inl f_history_h3_ends)), (q_history_h3_colours, .inl (cI, 21, .inl f_history_h3_colours)), (q_net, .inr (2, [.int f_net_knots, .int f_net_threads, .ref q_net_ends, .ref q_net_colours])), (q_net_ends, .inl (cI, 21, .inl f_net_ends)), (q_net_colours, .inl (cI, 21, .inl f_net_colours))]) (va_runV (As := [.int a1]) (rest := []) ⟨hx, hb, hml, hown, hts⟩ (k_X2_hasKnot l D cI cC cN N q_net q_net_ends q_net_colours s.heap.size f_net_knots f_net_threads f_net_ends f_net_colours a1 r_1 h_2) (cwV 1 hts gX6_grow_X2_hasKnot rfl rfl rfl (by decide +kernel) ⟨Nat.le_of_ble_eq_true rfl, Nat.le_of_ble_eq_true rfl⟩) ⟨g_blind, va_recv (D := D) (ci := 2) (q0 := 1) hK hP rfl rfl, g_pre (hP.sub [1, 2, 3] rfl) hK hN (hD.sub [1, 2, 3] (by decide) rfl)⟩ rfl rfl hl.1 rfl (lv_room (Nat.le_of_ble_eq_true rfl)) dX6_grow_5 ⟨Nat.zero_le _, Nat.zero_le _⟩) hP hD hS hA [1, 2, 3] [0, 4, 5, 6, 7, 8, 9, 10, 11, 12, 13, 14, 15, 16, 17] rfl rfl (by decide) (by decide) rfl (fun H locs hP hD hS => ?_)
  refine lv_if_ne (tgt := 13) hx hb dX6_grow_8 (by decide) (fun hc => ?_) (fun hc => ?_)
  · have hm := if_f _ hc hm
    refine lv_aload_n hx hb dX6_grow_13 rfl (lv_at hl 0 rfl) ?_
    refine va_get (D := D) (ci := 5) (v := .ref q_net) (C := RX6) (T := TX6) (N := 8) hx hb hts (by decide +kernel) hown hK hP 0 rfl rfl 0 (by decide) (hts (.fieldLink RX6 12 "KnotStripes" "net" "LKnotStripes$Net;") (by decide +kernel)) (fun _ h9 => h9) rfl dX6_grow_14 ?_
    refine lv_iload_n hx hb dX6_grow_17 rfl (lv_at hl 1 rfl) ?_
    obtain ⟨r_3, h_4, hm⟩ := bind_use hm
    refine g_ki (wc := [(q_net, .inr (2, [.int f_net_knots, .int f_net_threads, .ref q_net_ends, .ref q_net_colours])), (q_net_ends, .inl (cI, 21, .inl f_net_ends)), (q_net_colours, .inl (cI, 21, .inl f_net_colours))]) (wr := [(q, .inr (5, [.ref q_net, .ref q_draft, .ref q_snapshot, .int f_hasSnapshot, .ref q_history, .ref q_text, .ref q_painter, .ref q_covers])), (q_history, .inr (1, [.ref q_history_states, .int f_history_size])), (q_history_states, .inl (cN, 4, .inr (.inr (.inr (.inr (hisG q_history_h0 q_history_h1 q_history_h2 q_history_h3)))))), (q_history_h0, .inr (2, [.int f_history_h0_knots, .int f_history_h0_threads, .ref q_history_h0_ends, .ref q_history_h0_colours])), (q_history_h0_ends, .inl (cI, 21, .inl f_history_h0_ends)), (q_history_h0_colours, .inl (cI, 21, .inl f_history_h0_colours)), (q_history_h1, .inr (2, [.int f_history_h1_knots, .int f_history_h1_threads, .ref q_history_h1_ends, .ref q_history_h1_colours])), (q_history_h1_ends, .inl (cI, 21, .inl f_history_h1_ends)), (q_history_h1_colours, .inl (cI, 21, .inl f_history_h1_colours)), (q_history_h2, .inr (2, [.int f_history_h2_knots, .int f_history_h2_threads, .ref q_history_h2_ends, .ref q_history_h2_colours])), (q_history_h2_ends, .inl (cI, 21, .inl f_history_h2_ends)), (q_history_h2_colours, .inl (cI, 21, .inl f_history_h2_colours)), (q_history_h3, .inr (2, [.int f_history_h3_knots, .int f_history_h3_threads, .ref q_history_h3_ends, .ref q_history_h3_colours])), (q_history_h3_ends, .inl (cI, 21, .inl f_history_h3_ends)), (q_history_h3_colours, .inl (cI, 21, .inl f_history_h3_colours))]) (w2 := [(q, .inr (5, [.ref q_net, .ref q_draft, .ref q_snapshot, .int f_hasSnapshot, .ref q_history, .ref q_text, .ref q_painter, .ref q_covers])), (q_history, .inr (1, [.ref q_history_states, .int f_history_size])), (q_history_states, .inl (cN, 4, .inr (.inr (.inr (.inr (hisG q_history_h0 q_history_h1 q_history_h2 q_history_h3)))))), (q_history_h0, .inr (2, [.int f_history_h0_knots, .int f_history_h0_threads, .ref q_history_h0_ends, .ref q_history_h0_colours])), (q_history_h0_ends, .inl (cI, 21, .inl f_history_h0_ends)), (q_history_h0_colours, .inl (cI, 21, .inl f_history_h0_colours)), (q_history_h1, .inr (2, [.int f_history_h1_knots, .int f_history_h1_threads, .ref q_history_h1_ends, .ref q_history_h1_colours])), (q_history_h1_ends, .inl (cI, 21, .inl f_history_h1_ends)), (q_history_h1_colours, .inl (cI, 21, .inl f_history_h1_colours)), (q_history_h2, .inr (2, [.int f_history_h2_knots, .int f_history_h2_threads, .ref q_history_h2_ends, .ref q_history_h2_colours])), (q_history_h2_ends, .inl (cI, 21, .inl f_history_h2_ends)), (q_history_h2_colours, .inl (cI, 21, .inl f_history_h2_colours)), (q_history_h3, .inr (2, [.int f_history_h3_knots, .int f_history_h3_threads, .ref q_history_h3_ends, .ref q_history_h3_colours])), (q_history_h3_ends, .inl (cI, 21, .inl f_history_h3_ends)), (q_history_h3_colours, .inl (cI, 21, .inl f_history_h3_colours)), (q_net, .inr (2, [.int f_net_knots, .int f_net_threads, .ref q_net_ends, .ref q_net_colours])), (q_net_ends, .inl (cI, 21, .inl f_net_ends)), (q_net_colours, .inl (cI, 21, .inl f_net_colours))]) (va_runV (As := [.int a1]) (rest := []) ⟨hx, hb, hml, hown, hts⟩ (k_X2_isFullKnot l D cI cC cN N q_net q_net_ends q_net_colours H.size f_net_knots f_net_threads f_net_ends f_net_colours a1 r_3 h_4) (cwV 1 hts gX6_grow_X2_isFullKnot rfl rfl rfl (by decide +kernel) ⟨Nat.le_of_ble_eq_true rfl, Nat.le_of_ble_eq_true rfl⟩) ⟨g_blind, va_recv (D := D) (ci := 2) (q0 := 15) hK hP rfl rfl, g_pre (hP.sub [15, 16, 17] rfl) hK hN (hD.sub [15, 16, 17] (by decide) rfl)⟩ rfl rfl hl.1 rfl (lv_room (Nat.le_of_ble_eq_true rfl)) dX6_grow_18 ⟨Nat.zero_le _, Nat.zero_le _⟩) hP hD hS hA [15, 16, 17] [0, 1, 2, 3, 4, 5, 6, 7, 8, 9, 10, 11, 12, 13, 14] rfl rfl (by decide) (by decide) rfl (fun H locs hP hD hS => ?_)
    refine lv_if_ne (tgt := 27) hx hb dX6_grow_21 (by decide) (fun hc => ?_) (fun hc => ?_)
    · have hm := if_f _ hc hm
      refine lv_aload_n hx hb dX6_grow_27 rfl (lv_at hl 0 rfl) ?_
      refine va_get (D := D) (ci := 5) (v := .ref q_net) (C := RX6) (T := TX6) (N := 8) hx hb hts (by decide +kernel) hown hK hP 0 rfl rfl 0 (by decide) (hts (.fieldLink RX6 12 "KnotStripes" "net" "LKnotStripes$Net;") (by decide +kernel)) (fun _ h9 => h9) rfl dX6_grow_28 ?_
      obtain ⟨r_5, h_6, hm⟩ := bind_use hm
      refine g_ki (wc := [(q_net, .inr (2, [.int f_net_knots, .int f_net_threads, .ref q_net_ends, .ref q_net_colours])), (q_net_ends, .inl (cI, 21, .inl f_net_ends)), (q_net_colours, .inl (cI, 21, .inl f_net_colours))]) (wr := [(q, .inr (5, [.ref q_net, .ref q_draft, .ref q_snapshot, .int f_hasSnapshot, .ref q_history, .ref q_text, .ref q_painter, .ref q_covers])), (q_history, .inr (1, [.ref q_history_states, .int f_history_size])), (q_history_states, .inl (cN, 4, .inr (.inr (.inr (.inr (hisG q_history_h0 q_history_h1 q_history_h2 q_history_h3)))))), (q_history_h0, .inr (2, [.int f_history_h0_knots, .int f_history_h0_threads, .ref q_history_h0_ends, .ref q_history_h0_colours])), (q_history_h0_ends, .inl (cI, 21, .inl f_history_h0_ends)), (q_history_h0_colours, .inl (cI, 21, .inl f_history_h0_colours)), (q_history_h1, .inr (2, [.int f_history_h1_knots, .int f_history_h1_threads, .ref q_history_h1_ends, .ref q_history_h1_colours])), (q_history_h1_ends, .inl (cI, 21, .inl f_history_h1_ends)), (q_history_h1_colours, .inl (cI, 21, .inl f_history_h1_colours)), (q_history_h2, .inr (2, [.int f_history_h2_knots, .int f_history_h2_threads, .ref q_history_h2_ends, .ref q_history_h2_colours])), (q_history_h2_ends, .inl (cI, 21, .inl f_history_h2_ends)), (q_history_h2_colours, .inl (cI, 21, .inl f_history_h2_colours)), (q_history_h3, .inr (2, [.int f_history_h3_knots, .int f_history_h3_threads, .ref q_history_h3_ends, .ref q_history_h3_colours])), (q_history_h3_ends, .inl (cI, 21, .inl f_history_h3_ends)), (q_history_h3_colours, .inl (cI, 21, .inl f_history_h3_colours))]) (w2 := [(q, .inr (5, [.ref q_net, .ref q_draft, .ref q_snapshot, .int f_hasSnapshot, .ref q_history, .ref q_text, .ref q_painter, .ref q_covers])), (q_history, .inr (1, [.ref q_history_states, .int f_history_size])), (q_history_states, .inl (cN, 4, .inr (.inr (.inr (.inr (hisG q_history_h0 q_history_h1 q_history_h2 q_history_h3)))))), (q_history_h0, .inr (2, [.int f_history_h0_knots, .int f_history_h0_threads, .ref q_history_h0_ends, .ref q_history_h0_colours])), (q_history_h0_ends, .inl (cI, 21, .inl f_history_h0_ends)), (q_history_h0_colours, .inl (cI, 21, .inl f_history_h0_colours)), (q_history_h1, .inr (2, [.int f_history_h1_knots, .int f_history_h1_threads, .ref q_history_h1_ends, .ref q_history_h1_colours])), (q_history_h1_ends, .inl (cI, 21, .inl f_history_h1_ends)), (q_history_h1_colours, .inl (cI, 21, .inl f_history_h1_colours)), (q_history_h2, .inr (2, [.int f_history_h2_knots, .int f_history_h2_threads, .ref q_history_h2_ends, .ref q_history_h2_colours])), (q_history_h2_ends, .inl (cI, 21, .inl f_history_h2_ends)), (q_history_h2_colours, .inl (cI, 21, .inl f_history_h2_colours)), (q_history_h3, .inr (2, [.int f_history_h3_knots, .int f_history_h3_threads, .ref q_history_h3_ends, .ref q_history_h3_colours])), (q_history_h3_ends, .inl (cI, 21, .inl f_history_h3_ends)), (q_history_h3_colours, .inl (cI, 21, .inl f_history_h3_colours)), (q_net, .inr (2, [.int f_net_knots, .int f_net_threads, .ref q_net_ends, .ref q_net_colours])), (q_net_ends, .inl (cI, 21, .inl f_net_ends)), (q_net_colours, .inl (cI, 21, .inl f_net_colours))]) (va_runV (As := []) (rest := []) ⟨hx, hb, hml, hown, hts⟩ (k_X2_knots l D cI cC cN N q_net q_net_ends q_net_colours H.size f_net_knots f_net_threads f_net_ends f_net_colours r_5 h_6) (cwV 0 hts gX6_grow_X2_knots rfl rfl rfl (by decide +kernel) ⟨Nat.le_of_ble_eq_true rfl, Nat.le_of_ble_eq_true rfl⟩) ⟨g_blind, va_recv (D := D) (ci := 2) (q0 := 15) hK hP rfl rfl, g_pre (hP.sub [15, 16, 17] rfl) hK hN (hD.sub [15, 16, 17] (by decide) rfl)⟩ rfl rfl hl.1 rfl (lv_room (Nat.le_of_ble_eq_true rfl)) dX6_grow_31 ⟨Nat.zero_le _, Nat.zero_le _⟩) hP hD hS hA [15, 16, 17] [0, 1, 2, 3, 4, 5, 6, 7, 8, 9, 10, 11, 12, 13, 14] rfl rfl (by decide) (by decide) rfl (fun H locs hP hD hS => ?_)
      refine lv_iconst (v := 2) hx hb dX6_grow_34 (by decide) ?_
      refine lv_iadd hx hb dX6_grow_35 ?_
      refine lv_bipush (v := 14) hx hb dX6_grow_36 (by decide) ?_
      refine lv_icmp_le (tgt := 44) hx hb dX6_grow_38 (by decide) (fun hc => ?_) (fun hc => ?_)
      · have hm := if_t _ hc hm
        refine lv_aload_n hx hb dX6_grow_44 rfl (lv_at hl 0 rfl) ?_
        refine va_get (D := D) (ci := 5) (v := .ref q_history) (C := RX6) (T := TX6) (N := 8) hx hb hts (by decide +kernel) hown hK hP 0 rfl rfl 4 (by decide) (hts (.fieldLink RX6 29 "KnotStripes" "history" "LKnotStripes$History;") (by decide +kernel)) (fun _ h9 => h9) rfl dX6_grow_45 ?_
        refine lv_aload_n hx hb dX6_grow_48 rfl (lv_at hl 0 rfl) ?_
        refine va_get (D := D) (ci := 5) (v := .ref q_net) (C := RX6) (T := TX6) (N := 8) hx hb hts (by decide +kernel) hown hK hP 0 rfl rfl 0 (by decide) (hts (.fieldLink RX6 12 "KnotStripes" "net" "LKnotStripes$Net;") (by decide +kernel)) (fun _ h9 => h9) rfl dX6_grow_49 ?_
        obtain ⟨⟨f_history_size_7, f_history_h0_knots_8, f_history_h0_threads_9, f_history_h0_ends_10, f_history_h0_colours_11, f_history_h1_knots_12, f_history_h1_threads_13, f_history_h1_ends_14, f_history_h1_colours_15, f_history_h2_knots_16, f_history_h2_threads_17, f_history_h2_ends_18, f_history_h2_colours_19, f_history_h3_knots_20, f_history_h3_threads_21, f_history_h3_ends_22, f_history_h3_colours_23⟩, h_24, hm⟩ := bind_use hm
        refine g_kv (wc := [(q_history, .inr (1, [.ref q_history_states, .int f_history_size])), (q_history_states, .inl (cN, 4, .inr (.inr (.inr (.inr (hisG q_history_h0 q_history_h1 q_history_h2 q_history_h3)))))), (q_history_h0, .inr (2, [.int f_history_h0_knots, .int f_history_h0_threads, .ref q_history_h0_ends, .ref q_history_h0_colours])), (q_history_h0_ends, .inl (cI, 21, .inl f_history_h0_ends)), (q_history_h0_colours, .inl (cI, 21, .inl f_history_h0_colours)), (q_history_h1, .inr (2, [.int f_history_h1_knots, .int f_history_h1_threads, .ref q_history_h1_ends, .ref q_history_h1_colours])), (q_history_h1_ends, .inl (cI, 21, .inl f_history_h1_ends)), (q_history_h1_colours, .inl (cI, 21, .inl f_history_h1_colours)), (q_history_h2, .inr (2, [.int f_history_h2_knots, .int f_history_h2_threads, .ref q_history_h2_ends, .ref q_history_h2_colours])), (q_history_h2_ends, .inl (cI, 21, .inl f_history_h2_ends)), (q_history_h2_colours, .inl (cI, 21, .inl f_history_h2_colours)), (q_history_h3, .inr (2, [.int f_history_h3_knots, .int f_history_h3_threads, .ref q_history_h3_ends, .ref q_history_h3_colours])), (q_history_h3_ends, .inl (cI, 21, .inl f_history_h3_ends)), (q_history_h3_colours, .inl (cI, 21, .inl f_history_h3_colours)), (q_net, .inr (2, [.int f_net_knots, .int f_net_threads, .ref q_net_ends, .ref q_net_colours])), (q_net_ends, .inl (cI, 21, .inl f_net_ends)), (q_net_colours, .inl (cI, 21, .inl f_net_colours))]) (wr := [(q, .inr (5, [.ref q_net, .ref q_draft, .ref q_snapshot, .int f_hasSnapshot, .ref q_history, .ref q_text, .ref q_painter, .ref q_covers]))]) (w2 := [(q, .inr (5, [.ref q_net, .ref q_draft, .ref q_snapshot, .int f_hasSnapshot, .ref q_history, .ref q_text, .ref q_painter, .ref q_covers])), (q_history, .inr (1, [.ref q_history_states, .int f_history_size_7])), (q_history_states, .inl (cN, 4, .inr (.inr (.inr (.inr (hisG q_history_h0 q_history_h1 q_history_h2 q_history_h3)))))), (q_history_h0, .inr (2, [.int f_history_h0_knots_8, .int f_history_h0_threads_9, .ref q_history_h0_ends, .ref q_history_h0_colours])), (q_history_h0_ends, .inl (cI, 21, .inl f_history_h0_ends_10)), (q_history_h0_colours, .inl (cI, 21, .inl f_history_h0_colours_11)), (q_history_h1, .inr (2, [.int f_history_h1_knots_12, .int f_history_h1_threads_13, .ref q_history_h1_ends, .ref q_history_h1_colours])), (q_history_h1_ends, .inl (cI, 21, .inl f_history_h1_ends_14)), (q_history_h1_colours, .inl (cI, 21, .inl f_history_h1_colours_15)), (q_history_h2, .inr (2, [.int f_history_h2_knots_16, .int f_history_h2_threads_17, .ref q_history_h2_ends, .ref q_history_h2_colours])), (q_history_h2_ends, .inl (cI, 21, .inl f_history_h2_ends_18)), (q_history_h2_colours, .inl (cI, 21, .inl f_history_h2_colours_19)), (q_history_h3, .inr (2, [.int f_history_h3_knots_20, .int f_history_h3_threads_21, .ref q_history_h3_ends, .ref q_history_h3_colours])), (q_history_h3_ends, .inl (cI, 21, .inl f_history_h3_ends_22)), (q_history_h3_colours, .inl (cI, 21, .inl f_history_h3_colours_23)), (q_net, .inr (2, [.int f_net_knots, .int f_net_threads, .ref q_net_ends, .ref q_net_colours])), (q_net_ends, .inl (cI, 21, .inl f_net_ends)), (q_net_colours, .inl (cI, 21, .inl f_net_colours))]) (va_runV (As := [.ref q_net]) (rest := []) ⟨hx, hb, hml, hown, hts⟩ (k_X1_push l D cI cC cN N q_history q_history_states q_history_h0 q_history_h1 q_history_h2 q_history_h3 q_history_h0_ends q_history_h0_colours q_history_h1_ends q_history_h1_colours q_history_h2_ends q_history_h2_colours q_history_h3_ends q_history_h3_colours q_net q_net_ends q_net_colours H.size f_history_size f_history_h0_knots f_history_h0_threads f_history_h0_ends f_history_h0_colours f_history_h1_knots f_history_h1_threads f_history_h1_ends f_history_h1_colours f_history_h2_knots f_history_h2_threads f_history_h2_ends f_history_h2_colours f_history_h3_knots f_history_h3_threads f_history_h3_ends f_history_h3_colours f_net_knots f_net_threads f_net_ends f_net_colours f_history_size_7 f_history_h0_knots_8 f_history_h0_threads_9 f_history_h0_ends_10 f_history_h0_colours_11 f_history_h1_knots_12 f_history_h1_threads_13 f_history_h1_ends_14 f_history_h1_colours_15 f_history_h2_knots_16 f_history_h2_threads_17 f_history_h2_ends_18 f_history_h2_colours_19 f_history_h3_knots_20 f_history_h3_threads_21 f_history_h3_ends_22 f_history_h3_colours_23 h_24) (cwV 1 hts gX6_grow_X1_push rfl rfl rfl (by decide +kernel) ⟨Nat.le_of_ble_eq_true rfl, Nat.le_of_ble_eq_true rfl⟩) ⟨g_blind, va_recv (D := D) (ci := 1) (q0 := 1) hK hP rfl rfl, g_pre (hP.sub [1, 2, 3, 4, 5, 6, 7, 8, 9, 10, 11, 12, 13, 14, 15, 16, 17] rfl) hK hN (hD.sub [1, 2, 3, 4, 5, 6, 7, 8, 9, 10, 11, 12, 13, 14, 15, 16, 17] (by decide) rfl)⟩ rfl rfl hl.1 rfl (lv_room (Nat.le_of_ble_eq_true rfl)) dX6_grow_52 ⟨Nat.zero_le _, Nat.zero_le _⟩) hP hD hS hA [1, 2, 3, 4, 5, 6, 7, 8, 9, 10, 11, 12, 13, 14, 15, 16, 17] [0] rfl rfl (by decide) (by decide) rfl (fun H locs hP hD hS => ?_)
        refine lv_aload_n hx hb dX6_grow_55 rfl (lv_at hl 0 rfl) ?_
        refine va_get (D := D) (ci := 5) (v := .ref q_net) (C := RX6) (T := TX6) (N := 8) hx hb hts (by decide +kernel) hown hK hP 0 rfl rfl 0 (by decide) (hts (.fieldLink RX6 12 "KnotStripes" "net" "LKnotStripes$Net;") (by decide +kernel)) (fun _ h9 => h9) rfl dX6_grow_56 ?_
        refine lv_iload_n hx hb dX6_grow_59 rfl (lv_at hl 1 rfl) ?_
        obtain ⟨⟨f_net_knots_25, f_net_threads_26, f_net_ends_27, f_net_colours_28⟩, h_29, hm⟩ := bind_use hm
        refine g_kv (wc := [(q_net, .inr (2, [.int f_net_knots, .int f_net_threads, .ref q_net_ends, .ref q_net_colours])), (q_net_ends, .inl (cI, 21, .inl f_net_ends)), (q_net_colours, .inl (cI, 21, .inl f_net_colours))]) (wr := [(q, .inr (5, [.ref q_net, .ref q_draft, .ref q_snapshot, .int f_hasSnapshot, .ref q_history, .ref q_text, .ref q_painter, .ref q_covers])), (q_history, .inr (1, [.ref q_history_states, .int f_history_size_7])), (q_history_states, .inl (cN, 4, .inr (.inr (.inr (.inr (hisG q_history_h0 q_history_h1 q_history_h2 q_history_h3)))))), (q_history_h0, .inr (2, [.int f_history_h0_knots_8, .int f_history_h0_threads_9, .ref q_history_h0_ends, .ref q_history_h0_colours])), (q_history_h0_ends, .inl (cI, 21, .inl f_history_h0_ends_10)), (q_history_h0_colours, .inl (cI, 21, .inl f_history_h0_colours_11)), (q_history_h1, .inr (2, [.int f_history_h1_knots_12, .int f_history_h1_threads_13, .ref q_history_h1_ends, .ref q_history_h1_colours])), (q_history_h1_ends, .inl (cI, 21, .inl f_history_h1_ends_14)), (q_history_h1_colours, .inl (cI, 21, .inl f_history_h1_colours_15)), (q_history_h2, .inr (2, [.int f_history_h2_knots_16, .int f_history_h2_threads_17, .ref q_history_h2_ends, .ref q_history_h2_colours])), (q_history_h2_ends, .inl (cI, 21, .inl f_history_h2_ends_18)), (q_history_h2_colours, .inl (cI, 21, .inl f_history_h2_colours_19)), (q_history_h3, .inr (2, [.int f_history_h3_knots_20, .int f_history_h3_threads_21, .ref q_history_h3_ends, .ref q_history_h3_colours])), (q_history_h3_ends, .inl (cI, 21, .inl f_history_h3_ends_22)), (q_history_h3_colours, .inl (cI, 21, .inl f_history_h3_colours_23))]) (w2 := [(q, .inr (5, [.ref q_net, .ref q_draft, .ref q_snapshot, .int f_hasSnapshot, .ref q_history, .ref q_text, .ref q_painter, .ref q_covers])), (q_history, .inr (1, [.ref q_history_states, .int f_history_size_7])), (q_history_states, .inl (cN, 4, .inr (.inr (.inr (.inr (hisG q_history_h0 q_history_h1 q_history_h2 q_history_h3)))))), (q_history_h0, .inr (2, [.int f_history_h0_knots_8, .int f_history_h0_threads_9, .ref q_history_h0_ends, .ref q_history_h0_colours])), (q_history_h0_ends, .inl (cI, 21, .inl f_history_h0_ends_10)), (q_history_h0_colours, .inl (cI, 21, .inl f_history_h0_colours_11)), (q_history_h1, .inr (2, [.int f_history_h1_knots_12, .int f_history_h1_threads_13, .ref q_history_h1_ends, .ref q_history_h1_colours])), (q_history_h1_ends, .inl (cI, 21, .inl f_history_h1_ends_14)), (q_history_h1_colours, .inl (cI, 21, .inl f_history_h1_colours_15)), (q_history_h2, .inr (2, [.int f_history_h2_knots_16, .int f_history_h2_threads_17, .ref q_history_h2_ends, .ref q_history_h2_colours])), (q_history_h2_ends, .inl (cI, 21, .inl f_history_h2_ends_18)), (q_history_h2_colours, .inl (cI, 21, .inl f_history_h2_colours_19)), (q_history_h3, .inr (2, [.int f_history_h3_knots_20, .int f_history_h3_threads_21, .ref q_history_h3_ends, .ref q_history_h3_colours])), (q_history_h3_ends, .inl (cI, 21, .inl f_history_h3_ends_22)), (q_history_h3_colours, .inl (cI, 21, .inl f_history_h3_colours_23)), (q_net, .inr (2, [.int f_net_knots_25, .int f_net_threads_26, .ref q_net_ends, .ref q_net_colours])), (q_net_ends, .inl (cI, 21, .inl f_net_ends_27)), (q_net_colours, .inl (cI, 21, .inl f_net_colours_28))]) (va_runV (As := [.int a1]) (rest := []) ⟨hx, hb, hml, hown, hts⟩ (k_X2_growInto l D cI cC cN N q_net q_net_ends q_net_colours H.size f_net_knots f_net_threads f_net_ends f_net_colours a1 f_net_knots_25 f_net_threads_26 f_net_ends_27 f_net_colours_28 h_29) (cwV 1 hts gX6_grow_X2_growInto rfl rfl rfl (by decide +kernel) ⟨Nat.le_of_ble_eq_true rfl, Nat.le_of_ble_eq_true rfl⟩) ⟨g_blind, va_recv (D := D) (ci := 2) (q0 := 15) hK hP rfl rfl, g_pre (hP.sub [15, 16, 17] rfl) hK hN (hD.sub [15, 16, 17] (by decide) rfl)⟩ rfl rfl hl.1 rfl (lv_room (Nat.le_of_ble_eq_true rfl)) dX6_grow_60 ⟨Nat.zero_le _, Nat.zero_le _⟩) hP hD hS hA [15, 16, 17] [0, 1, 2, 3, 4, 5, 6, 7, 8, 9, 10, 11, 12, 13, 14] rfl rfl (by decide) (by decide) rfl (fun H locs hP hD hS => ?_)
        refine lv_aload_n hx hb dX6_grow_63 rfl (lv_at hl 0 rfl) ?_
        refine va_get (D := D) (ci := 5) (v := .ref q_net) (C := RX6) (T := TX6) (N := 8) hx hb hts (by decide +kernel) hown hK hP 0 rfl rfl 0 (by decide) (hts (.fieldLink RX6 12 "KnotStripes" "net" "LKnotStripes$Net;") (by decide +kernel)) (fun _ h9 => h9) rfl dX6_grow_64 ?_
        obtain ⟨r_30, h_31, hm⟩ := bind_use hm
        refine g_ki (wc := [(q_net, .inr (2, [.int f_net_knots_25, .int f_net_threads_26, .ref q_net_ends, .ref q_net_colours])), (q_net_ends, .inl (cI, 21, .inl f_net_ends_27)), (q_net_colours, .inl (cI, 21, .inl f_net_colours_28))]) (wr := [(q, .inr (5, [.ref q_net, .ref q_draft, .ref q_snapshot, .int f_hasSnapshot, .ref q_history, .ref q_text, .ref q_painter, .ref q_covers])), (q_history, .inr (1, [.ref q_history_states, .int f_history_size_7])), (q_history_states, .inl (cN, 4, .inr (.inr (.inr (.inr (hisG q_history_h0 q_history_h1 q_history_h2 q_history_h3)))))), (q_history_h0, .inr (2, [.int f_history_h0_knots_8, .int f_history_h0_threads_9, .ref q_history_h0_ends, .ref q_history_h0_colours])), (q_history_h0_ends, .inl (cI, 21, .inl f_history_h0_ends_10)), (q_history_h0_colours, .inl (cI, 21, .inl f_history_h0_colours_11)), (q_history_h1, .inr (2, [.int f_history_h1_knots_12, .int f_history_h1_threads_13, .ref q_history_h1_ends, .ref q_history_h1_colours])), (q_history_h1_ends, .inl (cI, 21, .inl f_history_h1_ends_14)), (q_history_h1_colours, .inl (cI, 21, .inl f_history_h1_colours_15)), (q_history_h2, .inr (2, [.int f_history_h2_knots_16, .int f_history_h2_threads_17, .ref q_history_h2_ends, .ref q_history_h2_colours])), (q_history_h2_ends, .inl (cI, 21, .inl f_history_h2_ends_18)), (q_history_h2_colours, .inl (cI, 21, .inl f_history_h2_colours_19)), (q_history_h3, .inr (2, [.int f_history_h3_knots_20, .int f_history_h3_threads_21, .ref q_history_h3_ends, .ref q_history_h3_colours])), (q_history_h3_ends, .inl (cI, 21, .inl f_history_h3_ends_22)), (q_history_h3_colours, .inl (cI, 21, .inl f_history_h3_colours_23))]) (w2 := [(q, .inr (5, [.ref q_net, .ref q_draft, .ref q_snapshot, .int f_hasSnapshot, .ref q_history, .ref q_text, .ref q_painter, .ref q_covers])), (q_history, .inr (1, [.ref q_history_states, .int f_history_size_7])), (q_history_states, .inl (cN, 4, .inr (.inr (.inr (.inr (hisG q_history_h0 q_history_h1 q_history_h2 q_history_h3)))))), (q_history_h0, .inr (2, [.int f_history_h0_knots_8, .int f_history_h0_threads_9, .ref q_history_h0_ends, .ref q_history_h0_colours])), (q_history_h0_ends, .inl (cI, 21, .inl f_history_h0_ends_10)), (q_history_h0_colours, .inl (cI, 21, .inl f_history_h0_colours_11)), (q_history_h1, .inr (2, [.int f_history_h1_knots_12, .int f_history_h1_threads_13, .ref q_history_h1_ends, .ref q_history_h1_colours])), (q_history_h1_ends, .inl (cI, 21, .inl f_history_h1_ends_14)), (q_history_h1_colours, .inl (cI, 21, .inl f_history_h1_colours_15)), (q_history_h2, .inr (2, [.int f_history_h2_knots_16, .int f_history_h2_threads_17, .ref q_history_h2_ends, .ref q_history_h2_colours])), (q_history_h2_ends, .inl (cI, 21, .inl f_history_h2_ends_18)), (q_history_h2_colours, .inl (cI, 21, .inl f_history_h2_colours_19)), (q_history_h3, .inr (2, [.int f_history_h3_knots_20, .int f_history_h3_threads_21, .ref q_history_h3_ends, .ref q_history_h3_colours])), (q_history_h3_ends, .inl (cI, 21, .inl f_history_h3_ends_22)), (q_history_h3_colours, .inl (cI, 21, .inl f_history_h3_colours_23)), (q_net, .inr (2, [.int f_net_knots_25, .int f_net_threads_26, .ref q_net_ends, .ref q_net_colours])), (q_net_ends, .inl (cI, 21, .inl f_net_ends_27)), (q_net_colours, .inl (cI, 21, .inl f_net_colours_28))]) (va_runV (As := []) (rest := []) ⟨hx, hb, hml, hown, hts⟩ (k_X2_knots l D cI cC cN N q_net q_net_ends q_net_colours H.size f_net_knots_25 f_net_threads_26 f_net_ends_27 f_net_colours_28 r_30 h_31) (cwV 0 hts gX6_grow_X2_knots rfl rfl rfl (by decide +kernel) ⟨Nat.le_of_ble_eq_true rfl, Nat.le_of_ble_eq_true rfl⟩) ⟨g_blind, va_recv (D := D) (ci := 2) (q0 := 15) hK hP rfl rfl, g_pre (hP.sub [15, 16, 17] rfl) hK hN (hD.sub [15, 16, 17] (by decide) rfl)⟩ rfl rfl hl.1 rfl (lv_room (Nat.le_of_ble_eq_true rfl)) dX6_grow_67 ⟨Nat.zero_le _, Nat.zero_le _⟩) hP hD hS hA [15, 16, 17] [0, 1, 2, 3, 4, 5, 6, 7, 8, 9, 10, 11, 12, 13, 14] rfl rfl (by decide) (by decide) rfl (fun H locs hP hD hS => ?_)
        refine lv_iconst (v := 2) hx hb dX6_grow_70 (by decide) ?_
        refine lv_isub hx hb dX6_grow_71 ?_
        have z1 := so_use hm
        obtain ⟨y1, z2⟩ := pr_use z1
        obtain ⟨y2, z3⟩ := pr_use z2
        obtain ⟨y3, z4⟩ := pr_use z3
        obtain ⟨y4, z5⟩ := pr_use z4
        obtain ⟨y5, z6⟩ := pr_use z5
        obtain ⟨y6, z7⟩ := pr_use z6
        obtain ⟨y7, z8⟩ := pr_use z7
        obtain ⟨y8, z9⟩ := pr_use z8
        obtain ⟨y9, z10⟩ := pr_use z9
        obtain ⟨y10, z11⟩ := pr_use z10
        obtain ⟨y11, z12⟩ := pr_use z11
        obtain ⟨y12, z13⟩ := pr_use z12
        obtain ⟨y13, z14⟩ := pr_use z13
        obtain ⟨y14, z15⟩ := pr_use z14
        obtain ⟨y15, z16⟩ := pr_use z15
        obtain ⟨y16, z17⟩ := pr_use z16
        obtain ⟨y17, z18⟩ := pr_use z17
        obtain ⟨y18, z19⟩ := pr_use z18
        obtain ⟨y19, z20⟩ := pr_use z19
        obtain ⟨y20, z21⟩ := pr_use z20
        obtain ⟨y21, z22⟩ := pr_use z21
        subst y1
        subst y2
        subst y3
        subst y4
        subst y5
        subst y6
        subst y7
        subst y8
        subst y9
        subst y10
        subst y11
        subst y12
        subst y13
        subst y14
        subst y15
        subst y16
        subst y17
        subst y18
        subst y19
        subst y20
        subst y21
        subst z22
        exact hret _ _ _ _ _ dX6_grow_72 rfl rfl (hP.sub [0, 15, 16, 17, 1, 2, 3, 4, 5, 6, 7, 8, 9, 10, 11, 12, 13, 14] rfl) (hD.sub [0, 15, 16, 17, 1, 2, 3, 4, 5, 6, 7, 8, 9, 10, 11, 12, 13, 14] (by decide) rfl) hS
      · have hm := if_f _ hc hm
        refine lv_bipush (v := (-3)) hx hb dX6_grow_41 (by decide) ?_
        have z1 := so_use hm
        obtain ⟨y1, z2⟩ := pr_use z1
        obtain ⟨y2, z3⟩ := pr_use z2
        obtain ⟨y3, z4⟩ := pr_use z3
        obtain ⟨y4, z5⟩ := pr_use z4
        obtain ⟨y5, z6⟩ := pr_use z5
        obtain ⟨y6, z7⟩ := pr_use z6
        obtain ⟨y7, z8⟩ := pr_use z7
        obtain ⟨y8, z9⟩ := pr_use z8
        obtain ⟨y9, z10⟩ := pr_use z9
        obtain ⟨y10, z11⟩ := pr_use z10
        obtain ⟨y11, z12⟩ := pr_use z11
        obtain ⟨y12, z13⟩ := pr_use z12
        obtain ⟨y13, z14⟩ := pr_use z13
        obtain ⟨y14, z15⟩ := pr_use z14
        obtain ⟨y15, z16⟩ := pr_use z15
        obtain ⟨y16, z17⟩ := pr_use z16
        obtain ⟨y17, z18⟩ := pr_use z17
        obtain ⟨y18, z19⟩ := pr_use z18
        obtain ⟨y19, z20⟩ := pr_use z19
        obtain ⟨y20, z21⟩ := pr_use z20
        obtain ⟨y21, z22⟩ := pr_use z21
        subst y1
        subst y2
        subst y3
        subst y4
        subst y5
        subst y6
        subst y7
        subst y8
        subst y9
        subst y10
        subst y11
        subst y12
        subst y13
        subst y14
        subst y15
        subst y16
        subst y17
        subst y18
        subst y19
        subst y20
        subst y21
        subst z22
        exact hret _ _ _ _ _ dX6_grow_43 rfl rfl (hP.sub [0, 15, 16, 17, 1, 2, 3, 4, 5, 6, 7, 8, 9, 10, 11, 12, 13, 14] rfl) (hD.sub [0, 15, 16, 17, 1, 2, 3, 4, 5, 6, 7, 8, 9, 10, 11, 12, 13, 14] (by decide) rfl) hS
    · have hm := if_t _ hc hm
      refine lv_bipush (v := (-4)) hx hb dX6_grow_24 (by decide) ?_
      have z1 := so_use hm
      obtain ⟨y1, z2⟩ := pr_use z1
      obtain ⟨y2, z3⟩ := pr_use z2
      obtain ⟨y3, z4⟩ := pr_use z3
      obtain ⟨y4, z5⟩ := pr_use z4
      obtain ⟨y5, z6⟩ := pr_use z5
      obtain ⟨y6, z7⟩ := pr_use z6
      obtain ⟨y7, z8⟩ := pr_use z7
      obtain ⟨y8, z9⟩ := pr_use z8
      obtain ⟨y9, z10⟩ := pr_use z9
      obtain ⟨y10, z11⟩ := pr_use z10
      obtain ⟨y11, z12⟩ := pr_use z11
      obtain ⟨y12, z13⟩ := pr_use z12
      obtain ⟨y13, z14⟩ := pr_use z13
      obtain ⟨y14, z15⟩ := pr_use z14
      obtain ⟨y15, z16⟩ := pr_use z15
      obtain ⟨y16, z17⟩ := pr_use z16
      obtain ⟨y17, z18⟩ := pr_use z17
      obtain ⟨y18, z19⟩ := pr_use z18
      obtain ⟨y19, z20⟩ := pr_use z19
      obtain ⟨y20, z21⟩ := pr_use z20
      obtain ⟨y21, z22⟩ := pr_use z21
      subst y1
      subst y2
      subst y3
      subst y4
      subst y5
      subst y6
      subst y7
      subst y8
      subst y9
      subst y10
      subst y11
      subst y12
      subst y13
      subst y14
      subst y15
      subst y16
      subst y17
      subst y18
      subst y19
      subst y20
      subst y21
      subst z22
      exact hret _ _ _ _ _ dX6_grow_26 rfl rfl (hP.sub [0, 15, 16, 17, 1, 2, 3, 4, 5, 6, 7, 8, 9, 10, 11, 12, 13, 14] rfl) (hD.sub [0, 15, 16, 17, 1, 2, 3, 4, 5, 6, 7, 8, 9, 10, 11, 12, 13, 14] (by decide) rfl) hS
  · have hm := if_t _ hc hm
    refine lv_iconst (v := (-1)) hx hb dX6_grow_11 (by decide) ?_
    have z1 := so_use hm
    obtain ⟨y1, z2⟩ := pr_use z1
    obtain ⟨y2, z3⟩ := pr_use z2
    obtain ⟨y3, z4⟩ := pr_use z3
    obtain ⟨y4, z5⟩ := pr_use z4
    obtain ⟨y5, z6⟩ := pr_use z5
    obtain ⟨y6, z7⟩ := pr_use z6
    obtain ⟨y7, z8⟩ := pr_use z7
    obtain ⟨y8, z9⟩ := pr_use z8
    obtain ⟨y9, z10⟩ := pr_use z9
    obtain ⟨y10, z11⟩ := pr_use z10
    obtain ⟨y11, z12⟩ := pr_use z11
    obtain ⟨y12, z13⟩ := pr_use z12
    obtain ⟨y13, z14⟩ := pr_use z13
    obtain ⟨y14, z15⟩ := pr_use z14
    obtain ⟨y15, z16⟩ := pr_use z15
    obtain ⟨y16, z17⟩ := pr_use z16
    obtain ⟨y17, z18⟩ := pr_use z17
    obtain ⟨y18, z19⟩ := pr_use z18
    obtain ⟨y19, z20⟩ := pr_use z19
    obtain ⟨y20, z21⟩ := pr_use z20
    obtain ⟨y21, z22⟩ := pr_use z21
    subst y1
    subst y2
    subst y3
    subst y4
    subst y5
    subst y6
    subst y7
    subst y8
    subst y9
    subst y10
    subst y11
    subst y12
    subst y13
    subst y14
    subst y15
    subst y16
    subst y17
    subst y18
    subst y19
    subst y20
    subst y21
    subst z22
    exact hret _ _ _ _ _ dX6_grow_12 rfl rfl (hP.sub [0, 15, 16, 17, 1, 2, 3, 4, 5, 6, 7, 8, 9, 10, 11, 12, 13, 14] rfl) (hD.sub [0, 15, 16, 17, 1, 2, 3, 4, 5, 6, 7, 8, 9, 10, 11, 12, 13, 14] (by decide) rfl) hS
abbrev rX6_shrink : Room := { frames := 5, cells := 0, slots := 0, locals := 114 }
set_option maxHeartbeats 4000000 in
set_option maxRecDepth 100000 in
theorem k_X6_shrink (l : Launch) (D : va_G) (cI cC cN : ClassId) (N : Nat) (q : Nat) (q_net : Nat) (q_draft : Nat) (q_snapshot : Nat) (q_history : Nat) (q_text : Nat) (q_painter : Nat) (q_covers : Nat) (q_net_ends : Nat) (q_net_colours : Nat) (q_history_states : Nat) (q_history_h0 : Nat) (q_history_h1 : Nat) (q_history_h2 : Nat) (q_history_h3 : Nat) (q_history_h0_ends : Nat) (q_history_h0_colours : Nat) (q_history_h1_ends : Nat) (q_history_h1_colours : Nat) (q_history_h2_ends : Nat) (q_history_h2_colours : Nat) (q_history_h3_ends : Nat) (q_history_h3_colours : Nat) (sz : Nat) (f_hasSnapshot : Int32) (f_net_knots : Int32) (f_net_threads : Int32) (f_net_ends : Nat → Int32) (f_net_colours : Nat → Int32) (f_history_size : Int32) (f_history_h0_knots : Int32) (f_history_h0_threads : Int32) (f_history_h0_ends : Nat → Int32) (f_history_h0_colours : Nat → Int32) (f_history_h1_knots : Int32) (f_history_h1_threads : Int32) (f_history_h1_ends : Nat → Int32) (f_history_h1_colours : Nat → Int32) (f_history_h2_knots : Int32) (f_history_h2_threads : Int32) (f_history_h2_ends : Nat → Int32) (f_history_h2_colours : Nat → Int32) (f_history_h3_knots : Int32) (f_history_h3_threads : Int32) (f_history_h3_ends : Nat → Int32) (f_history_h3_colours : Nat → Int32) (a1 : Int32) (r : Int32) (f_net_knots' : Int32) (f_net_threads' : Int32) (f_net_ends' : Nat → Int32) (f_net_colours' : Nat → Int32) (f_history_size' : Int32) (f_history_h0_knots' : Int32) (f_history_h0_threads' : Int32) (f_history_h0_ends' : Nat → Int32) (f_history_h0_colours' : Nat → Int32) (f_history_h1_knots' : Int32) (f_history_h1_threads' : Int32) (f_history_h1_ends' : Nat → Int32) (f_history_h1_colours' : Nat → Int32) (f_history_h2_knots' : Int32) (f_history_h2_threads' : Int32) (f_history_h2_ends' : Nat → Int32) (f_history_h2_colours' : Nat → Int32) (f_history_h3_knots' : Int32) (f_history_h3_threads' : Int32) (f_history_h3_ends' : Nat → Int32) (f_history_h3_colours' : Nat → Int32) (hm : m_X6_shrink N f_net_knots f_net_threads f_net_ends f_net_colours f_history_size f_history_h0_knots f_history_h0_threads f_history_h0_ends f_history_h0_colours f_history_h1_knots f_history_h1_threads f_history_h1_ends f_history_h1_colours f_history_h2_knots f_history_h2_threads f_history_h2_ends f_history_h2_colours f_history_h3_knots f_history_h3_threads f_history_h3_ends f_history_h3_colours a1 = some (r, f_net_knots', f_net_threads', f_net_ends', f_net_colours', f_history_size', f_history_h0_knots', f_history_h0_threads', f_history_h0_ends', f_history_h0_colours', f_history_h1_knots', f_history_h1_threads', f_history_h1_ends', f_history_h1_colours', f_history_h2_knots', f_history_h2_threads', f_history_h2_ends', f_history_h2_colours', f_history_h3_knots', f_history_h3_threads', f_history_h3_ends', f_history_h3_colours')) : Met l yX6_shrink wsX6_shrink (rX6_shrink) (gPc D (tysG cI cC cN) [.ref q, .int a1] [(q, .inr (5, [.ref q_net, .ref q_draft, .ref q_snapshot, .int f_hasSnapshot, .ref q_history, .ref q_text, .ref q_painter, .ref q_covers])), (q_net, .inr (2, [.int f_net_knots, .int f_net_threads, .ref q_net_ends, .ref q_net_colours])), (q_net_ends, .inl (cI, 21, .inl f_net_ends)), (q_net_colours, .inl (cI, 21, .inl f_net_colours)), (q_history, .inr (1, [.ref q_history_states, .int f_history_size])), (q_history_states, .inl (cN, 4, .inr (.inr (.inr (.inr (hisG q_history_h0 q_history_h1 q_history_h2 q_history_h3)))))), (q_history_h0, .inr (2, [.int f_history_h0_knots, .int f_history_h0_threads, .ref q_history_h0_ends, .ref q_history_h0_colours])), (q_history_h0_ends, .inl (cI, 21, .inl f_history_h0_ends)), (q_history_h0_colours, .inl (cI, 21, .inl f_history_h0_colours)), (q_history_h1, .inr (2, [.int f_history_h1_knots, .int f_history_h1_threads, .ref q_history_h1_ends, .ref q_history_h1_colours])), (q_history_h1_ends, .inl (cI, 21, .inl f_history_h1_ends)), (q_history_h1_colours, .inl (cI, 21, .inl f_history_h1_colours)), (q_history_h2, .inr (2, [.int f_history_h2_knots, .int f_history_h2_threads, .ref q_history_h2_ends, .ref q_history_h2_colours])), (q_history_h2_ends, .inl (cI, 21, .inl f_history_h2_ends)), (q_history_h2_colours, .inl (cI, 21, .inl f_history_h2_colours)), (q_history_h3, .inr (2, [.int f_history_h3_knots, .int f_history_h3_threads, .ref q_history_h3_ends, .ref q_history_h3_colours])), (q_history_h3_ends, .inl (cI, 21, .inl f_history_h3_ends)), (q_history_h3_colours, .inl (cI, 21, .inl f_history_h3_colours))] sz) (gQi D (tysG cI cC cN) (va_A [(q, .inr (5, [.ref q_net, .ref q_draft, .ref q_snapshot, .int f_hasSnapshot, .ref q_history, .ref q_text, .ref q_painter, .ref q_covers])), (q_net, .inr (2, [.int f_net_knots, .int f_net_threads, .ref q_net_ends, .ref q_net_colours])), (q_net_ends, .inl (cI, 21, .inl f_net_ends)), (q_net_colours, .inl (cI, 21, .inl f_net_colours)), (q_history, .inr (1, [.ref q_history_states, .int f_history_size])), (q_history_states, .inl (cN, 4, .inr (.inr (.inr (.inr (hisG q_history_h0 q_history_h1 q_history_h2 q_history_h3)))))), (q_history_h0, .inr (2, [.int f_history_h0_knots, .int f_history_h0_threads, .ref q_history_h0_ends, .ref q_history_h0_colours])), (q_history_h0_ends, .inl (cI, 21, .inl f_history_h0_ends)), (q_history_h0_colours, .inl (cI, 21, .inl f_history_h0_colours)), (q_history_h1, .inr (2, [.int f_history_h1_knots, .int f_history_h1_threads, .ref q_history_h1_ends, .ref q_history_h1_colours])), (q_history_h1_ends, .inl (cI, 21, .inl f_history_h1_ends)), (q_history_h1_colours, .inl (cI, 21, .inl f_history_h1_colours)), (q_history_h2, .inr (2, [.int f_history_h2_knots, .int f_history_h2_threads, .ref q_history_h2_ends, .ref q_history_h2_colours])), (q_history_h2_ends, .inl (cI, 21, .inl f_history_h2_ends)), (q_history_h2_colours, .inl (cI, 21, .inl f_history_h2_colours)), (q_history_h3, .inr (2, [.int f_history_h3_knots, .int f_history_h3_threads, .ref q_history_h3_ends, .ref q_history_h3_colours])), (q_history_h3_ends, .inl (cI, 21, .inl f_history_h3_ends)), (q_history_h3_colours, .inl (cI, 21, .inl f_history_h3_colours))] sz) [(q, .inr (5, [.ref q_net, .ref q_draft, .ref q_snapshot, .int f_hasSnapshot, .ref q_history, .ref q_text, .ref q_painter, .ref q_covers])), (q_net, .inr (2, [.int f_net_knots', .int f_net_threads', .ref q_net_ends, .ref q_net_colours])), (q_net_ends, .inl (cI, 21, .inl f_net_ends')), (q_net_colours, .inl (cI, 21, .inl f_net_colours')), (q_history, .inr (1, [.ref q_history_states, .int f_history_size'])), (q_history_states, .inl (cN, 4, .inr (.inr (.inr (.inr (hisG q_history_h0 q_history_h1 q_history_h2 q_history_h3)))))), (q_history_h0, .inr (2, [.int f_history_h0_knots', .int f_history_h0_threads', .ref q_history_h0_ends, .ref q_history_h0_colours])), (q_history_h0_ends, .inl (cI, 21, .inl f_history_h0_ends')), (q_history_h0_colours, .inl (cI, 21, .inl f_history_h0_colours')), (q_history_h1, .inr (2, [.int f_history_h1_knots', .int f_history_h1_threads', .ref q_history_h1_ends, .ref q_history_h1_colours])), (q_history_h1_ends, .inl (cI, 21, .inl f_history_h1_ends')), (q_history_h1_colours, .inl (cI, 21, .inl f_history_h1_colours')), (q_history_h2, .inr (2, [.int f_history_h2_knots', .int f_history_h2_threads', .ref q_history_h2_ends, .ref q_history_h2_colours])), (q_history_h2_ends, .inl (cI, 21, .inl f_history_h2_ends')), (q_history_h2_colours, .inl (cI, 21, .inl f_history_h2_colours')), (q_history_h3, .inr (2, [.int f_history_h3_knots', .int f_history_h3_threads', .ref q_history_h3_ends, .ref q_history_h3_colours])), (q_history_h3_ends, .inl (cI, 21, .inl f_history_h3_ends')), (q_history_h3_colours, .inl (cI, 21, .inl f_history_h3_colours'))] r) 0 0 (va_A [(q, .inr (5, [.ref q_net, .ref q_draft, .ref q_snapshot, .int f_hasSnapshot, .ref q_history, .ref q_text, .ref q_painter, .ref q_covers])), (q_net, .inr (2, [.int f_net_knots, .int f_net_threads, .ref q_net_ends, .ref q_net_colours])), (q_net_ends, .inl (cI, 21, .inl f_net_ends)), (q_net_colours, .inl (cI, 21, .inl f_net_colours)), (q_history, .inr (1, [.ref q_history_states, .int f_history_size])), (q_history_states, .inl (cN, 4, .inr (.inr (.inr (.inr (hisG q_history_h0 q_history_h1 q_history_h2 q_history_h3)))))), (q_history_h0, .inr (2, [.int f_history_h0_knots, .int f_history_h0_threads, .ref q_history_h0_ends, .ref q_history_h0_colours])), (q_history_h0_ends, .inl (cI, 21, .inl f_history_h0_ends)), (q_history_h0_colours, .inl (cI, 21, .inl f_history_h0_colours)), (q_history_h1, .inr (2, [.int f_history_h1_knots, .int f_history_h1_threads, .ref q_history_h1_ends, .ref q_history_h1_colours])), (q_history_h1_ends, .inl (cI, 21, .inl f_history_h1_ends)), (q_history_h1_colours, .inl (cI, 21, .inl f_history_h1_colours)), (q_history_h2, .inr (2, [.int f_history_h2_knots, .int f_history_h2_threads, .ref q_history_h2_ends, .ref q_history_h2_colours])), (q_history_h2_ends, .inl (cI, 21, .inl f_history_h2_ends)), (q_history_h2_colours, .inl (cI, 21, .inl f_history_h2_colours)), (q_history_h3, .inr (2, [.int f_history_h3_knots, .int f_history_h3_threads, .ref q_history_h3_ends, .ref q_history_h3_colours])), (q_history_h3_ends, .inl (cI, 21, .inl f_history_h3_ends)), (q_history_h3_colours, .inl (cI, 21, .inl f_history_h3_colours))] sz) := by
  unfold m_X6_shrink at hm
  refine g_openI (cc := cX6_shrink) (maxL := 3) (own := RX6) (by decide) rfl rfl (Nat.le_of_ble_eq_true rfl) ?_
  intro p e s m args below meth c A Q hx hb hml hown hts hP hK hN hD hA hret ls hl
  have hS : va_S A s.heap s.heap [] := va_S.rf
  have hl : lv_has ls 3 [(0, .ref q), (1, .int a1)] := hl
  refine lv_aload_n hx hb dX6_shrink_0 rfl (lv_at hl 0 rfl) ?_
  refine va_get (D := D) (ci := 5) (v := .ref q_net) (C := RX6) (T := TX6) (N := 8) hx hb hts (by decide +kernel) hown hK hP 0 rfl rfl 0 (by decide) (hts (.fieldLink RX6 12 "KnotStripes" "net" "LKnotStripes$Net;") (by decide +kernel)) (fun _ h9 => h9) rfl dX6_shrink_1 ?_
  refine lv_iload_n hx hb dX6_shrink_4 rfl (lv_at hl 1 rfl) ?_
  obtain ⟨r_1, h_2, hm⟩ := bind_use hm
  refine g_ki (wc := [(q_net, .inr (2, [.int f_net_knots, .int f_net_threads, .ref q_net_ends, .ref q_net_colours])), (q_net_ends, .inl (cI, 21, .inl f_net_ends)), (q_net_colours, .inl (cI, 21, .inl f_net_colours))]) (wr := [(q, .inr (5, [.ref q_net, .ref q_draft, .ref q_snapshot, .int f_hasSnapshot, .ref q_history, .ref q_text, .ref q_painter, .ref q_covers])), (q_history, .inr (1, [.ref q_history_states, .int f_history_size])), (q_history_states, .inl (cN, 4, .inr (.inr (.inr (.inr (hisG q_history_h0 q_history_h1 q_history_h2 q_history_h3)))))), (q_history_h0, .inr (2, [.int f_history_h0_knots, .int f_history_h0_threads, .ref q_history_h0_ends, .ref q_history_h0_colours])), (q_history_h0_ends, .inl (cI, 21, .inl f_history_h0_ends)), (q_history_h0_colours, .inl (cI, 21, .inl f_history_h0_colours)), (q_history_h1, .inr (2, [.int f_history_h1_knots, .int f_history_h1_threads, .ref q_history_h1_ends, .ref q_history_h1_colours])), (q_history_h1_ends, .inl (cI, 21, .inl f_history_h1_ends)), (q_history_h1_colours, .inl (cI, 21, .inl f_history_h1_colours)), (q_history_h2, .inr (2, [.int f_history_h2_knots, .int f_history_h2_threads, .ref q_history_h2_ends, .ref q_history_h2_colours])), (q_history_h2_ends, .inl (cI, 21, .inl f_history_h2_ends)), (q_history_h2_colours, .inl (cI, 21, .inl f_history_h2_colours)), (q_history_h3, .inr (2, [.int f_history_h3_knots, .int f_history_h3_threads, .ref q_history_h3_ends, .ref q_history_h3_colours])), (q_history_h3_ends, .inl (cI, 21, .inl f_history_h3_ends)), (q_history_h3_colours, .inl (cI, 21, .inl f_history_h3_colours))]) (w2 := [(q, .inr (5, [.ref q_net, .ref q_draft, .ref q_snapshot, .int f_hasSnapshot, .ref q_history, .ref q_text, .ref q_painter, .ref q_covers])), (q_history, .inr (1, [.ref q_history_states, .int f_history_size])), (q_history_states, .inl (cN, 4, .inr (.inr (.inr (.inr (hisG q_history_h0 q_history_h1 q_history_h2 q_history_h3)))))), (q_history_h0, .inr (2, [.int f_history_h0_knots, .int f_history_h0_threads, .ref q_history_h0_ends, .ref q_history_h0_colours])), (q_history_h0_ends, .inl (cI, 21, .inl f_history_h0_ends)), (q_history_h0_colours, .inl (cI, 21, .inl f_history_h0_colours)), (q_history_h1, .inr (2, [.int f_history_h1_knots, .int f_history_h1_threads, .ref q_history_h1_ends, .ref q_history_h1_colours])), (q_history_h1_ends, .inl (cI, 21, .inl f_history_h1_ends)), (q_history_h1_colours, .inl (cI, 21, .inl f_history_h1_colours)), (q_history_h2, .inr (2, [.int f_history_h2_knots, .int f_history_h2_threads, .ref q_history_h2_ends, .ref q_history_h2_colours])), (q_history_h2_ends, .inl (cI, 21, .inl f_history_h2_ends)), (q_history_h2_colours, .inl (cI, 21, .inl f_history_h2_colours)), (q_history_h3, .inr (2, [.int f_history_h3_knots, .int f_history_h3_threads, .ref q_history_h3_ends, .ref q_history_h3_colours])), (q_history_h3_ends, .inl (cI, 21, .inl f_history_h3_ends)), (q_history_h3_colours, .inl (cI, 21, .inl f_history_h3_colours)), (q_net, .inr (2, [.int f_net_knots, .int f_net_threads, .ref q_net_ends, .ref q_net_colours])), (q_net_ends, .inl (cI, 21, .inl f_net_ends)), (q_net_colours, .inl (cI, 21, .inl f_net_colours))]) (va_runV (As := [.int a1]) (rest := []) ⟨hx, hb, hml, hown, hts⟩ (k_X2_hasKnot l D cI cC cN N q_net q_net_ends q_net_colours s.heap.size f_net_knots f_net_threads f_net_ends f_net_colours a1 r_1 h_2) (cwV 1 hts gX6_shrink_X2_hasKnot rfl rfl rfl (by decide +kernel) ⟨Nat.le_of_ble_eq_true rfl, Nat.le_of_ble_eq_true rfl⟩) ⟨g_blind, va_recv (D := D) (ci := 2) (q0 := 1) hK hP rfl rfl, g_pre (hP.sub [1, 2, 3] rfl) hK hN (hD.sub [1, 2, 3] (by decide) rfl)⟩ rfl rfl hl.1 rfl (lv_room (Nat.le_of_ble_eq_true rfl)) dX6_shrink_5 ⟨Nat.zero_le _, Nat.zero_le _⟩) hP hD hS hA [1, 2, 3] [0, 4, 5, 6, 7, 8, 9, 10, 11, 12, 13, 14, 15, 16, 17] rfl rfl (by decide) (by decide) rfl (fun H locs hP hD hS => ?_)
  refine lv_if_ne (tgt := 13) hx hb dX6_shrink_8 (by decide) (fun hc => ?_) (fun hc => ?_)
  · have hm := if_f _ hc hm
    refine lv_aload_n hx hb dX6_shrink_13 rfl (lv_at hl 0 rfl) ?_
    refine va_get (D := D) (ci := 5) (v := .ref q_net) (C := RX6) (T := TX6) (N := 8) hx hb hts (by decide +kernel) hown hK hP 0 rfl rfl 0 (by decide) (hts (.fieldLink RX6 12 "KnotStripes" "net" "LKnotStripes$Net;") (by decide +kernel)) (fun _ h9 => h9) rfl dX6_shrink_14 ?_
    refine lv_iload_n hx hb dX6_shrink_17 rfl (lv_at hl 1 rfl) ?_
    obtain ⟨r_3, h_4, hm⟩ := bind_use hm
    refine g_ki (wc := [(q_net, .inr (2, [.int f_net_knots, .int f_net_threads, .ref q_net_ends, .ref q_net_colours])), (q_net_ends, .inl (cI, 21, .inl f_net_ends)), (q_net_colours, .inl (cI, 21, .inl f_net_colours))]) (wr := [(q, .inr (5, [.ref q_net, .ref q_draft, .ref q_snapshot, .int f_hasSnapshot, .ref q_history, .ref q_text, .ref q_painter, .ref q_covers])), (q_history, .inr (1, [.ref q_history_states, .int f_history_size])), (q_history_states, .inl (cN, 4, .inr (.inr (.inr (.inr (hisG q_history_h0 q_history_h1 q_history_h2 q_history_h3)))))), (q_history_h0, .inr (2, [.int f_history_h0_knots, .int f_history_h0_threads, .ref q_history_h0_ends, .ref q_history_h0_colours])), (q_history_h0_ends, .inl (cI, 21, .inl f_history_h0_ends)), (q_history_h0_colours, .inl (cI, 21, .inl f_history_h0_colours)), (q_history_h1, .inr (2, [.int f_history_h1_knots, .int f_history_h1_threads, .ref q_history_h1_ends, .ref q_history_h1_colours])), (q_history_h1_ends, .inl (cI, 21, .inl f_history_h1_ends)), (q_history_h1_colours, .inl (cI, 21, .inl f_history_h1_colours)), (q_history_h2, .inr (2, [.int f_history_h2_knots, .int f_history_h2_threads, .ref q_history_h2_ends, .ref q_history_h2_colours])), (q_history_h2_ends, .inl (cI, 21, .inl f_history_h2_ends)), (q_history_h2_colours, .inl (cI, 21, .inl f_history_h2_colours)), (q_history_h3, .inr (2, [.int f_history_h3_knots, .int f_history_h3_threads, .ref q_history_h3_ends, .ref q_history_h3_colours])), (q_history_h3_ends, .inl (cI, 21, .inl f_history_h3_ends)), (q_history_h3_colours, .inl (cI, 21, .inl f_history_h3_colours))]) (w2 := [(q, .inr (5, [.ref q_net, .ref q_draft, .ref q_snapshot, .int f_hasSnapshot, .ref q_history, .ref q_text, .ref q_painter, .ref q_covers])), (q_history, .inr (1, [.ref q_history_states, .int f_history_size])), (q_history_states, .inl (cN, 4, .inr (.inr (.inr (.inr (hisG q_history_h0 q_history_h1 q_history_h2 q_history_h3)))))), (q_history_h0, .inr (2, [.int f_history_h0_knots, .int f_history_h0_threads, .ref q_history_h0_ends, .ref q_history_h0_colours])), (q_history_h0_ends, .inl (cI, 21, .inl f_history_h0_ends)), (q_history_h0_colours, .inl (cI, 21, .inl f_history_h0_colours)), (q_history_h1, .inr (2, [.int f_history_h1_knots, .int f_history_h1_threads, .ref q_history_h1_ends, .ref q_history_h1_colours])), (q_history_h1_ends, .inl (cI, 21, .inl f_history_h1_ends)), (q_history_h1_colours, .inl (cI, 21, .inl f_history_h1_colours)), (q_history_h2, .inr (2, [.int f_history_h2_knots, .int f_history_h2_threads, .ref q_history_h2_ends, .ref q_history_h2_colours])), (q_history_h2_ends, .inl (cI, 21, .inl f_history_h2_ends)), (q_history_h2_colours, .inl (cI, 21, .inl f_history_h2_colours)), (q_history_h3, .inr (2, [.int f_history_h3_knots, .int f_history_h3_threads, .ref q_history_h3_ends, .ref q_history_h3_colours])), (q_history_h3_ends, .inl (cI, 21, .inl f_history_h3_ends)), (q_history_h3_colours, .inl (cI, 21, .inl f_history_h3_colours)), (q_net, .inr (2, [.int f_net_knots, .int f_net_threads, .ref q_net_ends, .ref q_net_colours])), (q_net_ends, .inl (cI, 21, .inl f_net_ends)), (q_net_colours, .inl (cI, 21, .inl f_net_colours))]) (va_runV (As := [.int a1]) (rest := []) ⟨hx, hb, hml, hown, hts⟩ (k_X2_cornersBeside l D cI cC cN N q_net q_net_ends q_net_colours H.size f_net_knots f_net_threads f_net_ends f_net_colours a1 r_3 h_4) (cwV 1 hts gX6_shrink_X2_cornersBeside rfl rfl rfl (by decide +kernel) ⟨Nat.le_of_ble_eq_true rfl, Nat.le_of_ble_eq_true rfl⟩) ⟨g_blind, va_recv (D := D) (ci := 2) (q0 := 15) hK hP rfl rfl, g_pre (hP.sub [15, 16, 17] rfl) hK hN (hD.sub [15, 16, 17] (by decide) rfl)⟩ rfl rfl hl.1 rfl (lv_room (Nat.le_of_ble_eq_true rfl)) dX6_shrink_18 ⟨Nat.zero_le _, Nat.zero_le _⟩) hP hD hS hA [15, 16, 17] [0, 1, 2, 3, 4, 5, 6, 7, 8, 9, 10, 11, 12, 13, 14] rfl rfl (by decide) (by decide) rfl (fun H locs hP hD hS => ?_)
    refine lv_istore_n (lv' := [(2, .int r_3), (0, .ref q), (1, .int a1)]) hx hb dX6_shrink_21 rfl hl (by decide) rfl (fun ls hl => ?_)
    refine lv_iload_n hx hb dX6_shrink_22 rfl (lv_at hl 0 rfl) ?_
    refine lv_if_eq (tgt := 42) hx hb dX6_shrink_23 (by decide) (fun hc => ?_) (fun hc => ?_)
    · have hm := if_t _ hc hm
      refine lv_bipush (v := (-4)) hx hb dX6_shrink_42 (by decide) ?_
      have z1 := so_use hm
      obtain ⟨y1, z2⟩ := pr_use z1
      obtain ⟨y2, z3⟩ := pr_use z2
      obtain ⟨y3, z4⟩ := pr_use z3
      obtain ⟨y4, z5⟩ := pr_use z4
      obtain ⟨y5, z6⟩ := pr_use z5
      obtain ⟨y6, z7⟩ := pr_use z6
      obtain ⟨y7, z8⟩ := pr_use z7
      obtain ⟨y8, z9⟩ := pr_use z8
      obtain ⟨y9, z10⟩ := pr_use z9
      obtain ⟨y10, z11⟩ := pr_use z10
      obtain ⟨y11, z12⟩ := pr_use z11
      obtain ⟨y12, z13⟩ := pr_use z12
      obtain ⟨y13, z14⟩ := pr_use z13
      obtain ⟨y14, z15⟩ := pr_use z14
      obtain ⟨y15, z16⟩ := pr_use z15
      obtain ⟨y16, z17⟩ := pr_use z16
      obtain ⟨y17, z18⟩ := pr_use z17
      obtain ⟨y18, z19⟩ := pr_use z18
      obtain ⟨y19, z20⟩ := pr_use z19
      obtain ⟨y20, z21⟩ := pr_use z20
      obtain ⟨y21, z22⟩ := pr_use z21
      subst y1
      subst y2
      subst y3
      subst y4
      subst y5
      subst y6
      subst y7
      subst y8
      subst y9
      subst y10
      subst y11
      subst y12
      subst y13
      subst y14
      subst y15
      subst y16
      subst y17
      subst y18
      subst y19
      subst y20
      subst y21
      subst z22
      exact hret _ _ _ _ _ dX6_shrink_44 rfl rfl (hP.sub [0, 15, 16, 17, 1, 2, 3, 4, 5, 6, 7, 8, 9, 10, 11, 12, 13, 14] rfl) (hD.sub [0, 15, 16, 17, 1, 2, 3, 4, 5, 6, 7, 8, 9, 10, 11, 12, 13, 14] (by decide) rfl) hS
    · have hm := if_f _ hc hm
      refine lv_aload_n hx hb dX6_shrink_26 rfl (lv_at hl 1 rfl) ?_
      refine va_get (D := D) (ci := 5) (v := .ref q_net) (C := RX6) (T := TX6) (N := 8) hx hb hts (by decide +kernel) hown hK hP 0 rfl rfl 0 (by decide) (hts (.fieldLink RX6 12 "KnotStripes" "net" "LKnotStripes$Net;") (by decide +kernel)) (fun _ h9 => h9) rfl dX6_shrink_27 ?_
      refine lv_iload_n hx hb dX6_shrink_30 rfl (lv_at hl 0 rfl) ?_
      refine lv_iload_n hx hb dX6_shrink_31 rfl (lv_at hl 2 rfl) ?_
      obtain ⟨r_5, h_6, hm⟩ := bind_use hm
      refine g_ki (wc := []) (wr := [(q, .inr (5, [.ref q_net, .ref q_draft, .ref q_snapshot, .int f_hasSnapshot, .ref q_history, .ref q_text, .ref q_painter, .ref q_covers])), (q_history, .inr (1, [.ref q_history_states, .int f_history_size])), (q_history_states, .inl (cN, 4, .inr (.inr (.inr (.inr (hisG q_history_h0 q_history_h1 q_history_h2 q_history_h3)))))), (q_history_h0, .inr (2, [.int f_history_h0_knots, .int f_history_h0_threads, .ref q_history_h0_ends, .ref q_history_h0_colours])), (q_history_h0_ends, .inl (cI, 21, .inl f_history_h0_ends)), (q_history_h0_colours, .inl (cI, 21, .inl f_history_h0_colours)), (q_history_h1, .inr (2, [.int f_history_h1_knots, .int f_history_h1_threads, .ref q_history_h1_ends, .ref q_history_h1_colours])), (q_history_h1_ends, .inl (cI, 21, .inl f_history_h1_ends)), (q_history_h1_colours, .inl (cI, 21, .inl f_history_h1_colours)), (q_history_h2, .inr (2, [.int f_history_h2_knots, .int f_history_h2_threads, .ref q_history_h2_ends, .ref q_history_h2_colours])), (q_history_h2_ends, .inl (cI, 21, .inl f_history_h2_ends)), (q_history_h2_colours, .inl (cI, 21, .inl f_history_h2_colours)), (q_history_h3, .inr (2, [.int f_history_h3_knots, .int f_history_h3_threads, .ref q_history_h3_ends, .ref q_history_h3_colours])), (q_history_h3_ends, .inl (cI, 21, .inl f_history_h3_ends)), (q_history_h3_colours, .inl (cI, 21, .inl f_history_h3_colours)), (q_net, .inr (2, [.int f_net_knots, .int f_net_threads, .ref q_net_ends, .ref q_net_colours])), (q_net_ends, .inl (cI, 21, .inl f_net_ends)), (q_net_colours, .inl (cI, 21, .inl f_net_colours))]) (w2 := [(q, .inr (5, [.ref q_net, .ref q_draft, .ref q_snapshot, .int f_hasSnapshot, .ref q_history, .ref q_text, .ref q_painter, .ref q_covers])), (q_history, .inr (1, [.ref q_history_states, .int f_history_size])), (q_history_states, .inl (cN, 4, .inr (.inr (.inr (.inr (hisG q_history_h0 q_history_h1 q_history_h2 q_history_h3)))))), (q_history_h0, .inr (2, [.int f_history_h0_knots, .int f_history_h0_threads, .ref q_history_h0_ends, .ref q_history_h0_colours])), (q_history_h0_ends, .inl (cI, 21, .inl f_history_h0_ends)), (q_history_h0_colours, .inl (cI, 21, .inl f_history_h0_colours)), (q_history_h1, .inr (2, [.int f_history_h1_knots, .int f_history_h1_threads, .ref q_history_h1_ends, .ref q_history_h1_colours])), (q_history_h1_ends, .inl (cI, 21, .inl f_history_h1_ends)), (q_history_h1_colours, .inl (cI, 21, .inl f_history_h1_colours)), (q_history_h2, .inr (2, [.int f_history_h2_knots, .int f_history_h2_threads, .ref q_history_h2_ends, .ref q_history_h2_colours])), (q_history_h2_ends, .inl (cI, 21, .inl f_history_h2_ends)), (q_history_h2_colours, .inl (cI, 21, .inl f_history_h2_colours)), (q_history_h3, .inr (2, [.int f_history_h3_knots, .int f_history_h3_threads, .ref q_history_h3_ends, .ref q_history_h3_colours])), (q_history_h3_ends, .inl (cI, 21, .inl f_history_h3_ends)), (q_history_h3_colours, .inl (cI, 21, .inl f_history_h3_colours)), (q_net, .inr (2, [.int f_net_knots, .int f_net_threads, .ref q_net_ends, .ref q_net_colours])), (q_net_ends, .inl (cI, 21, .inl f_net_ends)), (q_net_colours, .inl (cI, 21, .inl f_net_colours))]) (va_runS (As := [.int a1]) (rest := [.int r_3, .ref q_net]) ⟨hx, hb, hml, hown, hts⟩ (k_X6_bit l D cI cC cN N H.size a1 r_5 h_6) (va_cwS 1 hts gX6_shrink_X6_bit rfl rfl rfl (by decide +kernel) ⟨Nat.le_of_ble_eq_true rfl, Nat.le_of_ble_eq_true rfl⟩) ⟨g_blind, g_pre (hP.sub [] rfl) hK hN (hD.sub [] (by decide) rfl)⟩ rfl rfl hl.1 rfl (lv_room (Nat.le_of_ble_eq_true rfl)) dX6_shrink_32 ⟨Nat.zero_le _, Nat.zero_le _⟩) hP hD hS hA [] [0, 1, 2, 3, 4, 5, 6, 7, 8, 9, 10, 11, 12, 13, 14, 15, 16, 17] rfl rfl (by decide) (by decide) rfl (fun H locs hP hD hS => ?_)
      refine lv_ior hx hb dX6_shrink_35 ?_
      obtain ⟨r_7, h_8, hm⟩ := bind_use hm
      refine g_ki (wc := [(q_net, .inr (2, [.int f_net_knots, .int f_net_threads, .ref q_net_ends, .ref q_net_colours])), (q_net_ends, .inl (cI, 21, .inl f_net_ends)), (q_net_colours, .inl (cI, 21, .inl f_net_colours))]) (wr := [(q, .inr (5, [.ref q_net, .ref q_draft, .ref q_snapshot, .int f_hasSnapshot, .ref q_history, .ref q_text, .ref q_painter, .ref q_covers])), (q_history, .inr (1, [.ref q_history_states, .int f_history_size])), (q_history_states, .inl (cN, 4, .inr (.inr (.inr (.inr (hisG q_history_h0 q_history_h1 q_history_h2 q_history_h3)))))), (q_history_h0, .inr (2, [.int f_history_h0_knots, .int f_history_h0_threads, .ref q_history_h0_ends, .ref q_history_h0_colours])), (q_history_h0_ends, .inl (cI, 21, .inl f_history_h0_ends)), (q_history_h0_colours, .inl (cI, 21, .inl f_history_h0_colours)), (q_history_h1, .inr (2, [.int f_history_h1_knots, .int f_history_h1_threads, .ref q_history_h1_ends, .ref q_history_h1_colours])), (q_history_h1_ends, .inl (cI, 21, .inl f_history_h1_ends)), (q_history_h1_colours, .inl (cI, 21, .inl f_history_h1_colours)), (q_history_h2, .inr (2, [.int f_history_h2_knots, .int f_history_h2_threads, .ref q_history_h2_ends, .ref q_history_h2_colours])), (q_history_h2_ends, .inl (cI, 21, .inl f_history_h2_ends)), (q_history_h2_colours, .inl (cI, 21, .inl f_history_h2_colours)), (q_history_h3, .inr (2, [.int f_history_h3_knots, .int f_history_h3_threads, .ref q_history_h3_ends, .ref q_history_h3_colours])), (q_history_h3_ends, .inl (cI, 21, .inl f_history_h3_ends)), (q_history_h3_colours, .inl (cI, 21, .inl f_history_h3_colours))]) (w2 := [(q, .inr (5, [.ref q_net, .ref q_draft, .ref q_snapshot, .int f_hasSnapshot, .ref q_history, .ref q_text, .ref q_painter, .ref q_covers])), (q_history, .inr (1, [.ref q_history_states, .int f_history_size])), (q_history_states, .inl (cN, 4, .inr (.inr (.inr (.inr (hisG q_history_h0 q_history_h1 q_history_h2 q_history_h3)))))), (q_history_h0, .inr (2, [.int f_history_h0_knots, .int f_history_h0_threads, .ref q_history_h0_ends, .ref q_history_h0_colours])), (q_history_h0_ends, .inl (cI, 21, .inl f_history_h0_ends)), (q_history_h0_colours, .inl (cI, 21, .inl f_history_h0_colours)), (q_history_h1, .inr (2, [.int f_history_h1_knots, .int f_history_h1_threads, .ref q_history_h1_ends, .ref q_history_h1_colours])), (q_history_h1_ends, .inl (cI, 21, .inl f_history_h1_ends)), (q_history_h1_colours, .inl (cI, 21, .inl f_history_h1_colours)), (q_history_h2, .inr (2, [.int f_history_h2_knots, .int f_history_h2_threads, .ref q_history_h2_ends, .ref q_history_h2_colours])), (q_history_h2_ends, .inl (cI, 21, .inl f_history_h2_ends)), (q_history_h2_colours, .inl (cI, 21, .inl f_history_h2_colours)), (q_history_h3, .inr (2, [.int f_history_h3_knots, .int f_history_h3_threads, .ref q_history_h3_ends, .ref q_history_h3_colours])), (q_history_h3_ends, .inl (cI, 21, .inl f_history_h3_ends)), (q_history_h3_colours, .inl (cI, 21, .inl f_history_h3_colours)), (q_net, .inr (2, [.int f_net_knots, .int f_net_threads, .ref q_net_ends, .ref q_net_colours])), (q_net_ends, .inl (cI, 21, .inl f_net_ends)), (q_net_colours, .inl (cI, 21, .inl f_net_colours))]) (va_runV (As := [.int (r_3 ||| r_5)]) (rest := []) ⟨hx, hb, hml, hown, hts⟩ (k_X2_mayMerge l D cI cC cN N q_net q_net_ends q_net_colours H.size f_net_knots f_net_threads f_net_ends f_net_colours (r_3 ||| r_5) r_7 h_8) (cwV 1 hts gX6_shrink_X2_mayMerge rfl rfl rfl (by decide +kernel) ⟨Nat.le_of_ble_eq_true rfl, Nat.le_of_ble_eq_true rfl⟩) ⟨g_blind, va_recv (D := D) (ci := 2) (q0 := 15) hK hP rfl rfl, g_pre (hP.sub [15, 16, 17] rfl) hK hN (hD.sub [15, 16, 17] (by decide) rfl)⟩ rfl rfl hl.1 rfl (lv_room (Nat.le_of_ble_eq_true rfl)) dX6_shrink_36 ⟨Nat.zero_le _, Nat.zero_le _⟩) hP hD hS hA [15, 16, 17] [0, 1, 2, 3, 4, 5, 6, 7, 8, 9, 10, 11, 12, 13, 14] rfl rfl (by decide) (by decide) rfl (fun H locs hP hD hS => ?_)
      refine lv_if_ne (tgt := 45) hx hb dX6_shrink_39 (by decide) (fun hc => ?_) (fun hc => ?_)
      · have hm := if_f _ hc hm
        refine lv_aload_n hx hb dX6_shrink_45 rfl (lv_at hl 1 rfl) ?_
        refine va_get (D := D) (ci := 5) (v := .ref q_history) (C := RX6) (T := TX6) (N := 8) hx hb hts (by decide +kernel) hown hK hP 0 rfl rfl 4 (by decide) (hts (.fieldLink RX6 29 "KnotStripes" "history" "LKnotStripes$History;") (by decide +kernel)) (fun _ h9 => h9) rfl dX6_shrink_46 ?_
        refine lv_aload_n hx hb dX6_shrink_49 rfl (lv_at hl 1 rfl) ?_
        refine va_get (D := D) (ci := 5) (v := .ref q_net) (C := RX6) (T := TX6) (N := 8) hx hb hts (by decide +kernel) hown hK hP 0 rfl rfl 0 (by decide) (hts (.fieldLink RX6 12 "KnotStripes" "net" "LKnotStripes$Net;") (by decide +kernel)) (fun _ h9 => h9) rfl dX6_shrink_50 ?_
        obtain ⟨⟨f_history_size_9, f_history_h0_knots_10, f_history_h0_threads_11, f_history_h0_ends_12, f_history_h0_colours_13, f_history_h1_knots_14, f_history_h1_threads_15, f_history_h1_ends_16, f_history_h1_colours_17, f_history_h2_knots_18, f_history_h2_threads_19, f_history_h2_ends_20, f_history_h2_colours_21, f_history_h3_knots_22, f_history_h3_threads_23, f_history_h3_ends_24, f_history_h3_colours_25⟩, h_26, hm⟩ := bind_use hm
        refine g_kv (wc := [(q_history, .inr (1, [.ref q_history_states, .int f_history_size])), (q_history_states, .inl (cN, 4, .inr (.inr (.inr (.inr (hisG q_history_h0 q_history_h1 q_history_h2 q_history_h3)))))), (q_history_h0, .inr (2, [.int f_history_h0_knots, .int f_history_h0_threads, .ref q_history_h0_ends, .ref q_history_h0_colours])), (q_history_h0_ends, .inl (cI, 21, .inl f_history_h0_ends)), (q_history_h0_colours, .inl (cI, 21, .inl f_history_h0_colours)), (q_history_h1, .inr (2, [.int f_history_h1_knots, .int f_history_h1_threads, .ref q_history_h1_ends, .ref q_history_h1_colours])), (q_history_h1_ends, .inl (cI, 21, .inl f_history_h1_ends)), (q_history_h1_colours, .inl (cI, 21, .inl f_history_h1_colours)), (q_history_h2, .inr (2, [.int f_history_h2_knots, .int f_history_h2_threads, .ref q_history_h2_ends, .ref q_history_h2_colours])), (q_history_h2_ends, .inl (cI, 21, .inl f_history_h2_ends)), (q_history_h2_colours, .inl (cI, 21, .inl f_history_h2_colours)), (q_history_h3, .inr (2, [.int f_history_h3_knots, .int f_history_h3_threads, .ref q_history_h3_ends, .ref q_history_h3_colours])), (q_history_h3_ends, .inl (cI, 21, .inl f_history_h3_ends)), (q_history_h3_colours, .inl (cI, 21, .inl f_history_h3_colours)), (q_net, .inr (2, [.int f_net_knots, .int f_net_threads, .ref q_net_ends, .ref q_net_colours])), (q_net_ends, .inl (cI, 21, .inl f_net_ends)), (q_net_colours, .inl (cI, 21, .inl f_net_colours))]) (wr := [(q, .inr (5, [.ref q_net, .ref q_draft, .ref q_snapshot, .int f_hasSnapshot, .ref q_history, .ref q_text, .ref q_painter, .ref q_covers]))]) (w2 := [(q, .inr (5, [.ref q_net, .ref q_draft, .ref q_snapshot, .int f_hasSnapshot, .ref q_history, .ref q_text, .ref q_painter, .ref q_covers])), (q_history, .inr (1, [.ref q_history_states, .int f_history_size_9])), (q_history_states, .inl (cN, 4, .inr (.inr (.inr (.inr (hisG q_history_h0 q_history_h1 q_history_h2 q_history_h3)))))), (q_history_h0, .inr (2, [.int f_history_h0_knots_10, .int f_history_h0_threads_11, .ref q_history_h0_ends, .ref q_history_h0_colours])), (q_history_h0_ends, .inl (cI, 21, .inl f_history_h0_ends_12)), (q_history_h0_colours, .inl (cI, 21, .inl f_history_h0_colours_13)), (q_history_h1, .inr (2, [.int f_history_h1_knots_14, .int f_history_h1_threads_15, .ref q_history_h1_ends, .ref q_history_h1_colours])), (q_history_h1_ends, .inl (cI, 21, .inl f_history_h1_ends_16)), (q_history_h1_colours, .inl (cI, 21, .inl f_history_h1_colours_17)), (q_history_h2, .inr (2, [.int f_history_h2_knots_18, .int f_history_h2_threads_19, .ref q_history_h2_ends, .ref q_history_h2_colours])), (q_history_h2_ends, .inl (cI, 21, .inl f_history_h2_ends_20)), (q_history_h2_colours, .inl (cI, 21, .inl f_history_h2_colours_21)), (q_history_h3, .inr (2, [.int f_history_h3_knots_22, .int f_history_h3_threads_23, .ref q_history_h3_ends, .ref q_history_h3_colours])), (q_history_h3_ends, .inl (cI, 21, .inl f_history_h3_ends_24)), (q_history_h3_colours, .inl (cI, 21, .inl f_history_h3_colours_25)), (q_net, .inr (2, [.int f_net_knots, .int f_net_threads, .ref q_net_ends, .ref q_net_colours])), (q_net_ends, .inl (cI, 21, .inl f_net_ends)), (q_net_colours, .inl (cI, 21, .inl f_net_colours))]) (va_runV (As := [.ref q_net]) (rest := []) ⟨hx, hb, hml, hown, hts⟩ (k_X1_push l D cI cC cN N q_history q_history_states q_history_h0 q_history_h1 q_history_h2 q_history_h3 q_history_h0_ends q_history_h0_colours q_history_h1_ends q_history_h1_colours q_history_h2_ends q_history_h2_colours q_history_h3_ends q_history_h3_colours q_net q_net_ends q_net_colours H.size f_history_size f_history_h0_knots f_history_h0_threads f_history_h0_ends f_history_h0_colours f_history_h1_knots f_history_h1_threads f_history_h1_ends f_history_h1_colours f_history_h2_knots f_history_h2_threads f_history_h2_ends f_history_h2_colours f_history_h3_knots f_history_h3_threads f_history_h3_ends f_history_h3_colours f_net_knots f_net_threads f_net_ends f_net_colours f_history_size_9 f_history_h0_knots_10 f_history_h0_threads_11 f_history_h0_ends_12 f_history_h0_colours_13 f_history_h1_knots_14 f_history_h1_threads_15 f_history_h1_ends_16 f_history_h1_colours_17 f_history_h2_knots_18 f_history_h2_threads_19 f_history_h2_ends_20 f_history_h2_colours_21 f_history_h3_knots_22 f_history_h3_threads_23 f_history_h3_ends_24 f_history_h3_colours_25 h_26) (cwV 1 hts gX6_shrink_X1_push rfl rfl rfl (by decide +kernel) ⟨Nat.le_of_ble_eq_true rfl, Nat.le_of_ble_eq_true rfl⟩) ⟨g_blind, va_recv (D := D) (ci := 1) (q0 := 1) hK hP rfl rfl, g_pre (hP.sub [1, 2, 3, 4, 5, 6, 7, 8, 9, 10, 11, 12, 13, 14, 15, 16, 17] rfl) hK hN (hD.sub [1, 2, 3, 4, 5, 6, 7, 8, 9, 10, 11, 12, 13, 14, 15, 16, 17] (by decide) rfl)⟩ rfl rfl hl.1 rfl (lv_room (Nat.le_of_ble_eq_true rfl)) dX6_shrink_53 ⟨Nat.zero_le _, Nat.zero_le _⟩) hP hD hS hA [1, 2, 3, 4, 5, 6, 7, 8, 9, 10, 11, 12, 13, 14, 15, 16, 17] [0] rfl rfl (by decide) (by decide) rfl (fun H locs hP hD hS => ?_)
        refine lv_aload_n hx hb dX6_shrink_56 rfl (lv_at hl 1 rfl) ?_
        refine va_get (D := D) (ci := 5) (v := .ref q_net) (C := RX6) (T := TX6) (N := 8) hx hb hts (by decide +kernel) hown hK hP 0 rfl rfl 0 (by decide) (hts (.fieldLink RX6 12 "KnotStripes" "net" "LKnotStripes$Net;") (by decide +kernel)) (fun _ h9 => h9) rfl dX6_shrink_57 ?_
        refine lv_iload_n hx hb dX6_shrink_60 rfl (lv_at hl 2 rfl) ?_
        refine lv_iload_n hx hb dX6_shrink_61 rfl (lv_at hl 0 rfl) ?_
        obtain ⟨⟨f_net_knots_27, f_net_threads_28, f_net_ends_29, f_net_colours_30⟩, h_31, hm⟩ := bind_use hm
        refine g_kv (wc := [(q_net, .inr (2, [.int f_net_knots, .int f_net_threads, .ref q_net_ends, .ref q_net_colours])), (q_net_ends, .inl (cI, 21, .inl f_net_ends)), (q_net_colours, .inl (cI, 21, .inl f_net_colours))]) (wr := [(q, .inr (5, [.ref q_net, .ref q_draft, .ref q_snapshot, .int f_hasSnapshot, .ref q_history, .ref q_text, .ref q_painter, .ref q_covers])), (q_history, .inr (1, [.ref q_history_states, .int f_history_size_9])), (q_history_states, .inl (cN, 4, .inr (.inr (.inr (.inr (hisG q_history_h0 q_history_h1 q_history_h2 q_history_h3)))))), (q_history_h0, .inr (2, [.int f_history_h0_knots_10, .int f_history_h0_threads_11, .ref q_history_h0_ends, .ref q_history_h0_colours])), (q_history_h0_ends, .inl (cI, 21, .inl f_history_h0_ends_12)), (q_history_h0_colours, .inl (cI, 21, .inl f_history_h0_colours_13)), (q_history_h1, .inr (2, [.int f_history_h1_knots_14, .int f_history_h1_threads_15, .ref q_history_h1_ends, .ref q_history_h1_colours])), (q_history_h1_ends, .inl (cI, 21, .inl f_history_h1_ends_16)), (q_history_h1_colours, .inl (cI, 21, .inl f_history_h1_colours_17)), (q_history_h2, .inr (2, [.int f_history_h2_knots_18, .int f_history_h2_threads_19, .ref q_history_h2_ends, .ref q_history_h2_colours])), (q_history_h2_ends, .inl (cI, 21, .inl f_history_h2_ends_20)), (q_history_h2_colours, .inl (cI, 21, .inl f_history_h2_colours_21)), (q_history_h3, .inr (2, [.int f_history_h3_knots_22, .int f_history_h3_threads_23, .ref q_history_h3_ends, .ref q_history_h3_colours])), (q_history_h3_ends, .inl (cI, 21, .inl f_history_h3_ends_24)), (q_history_h3_colours, .inl (cI, 21, .inl f_history_h3_colours_25))]) (w2 := [(q, .inr (5, [.ref q_net, .ref q_draft, .ref q_snapshot, .int f_hasSnapshot, .ref q_history, .ref q_text, .ref q_painter, .ref q_covers])), (q_history, .inr (1, [.ref q_history_states, .int f_history_size_9])), (q_history_states, .inl (cN, 4, .inr (.inr (.inr (.inr (hisG q_history_h0 q_history_h1 q_history_h2 q_history_h3)))))), (q_history_h0, .inr (2, [.int f_history_h0_knots_10, .int f_history_h0_threads_11, .ref q_history_h0_ends, .ref q_history_h0_colours])), (q_history_h0_ends, .inl (cI, 21, .inl f_history_h0_ends_12)), (q_history_h0_colours, .inl (cI, 21, .inl f_history_h0_colours_13)), (q_history_h1, .inr (2, [.int f_history_h1_knots_14, .int f_history_h1_threads_15, .ref q_history_h1_ends, .ref q_history_h1_colours])), (q_history_h1_ends, .inl (cI, 21, .inl f_history_h1_ends_16)), (q_history_h1_colours, .inl (cI, 21, .inl f_history_h1_colours_17)), (q_history_h2, .inr (2, [.int f_history_h2_knots_18, .int f_history_h2_threads_19, .ref q_history_h2_ends, .ref q_history_h2_colours])), (q_history_h2_ends, .inl (cI, 21, .inl f_history_h2_ends_20)), (q_history_h2_colours, .inl (cI, 21, .inl f_history_h2_colours_21)), (q_history_h3, .inr (2, [.int f_history_h3_knots_22, .int f_history_h3_threads_23, .ref q_history_h3_ends, .ref q_history_h3_colours])), (q_history_h3_ends, .inl (cI, 21, .inl f_history_h3_ends_24)), (q_history_h3_colours, .inl (cI, 21, .inl f_history_h3_colours_25)), (q_net, .inr (2, [.int f_net_knots_27, .int f_net_threads_28, .ref q_net_ends, .ref q_net_colours])), (q_net_ends, .inl (cI, 21, .inl f_net_ends_29)), (q_net_colours, .inl (cI, 21, .inl f_net_colours_30))]) (va_runV (As := [.int a1, .int r_3]) (rest := []) ⟨hx, hb, hml, hown, hts⟩ (k_X2_merge l D cI cC cN N q_net q_net_ends q_net_colours H.size f_net_knots f_net_threads f_net_ends f_net_colours a1 r_3 f_net_knots_27 f_net_threads_28 f_net_ends_29 f_net_colours_30 h_31) (cwV 2 hts gX6_shrink_X2_merge rfl rfl rfl (by decide +kernel) ⟨Nat.le_of_ble_eq_true rfl, Nat.le_of_ble_eq_true rfl⟩) ⟨g_blind, va_recv (D := D) (ci := 2) (q0 := 15) hK hP rfl rfl, g_pre (hP.sub [15, 16, 17] rfl) hK hN (hD.sub [15, 16, 17] (by decide) rfl)⟩ rfl rfl hl.1 rfl (lv_room (Nat.le_of_ble_eq_true rfl)) dX6_shrink_62 ⟨Nat.zero_le _, Nat.zero_le _⟩) hP hD hS hA [15, 16, 17] [0, 1, 2, 3, 4, 5, 6, 7, 8, 9, 10, 11, 12, 13, 14] rfl rfl (by decide) (by decide) rfl (fun H locs hP hD hS => ?_)
        refine lv_aload_n hx hb dX6_shrink_65 rfl (lv_at hl 1 rfl) ?_
        refine va_get (D := D) (ci := 5) (v := .ref q_net) (C := RX6) (T := TX6) (N := 8) hx hb hts (by decide +kernel) hown hK hP 0 rfl rfl 0 (by decide) (hts (.fieldLink RX6 12 "KnotStripes" "net" "LKnotStripes$Net;") (by decide +kernel)) (fun _ h9 => h9) rfl dX6_shrink_66 ?_
        obtain ⟨r_32, h_33, hm⟩ := bind_use hm
        refine g_ki (wc := [(q_net, .inr (2, [.int f_net_knots_27, .int f_net_threads_28, .ref q_net_ends, .ref q_net_colours])), (q_net_ends, .inl (cI, 21, .inl f_net_ends_29)), (q_net_colours, .inl (cI, 21, .inl f_net_colours_30))]) (wr := [(q, .inr (5, [.ref q_net, .ref q_draft, .ref q_snapshot, .int f_hasSnapshot, .ref q_history, .ref q_text, .ref q_painter, .ref q_covers])), (q_history, .inr (1, [.ref q_history_states, .int f_history_size_9])), (q_history_states, .inl (cN, 4, .inr (.inr (.inr (.inr (hisG q_history_h0 q_history_h1 q_history_h2 q_history_h3)))))), (q_history_h0, .inr (2, [.int f_history_h0_knots_10, .int f_history_h0_threads_11, .ref q_history_h0_ends, .ref q_history_h0_colours])), (q_history_h0_ends, .inl (cI, 21, .inl f_history_h0_ends_12)), (q_history_h0_colours, .inl (cI, 21, .inl f_history_h0_colours_13)), (q_history_h1, .inr (2, [.int f_history_h1_knots_14, .int f_history_h1_threads_15, .ref q_history_h1_ends, .ref q_history_h1_colours])), (q_history_h1_ends, .inl (cI, 21, .inl f_history_h1_ends_16)), (q_history_h1_colours, .inl (cI, 21, .inl f_history_h1_colours_17)), (q_history_h2, .inr (2, [.int f_history_h2_knots_18, .int f_history_h2_threads_19, .ref q_history_h2_ends, .ref q_history_h2_colours])), (q_history_h2_ends, .inl (cI, 21, .inl f_history_h2_ends_20)), (q_history_h2_colours, .inl (cI, 21, .inl f_history_h2_colours_21)), (q_history_h3, .inr (2, [.int f_history_h3_knots_22, .int f_history_h3_threads_23, .ref q_history_h3_ends, .ref q_history_h3_colours])), (q_history_h3_ends, .inl (cI, 21, .inl f_history_h3_ends_24)), (q_history_h3_colours, .inl (cI, 21, .inl f_history_h3_colours_25))]) (w2 := [(q, .inr (5, [.ref q_net, .ref q_draft, .ref q_snapshot, .int f_hasSnapshot, .ref q_history, .ref q_text, .ref q_painter, .ref q_covers])), (q_history, .inr (1, [.ref q_history_states, .int f_history_size_9])), (q_history_states, .inl (cN, 4, .inr (.inr (.inr (.inr (hisG q_history_h0 q_history_h1 q_history_h2 q_history_h3)))))), (q_history_h0, .inr (2, [.int f_history_h0_knots_10, .int f_history_h0_threads_11, .ref q_history_h0_ends, .ref q_history_h0_colours])), (q_history_h0_ends, .inl (cI, 21, .inl f_history_h0_ends_12)), (q_history_h0_colours, .inl (cI, 21, .inl f_history_h0_colours_13)), (q_history_h1, .inr (2, [.int f_history_h1_knots_14, .int f_history_h1_threads_15, .ref q_history_h1_ends, .ref q_history_h1_colours])), (q_history_h1_ends, .inl (cI, 21, .inl f_history_h1_ends_16)), (q_history_h1_colours, .inl (cI, 21, .inl f_history_h1_colours_17)), (q_history_h2, .inr (2, [.int f_history_h2_knots_18, .int f_history_h2_threads_19, .ref q_history_h2_ends, .ref q_history_h2_colours])), (q_history_h2_ends, .inl (cI, 21, .inl f_history_h2_ends_20)), (q_history_h2_colours, .inl (cI, 21, .inl f_history_h2_colours_21)), (q_history_h3, .inr (2, [.int f_history_h3_knots_22, .int f_history_h3_threads_23, .ref q_history_h3_ends, .ref q_history_h3_colours])), (q_history_h3_ends, .inl (cI, 21, .inl f_history_h3_ends_24)), (q_history_h3_colours, .inl (cI, 21, .inl f_history_h3_colours_25)), (q_net, .inr (2, [.int f_net_knots_27, .int f_net_threads_28, .ref q_net_ends, .ref q_net_colours])), (q_net_ends, .inl (cI, 21, .inl f_net_ends_29)), (q_net_colours, .inl (cI, 21, .inl f_net_colours_30))]) (va_runV (As := []) (rest := []) ⟨hx, hb, hml, hown, hts⟩ (k_X2_knots l D cI cC cN N q_net q_net_ends q_net_colours H.size f_net_knots_27 f_net_threads_28 f_net_ends_29 f_net_colours_30 r_32 h_33) (cwV 0 hts gX6_shrink_X2_knots rfl rfl rfl (by decide +kernel) ⟨Nat.le_of_ble_eq_true rfl, Nat.le_of_ble_eq_true rfl⟩) ⟨g_blind, va_recv (D := D) (ci := 2) (q0 := 15) hK hP rfl rfl, g_pre (hP.sub [15, 16, 17] rfl) hK hN (hD.sub [15, 16, 17] (by decide) rfl)⟩ rfl rfl hl.1 rfl (lv_room (Nat.le_of_ble_eq_true rfl)) dX6_shrink_69 ⟨Nat.zero_le _, Nat.zero_le _⟩) hP hD hS hA [15, 16, 17] [0, 1, 2, 3, 4, 5, 6, 7, 8, 9, 10, 11, 12, 13, 14] rfl rfl (by decide) (by decide) rfl (fun H locs hP hD hS => ?_)
        have z1 := so_use hm
        obtain ⟨y1, z2⟩ := pr_use z1
        obtain ⟨y2, z3⟩ := pr_use z2
        obtain ⟨y3, z4⟩ := pr_use z3
        obtain ⟨y4, z5⟩ := pr_use z4
        obtain ⟨y5, z6⟩ := pr_use z5
        obtain ⟨y6, z7⟩ := pr_use z6
        obtain ⟨y7, z8⟩ := pr_use z7
        obtain ⟨y8, z9⟩ := pr_use z8
        obtain ⟨y9, z10⟩ := pr_use z9
        obtain ⟨y10, z11⟩ := pr_use z10
        obtain ⟨y11, z12⟩ := pr_use z11
        obtain ⟨y12, z13⟩ := pr_use z12
        obtain ⟨y13, z14⟩ := pr_use z13
        obtain ⟨y14, z15⟩ := pr_use z14
        obtain ⟨y15, z16⟩ := pr_use z15
        obtain ⟨y16, z17⟩ := pr_use z16
        obtain ⟨y17, z18⟩ := pr_use z17
        obtain ⟨y18, z19⟩ := pr_use z18
        obtain ⟨y19, z20⟩ := pr_use z19
        obtain ⟨y20, z21⟩ := pr_use z20
        obtain ⟨y21, z22⟩ := pr_use z21
        subst y1
        subst y2
        subst y3
        subst y4
        subst y5
        subst y6
        subst y7
        subst y8
        subst y9
        subst y10
        subst y11
        subst y12
        subst y13
        subst y14
        subst y15
        subst y16
        subst y17
        subst y18
        subst y19
        subst y20
        subst y21
        subst z22
        exact hret _ _ _ _ _ dX6_shrink_72 rfl rfl (hP.sub [0, 15, 16, 17, 1, 2, 3, 4, 5, 6, 7, 8, 9, 10, 11, 12, 13, 14] rfl) (hD.sub [0, 15, 16, 17, 1, 2, 3, 4, 5, 6, 7, 8, 9, 10, 11, 12, 13, 14] (by decide) rfl) hS
      · have hm := if_t _ hc hm
        refine lv_bipush (v := (-4)) hx hb dX6_shrink_42 (by decide) ?_
        have z1 := so_use hm
        obtain ⟨y1, z2⟩ := pr_use z1
        obtain ⟨y2, z3⟩ := pr_use z2
        obtain ⟨y3, z4⟩ := pr_use z3
        obtain ⟨y4, z5⟩ := pr_use z4
        obtain ⟨y5, z6⟩ := pr_use z5
        obtain ⟨y6, z7⟩ := pr_use z6
        obtain ⟨y7, z8⟩ := pr_use z7
        obtain ⟨y8, z9⟩ := pr_use z8
        obtain ⟨y9, z10⟩ := pr_use z9
        obtain ⟨y10, z11⟩ := pr_use z10
        obtain ⟨y11, z12⟩ := pr_use z11
        obtain ⟨y12, z13⟩ := pr_use z12
        obtain ⟨y13, z14⟩ := pr_use z13
        obtain ⟨y14, z15⟩ := pr_use z14
        obtain ⟨y15, z16⟩ := pr_use z15
        obtain ⟨y16, z17⟩ := pr_use z16
        obtain ⟨y17, z18⟩ := pr_use z17
        obtain ⟨y18, z19⟩ := pr_use z18
        obtain ⟨y19, z20⟩ := pr_use z19
        obtain ⟨y20, z21⟩ := pr_use z20
        obtain ⟨y21, z22⟩ := pr_use z21
        subst y1
        subst y2
        subst y3
        subst y4
        subst y5
        subst y6
        subst y7
        subst y8
        subst y9
        subst y10
        subst y11
        subst y12
        subst y13
        subst y14
        subst y15
        subst y16
        subst y17
        subst y18
        subst y19
        subst y20
        subst y21
        subst z22
        exact hret _ _ _ _ _ dX6_shrink_44 rfl rfl (hP.sub [0, 15, 16, 17, 1, 2, 3, 4, 5, 6, 7, 8, 9, 10, 11, 12, 13, 14] rfl) (hD.sub [0, 15, 16, 17, 1, 2, 3, 4, 5, 6, 7, 8, 9, 10, 11, 12, 13, 14] (by decide) rfl) hS
  · have hm := if_t _ hc hm
    refine lv_iconst (v := (-1)) hx hb dX6_shrink_11 (by decide) ?_
    have z1 := so_use hm
    obtain ⟨y1, z2⟩ := pr_use z1
    obtain ⟨y2, z3⟩ := pr_use z2
    obtain ⟨y3, z4⟩ := pr_use z3
    obtain ⟨y4, z5⟩ := pr_use z4
    obtain ⟨y5, z6⟩ := pr_use z5
    obtain ⟨y6, z7⟩ := pr_use z6
    obtain ⟨y7, z8⟩ := pr_use z7
    obtain ⟨y8, z9⟩ := pr_use z8
    obtain ⟨y9, z10⟩ := pr_use z9
    obtain ⟨y10, z11⟩ := pr_use z10
    obtain ⟨y11, z12⟩ := pr_use z11
    obtain ⟨y12, z13⟩ := pr_use z12
    obtain ⟨y13, z14⟩ := pr_use z13
    obtain ⟨y14, z15⟩ := pr_use z14
    obtain ⟨y15, z16⟩ := pr_use z15
    obtain ⟨y16, z17⟩ := pr_use z16
    obtain ⟨y17, z18⟩ := pr_use z17
    obtain ⟨y18, z19⟩ := pr_use z18
    obtain ⟨y19, z20⟩ := pr_use z19
    obtain ⟨y20, z21⟩ := pr_use z20
    obtain ⟨y21, z22⟩ := pr_use z21
    subst y1
    subst y2
    subst y3
    subst y4
    subst y5
    subst y6
    subst y7
    subst y8
    subst y9
    subst y10
    subst y11
    subst y12
    subst y13
    subst y14
    subst y15
    subst y16
    subst y17
    subst y18
    subst y19
    subst y20
    subst y21
    subst z22
    exact hret _ _ _ _ _ dX6_shrink_12 rfl rfl (hP.sub [0, 15, 16, 17, 1, 2, 3, 4, 5, 6, 7, 8, 9, 10, 11, 12, 13, 14] rfl) (hD.sub [0, 15, 16, 17, 1, 2, 3, 4, 5, 6, 7, 8, 9, 10, 11, 12, 13, 14] (by decide) rfl) hS
abbrev rX6_join : Room := { frames := 5, cells := 0, slots := 0, locals := 109 }
set_option maxHeartbeats 4000000 in
set_option maxRecDepth 100000 in
theorem k_X6_join (l : Launch) (D : va_G) (cI cC cN : ClassId) (N : Nat) (q : Nat) (q_net : Nat) (q_draft : Nat) (q_snapshot : Nat) (q_history : Nat) (q_text : Nat) (q_painter : Nat) (q_covers : Nat) (q_net_ends : Nat) (q_net_colours : Nat) (q_history_states : Nat) (q_history_h0 : Nat) (q_history_h1 : Nat) (q_history_h2 : Nat) (q_history_h3 : Nat) (q_history_h0_ends : Nat) (q_history_h0_colours : Nat) (q_history_h1_ends : Nat) (q_history_h1_colours : Nat) (q_history_h2_ends : Nat) (q_history_h2_colours : Nat) (q_history_h3_ends : Nat) (q_history_h3_colours : Nat) (sz : Nat) (f_hasSnapshot : Int32) (f_net_knots : Int32) (f_net_threads : Int32) (f_net_ends : Nat → Int32) (f_net_colours : Nat → Int32) (f_history_size : Int32) (f_history_h0_knots : Int32) (f_history_h0_threads : Int32) (f_history_h0_ends : Nat → Int32) (f_history_h0_colours : Nat → Int32) (f_history_h1_knots : Int32) (f_history_h1_threads : Int32) (f_history_h1_ends : Nat → Int32) (f_history_h1_colours : Nat → Int32) (f_history_h2_knots : Int32) (f_history_h2_threads : Int32) (f_history_h2_ends : Nat → Int32) (f_history_h2_colours : Nat → Int32) (f_history_h3_knots : Int32) (f_history_h3_threads : Int32) (f_history_h3_ends : Nat → Int32) (f_history_h3_colours : Nat → Int32) (a1 : Int32) (a2 : Int32) (r : Int32) (f_net_knots' : Int32) (f_net_threads' : Int32) (f_net_ends' : Nat → Int32) (f_net_colours' : Nat → Int32) (f_history_size' : Int32) (f_history_h0_knots' : Int32) (f_history_h0_threads' : Int32) (f_history_h0_ends' : Nat → Int32) (f_history_h0_colours' : Nat → Int32) (f_history_h1_knots' : Int32) (f_history_h1_threads' : Int32) (f_history_h1_ends' : Nat → Int32) (f_history_h1_colours' : Nat → Int32) (f_history_h2_knots' : Int32) (f_history_h2_threads' : Int32) (f_history_h2_ends' : Nat → Int32) (f_history_h2_colours' : Nat → Int32) (f_history_h3_knots' : Int32) (f_history_h3_threads' : Int32) (f_history_h3_ends' : Nat → Int32) (f_history_h3_colours' : Nat → Int32) (hm : m_X6_join N f_net_knots f_net_threads f_net_ends f_net_colours f_history_size f_history_h0_knots f_history_h0_threads f_history_h0_ends f_history_h0_colours f_history_h1_knots f_history_h1_threads f_history_h1_ends f_history_h1_colours f_history_h2_knots f_history_h2_threads f_history_h2_ends f_history_h2_colours f_history_h3_knots f_history_h3_threads f_history_h3_ends f_history_h3_colours a1 a2 = some (r, f_net_knots', f_net_threads', f_net_ends', f_net_colours', f_history_size', f_history_h0_knots', f_history_h0_threads', f_history_h0_ends', f_history_h0_colours', f_history_h1_knots', f_history_h1_threads', f_history_h1_ends', f_history_h1_colours', f_history_h2_knots', f_history_h2_threads', f_history_h2_ends', f_history_h2_colours', f_history_h3_knots', f_history_h3_threads', f_history_h3_ends', f_history_h3_colours')) : Met l yX6_join wsX6_join (rX6_join) (gPc D (tysG cI cC cN) [.ref q, .int a1, .int a2] [(q, .inr (5, [.ref q_net, .ref q_draft, .ref q_snapshot, .int f_hasSnapshot, .ref q_history, .ref q_text, .ref q_painter, .ref q_covers])), (q_net, .inr (2, [.int f_net_knots, .int f_net_threads, .ref q_net_ends, .ref q_net_colours])), (q_net_ends, .inl (cI, 21, .inl f_net_ends)), (q_net_colours, .inl (cI, 21, .inl f_net_colours)), (q_history, .inr (1, [.ref q_history_states, .int f_history_size])), (q_history_states, .inl (cN, 4, .inr (.inr (.inr (.inr (hisG q_history_h0 q_history_h1 q_history_h2 q_history_h3)))))), (q_history_h0, .inr (2, [.int f_history_h0_knots, .int f_history_h0_threads, .ref q_history_h0_ends, .ref q_history_h0_colours])), (q_history_h0_ends, .inl (cI, 21, .inl f_history_h0_ends)), (q_history_h0_colours, .inl (cI, 21, .inl f_history_h0_colours)), (q_history_h1, .inr (2, [.int f_history_h1_knots, .int f_history_h1_threads, .ref q_history_h1_ends, .ref q_history_h1_colours])), (q_history_h1_ends, .inl (cI, 21, .inl f_history_h1_ends)), (q_history_h1_colours, .inl (cI, 21, .inl f_history_h1_colours)), (q_history_h2, .inr (2, [.int f_history_h2_knots, .int f_history_h2_threads, .ref q_history_h2_ends, .ref q_history_h2_colours])), (q_history_h2_ends, .inl (cI, 21, .inl f_history_h2_ends)), (q_history_h2_colours, .inl (cI, 21, .inl f_history_h2_colours)), (q_history_h3, .inr (2, [.int f_history_h3_knots, .int f_history_h3_threads, .ref q_history_h3_ends, .ref q_history_h3_colours])), (q_history_h3_ends, .inl (cI, 21, .inl f_history_h3_ends)), (q_history_h3_colours, .inl (cI, 21, .inl f_history_h3_colours))] sz) (gQi D (tysG cI cC cN) (va_A [(q, .inr (5, [.ref q_net, .ref q_draft, .ref q_snapshot, .int f_hasSnapshot, .ref q_history, .ref q_text, .ref q_painter, .ref q_covers])), (q_net, .inr (2, [.int f_net_knots, .int f_net_threads, .ref q_net_ends, .ref q_net_colours])), (q_net_ends, .inl (cI, 21, .inl f_net_ends)), (q_net_colours, .inl (cI, 21, .inl f_net_colours)), (q_history, .inr (1, [.ref q_history_states, .int f_history_size])), (q_history_states, .inl (cN, 4, .inr (.inr (.inr (.inr (hisG q_history_h0 q_history_h1 q_history_h2 q_history_h3)))))), (q_history_h0, .inr (2, [.int f_history_h0_knots, .int f_history_h0_threads, .ref q_history_h0_ends, .ref q_history_h0_colours])), (q_history_h0_ends, .inl (cI, 21, .inl f_history_h0_ends)), (q_history_h0_colours, .inl (cI, 21, .inl f_history_h0_colours)), (q_history_h1, .inr (2, [.int f_history_h1_knots, .int f_history_h1_threads, .ref q_history_h1_ends, .ref q_history_h1_colours])), (q_history_h1_ends, .inl (cI, 21, .inl f_history_h1_ends)), (q_history_h1_colours, .inl (cI, 21, .inl f_history_h1_colours)), (q_history_h2, .inr (2, [.int f_history_h2_knots, .int f_history_h2_threads, .ref q_history_h2_ends, .ref q_history_h2_colours])), (q_history_h2_ends, .inl (cI, 21, .inl f_history_h2_ends)), (q_history_h2_colours, .inl (cI, 21, .inl f_history_h2_colours)), (q_history_h3, .inr (2, [.int f_history_h3_knots, .int f_history_h3_threads, .ref q_history_h3_ends, .ref q_history_h3_colours])), (q_history_h3_ends, .inl (cI, 21, .inl f_history_h3_ends)), (q_history_h3_colours, .inl (cI, 21, .inl f_history_h3_colours))] sz) [(q, .inr (5, [.ref q_net, .ref q_draft, .ref q_snapshot, .int f_hasSnapshot, .ref q_history, .ref q_text, .ref q_painter, .ref q_covers])), (q_net, .inr (2, [.int f_net_knots', .int f_net_threads', .ref q_net_ends, .ref q_net_colours])), (q_net_ends, .inl (cI, 21, .inl f_net_ends')), (q_net_colours, .inl (cI, 21, .inl f_net_colours')), (q_history, .inr (1, [.ref q_history_states, .int f_history_size'])), (q_history_states, .inl (cN, 4, .inr (.inr (.inr (.inr (hisG q_history_h0 q_history_h1 q_history_h2 q_history_h3)))))), (q_history_h0, .inr (2, [.int f_history_h0_knots', .int f_history_h0_threads', .ref q_history_h0_ends, .ref q_history_h0_colours])), (q_history_h0_ends, .inl (cI, 21, .inl f_history_h0_ends')), (q_history_h0_colours, .inl (cI, 21, .inl f_history_h0_colours')), (q_history_h1, .inr (2, [.int f_history_h1_knots', .int f_history_h1_threads', .ref q_history_h1_ends, .ref q_history_h1_colours])), (q_history_h1_ends, .inl (cI, 21, .inl f_history_h1_ends')), (q_history_h1_colours, .inl (cI, 21, .inl f_history_h1_colours')), (q_history_h2, .inr (2, [.int f_history_h2_knots', .int f_history_h2_threads', .ref q_history_h2_ends, .ref q_history_h2_colours])), (q_history_h2_ends, .inl (cI, 21, .inl f_history_h2_ends')), (q_history_h2_colours, .inl (cI, 21, .inl f_history_h2_colours')), (q_history_h3, .inr (2, [.int f_history_h3_knots', .int f_history_h3_threads', .ref q_history_h3_ends, .ref q_history_h3_colours])), (q_history_h3_ends, .inl (cI, 21, .inl f_history_h3_ends')), (q_history_h3_colours, .inl (cI, 21, .inl f_history_h3_colours'))] r) 0 0 (va_A [(q, .inr (5, [.ref q_net, .ref q_draft, .ref q_snapshot, .int f_hasSnapshot, .ref q_history, .ref q_text, .ref q_painter, .ref q_covers])), (q_net, .inr (2, [.int f_net_knots, .int f_net_threads, .ref q_net_ends, .ref q_net_colours])), (q_net_ends, .inl (cI, 21, .inl f_net_ends)), (q_net_colours, .inl (cI, 21, .inl f_net_colours)), (q_history, .inr (1, [.ref q_history_states, .int f_history_size])), (q_history_states, .inl (cN, 4, .inr (.inr (.inr (.inr (hisG q_history_h0 q_history_h1 q_history_h2 q_history_h3)))))), (q_history_h0, .inr (2, [.int f_history_h0_knots, .int f_history_h0_threads, .ref q_history_h0_ends, .ref q_history_h0_colours])), (q_history_h0_ends, .inl (cI, 21, .inl f_history_h0_ends)), (q_history_h0_colours, .inl (cI, 21, .inl f_history_h0_colours)), (q_history_h1, .inr (2, [.int f_history_h1_knots, .int f_history_h1_threads, .ref q_history_h1_ends, .ref q_history_h1_colours])), (q_history_h1_ends, .inl (cI, 21, .inl f_history_h1_ends)), (q_history_h1_colours, .inl (cI, 21, .inl f_history_h1_colours)), (q_history_h2, .inr (2, [.int f_history_h2_knots, .int f_history_h2_threads, .ref q_history_h2_ends, .ref q_history_h2_colours])), (q_history_h2_ends, .inl (cI, 21, .inl f_history_h2_ends)), (q_history_h2_colours, .inl (cI, 21, .inl f_history_h2_colours)), (q_history_h3, .inr (2, [.int f_history_h3_knots, .int f_history_h3_threads, .ref q_history_h3_ends, .ref q_history_h3_colours])), (q_history_h3_ends, .inl (cI, 21, .inl f_history_h3_ends)), (q_history_h3_colours, .inl (cI, 21, .inl f_history_h3_colours))] sz) := by
  unfold m_X6_join at hm
  refine g_openI (cc := cX6_join) (maxL := 3) (own := RX6) (by decide) rfl rfl (Nat.le_of_ble_eq_true rfl) ?_
  intro p e s m args below meth c A Q hx hb hml hown hts hP hK hN hD hA hret ls hl
  have hS : va_S A s.heap s.heap [] := va_S.rf
  have hl : lv_has ls 3 [(0, .ref q), (1, .int a1), (2, .int a2)] := hl
  refine lv_aload_n hx hb dX6_join_0 rfl (lv_at hl 0 rfl) ?_
  refine va_get (D := D) (ci := 5) (v := .ref q_net) (C := RX6) (T := TX6) (N := 8) hx hb hts (by decide +kernel) hown hK hP 0 rfl rfl 0 (by decide) (hts (.fieldLink RX6 12 "KnotStripes" "net" "LKnotStripes$Net;") (by decide +kernel)) (fun _ h9 => h9) rfl dX6_join_1 ?_
  refine lv_iload_n hx hb dX6_join_4 rfl (lv_at hl 1 rfl) ?_
  obtain ⟨r_1, h_2, hm⟩ := bind_use hm
  refine g_ki (wc := [(q_net, .inr (2, [.int f_net_knots, .int f_net_threads, .ref q_net_ends, .ref q_net_colours])), (q_net_ends, .inl (cI, 21, .inl f_net_ends)), (q_net_colours, .inl (cI, 21, .inl f_net_colours))]) (wr := [(q, .inr (5, [.ref q_net, .ref q_draft, .ref q_snapshot, .int f_hasSnapshot, .ref q_history, .ref q_text, .ref q_painter, .ref q_covers])), (q_history, .inr (1, [.ref q_history_states, .int f_history_size])), (q_history_states, .inl (cN, 4, .inr (.inr (.inr (.inr (hisG q_history_h0 q_history_h1 q_history_h2 q_history_h3)))))), (q_history_h0, .inr (2, [.int f_history_h0_knots, .int f_history_h0_threads, .ref q_history_h0_ends, .ref q_history_h0_colours])), (q_history_h0_ends, .inl (cI, 21, .inl f_history_h0_ends)), (q_history_h0_colours, .inl (cI, 21, .inl f_history_h0_colours)), (q_history_h1, .inr (2, [.int f_history_h1_knots, .int f_history_h1_threads, .ref q_history_h1_ends, .ref q_history_h1_colours])), (q_history_h1_ends, .inl (cI, 21, .inl f_history_h1_ends)), (q_history_h1_colours, .inl (cI, 21, .inl f_history_h1_colours)), (q_history_h2, .inr (2, [.int f_history_h2_knots, .int f_history_h2_threads, .ref q_history_h2_ends, .ref q_history_h2_colours])), (q_history_h2_ends, .inl (cI, 21, .inl f_history_h2_ends)), (q_history_h2_colours, .inl (cI, 21, .inl f_history_h2_colours)), (q_history_h3, .inr (2, [.int f_history_h3_knots, .int f_history_h3_threads, .ref q_history_h3_ends, .ref q_history_h3_colours])), (q_history_h3_ends, .inl (cI, 21, .inl f_history_h3_ends)), (q_history_h3_colours, .inl (cI, 21, .inl f_history_h3_colours))]) (w2 := [(q, .inr (5, [.ref q_net, .ref q_draft, .ref q_snapshot, .int f_hasSnapshot, .ref q_history, .ref q_text, .ref q_painter, .ref q_covers])), (q_history, .inr (1, [.ref q_history_states, .int f_history_size])), (q_history_states, .inl (cN, 4, .inr (.inr (.inr (.inr (hisG q_history_h0 q_history_h1 q_history_h2 q_history_h3)))))), (q_history_h0, .inr (2, [.int f_history_h0_knots, .int f_history_h0_threads, .ref q_history_h0_ends, .ref q_history_h0_colours])), (q_history_h0_ends, .inl (cI, 21, .inl f_history_h0_ends)), (q_history_h0_colours, .inl (cI, 21, .inl f_history_h0_colours)), (q_history_h1, .inr (2, [.int f_history_h1_knots, .int f_history_h1_threads, .ref q_history_h1_ends, .ref q_history_h1_colours])), (q_history_h1_ends, .inl (cI, 21, .inl f_history_h1_ends)), (q_history_h1_colours, .inl (cI, 21, .inl f_history_h1_colours)), (q_history_h2, .inr (2, [.int f_history_h2_knots, .int f_history_h2_threads, .ref q_history_h2_ends, .ref q_history_h2_colours])), (q_history_h2_ends, .inl (cI, 21, .inl f_history_h2_ends)), (q_history_h2_colours, .inl (cI, 21, .inl f_history_h2_colours)), (q_history_h3, .inr (2, [.int f_history_h3_knots, .int f_history_h3_threads, .ref q_history_h3_ends, .ref q_history_h3_colours])), (q_history_h3_ends, .inl (cI, 21, .inl f_history_h3_ends)), (q_history_h3_colours, .inl (cI, 21, .inl f_history_h3_colours)), (q_net, .inr (2, [.int f_net_knots, .int f_net_threads, .ref q_net_ends, .ref q_net_colours])), (q_net_ends, .inl (cI, 21, .inl f_net_ends)), (q_net_colours, .inl (cI, 21, .inl f_net_colours))]) (va_runV (As := [.int a1]) (rest := []) ⟨hx, hb, hml, hown, hts⟩ (k_X2_hasThread l D cI cC cN N q_net q_net_ends q_net_colours s.heap.size f_net_knots f_net_threads f_net_ends f_net_colours a1 r_1 h_2) (cwV 1 hts gX6_join_X2_hasThread rfl rfl rfl (by decide +kernel) ⟨Nat.le_of_ble_eq_true rfl, Nat.le_of_ble_eq_true rfl⟩) ⟨g_blind, va_recv (D := D) (ci := 2) (q0 := 1) hK hP rfl rfl, g_pre (hP.sub [1, 2, 3] rfl) hK hN (hD.sub [1, 2, 3] (by decide) rfl)⟩ rfl rfl hl.1 rfl (lv_room (Nat.le_of_ble_eq_true rfl)) dX6_join_5 ⟨Nat.zero_le _, Nat.zero_le _⟩) hP hD hS hA [1, 2, 3] [0, 4, 5, 6, 7, 8, 9, 10, 11, 12, 13, 14, 15, 16, 17] rfl rfl (by decide) (by decide) rfl (fun H locs hP hD hS => ?_)
  refine lv_if_eq (tgt := 22) hx hb dX6_join_8 (by decide) (fun hc => ?_) (fun hc => ?_)
  · have hm := if_t _ hc hm
    refine lv_iconst (v := (-1)) hx hb dX6_join_22 (by decide) ?_
    have z1 := so_use hm
    obtain ⟨y1, z2⟩ := pr_use z1
    obtain ⟨y2, z3⟩ := pr_use z2
    obtain ⟨y3, z4⟩ := pr_use z3
    obtain ⟨y4, z5⟩ := pr_use z4
    obtain ⟨y5, z6⟩ := pr_use z5
    obtain ⟨y6, z7⟩ := pr_use z6
    obtain ⟨y7, z8⟩ := pr_use z7
    obtain ⟨y8, z9⟩ := pr_use z8
    obtain ⟨y9, z10⟩ := pr_use z9
    obtain ⟨y10, z11⟩ := pr_use z10
    obtain ⟨y11, z12⟩ := pr_use z11
    obtain ⟨y12, z13⟩ := pr_use z12
    obtain ⟨y13, z14⟩ := pr_use z13
    obtain ⟨y14, z15⟩ := pr_use z14
    obtain ⟨y15, z16⟩ := pr_use z15
    obtain ⟨y16, z17⟩ := pr_use z16
    obtain ⟨y17, z18⟩ := pr_use z17
    obtain ⟨y18, z19⟩ := pr_use z18
    obtain ⟨y19, z20⟩ := pr_use z19
    obtain ⟨y20, z21⟩ := pr_use z20
    obtain ⟨y21, z22⟩ := pr_use z21
    subst y1
    subst y2
    subst y3
    subst y4
    subst y5
    subst y6
    subst y7
    subst y8
    subst y9
    subst y10
    subst y11
    subst y12
    subst y13
    subst y14
    subst y15
    subst y16
    subst y17
    subst y18
    subst y19
    subst y20
    subst y21
    subst z22
    exact hret _ _ _ _ _ dX6_join_23 rfl rfl (hP.sub [0, 15, 16, 17, 1, 2, 3, 4, 5, 6, 7, 8, 9, 10, 11, 12, 13, 14] rfl) (hD.sub [0, 15, 16, 17, 1, 2, 3, 4, 5, 6, 7, 8, 9, 10, 11, 12, 13, 14] (by decide) rfl) hS
  · have hm := if_f _ hc hm
    refine lv_aload_n hx hb dX6_join_11 rfl (lv_at hl 0 rfl) ?_
    refine va_get (D := D) (ci := 5) (v := .ref q_net) (C := RX6) (T := TX6) (N := 8) hx hb hts (by decide +kernel) hown hK hP 0 rfl rfl 0 (by decide) (hts (.fieldLink RX6 12 "KnotStripes" "net" "LKnotStripes$Net;") (by decide +kernel)) (fun _ h9 => h9) rfl dX6_join_12 ?_
    refine lv_iload_n hx hb dX6_join_15 rfl (lv_at hl 2 rfl) ?_
    obtain ⟨r_3, h_4, hm⟩ := bind_use hm
    refine g_ki (wc := [(q_net, .inr (2, [.int f_net_knots, .int f_net_threads, .ref q_net_ends, .ref q_net_colours])), (q_net_ends, .inl (cI, 21, .inl f_net_ends)), (q_net_colours, .inl (cI, 21, .inl f_net_colours))]) (wr := [(q, .inr (5, [.ref q_net, .ref q_draft, .ref q_snapshot, .int f_hasSnapshot, .ref q_history, .ref q_text, .ref q_painter, .ref q_covers])), (q_history, .inr (1, [.ref q_history_states, .int f_history_size])), (q_history_states, .inl (cN, 4, .inr (.inr (.inr (.inr (hisG q_history_h0 q_history_h1 q_history_h2 q_history_h3)))))), (q_history_h0, .inr (2, [.int f_history_h0_knots, .int f_history_h0_threads, .ref q_history_h0_ends, .ref q_history_h0_colours])), (q_history_h0_ends, .inl (cI, 21, .inl f_history_h0_ends)), (q_history_h0_colours, .inl (cI, 21, .inl f_history_h0_colours)), (q_history_h1, .inr (2, [.int f_history_h1_knots, .int f_history_h1_threads, .ref q_history_h1_ends, .ref q_history_h1_colours])), (q_history_h1_ends, .inl (cI, 21, .inl f_history_h1_ends)), (q_history_h1_colours, .inl (cI, 21, .inl f_history_h1_colours)), (q_history_h2, .inr (2, [.int f_history_h2_knots, .int f_history_h2_threads, .ref q_history_h2_ends, .ref q_history_h2_colours])), (q_history_h2_ends, .inl (cI, 21, .inl f_history_h2_ends)), (q_history_h2_colours, .inl (cI, 21, .inl f_history_h2_colours)), (q_history_h3, .inr (2, [.int f_history_h3_knots, .int f_history_h3_threads, .ref q_history_h3_ends, .ref q_history_h3_colours])), (q_history_h3_ends, .inl (cI, 21, .inl f_history_h3_ends)), (q_history_h3_colours, .inl (cI, 21, .inl f_history_h3_colours))]) (w2 := [(q, .inr (5, [.ref q_net, .ref q_draft, .ref q_snapshot, .int f_hasSnapshot, .ref q_history, .ref q_text, .ref q_painter, .ref q_covers])), (q_history, .inr (1, [.ref q_history_states, .int f_history_size])), (q_history_states, .inl (cN, 4, .inr (.inr (.inr (.inr (hisG q_history_h0 q_history_h1 q_history_h2 q_history_h3)))))), (q_history_h0, .inr (2, [.int f_history_h0_knots, .int f_history_h0_threads, .ref q_history_h0_ends, .ref q_history_h0_colours])), (q_history_h0_ends, .inl (cI, 21, .inl f_history_h0_ends)), (q_history_h0_colours, .inl (cI, 21, .inl f_history_h0_colours)), (q_history_h1, .inr (2, [.int f_history_h1_knots, .int f_history_h1_threads, .ref q_history_h1_ends, .ref q_history_h1_colours])), (q_history_h1_ends, .inl (cI, 21, .inl f_history_h1_ends)), (q_history_h1_colours, .inl (cI, 21, .inl f_history_h1_colours)), (q_history_h2, .inr (2, [.int f_history_h2_knots, .int f_history_h2_threads, .ref q_history_h2_ends, .ref q_history_h2_colours])), (q_history_h2_ends, .inl (cI, 21, .inl f_history_h2_ends)), (q_history_h2_colours, .inl (cI, 21, .inl f_history_h2_colours)), (q_history_h3, .inr (2, [.int f_history_h3_knots, .int f_history_h3_threads, .ref q_history_h3_ends, .ref q_history_h3_colours])), (q_history_h3_ends, .inl (cI, 21, .inl f_history_h3_ends)), (q_history_h3_colours, .inl (cI, 21, .inl f_history_h3_colours)), (q_net, .inr (2, [.int f_net_knots, .int f_net_threads, .ref q_net_ends, .ref q_net_colours])), (q_net_ends, .inl (cI, 21, .inl f_net_ends)), (q_net_colours, .inl (cI, 21, .inl f_net_colours))]) (va_runV (As := [.int a2]) (rest := []) ⟨hx, hb, hml, hown, hts⟩ (k_X2_hasThread l D cI cC cN N q_net q_net_ends q_net_colours H.size f_net_knots f_net_threads f_net_ends f_net_colours a2 r_3 h_4) (cwV 1 hts gX6_join_X2_hasThread rfl rfl rfl (by decide +kernel) ⟨Nat.le_of_ble_eq_true rfl, Nat.le_of_ble_eq_true rfl⟩) ⟨g_blind, va_recv (D := D) (ci := 2) (q0 := 15) hK hP rfl rfl, g_pre (hP.sub [15, 16, 17] rfl) hK hN (hD.sub [15, 16, 17] (by decide) rfl)⟩ rfl rfl hl.1 rfl (lv_room (Nat.le_of_ble_eq_true rfl)) dX6_join_16 ⟨Nat.zero_le _, Nat.zero_le _⟩) hP hD hS hA [15, 16, 17] [0, 1, 2, 3, 4, 5, 6, 7, 8, 9, 10, 11, 12, 13, 14] rfl rfl (by decide) (by decide) rfl (fun H locs hP hD hS => ?_)
    refine lv_if_ne (tgt := 24) hx hb dX6_join_19 (by decide) (fun hc => ?_) (fun hc => ?_)
    · have hm := if_f _ hc hm
      refine lv_iload_n hx hb dX6_join_24 rfl (lv_at hl 1 rfl) ?_
      refine lv_iload_n hx hb dX6_join_25 rfl (lv_at hl 2 rfl) ?_
      refine lv_icmp_ne (tgt := 32) hx hb dX6_join_26 (by decide) (fun hc => ?_) (fun hc => ?_)
      · have hm := if_f _ hc hm
        refine lv_aload_n hx hb dX6_join_32 rfl (lv_at hl 0 rfl) ?_
        refine va_get (D := D) (ci := 5) (v := .ref q_net) (C := RX6) (T := TX6) (N := 8) hx hb hts (by decide +kernel) hown hK hP 0 rfl rfl 0 (by decide) (hts (.fieldLink RX6 12 "KnotStripes" "net" "LKnotStripes$Net;") (by decide +kernel)) (fun _ h9 => h9) rfl dX6_join_33 ?_
        obtain ⟨r_5, h_6, hm⟩ := bind_use hm
        refine g_ki (wc := [(q_net, .inr (2, [.int f_net_knots, .int f_net_threads, .ref q_net_ends, .ref q_net_colours])), (q_net_ends, .inl (cI, 21, .inl f_net_ends)), (q_net_colours, .inl (cI, 21, .inl f_net_colours))]) (wr := [(q, .inr (5, [.ref q_net, .ref q_draft, .ref q_snapshot, .int f_hasSnapshot, .ref q_history, .ref q_text, .ref q_painter, .ref q_covers])), (q_history, .inr (1, [.ref q_history_states, .int f_history_size])), (q_history_states, .inl (cN, 4, .inr (.inr (.inr (.inr (hisG q_history_h0 q_history_h1 q_history_h2 q_history_h3)))))), (q_history_h0, .inr (2, [.int f_history_h0_knots, .int f_history_h0_threads, .ref q_history_h0_ends, .ref q_history_h0_colours])), (q_history_h0_ends, .inl (cI, 21, .inl f_history_h0_ends)), (q_history_h0_colours, .inl (cI, 21, .inl f_history_h0_colours)), (q_history_h1, .inr (2, [.int f_history_h1_knots, .int f_history_h1_threads, .ref q_history_h1_ends, .ref q_history_h1_colours])), (q_history_h1_ends, .inl (cI, 21, .inl f_history_h1_ends)), (q_history_h1_colours, .inl (cI, 21, .inl f_history_h1_colours)), (q_history_h2, .inr (2, [.int f_history_h2_knots, .int f_history_h2_threads, .ref q_history_h2_ends, .ref q_history_h2_colours])), (q_history_h2_ends, .inl (cI, 21, .inl f_history_h2_ends)), (q_history_h2_colours, .inl (cI, 21, .inl f_history_h2_colours)), (q_history_h3, .inr (2, [.int f_history_h3_knots, .int f_history_h3_threads, .ref q_history_h3_ends, .ref q_history_h3_colours])), (q_history_h3_ends, .inl (cI, 21, .inl f_history_h3_ends)), (q_history_h3_colours, .inl (cI, 21, .inl f_history_h3_colours))]) (w2 := [(q, .inr (5, [.ref q_net, .ref q_draft, .ref q_snapshot, .int f_hasSnapshot, .ref q_history, .ref q_text, .ref q_painter, .ref q_covers])), (q_history, .inr (1, [.ref q_history_states, .int f_history_size])), (q_history_states, .inl (cN, 4, .inr (.inr (.inr (.inr (hisG q_history_h0 q_history_h1 q_history_h2 q_history_h3)))))), (q_history_h0, .inr (2, [.int f_history_h0_knots, .int f_history_h0_threads, .ref q_history_h0_ends, .ref q_history_h0_colours])), (q_history_h0_ends, .inl (cI, 21, .inl f_history_h0_ends)), (q_history_h0_colours, .inl (cI, 21, .inl f_history_h0_colours)), (q_history_h1, .inr (2, [.int f_history_h1_knots, .int f_history_h1_threads, .ref q_history_h1_ends, .ref q_history_h1_colours])), (q_history_h1_ends, .inl (cI, 21, .inl f_history_h1_ends)), (q_history_h1_colours, .inl (cI, 21, .inl f_history_h1_colours)), (q_history_h2, .inr (2, [.int f_history_h2_knots, .int f_history_h2_threads, .ref q_history_h2_ends, .ref q_history_h2_colours])), (q_history_h2_ends, .inl (cI, 21, .inl f_history_h2_ends)), (q_history_h2_colours, .inl (cI, 21, .inl f_history_h2_colours)), (q_history_h3, .inr (2, [.int f_history_h3_knots, .int f_history_h3_threads, .ref q_history_h3_ends, .ref q_history_h3_colours])), (q_history_h3_ends, .inl (cI, 21, .inl f_history_h3_ends)), (q_history_h3_colours, .inl (cI, 21, .inl f_history_h3_colours)), (q_net, .inr (2, [.int f_net_knots, .int f_net_threads, .ref q_net_ends, .ref q_net_colours])), (q_net_ends, .inl (cI, 21, .inl f_net_ends)), (q_net_colours, .inl (cI, 21, .inl f_net_colours))]) (va_runV (As := []) (rest := []) ⟨hx, hb, hml, hown, hts⟩ (k_X2_knots l D cI cC cN N q_net q_net_ends q_net_colours H.size f_net_knots f_net_threads f_net_ends f_net_colours r_5 h_6) (cwV 0 hts gX6_join_X2_knots rfl rfl rfl (by decide +kernel) ⟨Nat.le_of_ble_eq_true rfl, Nat.le_of_ble_eq_true rfl⟩) ⟨g_blind, va_recv (D := D) (ci := 2) (q0 := 15) hK hP rfl rfl, g_pre (hP.sub [15, 16, 17] rfl) hK hN (hD.sub [15, 16, 17] (by decide) rfl)⟩ rfl rfl hl.1 rfl (lv_room (Nat.le_of_ble_eq_true rfl)) dX6_join_36 ⟨Nat.zero_le _, Nat.zero_le _⟩) hP hD hS hA [15, 16, 17] [0, 1, 2, 3, 4, 5, 6, 7, 8, 9, 10, 11, 12, 13, 14] rfl rfl (by decide) (by decide) rfl (fun H locs hP hD hS => ?_)
        refine lv_iconst (v := 2) hx hb dX6_join_39 (by decide) ?_
        refine lv_iadd hx hb dX6_join_40 ?_
        refine lv_bipush (v := 14) hx hb dX6_join_41 (by decide) ?_
        refine lv_icmp_le (tgt := 49) hx hb dX6_join_43 (by decide) (fun hc => ?_) (fun hc => ?_)
        · have hm := if_t _ hc hm
          refine lv_aload_n hx hb dX6_join_49 rfl (lv_at hl 0 rfl) ?_
          refine va_get (D := D) (ci := 5) (v := .ref q_history) (C := RX6) (T := TX6) (N := 8) hx hb hts (by decide +kernel) hown hK hP 0 rfl rfl 4 (by decide) (hts (.fieldLink RX6 29 "KnotStripes" "history" "LKnotStripes$History;") (by decide +kernel)) (fun _ h9 => h9) rfl dX6_join_50 ?_
          refine lv_aload_n hx hb dX6_join_53 rfl (lv_at hl 0 rfl) ?_
          refine va_get (D := D) (ci := 5) (v := .ref q_net) (C := RX6) (T := TX6) (N := 8) hx hb hts (by decide +kernel) hown hK hP 0 rfl rfl 0 (by decide) (hts (.fieldLink RX6 12 "KnotStripes" "net" "LKnotStripes$Net;") (by decide +kernel)) (fun _ h9 => h9) rfl dX6_join_54 ?_
          obtain ⟨⟨f_history_size_7, f_history_h0_knots_8, f_history_h0_threads_9, f_history_h0_ends_10, f_history_h0_colours_11, f_history_h1_knots_12, f_history_h1_threads_13, f_history_h1_ends_14, f_history_h1_colours_15, f_history_h2_knots_16, f_history_h2_threads_17, f_history_h2_ends_18, f_history_h2_colours_19, f_history_h3_knots_20, f_history_h3_threads_21, f_history_h3_ends_22, f_history_h3_colours_23⟩, h_24, hm⟩ := bind_use hm
          refine g_kv (wc := [(q_history, .inr (1, [.ref q_history_states, .int f_history_size])), (q_history_states, .inl (cN, 4, .inr (.inr (.inr (.inr (hisG q_history_h0 q_history_h1 q_history_h2 q_history_h3)))))), (q_history_h0, .inr (2, [.int f_history_h0_knots, .int f_history_h0_threads, .ref q_history_h0_ends, .ref q_history_h0_colours])), (q_history_h0_ends, .inl (cI, 21, .inl f_history_h0_ends)), (q_history_h0_colours, .inl (cI, 21, .inl f_history_h0_colours)), (q_history_h1, .inr (2, [.int f_history_h1_knots, .int f_history_h1_threads, .ref q_history_h1_ends, .ref q_history_h1_colours])), (q_history_h1_ends, .inl (cI, 21, .inl f_history_h1_ends)), (q_history_h1_colours, .inl (cI, 21, .inl f_history_h1_colours)), (q_history_h2, .inr (2, [.int f_history_h2_knots, .int f_history_h2_threads, .ref q_history_h2_ends, .ref q_history_h2_colours])), (q_history_h2_ends, .inl (cI, 21, .inl f_history_h2_ends)), (q_history_h2_colours, .inl (cI, 21, .inl f_history_h2_colours)), (q_history_h3, .inr (2, [.int f_history_h3_knots, .int f_history_h3_threads, .ref q_history_h3_ends, .ref q_history_h3_colours])), (q_history_h3_ends, .inl (cI, 21, .inl f_history_h3_ends)), (q_history_h3_colours, .inl (cI, 21, .inl f_history_h3_colours)), (q_net, .inr (2, [.int f_net_knots, .int f_net_threads, .ref q_net_ends, .ref q_net_colours])), (q_net_ends, .inl (cI, 21, .inl f_net_ends)), (q_net_colours, .inl (cI, 21, .inl f_net_colours))]) (wr := [(q, .inr (5, [.ref q_net, .ref q_draft, .ref q_snapshot, .int f_hasSnapshot, .ref q_history, .ref q_text, .ref q_painter, .ref q_covers]))]) (w2 := [(q, .inr (5, [.ref q_net, .ref q_draft, .ref q_snapshot, .int f_hasSnapshot, .ref q_history, .ref q_text, .ref q_painter, .ref q_covers])), (q_history, .inr (1, [.ref q_history_states, .int f_history_size_7])), (q_history_states, .inl (cN, 4, .inr (.inr (.inr (.inr (hisG q_history_h0 q_history_h1 q_history_h2 q_history_h3)))))), (q_history_h0, .inr (2, [.int f_history_h0_knots_8, .int f_history_h0_threads_9, .ref q_history_h0_ends, .ref q_history_h0_colours])), (q_history_h0_ends, .inl (cI, 21, .inl f_history_h0_ends_10)), (q_history_h0_colours, .inl (cI, 21, .inl f_history_h0_colours_11)), (q_history_h1, .inr (2, [.int f_history_h1_knots_12, .int f_history_h1_threads_13, .ref q_history_h1_ends, .ref q_history_h1_colours])), (q_history_h1_ends, .inl (cI, 21, .inl f_history_h1_ends_14)), (q_history_h1_colours, .inl (cI, 21, .inl f_history_h1_colours_15)), (q_history_h2, .inr (2, [.int f_history_h2_knots_16, .int f_history_h2_threads_17, .ref q_history_h2_ends, .ref q_history_h2_colours])), (q_history_h2_ends, .inl (cI, 21, .inl f_history_h2_ends_18)), (q_history_h2_colours, .inl (cI, 21, .inl f_history_h2_colours_19)), (q_history_h3, .inr (2, [.int f_history_h3_knots_20, .int f_history_h3_threads_21, .ref q_history_h3_ends, .ref q_history_h3_colours])), (q_history_h3_ends, .inl (cI, 21, .inl f_history_h3_ends_22)), (q_history_h3_colours, .inl (cI, 21, .inl f_history_h3_colours_23)), (q_net, .inr (2, [.int f_net_knots, .int f_net_threads, .ref q_net_ends, .ref q_net_colours])), (q_net_ends, .inl (cI, 21, .inl f_net_ends)), (q_net_colours, .inl (cI, 21, .inl f_net_colours))]) (va_runV (As := [.ref q_net]) (rest := []) ⟨hx, hb, hml, hown, hts⟩ (k_X1_push l D cI cC cN N q_history q_history_states q_history_h0 q_history_h1 q_history_h2 q_history_h3 q_history_h0_ends q_history_h0_colours q_history_h1_ends q_history_h1_colours q_history_h2_ends q_history_h2_colours q_history_h3_ends q_history_h3_colours q_net q_net_ends q_net_colours H.size f_history_size f_history_h0_knots f_history_h0_threads f_history_h0_ends f_history_h0_colours f_history_h1_knots f_history_h1_threads f_history_h1_ends f_history_h1_colours f_history_h2_knots f_history_h2_threads f_history_h2_ends f_history_h2_colours f_history_h3_knots f_history_h3_threads f_history_h3_ends f_history_h3_colours f_net_knots f_net_threads f_net_ends f_net_colours f_history_size_7 f_history_h0_knots_8 f_history_h0_threads_9 f_history_h0_ends_10 f_history_h0_colours_11 f_history_h1_knots_12 f_history_h1_threads_13 f_history_h1_ends_14 f_history_h1_colours_15 f_history_h2_knots_16 f_history_h2_threads_17 f_history_h2_ends_18 f_history_h2_colours_19 f_history_h3_knots_20 f_history_h3_threads_21 f_history_h3_ends_22 f_history_h3_colours_23 h_24) (cwV 1 hts gX6_join_X1_push rfl rfl rfl (by decide +kernel) ⟨Nat.le_of_ble_eq_true rfl, Nat.le_of_ble_eq_true rfl⟩) ⟨g_blind, va_recv (D := D) (ci := 1) (q0 := 1) hK hP rfl rfl, g_pre (hP.sub [1, 2, 3, 4, 5, 6, 7, 8, 9, 10, 11, 12, 13, 14, 15, 16, 17] rfl) hK hN (hD.sub [1, 2, 3, 4, 5, 6, 7, 8, 9, 10, 11, 12, 13, 14, 15, 16, 17] (by decide) rfl)⟩ rfl rfl hl.1 rfl (lv_room (Nat.le_of_ble_eq_true rfl)) dX6_join_57 ⟨Nat.zero_le _, Nat.zero_le _⟩) hP hD hS hA [1, 2, 3, 4, 5, 6, 7, 8, 9, 10, 11, 12, 13, 14, 15, 16, 17] [0] rfl rfl (by decide) (by decide) rfl (fun H locs hP hD hS => ?_)
          refine lv_aload_n hx hb dX6_join_60 rfl (lv_at hl 0 rfl) ?_
          refine va_get (D := D) (ci := 5) (v := .ref q_net) (C := RX6) (T := TX6) (N := 8) hx hb hts (by decide +kernel) hown hK hP 0 rfl rfl 0 (by decide) (hts (.fieldLink RX6 12 "KnotStripes" "net" "LKnotStripes$Net;") (by decide +kernel)) (fun _ h9 => h9) rfl dX6_join_61 ?_
          refine lv_iload_n hx hb dX6_join_64 rfl (lv_at hl 1 rfl) ?_
          refine lv_iload_n hx hb dX6_join_65 rfl (lv_at hl 2 rfl) ?_
          obtain ⟨⟨f_net_knots_25, f_net_threads_26, f_net_ends_27, f_net_colours_28⟩, h_29, hm⟩ := bind_use hm
          refine g_kv (wc := [(q_net, .inr (2, [.int f_net_knots, .int f_net_threads, .ref q_net_ends, .ref q_net_colours])), (q_net_ends, .inl (cI, 21, .inl f_net_ends)), (q_net_colours, .inl (cI, 21, .inl f_net_colours))]) (wr := [(q, .inr (5, [.ref q_net, .ref q_draft, .ref q_snapshot, .int f_hasSnapshot, .ref q_history, .ref q_text, .ref q_painter, .ref q_covers])), (q_history, .inr (1, [.ref q_history_states, .int f_history_size_7])), (q_history_states, .inl (cN, 4, .inr (.inr (.inr (.inr (hisG q_history_h0 q_history_h1 q_history_h2 q_history_h3)))))), (q_history_h0, .inr (2, [.int f_history_h0_knots_8, .int f_history_h0_threads_9, .ref q_history_h0_ends, .ref q_history_h0_colours])), (q_history_h0_ends, .inl (cI, 21, .inl f_history_h0_ends_10)), (q_history_h0_colours, .inl (cI, 21, .inl f_history_h0_colours_11)), (q_history_h1, .inr (2, [.int f_history_h1_knots_12, .int f_history_h1_threads_13, .ref q_history_h1_ends, .ref q_history_h1_colours])), (q_history_h1_ends, .inl (cI, 21, .inl f_history_h1_ends_14)), (q_history_h1_colours, .inl (cI, 21, .inl f_history_h1_colours_15)), (q_history_h2, .inr (2, [.int f_history_h2_knots_16, .int f_history_h2_threads_17, .ref q_history_h2_ends, .ref q_history_h2_colours])), (q_history_h2_ends, .inl (cI, 21, .inl f_history_h2_ends_18)), (q_history_h2_colours, .inl (cI, 21, .inl f_history_h2_colours_19)), (q_history_h3, .inr (2, [.int f_history_h3_knots_20, .int f_history_h3_threads_21, .ref q_history_h3_ends, .ref q_history_h3_colours])), (q_history_h3_ends, .inl (cI, 21, .inl f_history_h3_ends_22)), (q_history_h3_colours, .inl (cI, 21, .inl f_history_h3_colours_23))]) (w2 := [(q, .inr (5, [.ref q_net, .ref q_draft, .ref q_snapshot, .int f_hasSnapshot, .ref q_history, .ref q_text, .ref q_painter, .ref q_covers])), (q_history, .inr (1, [.ref q_history_states, .int f_history_size_7])), (q_history_states, .inl (cN, 4, .inr (.inr (.inr (.inr (hisG q_history_h0 q_history_h1 q_history_h2 q_history_h3)))))), (q_history_h0, .inr (2, [.int f_history_h0_knots_8, .int f_history_h0_threads_9, .ref q_history_h0_ends, .ref q_history_h0_colours])), (q_history_h0_ends, .inl (cI, 21, .inl f_history_h0_ends_10)), (q_history_h0_colours, .inl (cI, 21, .inl f_history_h0_colours_11)), (q_history_h1, .inr (2, [.int f_history_h1_knots_12, .int f_history_h1_threads_13, .ref q_history_h1_ends, .ref q_history_h1_colours])), (q_history_h1_ends, .inl (cI, 21, .inl f_history_h1_ends_14)), (q_history_h1_colours, .inl (cI, 21, .inl f_history_h1_colours_15)), (q_history_h2, .inr (2, [.int f_history_h2_knots_16, .int f_history_h2_threads_17, .ref q_history_h2_ends, .ref q_history_h2_colours])), (q_history_h2_ends, .inl (cI, 21, .inl f_history_h2_ends_18)), (q_history_h2_colours, .inl (cI, 21, .inl f_history_h2_colours_19)), (q_history_h3, .inr (2, [.int f_history_h3_knots_20, .int f_history_h3_threads_21, .ref q_history_h3_ends, .ref q_history_h3_colours])), (q_history_h3_ends, .inl (cI, 21, .inl f_history_h3_ends_22)), (q_history_h3_colours, .inl (cI, 21, .inl f_history_h3_colours_23)), (q_net, .inr (2, [.int f_net_knots_25, .int f_net_threads_26, .ref q_net_ends, .ref q_net_colours])), (q_net_ends, .inl (cI, 21, .inl f_net_ends_27)), (q_net_colours, .inl (cI, 21, .inl f_net_colours_28))]) (va_runV (As := [.int a1, .int a2]) (rest := []) ⟨hx, hb, hml, hown, hts⟩ (k_X2_bridgeOver l D cI cC cN N q_net q_net_ends q_net_colours H.size f_net_knots f_net_threads f_net_ends f_net_colours a1 a2 f_net_knots_25 f_net_threads_26 f_net_ends_27 f_net_colours_28 h_29) (cwV 2 hts gX6_join_X2_bridgeOver rfl rfl rfl (by decide +kernel) ⟨Nat.le_of_ble_eq_true rfl, Nat.le_of_ble_eq_true rfl⟩) ⟨g_blind, va_recv (D := D) (ci := 2) (q0 := 15) hK hP rfl rfl, g_pre (hP.sub [15, 16, 17] rfl) hK hN (hD.sub [15, 16, 17] (by decide) rfl)⟩ rfl rfl hl.1 rfl (lv_room (Nat.le_of_ble_eq_true rfl)) dX6_join_66 ⟨Nat.zero_le _, Nat.zero_le _⟩) hP hD hS hA [15, 16, 17] [0, 1, 2, 3, 4, 5, 6, 7, 8, 9, 10, 11, 12, 13, 14] rfl rfl (by decide) (by decide) rfl (fun H locs hP hD hS => ?_)
          refine lv_aload_n hx hb dX6_join_69 rfl (lv_at hl 0 rfl) ?_
          refine va_get (D := D) (ci := 5) (v := .ref q_net) (C := RX6) (T := TX6) (N := 8) hx hb hts (by decide +kernel) hown hK hP 0 rfl rfl 0 (by decide) (hts (.fieldLink RX6 12 "KnotStripes" "net" "LKnotStripes$Net;") (by decide +kernel)) (fun _ h9 => h9) rfl dX6_join_70 ?_
          obtain ⟨r_30, h_31, hm⟩ := bind_use hm
          refine g_ki (wc := [(q_net, .inr (2, [.int f_net_knots_25, .int f_net_threads_26, .ref q_net_ends, .ref q_net_colours])), (q_net_ends, .inl (cI, 21, .inl f_net_ends_27)), (q_net_colours, .inl (cI, 21, .inl f_net_colours_28))]) (wr := [(q, .inr (5, [.ref q_net, .ref q_draft, .ref q_snapshot, .int f_hasSnapshot, .ref q_history, .ref q_text, .ref q_painter, .ref q_covers])), (q_history, .inr (1, [.ref q_history_states, .int f_history_size_7])), (q_history_states, .inl (cN, 4, .inr (.inr (.inr (.inr (hisG q_history_h0 q_history_h1 q_history_h2 q_history_h3)))))), (q_history_h0, .inr (2, [.int f_history_h0_knots_8, .int f_history_h0_threads_9, .ref q_history_h0_ends, .ref q_history_h0_colours])), (q_history_h0_ends, .inl (cI, 21, .inl f_history_h0_ends_10)), (q_history_h0_colours, .inl (cI, 21, .inl f_history_h0_colours_11)), (q_history_h1, .inr (2, [.int f_history_h1_knots_12, .int f_history_h1_threads_13, .ref q_history_h1_ends, .ref q_history_h1_colours])), (q_history_h1_ends, .inl (cI, 21, .inl f_history_h1_ends_14)), (q_history_h1_colours, .inl (cI, 21, .inl f_history_h1_colours_15)), (q_history_h2, .inr (2, [.int f_history_h2_knots_16, .int f_history_h2_threads_17, .ref q_history_h2_ends, .ref q_history_h2_colours])), (q_history_h2_ends, .inl (cI, 21, .inl f_history_h2_ends_18)), (q_history_h2_colours, .inl (cI, 21, .inl f_history_h2_colours_19)), (q_history_h3, .inr (2, [.int f_history_h3_knots_20, .int f_history_h3_threads_21, .ref q_history_h3_ends, .ref q_history_h3_colours])), (q_history_h3_ends, .inl (cI, 21, .inl f_history_h3_ends_22)), (q_history_h3_colours, .inl (cI, 21, .inl f_history_h3_colours_23))]) (w2 := [(q, .inr (5, [.ref q_net, .ref q_draft, .ref q_snapshot, .int f_hasSnapshot, .ref q_history, .ref q_text, .ref q_painter, .ref q_covers])), (q_history, .inr (1, [.ref q_history_states, .int f_history_size_7])), (q_history_states, .inl (cN, 4, .inr (.inr (.inr (.inr (hisG q_history_h0 q_history_h1 q_history_h2 q_history_h3)))))), (q_history_h0, .inr (2, [.int f_history_h0_knots_8, .int f_history_h0_threads_9, .ref q_history_h0_ends, .ref q_history_h0_colours])), (q_history_h0_ends, .inl (cI, 21, .inl f_history_h0_ends_10)), (q_history_h0_colours, .inl (cI, 21, .inl f_history_h0_colours_11)), (q_history_h1, .inr (2, [.int f_history_h1_knots_12, .int f_history_h1_threads_13, .ref q_history_h1_ends, .ref q_history_h1_colours])), (q_history_h1_ends, .inl (cI, 21, .inl f_history_h1_ends_14)), (q_history_h1_colours, .inl (cI, 21, .inl f_history_h1_colours_15)), (q_history_h2, .inr (2, [.int f_history_h2_knots_16, .int f_history_h2_threads_17, .ref q_history_h2_ends, .ref q_history_h2_colours])), (q_history_h2_ends, .inl (cI, 21, .inl f_history_h2_ends_18)), (q_history_h2_colours, .inl (cI, 21, .inl f_history_h2_colours_19)), (q_history_h3, .inr (2, [.int f_history_h3_knots_20, .int f_history_h3_threads_21, .ref q_history_h3_ends, .ref q_history_h3_colours])), (q_history_h3_ends, .inl (cI, 21, .inl f_history_h3_ends_22)), (q_history_h3_colours, .inl (cI, 21, .inl f_history_h3_colours_23)), (q_net, .inr (2, [.int f_net_knots_25, .int f_net_threads_26, .ref q_net_ends, .ref q_net_colours])), (q_net_ends, .inl (cI, 21, .inl f_net_ends_27)), (q_net_colours, .inl (cI, 21, .inl f_net_colours_28))]) (va_runV (As := []) (rest := []) ⟨hx, hb, hml, hown, hts⟩ (k_X2_threads l D cI cC cN N q_net q_net_ends q_net_colours H.size f_net_knots_25 f_net_threads_26 f_net_ends_27 f_net_colours_28 r_30 h_31) (cwV 0 hts gX6_join_X2_threads rfl rfl rfl (by decide +kernel) ⟨Nat.le_of_ble_eq_true rfl, Nat.le_of_ble_eq_true rfl⟩) ⟨g_blind, va_recv (D := D) (ci := 2) (q0 := 15) hK hP rfl rfl, g_pre (hP.sub [15, 16, 17] rfl) hK hN (hD.sub [15, 16, 17] (by decide) rfl)⟩ rfl rfl hl.1 rfl (lv_room (Nat.le_of_ble_eq_true rfl)) dX6_join_73 ⟨Nat.zero_le _, Nat.zero_le _⟩) hP hD hS hA [15, 16, 17] [0, 1, 2, 3, 4, 5, 6, 7, 8, 9, 10, 11, 12, 13, 14] rfl rfl (by decide) (by decide) rfl (fun H locs hP hD hS => ?_)
          refine lv_iconst (v := 1) hx hb dX6_join_76 (by decide) ?_
          refine lv_isub hx hb dX6_join_77 ?_
          have z1 := so_use hm
          obtain ⟨y1, z2⟩ := pr_use z1
          obtain ⟨y2, z3⟩ := pr_use z2
          obtain ⟨y3, z4⟩ := pr_use z3
          obtain ⟨y4, z5⟩ := pr_use z4
          obtain ⟨y5, z6⟩ := pr_use z5
          obtain ⟨y6, z7⟩ := pr_use z6
          obtain ⟨y7, z8⟩ := pr_use z7
          obtain ⟨y8, z9⟩ := pr_use z8
          obtain ⟨y9, z10⟩ := pr_use z9
          obtain ⟨y10, z11⟩ := pr_use z10
          obtain ⟨y11, z12⟩ := pr_use z11
          obtain ⟨y12, z13⟩ := pr_use z12
          obtain ⟨y13, z14⟩ := pr_use z13
          obtain ⟨y14, z15⟩ := pr_use z14
          obtain ⟨y15, z16⟩ := pr_use z15
          obtain ⟨y16, z17⟩ := pr_use z16
          obtain ⟨y17, z18⟩ := pr_use z17
          obtain ⟨y18, z19⟩ := pr_use z18
          obtain ⟨y19, z20⟩ := pr_use z19
          obtain ⟨y20, z21⟩ := pr_use z20
          obtain ⟨y21, z22⟩ := pr_use z21
          subst y1
          subst y2
          subst y3
          subst y4
          subst y5
          subst y6
          subst y7
          subst y8
          subst y9
          subst y10
          subst y11
          subst y12
          subst y13
          subst y14
          subst y15
          subst y16
          subst y17
          subst y18
          subst y19
          subst y20
          subst y21
          subst z22
          exact hret _ _ _ _ _ dX6_join_78 rfl rfl (hP.sub [0, 15, 16, 17, 1, 2, 3, 4, 5, 6, 7, 8, 9, 10, 11, 12, 13, 14] rfl) (hD.sub [0, 15, 16, 17, 1, 2, 3, 4, 5, 6, 7, 8, 9, 10, 11, 12, 13, 14] (by decide) rfl) hS
        · have hm := if_f _ hc hm
          refine lv_bipush (v := (-3)) hx hb dX6_join_46 (by decide) ?_
          have z1 := so_use hm
          obtain ⟨y1, z2⟩ := pr_use z1
          obtain ⟨y2, z3⟩ := pr_use z2
          obtain ⟨y3, z4⟩ := pr_use z3
          obtain ⟨y4, z5⟩ := pr_use z4
          obtain ⟨y5, z6⟩ := pr_use z5
          obtain ⟨y6, z7⟩ := pr_use z6
          obtain ⟨y7, z8⟩ := pr_use z7
          obtain ⟨y8, z9⟩ := pr_use z8
          obtain ⟨y9, z10⟩ := pr_use z9
          obtain ⟨y10, z11⟩ := pr_use z10
          obtain ⟨y11, z12⟩ := pr_use z11
          obtain ⟨y12, z13⟩ := pr_use z12
          obtain ⟨y13, z14⟩ := pr_use z13
          obtain ⟨y14, z15⟩ := pr_use z14
          obtain ⟨y15, z16⟩ := pr_use z15
          obtain ⟨y16, z17⟩ := pr_use z16
          obtain ⟨y17, z18⟩ := pr_use z17
          obtain ⟨y18, z19⟩ := pr_use z18
          obtain ⟨y19, z20⟩ := pr_use z19
          obtain ⟨y20, z21⟩ := pr_use z20
          obtain ⟨y21, z22⟩ := pr_use z21
          subst y1
          subst y2
          subst y3
          subst y4
          subst y5
          subst y6
          subst y7
          subst y8
          subst y9
          subst y10
          subst y11
          subst y12
          subst y13
          subst y14
          subst y15
          subst y16
          subst y17
          subst y18
          subst y19
          subst y20
          subst y21
          subst z22
          exact hret _ _ _ _ _ dX6_join_48 rfl rfl (hP.sub [0, 15, 16, 17, 1, 2, 3, 4, 5, 6, 7, 8, 9, 10, 11, 12, 13, 14] rfl) (hD.sub [0, 15, 16, 17, 1, 2, 3, 4, 5, 6, 7, 8, 9, 10, 11, 12, 13, 14] (by decide) rfl) hS
      · have hm := if_t _ hc hm
        refine lv_bipush (v := (-2)) hx hb dX6_join_29 (by decide) ?_
        have z1 := so_use hm
        obtain ⟨y1, z2⟩ := pr_use z1
        obtain ⟨y2, z3⟩ := pr_use z2
        obtain ⟨y3, z4⟩ := pr_use z3
        obtain ⟨y4, z5⟩ := pr_use z4
        obtain ⟨y5, z6⟩ := pr_use z5
        obtain ⟨y6, z7⟩ := pr_use z6
        obtain ⟨y7, z8⟩ := pr_use z7
        obtain ⟨y8, z9⟩ := pr_use z8
        obtain ⟨y9, z10⟩ := pr_use z9
        obtain ⟨y10, z11⟩ := pr_use z10
        obtain ⟨y11, z12⟩ := pr_use z11
        obtain ⟨y12, z13⟩ := pr_use z12
        obtain ⟨y13, z14⟩ := pr_use z13
        obtain ⟨y14, z15⟩ := pr_use z14
        obtain ⟨y15, z16⟩ := pr_use z15
        obtain ⟨y16, z17⟩ := pr_use z16
        obtain ⟨y17, z18⟩ := pr_use z17
        obtain ⟨y18, z19⟩ := pr_use z18
        obtain ⟨y19, z20⟩ := pr_use z19
        obtain ⟨y20, z21⟩ := pr_use z20
        obtain ⟨y21, z22⟩ := pr_use z21
        subst y1
        subst y2
        subst y3
        subst y4
        subst y5
        subst y6
        subst y7
        subst y8
        subst y9
        subst y10
        subst y11
        subst y12
        subst y13
        subst y14
        subst y15
        subst y16
        subst y17
        subst y18
        subst y19
        subst y20
        subst y21
        subst z22
        exact hret _ _ _ _ _ dX6_join_31 rfl rfl (hP.sub [0, 15, 16, 17, 1, 2, 3, 4, 5, 6, 7, 8, 9, 10, 11, 12, 13, 14] rfl) (hD.sub [0, 15, 16, 17, 1, 2, 3, 4, 5, 6, 7, 8, 9, 10, 11, 12, 13, 14] (by decide) rfl) hS
    · have hm := if_t _ hc hm
      refine lv_iconst (v := (-1)) hx hb dX6_join_22 (by decide) ?_
      have z1 := so_use hm
      obtain ⟨y1, z2⟩ := pr_use z1
      obtain ⟨y2, z3⟩ := pr_use z2
      obtain ⟨y3, z4⟩ := pr_use z3
      obtain ⟨y4, z5⟩ := pr_use z4
      obtain ⟨y5, z6⟩ := pr_use z5
      obtain ⟨y6, z7⟩ := pr_use z6
      obtain ⟨y7, z8⟩ := pr_use z7
      obtain ⟨y8, z9⟩ := pr_use z8
      obtain ⟨y9, z10⟩ := pr_use z9
      obtain ⟨y10, z11⟩ := pr_use z10
      obtain ⟨y11, z12⟩ := pr_use z11
      obtain ⟨y12, z13⟩ := pr_use z12
      obtain ⟨y13, z14⟩ := pr_use z13
      obtain ⟨y14, z15⟩ := pr_use z14
      obtain ⟨y15, z16⟩ := pr_use z15
      obtain ⟨y16, z17⟩ := pr_use z16
      obtain ⟨y17, z18⟩ := pr_use z17
      obtain ⟨y18, z19⟩ := pr_use z18
      obtain ⟨y19, z20⟩ := pr_use z19
      obtain ⟨y20, z21⟩ := pr_use z20
      obtain ⟨y21, z22⟩ := pr_use z21
      subst y1
      subst y2
      subst y3
      subst y4
      subst y5
      subst y6
      subst y7
      subst y8
      subst y9
      subst y10
      subst y11
      subst y12
      subst y13
      subst y14
      subst y15
      subst y16
      subst y17
      subst y18
      subst y19
      subst y20
      subst y21
      subst z22
      exact hret _ _ _ _ _ dX6_join_23 rfl rfl (hP.sub [0, 15, 16, 17, 1, 2, 3, 4, 5, 6, 7, 8, 9, 10, 11, 12, 13, 14] rfl) (hD.sub [0, 15, 16, 17, 1, 2, 3, 4, 5, 6, 7, 8, 9, 10, 11, 12, 13, 14] (by decide) rfl) hS
abbrev rX6_paint : Room := { frames := 5, cells := 0, slots := 0, locals := 109 }
set_option maxHeartbeats 4000000 in
set_option maxRecDepth 100000 in
theorem k_X6_paint (l : Launch) (D : va_G) (cI cC cN : ClassId) (N : Nat) (q : Nat) (q_net : Nat) (q_draft : Nat) (q_snapshot : Nat) (q_history : Nat) (q_text : Nat) (q_painter : Nat) (q_covers : Nat) (q_net_ends : Nat) (q_net_colours : Nat) (q_history_states : Nat) (q_history_h0 : Nat) (q_history_h1 : Nat) (q_history_h2 : Nat) (q_history_h3 : Nat) (q_history_h0_ends : Nat) (q_history_h0_colours : Nat) (q_history_h1_ends : Nat) (q_history_h1_colours : Nat) (q_history_h2_ends : Nat) (q_history_h2_colours : Nat) (q_history_h3_ends : Nat) (q_history_h3_colours : Nat) (sz : Nat) (f_hasSnapshot : Int32) (f_net_knots : Int32) (f_net_threads : Int32) (f_net_ends : Nat → Int32) (f_net_colours : Nat → Int32) (f_history_size : Int32) (f_history_h0_knots : Int32) (f_history_h0_threads : Int32) (f_history_h0_ends : Nat → Int32) (f_history_h0_colours : Nat → Int32) (f_history_h1_knots : Int32) (f_history_h1_threads : Int32) (f_history_h1_ends : Nat → Int32) (f_history_h1_colours : Nat → Int32) (f_history_h2_knots : Int32) (f_history_h2_threads : Int32) (f_history_h2_ends : Nat → Int32) (f_history_h2_colours : Nat → Int32) (f_history_h3_knots : Int32) (f_history_h3_threads : Int32) (f_history_h3_ends : Nat → Int32) (f_history_h3_colours : Nat → Int32) (a1 : Int32) (a2 : Int32) (r : Int32) (f_net_colours' : Nat → Int32) (f_history_size' : Int32) (f_history_h0_knots' : Int32) (f_history_h0_threads' : Int32) (f_history_h0_ends' : Nat → Int32) (f_history_h0_colours' : Nat → Int32) (f_history_h1_knots' : Int32) (f_history_h1_threads' : Int32) (f_history_h1_ends' : Nat → Int32) (f_history_h1_colours' : Nat → Int32) (f_history_h2_knots' : Int32) (f_history_h2_threads' : Int32) (f_history_h2_ends' : Nat → Int32) (f_history_h2_colours' : Nat → Int32) (f_history_h3_knots' : Int32) (f_history_h3_threads' : Int32) (f_history_h3_ends' : Nat → Int32) (f_history_h3_colours' : Nat → Int32) (hm : m_X6_paint N f_net_knots f_net_threads f_net_ends f_net_colours f_history_size f_history_h0_knots f_history_h0_threads f_history_h0_ends f_history_h0_colours f_history_h1_knots f_history_h1_threads f_history_h1_ends f_history_h1_colours f_history_h2_knots f_history_h2_threads f_history_h2_ends f_history_h2_colours f_history_h3_knots f_history_h3_threads f_history_h3_ends f_history_h3_colours a1 a2 = some (r, f_net_colours', f_history_size', f_history_h0_knots', f_history_h0_threads', f_history_h0_ends', f_history_h0_colours', f_history_h1_knots', f_history_h1_threads', f_history_h1_ends', f_history_h1_colours', f_history_h2_knots', f_history_h2_threads', f_history_h2_ends', f_history_h2_colours', f_history_h3_knots', f_history_h3_threads', f_history_h3_ends', f_history_h3_colours')) : Met l yX6_paint wsX6_paint (rX6_paint) (gPc D (tysG cI cC cN) [.ref q, .int a1, .int a2] [(q, .inr (5, [.ref q_net, .ref q_draft, .ref q_snapshot, .int f_hasSnapshot, .ref q_history, .ref q_text, .ref q_painter, .ref q_covers])), (q_net, .inr (2, [.int f_net_knots, .int f_net_threads, .ref q_net_ends, .ref q_net_colours])), (q_net_ends, .inl (cI, 21, .inl f_net_ends)), (q_net_colours, .inl (cI, 21, .inl f_net_colours)), (q_history, .inr (1, [.ref q_history_states, .int f_history_size])), (q_history_states, .inl (cN, 4, .inr (.inr (.inr (.inr (hisG q_history_h0 q_history_h1 q_history_h2 q_history_h3)))))), (q_history_h0, .inr (2, [.int f_history_h0_knots, .int f_history_h0_threads, .ref q_history_h0_ends, .ref q_history_h0_colours])), (q_history_h0_ends, .inl (cI, 21, .inl f_history_h0_ends)), (q_history_h0_colours, .inl (cI, 21, .inl f_history_h0_colours)), (q_history_h1, .inr (2, [.int f_history_h1_knots, .int f_history_h1_threads, .ref q_history_h1_ends, .ref q_history_h1_colours])), (q_history_h1_ends, .inl (cI, 21, .inl f_history_h1_ends)), (q_history_h1_colours, .inl (cI, 21, .inl f_history_h1_colours)), (q_history_h2, .inr (2, [.int f_history_h2_knots, .int f_history_h2_threads, .ref q_history_h2_ends, .ref q_history_h2_colours])), (q_history_h2_ends, .inl (cI, 21, .inl f_history_h2_ends)), (q_history_h2_colours, .inl (cI, 21, .inl f_history_h2_colours)), (q_history_h3, .inr (2, [.int f_history_h3_knots, .int f_history_h3_threads, .ref q_history_h3_ends, .ref q_history_h3_colours])), (q_history_h3_ends, .inl (cI, 21, .inl f_history_h3_ends)), (q_history_h3_colours, .inl (cI, 21, .inl f_history_h3_colours))] sz) (gQi D (tysG cI cC cN) (va_A [(q, .inr (5, [.ref q_net, .ref q_draft, .ref q_snapshot, .int f_hasSnapshot, .ref q_history, .ref q_text, .ref q_painter, .ref q_covers])), (q_net, .inr (2, [.int f_net_knots, .int f_net_threads, .ref q_net_ends, .ref q_net_colours])), (q_net_ends, .inl (cI, 21, .inl f_net_ends)), (q_net_colours, .inl (cI, 21, .inl f_net_colours)), (q_history, .inr (1, [.ref q_history_states, .int f_history_size])), (q_history_states, .inl (cN, 4, .inr (.inr (.inr (.inr (hisG q_history_h0 q_history_h1 q_history_h2 q_history_h3)))))), (q_history_h0, .inr (2, [.int f_history_h0_knots, .int f_history_h0_threads, .ref q_history_h0_ends, .ref q_history_h0_colours])), (q_history_h0_ends, .inl (cI, 21, .inl f_history_h0_ends)), (q_history_h0_colours, .inl (cI, 21, .inl f_history_h0_colours)), (q_history_h1, .inr (2, [.int f_history_h1_knots, .int f_history_h1_threads, .ref q_history_h1_ends, .ref q_history_h1_colours])), (q_history_h1_ends, .inl (cI, 21, .inl f_history_h1_ends)), (q_history_h1_colours, .inl (cI, 21, .inl f_history_h1_colours)), (q_history_h2, .inr (2, [.int f_history_h2_knots, .int f_history_h2_threads, .ref q_history_h2_ends, .ref q_history_h2_colours])), (q_history_h2_ends, .inl (cI, 21, .inl f_history_h2_ends)), (q_history_h2_colours, .inl (cI, 21, .inl f_history_h2_colours)), (q_history_h3, .inr (2, [.int f_history_h3_knots, .int f_history_h3_threads, .ref q_history_h3_ends, .ref q_history_h3_colours])), (q_history_h3_ends, .inl (cI, 21, .inl f_history_h3_ends)), (q_history_h3_colours, .inl (cI, 21, .inl f_history_h3_colours))] sz) [(q, .inr (5, [.ref q_net, .ref q_draft, .ref q_snapshot, .int f_hasSnapshot, .ref q_history, .ref q_text, .ref q_painter, .ref q_covers])), (q_net, .inr (2, [.int f_net_knots, .int f_net_threads, .ref q_net_ends, .ref q_net_colours])), (q_net_ends, .inl (cI, 21, .inl f_net_ends)), (q_net_colours, .inl (cI, 21, .inl f_net_colours')), (q_history, .inr (1, [.ref q_history_states, .int f_history_size'])), (q_history_states, .inl (cN, 4, .inr (.inr (.inr (.inr (hisG q_history_h0 q_history_h1 q_history_h2 q_history_h3)))))), (q_history_h0, .inr (2, [.int f_history_h0_knots', .int f_history_h0_threads', .ref q_history_h0_ends, .ref q_history_h0_colours])), (q_history_h0_ends, .inl (cI, 21, .inl f_history_h0_ends')), (q_history_h0_colours, .inl (cI, 21, .inl f_history_h0_colours')), (q_history_h1, .inr (2, [.int f_history_h1_knots', .int f_history_h1_threads', .ref q_history_h1_ends, .ref q_history_h1_colours])), (q_history_h1_ends, .inl (cI, 21, .inl f_history_h1_ends')), (q_history_h1_colours, .inl (cI, 21, .inl f_history_h1_colours')), (q_history_h2, .inr (2, [.int f_history_h2_knots', .int f_history_h2_threads', .ref q_history_h2_ends, .ref q_history_h2_colours])), (q_history_h2_ends, .inl (cI, 21, .inl f_history_h2_ends')), (q_history_h2_colours, .inl (cI, 21, .inl f_history_h2_colours')), (q_history_h3, .inr (2, [.int f_history_h3_knots', .int f_history_h3_threads', .ref q_history_h3_ends, .ref q_history_h3_colours])), (q_history_h3_ends, .inl (cI, 21, .inl f_history_h3_ends')), (q_history_h3_colours, .inl (cI, 21, .inl f_history_h3_colours'))] r) 0 0 (va_A [(q, .inr (5, [.ref q_net, .ref q_draft, .ref q_snapshot, .int f_hasSnapshot, .ref q_history, .ref q_text, .ref q_painter, .ref q_covers])), (q_net, .inr (2, [.int f_net_knots, .int f_net_threads, .ref q_net_ends, .ref q_net_colours])), (q_net_ends, .inl (cI, 21, .inl f_net_ends)), (q_net_colours, .inl (cI, 21, .inl f_net_colours)), (q_history, .inr (1, [.ref q_history_states, .int f_history_size])), (q_history_states, .inl (cN, 4, .inr (.inr (.inr (.inr (hisG q_history_h0 q_history_h1 q_history_h2 q_history_h3)))))), (q_history_h0, .inr (2, [.int f_history_h0_knots, .int f_history_h0_threads, .ref q_history_h0_ends, .ref q_history_h0_colours])), (q_history_h0_ends, .inl (cI, 21, .inl f_history_h0_ends)), (q_history_h0_colours, .inl (cI, 21, .inl f_history_h0_colours)), (q_history_h1, .inr (2, [.int f_history_h1_knots, .int f_history_h1_threads, .ref q_history_h1_ends, .ref q_history_h1_colours])), (q_history_h1_ends, .inl (cI, 21, .inl f_history_h1_ends)), (q_history_h1_colours, .inl (cI, 21, .inl f_history_h1_colours)), (q_history_h2, .inr (2, [.int f_history_h2_knots, .int f_history_h2_threads, .ref q_history_h2_ends, .ref q_history_h2_colours])), (q_history_h2_ends, .inl (cI, 21, .inl f_history_h2_ends)), (q_history_h2_colours, .inl (cI, 21, .inl f_history_h2_colours)), (q_history_h3, .inr (2, [.int f_history_h3_knots, .int f_history_h3_threads, .ref q_history_h3_ends, .ref q_history_h3_colours])), (q_history_h3_ends, .inl (cI, 21, .inl f_history_h3_ends)), (q_history_h3_colours, .inl (cI, 21, .inl f_history_h3_colours))] sz) := by
  unfold m_X6_paint at hm
  refine g_openI (cc := cX6_paint) (maxL := 4) (own := RX6) (by decide) rfl rfl (Nat.le_of_ble_eq_true rfl) ?_
  intro p e s m args below meth c A Q hx hb hml hown hts hP hK hN hD hA hret ls hl
  have hS : va_S A s.heap s.heap [] := va_S.rf
  have hl : lv_has ls 4 [(0, .ref q), (1, .int a1), (2, .int a2)] := hl
  refine lv_aload_n hx hb dX6_paint_0 rfl (lv_at hl 0 rfl) ?_
  refine va_get (D := D) (ci := 5) (v := .ref q_net) (C := RX6) (T := TX6) (N := 8) hx hb hts (by decide +kernel) hown hK hP 0 rfl rfl 0 (by decide) (hts (.fieldLink RX6 12 "KnotStripes" "net" "LKnotStripes$Net;") (by decide +kernel)) (fun _ h9 => h9) rfl dX6_paint_1 ?_
  refine lv_iload_n hx hb dX6_paint_4 rfl (lv_at hl 1 rfl) ?_
  obtain ⟨r_1, h_2, hm⟩ := bind_use hm
  refine g_ki (wc := [(q_net, .inr (2, [.int f_net_knots, .int f_net_threads, .ref q_net_ends, .ref q_net_colours])), (q_net_ends, .inl (cI, 21, .inl f_net_ends)), (q_net_colours, .inl (cI, 21, .inl f_net_colours))]) (wr := [(q, .inr (5, [.ref q_net, .ref q_draft, .ref q_snapshot, .int f_hasSnapshot, .ref q_history, .ref q_text, .ref q_painter, .ref q_covers])), (q_history, .inr (1, [.ref q_history_states, .int f_history_size])), (q_history_states, .inl (cN, 4, .inr (.inr (.inr (.inr (hisG q_history_h0 q_history_h1 q_history_h2 q_history_h3)))))), (q_history_h0, .inr (2, [.int f_history_h0_knots, .int f_history_h0_threads, .ref q_history_h0_ends, .ref q_history_h0_colours])), (q_history_h0_ends, .inl (cI, 21, .inl f_history_h0_ends)), (q_history_h0_colours, .inl (cI, 21, .inl f_history_h0_colours)), (q_history_h1, .inr (2, [.int f_history_h1_knots, .int f_history_h1_threads, .ref q_history_h1_ends, .ref q_history_h1_colours])), (q_history_h1_ends, .inl (cI, 21, .inl f_history_h1_ends)), (q_history_h1_colours, .inl (cI, 21, .inl f_history_h1_colours)), (q_history_h2, .inr (2, [.int f_history_h2_knots, .int f_history_h2_threads, .ref q_history_h2_ends, .ref q_history_h2_colours])), (q_history_h2_ends, .inl (cI, 21, .inl f_history_h2_ends)), (q_history_h2_colours, .inl (cI, 21, .inl f_history_h2_colours)), (q_history_h3, .inr (2, [.int f_history_h3_knots, .int f_history_h3_threads, .ref q_history_h3_ends, .ref q_history_h3_colours])), (q_history_h3_ends, .inl (cI, 21, .inl f_history_h3_ends)), (q_history_h3_colours, .inl (cI, 21, .inl f_history_h3_colours))]) (w2 := [(q, .inr (5, [.ref q_net, .ref q_draft, .ref q_snapshot, .int f_hasSnapshot, .ref q_history, .ref q_text, .ref q_painter, .ref q_covers])), (q_history, .inr (1, [.ref q_history_states, .int f_history_size])), (q_history_states, .inl (cN, 4, .inr (.inr (.inr (.inr (hisG q_history_h0 q_history_h1 q_history_h2 q_history_h3)))))), (q_history_h0, .inr (2, [.int f_history_h0_knots, .int f_history_h0_threads, .ref q_history_h0_ends, .ref q_history_h0_colours])), (q_history_h0_ends, .inl (cI, 21, .inl f_history_h0_ends)), (q_history_h0_colours, .inl (cI, 21, .inl f_history_h0_colours)), (q_history_h1, .inr (2, [.int f_history_h1_knots, .int f_history_h1_threads, .ref q_history_h1_ends, .ref q_history_h1_colours])), (q_history_h1_ends, .inl (cI, 21, .inl f_history_h1_ends)), (q_history_h1_colours, .inl (cI, 21, .inl f_history_h1_colours)), (q_history_h2, .inr (2, [.int f_history_h2_knots, .int f_history_h2_threads, .ref q_history_h2_ends, .ref q_history_h2_colours])), (q_history_h2_ends, .inl (cI, 21, .inl f_history_h2_ends)), (q_history_h2_colours, .inl (cI, 21, .inl f_history_h2_colours)), (q_history_h3, .inr (2, [.int f_history_h3_knots, .int f_history_h3_threads, .ref q_history_h3_ends, .ref q_history_h3_colours])), (q_history_h3_ends, .inl (cI, 21, .inl f_history_h3_ends)), (q_history_h3_colours, .inl (cI, 21, .inl f_history_h3_colours)), (q_net, .inr (2, [.int f_net_knots, .int f_net_threads, .ref q_net_ends, .ref q_net_colours])), (q_net_ends, .inl (cI, 21, .inl f_net_ends)), (q_net_colours, .inl (cI, 21, .inl f_net_colours))]) (va_runV (As := [.int a1]) (rest := []) ⟨hx, hb, hml, hown, hts⟩ (k_X2_hasThread l D cI cC cN N q_net q_net_ends q_net_colours s.heap.size f_net_knots f_net_threads f_net_ends f_net_colours a1 r_1 h_2) (cwV 1 hts gX6_paint_X2_hasThread rfl rfl rfl (by decide +kernel) ⟨Nat.le_of_ble_eq_true rfl, Nat.le_of_ble_eq_true rfl⟩) ⟨g_blind, va_recv (D := D) (ci := 2) (q0 := 1) hK hP rfl rfl, g_pre (hP.sub [1, 2, 3] rfl) hK hN (hD.sub [1, 2, 3] (by decide) rfl)⟩ rfl rfl hl.1 rfl (lv_room (Nat.le_of_ble_eq_true rfl)) dX6_paint_5 ⟨Nat.zero_le _, Nat.zero_le _⟩) hP hD hS hA [1, 2, 3] [0, 4, 5, 6, 7, 8, 9, 10, 11, 12, 13, 14, 15, 16, 17] rfl rfl (by decide) (by decide) rfl (fun H locs hP hD hS => ?_)
  refine lv_if_ne (tgt := 13) hx hb dX6_paint_8 (by decide) (fun hc => ?_) (fun hc => ?_)
  · have hm := if_f _ hc hm
    refine lv_iload_n hx hb dX6_paint_13 rfl (lv_at hl 2 rfl) ?_
    refine lv_if_lt (tgt := 22) hx hb dX6_paint_14 (by decide) (fun hc => ?_) (fun hc => ?_)
    · have hm := if_t _ hc hm
      refine lv_bipush (v := (-2)) hx hb dX6_paint_22 (by decide) ?_
      have z1 := so_use hm
      obtain ⟨y1, z2⟩ := pr_use z1
      obtain ⟨y2, z3⟩ := pr_use z2
      obtain ⟨y3, z4⟩ := pr_use z3
      obtain ⟨y4, z5⟩ := pr_use z4
      obtain ⟨y5, z6⟩ := pr_use z5
      obtain ⟨y6, z7⟩ := pr_use z6
      obtain ⟨y7, z8⟩ := pr_use z7
      obtain ⟨y8, z9⟩ := pr_use z8
      obtain ⟨y9, z10⟩ := pr_use z9
      obtain ⟨y10, z11⟩ := pr_use z10
      obtain ⟨y11, z12⟩ := pr_use z11
      obtain ⟨y12, z13⟩ := pr_use z12
      obtain ⟨y13, z14⟩ := pr_use z13
      obtain ⟨y14, z15⟩ := pr_use z14
      obtain ⟨y15, z16⟩ := pr_use z15
      obtain ⟨y16, z17⟩ := pr_use z16
      obtain ⟨y17, z18⟩ := pr_use z17
      obtain ⟨y18, z19⟩ := pr_use z18
      subst y1
      subst y2
      subst y3
      subst y4
      subst y5
      subst y6
      subst y7
      subst y8
      subst y9
      subst y10
      subst y11
      subst y12
      subst y13
      subst y14
      subst y15
      subst y16
      subst y17
      subst y18
      subst z19
      exact hret _ _ _ _ _ dX6_paint_24 rfl rfl (hP.sub [0, 15, 16, 17, 1, 2, 3, 4, 5, 6, 7, 8, 9, 10, 11, 12, 13, 14] rfl) (hD.sub [0, 15, 16, 17, 1, 2, 3, 4, 5, 6, 7, 8, 9, 10, 11, 12, 13, 14] (by decide) rfl) hS
    · have hm := if_f _ hc hm
      refine lv_iload_n hx hb dX6_paint_17 rfl (lv_at hl 2 rfl) ?_
      refine lv_iconst (v := 3) hx hb dX6_paint_18 (by decide) ?_
      refine lv_icmp_le (tgt := 25) hx hb dX6_paint_19 (by decide) (fun hc => ?_) (fun hc => ?_)
      · have hm := if_t _ hc hm
        refine lv_aload_n hx hb dX6_paint_25 rfl (lv_at hl 0 rfl) ?_
        refine va_get (D := D) (ci := 5) (v := .ref q_net) (C := RX6) (T := TX6) (N := 8) hx hb hts (by decide +kernel) hown hK hP 0 rfl rfl 0 (by decide) (hts (.fieldLink RX6 12 "KnotStripes" "net" "LKnotStripes$Net;") (by decide +kernel)) (fun _ h9 => h9) rfl dX6_paint_26 ?_
        refine lv_iload_n hx hb dX6_paint_29 rfl (lv_at hl 1 rfl) ?_
        obtain ⟨r_3, h_4, hm⟩ := bind_use hm
        refine g_ki (wc := [(q_net, .inr (2, [.int f_net_knots, .int f_net_threads, .ref q_net_ends, .ref q_net_colours])), (q_net_ends, .inl (cI, 21, .inl f_net_ends)), (q_net_colours, .inl (cI, 21, .inl f_net_colours))]) (wr := [(q, .inr (5, [.ref q_net, .ref q_draft, .ref q_snapshot, .int f_hasSnapshot, .ref q_history, .ref q_text, .ref q_painter, .ref q_covers])), (q_history, .inr (1, [.ref q_history_states, .int f_history_size])), (q_history_states, .inl (cN, 4, .inr (.inr (.inr (.inr (hisG q_history_h0 q_history_h1 q_history_h2 q_history_h3)))))), (q_history_h0, .inr (2, [.int f_history_h0_knots, .int f_history_h0_threads, .ref q_history_h0_ends, .ref q_history_h0_colours])), (q_history_h0_ends, .inl (cI, 21, .inl f_history_h0_ends)), (q_history_h0_colours, .inl (cI, 21, .inl f_history_h0_colours)), (q_history_h1, .inr (2, [.int f_history_h1_knots, .int f_history_h1_threads, .ref q_history_h1_ends, .ref q_history_h1_colours])), (q_history_h1_ends, .inl (cI, 21, .inl f_history_h1_ends)), (q_history_h1_colours, .inl (cI, 21, .inl f_history_h1_colours)), (q_history_h2, .inr (2, [.int f_history_h2_knots, .int f_history_h2_threads, .ref q_history_h2_ends, .ref q_history_h2_colours])), (q_history_h2_ends, .inl (cI, 21, .inl f_history_h2_ends)), (q_history_h2_colours, .inl (cI, 21, .inl f_history_h2_colours)), (q_history_h3, .inr (2, [.int f_history_h3_knots, .int f_history_h3_threads, .ref q_history_h3_ends, .ref q_history_h3_colours])), (q_history_h3_ends, .inl (cI, 21, .inl f_history_h3_ends)), (q_history_h3_colours, .inl (cI, 21, .inl f_history_h3_colours))]) (w2 := [(q, .inr (5, [.ref q_net, .ref q_draft, .ref q_snapshot, .int f_hasSnapshot, .ref q_history, .ref q_text, .ref q_painter, .ref q_covers])), (q_history, .inr (1, [.ref q_history_states, .int f_history_size])), (q_history_states, .inl (cN, 4, .inr (.inr (.inr (.inr (hisG q_history_h0 q_history_h1 q_history_h2 q_history_h3)))))), (q_history_h0, .inr (2, [.int f_history_h0_knots, .int f_history_h0_threads, .ref q_history_h0_ends, .ref q_history_h0_colours])), (q_history_h0_ends, .inl (cI, 21, .inl f_history_h0_ends)), (q_history_h0_colours, .inl (cI, 21, .inl f_history_h0_colours)), (q_history_h1, .inr (2, [.int f_history_h1_knots, .int f_history_h1_threads, .ref q_history_h1_ends, .ref q_history_h1_colours])), (q_history_h1_ends, .inl (cI, 21, .inl f_history_h1_ends)), (q_history_h1_colours, .inl (cI, 21, .inl f_history_h1_colours)), (q_history_h2, .inr (2, [.int f_history_h2_knots, .int f_history_h2_threads, .ref q_history_h2_ends, .ref q_history_h2_colours])), (q_history_h2_ends, .inl (cI, 21, .inl f_history_h2_ends)), (q_history_h2_colours, .inl (cI, 21, .inl f_history_h2_colours)), (q_history_h3, .inr (2, [.int f_history_h3_knots, .int f_history_h3_threads, .ref q_history_h3_ends, .ref q_history_h3_colours])), (q_history_h3_ends, .inl (cI, 21, .inl f_history_h3_ends)), (q_history_h3_colours, .inl (cI, 21, .inl f_history_h3_colours)), (q_net, .inr (2, [.int f_net_knots, .int f_net_threads, .ref q_net_ends, .ref q_net_colours])), (q_net_ends, .inl (cI, 21, .inl f_net_ends)), (q_net_colours, .inl (cI, 21, .inl f_net_colours))]) (va_runV (As := [.int a1]) (rest := []) ⟨hx, hb, hml, hown, hts⟩ (k_X2_colour l D cI cC cN N q_net q_net_ends q_net_colours H.size f_net_knots f_net_threads f_net_ends f_net_colours a1 r_3 h_4) (cwV 1 hts gX6_paint_X2_colour rfl rfl rfl (by decide +kernel) ⟨Nat.le_of_ble_eq_true rfl, Nat.le_of_ble_eq_true rfl⟩) ⟨g_blind, va_recv (D := D) (ci := 2) (q0 := 15) hK hP rfl rfl, g_pre (hP.sub [15, 16, 17] rfl) hK hN (hD.sub [15, 16, 17] (by decide) rfl)⟩ rfl rfl hl.1 rfl (lv_room (Nat.le_of_ble_eq_true rfl)) dX6_paint_30 ⟨Nat.zero_le _, Nat.zero_le _⟩) hP hD hS hA [15, 16, 17] [0, 1, 2, 3, 4, 5, 6, 7, 8, 9, 10, 11, 12, 13, 14] rfl rfl (by decide) (by decide) rfl (fun H locs hP hD hS => ?_)
        refine lv_istore_n (lv' := [(3, .int r_3), (0, .ref q), (1, .int a1), (2, .int a2)]) hx hb dX6_paint_33 rfl hl (by decide) rfl (fun ls hl => ?_)
        refine lv_iload_n hx hb dX6_paint_34 rfl (lv_at hl 0 rfl) ?_
        refine lv_iload_n hx hb dX6_paint_35 rfl (lv_at hl 3 rfl) ?_
        refine lv_icmp_ne (tgt := 42) hx hb dX6_paint_36 (by decide) (fun hc => ?_) (fun hc => ?_)
        · have hm := if_f _ hc hm
          refine lv_aload_n hx hb dX6_paint_42 rfl (lv_at hl 1 rfl) ?_
          refine va_get (D := D) (ci := 5) (v := .ref q_history) (C := RX6) (T := TX6) (N := 8) hx hb hts (by decide +kernel) hown hK hP 0 rfl rfl 4 (by decide) (hts (.fieldLink RX6 29 "KnotStripes" "history" "LKnotStripes$History;") (by decide +kernel)) (fun _ h9 => h9) rfl dX6_paint_43 ?_
          refine lv_aload_n hx hb dX6_paint_46 rfl (lv_at hl 1 rfl) ?_
          refine va_get (D := D) (ci := 5) (v := .ref q_net) (C := RX6) (T := TX6) (N := 8) hx hb hts (by decide +kernel) hown hK hP 0 rfl rfl 0 (by decide) (hts (.fieldLink RX6 12 "KnotStripes" "net" "LKnotStripes$Net;") (by decide +kernel)) (fun _ h9 => h9) rfl dX6_paint_47 ?_
          obtain ⟨⟨f_history_size_5, f_history_h0_knots_6, f_history_h0_threads_7, f_history_h0_ends_8, f_history_h0_colours_9, f_history_h1_knots_10, f_history_h1_threads_11, f_history_h1_ends_12, f_history_h1_colours_13, f_history_h2_knots_14, f_history_h2_threads_15, f_history_h2_ends_16, f_history_h2_colours_17, f_history_h3_knots_18, f_history_h3_threads_19, f_history_h3_ends_20, f_history_h3_colours_21⟩, h_22, hm⟩ := bind_use hm
          refine g_kv (wc := [(q_history, .inr (1, [.ref q_history_states, .int f_history_size])), (q_history_states, .inl (cN, 4, .inr (.inr (.inr (.inr (hisG q_history_h0 q_history_h1 q_history_h2 q_history_h3)))))), (q_history_h0, .inr (2, [.int f_history_h0_knots, .int f_history_h0_threads, .ref q_history_h0_ends, .ref q_history_h0_colours])), (q_history_h0_ends, .inl (cI, 21, .inl f_history_h0_ends)), (q_history_h0_colours, .inl (cI, 21, .inl f_history_h0_colours)), (q_history_h1, .inr (2, [.int f_history_h1_knots, .int f_history_h1_threads, .ref q_history_h1_ends, .ref q_history_h1_colours])), (q_history_h1_ends, .inl (cI, 21, .inl f_history_h1_ends)), (q_history_h1_colours, .inl (cI, 21, .inl f_history_h1_colours)), (q_history_h2, .inr (2, [.int f_history_h2_knots, .int f_history_h2_threads, .ref q_history_h2_ends, .ref q_history_h2_colours])), (q_history_h2_ends, .inl (cI, 21, .inl f_history_h2_ends)), (q_history_h2_colours, .inl (cI, 21, .inl f_history_h2_colours)), (q_history_h3, .inr (2, [.int f_history_h3_knots, .int f_history_h3_threads, .ref q_history_h3_ends, .ref q_history_h3_colours])), (q_history_h3_ends, .inl (cI, 21, .inl f_history_h3_ends)), (q_history_h3_colours, .inl (cI, 21, .inl f_history_h3_colours)), (q_net, .inr (2, [.int f_net_knots, .int f_net_threads, .ref q_net_ends, .ref q_net_colours])), (q_net_ends, .inl (cI, 21, .inl f_net_ends)), (q_net_colours, .inl (cI, 21, .inl f_net_colours))]) (wr := [(q, .inr (5, [.ref q_net, .ref q_draft, .ref q_snapshot, .int f_hasSnapshot, .ref q_history, .ref q_text, .ref q_painter, .ref q_covers]))]) (w2 := [(q, .inr (5, [.ref q_net, .ref q_draft, .ref q_snapshot, .int f_hasSnapshot, .ref q_history, .ref q_text, .ref q_painter, .ref q_covers])), (q_history, .inr (1, [.ref q_history_states, .int f_history_size_5])), (q_history_states, .inl (cN, 4, .inr (.inr (.inr (.inr (hisG q_history_h0 q_history_h1 q_history_h2 q_history_h3)))))), (q_history_h0, .inr (2, [.int f_history_h0_knots_6, .int f_history_h0_threads_7, .ref q_history_h0_ends, .ref q_history_h0_colours])), (q_history_h0_ends, .inl (cI, 21, .inl f_history_h0_ends_8)), (q_history_h0_colours, .inl (cI, 21, .inl f_history_h0_colours_9)), (q_history_h1, .inr (2, [.int f_history_h1_knots_10, .int f_history_h1_threads_11, .ref q_history_h1_ends, .ref q_history_h1_colours])), (q_history_h1_ends, .inl (cI, 21, .inl f_history_h1_ends_12)), (q_history_h1_colours, .inl (cI, 21, .inl f_history_h1_colours_13)), (q_history_h2, .inr (2, [.int f_history_h2_knots_14, .int f_history_h2_threads_15, .ref q_history_h2_ends, .ref q_history_h2_colours])), (q_history_h2_ends, .inl (cI, 21, .inl f_history_h2_ends_16)), (q_history_h2_colours, .inl (cI, 21, .inl f_history_h2_colours_17)), (q_history_h3, .inr (2, [.int f_history_h3_knots_18, .int f_history_h3_threads_19, .ref q_history_h3_ends, .ref q_history_h3_colours])), (q_history_h3_ends, .inl (cI, 21, .inl f_history_h3_ends_20)), (q_history_h3_colours, .inl (cI, 21, .inl f_history_h3_colours_21)), (q_net, .inr (2, [.int f_net_knots, .int f_net_threads, .ref q_net_ends, .ref q_net_colours])), (q_net_ends, .inl (cI, 21, .inl f_net_ends)), (q_net_colours, .inl (cI, 21, .inl f_net_colours))]) (va_runV (As := [.ref q_net]) (rest := []) ⟨hx, hb, hml, hown, hts⟩ (k_X1_push l D cI cC cN N q_history q_history_states q_history_h0 q_history_h1 q_history_h2 q_history_h3 q_history_h0_ends q_history_h0_colours q_history_h1_ends q_history_h1_colours q_history_h2_ends q_history_h2_colours q_history_h3_ends q_history_h3_colours q_net q_net_ends q_net_colours H.size f_history_size f_history_h0_knots f_history_h0_threads f_history_h0_ends f_history_h0_colours f_history_h1_knots f_history_h1_threads f_history_h1_ends f_history_h1_colours f_history_h2_knots f_history_h2_threads f_history_h2_ends f_history_h2_colours f_history_h3_knots f_history_h3_threads f_history_h3_ends f_history_h3_colours f_net_knots f_net_threads f_net_ends f_net_colours f_history_size_5 f_history_h0_knots_6 f_history_h0_threads_7 f_history_h0_ends_8 f_history_h0_colours_9 f_history_h1_knots_10 f_history_h1_threads_11 f_history_h1_ends_12 f_history_h1_colours_13 f_history_h2_knots_14 f_history_h2_threads_15 f_history_h2_ends_16 f_history_h2_colours_17 f_history_h3_knots_18 f_history_h3_threads_19 f_history_h3_ends_20 f_history_h3_colours_21 h_22) (cwV 1 hts gX6_paint_X1_push rfl rfl rfl (by decide +kernel) ⟨Nat.le_of_ble_eq_true rfl, Nat.le_of_ble_eq_true rfl⟩) ⟨g_blind, va_recv (D := D) (ci := 1) (q0 := 1) hK hP rfl rfl, g_pre (hP.sub [1, 2, 3, 4, 5, 6, 7, 8, 9, 10, 11, 12, 13, 14, 15, 16, 17] rfl) hK hN (hD.sub [1, 2, 3, 4, 5, 6, 7, 8, 9, 10, 11, 12, 13, 14, 15, 16, 17] (by decide) rfl)⟩ rfl rfl hl.1 rfl (lv_room (Nat.le_of_ble_eq_true rfl)) dX6_paint_50 ⟨Nat.zero_le _, Nat.zero_le _⟩) hP hD hS hA [1, 2, 3, 4, 5, 6, 7, 8, 9, 10, 11, 12, 13, 14, 15, 16, 17] [0] rfl rfl (by decide) (by decide) rfl (fun H locs hP hD hS => ?_)
          refine lv_aload_n hx hb dX6_paint_53 rfl (lv_at hl 1 rfl) ?_
          refine va_get (D := D) (ci := 5) (v := .ref q_net) (C := RX6) (T := TX6) (N := 8) hx hb hts (by decide +kernel) hown hK hP 0 rfl rfl 0 (by decide) (hts (.fieldLink RX6 12 "KnotStripes" "net" "LKnotStripes$Net;") (by decide +kernel)) (fun _ h9 => h9) rfl dX6_paint_54 ?_
          refine lv_iload_n hx hb dX6_paint_57 rfl (lv_at hl 2 rfl) ?_
          refine lv_iload_n hx hb dX6_paint_58 rfl (lv_at hl 3 rfl) ?_
          obtain ⟨f_net_colours_23, h_24, hm⟩ := bind_use hm
          refine g_kv (wc := [(q_net, .inr (2, [.int f_net_knots, .int f_net_threads, .ref q_net_ends, .ref q_net_colours])), (q_net_ends, .inl (cI, 21, .inl f_net_ends)), (q_net_colours, .inl (cI, 21, .inl f_net_colours))]) (wr := [(q, .inr (5, [.ref q_net, .ref q_draft, .ref q_snapshot, .int f_hasSnapshot, .ref q_history, .ref q_text, .ref q_painter, .ref q_covers])), (q_history, .inr (1, [.ref q_history_states, .int f_history_size_5])), (q_history_states, .inl (cN, 4, .inr (.inr (.inr (.inr (hisG q_history_h0 q_history_h1 q_history_h2 q_history_h3)))))), (q_history_h0, .inr (2, [.int f_history_h0_knots_6, .int f_history_h0_threads_7, .ref q_history_h0_ends, .ref q_history_h0_colours])), (q_history_h0_ends, .inl (cI, 21, .inl f_history_h0_ends_8)), (q_history_h0_colours, .inl (cI, 21, .inl f_history_h0_colours_9)), (q_history_h1, .inr (2, [.int f_history_h1_knots_10, .int f_history_h1_threads_11, .ref q_history_h1_ends, .ref q_history_h1_colours])), (q_history_h1_ends, .inl (cI, 21, .inl f_history_h1_ends_12)), (q_history_h1_colours, .inl (cI, 21, .inl f_history_h1_colours_13)), (q_history_h2, .inr (2, [.int f_history_h2_knots_14, .int f_history_h2_threads_15, .ref q_history_h2_ends, .ref q_history_h2_colours])), (q_history_h2_ends, .inl (cI, 21, .inl f_history_h2_ends_16)), (q_history_h2_colours, .inl (cI, 21, .inl f_history_h2_colours_17)), (q_history_h3, .inr (2, [.int f_history_h3_knots_18, .int f_history_h3_threads_19, .ref q_history_h3_ends, .ref q_history_h3_colours])), (q_history_h3_ends, .inl (cI, 21, .inl f_history_h3_ends_20)), (q_history_h3_colours, .inl (cI, 21, .inl f_history_h3_colours_21))]) (w2 := [(q, .inr (5, [.ref q_net, .ref q_draft, .ref q_snapshot, .int f_hasSnapshot, .ref q_history, .ref q_text, .ref q_painter, .ref q_covers])), (q_history, .inr (1, [.ref q_history_states, .int f_history_size_5])), (q_history_states, .inl (cN, 4, .inr (.inr (.inr (.inr (hisG q_history_h0 q_history_h1 q_history_h2 q_history_h3)))))), (q_history_h0, .inr (2, [.int f_history_h0_knots_6, .int f_history_h0_threads_7, .ref q_history_h0_ends, .ref q_history_h0_colours])), (q_history_h0_ends, .inl (cI, 21, .inl f_history_h0_ends_8)), (q_history_h0_colours, .inl (cI, 21, .inl f_history_h0_colours_9)), (q_history_h1, .inr (2, [.int f_history_h1_knots_10, .int f_history_h1_threads_11, .ref q_history_h1_ends, .ref q_history_h1_colours])), (q_history_h1_ends, .inl (cI, 21, .inl f_history_h1_ends_12)), (q_history_h1_colours, .inl (cI, 21, .inl f_history_h1_colours_13)), (q_history_h2, .inr (2, [.int f_history_h2_knots_14, .int f_history_h2_threads_15, .ref q_history_h2_ends, .ref q_history_h2_colours])), (q_history_h2_ends, .inl (cI, 21, .inl f_history_h2_ends_16)), (q_history_h2_colours, .inl (cI, 21, .inl f_history_h2_colours_17)), (q_history_h3, .inr (2, [.int f_history_h3_knots_18, .int f_history_h3_threads_19, .ref q_history_h3_ends, .ref q_history_h3_colours])), (q_history_h3_ends, .inl (cI, 21, .inl f_history_h3_ends_20)), (q_history_h3_colours, .inl (cI, 21, .inl f_history_h3_colours_21)), (q_net, .inr (2, [.int f_net_knots, .int f_net_threads, .ref q_net_ends, .ref q_net_colours])), (q_net_ends, .inl (cI, 21, .inl f_net_ends)), (q_net_colours, .inl (cI, 21, .inl f_net_colours_23))]) (va_runV (As := [.int a1, .int a2]) (rest := []) ⟨hx, hb, hml, hown, hts⟩ (k_X2_setColour l D cI cC cN N q_net q_net_ends q_net_colours H.size f_net_knots f_net_threads f_net_ends f_net_colours a1 a2 f_net_colours_23 h_24) (cwV 2 hts gX6_paint_X2_setColour rfl rfl rfl (by decide +kernel) ⟨Nat.le_of_ble_eq_true rfl, Nat.le_of_ble_eq_true rfl⟩) ⟨g_blind, va_recv (D := D) (ci := 2) (q0 := 15) hK hP rfl rfl, g_pre (hP.sub [15, 16, 17] rfl) hK hN (hD.sub [15, 16, 17] (by decide) rfl)⟩ rfl rfl hl.1 rfl (lv_room (Nat.le_of_ble_eq_true rfl)) dX6_paint_59 ⟨Nat.zero_le _, Nat.zero_le _⟩) hP hD hS hA [15, 16, 17] [0, 1, 2, 3, 4, 5, 6, 7, 8, 9, 10, 11, 12, 13, 14] rfl rfl (by decide) (by decide) rfl (fun H locs hP hD hS => ?_)
          refine lv_iload_n hx hb dX6_paint_62 rfl (lv_at hl 0 rfl) ?_
          have z1 := so_use hm
          obtain ⟨y1, z2⟩ := pr_use z1
          obtain ⟨y2, z3⟩ := pr_use z2
          obtain ⟨y3, z4⟩ := pr_use z3
          obtain ⟨y4, z5⟩ := pr_use z4
          obtain ⟨y5, z6⟩ := pr_use z5
          obtain ⟨y6, z7⟩ := pr_use z6
          obtain ⟨y7, z8⟩ := pr_use z7
          obtain ⟨y8, z9⟩ := pr_use z8
          obtain ⟨y9, z10⟩ := pr_use z9
          obtain ⟨y10, z11⟩ := pr_use z10
          obtain ⟨y11, z12⟩ := pr_use z11
          obtain ⟨y12, z13⟩ := pr_use z12
          obtain ⟨y13, z14⟩ := pr_use z13
          obtain ⟨y14, z15⟩ := pr_use z14
          obtain ⟨y15, z16⟩ := pr_use z15
          obtain ⟨y16, z17⟩ := pr_use z16
          obtain ⟨y17, z18⟩ := pr_use z17
          obtain ⟨y18, z19⟩ := pr_use z18
          subst y1
          subst y2
          subst y3
          subst y4
          subst y5
          subst y6
          subst y7
          subst y8
          subst y9
          subst y10
          subst y11
          subst y12
          subst y13
          subst y14
          subst y15
          subst y16
          subst y17
          subst y18
          subst z19
          exact hret _ _ _ _ _ dX6_paint_63 rfl rfl (hP.sub [0, 15, 16, 17, 1, 2, 3, 4, 5, 6, 7, 8, 9, 10, 11, 12, 13, 14] rfl) (hD.sub [0, 15, 16, 17, 1, 2, 3, 4, 5, 6, 7, 8, 9, 10, 11, 12, 13, 14] (by decide) rfl) hS
        · have hm := if_t _ hc hm
          refine lv_bipush (v := (-5)) hx hb dX6_paint_39 (by decide) ?_
          have z1 := so_use hm
          obtain ⟨y1, z2⟩ := pr_use z1
          obtain ⟨y2, z3⟩ := pr_use z2
          obtain ⟨y3, z4⟩ := pr_use z3
          obtain ⟨y4, z5⟩ := pr_use z4
          obtain ⟨y5, z6⟩ := pr_use z5
          obtain ⟨y6, z7⟩ := pr_use z6
          obtain ⟨y7, z8⟩ := pr_use z7
          obtain ⟨y8, z9⟩ := pr_use z8
          obtain ⟨y9, z10⟩ := pr_use z9
          obtain ⟨y10, z11⟩ := pr_use z10
          obtain ⟨y11, z12⟩ := pr_use z11
          obtain ⟨y12, z13⟩ := pr_use z12
          obtain ⟨y13, z14⟩ := pr_use z13
          obtain ⟨y14, z15⟩ := pr_use z14
          obtain ⟨y15, z16⟩ := pr_use z15
          obtain ⟨y16, z17⟩ := pr_use z16
          obtain ⟨y17, z18⟩ := pr_use z17
          obtain ⟨y18, z19⟩ := pr_use z18
          subst y1
          subst y2
          subst y3
          subst y4
          subst y5
          subst y6
          subst y7
          subst y8
          subst y9
          subst y10
          subst y11
          subst y12
          subst y13
          subst y14
          subst y15
          subst y16
          subst y17
          subst y18
          subst z19
          exact hret _ _ _ _ _ dX6_paint_41 rfl rfl (hP.sub [0, 15, 16, 17, 1, 2, 3, 4, 5, 6, 7, 8, 9, 10, 11, 12, 13, 14] rfl) (hD.sub [0, 15, 16, 17, 1, 2, 3, 4, 5, 6, 7, 8, 9, 10, 11, 12, 13, 14] (by decide) rfl) hS
      · have hm := if_f _ hc hm
        refine lv_bipush (v := (-2)) hx hb dX6_paint_22 (by decide) ?_
        have z1 := so_use hm
        obtain ⟨y1, z2⟩ := pr_use z1
        obtain ⟨y2, z3⟩ := pr_use z2
        obtain ⟨y3, z4⟩ := pr_use z3
        obtain ⟨y4, z5⟩ := pr_use z4
        obtain ⟨y5, z6⟩ := pr_use z5
        obtain ⟨y6, z7⟩ := pr_use z6
        obtain ⟨y7, z8⟩ := pr_use z7
        obtain ⟨y8, z9⟩ := pr_use z8
        obtain ⟨y9, z10⟩ := pr_use z9
        obtain ⟨y10, z11⟩ := pr_use z10
        obtain ⟨y11, z12⟩ := pr_use z11
        obtain ⟨y12, z13⟩ := pr_use z12
        obtain ⟨y13, z14⟩ := pr_use z13
        obtain ⟨y14, z15⟩ := pr_use z14
        obtain ⟨y15, z16⟩ := pr_use z15
        obtain ⟨y16, z17⟩ := pr_use z16
        obtain ⟨y17, z18⟩ := pr_use z17
        obtain ⟨y18, z19⟩ := pr_use z18
        subst y1
        subst y2
        subst y3
        subst y4
        subst y5
        subst y6
        subst y7
        subst y8
        subst y9
        subst y10
        subst y11
        subst y12
        subst y13
        subst y14
        subst y15
        subst y16
        subst y17
        subst y18
        subst z19
        exact hret _ _ _ _ _ dX6_paint_24 rfl rfl (hP.sub [0, 15, 16, 17, 1, 2, 3, 4, 5, 6, 7, 8, 9, 10, 11, 12, 13, 14] rfl) (hD.sub [0, 15, 16, 17, 1, 2, 3, 4, 5, 6, 7, 8, 9, 10, 11, 12, 13, 14] (by decide) rfl) hS
  · have hm := if_t _ hc hm
    refine lv_iconst (v := (-1)) hx hb dX6_paint_11 (by decide) ?_
    have z1 := so_use hm
    obtain ⟨y1, z2⟩ := pr_use z1
    obtain ⟨y2, z3⟩ := pr_use z2
    obtain ⟨y3, z4⟩ := pr_use z3
    obtain ⟨y4, z5⟩ := pr_use z4
    obtain ⟨y5, z6⟩ := pr_use z5
    obtain ⟨y6, z7⟩ := pr_use z6
    obtain ⟨y7, z8⟩ := pr_use z7
    obtain ⟨y8, z9⟩ := pr_use z8
    obtain ⟨y9, z10⟩ := pr_use z9
    obtain ⟨y10, z11⟩ := pr_use z10
    obtain ⟨y11, z12⟩ := pr_use z11
    obtain ⟨y12, z13⟩ := pr_use z12
    obtain ⟨y13, z14⟩ := pr_use z13
    obtain ⟨y14, z15⟩ := pr_use z14
    obtain ⟨y15, z16⟩ := pr_use z15
    obtain ⟨y16, z17⟩ := pr_use z16
    obtain ⟨y17, z18⟩ := pr_use z17
    obtain ⟨y18, z19⟩ := pr_use z18
    subst y1
    subst y2
    subst y3
    subst y4
    subst y5
    subst y6
    subst y7
    subst y8
    subst y9
    subst y10
    subst y11
    subst y12
    subst y13
    subst y14
    subst y15
    subst y16
    subst y17
    subst y18
    subst z19
    exact hret _ _ _ _ _ dX6_paint_12 rfl rfl (hP.sub [0, 15, 16, 17, 1, 2, 3, 4, 5, 6, 7, 8, 9, 10, 11, 12, 13, 14] rfl) (hD.sub [0, 15, 16, 17, 1, 2, 3, 4, 5, 6, 7, 8, 9, 10, 11, 12, 13, 14] (by decide) rfl) hS
abbrev rX6_chain : Room := { frames := 4, cells := 0, slots := 0, locals := 91 }
set_option maxHeartbeats 4000000 in
set_option maxRecDepth 100000 in
theorem k_X6_chain (l : Launch) (D : va_G) (cI cC cN : ClassId) (N : Nat) (q : Nat) (q_net : Nat) (q_draft : Nat) (q_snapshot : Nat) (q_history : Nat) (q_text : Nat) (q_painter : Nat) (q_covers : Nat) (q_net_ends : Nat) (q_net_colours : Nat) (sz : Nat) (f_hasSnapshot : Int32) (f_net_knots : Int32) (f_net_threads : Int32) (f_net_ends : Nat → Int32) (f_net_colours : Nat → Int32) (a1 : Int32) (a2 : Int32) (r : Int32) (hm : m_X6_chain N f_net_threads f_net_ends f_net_colours a1 a2 = some r) : Met l yX6_chain wsX6_chain (rX6_chain) (gPc D (tysG cI cC cN) [.ref q, .int a1, .int a2] [(q, .inr (5, [.ref q_net, .ref q_draft, .ref q_snapshot, .int f_hasSnapshot, .ref q_history, .ref q_text, .ref q_painter, .ref q_covers])), (q_net, .inr (2, [.int f_net_knots, .int f_net_threads, .ref q_net_ends, .ref q_net_colours])), (q_net_ends, .inl (cI, 21, .inl f_net_ends)), (q_net_colours, .inl (cI, 21, .inl f_net_colours))] sz) (gQi D (tysG cI cC cN) (va_A [(q, .inr (5, [.ref q_net, .ref q_draft, .ref q_snapshot, .int f_hasSnapshot, .ref q_history, .ref q_text, .ref q_painter, .ref q_covers])), (q_net, .inr (2, [.int f_net_knots, .int f_net_threads, .ref q_net_ends, .ref q_net_colours])), (q_net_ends, .inl (cI, 21, .inl f_net_ends)), (q_net_colours, .inl (cI, 21, .inl f_net_colours))] sz) [(q, .inr (5, [.ref q_net, .ref q_draft, .ref q_snapshot, .int f_hasSnapshot, .ref q_history, .ref q_text, .ref q_painter, .ref q_covers])), (q_net, .inr (2, [.int f_net_knots, .int f_net_threads, .ref q_net_ends, .ref q_net_colours])), (q_net_ends, .inl (cI, 21, .inl f_net_ends)), (q_net_colours, .inl (cI, 21, .inl f_net_colours))] r) 0 0 (va_A [(q, .inr (5, [.ref q_net, .ref q_draft, .ref q_snapshot, .int f_hasSnapshot, .ref q_history, .ref q_text, .ref q_painter, .ref q_covers])), (q_net, .inr (2, [.int f_net_knots, .int f_net_threads, .ref q_net_ends, .ref q_net_colours])), (q_net_ends, .inl (cI, 21, .inl f_net_ends)), (q_net_colours, .inl (cI, 21, .inl f_net_colours))] sz) := by
  unfold m_X6_chain at hm
  refine g_openI (cc := cX6_chain) (maxL := 5) (own := RX6) (by decide) rfl rfl (Nat.le_of_ble_eq_true rfl) ?_
  intro p e s m args below meth c A Q hx hb hml hown hts hP hK hN hD hA hret ls hl
  have hS : va_S A s.heap s.heap [] := va_S.rf
  have hl : lv_has ls 5 [(0, .ref q), (1, .int a1), (2, .int a2)] := hl
  refine lv_aload_n hx hb dX6_chain_0 rfl (lv_at hl 0 rfl) ?_
  refine va_get (D := D) (ci := 5) (v := .ref q_net) (C := RX6) (T := TX6) (N := 8) hx hb hts (by decide +kernel) hown hK hP 0 rfl rfl 0 (by decide) (hts (.fieldLink RX6 12 "KnotStripes" "net" "LKnotStripes$Net;") (by decide +kernel)) (fun _ h9 => h9) rfl dX6_chain_1 ?_
  refine lv_iload_n hx hb dX6_chain_4 rfl (lv_at hl 1 rfl) ?_
  obtain ⟨r_1, h_2, hm⟩ := bind_use hm
  refine g_ki (wc := [(q_net, .inr (2, [.int f_net_knots, .int f_net_threads, .ref q_net_ends, .ref q_net_colours])), (q_net_ends, .inl (cI, 21, .inl f_net_ends)), (q_net_colours, .inl (cI, 21, .inl f_net_colours))]) (wr := [(q, .inr (5, [.ref q_net, .ref q_draft, .ref q_snapshot, .int f_hasSnapshot, .ref q_history, .ref q_text, .ref q_painter, .ref q_covers]))]) (w2 := [(q, .inr (5, [.ref q_net, .ref q_draft, .ref q_snapshot, .int f_hasSnapshot, .ref q_history, .ref q_text, .ref q_painter, .ref q_covers])), (q_net, .inr (2, [.int f_net_knots, .int f_net_threads, .ref q_net_ends, .ref q_net_colours])), (q_net_ends, .inl (cI, 21, .inl f_net_ends)), (q_net_colours, .inl (cI, 21, .inl f_net_colours))]) (va_runV (As := [.int a1]) (rest := []) ⟨hx, hb, hml, hown, hts⟩ (k_X2_hasThread l D cI cC cN N q_net q_net_ends q_net_colours s.heap.size f_net_knots f_net_threads f_net_ends f_net_colours a1 r_1 h_2) (cwV 1 hts gX6_chain_X2_hasThread rfl rfl rfl (by decide +kernel) ⟨Nat.le_of_ble_eq_true rfl, Nat.le_of_ble_eq_true rfl⟩) ⟨g_blind, va_recv (D := D) (ci := 2) (q0 := 1) hK hP rfl rfl, g_pre (hP.sub [1, 2, 3] rfl) hK hN (hD.sub [1, 2, 3] (by decide) rfl)⟩ rfl rfl hl.1 rfl (lv_room (Nat.le_of_ble_eq_true rfl)) dX6_chain_5 ⟨Nat.zero_le _, Nat.zero_le _⟩) hP hD hS hA [1, 2, 3] [0] rfl rfl (by decide) (by decide) rfl (fun H locs hP hD hS => ?_)
  refine lv_if_ne (tgt := 13) hx hb dX6_chain_8 (by decide) (fun hc => ?_) (fun hc => ?_)
  · have hm := if_f _ hc hm
    refine lv_aload_n hx hb dX6_chain_13 rfl (lv_at hl 0 rfl) ?_
    refine va_get (D := D) (ci := 5) (v := .ref q_net) (C := RX6) (T := TX6) (N := 8) hx hb hts (by decide +kernel) hown hK hP 0 rfl rfl 0 (by decide) (hts (.fieldLink RX6 12 "KnotStripes" "net" "LKnotStripes$Net;") (by decide +kernel)) (fun _ h9 => h9) rfl dX6_chain_14 ?_
    refine lv_iload_n hx hb dX6_chain_17 rfl (lv_at hl 1 rfl) ?_
    obtain ⟨r_3, h_4, hm⟩ := bind_use hm
    refine g_ki (wc := [(q_net, .inr (2, [.int f_net_knots, .int f_net_threads, .ref q_net_ends, .ref q_net_colours])), (q_net_ends, .inl (cI, 21, .inl f_net_ends)), (q_net_colours, .inl (cI, 21, .inl f_net_colours))]) (wr := [(q, .inr (5, [.ref q_net, .ref q_draft, .ref q_snapshot, .int f_hasSnapshot, .ref q_history, .ref q_text, .ref q_painter, .ref q_covers]))]) (w2 := [(q, .inr (5, [.ref q_net, .ref q_draft, .ref q_snapshot, .int f_hasSnapshot, .ref q_history, .ref q_text, .ref q_painter, .ref q_covers])), (q_net, .inr (2, [.int f_net_knots, .int f_net_threads, .ref q_net_ends, .ref q_net_colours])), (q_net_ends, .inl (cI, 21, .inl f_net_ends)), (q_net_colours, .inl (cI, 21, .inl f_net_colours))]) (va_runV (As := [.int a1]) (rest := []) ⟨hx, hb, hml, hown, hts⟩ (k_X2_colour l D cI cC cN N q_net q_net_ends q_net_colours H.size f_net_knots f_net_threads f_net_ends f_net_colours a1 r_3 h_4) (cwV 1 hts gX6_chain_X2_colour rfl rfl rfl (by decide +kernel) ⟨Nat.le_of_ble_eq_true rfl, Nat.le_of_ble_eq_true rfl⟩) ⟨g_blind, va_recv (D := D) (ci := 2) (q0 := 1) hK hP rfl rfl, g_pre (hP.sub [1, 2, 3] rfl) hK hN (hD.sub [1, 2, 3] (by decide) rfl)⟩ rfl rfl hl.1 rfl (lv_room (Nat.le_of_ble_eq_true rfl)) dX6_chain_18 ⟨Nat.zero_le _, Nat.zero_le _⟩) hP hD hS hA [1, 2, 3] [0] rfl rfl (by decide) (by decide) rfl (fun H locs hP hD hS => ?_)
    refine lv_istore_n (lv' := [(3, .int r_3), (0, .ref q), (1, .int a1), (2, .int a2)]) hx hb dX6_chain_21 rfl hl (by decide) rfl (fun ls hl => ?_)
    refine lv_iload_n hx hb dX6_chain_22 rfl (lv_at hl 3 rfl) ?_
    refine lv_if_lt (tgt := 36) hx hb dX6_chain_23 (by decide) (fun hc => ?_) (fun hc => ?_)
    · have hm := if_t _ hc hm
      refine lv_bipush (v := (-2)) hx hb dX6_chain_36 (by decide) ?_
      have z1 := so_use hm
      subst z1
      exact hret _ _ _ _ _ dX6_chain_38 rfl rfl hP hD hS
    · have hm := if_f _ hc hm
      refine lv_iload_n hx hb dX6_chain_26 rfl (lv_at hl 3 rfl) ?_
      refine lv_iconst (v := 3) hx hb dX6_chain_27 (by decide) ?_
      refine lv_icmp_ge (tgt := 36) hx hb dX6_chain_28 (by decide) (fun hc => ?_) (fun hc => ?_)
      · have hm := if_t _ hc hm
        refine lv_bipush (v := (-2)) hx hb dX6_chain_36 (by decide) ?_
        have z1 := so_use hm
        subst z1
        exact hret _ _ _ _ _ dX6_chain_38 rfl rfl hP hD hS
      · have hm := if_f _ hc hm
        refine lv_iload_n hx hb dX6_chain_31 rfl (lv_at hl 3 rfl) ?_
        refine lv_iload_n hx hb dX6_chain_32 rfl (lv_at hl 0 rfl) ?_
        refine lv_icmp_ne (tgt := 39) hx hb dX6_chain_33 (by decide) (fun hc => ?_) (fun hc => ?_)
        · have hm := if_f _ hc hm
          refine lv_iload_n hx hb dX6_chain_39 rfl (lv_at hl 0 rfl) ?_
          refine lv_iconst (v := 3) hx hb dX6_chain_40 (by decide) ?_
          refine lv_icmp_ne (tgt := 47) hx hb dX6_chain_41 (by decide) (fun hc => ?_) (fun hc => ?_)
          · have hm := if_f _ hc hm
            refine lv_aload_n hx hb dX6_chain_47 rfl (lv_at hl 1 rfl) ?_
            refine va_get (D := D) (ci := 5) (v := .ref q_net) (C := RX6) (T := TX6) (N := 8) hx hb hts (by decide +kernel) hown hK hP 0 rfl rfl 0 (by decide) (hts (.fieldLink RX6 12 "KnotStripes" "net" "LKnotStripes$Net;") (by decide +kernel)) (fun _ h9 => h9) rfl dX6_chain_48 ?_
            refine lv_iload_n hx hb dX6_chain_51 rfl (lv_at hl 0 rfl) ?_
            obtain ⟨r_5, h_6, hm⟩ := bind_use hm
            refine g_ki (wc := [(q_net, .inr (2, [.int f_net_knots, .int f_net_threads, .ref q_net_ends, .ref q_net_colours])), (q_net_ends, .inl (cI, 21, .inl f_net_ends)), (q_net_colours, .inl (cI, 21, .inl f_net_colours))]) (wr := [(q, .inr (5, [.ref q_net, .ref q_draft, .ref q_snapshot, .int f_hasSnapshot, .ref q_history, .ref q_text, .ref q_painter, .ref q_covers]))]) (w2 := [(q, .inr (5, [.ref q_net, .ref q_draft, .ref q_snapshot, .int f_hasSnapshot, .ref q_history, .ref q_text, .ref q_painter, .ref q_covers])), (q_net, .inr (2, [.int f_net_knots, .int f_net_threads, .ref q_net_ends, .ref q_net_colours])), (q_net_ends, .inl (cI, 21, .inl f_net_ends)), (q_net_colours, .inl (cI, 21, .inl f_net_colours))]) (va_runV (As := [.int r_3]) (rest := []) ⟨hx, hb, hml, hown, hts⟩ (k_X2_coloured l D cI cC cN N q_net q_net_ends q_net_colours H.size f_net_knots f_net_threads f_net_ends f_net_colours r_3 r_5 h_6) (cwV 1 hts gX6_chain_X2_coloured rfl rfl rfl (by decide +kernel) ⟨Nat.le_of_ble_eq_true rfl, Nat.le_of_ble_eq_true rfl⟩) ⟨g_blind, va_recv (D := D) (ci := 2) (q0 := 1) hK hP rfl rfl, g_pre (hP.sub [1, 2, 3] rfl) hK hN (hD.sub [1, 2, 3] (by decide) rfl)⟩ rfl rfl hl.1 rfl (lv_room (Nat.le_of_ble_eq_true rfl)) dX6_chain_52 ⟨Nat.zero_le _, Nat.zero_le _⟩) hP hD hS hA [1, 2, 3] [0] rfl rfl (by decide) (by decide) rfl (fun H locs hP hD hS => ?_)
            refine lv_aload_n hx hb dX6_chain_55 rfl (lv_at hl 1 rfl) ?_
            refine va_get (D := D) (ci := 5) (v := .ref q_net) (C := RX6) (T := TX6) (N := 8) hx hb hts (by decide +kernel) hown hK hP 0 rfl rfl 0 (by decide) (hts (.fieldLink RX6 12 "KnotStripes" "net" "LKnotStripes$Net;") (by decide +kernel)) (fun _ h9 => h9) rfl dX6_chain_56 ?_
            refine lv_iload_n hx hb dX6_chain_59 rfl (lv_at hl 3 rfl) ?_
            obtain ⟨r_7, h_8, hm⟩ := bind_use hm
            refine g_ki (wc := [(q_net, .inr (2, [.int f_net_knots, .int f_net_threads, .ref q_net_ends, .ref q_net_colours])), (q_net_ends, .inl (cI, 21, .inl f_net_ends)), (q_net_colours, .inl (cI, 21, .inl f_net_colours))]) (wr := [(q, .inr (5, [.ref q_net, .ref q_draft, .ref q_snapshot, .int f_hasSnapshot, .ref q_history, .ref q_text, .ref q_painter, .ref q_covers]))]) (w2 := [(q, .inr (5, [.ref q_net, .ref q_draft, .ref q_snapshot, .int f_hasSnapshot, .ref q_history, .ref q_text, .ref q_painter, .ref q_covers])), (q_net, .inr (2, [.int f_net_knots, .int f_net_threads, .ref q_net_ends, .ref q_net_colours])), (q_net_ends, .inl (cI, 21, .inl f_net_ends)), (q_net_colours, .inl (cI, 21, .inl f_net_colours))]) (va_runV (As := [.int a2]) (rest := [.int r_5]) ⟨hx, hb, hml, hown, hts⟩ (k_X2_coloured l D cI cC cN N q_net q_net_ends q_net_colours H.size f_net_knots f_net_threads f_net_ends f_net_colours a2 r_7 h_8) (cwV 1 hts gX6_chain_X2_coloured rfl rfl rfl (by decide +kernel) ⟨Nat.le_of_ble_eq_true rfl, Nat.le_of_ble_eq_true rfl⟩) ⟨g_blind, va_recv (D := D) (ci := 2) (q0 := 1) hK hP rfl rfl, g_pre (hP.sub [1, 2, 3] rfl) hK hN (hD.sub [1, 2, 3] (by decide) rfl)⟩ rfl rfl hl.1 rfl (lv_room (Nat.le_of_ble_eq_true rfl)) dX6_chain_60 ⟨Nat.zero_le _, Nat.zero_le _⟩) hP hD hS hA [1, 2, 3] [0] rfl rfl (by decide) (by decide) rfl (fun H locs hP hD hS => ?_)
            refine lv_ior hx hb dX6_chain_63 ?_
            refine lv_topi (fun v4_9 ev4_9 => ?_)
            have hm := nm_use ev4_9 hm
            refine lv_istore (lv' := [(4, .int v4_9), (3, .int r_3), (0, .ref q), (1, .int a1), (2, .int a2)]) hx hb dX6_chain_64 hl (by decide) rfl (fun ls hl => ?_)
            refine lv_iload hx hb dX6_chain_66 (lv_at hl 0 rfl) ?_
            refine lv_aload_n hx hb dX6_chain_68 rfl (lv_at hl 2 rfl) ?_
            refine va_get (D := D) (ci := 5) (v := .ref q_net) (C := RX6) (T := TX6) (N := 8) hx hb hts (by decide +kernel) hown hK hP 0 rfl rfl 0 (by decide) (hts (.fieldLink RX6 12 "KnotStripes" "net" "LKnotStripes$Net;") (by decide +kernel)) (fun _ h9 => h9) rfl dX6_chain_69 ?_
            refine lv_aload_n hx hb dX6_chain_72 rfl (lv_at hl 2 rfl) ?_
            refine va_get (D := D) (ci := 5) (v := .ref q_net) (C := RX6) (T := TX6) (N := 8) hx hb hts (by decide +kernel) hown hK hP 0 rfl rfl 0 (by decide) (hts (.fieldLink RX6 12 "KnotStripes" "net" "LKnotStripes$Net;") (by decide +kernel)) (fun _ h9 => h9) rfl dX6_chain_73 ?_
            refine lv_aload_n hx hb dX6_chain_76 rfl (lv_at hl 2 rfl) ?_
            refine va_get (D := D) (ci := 5) (v := .ref q_net) (C := RX6) (T := TX6) (N := 8) hx hb hts (by decide +kernel) hown hK hP 0 rfl rfl 0 (by decide) (hts (.fieldLink RX6 12 "KnotStripes" "net" "LKnotStripes$Net;") (by decide +kernel)) (fun _ h9 => h9) rfl dX6_chain_77 ?_
            refine lv_iload_n hx hb dX6_chain_80 rfl (lv_at hl 3 rfl) ?_
            obtain ⟨r_10, h_11, hm⟩ := bind_use hm
            refine g_ki (wc := [(q_net, .inr (2, [.int f_net_knots, .int f_net_threads, .ref q_net_ends, .ref q_net_colours])), (q_net_ends, .inl (cI, 21, .inl f_net_ends)), (q_net_colours, .inl (cI, 21, .inl f_net_colours))]) (wr := [(q, .inr (5, [.ref q_net, .ref q_draft, .ref q_snapshot, .int f_hasSnapshot, .ref q_history, .ref q_text, .ref q_painter, .ref q_covers]))]) (w2 := [(q, .inr (5, [.ref q_net, .ref q_draft, .ref q_snapshot, .int f_hasSnapshot, .ref q_history, .ref q_text, .ref q_painter, .ref q_covers])), (q_net, .inr (2, [.int f_net_knots, .int f_net_threads, .ref q_net_ends, .ref q_net_colours])), (q_net_ends, .inl (cI, 21, .inl f_net_ends)), (q_net_colours, .inl (cI, 21, .inl f_net_colours))]) (va_runV (As := [.int a1]) (rest := [.ref q_net, .ref q_net, .int v4_9]) ⟨hx, hb, hml, hown, hts⟩ (k_X2_ends l D cI cC cN N q_net q_net_ends q_net_colours H.size f_net_knots f_net_threads f_net_ends f_net_colours a1 r_10 h_11) (cwV 1 hts gX6_chain_X2_ends rfl rfl rfl (by decide +kernel) ⟨Nat.le_of_ble_eq_true rfl, Nat.le_of_ble_eq_true rfl⟩) ⟨g_blind, va_recv (D := D) (ci := 2) (q0 := 1) hK hP rfl rfl, g_pre (hP.sub [1, 2, 3] rfl) hK hN (hD.sub [1, 2, 3] (by decide) rfl)⟩ rfl rfl hl.1 rfl (lv_room (Nat.le_of_ble_eq_true rfl)) dX6_chain_81 ⟨Nat.zero_le _, Nat.zero_le _⟩) hP hD hS hA [1, 2, 3] [0] rfl rfl (by decide) (by decide) rfl (fun H locs hP hD hS => ?_)
            refine lv_iload hx hb dX6_chain_84 (lv_at hl 0 rfl) ?_
            obtain ⟨r_12, h_13, hm⟩ := bind_use hm
            refine g_ki (wc := [(q_net, .inr (2, [.int f_net_knots, .int f_net_threads, .ref q_net_ends, .ref q_net_colours])), (q_net_ends, .inl (cI, 21, .inl f_net_ends)), (q_net_colours, .inl (cI, 21, .inl f_net_colours))]) (wr := [(q, .inr (5, [.ref q_net, .ref q_draft, .ref q_snapshot, .int f_hasSnapshot, .ref q_history, .ref q_text, .ref q_painter, .ref q_covers]))]) (w2 := [(q, .inr (5, [.ref q_net, .ref q_draft, .ref q_snapshot, .int f_hasSnapshot, .ref q_history, .ref q_text, .ref q_painter, .ref q_covers])), (q_net, .inr (2, [.int f_net_knots, .int f_net_threads, .ref q_net_ends, .ref q_net_colours])), (q_net_ends, .inl (cI, 21, .inl f_net_ends)), (q_net_colours, .inl (cI, 21, .inl f_net_colours))]) (va_runS (As := [.ref q_net, .int r_10, .int v4_9]) (rest := [.ref q_net, .int v4_9]) ⟨hx, hb, hml, hown, hts⟩ (k_X5_reached l D cI cC cN N q_net q_net_ends q_net_colours H.size f_net_knots f_net_threads f_net_ends f_net_colours r_10 v4_9 r_12 h_13) (va_cwS 3 hts gX6_chain_X5_reached rfl rfl rfl (by decide +kernel) ⟨Nat.le_of_ble_eq_true rfl, Nat.le_of_ble_eq_true rfl⟩) ⟨g_blind, g_pre (hP.sub [1, 2, 3] rfl) hK hN (hD.sub [1, 2, 3] (by decide) rfl)⟩ rfl rfl hl.1 rfl (lv_room (Nat.le_of_ble_eq_true rfl)) dX6_chain_86 ⟨Nat.zero_le _, Nat.zero_le _⟩) hP hD hS hA [1, 2, 3] [0] rfl rfl (by decide) (by decide) rfl (fun H locs hP hD hS => ?_)
            obtain ⟨r_14, h_15, hm⟩ := bind_use hm
            refine g_ki (wc := [(q_net, .inr (2, [.int f_net_knots, .int f_net_threads, .ref q_net_ends, .ref q_net_colours])), (q_net_ends, .inl (cI, 21, .inl f_net_ends)), (q_net_colours, .inl (cI, 21, .inl f_net_colours))]) (wr := [(q, .inr (5, [.ref q_net, .ref q_draft, .ref q_snapshot, .int f_hasSnapshot, .ref q_history, .ref q_text, .ref q_painter, .ref q_covers]))]) (w2 := [(q, .inr (5, [.ref q_net, .ref q_draft, .ref q_snapshot, .int f_hasSnapshot, .ref q_history, .ref q_text, .ref q_painter, .ref q_covers])), (q_net, .inr (2, [.int f_net_knots, .int f_net_threads, .ref q_net_ends, .ref q_net_colours])), (q_net_ends, .inl (cI, 21, .inl f_net_ends)), (q_net_colours, .inl (cI, 21, .inl f_net_colours))]) (va_runV (As := [.int r_12]) (rest := [.int v4_9]) ⟨hx, hb, hml, hown, hts⟩ (k_X2_threadsAt l D cI cC cN N q_net q_net_ends q_net_colours H.size f_net_knots f_net_threads f_net_ends f_net_colours r_12 r_14 h_15) (cwV 1 hts gX6_chain_X2_threadsAt rfl rfl rfl (by decide +kernel) ⟨Nat.le_of_ble_eq_true rfl, Nat.le_of_ble_eq_true rfl⟩) ⟨g_blind, va_recv (D := D) (ci := 2) (q0 := 1) hK hP rfl rfl, g_pre (hP.sub [1, 2, 3] rfl) hK hN (hD.sub [1, 2, 3] (by decide) rfl)⟩ rfl rfl hl.1 rfl (lv_room (Nat.le_of_ble_eq_true rfl)) dX6_chain_89 ⟨Nat.zero_le _, Nat.zero_le _⟩) hP hD hS hA [1, 2, 3] [0] rfl rfl (by decide) (by decide) rfl (fun H locs hP hD hS => ?_)
            refine lv_iand hx hb dX6_chain_92 ?_
            have z1 := so_use hm
            subst z1
            exact hret _ _ _ _ _ dX6_chain_93 rfl rfl hP hD hS
          · have hm := if_t _ hc hm
            refine lv_bipush (v := (-4)) hx hb dX6_chain_44 (by decide) ?_
            have z1 := so_use hm
            subst z1
            exact hret _ _ _ _ _ dX6_chain_46 rfl rfl hP hD hS
        · have hm := if_t _ hc hm
          refine lv_bipush (v := (-2)) hx hb dX6_chain_36 (by decide) ?_
          have z1 := so_use hm
          subst z1
          exact hret _ _ _ _ _ dX6_chain_38 rfl rfl hP hD hS
  · have hm := if_t _ hc hm
    refine lv_iconst (v := (-1)) hx hb dX6_chain_11 (by decide) ?_
    have z1 := so_use hm
    subst z1
    exact hret _ _ _ _ _ dX6_chain_12 rfl rfl hP hD hS
