abbrev rX2_dropThreads : Room := { frames := 2, cells := 0, slots := 0, locals := 44 }
set_option maxHeartbeats 4000000 in
set_option maxRecDepth 100000 in
theorem k_X2_dropThreads (l : Launch) (D : va_G) (cI cC cN : ClassId) (N : Nat) (q : Nat) (q_ends : Nat) (q_colours : Nat) (sz : Nat) (f_knots : Int32) (f_threads : Int32) (f_ends : Nat → Int32) (f_colours : Nat → Int32) (a1 : Int32) (f_threads' : Int32) (f_ends' : Nat → Int32) (f_colours' : Nat → Int32) (hm : m_X2_dropThreads N f_threads f_ends f_colours a1 = some (f_threads', f_ends', f_colours')) : Met l yX2_dropThreads wsX2_dropThreads (rX2_dropThreads) (gPc D (tysG cI cC cN) [.ref q, .int a1] [(q, .inr (2, [.int f_knots, .int f_threads, .ref q_ends, .ref q_colours])), (q_ends, .inl (cI, 21, .inl f_ends)), (q_colours, .inl (cI, 21, .inl f_colours))] sz) (gQv D (tysG cI cC cN) (va_A [(q, .inr (2, [.int f_knots, .int f_threads, .ref q_ends, .ref q_colours])), (q_ends, .inl (cI, 21, .inl f_ends)), (q_colours, .inl (cI, 21, .inl f_colours))] sz) [(q, .inr (2, [.int f_knots, .int f_threads', .ref q_ends, .ref q_colours])), (q_ends, .inl (cI, 21, .inl f_ends')), (q_colours, .inl (cI, 21, .inl f_colours'))]) 0 0 (va_A [(q, .inr (2, [.int f_knots, .int f_threads, .ref q_ends, .ref q_colours])), (q_ends, .inl (cI, 21, .inl f_ends)), (q_colours, .inl (cI, 21, .inl f_colours))] sz) := by
  unfold m_X2_dropThreads at hm
  refine g_openV (cc := cX2_dropThreads) (maxL := 3) (own := RX2) (by decide) rfl rfl (Nat.le_of_ble_eq_true rfl) ?_
  intro p e s m args below meth c A Q hx hb hml hown hts hP hK hN hD hA hret ls hl
  have hS : va_S A s.heap s.heap [] := va_S.rf
  have hl : lv_has ls 3 [(0, .ref q), (1, .int a1)] := hl
  refine lv_aload_n hx hb dX2_dropThreads_0 rfl (lv_at hl 0 rfl) ?_
  refine va_get (D := D) (ci := 2) (v := .int f_threads) (C := RX2) (T := TX2) (N := 4) hx hb hts (by decide +kernel) hown hK hP 0 rfl rfl 1 (by decide) (hts (.fieldLink RX2 15 "KnotStripes$Net" "threads" "I") (by decide +kernel)) (fun _ h9 => h9) rfl dX2_dropThreads_1 ?_
  refine lv_iconst (v := 1) hx hb dX2_dropThreads_4 (by decide) ?_
  refine lv_isub hx hb dX2_dropThreads_5 ?_
  refine lv_topi (fun v2_1 ev2_1 => ?_)
  have hm := nm_use ev2_1 hm
  refine lv_istore_n (lv' := [(2, .int v2_1), (0, .ref q), (1, .int a1)]) hx hb dX2_dropThreads_6 rfl hl (by decide) rfl (fun ls hl => ?_)
  have l7 : ∀ (n_7 : Nat) (x2_2 : Int32) (f_threads_3 : Int32) (f_ends_4 : Nat → Int32) (f_colours_5 : Nat → Int32), ∀ (H : Heap) (locs : List Loc) (ls : Array Slot), va_P D vwCl [(q, .inr (2, [.int f_knots, .int f_threads_3, .ref q_ends, .ref q_colours])), (q_ends, .inl (cI, 21, .inl f_ends_4)), (q_colours, .inl (cI, 21, .inl f_colours_5))] H → va_D A [(q, .inr (2, [.int f_knots, .int f_threads_3, .ref q_ends, .ref q_colours])), (q_ends, .inl (cI, 21, .inl f_ends_4)), (q_colours, .inl (cI, 21, .inl f_colours_5))] → va_S A s.heap H locs → lv_has ls 3 [(2, .int x2_2), (0, .ref q), (1, .int a1)] → m_X2_dropThreads_L7 N a1 n_7 x2_2 f_threads_3 f_ends_4 f_colours_5 = some (f_threads', f_ends', f_colours') → W p l e rX2_dropThreads s m args below meth c H locs 0 0 Q (F0 m 7 ls []) := by
    intro n_7
    induction n_7 with
    | zero => intro x2_2 f_threads_3 f_ends_4 f_colours_5 H locs ls hP hD hS hl hm; rw [m_X2_dropThreads_L7] at hm; exact no_use hm
    | succ n_7 ih7 =>
      intro x2_2 f_threads_3 f_ends_4 f_colours_5 H locs ls hP hD hS hl hm
      rw [m_X2_dropThreads_L7] at hm
      refine lv_iload_n hx hb dX2_dropThreads_7 rfl (lv_at hl 0 rfl) ?_
      refine lv_if_lt (tgt := 30) hx hb dX2_dropThreads_8 (by decide) (fun hc => ?_) (fun hc => ?_)
      · have hm := if_t _ hc hm
        have z1 := so_use hm
        obtain ⟨y1, z2⟩ := pr_use z1
        obtain ⟨y2, z3⟩ := pr_use z2
        subst y1
        subst y2
        subst z3
        exact hret _ _ _ _ dX2_dropThreads_30 hP hD hS
      · have hm := if_f _ hc hm
        refine lv_iload_n hx hb dX2_dropThreads_11 rfl (lv_at hl 2 rfl) ?_
        refine lv_iload_n hx hb dX2_dropThreads_12 rfl (lv_at hl 0 rfl) ?_
        obtain ⟨r_6, h_7, hm⟩ := bind_use hm
        refine g_ki (wc := []) (wr := [(q, .inr (2, [.int f_knots, .int f_threads_3, .ref q_ends, .ref q_colours])), (q_ends, .inl (cI, 21, .inl f_ends_4)), (q_colours, .inl (cI, 21, .inl f_colours_5))]) (w2 := [(q, .inr (2, [.int f_knots, .int f_threads_3, .ref q_ends, .ref q_colours])), (q_ends, .inl (cI, 21, .inl f_ends_4)), (q_colours, .inl (cI, 21, .inl f_colours_5))]) (va_runSN (As := [.int a1, .int x2_2]) (rest := []) ⟨hx, hb, hml, hown, hts⟩ (k_X6_holds l D cI cC cN N H.size a1 x2_2 r_6 h_7) ⟨va_cnB 2 hts gX2_dropThreads_X6_holds_n50 rfl rfl rfl (hN (.methodLinkNest RX2 50 yX6_holds RX6) (by decide +kernel)) (hts (.initialized RX6) (by decide +kernel)) (by decide +kernel) ⟨Nat.le_of_ble_eq_true rfl, Nat.le_of_ble_eq_true rfl⟩, hts (.static yX6_holds) (by decide +kernel), trivial⟩ ⟨g_blind, g_pre (hP.sub [] rfl) hK hN (hD.sub [] (by decide) rfl)⟩ rfl rfl hl.1 rfl (lv_room (Nat.le_of_ble_eq_true rfl)) dX2_dropThreads_13 ⟨Nat.zero_le _, Nat.zero_le _⟩) hP hD hS hA [] [0, 1, 2] rfl rfl (by decide) (by decide) rfl (fun H locs hP hD hS => ?_)
        refine lv_if_eq (tgt := 24) hx hb dX2_dropThreads_16 (by decide) (fun hc => ?_) (fun hc => ?_)
        · have hm := if_t _ hc hm
          refine lv_iinc (v := (x2_2 + (-1))) (lv' := [(2, .int (x2_2 + (-1))), (0, .ref q), (1, .int a1)]) hx hb dX2_dropThreads_24 hl (k := 0) rfl rfl (by decide) rfl (fun ls hl => ?_)
          refine lv_goto (tgt := 7) hx hb dX2_dropThreads_27 (by decide) ?_
          exact ih7 (x2_2 + (-1)) f_threads_3 f_ends_4 f_colours_5 _ _ _ hP hD hS hl hm
        · have hm := if_f _ hc hm
          refine lv_aload_n hx hb dX2_dropThreads_19 rfl (lv_at hl 1 rfl) ?_
          refine lv_iload_n hx hb dX2_dropThreads_20 rfl (lv_at hl 0 rfl) ?_
          obtain ⟨⟨f_threads_8, f_ends_9, f_colours_10⟩, h_11, hm⟩ := bind_use hm
          refine g_kv (wc := [(q, .inr (2, [.int f_knots, .int f_threads_3, .ref q_ends, .ref q_colours])), (q_ends, .inl (cI, 21, .inl f_ends_4)), (q_colours, .inl (cI, 21, .inl f_colours_5))]) (wr := []) (w2 := [(q, .inr (2, [.int f_knots, .int f_threads_8, .ref q_ends, .ref q_colours])), (q_ends, .inl (cI, 21, .inl f_ends_9)), (q_colours, .inl (cI, 21, .inl f_colours_10))]) (va_runV (As := [.int x2_2]) (rest := []) ⟨hx, hb, hml, hown, hts⟩ (k_X2_dropThread l D cI cC cN N q q_ends q_colours H.size f_knots f_threads_3 f_ends_4 f_colours_5 x2_2 f_threads_8 f_ends_9 f_colours_10 h_11) (cwV 1 hts gX2_dropThreads_X2_dropThread rfl rfl rfl (by decide +kernel) ⟨Nat.le_of_ble_eq_true rfl, Nat.le_of_ble_eq_true rfl⟩) ⟨g_blind, va_recv (D := D) (ci := 2) (q0 := 0) hK hP rfl rfl, g_pre (hP.sub [0, 1, 2] rfl) hK hN (hD.sub [0, 1, 2] (by decide) rfl)⟩ rfl rfl hl.1 rfl (lv_room (Nat.le_of_ble_eq_true rfl)) dX2_dropThreads_21 ⟨Nat.zero_le _, Nat.zero_le _⟩) hP hD hS hA [0, 1, 2] [] rfl rfl (by decide) (by decide) rfl (fun H locs hP hD hS => ?_)
          refine lv_iinc (v := (x2_2 + (-1))) (lv' := [(2, .int (x2_2 + (-1))), (0, .ref q), (1, .int a1)]) hx hb dX2_dropThreads_24 hl (k := 0) rfl rfl (by decide) rfl (fun ls hl => ?_)
          refine lv_goto (tgt := 7) hx hb dX2_dropThreads_27 (by decide) ?_
          exact ih7 (x2_2 + (-1)) f_threads_8 f_ends_9 f_colours_10 _ _ _ hP hD hS hl hm
  exact l7 N v2_1 f_threads f_ends f_colours _ _ _ hP hD hS hl hm
abbrev rX2_dropKnot : Room := { frames := 3, cells := 0, slots := 0, locals := 66 }
set_option maxHeartbeats 4000000 in
set_option maxRecDepth 100000 in
theorem k_X2_dropKnot (l : Launch) (D : va_G) (cI cC cN : ClassId) (N : Nat) (q : Nat) (q_ends : Nat) (q_colours : Nat) (sz : Nat) (f_knots : Int32) (f_threads : Int32) (f_ends : Nat → Int32) (f_colours : Nat → Int32) (a1 : Int32) (f_knots' : Int32) (f_threads' : Int32) (f_ends' : Nat → Int32) (f_colours' : Nat → Int32) (hm : m_X2_dropKnot N f_knots f_threads f_ends f_colours a1 = some (f_knots', f_threads', f_ends', f_colours')) : Met l yX2_dropKnot wsX2_dropKnot (rX2_dropKnot) (gPc D (tysG cI cC cN) [.ref q, .int a1] [(q, .inr (2, [.int f_knots, .int f_threads, .ref q_ends, .ref q_colours])), (q_ends, .inl (cI, 21, .inl f_ends)), (q_colours, .inl (cI, 21, .inl f_colours))] sz) (gQv D (tysG cI cC cN) (va_A [(q, .inr (2, [.int f_knots, .int f_threads, .ref q_ends, .ref q_colours])), (q_ends, .inl (cI, 21, .inl f_ends)), (q_colours, .inl (cI, 21, .inl f_colours))] sz) [(q, .inr (2, [.int f_knots', .int f_threads', .ref q_ends, .ref q_colours])), (q_ends, .inl (cI, 21, .inl f_ends')), (q_colours, .inl (cI, 21, .inl f_colours'))]) 0 0 (va_A [(q, .inr (2, [.int f_knots, .int f_threads, .ref q_ends, .ref q_colours])), (q_ends, .inl (cI, 21, .inl f_ends)), (q_colours, .inl (cI, 21, .inl f_colours))] sz) := by
  unfold m_X2_dropKnot at hm
  refine g_openV (cc := cX2_dropKnot) (maxL := 5) (own := RX2) (by decide) rfl rfl (Nat.le_of_ble_eq_true rfl) ?_
  intro p e s m args below meth c A Q hx hb hml hown hts hP hK hN hD hA hret ls hl
  have hS : va_S A s.heap s.heap [] := va_S.rf
  have hl : lv_has ls 5 [(0, .ref q), (1, .int a1)] := hl
  refine lv_aload_n hx hb dX2_dropKnot_0 rfl (lv_at hl 0 rfl) ?_
  refine lv_iload_n hx hb dX2_dropKnot_1 rfl (lv_at hl 1 rfl) ?_
  obtain ⟨r_1, h_2, hm⟩ := bind_use hm
  refine g_ki (wc := [(q, .inr (2, [.int f_knots, .int f_threads, .ref q_ends, .ref q_colours])), (q_ends, .inl (cI, 21, .inl f_ends)), (q_colours, .inl (cI, 21, .inl f_colours))]) (wr := []) (w2 := [(q, .inr (2, [.int f_knots, .int f_threads, .ref q_ends, .ref q_colours])), (q_ends, .inl (cI, 21, .inl f_ends)), (q_colours, .inl (cI, 21, .inl f_colours))]) (va_runV (As := [.int a1]) (rest := []) ⟨hx, hb, hml, hown, hts⟩ (k_X2_hasKnot l D cI cC cN N q q_ends q_colours s.heap.size f_knots f_threads f_ends f_colours a1 r_1 h_2) (cwV 1 hts gX2_dropKnot_X2_hasKnot rfl rfl rfl (by decide +kernel) ⟨Nat.le_of_ble_eq_true rfl, Nat.le_of_ble_eq_true rfl⟩) ⟨g_blind, va_recv (D := D) (ci := 2) (q0 := 0) hK hP rfl rfl, g_pre (hP.sub [0, 1, 2] rfl) hK hN (hD.sub [0, 1, 2] (by decide) rfl)⟩ rfl rfl hl.1 rfl (lv_room (Nat.le_of_ble_eq_true rfl)) dX2_dropKnot_2 ⟨Nat.zero_le _, Nat.zero_le _⟩) hP hD hS hA [0, 1, 2] [] rfl rfl (by decide) (by decide) rfl (fun H locs hP hD hS => ?_)
  refine lv_if_ne (tgt := 9) hx hb dX2_dropKnot_5 (by decide) (fun hc => ?_) (fun hc => ?_)
  · have hm := if_f _ hc hm
    refine lv_aload_n hx hb dX2_dropKnot_9 rfl (lv_at hl 0 rfl) ?_
    refine lv_aload_n hx hb dX2_dropKnot_10 rfl (lv_at hl 0 rfl) ?_
    refine lv_iload_n hx hb dX2_dropKnot_11 rfl (lv_at hl 1 rfl) ?_
    obtain ⟨r_3, h_4, hm⟩ := bind_use hm
    refine g_ki (wc := []) (wr := [(q, .inr (2, [.int f_knots, .int f_threads, .ref q_ends, .ref q_colours])), (q_ends, .inl (cI, 21, .inl f_ends)), (q_colours, .inl (cI, 21, .inl f_colours))]) (w2 := [(q, .inr (2, [.int f_knots, .int f_threads, .ref q_ends, .ref q_colours])), (q_ends, .inl (cI, 21, .inl f_ends)), (q_colours, .inl (cI, 21, .inl f_colours))]) (va_runSN (As := [.int a1]) (rest := [.ref q, .ref q]) ⟨hx, hb, hml, hown, hts⟩ (k_X6_bit l D cI cC cN N H.size a1 r_3 h_4) ⟨va_cnB 1 hts gX2_dropKnot_X6_bit_n25 rfl rfl rfl (hN (.methodLinkNest RX2 25 yX6_bit RX6) (by decide +kernel)) (hts (.initialized RX6) (by decide +kernel)) (by decide +kernel) ⟨Nat.le_of_ble_eq_true rfl, Nat.le_of_ble_eq_true rfl⟩, hts (.static yX6_bit) (by decide +kernel), trivial⟩ ⟨g_blind, g_pre (hP.sub [] rfl) hK hN (hD.sub [] (by decide) rfl)⟩ rfl rfl hl.1 rfl (lv_room (Nat.le_of_ble_eq_true rfl)) dX2_dropKnot_12 ⟨Nat.zero_le _, Nat.zero_le _⟩) hP hD hS hA [] [0, 1, 2] rfl rfl (by decide) (by decide) rfl (fun H locs hP hD hS => ?_)
    obtain ⟨r_5, h_6, hm⟩ := bind_use hm
    refine g_ki (wc := [(q, .inr (2, [.int f_knots, .int f_threads, .ref q_ends, .ref q_colours])), (q_ends, .inl (cI, 21, .inl f_ends)), (q_colours, .inl (cI, 21, .inl f_colours))]) (wr := []) (w2 := [(q, .inr (2, [.int f_knots, .int f_threads, .ref q_ends, .ref q_colours])), (q_ends, .inl (cI, 21, .inl f_ends)), (q_colours, .inl (cI, 21, .inl f_colours))]) (va_runV (As := [.int r_3]) (rest := [.ref q]) ⟨hx, hb, hml, hown, hts⟩ (k_X2_threadsAt l D cI cC cN N q q_ends q_colours H.size f_knots f_threads f_ends f_colours r_3 r_5 h_6) (cwV 1 hts gX2_dropKnot_X2_threadsAt rfl rfl rfl (by decide +kernel) ⟨Nat.le_of_ble_eq_true rfl, Nat.le_of_ble_eq_true rfl⟩) ⟨g_blind, va_recv (D := D) (ci := 2) (q0 := 0) hK hP rfl rfl, g_pre (hP.sub [0, 1, 2] rfl) hK hN (hD.sub [0, 1, 2] (by decide) rfl)⟩ rfl rfl hl.1 rfl (lv_room (Nat.le_of_ble_eq_true rfl)) dX2_dropKnot_15 ⟨Nat.zero_le _, Nat.zero_le _⟩) hP hD hS hA [0, 1, 2] [] rfl rfl (by decide) (by decide) rfl (fun H locs hP hD hS => ?_)
    obtain ⟨⟨f_threads_7, f_ends_8, f_colours_9⟩, h_10, hm⟩ := bind_use hm
    refine g_kv (wc := [(q, .inr (2, [.int f_knots, .int f_threads, .ref q_ends, .ref q_colours])), (q_ends, .inl (cI, 21, .inl f_ends)), (q_colours, .inl (cI, 21, .inl f_colours))]) (wr := []) (w2 := [(q, .inr (2, [.int f_knots, .int f_threads_7, .ref q_ends, .ref q_colours])), (q_ends, .inl (cI, 21, .inl f_ends_8)), (q_colours, .inl (cI, 21, .inl f_colours_9))]) (va_runV (As := [.int r_5]) (rest := []) ⟨hx, hb, hml, hown, hts⟩ (k_X2_dropThreads l D cI cC cN N q q_ends q_colours H.size f_knots f_threads f_ends f_colours r_5 f_threads_7 f_ends_8 f_colours_9 h_10) (cwV 1 hts gX2_dropKnot_X2_dropThreads rfl rfl rfl (by decide +kernel) ⟨Nat.le_of_ble_eq_true rfl, Nat.le_of_ble_eq_true rfl⟩) ⟨g_blind, va_recv (D := D) (ci := 2) (q0 := 0) hK hP rfl rfl, g_pre (hP.sub [0, 1, 2] rfl) hK hN (hD.sub [0, 1, 2] (by decide) rfl)⟩ rfl rfl hl.1 rfl (lv_room (Nat.le_of_ble_eq_true rfl)) dX2_dropKnot_18 ⟨Nat.zero_le _, Nat.zero_le _⟩) hP hD hS hA [0, 1, 2] [] rfl rfl (by decide) (by decide) rfl (fun H locs hP hD hS => ?_)
    refine lv_iload_n hx hb dX2_dropKnot_21 rfl (lv_at hl 1 rfl) ?_
    obtain ⟨r_11, h_12, hm⟩ := bind_use hm
    refine g_ki (wc := []) (wr := [(q, .inr (2, [.int f_knots, .int f_threads_7, .ref q_ends, .ref q_colours])), (q_ends, .inl (cI, 21, .inl f_ends_8)), (q_colours, .inl (cI, 21, .inl f_colours_9))]) (w2 := [(q, .inr (2, [.int f_knots, .int f_threads_7, .ref q_ends, .ref q_colours])), (q_ends, .inl (cI, 21, .inl f_ends_8)), (q_colours, .inl (cI, 21, .inl f_colours_9))]) (va_runSN (As := [.int a1]) (rest := []) ⟨hx, hb, hml, hown, hts⟩ (k_X6_bit l D cI cC cN N H.size a1 r_11 h_12) ⟨va_cnB 1 hts gX2_dropKnot_X6_bit_n25 rfl rfl rfl (hN (.methodLinkNest RX2 25 yX6_bit RX6) (by decide +kernel)) (hts (.initialized RX6) (by decide +kernel)) (by decide +kernel) ⟨Nat.le_of_ble_eq_true rfl, Nat.le_of_ble_eq_true rfl⟩, hts (.static yX6_bit) (by decide +kernel), trivial⟩ ⟨g_blind, g_pre (hP.sub [] rfl) hK hN (hD.sub [] (by decide) rfl)⟩ rfl rfl hl.1 rfl (lv_room (Nat.le_of_ble_eq_true rfl)) dX2_dropKnot_22 ⟨Nat.zero_le _, Nat.zero_le _⟩) hP hD hS hA [] [0, 1, 2] rfl rfl (by decide) (by decide) rfl (fun H locs hP hD hS => ?_)
    refine lv_iconst (v := 1) hx hb dX2_dropKnot_25 (by decide) ?_
    refine lv_isub hx hb dX2_dropKnot_26 ?_
    refine lv_topi (fun v2_13 ev2_13 => ?_)
    have hm := nm_use ev2_13 hm
    refine lv_istore_n (lv' := [(2, .int v2_13), (0, .ref q), (1, .int a1)]) hx hb dX2_dropKnot_27 rfl hl (by decide) rfl (fun ls hl => ?_)
    refine lv_iconst (v := 0) hx hb dX2_dropKnot_28 (by decide) ?_
    refine lv_istore_n (lv' := [(3, .int 0), (2, .int v2_13), (0, .ref q), (1, .int a1)]) hx hb dX2_dropKnot_29 rfl hl (by decide) rfl (fun ls hl => ?_)
    obtain ⟨J72, hJ72, hm⟩ := jn_use hm
    have j72 : ∀ (f_ends_14 : Nat → Int32), ∀ (H : Heap) (locs : List Loc) (ls : Array Slot), va_P D vwCl [(q, .inr (2, [.int f_knots, .int f_threads_7, .ref q_ends, .ref q_colours])), (q_ends, .inl (cI, 21, .inl f_ends_14)), (q_colours, .inl (cI, 21, .inl f_colours_9))] H → va_D A [(q, .inr (2, [.int f_knots, .int f_threads_7, .ref q_ends, .ref q_colours])), (q_ends, .inl (cI, 21, .inl f_ends_14)), (q_colours, .inl (cI, 21, .inl f_colours_9))] → va_S A s.heap H locs → lv_has ls 5 [(0, .ref q)] → J72 f_ends_14 = some (f_knots', f_threads', f_ends', f_colours') → W p l e rX2_dropKnot s m args below meth c H locs 0 0 Q (F0 m 72 ls []) := by
      intro f_ends_14 H locs ls hP hD hS hl hm
      rw [hJ72] at hm
      refine lv_aload_n hx hb dX2_dropKnot_72 rfl (lv_at hl 0 rfl) ?_
      refine lv_dup hx hb dX2_dropKnot_73 rfl ?_
      refine va_get (D := D) (ci := 2) (v := .int f_knots) (C := RX2) (T := TX2) (N := 4) hx hb hts (by decide +kernel) hown hK hP 0 rfl rfl 0 (by decide) (hts (.fieldLink RX2 9 "KnotStripes$Net" "knots" "I") (by decide +kernel)) (fun _ h9 => h9) rfl dX2_dropKnot_74 ?_
      refine lv_iconst (v := 1) hx hb dX2_dropKnot_77 (by decide) ?_
      refine lv_isub hx hb dX2_dropKnot_78 ?_
      refine W.eq (g2 := F0 m 79 ls (.int (f_knots - 1) :: [.ref q])) rfl ?_
      refine lv_topi (fun w_15 ew_15 => ?_)
      have hm := nm_use ew_15 hm
      refine va_put (D := D) (ci := 2) (v := .int w_15) (ty := .int) (C := RX2) (T := TX2) (N := 4) hx hb hts (by decide +kernel) tyX2 tyX2_ok nmX2 hown hK hP hD hS 0 rfl rfl 0 (by decide) (hts (.fieldLink RX2 9 "KnotStripes$Net" "knots" "I") (by decide +kernel)) (fun _ h9 => h9) rfl (by decide +kernel) rfl rfl (Nat.le_of_ble_eq_true rfl) dX2_dropKnot_79 (fun H locs hP hD hS => ?_)
      have hP : va_P D vwCl [(q, .inr (2, [.int w_15, .int f_threads_7, .ref q_ends, .ref q_colours])), (q_ends, .inl (cI, 21, .inl f_ends_14)), (q_colours, .inl (cI, 21, .inl f_colours_9))] H := hP
      have hD : va_D A [(q, .inr (2, [.int w_15, .int f_threads_7, .ref q_ends, .ref q_colours])), (q_ends, .inl (cI, 21, .inl f_ends_14)), (q_colours, .inl (cI, 21, .inl f_colours_9))] := hD
      have z1 := so_use hm
      obtain ⟨y1, z2⟩ := pr_use z1
      obtain ⟨y2, z3⟩ := pr_use z2
      obtain ⟨y3, z4⟩ := pr_use z3
      subst y1
      subst y2
      subst y3
      subst z4
      exact hret _ _ _ _ dX2_dropKnot_82 hP hD hS
    have l30 : ∀ (n_30 : Nat) (x3_16 : Int32) (f_ends_17 : Nat → Int32), ∀ (H : Heap) (locs : List Loc) (ls : Array Slot), va_P D vwCl [(q, .inr (2, [.int f_knots, .int f_threads_7, .ref q_ends, .ref q_colours])), (q_ends, .inl (cI, 21, .inl f_ends_17)), (q_colours, .inl (cI, 21, .inl f_colours_9))] H → va_D A [(q, .inr (2, [.int f_knots, .int f_threads_7, .ref q_ends, .ref q_colours])), (q_ends, .inl (cI, 21, .inl f_ends_17)), (q_colours, .inl (cI, 21, .inl f_colours_9))] → va_S A s.heap H locs → lv_has ls 5 [(3, .int x3_16), (2, .int v2_13), (0, .ref q)] → m_X2_dropKnot_L30 N f_threads_7 v2_13 J72 n_30 x3_16 f_ends_17 = some (f_knots', f_threads', f_ends', f_colours') → W p l e rX2_dropKnot s m args below meth c H locs 0 0 Q (F0 m 30 ls []) := by
      intro n_30
      induction n_30 with
      | zero => intro x3_16 f_ends_17 H locs ls hP hD hS hl hm; rw [m_X2_dropKnot_L30] at hm; exact no_use hm
      | succ n_30 ih30 =>
        intro x3_16 f_ends_17 H locs ls hP hD hS hl hm
        rw [m_X2_dropKnot_L30] at hm
        refine lv_iload_n hx hb dX2_dropKnot_30 rfl (lv_at hl 0 rfl) ?_
        refine lv_aload_n hx hb dX2_dropKnot_31 rfl (lv_at hl 2 rfl) ?_
        refine va_get (D := D) (ci := 2) (v := .int f_threads_7) (C := RX2) (T := TX2) (N := 4) hx hb hts (by decide +kernel) hown hK hP 0 rfl rfl 1 (by decide) (hts (.fieldLink RX2 15 "KnotStripes$Net" "threads" "I") (by decide +kernel)) (fun _ h9 => h9) rfl dX2_dropKnot_32 ?_
        refine lv_icmp_ge (tgt := 72) hx hb dX2_dropKnot_35 (by decide) (fun hc => ?_) (fun hc => ?_)
        · have hm := if_t _ hc hm
          exact j72 f_ends_17 _ _ _ hP hD hS (lv_sub hl [2] rfl) hm
        · have hm := if_f _ hc hm
          refine lv_aload_n hx hb dX2_dropKnot_38 rfl (lv_at hl 2 rfl) ?_
          refine lv_iload_n hx hb dX2_dropKnot_39 rfl (lv_at hl 0 rfl) ?_
          obtain ⟨r_18, h_19, hm⟩ := bind_use hm
          refine g_ki (wc := [(q, .inr (2, [.int f_knots, .int f_threads_7, .ref q_ends, .ref q_colours])), (q_ends, .inl (cI, 21, .inl f_ends_17)), (q_colours, .inl (cI, 21, .inl f_colours_9))]) (wr := []) (w2 := [(q, .inr (2, [.int f_knots, .int f_threads_7, .ref q_ends, .ref q_colours])), (q_ends, .inl (cI, 21, .inl f_ends_17)), (q_colours, .inl (cI, 21, .inl f_colours_9))]) (va_runV (As := [.int x3_16]) (rest := []) ⟨hx, hb, hml, hown, hts⟩ (k_X2_ends l D cI cC cN N q q_ends q_colours H.size f_knots f_threads_7 f_ends_17 f_colours_9 x3_16 r_18 h_19) (cwV 1 hts gX2_dropKnot_X2_ends rfl rfl rfl (by decide +kernel) ⟨Nat.le_of_ble_eq_true rfl, Nat.le_of_ble_eq_true rfl⟩) ⟨g_blind, va_recv (D := D) (ci := 2) (q0 := 0) hK hP rfl rfl, g_pre (hP.sub [0, 1, 2] rfl) hK hN (hD.sub [0, 1, 2] (by decide) rfl)⟩ rfl rfl hl.1 rfl (lv_room (Nat.le_of_ble_eq_true rfl)) dX2_dropKnot_40 ⟨Nat.zero_le _, Nat.zero_le _⟩) hP hD hS hA [0, 1, 2] [] rfl rfl (by decide) (by decide) rfl (fun H locs hP hD hS => ?_)
          refine lv_istore (lv' := [(4, .int r_18), (3, .int x3_16), (2, .int v2_13), (0, .ref q)]) hx hb dX2_dropKnot_43 hl (by decide) rfl (fun ls hl => ?_)
          refine lv_aload_n hx hb dX2_dropKnot_45 rfl (lv_at hl 3 rfl) ?_
          refine va_get (D := D) (ci := 2) (v := .ref q_ends) (C := RX2) (T := TX2) (N := 4) hx hb hts (by decide +kernel) hown hK hP 0 rfl rfl 2 (by decide) (hts (.fieldLink RX2 18 "KnotStripes$Net" "ends" "[I") (by decide +kernel)) (fun _ h9 => h9) rfl dX2_dropKnot_46 ?_
          refine lv_iload_n hx hb dX2_dropKnot_49 rfl (lv_at hl 1 rfl) ?_
          refine lv_iload hx hb dX2_dropKnot_50 (lv_at hl 0 rfl) ?_
          refine lv_iload_n hx hb dX2_dropKnot_52 rfl (lv_at hl 2 rfl) ?_
          refine lv_iand hx hb dX2_dropKnot_53 ?_
          refine lv_iload hx hb dX2_dropKnot_54 (lv_at hl 0 rfl) ?_
          refine lv_iconst (v := 1) hx hb dX2_dropKnot_56 (by decide) ?_
          refine gv_ishr hx hb dX2_dropKnot_57 ?_
          refine lv_iload_n hx hb dX2_dropKnot_58 rfl (lv_at hl 2 rfl) ?_
          refine lv_iconst (v := (-1)) hx hb dX2_dropKnot_59 (by decide) ?_
          refine lv_ixor hx hb dX2_dropKnot_60 ?_
          refine lv_iand hx hb dX2_dropKnot_61 ?_
          refine lv_ior hx hb dX2_dropKnot_62 ?_
          obtain ⟨f_ends_20, h_21, hm⟩ := bind_use hm
          refine g_kv (wc := [(q_ends, .inl (cI, 21, .inl f_ends_17))]) (wr := [(q, .inr (2, [.int f_knots, .int f_threads_7, .ref q_ends, .ref q_colours])), (q_colours, .inl (cI, 21, .inl f_colours_9))]) (w2 := [(q, .inr (2, [.int f_knots, .int f_threads_7, .ref q_ends, .ref q_colours])), (q_colours, .inl (cI, 21, .inl f_colours_9)), (q_ends, .inl (cI, 21, .inl f_ends_20))]) (va_runSN (As := [.ref q_ends, .int x3_16, .int ((r_18 &&& v2_13) ||| ((sr r_18 1) &&& (v2_13 ^^^ (-1))))]) (rest := []) ⟨hx, hb, hml, hown, hts⟩ (k_X6_put l D cI cC cN N q_ends 21 H.size f_ends_17 x3_16 ((r_18 &&& v2_13) ||| ((sr r_18 1) &&& (v2_13 ^^^ (-1)))) f_ends_20 h_21) ⟨va_cnB 3 hts gX2_dropKnot_X6_put_n43 rfl rfl rfl (hN (.methodLinkNest RX2 43 yX6_put RX6) (by decide +kernel)) (hts (.initialized RX6) (by decide +kernel)) (by decide +kernel) ⟨Nat.le_of_ble_eq_true rfl, Nat.le_of_ble_eq_true rfl⟩, hts (.static yX6_put) (by decide +kernel), trivial⟩ ⟨g_blind, g_pre (hP.sub [1] rfl) hK hN (hD.sub [1] (by decide) rfl)⟩ rfl rfl hl.1 rfl (lv_room (Nat.le_of_ble_eq_true rfl)) dX2_dropKnot_63 ⟨Nat.zero_le _, Nat.zero_le _⟩) hP hD hS hA [1] [0, 2] rfl rfl (by decide) (by decide) rfl (fun H locs hP hD hS => ?_)
          refine lv_iinc (v := (x3_16 + 1)) (lv' := [(3, .int (x3_16 + 1)), (4, .int r_18), (2, .int v2_13), (0, .ref q)]) hx hb dX2_dropKnot_66 hl (k := 1) rfl rfl (by decide) rfl (fun ls hl => ?_)
          refine lv_goto (tgt := 30) hx hb dX2_dropKnot_69 (by decide) ?_
          exact ih30 (x3_16 + 1) f_ends_20 _ _ _ (hP.sub [0, 2, 1] rfl) (hD.sub [0, 2, 1] (by decide) rfl) hS (lv_sub hl [0, 2, 3] rfl) hm
    exact l30 N 0 f_ends_8 _ _ _ hP hD hS (lv_sub hl [0, 1, 2] rfl) hm
  · have hm := if_t _ hc hm
    have z1 := so_use hm
    obtain ⟨y1, z2⟩ := pr_use z1
    obtain ⟨y2, z3⟩ := pr_use z2
    obtain ⟨y3, z4⟩ := pr_use z3
    subst y1
    subst y2
    subst y3
    subst z4
    exact hret _ _ _ _ dX2_dropKnot_8 hP hD hS
abbrev rX2_moveEnd : Room := { frames := 2, cells := 0, slots := 0, locals := 42 }
set_option maxHeartbeats 4000000 in
set_option maxRecDepth 100000 in
theorem k_X2_moveEnd (l : Launch) (D : va_G) (cI cC cN : ClassId) (N : Nat) (q : Nat) (q_ends : Nat) (q_colours : Nat) (sz : Nat) (f_knots : Int32) (f_threads : Int32) (f_ends : Nat → Int32) (f_colours : Nat → Int32) (a1 : Int32) (a2 : Int32) (a3 : Int32) (f_ends' : Nat → Int32) (hm : m_X2_moveEnd N f_ends a1 a2 a3 = some f_ends') : Met l yX2_moveEnd wsX2_moveEnd (rX2_moveEnd) (gPc D (tysG cI cC cN) [.ref q, .int a1, .int a2, .int a3] [(q, .inr (2, [.int f_knots, .int f_threads, .ref q_ends, .ref q_colours])), (q_ends, .inl (cI, 21, .inl f_ends)), (q_colours, .inl (cI, 21, .inl f_colours))] sz) (gQv D (tysG cI cC cN) (va_A [(q, .inr (2, [.int f_knots, .int f_threads, .ref q_ends, .ref q_colours])), (q_ends, .inl (cI, 21, .inl f_ends)), (q_colours, .inl (cI, 21, .inl f_colours))] sz) [(q, .inr (2, [.int f_knots, .int f_threads, .ref q_ends, .ref q_colours])), (q_ends, .inl (cI, 21, .inl f_ends')), (q_colours, .inl (cI, 21, .inl f_colours))]) 0 0 (va_A [(q, .inr (2, [.int f_knots, .int f_threads, .ref q_ends, .ref q_colours])), (q_ends, .inl (cI, 21, .inl f_ends)), (q_colours, .inl (cI, 21, .inl f_colours))] sz) := by
  unfold m_X2_moveEnd at hm
  refine g_openV (cc := cX2_moveEnd) (maxL := 4) (own := RX2) (by decide) rfl rfl (Nat.le_of_ble_eq_true rfl) ?_
  intro p e s m args below meth c A Q hx hb hml hown hts hP hK hN hD hA hret ls hl
  have hS : va_S A s.heap s.heap [] := va_S.rf
  have hl : lv_has ls 4 [(0, .ref q), (1, .int a1), (2, .int a2), (3, .int a3)] := hl
  refine lv_aload_n hx hb dX2_moveEnd_0 rfl (lv_at hl 0 rfl) ?_
  refine va_get (D := D) (ci := 2) (v := .ref q_ends) (C := RX2) (T := TX2) (N := 4) hx hb hts (by decide +kernel) hown hK hP 0 rfl rfl 2 (by decide) (hts (.fieldLink RX2 18 "KnotStripes$Net" "ends" "[I") (by decide +kernel)) (fun _ h9 => h9) rfl dX2_moveEnd_1 ?_
  refine lv_iload_n hx hb dX2_moveEnd_4 rfl (lv_at hl 1 rfl) ?_
  refine lv_aload_n hx hb dX2_moveEnd_5 rfl (lv_at hl 0 rfl) ?_
  refine lv_iload_n hx hb dX2_moveEnd_6 rfl (lv_at hl 1 rfl) ?_
  obtain ⟨r_1, h_2, hm⟩ := bind_use hm
  refine g_ki (wc := [(q, .inr (2, [.int f_knots, .int f_threads, .ref q_ends, .ref q_colours])), (q_ends, .inl (cI, 21, .inl f_ends)), (q_colours, .inl (cI, 21, .inl f_colours))]) (wr := []) (w2 := [(q, .inr (2, [.int f_knots, .int f_threads, .ref q_ends, .ref q_colours])), (q_ends, .inl (cI, 21, .inl f_ends)), (q_colours, .inl (cI, 21, .inl f_colours))]) (va_runV (As := [.int a1]) (rest := [.int a1, .ref q_ends]) ⟨hx, hb, hml, hown, hts⟩ (k_X2_ends l D cI cC cN N q q_ends q_colours s.heap.size f_knots f_threads f_ends f_colours a1 r_1 h_2) (cwV 1 hts gX2_moveEnd_X2_ends rfl rfl rfl (by decide +kernel) ⟨Nat.le_of_ble_eq_true rfl, Nat.le_of_ble_eq_true rfl⟩) ⟨g_blind, va_recv (D := D) (ci := 2) (q0 := 0) hK hP rfl rfl, g_pre (hP.sub [0, 1, 2] rfl) hK hN (hD.sub [0, 1, 2] (by decide) rfl)⟩ rfl rfl hl.1 rfl (lv_room (Nat.le_of_ble_eq_true rfl)) dX2_moveEnd_7 ⟨Nat.zero_le _, Nat.zero_le _⟩) hP hD hS hA [0, 1, 2] [] rfl rfl (by decide) (by decide) rfl (fun H locs hP hD hS => ?_)
  refine lv_iload_n hx hb dX2_moveEnd_10 rfl (lv_at hl 2 rfl) ?_
  obtain ⟨r_3, h_4, hm⟩ := bind_use hm
  refine g_ki (wc := []) (wr := [(q, .inr (2, [.int f_knots, .int f_threads, .ref q_ends, .ref q_colours])), (q_ends, .inl (cI, 21, .inl f_ends)), (q_colours, .inl (cI, 21, .inl f_colours))]) (w2 := [(q, .inr (2, [.int f_knots, .int f_threads, .ref q_ends, .ref q_colours])), (q_ends, .inl (cI, 21, .inl f_ends)), (q_colours, .inl (cI, 21, .inl f_colours))]) (va_runSN (As := [.int a2]) (rest := [.int r_1, .int a1, .ref q_ends]) ⟨hx, hb, hml, hown, hts⟩ (k_X6_bit l D cI cC cN N H.size a2 r_3 h_4) ⟨va_cnB 1 hts gX2_moveEnd_X6_bit_n25 rfl rfl rfl (hN (.methodLinkNest RX2 25 yX6_bit RX6) (by decide +kernel)) (hts (.initialized RX6) (by decide +kernel)) (by decide +kernel) ⟨Nat.le_of_ble_eq_true rfl, Nat.le_of_ble_eq_true rfl⟩, hts (.static yX6_bit) (by decide +kernel), trivial⟩ ⟨g_blind, g_pre (hP.sub [] rfl) hK hN (hD.sub [] (by decide) rfl)⟩ rfl rfl hl.1 rfl (lv_room (Nat.le_of_ble_eq_true rfl)) dX2_moveEnd_11 ⟨Nat.zero_le _, Nat.zero_le _⟩) hP hD hS hA [] [0, 1, 2] rfl rfl (by decide) (by decide) rfl (fun H locs hP hD hS => ?_)
  refine lv_iconst (v := (-1)) hx hb dX2_moveEnd_14 (by decide) ?_
  refine lv_ixor hx hb dX2_moveEnd_15 ?_
  refine lv_iand hx hb dX2_moveEnd_16 ?_
  refine lv_iload_n hx hb dX2_moveEnd_17 rfl (lv_at hl 3 rfl) ?_
  obtain ⟨r_5, h_6, hm⟩ := bind_use hm
  refine g_ki (wc := []) (wr := [(q, .inr (2, [.int f_knots, .int f_threads, .ref q_ends, .ref q_colours])), (q_ends, .inl (cI, 21, .inl f_ends)), (q_colours, .inl (cI, 21, .inl f_colours))]) (w2 := [(q, .inr (2, [.int f_knots, .int f_threads, .ref q_ends, .ref q_colours])), (q_ends, .inl (cI, 21, .inl f_ends)), (q_colours, .inl (cI, 21, .inl f_colours))]) (va_runSN (As := [.int a3]) (rest := [.int (r_1 &&& (r_3 ^^^ (-1))), .int a1, .ref q_ends]) ⟨hx, hb, hml, hown, hts⟩ (k_X6_bit l D cI cC cN N H.size a3 r_5 h_6) ⟨va_cnB 1 hts gX2_moveEnd_X6_bit_n25 rfl rfl rfl (hN (.methodLinkNest RX2 25 yX6_bit RX6) (by decide +kernel)) (hts (.initialized RX6) (by decide +kernel)) (by decide +kernel) ⟨Nat.le_of_ble_eq_true rfl, Nat.le_of_ble_eq_true rfl⟩, hts (.static yX6_bit) (by decide +kernel), trivial⟩ ⟨g_blind, g_pre (hP.sub [] rfl) hK hN (hD.sub [] (by decide) rfl)⟩ rfl rfl hl.1 rfl (lv_room (Nat.le_of_ble_eq_true rfl)) dX2_moveEnd_18 ⟨Nat.zero_le _, Nat.zero_le _⟩) hP hD hS hA [] [0, 1, 2] rfl rfl (by decide) (by decide) rfl (fun H locs hP hD hS => ?_)
  refine lv_ior hx hb dX2_moveEnd_21 ?_
  obtain ⟨f_ends_7, h_8, hm⟩ := bind_use hm
  refine g_kv (wc := [(q_ends, .inl (cI, 21, .inl f_ends))]) (wr := [(q, .inr (2, [.int f_knots, .int f_threads, .ref q_ends, .ref q_colours])), (q_colours, .inl (cI, 21, .inl f_colours))]) (w2 := [(q, .inr (2, [.int f_knots, .int f_threads, .ref q_ends, .ref q_colours])), (q_colours, .inl (cI, 21, .inl f_colours)), (q_ends, .inl (cI, 21, .inl f_ends_7))]) (va_runSN (As := [.ref q_ends, .int a1, .int ((r_1 &&& (r_3 ^^^ (-1))) ||| r_5)]) (rest := []) ⟨hx, hb, hml, hown, hts⟩ (k_X6_put l D cI cC cN N q_ends 21 H.size f_ends a1 ((r_1 &&& (r_3 ^^^ (-1))) ||| r_5) f_ends_7 h_8) ⟨va_cnB 3 hts gX2_moveEnd_X6_put_n43 rfl rfl rfl (hN (.methodLinkNest RX2 43 yX6_put RX6) (by decide +kernel)) (hts (.initialized RX6) (by decide +kernel)) (by decide +kernel) ⟨Nat.le_of_ble_eq_true rfl, Nat.le_of_ble_eq_true rfl⟩, hts (.static yX6_put) (by decide +kernel), trivial⟩ ⟨g_blind, g_pre (hP.sub [1] rfl) hK hN (hD.sub [1] (by decide) rfl)⟩ rfl rfl hl.1 rfl (lv_room (Nat.le_of_ble_eq_true rfl)) dX2_moveEnd_22 ⟨Nat.zero_le _, Nat.zero_le _⟩) hP hD hS hA [1] [0, 2] rfl rfl (by decide) (by decide) rfl (fun H locs hP hD hS => ?_)
  have z1 := so_use hm
  subst z1
  exact hret _ _ _ _ dX2_moveEnd_25 (hP.sub [0, 2, 1] rfl) (hD.sub [0, 2, 1] (by decide) rfl) hS
abbrev rX2_growInto : Room := { frames := 3, cells := 0, slots := 0, locals := 65 }
set_option maxHeartbeats 4000000 in
set_option maxRecDepth 100000 in
theorem k_X2_growInto (l : Launch) (D : va_G) (cI cC cN : ClassId) (N : Nat) (q : Nat) (q_ends : Nat) (q_colours : Nat) (sz : Nat) (f_knots : Int32) (f_threads : Int32) (f_ends : Nat → Int32) (f_colours : Nat → Int32) (a1 : Int32) (f_knots' : Int32) (f_threads' : Int32) (f_ends' : Nat → Int32) (f_colours' : Nat → Int32) (hm : m_X2_growInto N f_knots f_threads f_ends f_colours a1 = some (f_knots', f_threads', f_ends', f_colours')) : Met l yX2_growInto wsX2_growInto (rX2_growInto) (gPc D (tysG cI cC cN) [.ref q, .int a1] [(q, .inr (2, [.int f_knots, .int f_threads, .ref q_ends, .ref q_colours])), (q_ends, .inl (cI, 21, .inl f_ends)), (q_colours, .inl (cI, 21, .inl f_colours))] sz) (gQv D (tysG cI cC cN) (va_A [(q, .inr (2, [.int f_knots, .int f_threads, .ref q_ends, .ref q_colours])), (q_ends, .inl (cI, 21, .inl f_ends)), (q_colours, .inl (cI, 21, .inl f_colours))] sz) [(q, .inr (2, [.int f_knots', .int f_threads', .ref q_ends, .ref q_colours])), (q_ends, .inl (cI, 21, .inl f_ends')), (q_colours, .inl (cI, 21, .inl f_colours'))]) 0 0 (va_A [(q, .inr (2, [.int f_knots, .int f_threads, .ref q_ends, .ref q_colours])), (q_ends, .inl (cI, 21, .inl f_ends)), (q_colours, .inl (cI, 21, .inl f_colours))] sz) := by
  unfold m_X2_growInto at hm
  refine g_openV (cc := cX2_growInto) (maxL := 7) (own := RX2) (by decide) rfl rfl (Nat.le_of_ble_eq_true rfl) ?_
  intro p e s m args below meth c A Q hx hb hml hown hts hP hK hN hD hA hret ls hl
  have hS : va_S A s.heap s.heap [] := va_S.rf
  have hl : lv_has ls 7 [(0, .ref q), (1, .int a1)] := hl
  refine lv_aload_n hx hb dX2_growInto_0 rfl (lv_at hl 0 rfl) ?_
  refine va_get (D := D) (ci := 2) (v := .int f_knots) (C := RX2) (T := TX2) (N := 4) hx hb hts (by decide +kernel) hown hK hP 0 rfl rfl 0 (by decide) (hts (.fieldLink RX2 9 "KnotStripes$Net" "knots" "I") (by decide +kernel)) (fun _ h9 => h9) rfl dX2_growInto_1 ?_
  refine lv_istore_n (lv' := [(2, .int f_knots), (0, .ref q), (1, .int a1)]) hx hb dX2_growInto_4 rfl hl (by decide) rfl (fun ls hl => ?_)
  refine lv_aload_n hx hb dX2_growInto_5 rfl (lv_at hl 1 rfl) ?_
  refine va_get (D := D) (ci := 2) (v := .int f_knots) (C := RX2) (T := TX2) (N := 4) hx hb hts (by decide +kernel) hown hK hP 0 rfl rfl 0 (by decide) (hts (.fieldLink RX2 9 "KnotStripes$Net" "knots" "I") (by decide +kernel)) (fun _ h9 => h9) rfl dX2_growInto_6 ?_
  refine lv_iconst (v := 1) hx hb dX2_growInto_9 (by decide) ?_
  refine lv_iadd hx hb dX2_growInto_10 ?_
  refine lv_topi (fun v3_1 ev3_1 => ?_)
  have hm := nm_use ev3_1 hm
  refine lv_istore_n (lv' := [(3, .int v3_1), (2, .int f_knots), (0, .ref q), (1, .int a1)]) hx hb dX2_growInto_11 rfl hl (by decide) rfl (fun ls hl => ?_)
  refine lv_aload_n hx hb dX2_growInto_12 rfl (lv_at hl 2 rfl) ?_
  refine lv_iload_n hx hb dX2_growInto_13 rfl (lv_at hl 3 rfl) ?_
  obtain ⟨r_2, h_3, hm⟩ := bind_use hm
  refine g_ki (wc := []) (wr := [(q, .inr (2, [.int f_knots, .int f_threads, .ref q_ends, .ref q_colours])), (q_ends, .inl (cI, 21, .inl f_ends)), (q_colours, .inl (cI, 21, .inl f_colours))]) (w2 := [(q, .inr (2, [.int f_knots, .int f_threads, .ref q_ends, .ref q_colours])), (q_ends, .inl (cI, 21, .inl f_ends)), (q_colours, .inl (cI, 21, .inl f_colours))]) (va_runSN (As := [.int a1]) (rest := [.ref q]) ⟨hx, hb, hml, hown, hts⟩ (k_X6_bit l D cI cC cN N s.heap.size a1 r_2 h_3) ⟨va_cnB 1 hts gX2_growInto_X6_bit_n25 rfl rfl rfl (hN (.methodLinkNest RX2 25 yX6_bit RX6) (by decide +kernel)) (hts (.initialized RX6) (by decide +kernel)) (by decide +kernel) ⟨Nat.le_of_ble_eq_true rfl, Nat.le_of_ble_eq_true rfl⟩, hts (.static yX6_bit) (by decide +kernel), trivial⟩ ⟨g_blind, g_pre (hP.sub [] rfl) hK hN (hD.sub [] (by decide) rfl)⟩ rfl rfl hl.1 rfl (lv_room (Nat.le_of_ble_eq_true rfl)) dX2_growInto_14 ⟨Nat.zero_le _, Nat.zero_le _⟩) hP hD hS hA [] [0, 1, 2] rfl rfl (by decide) (by decide) rfl (fun H locs hP hD hS => ?_)
  obtain ⟨r_4, h_5, hm⟩ := bind_use hm
  refine g_ki (wc := [(q, .inr (2, [.int f_knots, .int f_threads, .ref q_ends, .ref q_colours])), (q_ends, .inl (cI, 21, .inl f_ends)), (q_colours, .inl (cI, 21, .inl f_colours))]) (wr := []) (w2 := [(q, .inr (2, [.int f_knots, .int f_threads, .ref q_ends, .ref q_colours])), (q_ends, .inl (cI, 21, .inl f_ends)), (q_colours, .inl (cI, 21, .inl f_colours))]) (va_runV (As := [.int r_2]) (rest := []) ⟨hx, hb, hml, hown, hts⟩ (k_X2_threadsAt l D cI cC cN N q q_ends q_colours H.size f_knots f_threads f_ends f_colours r_2 r_4 h_5) (cwV 1 hts gX2_growInto_X2_threadsAt rfl rfl rfl (by decide +kernel) ⟨Nat.le_of_ble_eq_true rfl, Nat.le_of_ble_eq_true rfl⟩) ⟨g_blind, va_recv (D := D) (ci := 2) (q0 := 0) hK hP rfl rfl, g_pre (hP.sub [0, 1, 2] rfl) hK hN (hD.sub [0, 1, 2] (by decide) rfl)⟩ rfl rfl hl.1 rfl (lv_room (Nat.le_of_ble_eq_true rfl)) dX2_growInto_17 ⟨Nat.zero_le _, Nat.zero_le _⟩) hP hD hS hA [0, 1, 2] [] rfl rfl (by decide) (by decide) rfl (fun H locs hP hD hS => ?_)
  refine lv_istore (lv' := [(4, .int r_4), (3, .int v3_1), (2, .int f_knots), (0, .ref q), (1, .int a1)]) hx hb dX2_growInto_20 hl (by decide) rfl (fun ls hl => ?_)
  refine lv_iload hx hb dX2_growInto_22 (lv_at hl 0 rfl) ?_
  refine lv_iload hx hb dX2_growInto_24 (lv_at hl 0 rfl) ?_
  refine lv_iconst (v := 1) hx hb dX2_growInto_26 (by decide) ?_
  refine lv_isub hx hb dX2_growInto_27 ?_
  refine lv_iand hx hb dX2_growInto_28 ?_
  refine lv_topi (fun v5_6 ev5_6 => ?_)
  have hm := nm_use ev5_6 hm
  refine lv_istore (lv' := [(5, .int v5_6), (4, .int r_4), (3, .int v3_1), (2, .int f_knots), (0, .ref q), (1, .int a1)]) hx hb dX2_growInto_29 hl (by decide) rfl (fun ls hl => ?_)
  refine lv_iload hx hb dX2_growInto_31 (lv_at hl 0 rfl) ?_
  refine lv_iload hx hb dX2_growInto_33 (lv_at hl 0 rfl) ?_
  refine lv_iconst (v := 1) hx hb dX2_growInto_35 (by decide) ?_
  refine lv_isub hx hb dX2_growInto_36 ?_
  refine lv_iand hx hb dX2_growInto_37 ?_
  refine lv_topi (fun v6_7 ev6_7 => ?_)
  have hm := nm_use ev6_7 hm
  refine lv_istore (lv' := [(6, .int v6_7), (5, .int v5_6), (4, .int r_4), (3, .int v3_1), (2, .int f_knots), (0, .ref q), (1, .int a1)]) hx hb dX2_growInto_38 hl (by decide) rfl (fun ls hl => ?_)
  refine lv_aload_n hx hb dX2_growInto_40 rfl (lv_at hl 5 rfl) ?_
  refine lv_iconst (v := 2) hx hb dX2_growInto_41 (by decide) ?_
  obtain ⟨f_knots_8, h_9, hm⟩ := bind_use hm
  refine g_kv (wc := [(q, .inr (2, [.int f_knots, .int f_threads, .ref q_ends, .ref q_colours])), (q_ends, .inl (cI, 21, .inl f_ends)), (q_colours, .inl (cI, 21, .inl f_colours))]) (wr := []) (w2 := [(q, .inr (2, [.int f_knots_8, .int f_threads, .ref q_ends, .ref q_colours])), (q_ends, .inl (cI, 21, .inl f_ends)), (q_colours, .inl (cI, 21, .inl f_colours))]) (va_runV (As := [.int 2]) (rest := []) ⟨hx, hb, hml, hown, hts⟩ (k_X2_addKnots l D cI cC cN N q q_ends q_colours H.size f_knots f_threads f_ends f_colours 2 f_knots_8 h_9) (cwV 1 hts gX2_growInto_X2_addKnots rfl rfl rfl (by decide +kernel) ⟨Nat.le_of_ble_eq_true rfl, Nat.le_of_ble_eq_true rfl⟩) ⟨g_blind, va_recv (D := D) (ci := 2) (q0 := 0) hK hP rfl rfl, g_pre (hP.sub [0, 1, 2] rfl) hK hN (hD.sub [0, 1, 2] (by decide) rfl)⟩ rfl rfl hl.1 rfl (lv_room (Nat.le_of_ble_eq_true rfl)) dX2_growInto_42 ⟨Nat.zero_le _, Nat.zero_le _⟩) hP hD hS hA [0, 1, 2] [] rfl rfl (by decide) (by decide) rfl (fun H locs hP hD hS => ?_)
  refine lv_aload_n hx hb dX2_growInto_45 rfl (lv_at hl 5 rfl) ?_
  refine lv_iload hx hb dX2_growInto_46 (lv_at hl 1 rfl) ?_
  obtain ⟨r_10, h_11, hm⟩ := bind_use hm
  refine g_ki (wc := []) (wr := [(q, .inr (2, [.int f_knots_8, .int f_threads, .ref q_ends, .ref q_colours])), (q_ends, .inl (cI, 21, .inl f_ends)), (q_colours, .inl (cI, 21, .inl f_colours))]) (w2 := [(q, .inr (2, [.int f_knots_8, .int f_threads, .ref q_ends, .ref q_colours])), (q_ends, .inl (cI, 21, .inl f_ends)), (q_colours, .inl (cI, 21, .inl f_colours))]) (va_runS (As := [.int v5_6]) (rest := [.ref q]) ⟨hx, hb, hml, hown, hts⟩ (k_J6_numberOfTrailingZeros_0f7a4 l D cI cC cN N H.size v5_6 r_10 h_11) (va_cwS 1 hts gX2_growInto_J6_numberOfTrailingZeros_0f7a4 rfl rfl rfl (by decide +kernel) ⟨Nat.le_of_ble_eq_true rfl, Nat.le_of_ble_eq_true rfl⟩) ⟨g_blind, g_pre (hP.sub [] rfl) hK hN (hD.sub [] (by decide) rfl)⟩ rfl rfl hl.1 rfl (lv_room (Nat.le_of_ble_eq_true rfl)) dX2_growInto_48 ⟨Nat.zero_le _, Nat.zero_le _⟩) hP hD hS hA [] [0, 1, 2] rfl rfl (by decide) (by decide) rfl (fun H locs hP hD hS => ?_)
  refine lv_iload_n hx hb dX2_growInto_51 rfl (lv_at hl 6 rfl) ?_
  refine lv_iload_n hx hb dX2_growInto_52 rfl (lv_at hl 4 rfl) ?_
  obtain ⟨f_ends_12, h_13, hm⟩ := bind_use hm
  refine g_kv (wc := [(q, .inr (2, [.int f_knots_8, .int f_threads, .ref q_ends, .ref q_colours])), (q_ends, .inl (cI, 21, .inl f_ends)), (q_colours, .inl (cI, 21, .inl f_colours))]) (wr := []) (w2 := [(q, .inr (2, [.int f_knots_8, .int f_threads, .ref q_ends, .ref q_colours])), (q_ends, .inl (cI, 21, .inl f_ends_12)), (q_colours, .inl (cI, 21, .inl f_colours))]) (va_runV (As := [.int r_10, .int a1, .int f_knots]) (rest := []) ⟨hx, hb, hml, hown, hts⟩ (k_X2_moveEnd l D cI cC cN N q q_ends q_colours H.size f_knots_8 f_threads f_ends f_colours r_10 a1 f_knots f_ends_12 h_13) (cwV 3 hts gX2_growInto_X2_moveEnd rfl rfl rfl (by decide +kernel) ⟨Nat.le_of_ble_eq_true rfl, Nat.le_of_ble_eq_true rfl⟩) ⟨g_blind, va_recv (D := D) (ci := 2) (q0 := 0) hK hP rfl rfl, g_pre (hP.sub [0, 1, 2] rfl) hK hN (hD.sub [0, 1, 2] (by decide) rfl)⟩ rfl rfl hl.1 rfl (lv_room (Nat.le_of_ble_eq_true rfl)) dX2_growInto_53 ⟨Nat.zero_le _, Nat.zero_le _⟩) hP hD hS hA [0, 1, 2] [] rfl rfl (by decide) (by decide) rfl (fun H locs hP hD hS => ?_)
  refine lv_aload_n hx hb dX2_growInto_56 rfl (lv_at hl 5 rfl) ?_
  refine lv_iload hx hb dX2_growInto_57 (lv_at hl 0 rfl) ?_
  obtain ⟨r_14, h_15, hm⟩ := bind_use hm
  refine g_ki (wc := []) (wr := [(q, .inr (2, [.int f_knots_8, .int f_threads, .ref q_ends, .ref q_colours])), (q_ends, .inl (cI, 21, .inl f_ends_12)), (q_colours, .inl (cI, 21, .inl f_colours))]) (w2 := [(q, .inr (2, [.int f_knots_8, .int f_threads, .ref q_ends, .ref q_colours])), (q_ends, .inl (cI, 21, .inl f_ends_12)), (q_colours, .inl (cI, 21, .inl f_colours))]) (va_runS (As := [.int v6_7]) (rest := [.ref q]) ⟨hx, hb, hml, hown, hts⟩ (k_J6_numberOfTrailingZeros_0f7a4 l D cI cC cN N H.size v6_7 r_14 h_15) (va_cwS 1 hts gX2_growInto_J6_numberOfTrailingZeros_0f7a4 rfl rfl rfl (by decide +kernel) ⟨Nat.le_of_ble_eq_true rfl, Nat.le_of_ble_eq_true rfl⟩) ⟨g_blind, g_pre (hP.sub [] rfl) hK hN (hD.sub [] (by decide) rfl)⟩ rfl rfl hl.1 rfl (lv_room (Nat.le_of_ble_eq_true rfl)) dX2_growInto_59 ⟨Nat.zero_le _, Nat.zero_le _⟩) hP hD hS hA [] [0, 1, 2] rfl rfl (by decide) (by decide) rfl (fun H locs hP hD hS => ?_)
  refine lv_iload_n hx hb dX2_growInto_62 rfl (lv_at hl 6 rfl) ?_
  refine lv_iload_n hx hb dX2_growInto_63 rfl (lv_at hl 3 rfl) ?_
  obtain ⟨f_ends_16, h_17, hm⟩ := bind_use hm
  refine g_kv (wc := [(q, .inr (2, [.int f_knots_8, .int f_threads, .ref q_ends, .ref q_colours])), (q_ends, .inl (cI, 21, .inl f_ends_12)), (q_colours, .inl (cI, 21, .inl f_colours))]) (wr := []) (w2 := [(q, .inr (2, [.int f_knots_8, .int f_threads, .ref q_ends, .ref q_colours])), (q_ends, .inl (cI, 21, .inl f_ends_16)), (q_colours, .inl (cI, 21, .inl f_colours))]) (va_runV (As := [.int r_14, .int a1, .int v3_1]) (rest := []) ⟨hx, hb, hml, hown, hts⟩ (k_X2_moveEnd l D cI cC cN N q q_ends q_colours H.size f_knots_8 f_threads f_ends_12 f_colours r_14 a1 v3_1 f_ends_16 h_17) (cwV 3 hts gX2_growInto_X2_moveEnd rfl rfl rfl (by decide +kernel) ⟨Nat.le_of_ble_eq_true rfl, Nat.le_of_ble_eq_true rfl⟩) ⟨g_blind, va_recv (D := D) (ci := 2) (q0 := 0) hK hP rfl rfl, g_pre (hP.sub [0, 1, 2] rfl) hK hN (hD.sub [0, 1, 2] (by decide) rfl)⟩ rfl rfl hl.1 rfl (lv_room (Nat.le_of_ble_eq_true rfl)) dX2_growInto_64 ⟨Nat.zero_le _, Nat.zero_le _⟩) hP hD hS hA [0, 1, 2] [] rfl rfl (by decide) (by decide) rfl (fun H locs hP hD hS => ?_)
  refine lv_aload_n hx hb dX2_growInto_67 rfl (lv_at hl 5 rfl) ?_
  refine lv_iload_n hx hb dX2_growInto_68 rfl (lv_at hl 6 rfl) ?_
  obtain ⟨r_18, h_19, hm⟩ := bind_use hm
  refine g_ki (wc := []) (wr := [(q, .inr (2, [.int f_knots_8, .int f_threads, .ref q_ends, .ref q_colours])), (q_ends, .inl (cI, 21, .inl f_ends_16)), (q_colours, .inl (cI, 21, .inl f_colours))]) (w2 := [(q, .inr (2, [.int f_knots_8, .int f_threads, .ref q_ends, .ref q_colours])), (q_ends, .inl (cI, 21, .inl f_ends_16)), (q_colours, .inl (cI, 21, .inl f_colours))]) (va_runSN (As := [.int a1]) (rest := [.ref q]) ⟨hx, hb, hml, hown, hts⟩ (k_X6_bit l D cI cC cN N H.size a1 r_18 h_19) ⟨va_cnB 1 hts gX2_growInto_X6_bit_n25 rfl rfl rfl (hN (.methodLinkNest RX2 25 yX6_bit RX6) (by decide +kernel)) (hts (.initialized RX6) (by decide +kernel)) (by decide +kernel) ⟨Nat.le_of_ble_eq_true rfl, Nat.le_of_ble_eq_true rfl⟩, hts (.static yX6_bit) (by decide +kernel), trivial⟩ ⟨g_blind, g_pre (hP.sub [] rfl) hK hN (hD.sub [] (by decide) rfl)⟩ rfl rfl hl.1 rfl (lv_room (Nat.le_of_ble_eq_true rfl)) dX2_growInto_69 ⟨Nat.zero_le _, Nat.zero_le _⟩) hP hD hS hA [] [0, 1, 2] rfl rfl (by decide) (by decide) rfl (fun H locs hP hD hS => ?_)
  refine lv_iload_n hx hb dX2_growInto_72 rfl (lv_at hl 4 rfl) ?_
  obtain ⟨r_20, h_21, hm⟩ := bind_use hm
  refine g_ki (wc := []) (wr := [(q, .inr (2, [.int f_knots_8, .int f_threads, .ref q_ends, .ref q_colours])), (q_ends, .inl (cI, 21, .inl f_ends_16)), (q_colours, .inl (cI, 21, .inl f_colours))]) (w2 := [(q, .inr (2, [.int f_knots_8, .int f_threads, .ref q_ends, .ref q_colours])), (q_ends, .inl (cI, 21, .inl f_ends_16)), (q_colours, .inl (cI, 21, .inl f_colours))]) (va_runSN (As := [.int f_knots]) (rest := [.int r_18, .ref q]) ⟨hx, hb, hml, hown, hts⟩ (k_X6_bit l D cI cC cN N H.size f_knots r_20 h_21) ⟨va_cnB 1 hts gX2_growInto_X6_bit_n25 rfl rfl rfl (hN (.methodLinkNest RX2 25 yX6_bit RX6) (by decide +kernel)) (hts (.initialized RX6) (by decide +kernel)) (by decide +kernel) ⟨Nat.le_of_ble_eq_true rfl, Nat.le_of_ble_eq_true rfl⟩, hts (.static yX6_bit) (by decide +kernel), trivial⟩ ⟨g_blind, g_pre (hP.sub [] rfl) hK hN (hD.sub [] (by decide) rfl)⟩ rfl rfl hl.1 rfl (lv_room (Nat.le_of_ble_eq_true rfl)) dX2_growInto_73 ⟨Nat.zero_le _, Nat.zero_le _⟩) hP hD hS hA [] [0, 1, 2] rfl rfl (by decide) (by decide) rfl (fun H locs hP hD hS => ?_)
  refine lv_ior hx hb dX2_growInto_76 ?_
  obtain ⟨⟨f_threads_22, f_ends_23, f_colours_24⟩, h_25, hm⟩ := bind_use hm
  refine g_kv (wc := [(q, .inr (2, [.int f_knots_8, .int f_threads, .ref q_ends, .ref q_colours])), (q_ends, .inl (cI, 21, .inl f_ends_16)), (q_colours, .inl (cI, 21, .inl f_colours))]) (wr := []) (w2 := [(q, .inr (2, [.int f_knots_8, .int f_threads_22, .ref q_ends, .ref q_colours])), (q_ends, .inl (cI, 21, .inl f_ends_23)), (q_colours, .inl (cI, 21, .inl f_colours_24))]) (va_runV (As := [.int (r_18 ||| r_20)]) (rest := []) ⟨hx, hb, hml, hown, hts⟩ (k_X2_tie l D cI cC cN N q q_ends q_colours H.size f_knots_8 f_threads f_ends_16 f_colours (r_18 ||| r_20) f_threads_22 f_ends_23 f_colours_24 h_25) (cwV 1 hts gX2_growInto_X2_tie rfl rfl rfl (by decide +kernel) ⟨Nat.le_of_ble_eq_true rfl, Nat.le_of_ble_eq_true rfl⟩) ⟨g_blind, va_recv (D := D) (ci := 2) (q0 := 0) hK hP rfl rfl, g_pre (hP.sub [0, 1, 2] rfl) hK hN (hD.sub [0, 1, 2] (by decide) rfl)⟩ rfl rfl hl.1 rfl (lv_room (Nat.le_of_ble_eq_true rfl)) dX2_growInto_77 ⟨Nat.zero_le _, Nat.zero_le _⟩) hP hD hS hA [0, 1, 2] [] rfl rfl (by decide) (by decide) rfl (fun H locs hP hD hS => ?_)
  refine lv_aload_n hx hb dX2_growInto_80 rfl (lv_at hl 5 rfl) ?_
  refine lv_iload_n hx hb dX2_growInto_81 rfl (lv_at hl 6 rfl) ?_
  obtain ⟨r_26, h_27, hm⟩ := bind_use hm
  refine g_ki (wc := []) (wr := [(q, .inr (2, [.int f_knots_8, .int f_threads_22, .ref q_ends, .ref q_colours])), (q_ends, .inl (cI, 21, .inl f_ends_23)), (q_colours, .inl (cI, 21, .inl f_colours_24))]) (w2 := [(q, .inr (2, [.int f_knots_8, .int f_threads_22, .ref q_ends, .ref q_colours])), (q_ends, .inl (cI, 21, .inl f_ends_23)), (q_colours, .inl (cI, 21, .inl f_colours_24))]) (va_runSN (As := [.int a1]) (rest := [.ref q]) ⟨hx, hb, hml, hown, hts⟩ (k_X6_bit l D cI cC cN N H.size a1 r_26 h_27) ⟨va_cnB 1 hts gX2_growInto_X6_bit_n25 rfl rfl rfl (hN (.methodLinkNest RX2 25 yX6_bit RX6) (by decide +kernel)) (hts (.initialized RX6) (by decide +kernel)) (by decide +kernel) ⟨Nat.le_of_ble_eq_true rfl, Nat.le_of_ble_eq_true rfl⟩, hts (.static yX6_bit) (by decide +kernel), trivial⟩ ⟨g_blind, g_pre (hP.sub [] rfl) hK hN (hD.sub [] (by decide) rfl)⟩ rfl rfl hl.1 rfl (lv_room (Nat.le_of_ble_eq_true rfl)) dX2_growInto_82 ⟨Nat.zero_le _, Nat.zero_le _⟩) hP hD hS hA [] [0, 1, 2] rfl rfl (by decide) (by decide) rfl (fun H locs hP hD hS => ?_)
  refine lv_iload_n hx hb dX2_growInto_85 rfl (lv_at hl 3 rfl) ?_
  obtain ⟨r_28, h_29, hm⟩ := bind_use hm
  refine g_ki (wc := []) (wr := [(q, .inr (2, [.int f_knots_8, .int f_threads_22, .ref q_ends, .ref q_colours])), (q_ends, .inl (cI, 21, .inl f_ends_23)), (q_colours, .inl (cI, 21, .inl f_colours_24))]) (w2 := [(q, .inr (2, [.int f_knots_8, .int f_threads_22, .ref q_ends, .ref q_colours])), (q_ends, .inl (cI, 21, .inl f_ends_23)), (q_colours, .inl (cI, 21, .inl f_colours_24))]) (va_runSN (As := [.int v3_1]) (rest := [.int r_26, .ref q]) ⟨hx, hb, hml, hown, hts⟩ (k_X6_bit l D cI cC cN N H.size v3_1 r_28 h_29) ⟨va_cnB 1 hts gX2_growInto_X6_bit_n25 rfl rfl rfl (hN (.methodLinkNest RX2 25 yX6_bit RX6) (by decide +kernel)) (hts (.initialized RX6) (by decide +kernel)) (by decide +kernel) ⟨Nat.le_of_ble_eq_true rfl, Nat.le_of_ble_eq_true rfl⟩, hts (.static yX6_bit) (by decide +kernel), trivial⟩ ⟨g_blind, g_pre (hP.sub [] rfl) hK hN (hD.sub [] (by decide) rfl)⟩ rfl rfl hl.1 rfl (lv_room (Nat.le_of_ble_eq_true rfl)) dX2_growInto_86 ⟨Nat.zero_le _, Nat.zero_le _⟩) hP hD hS hA [] [0, 1, 2] rfl rfl (by decide) (by decide) rfl (fun H locs hP hD hS => ?_)
  refine lv_ior hx hb dX2_growInto_89 ?_
  obtain ⟨⟨f_threads_30, f_ends_31, f_colours_32⟩, h_33, hm⟩ := bind_use hm
  refine g_kv (wc := [(q, .inr (2, [.int f_knots_8, .int f_threads_22, .ref q_ends, .ref q_colours])), (q_ends, .inl (cI, 21, .inl f_ends_23)), (q_colours, .inl (cI, 21, .inl f_colours_24))]) (wr := []) (w2 := [(q, .inr (2, [.int f_knots_8, .int f_threads_30, .ref q_ends, .ref q_colours])), (q_ends, .inl (cI, 21, .inl f_ends_31)), (q_colours, .inl (cI, 21, .inl f_colours_32))]) (va_runV (As := [.int (r_26 ||| r_28)]) (rest := []) ⟨hx, hb, hml, hown, hts⟩ (k_X2_tie l D cI cC cN N q q_ends q_colours H.size f_knots_8 f_threads_22 f_ends_23 f_colours_24 (r_26 ||| r_28) f_threads_30 f_ends_31 f_colours_32 h_33) (cwV 1 hts gX2_growInto_X2_tie rfl rfl rfl (by decide +kernel) ⟨Nat.le_of_ble_eq_true rfl, Nat.le_of_ble_eq_true rfl⟩) ⟨g_blind, va_recv (D := D) (ci := 2) (q0 := 0) hK hP rfl rfl, g_pre (hP.sub [0, 1, 2] rfl) hK hN (hD.sub [0, 1, 2] (by decide) rfl)⟩ rfl rfl hl.1 rfl (lv_room (Nat.le_of_ble_eq_true rfl)) dX2_growInto_90 ⟨Nat.zero_le _, Nat.zero_le _⟩) hP hD hS hA [0, 1, 2] [] rfl rfl (by decide) (by decide) rfl (fun H locs hP hD hS => ?_)
  refine lv_aload_n hx hb dX2_growInto_93 rfl (lv_at hl 5 rfl) ?_
  refine lv_iload_n hx hb dX2_growInto_94 rfl (lv_at hl 4 rfl) ?_
  obtain ⟨r_34, h_35, hm⟩ := bind_use hm
  refine g_ki (wc := []) (wr := [(q, .inr (2, [.int f_knots_8, .int f_threads_30, .ref q_ends, .ref q_colours])), (q_ends, .inl (cI, 21, .inl f_ends_31)), (q_colours, .inl (cI, 21, .inl f_colours_32))]) (w2 := [(q, .inr (2, [.int f_knots_8, .int f_threads_30, .ref q_ends, .ref q_colours])), (q_ends, .inl (cI, 21, .inl f_ends_31)), (q_colours, .inl (cI, 21, .inl f_colours_32))]) (va_runSN (As := [.int f_knots]) (rest := [.ref q]) ⟨hx, hb, hml, hown, hts⟩ (k_X6_bit l D cI cC cN N H.size f_knots r_34 h_35) ⟨va_cnB 1 hts gX2_growInto_X6_bit_n25 rfl rfl rfl (hN (.methodLinkNest RX2 25 yX6_bit RX6) (by decide +kernel)) (hts (.initialized RX6) (by decide +kernel)) (by decide +kernel) ⟨Nat.le_of_ble_eq_true rfl, Nat.le_of_ble_eq_true rfl⟩, hts (.static yX6_bit) (by decide +kernel), trivial⟩ ⟨g_blind, g_pre (hP.sub [] rfl) hK hN (hD.sub [] (by decide) rfl)⟩ rfl rfl hl.1 rfl (lv_room (Nat.le_of_ble_eq_true rfl)) dX2_growInto_95 ⟨Nat.zero_le _, Nat.zero_le _⟩) hP hD hS hA [] [0, 1, 2] rfl rfl (by decide) (by decide) rfl (fun H locs hP hD hS => ?_)
  refine lv_iload_n hx hb dX2_growInto_98 rfl (lv_at hl 3 rfl) ?_
  obtain ⟨r_36, h_37, hm⟩ := bind_use hm
  refine g_ki (wc := []) (wr := [(q, .inr (2, [.int f_knots_8, .int f_threads_30, .ref q_ends, .ref q_colours])), (q_ends, .inl (cI, 21, .inl f_ends_31)), (q_colours, .inl (cI, 21, .inl f_colours_32))]) (w2 := [(q, .inr (2, [.int f_knots_8, .int f_threads_30, .ref q_ends, .ref q_colours])), (q_ends, .inl (cI, 21, .inl f_ends_31)), (q_colours, .inl (cI, 21, .inl f_colours_32))]) (va_runSN (As := [.int v3_1]) (rest := [.int r_34, .ref q]) ⟨hx, hb, hml, hown, hts⟩ (k_X6_bit l D cI cC cN N H.size v3_1 r_36 h_37) ⟨va_cnB 1 hts gX2_growInto_X6_bit_n25 rfl rfl rfl (hN (.methodLinkNest RX2 25 yX6_bit RX6) (by decide +kernel)) (hts (.initialized RX6) (by decide +kernel)) (by decide +kernel) ⟨Nat.le_of_ble_eq_true rfl, Nat.le_of_ble_eq_true rfl⟩, hts (.static yX6_bit) (by decide +kernel), trivial⟩ ⟨g_blind, g_pre (hP.sub [] rfl) hK hN (hD.sub [] (by decide) rfl)⟩ rfl rfl hl.1 rfl (lv_room (Nat.le_of_ble_eq_true rfl)) dX2_growInto_99 ⟨Nat.zero_le _, Nat.zero_le _⟩) hP hD hS hA [] [0, 1, 2] rfl rfl (by decide) (by decide) rfl (fun H locs hP hD hS => ?_)
  refine lv_ior hx hb dX2_growInto_102 ?_
  obtain ⟨⟨f_threads_38, f_ends_39, f_colours_40⟩, h_41, hm⟩ := bind_use hm
  refine g_kv (wc := [(q, .inr (2, [.int f_knots_8, .int f_threads_30, .ref q_ends, .ref q_colours])), (q_ends, .inl (cI, 21, .inl f_ends_31)), (q_colours, .inl (cI, 21, .inl f_colours_32))]) (wr := []) (w2 := [(q, .inr (2, [.int f_knots_8, .int f_threads_38, .ref q_ends, .ref q_colours])), (q_ends, .inl (cI, 21, .inl f_ends_39)), (q_colours, .inl (cI, 21, .inl f_colours_40))]) (va_runV (As := [.int (r_34 ||| r_36)]) (rest := []) ⟨hx, hb, hml, hown, hts⟩ (k_X2_tie l D cI cC cN N q q_ends q_colours H.size f_knots_8 f_threads_30 f_ends_31 f_colours_32 (r_34 ||| r_36) f_threads_38 f_ends_39 f_colours_40 h_41) (cwV 1 hts gX2_growInto_X2_tie rfl rfl rfl (by decide +kernel) ⟨Nat.le_of_ble_eq_true rfl, Nat.le_of_ble_eq_true rfl⟩) ⟨g_blind, va_recv (D := D) (ci := 2) (q0 := 0) hK hP rfl rfl, g_pre (hP.sub [0, 1, 2] rfl) hK hN (hD.sub [0, 1, 2] (by decide) rfl)⟩ rfl rfl hl.1 rfl (lv_room (Nat.le_of_ble_eq_true rfl)) dX2_growInto_103 ⟨Nat.zero_le _, Nat.zero_le _⟩) hP hD hS hA [0, 1, 2] [] rfl rfl (by decide) (by decide) rfl (fun H locs hP hD hS => ?_)
  have z1 := so_use hm
  obtain ⟨y1, z2⟩ := pr_use z1
  obtain ⟨y2, z3⟩ := pr_use z2
  obtain ⟨y3, z4⟩ := pr_use z3
  subst y1
  subst y2
  subst y3
  subst z4
  exact hret _ _ _ _ dX2_growInto_106 hP hD hS
abbrev rX2_bridgeOver : Room := { frames := 3, cells := 0, slots := 0, locals := 65 }
set_option maxHeartbeats 4000000 in
set_option maxRecDepth 100000 in
theorem k_X2_bridgeOver (l : Launch) (D : va_G) (cI cC cN : ClassId) (N : Nat) (q : Nat) (q_ends : Nat) (q_colours : Nat) (sz : Nat) (f_knots : Int32) (f_threads : Int32) (f_ends : Nat → Int32) (f_colours : Nat → Int32) (a1 : Int32) (a2 : Int32) (f_knots' : Int32) (f_threads' : Int32) (f_ends' : Nat → Int32) (f_colours' : Nat → Int32) (hm : m_X2_bridgeOver N f_knots f_threads f_ends f_colours a1 a2 = some (f_knots', f_threads', f_ends', f_colours')) : Met l yX2_bridgeOver wsX2_bridgeOver (rX2_bridgeOver) (gPc D (tysG cI cC cN) [.ref q, .int a1, .int a2] [(q, .inr (2, [.int f_knots, .int f_threads, .ref q_ends, .ref q_colours])), (q_ends, .inl (cI, 21, .inl f_ends)), (q_colours, .inl (cI, 21, .inl f_colours))] sz) (gQv D (tysG cI cC cN) (va_A [(q, .inr (2, [.int f_knots, .int f_threads, .ref q_ends, .ref q_colours])), (q_ends, .inl (cI, 21, .inl f_ends)), (q_colours, .inl (cI, 21, .inl f_colours))] sz) [(q, .inr (2, [.int f_knots', .int f_threads', .ref q_ends, .ref q_colours])), (q_ends, .inl (cI, 21, .inl f_ends')), (q_colours, .inl (cI, 21, .inl f_colours'))]) 0 0 (va_A [(q, .inr (2, [.int f_knots, .int f_threads, .ref q_ends, .ref q_colours])), (q_ends, .inl (cI, 21, .inl f_ends)), (q_colours, .inl (cI, 21, .inl f_colours))] sz) := by
  unfold m_X2_bridgeOver at hm
  refine g_openV (cc := cX2_bridgeOver) (maxL := 7) (own := RX2) (by decide) rfl rfl (Nat.le_of_ble_eq_true rfl) ?_
  intro p e s m args below meth c A Q hx hb hml hown hts hP hK hN hD hA hret ls hl
  have hS : va_S A s.heap s.heap [] := va_S.rf
  have hl : lv_has ls 7 [(0, .ref q), (1, .int a1), (2, .int a2)] := hl
  refine lv_aload_n hx hb dX2_bridgeOver_0 rfl (lv_at hl 0 rfl) ?_
  refine va_get (D := D) (ci := 2) (v := .int f_knots) (C := RX2) (T := TX2) (N := 4) hx hb hts (by decide +kernel) hown hK hP 0 rfl rfl 0 (by decide) (hts (.fieldLink RX2 9 "KnotStripes$Net" "knots" "I") (by decide +kernel)) (fun _ h9 => h9) rfl dX2_bridgeOver_1 ?_
  refine lv_istore_n (lv' := [(3, .int f_knots), (0, .ref q), (1, .int a1), (2, .int a2)]) hx hb dX2_bridgeOver_4 rfl hl (by decide) rfl (fun ls hl => ?_)
  refine lv_aload_n hx hb dX2_bridgeOver_5 rfl (lv_at hl 1 rfl) ?_
  refine va_get (D := D) (ci := 2) (v := .int f_knots) (C := RX2) (T := TX2) (N := 4) hx hb hts (by decide +kernel) hown hK hP 0 rfl rfl 0 (by decide) (hts (.fieldLink RX2 9 "KnotStripes$Net" "knots" "I") (by decide +kernel)) (fun _ h9 => h9) rfl dX2_bridgeOver_6 ?_
  refine lv_iconst (v := 1) hx hb dX2_bridgeOver_9 (by decide) ?_
  refine lv_iadd hx hb dX2_bridgeOver_10 ?_
  refine lv_topi (fun v4_1 ev4_1 => ?_)
  have hm := nm_use ev4_1 hm
  refine lv_istore (lv' := [(4, .int v4_1), (3, .int f_knots), (0, .ref q), (1, .int a1), (2, .int a2)]) hx hb dX2_bridgeOver_11 hl (by decide) rfl (fun ls hl => ?_)
  refine lv_aload_n hx hb dX2_bridgeOver_13 rfl (lv_at hl 2 rfl) ?_
  refine lv_iload_n hx hb dX2_bridgeOver_14 rfl (lv_at hl 3 rfl) ?_
  obtain ⟨r_2, h_3, hm⟩ := bind_use hm
  refine g_ki (wc := [(q, .inr (2, [.int f_knots, .int f_threads, .ref q_ends, .ref q_colours])), (q_ends, .inl (cI, 21, .inl f_ends)), (q_colours, .inl (cI, 21, .inl f_colours))]) (wr := []) (w2 := [(q, .inr (2, [.int f_knots, .int f_threads, .ref q_ends, .ref q_colours])), (q_ends, .inl (cI, 21, .inl f_ends)), (q_colours, .inl (cI, 21, .inl f_colours))]) (va_runV (As := [.int a1]) (rest := []) ⟨hx, hb, hml, hown, hts⟩ (k_X2_greaterKnot l D cI cC cN N q q_ends q_colours s.heap.size f_knots f_threads f_ends f_colours a1 r_2 h_3) (cwV 1 hts gX2_bridgeOver_X2_greaterKnot rfl rfl rfl (by decide +kernel) ⟨Nat.le_of_ble_eq_true rfl, Nat.le_of_ble_eq_true rfl⟩) ⟨g_blind, va_recv (D := D) (ci := 2) (q0 := 0) hK hP rfl rfl, g_pre (hP.sub [0, 1, 2] rfl) hK hN (hD.sub [0, 1, 2] (by decide) rfl)⟩ rfl rfl hl.1 rfl (lv_room (Nat.le_of_ble_eq_true rfl)) dX2_bridgeOver_15 ⟨Nat.zero_le _, Nat.zero_le _⟩) hP hD hS hA [0, 1, 2] [] rfl rfl (by decide) (by decide) rfl (fun H locs hP hD hS => ?_)
  refine lv_istore (lv' := [(5, .int r_2), (4, .int v4_1), (3, .int f_knots), (0, .ref q), (1, .int a1), (2, .int a2)]) hx hb dX2_bridgeOver_18 hl (by decide) rfl (fun ls hl => ?_)
  refine lv_aload_n hx hb dX2_bridgeOver_20 rfl (lv_at hl 3 rfl) ?_
  refine lv_iload_n hx hb dX2_bridgeOver_21 rfl (lv_at hl 5 rfl) ?_
  obtain ⟨r_4, h_5, hm⟩ := bind_use hm
  refine g_ki (wc := [(q, .inr (2, [.int f_knots, .int f_threads, .ref q_ends, .ref q_colours])), (q_ends, .inl (cI, 21, .inl f_ends)), (q_colours, .inl (cI, 21, .inl f_colours))]) (wr := []) (w2 := [(q, .inr (2, [.int f_knots, .int f_threads, .ref q_ends, .ref q_colours])), (q_ends, .inl (cI, 21, .inl f_ends)), (q_colours, .inl (cI, 21, .inl f_colours))]) (va_runV (As := [.int a2]) (rest := []) ⟨hx, hb, hml, hown, hts⟩ (k_X2_greaterKnot l D cI cC cN N q q_ends q_colours H.size f_knots f_threads f_ends f_colours a2 r_4 h_5) (cwV 1 hts gX2_bridgeOver_X2_greaterKnot rfl rfl rfl (by decide +kernel) ⟨Nat.le_of_ble_eq_true rfl, Nat.le_of_ble_eq_true rfl⟩) ⟨g_blind, va_recv (D := D) (ci := 2) (q0 := 0) hK hP rfl rfl, g_pre (hP.sub [0, 1, 2] rfl) hK hN (hD.sub [0, 1, 2] (by decide) rfl)⟩ rfl rfl hl.1 rfl (lv_room (Nat.le_of_ble_eq_true rfl)) dX2_bridgeOver_22 ⟨Nat.zero_le _, Nat.zero_le _⟩) hP hD hS hA [0, 1, 2] [] rfl rfl (by decide) (by decide) rfl (fun H locs hP hD hS => ?_)
  refine lv_istore (lv' := [(6, .int r_4), (5, .int r_2), (4, .int v4_1), (3, .int f_knots), (0, .ref q), (1, .int a1), (2, .int a2)]) hx hb dX2_bridgeOver_25 hl (by decide) rfl (fun ls hl => ?_)
  refine lv_aload_n hx hb dX2_bridgeOver_27 rfl (lv_at hl 4 rfl) ?_
  refine lv_iconst (v := 2) hx hb dX2_bridgeOver_28 (by decide) ?_
  obtain ⟨f_knots_6, h_7, hm⟩ := bind_use hm
  refine g_kv (wc := [(q, .inr (2, [.int f_knots, .int f_threads, .ref q_ends, .ref q_colours])), (q_ends, .inl (cI, 21, .inl f_ends)), (q_colours, .inl (cI, 21, .inl f_colours))]) (wr := []) (w2 := [(q, .inr (2, [.int f_knots_6, .int f_threads, .ref q_ends, .ref q_colours])), (q_ends, .inl (cI, 21, .inl f_ends)), (q_colours, .inl (cI, 21, .inl f_colours))]) (va_runV (As := [.int 2]) (rest := []) ⟨hx, hb, hml, hown, hts⟩ (k_X2_addKnots l D cI cC cN N q q_ends q_colours H.size f_knots f_threads f_ends f_colours 2 f_knots_6 h_7) (cwV 1 hts gX2_bridgeOver_X2_addKnots rfl rfl rfl (by decide +kernel) ⟨Nat.le_of_ble_eq_true rfl, Nat.le_of_ble_eq_true rfl⟩) ⟨g_blind, va_recv (D := D) (ci := 2) (q0 := 0) hK hP rfl rfl, g_pre (hP.sub [0, 1, 2] rfl) hK hN (hD.sub [0, 1, 2] (by decide) rfl)⟩ rfl rfl hl.1 rfl (lv_room (Nat.le_of_ble_eq_true rfl)) dX2_bridgeOver_29 ⟨Nat.zero_le _, Nat.zero_le _⟩) hP hD hS hA [0, 1, 2] [] rfl rfl (by decide) (by decide) rfl (fun H locs hP hD hS => ?_)
  refine lv_aload_n hx hb dX2_bridgeOver_32 rfl (lv_at hl 4 rfl) ?_
  refine lv_iload_n hx hb dX2_bridgeOver_33 rfl (lv_at hl 5 rfl) ?_
  refine lv_iload hx hb dX2_bridgeOver_34 (lv_at hl 1 rfl) ?_
  refine lv_iload_n hx hb dX2_bridgeOver_36 rfl (lv_at hl 3 rfl) ?_
  obtain ⟨f_ends_8, h_9, hm⟩ := bind_use hm
  refine g_kv (wc := [(q, .inr (2, [.int f_knots_6, .int f_threads, .ref q_ends, .ref q_colours])), (q_ends, .inl (cI, 21, .inl f_ends)), (q_colours, .inl (cI, 21, .inl f_colours))]) (wr := []) (w2 := [(q, .inr (2, [.int f_knots_6, .int f_threads, .ref q_ends, .ref q_colours])), (q_ends, .inl (cI, 21, .inl f_ends_8)), (q_colours, .inl (cI, 21, .inl f_colours))]) (va_runV (As := [.int a1, .int r_2, .int f_knots]) (rest := []) ⟨hx, hb, hml, hown, hts⟩ (k_X2_moveEnd l D cI cC cN N q q_ends q_colours H.size f_knots_6 f_threads f_ends f_colours a1 r_2 f_knots f_ends_8 h_9) (cwV 3 hts gX2_bridgeOver_X2_moveEnd rfl rfl rfl (by decide +kernel) ⟨Nat.le_of_ble_eq_true rfl, Nat.le_of_ble_eq_true rfl⟩) ⟨g_blind, va_recv (D := D) (ci := 2) (q0 := 0) hK hP rfl rfl, g_pre (hP.sub [0, 1, 2] rfl) hK hN (hD.sub [0, 1, 2] (by decide) rfl)⟩ rfl rfl hl.1 rfl (lv_room (Nat.le_of_ble_eq_true rfl)) dX2_bridgeOver_37 ⟨Nat.zero_le _, Nat.zero_le _⟩) hP hD hS hA [0, 1, 2] [] rfl rfl (by decide) (by decide) rfl (fun H locs hP hD hS => ?_)
  refine lv_aload_n hx hb dX2_bridgeOver_40 rfl (lv_at hl 4 rfl) ?_
  refine lv_iload_n hx hb dX2_bridgeOver_41 rfl (lv_at hl 6 rfl) ?_
  refine lv_iload hx hb dX2_bridgeOver_42 (lv_at hl 0 rfl) ?_
  refine lv_iload hx hb dX2_bridgeOver_44 (lv_at hl 2 rfl) ?_
  obtain ⟨f_ends_10, h_11, hm⟩ := bind_use hm
  refine g_kv (wc := [(q, .inr (2, [.int f_knots_6, .int f_threads, .ref q_ends, .ref q_colours])), (q_ends, .inl (cI, 21, .inl f_ends_8)), (q_colours, .inl (cI, 21, .inl f_colours))]) (wr := []) (w2 := [(q, .inr (2, [.int f_knots_6, .int f_threads, .ref q_ends, .ref q_colours])), (q_ends, .inl (cI, 21, .inl f_ends_10)), (q_colours, .inl (cI, 21, .inl f_colours))]) (va_runV (As := [.int a2, .int r_4, .int v4_1]) (rest := []) ⟨hx, hb, hml, hown, hts⟩ (k_X2_moveEnd l D cI cC cN N q q_ends q_colours H.size f_knots_6 f_threads f_ends_8 f_colours a2 r_4 v4_1 f_ends_10 h_11) (cwV 3 hts gX2_bridgeOver_X2_moveEnd rfl rfl rfl (by decide +kernel) ⟨Nat.le_of_ble_eq_true rfl, Nat.le_of_ble_eq_true rfl⟩) ⟨g_blind, va_recv (D := D) (ci := 2) (q0 := 0) hK hP rfl rfl, g_pre (hP.sub [0, 1, 2] rfl) hK hN (hD.sub [0, 1, 2] (by decide) rfl)⟩ rfl rfl hl.1 rfl (lv_room (Nat.le_of_ble_eq_true rfl)) dX2_bridgeOver_46 ⟨Nat.zero_le _, Nat.zero_le _⟩) hP hD hS hA [0, 1, 2] [] rfl rfl (by decide) (by decide) rfl (fun H locs hP hD hS => ?_)
  refine lv_aload_n hx hb dX2_bridgeOver_49 rfl (lv_at hl 4 rfl) ?_
  refine lv_iload_n hx hb dX2_bridgeOver_50 rfl (lv_at hl 3 rfl) ?_
  obtain ⟨r_12, h_13, hm⟩ := bind_use hm
  refine g_ki (wc := []) (wr := [(q, .inr (2, [.int f_knots_6, .int f_threads, .ref q_ends, .ref q_colours])), (q_ends, .inl (cI, 21, .inl f_ends_10)), (q_colours, .inl (cI, 21, .inl f_colours))]) (w2 := [(q, .inr (2, [.int f_knots_6, .int f_threads, .ref q_ends, .ref q_colours])), (q_ends, .inl (cI, 21, .inl f_ends_10)), (q_colours, .inl (cI, 21, .inl f_colours))]) (va_runSN (As := [.int f_knots]) (rest := [.ref q]) ⟨hx, hb, hml, hown, hts⟩ (k_X6_bit l D cI cC cN N H.size f_knots r_12 h_13) ⟨va_cnB 1 hts gX2_bridgeOver_X6_bit_n25 rfl rfl rfl (hN (.methodLinkNest RX2 25 yX6_bit RX6) (by decide +kernel)) (hts (.initialized RX6) (by decide +kernel)) (by decide +kernel) ⟨Nat.le_of_ble_eq_true rfl, Nat.le_of_ble_eq_true rfl⟩, hts (.static yX6_bit) (by decide +kernel), trivial⟩ ⟨g_blind, g_pre (hP.sub [] rfl) hK hN (hD.sub [] (by decide) rfl)⟩ rfl rfl hl.1 rfl (lv_room (Nat.le_of_ble_eq_true rfl)) dX2_bridgeOver_51 ⟨Nat.zero_le _, Nat.zero_le _⟩) hP hD hS hA [] [0, 1, 2] rfl rfl (by decide) (by decide) rfl (fun H locs hP hD hS => ?_)
  refine lv_iload hx hb dX2_bridgeOver_54 (lv_at hl 1 rfl) ?_
  obtain ⟨r_14, h_15, hm⟩ := bind_use hm
  refine g_ki (wc := []) (wr := [(q, .inr (2, [.int f_knots_6, .int f_threads, .ref q_ends, .ref q_colours])), (q_ends, .inl (cI, 21, .inl f_ends_10)), (q_colours, .inl (cI, 21, .inl f_colours))]) (w2 := [(q, .inr (2, [.int f_knots_6, .int f_threads, .ref q_ends, .ref q_colours])), (q_ends, .inl (cI, 21, .inl f_ends_10)), (q_colours, .inl (cI, 21, .inl f_colours))]) (va_runSN (As := [.int r_2]) (rest := [.int r_12, .ref q]) ⟨hx, hb, hml, hown, hts⟩ (k_X6_bit l D cI cC cN N H.size r_2 r_14 h_15) ⟨va_cnB 1 hts gX2_bridgeOver_X6_bit_n25 rfl rfl rfl (hN (.methodLinkNest RX2 25 yX6_bit RX6) (by decide +kernel)) (hts (.initialized RX6) (by decide +kernel)) (by decide +kernel) ⟨Nat.le_of_ble_eq_true rfl, Nat.le_of_ble_eq_true rfl⟩, hts (.static yX6_bit) (by decide +kernel), trivial⟩ ⟨g_blind, g_pre (hP.sub [] rfl) hK hN (hD.sub [] (by decide) rfl)⟩ rfl rfl hl.1 rfl (lv_room (Nat.le_of_ble_eq_true rfl)) dX2_bridgeOver_56 ⟨Nat.zero_le _, Nat.zero_le _⟩) hP hD hS hA [] [0, 1, 2] rfl rfl (by decide) (by decide) rfl (fun H locs hP hD hS => ?_)
  refine lv_ior hx hb dX2_bridgeOver_59 ?_
  obtain ⟨⟨f_threads_16, f_ends_17, f_colours_18⟩, h_19, hm⟩ := bind_use hm
  refine g_kv (wc := [(q, .inr (2, [.int f_knots_6, .int f_threads, .ref q_ends, .ref q_colours])), (q_ends, .inl (cI, 21, .inl f_ends_10)), (q_colours, .inl (cI, 21, .inl f_colours))]) (wr := []) (w2 := [(q, .inr (2, [.int f_knots_6, .int f_threads_16, .ref q_ends, .ref q_colours])), (q_ends, .inl (cI, 21, .inl f_ends_17)), (q_colours, .inl (cI, 21, .inl f_colours_18))]) (va_runV (As := [.int (r_12 ||| r_14)]) (rest := []) ⟨hx, hb, hml, hown, hts⟩ (k_X2_tie l D cI cC cN N q q_ends q_colours H.size f_knots_6 f_threads f_ends_10 f_colours (r_12 ||| r_14) f_threads_16 f_ends_17 f_colours_18 h_19) (cwV 1 hts gX2_bridgeOver_X2_tie rfl rfl rfl (by decide +kernel) ⟨Nat.le_of_ble_eq_true rfl, Nat.le_of_ble_eq_true rfl⟩) ⟨g_blind, va_recv (D := D) (ci := 2) (q0 := 0) hK hP rfl rfl, g_pre (hP.sub [0, 1, 2] rfl) hK hN (hD.sub [0, 1, 2] (by decide) rfl)⟩ rfl rfl hl.1 rfl (lv_room (Nat.le_of_ble_eq_true rfl)) dX2_bridgeOver_60 ⟨Nat.zero_le _, Nat.zero_le _⟩) hP hD hS hA [0, 1, 2] [] rfl rfl (by decide) (by decide) rfl (fun H locs hP hD hS => ?_)
  refine lv_aload_n hx hb dX2_bridgeOver_63 rfl (lv_at hl 4 rfl) ?_
  refine lv_iload hx hb dX2_bridgeOver_64 (lv_at hl 2 rfl) ?_
  obtain ⟨r_20, h_21, hm⟩ := bind_use hm
  refine g_ki (wc := []) (wr := [(q, .inr (2, [.int f_knots_6, .int f_threads_16, .ref q_ends, .ref q_colours])), (q_ends, .inl (cI, 21, .inl f_ends_17)), (q_colours, .inl (cI, 21, .inl f_colours_18))]) (w2 := [(q, .inr (2, [.int f_knots_6, .int f_threads_16, .ref q_ends, .ref q_colours])), (q_ends, .inl (cI, 21, .inl f_ends_17)), (q_colours, .inl (cI, 21, .inl f_colours_18))]) (va_runSN (As := [.int v4_1]) (rest := [.ref q]) ⟨hx, hb, hml, hown, hts⟩ (k_X6_bit l D cI cC cN N H.size v4_1 r_20 h_21) ⟨va_cnB 1 hts gX2_bridgeOver_X6_bit_n25 rfl rfl rfl (hN (.methodLinkNest RX2 25 yX6_bit RX6) (by decide +kernel)) (hts (.initialized RX6) (by decide +kernel)) (by decide +kernel) ⟨Nat.le_of_ble_eq_true rfl, Nat.le_of_ble_eq_true rfl⟩, hts (.static yX6_bit) (by decide +kernel), trivial⟩ ⟨g_blind, g_pre (hP.sub [] rfl) hK hN (hD.sub [] (by decide) rfl)⟩ rfl rfl hl.1 rfl (lv_room (Nat.le_of_ble_eq_true rfl)) dX2_bridgeOver_66 ⟨Nat.zero_le _, Nat.zero_le _⟩) hP hD hS hA [] [0, 1, 2] rfl rfl (by decide) (by decide) rfl (fun H locs hP hD hS => ?_)
  refine lv_iload hx hb dX2_bridgeOver_69 (lv_at hl 0 rfl) ?_
  obtain ⟨r_22, h_23, hm⟩ := bind_use hm
  refine g_ki (wc := []) (wr := [(q, .inr (2, [.int f_knots_6, .int f_threads_16, .ref q_ends, .ref q_colours])), (q_ends, .inl (cI, 21, .inl f_ends_17)), (q_colours, .inl (cI, 21, .inl f_colours_18))]) (w2 := [(q, .inr (2, [.int f_knots_6, .int f_threads_16, .ref q_ends, .ref q_colours])), (q_ends, .inl (cI, 21, .inl f_ends_17)), (q_colours, .inl (cI, 21, .inl f_colours_18))]) (va_runSN (As := [.int r_4]) (rest := [.int r_20, .ref q]) ⟨hx, hb, hml, hown, hts⟩ (k_X6_bit l D cI cC cN N H.size r_4 r_22 h_23) ⟨va_cnB 1 hts gX2_bridgeOver_X6_bit_n25 rfl rfl rfl (hN (.methodLinkNest RX2 25 yX6_bit RX6) (by decide +kernel)) (hts (.initialized RX6) (by decide +kernel)) (by decide +kernel) ⟨Nat.le_of_ble_eq_true rfl, Nat.le_of_ble_eq_true rfl⟩, hts (.static yX6_bit) (by decide +kernel), trivial⟩ ⟨g_blind, g_pre (hP.sub [] rfl) hK hN (hD.sub [] (by decide) rfl)⟩ rfl rfl hl.1 rfl (lv_room (Nat.le_of_ble_eq_true rfl)) dX2_bridgeOver_71 ⟨Nat.zero_le _, Nat.zero_le _⟩) hP hD hS hA [] [0, 1, 2] rfl rfl (by decide) (by decide) rfl (fun H locs hP hD hS => ?_)
  refine lv_ior hx hb dX2_bridgeOver_74 ?_
  obtain ⟨⟨f_threads_24, f_ends_25, f_colours_26⟩, h_27, hm⟩ := bind_use hm
  refine g_kv (wc := [(q, .inr (2, [.int f_knots_6, .int f_threads_16, .ref q_ends, .ref q_colours])), (q_ends, .inl (cI, 21, .inl f_ends_17)), (q_colours, .inl (cI, 21, .inl f_colours_18))]) (wr := []) (w2 := [(q, .inr (2, [.int f_knots_6, .int f_threads_24, .ref q_ends, .ref q_colours])), (q_ends, .inl (cI, 21, .inl f_ends_25)), (q_colours, .inl (cI, 21, .inl f_colours_26))]) (va_runV (As := [.int (r_20 ||| r_22)]) (rest := []) ⟨hx, hb, hml, hown, hts⟩ (k_X2_tie l D cI cC cN N q q_ends q_colours H.size f_knots_6 f_threads_16 f_ends_17 f_colours_18 (r_20 ||| r_22) f_threads_24 f_ends_25 f_colours_26 h_27) (cwV 1 hts gX2_bridgeOver_X2_tie rfl rfl rfl (by decide +kernel) ⟨Nat.le_of_ble_eq_true rfl, Nat.le_of_ble_eq_true rfl⟩) ⟨g_blind, va_recv (D := D) (ci := 2) (q0 := 0) hK hP rfl rfl, g_pre (hP.sub [0, 1, 2] rfl) hK hN (hD.sub [0, 1, 2] (by decide) rfl)⟩ rfl rfl hl.1 rfl (lv_room (Nat.le_of_ble_eq_true rfl)) dX2_bridgeOver_75 ⟨Nat.zero_le _, Nat.zero_le _⟩) hP hD hS hA [0, 1, 2] [] rfl rfl (by decide) (by decide) rfl (fun H locs hP hD hS => ?_)
  refine lv_aload_n hx hb dX2_bridgeOver_78 rfl (lv_at hl 4 rfl) ?_
  refine lv_iload_n hx hb dX2_bridgeOver_79 rfl (lv_at hl 3 rfl) ?_
  obtain ⟨r_28, h_29, hm⟩ := bind_use hm
  refine g_ki (wc := []) (wr := [(q, .inr (2, [.int f_knots_6, .int f_threads_24, .ref q_ends, .ref q_colours])), (q_ends, .inl (cI, 21, .inl f_ends_25)), (q_colours, .inl (cI, 21, .inl f_colours_26))]) (w2 := [(q, .inr (2, [.int f_knots_6, .int f_threads_24, .ref q_ends, .ref q_colours])), (q_ends, .inl (cI, 21, .inl f_ends_25)), (q_colours, .inl (cI, 21, .inl f_colours_26))]) (va_runSN (As := [.int f_knots]) (rest := [.ref q]) ⟨hx, hb, hml, hown, hts⟩ (k_X6_bit l D cI cC cN N H.size f_knots r_28 h_29) ⟨va_cnB 1 hts gX2_bridgeOver_X6_bit_n25 rfl rfl rfl (hN (.methodLinkNest RX2 25 yX6_bit RX6) (by decide +kernel)) (hts (.initialized RX6) (by decide +kernel)) (by decide +kernel) ⟨Nat.le_of_ble_eq_true rfl, Nat.le_of_ble_eq_true rfl⟩, hts (.static yX6_bit) (by decide +kernel), trivial⟩ ⟨g_blind, g_pre (hP.sub [] rfl) hK hN (hD.sub [] (by decide) rfl)⟩ rfl rfl hl.1 rfl (lv_room (Nat.le_of_ble_eq_true rfl)) dX2_bridgeOver_80 ⟨Nat.zero_le _, Nat.zero_le _⟩) hP hD hS hA [] [0, 1, 2] rfl rfl (by decide) (by decide) rfl (fun H locs hP hD hS => ?_)
  refine lv_iload hx hb dX2_bridgeOver_83 (lv_at hl 2 rfl) ?_
  obtain ⟨r_30, h_31, hm⟩ := bind_use hm
  refine g_ki (wc := []) (wr := [(q, .inr (2, [.int f_knots_6, .int f_threads_24, .ref q_ends, .ref q_colours])), (q_ends, .inl (cI, 21, .inl f_ends_25)), (q_colours, .inl (cI, 21, .inl f_colours_26))]) (w2 := [(q, .inr (2, [.int f_knots_6, .int f_threads_24, .ref q_ends, .ref q_colours])), (q_ends, .inl (cI, 21, .inl f_ends_25)), (q_colours, .inl (cI, 21, .inl f_colours_26))]) (va_runSN (As := [.int v4_1]) (rest := [.int r_28, .ref q]) ⟨hx, hb, hml, hown, hts⟩ (k_X6_bit l D cI cC cN N H.size v4_1 r_30 h_31) ⟨va_cnB 1 hts gX2_bridgeOver_X6_bit_n25 rfl rfl rfl (hN (.methodLinkNest RX2 25 yX6_bit RX6) (by decide +kernel)) (hts (.initialized RX6) (by decide +kernel)) (by decide +kernel) ⟨Nat.le_of_ble_eq_true rfl, Nat.le_of_ble_eq_true rfl⟩, hts (.static yX6_bit) (by decide +kernel), trivial⟩ ⟨g_blind, g_pre (hP.sub [] rfl) hK hN (hD.sub [] (by decide) rfl)⟩ rfl rfl hl.1 rfl (lv_room (Nat.le_of_ble_eq_true rfl)) dX2_bridgeOver_85 ⟨Nat.zero_le _, Nat.zero_le _⟩) hP hD hS hA [] [0, 1, 2] rfl rfl (by decide) (by decide) rfl (fun H locs hP hD hS => ?_)
  refine lv_ior hx hb dX2_bridgeOver_88 ?_
  obtain ⟨⟨f_threads_32, f_ends_33, f_colours_34⟩, h_35, hm⟩ := bind_use hm
  refine g_kv (wc := [(q, .inr (2, [.int f_knots_6, .int f_threads_24, .ref q_ends, .ref q_colours])), (q_ends, .inl (cI, 21, .inl f_ends_25)), (q_colours, .inl (cI, 21, .inl f_colours_26))]) (wr := []) (w2 := [(q, .inr (2, [.int f_knots_6, .int f_threads_32, .ref q_ends, .ref q_colours])), (q_ends, .inl (cI, 21, .inl f_ends_33)), (q_colours, .inl (cI, 21, .inl f_colours_34))]) (va_runV (As := [.int (r_28 ||| r_30)]) (rest := []) ⟨hx, hb, hml, hown, hts⟩ (k_X2_tie l D cI cC cN N q q_ends q_colours H.size f_knots_6 f_threads_24 f_ends_25 f_colours_26 (r_28 ||| r_30) f_threads_32 f_ends_33 f_colours_34 h_35) (cwV 1 hts gX2_bridgeOver_X2_tie rfl rfl rfl (by decide +kernel) ⟨Nat.le_of_ble_eq_true rfl, Nat.le_of_ble_eq_true rfl⟩) ⟨g_blind, va_recv (D := D) (ci := 2) (q0 := 0) hK hP rfl rfl, g_pre (hP.sub [0, 1, 2] rfl) hK hN (hD.sub [0, 1, 2] (by decide) rfl)⟩ rfl rfl hl.1 rfl (lv_room (Nat.le_of_ble_eq_true rfl)) dX2_bridgeOver_89 ⟨Nat.zero_le _, Nat.zero_le _⟩) hP hD hS hA [0, 1, 2] [] rfl rfl (by decide) (by decide) rfl (fun H locs hP hD hS => ?_)
  have z1 := so_use hm
  obtain ⟨y1, z2⟩ := pr_use z1
  obtain ⟨y2, z3⟩ := pr_use z2
  obtain ⟨y3, z4⟩ := pr_use z3
  subst y1
  subst y2
  subst y3
  subst z4
  exact hret _ _ _ _ dX2_bridgeOver_92 hP hD hS
abbrev rX2_cornersBeside : Room := { frames := 4, cells := 0, slots := 0, locals := 86 }
set_option maxHeartbeats 4000000 in
set_option maxRecDepth 100000 in
theorem k_X2_cornersBeside (l : Launch) (D : va_G) (cI cC cN : ClassId) (N : Nat) (q : Nat) (q_ends : Nat) (q_colours : Nat) (sz : Nat) (f_knots : Int32) (f_threads : Int32) (f_ends : Nat → Int32) (f_colours : Nat → Int32) (a1 : Int32) (r : Int32) (hm : m_X2_cornersBeside N f_knots f_threads f_ends a1 = some r) : Met l yX2_cornersBeside wsX2_cornersBeside (rX2_cornersBeside) (gPc D (tysG cI cC cN) [.ref q, .int a1] [(q, .inr (2, [.int f_knots, .int f_threads, .ref q_ends, .ref q_colours])), (q_ends, .inl (cI, 21, .inl f_ends)), (q_colours, .inl (cI, 21, .inl f_colours))] sz) (gQi D (tysG cI cC cN) (va_A [(q, .inr (2, [.int f_knots, .int f_threads, .ref q_ends, .ref q_colours])), (q_ends, .inl (cI, 21, .inl f_ends)), (q_colours, .inl (cI, 21, .inl f_colours))] sz) [(q, .inr (2, [.int f_knots, .int f_threads, .ref q_ends, .ref q_colours])), (q_ends, .inl (cI, 21, .inl f_ends)), (q_colours, .inl (cI, 21, .inl f_colours))] r) 0 0 (va_A [(q, .inr (2, [.int f_knots, .int f_threads, .ref q_ends, .ref q_colours])), (q_ends, .inl (cI, 21, .inl f_ends)), (q_colours, .inl (cI, 21, .inl f_colours))] sz) := by
  unfold m_X2_cornersBeside at hm
  refine g_openI (cc := cX2_cornersBeside) (maxL := 6) (own := RX2) (by decide) rfl rfl (Nat.le_of_ble_eq_true rfl) ?_
  intro p e s m args below meth c A Q hx hb hml hown hts hP hK hN hD hA hret ls hl
  have hS : va_S A s.heap s.heap [] := va_S.rf
  have hl : lv_has ls 6 [(0, .ref q), (1, .int a1)] := hl
  refine lv_aload_n hx hb dX2_cornersBeside_0 rfl (lv_at hl 0 rfl) ?_
  refine lv_iload_n hx hb dX2_cornersBeside_1 rfl (lv_at hl 1 rfl) ?_
  obtain ⟨r_1, h_2, hm⟩ := bind_use hm
  refine g_ki (wc := [(q, .inr (2, [.int f_knots, .int f_threads, .ref q_ends, .ref q_colours])), (q_ends, .inl (cI, 21, .inl f_ends)), (q_colours, .inl (cI, 21, .inl f_colours))]) (wr := []) (w2 := [(q, .inr (2, [.int f_knots, .int f_threads, .ref q_ends, .ref q_colours])), (q_ends, .inl (cI, 21, .inl f_ends)), (q_colours, .inl (cI, 21, .inl f_colours))]) (va_runV (As := [.int a1]) (rest := []) ⟨hx, hb, hml, hown, hts⟩ (k_X2_isFullKnot l D cI cC cN N q q_ends q_colours s.heap.size f_knots f_threads f_ends f_colours a1 r_1 h_2) (cwV 1 hts gX2_cornersBeside_X2_isFullKnot rfl rfl rfl (by decide +kernel) ⟨Nat.le_of_ble_eq_true rfl, Nat.le_of_ble_eq_true rfl⟩) ⟨g_blind, va_recv (D := D) (ci := 2) (q0 := 0) hK hP rfl rfl, g_pre (hP.sub [0, 1, 2] rfl) hK hN (hD.sub [0, 1, 2] (by decide) rfl)⟩ rfl rfl hl.1 rfl (lv_room (Nat.le_of_ble_eq_true rfl)) dX2_cornersBeside_2 ⟨Nat.zero_le _, Nat.zero_le _⟩) hP hD hS hA [0, 1, 2] [] rfl rfl (by decide) (by decide) rfl (fun H locs hP hD hS => ?_)
  refine lv_if_ne (tgt := 10) hx hb dX2_cornersBeside_5 (by decide) (fun hc => ?_) (fun hc => ?_)
  · have hm := if_f _ hc hm
    refine lv_aload_n hx hb dX2_cornersBeside_10 rfl (lv_at hl 0 rfl) ?_
    refine lv_iload_n hx hb dX2_cornersBeside_11 rfl (lv_at hl 1 rfl) ?_
    obtain ⟨r_3, h_4, hm⟩ := bind_use hm
    refine g_ki (wc := [(q, .inr (2, [.int f_knots, .int f_threads, .ref q_ends, .ref q_colours])), (q_ends, .inl (cI, 21, .inl f_ends)), (q_colours, .inl (cI, 21, .inl f_colours))]) (wr := []) (w2 := [(q, .inr (2, [.int f_knots, .int f_threads, .ref q_ends, .ref q_colours])), (q_ends, .inl (cI, 21, .inl f_ends)), (q_colours, .inl (cI, 21, .inl f_colours))]) (va_runV (As := [.int a1]) (rest := []) ⟨hx, hb, hml, hown, hts⟩ (k_X2_neighbours l D cI cC cN N q q_ends q_colours H.size f_knots f_threads f_ends f_colours a1 r_3 h_4) (cwV 1 hts gX2_cornersBeside_X2_neighbours rfl rfl rfl (by decide +kernel) ⟨Nat.le_of_ble_eq_true rfl, Nat.le_of_ble_eq_true rfl⟩) ⟨g_blind, va_recv (D := D) (ci := 2) (q0 := 0) hK hP rfl rfl, g_pre (hP.sub [0, 1, 2] rfl) hK hN (hD.sub [0, 1, 2] (by decide) rfl)⟩ rfl rfl hl.1 rfl (lv_room (Nat.le_of_ble_eq_true rfl)) dX2_cornersBeside_12 ⟨Nat.zero_le _, Nat.zero_le _⟩) hP hD hS hA [0, 1, 2] [] rfl rfl (by decide) (by decide) rfl (fun H locs hP hD hS => ?_)
    refine lv_istore_n (lv' := [(2, .int r_3), (0, .ref q), (1, .int a1)]) hx hb dX2_cornersBeside_15 rfl hl (by decide) rfl (fun ls hl => ?_)
    refine lv_iconst (v := 0) hx hb dX2_cornersBeside_16 (by decide) ?_
    refine lv_istore_n (lv' := [(3, .int 0), (2, .int r_3), (0, .ref q), (1, .int a1)]) hx hb dX2_cornersBeside_17 rfl hl (by decide) rfl (fun ls hl => ?_)
    have l18 : ∀ (n_18 : Nat) (x3_5 : Int32), ∀ (H : Heap) (locs : List Loc) (ls : Array Slot), va_P D vwCl [(q, .inr (2, [.int f_knots, .int f_threads, .ref q_ends, .ref q_colours])), (q_ends, .inl (cI, 21, .inl f_ends)), (q_colours, .inl (cI, 21, .inl f_colours))] H → va_D A [(q, .inr (2, [.int f_knots, .int f_threads, .ref q_ends, .ref q_colours])), (q_ends, .inl (cI, 21, .inl f_ends)), (q_colours, .inl (cI, 21, .inl f_colours))] → va_S A s.heap H locs → lv_has ls 6 [(3, .int x3_5), (2, .int r_3), (0, .ref q)] → m_X2_cornersBeside_L18 N f_knots f_threads f_ends r_3 n_18 x3_5 = some r → W p l e rX2_cornersBeside s m args below meth c H locs 0 0 Q (F0 m 18 ls []) := by
      intro n_18
      induction n_18 with
      | zero => intro x3_5 H locs ls hP hD hS hl hm; rw [m_X2_cornersBeside_L18] at hm; exact no_use hm
      | succ n_18 ih18 =>
        intro x3_5 H locs ls hP hD hS hl hm
        rw [m_X2_cornersBeside_L18] at hm
        refine lv_iload_n hx hb dX2_cornersBeside_18 rfl (lv_at hl 0 rfl) ?_
        refine lv_aload_n hx hb dX2_cornersBeside_19 rfl (lv_at hl 2 rfl) ?_
        refine va_get (D := D) (ci := 2) (v := .int f_knots) (C := RX2) (T := TX2) (N := 4) hx hb hts (by decide +kernel) hown hK hP 0 rfl rfl 0 (by decide) (hts (.fieldLink RX2 9 "KnotStripes$Net" "knots" "I") (by decide +kernel)) (fun _ h9 => h9) rfl dX2_cornersBeside_20 ?_
        refine lv_icmp_ge (tgt := 102) hx hb dX2_cornersBeside_23 (by decide) (fun hc => ?_) (fun hc => ?_)
        · have hm := if_t _ hc hm
          refine lv_iconst (v := 0) hx hb dX2_cornersBeside_102 (by decide) ?_
          have z1 := so_use hm
          subst z1
          exact hret _ _ _ _ _ dX2_cornersBeside_103 rfl rfl hP hD hS
        · have hm := if_f _ hc hm
          refine lv_iload_n hx hb dX2_cornersBeside_26 rfl (lv_at hl 0 rfl) ?_
          refine lv_iconst (v := 1) hx hb dX2_cornersBeside_27 (by decide) ?_
          refine lv_iadd hx hb dX2_cornersBeside_28 ?_
          refine lv_topi (fun v4_6 ev4_6 => ?_)
          have hm := nm_use ev4_6 hm
          refine lv_istore (lv' := [(4, .int v4_6), (3, .int x3_5), (2, .int r_3), (0, .ref q)]) hx hb dX2_cornersBeside_29 hl (by decide) rfl (fun ls hl => ?_)
          obtain ⟨J96, hJ96, hm⟩ := jn_use hm
          have j96 : ∀ (H : Heap) (locs : List Loc) (ls : Array Slot), va_P D vwCl [(q, .inr (2, [.int f_knots, .int f_threads, .ref q_ends, .ref q_colours])), (q_ends, .inl (cI, 21, .inl f_ends)), (q_colours, .inl (cI, 21, .inl f_colours))] H → va_D A [(q, .inr (2, [.int f_knots, .int f_threads, .ref q_ends, .ref q_colours])), (q_ends, .inl (cI, 21, .inl f_ends)), (q_colours, .inl (cI, 21, .inl f_colours))] → va_S A s.heap H locs → lv_has ls 6 [(3, .int x3_5), (2, .int r_3), (0, .ref q)] → J96 = some r → W p l e rX2_cornersBeside s m args below meth c H locs 0 0 Q (F0 m 96 ls []) := by
            intro H locs ls hP hD hS hl hm
            rw [hJ96] at hm
            refine lv_iinc (v := (x3_5 + 1)) (lv' := [(3, .int (x3_5 + 1)), (2, .int r_3), (0, .ref q)]) hx hb dX2_cornersBeside_96 hl (k := 0) rfl rfl (by decide) rfl (fun ls hl => ?_)
            refine lv_goto (tgt := 18) hx hb dX2_cornersBeside_99 (by decide) ?_
            exact ih18 (x3_5 + 1) _ _ _ hP hD hS hl hm
          have l31 : ∀ (n_31 : Nat) (x4_7 : Int32), ∀ (H : Heap) (locs : List Loc) (ls : Array Slot), va_P D vwCl [(q, .inr (2, [.int f_knots, .int f_threads, .ref q_ends, .ref q_colours])), (q_ends, .inl (cI, 21, .inl f_ends)), (q_colours, .inl (cI, 21, .inl f_colours))] H → va_D A [(q, .inr (2, [.int f_knots, .int f_threads, .ref q_ends, .ref q_colours])), (q_ends, .inl (cI, 21, .inl f_ends)), (q_colours, .inl (cI, 21, .inl f_colours))] → va_S A s.heap H locs → lv_has ls 6 [(4, .int x4_7), (3, .int x3_5), (2, .int r_3), (0, .ref q)] → m_X2_cornersBeside_L31 N f_knots f_threads f_ends r_3 x3_5 J96 n_31 x4_7 = some r → W p l e rX2_cornersBeside s m args below meth c H locs 0 0 Q (F0 m 31 ls []) := by
            intro n_31
            induction n_31 with
            | zero => intro x4_7 H locs ls hP hD hS hl hm; rw [m_X2_cornersBeside_L31] at hm; exact no_use hm
            | succ n_31 ih31 =>
              intro x4_7 H locs ls hP hD hS hl hm
              rw [m_X2_cornersBeside_L31] at hm
              refine lv_iload hx hb dX2_cornersBeside_31 (lv_at hl 0 rfl) ?_
              refine lv_aload_n hx hb dX2_cornersBeside_33 rfl (lv_at hl 3 rfl) ?_
              refine va_get (D := D) (ci := 2) (v := .int f_knots) (C := RX2) (T := TX2) (N := 4) hx hb hts (by decide +kernel) hown hK hP 0 rfl rfl 0 (by decide) (hts (.fieldLink RX2 9 "KnotStripes$Net" "knots" "I") (by decide +kernel)) (fun _ h9 => h9) rfl dX2_cornersBeside_34 ?_
              refine lv_icmp_ge (tgt := 96) hx hb dX2_cornersBeside_37 (by decide) (fun hc => ?_) (fun hc => ?_)
              · have hm := if_t _ hc hm
                exact j96 _ _ _ hP hD hS (lv_sub hl [1, 2, 3] rfl) hm
              · have hm := if_f _ hc hm
                refine lv_iload_n hx hb dX2_cornersBeside_40 rfl (lv_at hl 1 rfl) ?_
                obtain ⟨r_8, h_9, hm⟩ := bind_use hm
                refine g_ki (wc := []) (wr := [(q, .inr (2, [.int f_knots, .int f_threads, .ref q_ends, .ref q_colours])), (q_ends, .inl (cI, 21, .inl f_ends)), (q_colours, .inl (cI, 21, .inl f_colours))]) (w2 := [(q, .inr (2, [.int f_knots, .int f_threads, .ref q_ends, .ref q_colours])), (q_ends, .inl (cI, 21, .inl f_ends)), (q_colours, .inl (cI, 21, .inl f_colours))]) (va_runSN (As := [.int x3_5]) (rest := []) ⟨hx, hb, hml, hown, hts⟩ (k_X6_bit l D cI cC cN N H.size x3_5 r_8 h_9) ⟨va_cnB 1 hts gX2_cornersBeside_X6_bit_n25 rfl rfl rfl (hN (.methodLinkNest RX2 25 yX6_bit RX6) (by decide +kernel)) (hts (.initialized RX6) (by decide +kernel)) (by decide +kernel) ⟨Nat.le_of_ble_eq_true rfl, Nat.le_of_ble_eq_true rfl⟩, hts (.static yX6_bit) (by decide +kernel), trivial⟩ ⟨g_blind, g_pre (hP.sub [] rfl) hK hN (hD.sub [] (by decide) rfl)⟩ rfl rfl hl.1 rfl (lv_room (Nat.le_of_ble_eq_true rfl)) dX2_cornersBeside_41 ⟨Nat.zero_le _, Nat.zero_le _⟩) hP hD hS hA [] [0, 1, 2] rfl rfl (by decide) (by decide) rfl (fun H locs hP hD hS => ?_)
                refine lv_iload hx hb dX2_cornersBeside_44 (lv_at hl 0 rfl) ?_
                obtain ⟨r_10, h_11, hm⟩ := bind_use hm
                refine g_ki (wc := []) (wr := [(q, .inr (2, [.int f_knots, .int f_threads, .ref q_ends, .ref q_colours])), (q_ends, .inl (cI, 21, .inl f_ends)), (q_colours, .inl (cI, 21, .inl f_colours))]) (w2 := [(q, .inr (2, [.int f_knots, .int f_threads, .ref q_ends, .ref q_colours])), (q_ends, .inl (cI, 21, .inl f_ends)), (q_colours, .inl (cI, 21, .inl f_colours))]) (va_runSN (As := [.int x4_7]) (rest := [.int r_8]) ⟨hx, hb, hml, hown, hts⟩ (k_X6_bit l D cI cC cN N H.size x4_7 r_10 h_11) ⟨va_cnB 1 hts gX2_cornersBeside_X6_bit_n25 rfl rfl rfl (hN (.methodLinkNest RX2 25 yX6_bit RX6) (by decide +kernel)) (hts (.initialized RX6) (by decide +kernel)) (by decide +kernel) ⟨Nat.le_of_ble_eq_true rfl, Nat.le_of_ble_eq_true rfl⟩, hts (.static yX6_bit) (by decide +kernel), trivial⟩ ⟨g_blind, g_pre (hP.sub [] rfl) hK hN (hD.sub [] (by decide) rfl)⟩ rfl rfl hl.1 rfl (lv_room (Nat.le_of_ble_eq_true rfl)) dX2_cornersBeside_46 ⟨Nat.zero_le _, Nat.zero_le _⟩) hP hD hS hA [] [0, 1, 2] rfl rfl (by decide) (by decide) rfl (fun H locs hP hD hS => ?_)
                refine lv_ior hx hb dX2_cornersBeside_49 ?_
                refine lv_topi (fun v5_12 ev5_12 => ?_)
                have hm := nm_use ev5_12 hm
                refine lv_istore (lv' := [(5, .int v5_12), (4, .int x4_7), (3, .int x3_5), (2, .int r_3), (0, .ref q)]) hx hb dX2_cornersBeside_50 hl (by decide) rfl (fun ls hl => ?_)
                refine lv_iload_n hx hb dX2_cornersBeside_52 rfl (lv_at hl 3 rfl) ?_
                refine lv_iload hx hb dX2_cornersBeside_53 (lv_at hl 0 rfl) ?_
                refine lv_iand hx hb dX2_cornersBeside_55 ?_
                refine lv_iload hx hb dX2_cornersBeside_56 (lv_at hl 0 rfl) ?_
                refine lv_icmp_ne (tgt := 90) hx hb dX2_cornersBeside_58 (by decide) (fun hc => ?_) (fun hc => ?_)
                · have hm := if_f _ hc hm
                  refine lv_iinc (v := (x4_7 + 1)) (lv' := [(4, .int (x4_7 + 1)), (5, .int v5_12), (3, .int x3_5), (2, .int r_3), (0, .ref q)]) hx hb dX2_cornersBeside_90 hl (k := 1) rfl rfl (by decide) rfl (fun ls hl => ?_)
                  refine lv_goto (tgt := 31) hx hb dX2_cornersBeside_93 (by decide) ?_
                  exact ih31 (x4_7 + 1) _ _ _ hP hD hS (lv_sub hl [0, 2, 3, 4] rfl) hm
                · have hm := if_t _ hc hm
                  refine lv_aload_n hx hb dX2_cornersBeside_61 rfl (lv_at hl 4 rfl) ?_
                  refine lv_iload hx hb dX2_cornersBeside_62 (lv_at hl 0 rfl) ?_
                  obtain ⟨r_13, h_14, hm⟩ := bind_use hm
                  refine g_ki (wc := [(q, .inr (2, [.int f_knots, .int f_threads, .ref q_ends, .ref q_colours])), (q_ends, .inl (cI, 21, .inl f_ends)), (q_colours, .inl (cI, 21, .inl f_colours))]) (wr := []) (w2 := [(q, .inr (2, [.int f_knots, .int f_threads, .ref q_ends, .ref q_colours])), (q_ends, .inl (cI, 21, .inl f_ends)), (q_colours, .inl (cI, 21, .inl f_colours))]) (va_runV (As := [.int v5_12]) (rest := []) ⟨hx, hb, hml, hown, hts⟩ (k_X2_find l D cI cC cN N q q_ends q_colours H.size f_knots f_threads f_ends f_colours v5_12 r_13 h_14) (cwV 1 hts gX2_cornersBeside_X2_find rfl rfl rfl (by decide +kernel) ⟨Nat.le_of_ble_eq_true rfl, Nat.le_of_ble_eq_true rfl⟩) ⟨g_blind, va_recv (D := D) (ci := 2) (q0 := 0) hK hP rfl rfl, g_pre (hP.sub [0, 1, 2] rfl) hK hN (hD.sub [0, 1, 2] (by decide) rfl)⟩ rfl rfl hl.1 rfl (lv_room (Nat.le_of_ble_eq_true rfl)) dX2_cornersBeside_64 ⟨Nat.zero_le _, Nat.zero_le _⟩) hP hD hS hA [0, 1, 2] [] rfl rfl (by decide) (by decide) rfl (fun H locs hP hD hS => ?_)
                  refine lv_if_lt (tgt := 90) hx hb dX2_cornersBeside_67 (by decide) (fun hc => ?_) (fun hc => ?_)
                  · have hm := if_t _ hc hm
                    refine lv_iinc (v := (x4_7 + 1)) (lv' := [(4, .int (x4_7 + 1)), (5, .int v5_12), (3, .int x3_5), (2, .int r_3), (0, .ref q)]) hx hb dX2_cornersBeside_90 hl (k := 1) rfl rfl (by decide) rfl (fun ls hl => ?_)
                    refine lv_goto (tgt := 31) hx hb dX2_cornersBeside_93 (by decide) ?_
                    exact ih31 (x4_7 + 1) _ _ _ hP hD hS (lv_sub hl [0, 2, 3, 4] rfl) hm
                  · have hm := if_f _ hc hm
                    refine lv_aload_n hx hb dX2_cornersBeside_70 rfl (lv_at hl 4 rfl) ?_
                    refine lv_iload_n hx hb dX2_cornersBeside_71 rfl (lv_at hl 2 rfl) ?_
                    obtain ⟨r_15, h_16, hm⟩ := bind_use hm
                    refine g_ki (wc := [(q, .inr (2, [.int f_knots, .int f_threads, .ref q_ends, .ref q_colours])), (q_ends, .inl (cI, 21, .inl f_ends)), (q_colours, .inl (cI, 21, .inl f_colours))]) (wr := []) (w2 := [(q, .inr (2, [.int f_knots, .int f_threads, .ref q_ends, .ref q_colours])), (q_ends, .inl (cI, 21, .inl f_ends)), (q_colours, .inl (cI, 21, .inl f_colours))]) (va_runV (As := [.int x3_5]) (rest := []) ⟨hx, hb, hml, hown, hts⟩ (k_X2_isFullKnot l D cI cC cN N q q_ends q_colours H.size f_knots f_threads f_ends f_colours x3_5 r_15 h_16) (cwV 1 hts gX2_cornersBeside_X2_isFullKnot rfl rfl rfl (by decide +kernel) ⟨Nat.le_of_ble_eq_true rfl, Nat.le_of_ble_eq_true rfl⟩) ⟨g_blind, va_recv (D := D) (ci := 2) (q0 := 0) hK hP rfl rfl, g_pre (hP.sub [0, 1, 2] rfl) hK hN (hD.sub [0, 1, 2] (by decide) rfl)⟩ rfl rfl hl.1 rfl (lv_room (Nat.le_of_ble_eq_true rfl)) dX2_cornersBeside_72 ⟨Nat.zero_le _, Nat.zero_le _⟩) hP hD hS hA [0, 1, 2] [] rfl rfl (by decide) (by decide) rfl (fun H locs hP hD hS => ?_)
                    refine lv_if_eq (tgt := 90) hx hb dX2_cornersBeside_75 (by decide) (fun hc => ?_) (fun hc => ?_)
                    · have hm := if_t _ hc hm
                      refine lv_iinc (v := (x4_7 + 1)) (lv' := [(4, .int (x4_7 + 1)), (5, .int v5_12), (3, .int x3_5), (2, .int r_3), (0, .ref q)]) hx hb dX2_cornersBeside_90 hl (k := 1) rfl rfl (by decide) rfl (fun ls hl => ?_)
                      refine lv_goto (tgt := 31) hx hb dX2_cornersBeside_93 (by decide) ?_
                      exact ih31 (x4_7 + 1) _ _ _ hP hD hS (lv_sub hl [0, 2, 3, 4] rfl) hm
                    · have hm := if_f _ hc hm
                      refine lv_aload_n hx hb dX2_cornersBeside_78 rfl (lv_at hl 4 rfl) ?_
                      refine lv_iload hx hb dX2_cornersBeside_79 (lv_at hl 1 rfl) ?_
                      obtain ⟨r_17, h_18, hm⟩ := bind_use hm
                      refine g_ki (wc := [(q, .inr (2, [.int f_knots, .int f_threads, .ref q_ends, .ref q_colours])), (q_ends, .inl (cI, 21, .inl f_ends)), (q_colours, .inl (cI, 21, .inl f_colours))]) (wr := []) (w2 := [(q, .inr (2, [.int f_knots, .int f_threads, .ref q_ends, .ref q_colours])), (q_ends, .inl (cI, 21, .inl f_ends)), (q_colours, .inl (cI, 21, .inl f_colours))]) (va_runV (As := [.int x4_7]) (rest := []) ⟨hx, hb, hml, hown, hts⟩ (k_X2_isFullKnot l D cI cC cN N q q_ends q_colours H.size f_knots f_threads f_ends f_colours x4_7 r_17 h_18) (cwV 1 hts gX2_cornersBeside_X2_isFullKnot rfl rfl rfl (by decide +kernel) ⟨Nat.le_of_ble_eq_true rfl, Nat.le_of_ble_eq_true rfl⟩) ⟨g_blind, va_recv (D := D) (ci := 2) (q0 := 0) hK hP rfl rfl, g_pre (hP.sub [0, 1, 2] rfl) hK hN (hD.sub [0, 1, 2] (by decide) rfl)⟩ rfl rfl hl.1 rfl (lv_room (Nat.le_of_ble_eq_true rfl)) dX2_cornersBeside_81 ⟨Nat.zero_le _, Nat.zero_le _⟩) hP hD hS hA [0, 1, 2] [] rfl rfl (by decide) (by decide) rfl (fun H locs hP hD hS => ?_)
                      refine lv_if_eq (tgt := 90) hx hb dX2_cornersBeside_84 (by decide) (fun hc => ?_) (fun hc => ?_)
                      · have hm := if_t _ hc hm
                        refine lv_iinc (v := (x4_7 + 1)) (lv' := [(4, .int (x4_7 + 1)), (5, .int v5_12), (3, .int x3_5), (2, .int r_3), (0, .ref q)]) hx hb dX2_cornersBeside_90 hl (k := 1) rfl rfl (by decide) rfl (fun ls hl => ?_)
                        refine lv_goto (tgt := 31) hx hb dX2_cornersBeside_93 (by decide) ?_
                        exact ih31 (x4_7 + 1) _ _ _ hP hD hS (lv_sub hl [0, 2, 3, 4] rfl) hm
                      · have hm := if_f _ hc hm
                        refine lv_iload hx hb dX2_cornersBeside_87 (lv_at hl 0 rfl) ?_
                        have z1 := so_use hm
                        subst z1
                        exact hret _ _ _ _ _ dX2_cornersBeside_89 rfl rfl hP hD hS
          exact l31 N v4_6 _ _ _ hP hD hS hl hm
    exact l18 N 0 _ _ _ hP hD hS (lv_sub hl [0, 1, 2] rfl) hm
  · have hm := if_t _ hc hm
    refine lv_iconst (v := 0) hx hb dX2_cornersBeside_8 (by decide) ?_
    have z1 := so_use hm
    subst z1
    exact hret _ _ _ _ _ dX2_cornersBeside_9 rfl rfl hP hD hS
abbrev rX2_mayMerge : Room := { frames := 2, cells := 0, slots := 0, locals := 42 }
set_option maxHeartbeats 4000000 in
set_option maxRecDepth 100000 in
theorem k_X2_mayMerge (l : Launch) (D : va_G) (cI cC cN : ClassId) (N : Nat) (q : Nat) (q_ends : Nat) (q_colours : Nat) (sz : Nat) (f_knots : Int32) (f_threads : Int32) (f_ends : Nat → Int32) (f_colours : Nat → Int32) (a1 : Int32) (r : Int32) (hm : m_X2_mayMerge N f_threads f_ends a1 = some r) : Met l yX2_mayMerge wsX2_mayMerge (rX2_mayMerge) (gPc D (tysG cI cC cN) [.ref q, .int a1] [(q, .inr (2, [.int f_knots, .int f_threads, .ref q_ends, .ref q_colours])), (q_ends, .inl (cI, 21, .inl f_ends)), (q_colours, .inl (cI, 21, .inl f_colours))] sz) (gQi D (tysG cI cC cN) (va_A [(q, .inr (2, [.int f_knots, .int f_threads, .ref q_ends, .ref q_colours])), (q_ends, .inl (cI, 21, .inl f_ends)), (q_colours, .inl (cI, 21, .inl f_colours))] sz) [(q, .inr (2, [.int f_knots, .int f_threads, .ref q_ends, .ref q_colours])), (q_ends, .inl (cI, 21, .inl f_ends)), (q_colours, .inl (cI, 21, .inl f_colours))] r) 0 0 (va_A [(q, .inr (2, [.int f_knots, .int f_threads, .ref q_ends, .ref q_colours])), (q_ends, .inl (cI, 21, .inl f_ends)), (q_colours, .inl (cI, 21, .inl f_colours))] sz) := by
  unfold m_X2_mayMerge at hm
  refine g_openI (cc := cX2_mayMerge) (maxL := 5) (own := RX2) (by decide) rfl rfl (Nat.le_of_ble_eq_true rfl) ?_
  intro p e s m args below meth c A Q hx hb hml hown hts hP hK hN hD hA hret ls hl
  have hS : va_S A s.heap s.heap [] := va_S.rf
  have hl : lv_has ls 5 [(0, .ref q), (1, .int a1)] := hl
  refine lv_iconst (v := 0) hx hb dX2_mayMerge_0 (by decide) ?_
  refine lv_istore_n (lv' := [(2, .int 0), (0, .ref q), (1, .int a1)]) hx hb dX2_mayMerge_1 rfl hl (by decide) rfl (fun ls hl => ?_)
  refine lv_iconst (v := 0) hx hb dX2_mayMerge_2 (by decide) ?_
  refine lv_istore_n (lv' := [(3, .int 0), (2, .int 0), (0, .ref q), (1, .int a1)]) hx hb dX2_mayMerge_3 rfl hl (by decide) rfl (fun ls hl => ?_)
  have l4 : ∀ (n_4 : Nat) (x3_1 : Int32) (x2_2 : Int32), ∀ (H : Heap) (locs : List Loc) (ls : Array Slot), va_P D vwCl [(q, .inr (2, [.int f_knots, .int f_threads, .ref q_ends, .ref q_colours])), (q_ends, .inl (cI, 21, .inl f_ends)), (q_colours, .inl (cI, 21, .inl f_colours))] H → va_D A [(q, .inr (2, [.int f_knots, .int f_threads, .ref q_ends, .ref q_colours])), (q_ends, .inl (cI, 21, .inl f_ends)), (q_colours, .inl (cI, 21, .inl f_colours))] → va_S A s.heap H locs → lv_has ls 5 [(3, .int x3_1), (2, .int x2_2), (0, .ref q), (1, .int a1)] → m_X2_mayMerge_L4 N f_threads f_ends a1 n_4 x3_1 x2_2 = some r → W p l e rX2_mayMerge s m args below meth c H locs 0 0 Q (F0 m 4 ls []) := by
    intro n_4
    induction n_4 with
    | zero => intro x3_1 x2_2 H locs ls hP hD hS hl hm; rw [m_X2_mayMerge_L4] at hm; exact no_use hm
    | succ n_4 ih4 =>
      intro x3_1 x2_2 H locs ls hP hD hS hl hm
      rw [m_X2_mayMerge_L4] at hm
      refine lv_iload_n hx hb dX2_mayMerge_4 rfl (lv_at hl 0 rfl) ?_
      refine lv_aload_n hx hb dX2_mayMerge_5 rfl (lv_at hl 2 rfl) ?_
      refine va_get (D := D) (ci := 2) (v := .int f_threads) (C := RX2) (T := TX2) (N := 4) hx hb hts (by decide +kernel) hown hK hP 0 rfl rfl 1 (by decide) (hts (.fieldLink RX2 15 "KnotStripes$Net" "threads" "I") (by decide +kernel)) (fun _ h9 => h9) rfl dX2_mayMerge_6 ?_
      refine lv_icmp_ge (tgt := 53) hx hb dX2_mayMerge_9 (by decide) (fun hc => ?_) (fun hc => ?_)
      · have hm := if_t _ hc hm
        refine lv_iconst (v := 1) hx hb dX2_mayMerge_53 (by decide) ?_
        have z1 := so_use hm
        subst z1
        exact hret _ _ _ _ _ dX2_mayMerge_54 rfl rfl hP hD hS
      · have hm := if_f _ hc hm
        refine lv_aload_n hx hb dX2_mayMerge_12 rfl (lv_at hl 2 rfl) ?_
        refine lv_iload_n hx hb dX2_mayMerge_13 rfl (lv_at hl 0 rfl) ?_
        obtain ⟨r_3, h_4, hm⟩ := bind_use hm
        refine g_ki (wc := [(q, .inr (2, [.int f_knots, .int f_threads, .ref q_ends, .ref q_colours])), (q_ends, .inl (cI, 21, .inl f_ends)), (q_colours, .inl (cI, 21, .inl f_colours))]) (wr := []) (w2 := [(q, .inr (2, [.int f_knots, .int f_threads, .ref q_ends, .ref q_colours])), (q_ends, .inl (cI, 21, .inl f_ends)), (q_colours, .inl (cI, 21, .inl f_colours))]) (va_runV (As := [.int x3_1]) (rest := []) ⟨hx, hb, hml, hown, hts⟩ (k_X2_ends l D cI cC cN N q q_ends q_colours H.size f_knots f_threads f_ends f_colours x3_1 r_3 h_4) (cwV 1 hts gX2_mayMerge_X2_ends rfl rfl rfl (by decide +kernel) ⟨Nat.le_of_ble_eq_true rfl, Nat.le_of_ble_eq_true rfl⟩) ⟨g_blind, va_recv (D := D) (ci := 2) (q0 := 0) hK hP rfl rfl, g_pre (hP.sub [0, 1, 2] rfl) hK hN (hD.sub [0, 1, 2] (by decide) rfl)⟩ rfl rfl hl.1 rfl (lv_room (Nat.le_of_ble_eq_true rfl)) dX2_mayMerge_14 ⟨Nat.zero_le _, Nat.zero_le _⟩) hP hD hS hA [0, 1, 2] [] rfl rfl (by decide) (by decide) rfl (fun H locs hP hD hS => ?_)
        refine lv_iload_n hx hb dX2_mayMerge_17 rfl (lv_at hl 3 rfl) ?_
        refine lv_iconst (v := (-1)) hx hb dX2_mayMerge_18 (by decide) ?_
        refine lv_ixor hx hb dX2_mayMerge_19 ?_
        refine lv_iand hx hb dX2_mayMerge_20 ?_
        refine lv_topi (fun v4_5 ev4_5 => ?_)
        have hm := nm_use ev4_5 hm
        refine lv_istore (lv' := [(4, .int v4_5), (3, .int x3_1), (2, .int x2_2), (0, .ref q), (1, .int a1)]) hx hb dX2_mayMerge_21 hl (by decide) rfl (fun ls hl => ?_)
        refine lv_iload hx hb dX2_mayMerge_23 (lv_at hl 0 rfl) ?_
        refine lv_aload_n hx hb dX2_mayMerge_25 rfl (lv_at hl 3 rfl) ?_
        refine lv_iload_n hx hb dX2_mayMerge_26 rfl (lv_at hl 1 rfl) ?_
        obtain ⟨r_6, h_7, hm⟩ := bind_use hm
        refine g_ki (wc := [(q, .inr (2, [.int f_knots, .int f_threads, .ref q_ends, .ref q_colours])), (q_ends, .inl (cI, 21, .inl f_ends)), (q_colours, .inl (cI, 21, .inl f_colours))]) (wr := []) (w2 := [(q, .inr (2, [.int f_knots, .int f_threads, .ref q_ends, .ref q_colours])), (q_ends, .inl (cI, 21, .inl f_ends)), (q_colours, .inl (cI, 21, .inl f_colours))]) (va_runV (As := [.int x3_1]) (rest := [.int v4_5]) ⟨hx, hb, hml, hown, hts⟩ (k_X2_ends l D cI cC cN N q q_ends q_colours H.size f_knots f_threads f_ends f_colours x3_1 r_6 h_7) (cwV 1 hts gX2_mayMerge_X2_ends rfl rfl rfl (by decide +kernel) ⟨Nat.le_of_ble_eq_true rfl, Nat.le_of_ble_eq_true rfl⟩) ⟨g_blind, va_recv (D := D) (ci := 2) (q0 := 0) hK hP rfl rfl, g_pre (hP.sub [0, 1, 2] rfl) hK hN (hD.sub [0, 1, 2] (by decide) rfl)⟩ rfl rfl hl.1 rfl (lv_room (Nat.le_of_ble_eq_true rfl)) dX2_mayMerge_27 ⟨Nat.zero_le _, Nat.zero_le _⟩) hP hD hS hA [0, 1, 2] [] rfl rfl (by decide) (by decide) rfl (fun H locs hP hD hS => ?_)
        refine lv_icmp_eq (tgt := 47) hx hb dX2_mayMerge_30 (by decide) (fun hc => ?_) (fun hc => ?_)
        · have hm := if_t _ hc hm
          refine lv_iinc (v := (x3_1 + 1)) (lv' := [(3, .int (x3_1 + 1)), (4, .int v4_5), (2, .int x2_2), (0, .ref q), (1, .int a1)]) hx hb dX2_mayMerge_47 hl (k := 1) rfl rfl (by decide) rfl (fun ls hl => ?_)
          refine lv_goto (tgt := 4) hx hb dX2_mayMerge_50 (by decide) ?_
          exact ih4 (x3_1 + 1) x2_2 _ _ _ hP hD hS (lv_sub hl [0, 2, 3, 4] rfl) hm
        · have hm := if_f _ hc hm
          refine lv_iload_n hx hb dX2_mayMerge_33 rfl (lv_at hl 2 rfl) ?_
          refine lv_iload hx hb dX2_mayMerge_34 (lv_at hl 0 rfl) ?_
          refine lv_iand hx hb dX2_mayMerge_36 ?_
          refine lv_if_eq (tgt := 42) hx hb dX2_mayMerge_37 (by decide) (fun hc => ?_) (fun hc => ?_)
          · have hm := if_t _ hc hm
            refine lv_iload_n hx hb dX2_mayMerge_42 rfl (lv_at hl 2 rfl) ?_
            refine lv_iload hx hb dX2_mayMerge_43 (lv_at hl 0 rfl) ?_
            refine lv_ior hx hb dX2_mayMerge_45 ?_
            refine lv_topi (fun v2_8 ev2_8 => ?_)
            have hm := nm_use ev2_8 hm
            refine lv_istore_n (lv' := [(2, .int v2_8), (4, .int v4_5), (3, .int x3_1), (0, .ref q), (1, .int a1)]) hx hb dX2_mayMerge_46 rfl hl (by decide) rfl (fun ls hl => ?_)
            refine lv_iinc (v := (x3_1 + 1)) (lv' := [(3, .int (x3_1 + 1)), (2, .int v2_8), (4, .int v4_5), (0, .ref q), (1, .int a1)]) hx hb dX2_mayMerge_47 hl (k := 2) rfl rfl (by decide) rfl (fun ls hl => ?_)
            refine lv_goto (tgt := 4) hx hb dX2_mayMerge_50 (by decide) ?_
            exact ih4 (x3_1 + 1) v2_8 _ _ _ hP hD hS (lv_sub hl [0, 1, 3, 4] rfl) hm
          · have hm := if_f _ hc hm
            refine lv_iconst (v := 0) hx hb dX2_mayMerge_40 (by decide) ?_
            have z1 := so_use hm
            subst z1
            exact hret _ _ _ _ _ dX2_mayMerge_41 rfl rfl hP hD hS
  exact l4 N 0 0 _ _ _ hP hD hS hl hm
abbrev rX2_merge : Room := { frames := 4, cells := 0, slots := 0, locals := 90 }
set_option maxHeartbeats 4000000 in
set_option maxRecDepth 100000 in
theorem k_X2_merge (l : Launch) (D : va_G) (cI cC cN : ClassId) (N : Nat) (q : Nat) (q_ends : Nat) (q_colours : Nat) (sz : Nat) (f_knots : Int32) (f_threads : Int32) (f_ends : Nat → Int32) (f_colours : Nat → Int32) (a1 : Int32) (a2 : Int32) (f_knots' : Int32) (f_threads' : Int32) (f_ends' : Nat → Int32) (f_colours' : Nat → Int32) (hm : m_X2_merge N f_knots f_threads f_ends f_colours a1 a2 = some (f_knots', f_threads', f_ends', f_colours')) : Met l yX2_merge wsX2_merge (rX2_merge) (gPc D (tysG cI cC cN) [.ref q, .int a1, .int a2] [(q, .inr (2, [.int f_knots, .int f_threads, .ref q_ends, .ref q_colours])), (q_ends, .inl (cI, 21, .inl f_ends)), (q_colours, .inl (cI, 21, .inl f_colours))] sz) (gQv D (tysG cI cC cN) (va_A [(q, .inr (2, [.int f_knots, .int f_threads, .ref q_ends, .ref q_colours])), (q_ends, .inl (cI, 21, .inl f_ends)), (q_colours, .inl (cI, 21, .inl f_colours))] sz) [(q, .inr (2, [.int f_knots', .int f_threads', .ref q_ends, .ref q_colours])), (q_ends, .inl (cI, 21, .inl f_ends')), (q_colours, .inl (cI, 21, .inl f_colours'))]) 0 0 (va_A [(q, .inr (2, [.int f_knots, .int f_threads, .ref q_ends, .ref q_colours])), (q_ends, .inl (cI, 21, .inl f_ends)), (q_colours, .inl (cI, 21, .inl f_colours))] sz) := by
  unfold m_X2_merge at hm
  refine g_openV (cc := cX2_merge) (maxL := 5) (own := RX2) (by decide) rfl rfl (Nat.le_of_ble_eq_true rfl) ?_
  intro p e s m args below meth c A Q hx hb hml hown hts hP hK hN hD hA hret ls hl
  have hS : va_S A s.heap s.heap [] := va_S.rf
  have hl : lv_has ls 5 [(0, .ref q), (1, .int a1), (2, .int a2)] := hl
  refine lv_iconst (v := 0) hx hb dX2_merge_0 (by decide) ?_
  refine lv_istore_n (lv' := [(3, .int 0), (0, .ref q), (1, .int a1), (2, .int a2)]) hx hb dX2_merge_1 rfl hl (by decide) rfl (fun ls hl => ?_)
  obtain ⟨J64, hJ64, hm⟩ := jn_use hm
  have j64 : ∀ (f_ends_1 : Nat → Int32), ∀ (H : Heap) (locs : List Loc) (ls : Array Slot), va_P D vwCl [(q, .inr (2, [.int f_knots, .int f_threads, .ref q_ends, .ref q_colours])), (q_ends, .inl (cI, 21, .inl f_ends_1)), (q_colours, .inl (cI, 21, .inl f_colours))] H → va_D A [(q, .inr (2, [.int f_knots, .int f_threads, .ref q_ends, .ref q_colours])), (q_ends, .inl (cI, 21, .inl f_ends_1)), (q_colours, .inl (cI, 21, .inl f_colours))] → va_S A s.heap H locs → lv_has ls 5 [(0, .ref q), (2, .int a2)] → J64 f_ends_1 = some (f_knots', f_threads', f_ends', f_colours') → W p l e rX2_merge s m args below meth c H locs 0 0 Q (F0 m 64 ls []) := by
    intro f_ends_1 H locs ls hP hD hS hl hm
    rw [hJ64] at hm
    refine lv_aload_n hx hb dX2_merge_64 rfl (lv_at hl 0 rfl) ?_
    refine lv_bipush (v := 31) hx hb dX2_merge_65 (by decide) ?_
    refine lv_iload_n hx hb dX2_merge_67 rfl (lv_at hl 1 rfl) ?_
    obtain ⟨r_2, h_3, hm⟩ := bind_use hm
    refine g_ki (wc := []) (wr := [(q, .inr (2, [.int f_knots, .int f_threads, .ref q_ends, .ref q_colours])), (q_ends, .inl (cI, 21, .inl f_ends_1)), (q_colours, .inl (cI, 21, .inl f_colours))]) (w2 := [(q, .inr (2, [.int f_knots, .int f_threads, .ref q_ends, .ref q_colours])), (q_ends, .inl (cI, 21, .inl f_ends_1)), (q_colours, .inl (cI, 21, .inl f_colours))]) (va_runS (As := [.int a2]) (rest := [.int 31, .ref q]) ⟨hx, hb, hml, hown, hts⟩ (k_J6_numberOfLeadingZeros_0f7a4 l D cI cC cN N H.size a2 r_2 h_3) (va_cwS 1 hts gX2_merge_J6_numberOfLeadingZeros_0f7a4 rfl rfl rfl (by decide +kernel) ⟨Nat.le_of_ble_eq_true rfl, Nat.le_of_ble_eq_true rfl⟩) ⟨g_blind, g_pre (hP.sub [] rfl) hK hN (hD.sub [] (by decide) rfl)⟩ rfl rfl hl.1 rfl (lv_room (Nat.le_of_ble_eq_true rfl)) dX2_merge_68 ⟨Nat.zero_le _, Nat.zero_le _⟩) hP hD hS hA [] [0, 1, 2] rfl rfl (by decide) (by decide) rfl (fun H locs hP hD hS => ?_)
    refine lv_isub hx hb dX2_merge_71 ?_
    obtain ⟨⟨f_knots_4, f_threads_5, f_ends_6, f_colours_7⟩, h_8, hm⟩ := bind_use hm
    refine g_kv (wc := [(q, .inr (2, [.int f_knots, .int f_threads, .ref q_ends, .ref q_colours])), (q_ends, .inl (cI, 21, .inl f_ends_1)), (q_colours, .inl (cI, 21, .inl f_colours))]) (wr := []) (w2 := [(q, .inr (2, [.int f_knots_4, .int f_threads_5, .ref q_ends, .ref q_colours])), (q_ends, .inl (cI, 21, .inl f_ends_6)), (q_colours, .inl (cI, 21, .inl f_colours_7))]) (va_runV (As := [.int (31 - r_2)]) (rest := []) ⟨hx, hb, hml, hown, hts⟩ (k_X2_dropKnot l D cI cC cN N q q_ends q_colours H.size f_knots f_threads f_ends_1 f_colours (31 - r_2) f_knots_4 f_threads_5 f_ends_6 f_colours_7 h_8) (cwV 1 hts gX2_merge_X2_dropKnot rfl rfl rfl (by decide +kernel) ⟨Nat.le_of_ble_eq_true rfl, Nat.le_of_ble_eq_true rfl⟩) ⟨g_blind, va_recv (D := D) (ci := 2) (q0 := 0) hK hP rfl rfl, g_pre (hP.sub [0, 1, 2] rfl) hK hN (hD.sub [0, 1, 2] (by decide) rfl)⟩ rfl rfl hl.1 rfl (lv_room (Nat.le_of_ble_eq_true rfl)) dX2_merge_72 ⟨Nat.zero_le _, Nat.zero_le _⟩) hP hD hS hA [0, 1, 2] [] rfl rfl (by decide) (by decide) rfl (fun H locs hP hD hS => ?_)
    refine lv_aload_n hx hb dX2_merge_75 rfl (lv_at hl 0 rfl) ?_
    refine lv_iload_n hx hb dX2_merge_76 rfl (lv_at hl 1 rfl) ?_
    obtain ⟨r_9, h_10, hm⟩ := bind_use hm
    refine g_ki (wc := []) (wr := [(q, .inr (2, [.int f_knots_4, .int f_threads_5, .ref q_ends, .ref q_colours])), (q_ends, .inl (cI, 21, .inl f_ends_6)), (q_colours, .inl (cI, 21, .inl f_colours_7))]) (w2 := [(q, .inr (2, [.int f_knots_4, .int f_threads_5, .ref q_ends, .ref q_colours])), (q_ends, .inl (cI, 21, .inl f_ends_6)), (q_colours, .inl (cI, 21, .inl f_colours_7))]) (va_runS (As := [.int a2]) (rest := [.ref q]) ⟨hx, hb, hml, hown, hts⟩ (k_J6_numberOfTrailingZeros_0f7a4 l D cI cC cN N H.size a2 r_9 h_10) (va_cwS 1 hts gX2_merge_J6_numberOfTrailingZeros_0f7a4 rfl rfl rfl (by decide +kernel) ⟨Nat.le_of_ble_eq_true rfl, Nat.le_of_ble_eq_true rfl⟩) ⟨g_blind, g_pre (hP.sub [] rfl) hK hN (hD.sub [] (by decide) rfl)⟩ rfl rfl hl.1 rfl (lv_room (Nat.le_of_ble_eq_true rfl)) dX2_merge_77 ⟨Nat.zero_le _, Nat.zero_le _⟩) hP hD hS hA [] [0, 1, 2] rfl rfl (by decide) (by decide) rfl (fun H locs hP hD hS => ?_)
    obtain ⟨⟨f_knots_11, f_threads_12, f_ends_13, f_colours_14⟩, h_15, hm⟩ := bind_use hm
    refine g_kv (wc := [(q, .inr (2, [.int f_knots_4, .int f_threads_5, .ref q_ends, .ref q_colours])), (q_ends, .inl (cI, 21, .inl f_ends_6)), (q_colours, .inl (cI, 21, .inl f_colours_7))]) (wr := []) (w2 := [(q, .inr (2, [.int f_knots_11, .int f_threads_12, .ref q_ends, .ref q_colours])), (q_ends, .inl (cI, 21, .inl f_ends_13)), (q_colours, .inl (cI, 21, .inl f_colours_14))]) (va_runV (As := [.int r_9]) (rest := []) ⟨hx, hb, hml, hown, hts⟩ (k_X2_dropKnot l D cI cC cN N q q_ends q_colours H.size f_knots_4 f_threads_5 f_ends_6 f_colours_7 r_9 f_knots_11 f_threads_12 f_ends_13 f_colours_14 h_15) (cwV 1 hts gX2_merge_X2_dropKnot rfl rfl rfl (by decide +kernel) ⟨Nat.le_of_ble_eq_true rfl, Nat.le_of_ble_eq_true rfl⟩) ⟨g_blind, va_recv (D := D) (ci := 2) (q0 := 0) hK hP rfl rfl, g_pre (hP.sub [0, 1, 2] rfl) hK hN (hD.sub [0, 1, 2] (by decide) rfl)⟩ rfl rfl hl.1 rfl (lv_room (Nat.le_of_ble_eq_true rfl)) dX2_merge_80 ⟨Nat.zero_le _, Nat.zero_le _⟩) hP hD hS hA [0, 1, 2] [] rfl rfl (by decide) (by decide) rfl (fun H locs hP hD hS => ?_)
    have z1 := so_use hm
    obtain ⟨y1, z2⟩ := pr_use z1
    obtain ⟨y2, z3⟩ := pr_use z2
    obtain ⟨y3, z4⟩ := pr_use z3
    subst y1
    subst y2
    subst y3
    subst z4
    exact hret _ _ _ _ dX2_merge_83 hP hD hS
  have l2 : ∀ (n_2 : Nat) (x3_16 : Int32) (f_ends_17 : Nat → Int32), ∀ (H : Heap) (locs : List Loc) (ls : Array Slot), va_P D vwCl [(q, .inr (2, [.int f_knots, .int f_threads, .ref q_ends, .ref q_colours])), (q_ends, .inl (cI, 21, .inl f_ends_17)), (q_colours, .inl (cI, 21, .inl f_colours))] H → va_D A [(q, .inr (2, [.int f_knots, .int f_threads, .ref q_ends, .ref q_colours])), (q_ends, .inl (cI, 21, .inl f_ends_17)), (q_colours, .inl (cI, 21, .inl f_colours))] → va_S A s.heap H locs → lv_has ls 5 [(3, .int x3_16), (0, .ref q), (1, .int a1), (2, .int a2)] → m_X2_merge_L2 N f_threads a1 a2 J64 n_2 x3_16 f_ends_17 = some (f_knots', f_threads', f_ends', f_colours') → W p l e rX2_merge s m args below meth c H locs 0 0 Q (F0 m 2 ls []) := by
    intro n_2
    induction n_2 with
    | zero => intro x3_16 f_ends_17 H locs ls hP hD hS hl hm; rw [m_X2_merge_L2] at hm; exact no_use hm
    | succ n_2 ih2 =>
      intro x3_16 f_ends_17 H locs ls hP hD hS hl hm
      rw [m_X2_merge_L2] at hm
      refine lv_iload_n hx hb dX2_merge_2 rfl (lv_at hl 0 rfl) ?_
      refine lv_aload_n hx hb dX2_merge_3 rfl (lv_at hl 1 rfl) ?_
      refine va_get (D := D) (ci := 2) (v := .int f_threads) (C := RX2) (T := TX2) (N := 4) hx hb hts (by decide +kernel) hown hK hP 0 rfl rfl 1 (by decide) (hts (.fieldLink RX2 15 "KnotStripes$Net" "threads" "I") (by decide +kernel)) (fun _ h9 => h9) rfl dX2_merge_4 ?_
      refine lv_icmp_ge (tgt := 64) hx hb dX2_merge_7 (by decide) (fun hc => ?_) (fun hc => ?_)
      · have hm := if_t _ hc hm
        exact j64 f_ends_17 _ _ _ hP hD hS (lv_sub hl [1, 3] rfl) hm
      · have hm := if_f _ hc hm
        refine lv_aload_n hx hb dX2_merge_10 rfl (lv_at hl 1 rfl) ?_
        refine lv_iload_n hx hb dX2_merge_11 rfl (lv_at hl 0 rfl) ?_
        obtain ⟨r_18, h_19, hm⟩ := bind_use hm
        refine g_ki (wc := [(q, .inr (2, [.int f_knots, .int f_threads, .ref q_ends, .ref q_colours])), (q_ends, .inl (cI, 21, .inl f_ends_17)), (q_colours, .inl (cI, 21, .inl f_colours))]) (wr := []) (w2 := [(q, .inr (2, [.int f_knots, .int f_threads, .ref q_ends, .ref q_colours])), (q_ends, .inl (cI, 21, .inl f_ends_17)), (q_colours, .inl (cI, 21, .inl f_colours))]) (va_runV (As := [.int x3_16]) (rest := []) ⟨hx, hb, hml, hown, hts⟩ (k_X2_ends l D cI cC cN N q q_ends q_colours H.size f_knots f_threads f_ends_17 f_colours x3_16 r_18 h_19) (cwV 1 hts gX2_merge_X2_ends rfl rfl rfl (by decide +kernel) ⟨Nat.le_of_ble_eq_true rfl, Nat.le_of_ble_eq_true rfl⟩) ⟨g_blind, va_recv (D := D) (ci := 2) (q0 := 0) hK hP rfl rfl, g_pre (hP.sub [0, 1, 2] rfl) hK hN (hD.sub [0, 1, 2] (by decide) rfl)⟩ rfl rfl hl.1 rfl (lv_room (Nat.le_of_ble_eq_true rfl)) dX2_merge_12 ⟨Nat.zero_le _, Nat.zero_le _⟩) hP hD hS hA [0, 1, 2] [] rfl rfl (by decide) (by decide) rfl (fun H locs hP hD hS => ?_)
        refine lv_iload_n hx hb dX2_merge_15 rfl (lv_at hl 3 rfl) ?_
        refine lv_iconst (v := (-1)) hx hb dX2_merge_16 (by decide) ?_
        refine lv_ixor hx hb dX2_merge_17 ?_
        refine lv_iand hx hb dX2_merge_18 ?_
        refine lv_iload_n hx hb dX2_merge_19 rfl (lv_at hl 2 rfl) ?_
        obtain ⟨r_20, h_21, hm⟩ := bind_use hm
        refine g_ki (wc := []) (wr := [(q, .inr (2, [.int f_knots, .int f_threads, .ref q_ends, .ref q_colours])), (q_ends, .inl (cI, 21, .inl f_ends_17)), (q_colours, .inl (cI, 21, .inl f_colours))]) (w2 := [(q, .inr (2, [.int f_knots, .int f_threads, .ref q_ends, .ref q_colours])), (q_ends, .inl (cI, 21, .inl f_ends_17)), (q_colours, .inl (cI, 21, .inl f_colours))]) (va_runSN (As := [.int a1]) (rest := [.int (r_18 &&& (a2 ^^^ (-1)))]) ⟨hx, hb, hml, hown, hts⟩ (k_X6_bit l D cI cC cN N H.size a1 r_20 h_21) ⟨va_cnB 1 hts gX2_merge_X6_bit_n25 rfl rfl rfl (hN (.methodLinkNest RX2 25 yX6_bit RX6) (by decide +kernel)) (hts (.initialized RX6) (by decide +kernel)) (by decide +kernel) ⟨Nat.le_of_ble_eq_true rfl, Nat.le_of_ble_eq_true rfl⟩, hts (.static yX6_bit) (by decide +kernel), trivial⟩ ⟨g_blind, g_pre (hP.sub [] rfl) hK hN (hD.sub [] (by decide) rfl)⟩ rfl rfl hl.1 rfl (lv_room (Nat.le_of_ble_eq_true rfl)) dX2_merge_20 ⟨Nat.zero_le _, Nat.zero_le _⟩) hP hD hS hA [] [0, 1, 2] rfl rfl (by decide) (by decide) rfl (fun H locs hP hD hS => ?_)
        refine lv_iconst (v := (-1)) hx hb dX2_merge_23 (by decide) ?_
        refine lv_ixor hx hb dX2_merge_24 ?_
        refine lv_iand hx hb dX2_merge_25 ?_
        refine lv_topi (fun v4_22 ev4_22 => ?_)
        have hm := nm_use ev4_22 hm
        refine lv_istore (lv' := [(4, .int v4_22), (3, .int x3_16), (0, .ref q), (1, .int a1), (2, .int a2)]) hx hb dX2_merge_26 hl (by decide) rfl (fun ls hl => ?_)
        refine lv_iload hx hb dX2_merge_28 (lv_at hl 0 rfl) ?_
        refine lv_if_eq (tgt := 58) hx hb dX2_merge_30 (by decide) (fun hc => ?_) (fun hc => ?_)
        · have hm := if_t _ hc hm
          refine lv_iinc (v := (x3_16 + 1)) (lv' := [(3, .int (x3_16 + 1)), (4, .int v4_22), (0, .ref q), (1, .int a1), (2, .int a2)]) hx hb dX2_merge_58 hl (k := 1) rfl rfl (by decide) rfl (fun ls hl => ?_)
          refine lv_goto (tgt := 2) hx hb dX2_merge_61 (by decide) ?_
          exact ih2 (x3_16 + 1) f_ends_17 _ _ _ hP hD hS (lv_sub hl [0, 2, 3, 4] rfl) hm
        · have hm := if_f _ hc hm
          refine lv_iload hx hb dX2_merge_33 (lv_at hl 0 rfl) ?_
          refine lv_aload_n hx hb dX2_merge_35 rfl (lv_at hl 2 rfl) ?_
          refine lv_iload_n hx hb dX2_merge_36 rfl (lv_at hl 1 rfl) ?_
          obtain ⟨r_23, h_24, hm⟩ := bind_use hm
          refine g_ki (wc := [(q, .inr (2, [.int f_knots, .int f_threads, .ref q_ends, .ref q_colours])), (q_ends, .inl (cI, 21, .inl f_ends_17)), (q_colours, .inl (cI, 21, .inl f_colours))]) (wr := []) (w2 := [(q, .inr (2, [.int f_knots, .int f_threads, .ref q_ends, .ref q_colours])), (q_ends, .inl (cI, 21, .inl f_ends_17)), (q_colours, .inl (cI, 21, .inl f_colours))]) (va_runV (As := [.int x3_16]) (rest := [.int v4_22]) ⟨hx, hb, hml, hown, hts⟩ (k_X2_ends l D cI cC cN N q q_ends q_colours H.size f_knots f_threads f_ends_17 f_colours x3_16 r_23 h_24) (cwV 1 hts gX2_merge_X2_ends rfl rfl rfl (by decide +kernel) ⟨Nat.le_of_ble_eq_true rfl, Nat.le_of_ble_eq_true rfl⟩) ⟨g_blind, va_recv (D := D) (ci := 2) (q0 := 0) hK hP rfl rfl, g_pre (hP.sub [0, 1, 2] rfl) hK hN (hD.sub [0, 1, 2] (by decide) rfl)⟩ rfl rfl hl.1 rfl (lv_room (Nat.le_of_ble_eq_true rfl)) dX2_merge_37 ⟨Nat.zero_le _, Nat.zero_le _⟩) hP hD hS hA [0, 1, 2] [] rfl rfl (by decide) (by decide) rfl (fun H locs hP hD hS => ?_)
          refine lv_icmp_eq (tgt := 58) hx hb dX2_merge_40 (by decide) (fun hc => ?_) (fun hc => ?_)
          · have hm := if_t _ hc hm
            refine lv_iinc (v := (x3_16 + 1)) (lv' := [(3, .int (x3_16 + 1)), (4, .int v4_22), (0, .ref q), (1, .int a1), (2, .int a2)]) hx hb dX2_merge_58 hl (k := 1) rfl rfl (by decide) rfl (fun ls hl => ?_)
            refine lv_goto (tgt := 2) hx hb dX2_merge_61 (by decide) ?_
            exact ih2 (x3_16 + 1) f_ends_17 _ _ _ hP hD hS (lv_sub hl [0, 2, 3, 4] rfl) hm
          · have hm := if_f _ hc hm
            refine lv_aload_n hx hb dX2_merge_43 rfl (lv_at hl 2 rfl) ?_
            refine va_get (D := D) (ci := 2) (v := .ref q_ends) (C := RX2) (T := TX2) (N := 4) hx hb hts (by decide +kernel) hown hK hP 0 rfl rfl 2 (by decide) (hts (.fieldLink RX2 18 "KnotStripes$Net" "ends" "[I") (by decide +kernel)) (fun _ h9 => h9) rfl dX2_merge_44 ?_
            refine lv_iload_n hx hb dX2_merge_47 rfl (lv_at hl 1 rfl) ?_
            refine lv_iload hx hb dX2_merge_48 (lv_at hl 0 rfl) ?_
            refine lv_iload_n hx hb dX2_merge_50 rfl (lv_at hl 3 rfl) ?_
            obtain ⟨r_25, h_26, hm⟩ := bind_use hm
            refine g_ki (wc := []) (wr := [(q, .inr (2, [.int f_knots, .int f_threads, .ref q_ends, .ref q_colours])), (q_ends, .inl (cI, 21, .inl f_ends_17)), (q_colours, .inl (cI, 21, .inl f_colours))]) (w2 := [(q, .inr (2, [.int f_knots, .int f_threads, .ref q_ends, .ref q_colours])), (q_ends, .inl (cI, 21, .inl f_ends_17)), (q_colours, .inl (cI, 21, .inl f_colours))]) (va_runSN (As := [.int a1]) (rest := [.int v4_22, .int x3_16, .ref q_ends]) ⟨hx, hb, hml, hown, hts⟩ (k_X6_bit l D cI cC cN N H.size a1 r_25 h_26) ⟨va_cnB 1 hts gX2_merge_X6_bit_n25 rfl rfl rfl (hN (.methodLinkNest RX2 25 yX6_bit RX6) (by decide +kernel)) (hts (.initialized RX6) (by decide +kernel)) (by decide +kernel) ⟨Nat.le_of_ble_eq_true rfl, Nat.le_of_ble_eq_true rfl⟩, hts (.static yX6_bit) (by decide +kernel), trivial⟩ ⟨g_blind, g_pre (hP.sub [] rfl) hK hN (hD.sub [] (by decide) rfl)⟩ rfl rfl hl.1 rfl (lv_room (Nat.le_of_ble_eq_true rfl)) dX2_merge_51 ⟨Nat.zero_le _, Nat.zero_le _⟩) hP hD hS hA [] [0, 1, 2] rfl rfl (by decide) (by decide) rfl (fun H locs hP hD hS => ?_)
            refine lv_ior hx hb dX2_merge_54 ?_
            obtain ⟨f_ends_27, h_28, hm⟩ := bind_use hm
            refine g_kv (wc := [(q_ends, .inl (cI, 21, .inl f_ends_17))]) (wr := [(q, .inr (2, [.int f_knots, .int f_threads, .ref q_ends, .ref q_colours])), (q_colours, .inl (cI, 21, .inl f_colours))]) (w2 := [(q, .inr (2, [.int f_knots, .int f_threads, .ref q_ends, .ref q_colours])), (q_colours, .inl (cI, 21, .inl f_colours)), (q_ends, .inl (cI, 21, .inl f_ends_27))]) (va_runSN (As := [.ref q_ends, .int x3_16, .int (v4_22 ||| r_25)]) (rest := []) ⟨hx, hb, hml, hown, hts⟩ (k_X6_put l D cI cC cN N q_ends 21 H.size f_ends_17 x3_16 (v4_22 ||| r_25) f_ends_27 h_28) ⟨va_cnB 3 hts gX2_merge_X6_put_n43 rfl rfl rfl (hN (.methodLinkNest RX2 43 yX6_put RX6) (by decide +kernel)) (hts (.initialized RX6) (by decide +kernel)) (by decide +kernel) ⟨Nat.le_of_ble_eq_true rfl, Nat.le_of_ble_eq_true rfl⟩, hts (.static yX6_put) (by decide +kernel), trivial⟩ ⟨g_blind, g_pre (hP.sub [1] rfl) hK hN (hD.sub [1] (by decide) rfl)⟩ rfl rfl hl.1 rfl (lv_room (Nat.le_of_ble_eq_true rfl)) dX2_merge_55 ⟨Nat.zero_le _, Nat.zero_le _⟩) hP hD hS hA [1] [0, 2] rfl rfl (by decide) (by decide) rfl (fun H locs hP hD hS => ?_)
            refine lv_iinc (v := (x3_16 + 1)) (lv' := [(3, .int (x3_16 + 1)), (4, .int v4_22), (0, .ref q), (1, .int a1), (2, .int a2)]) hx hb dX2_merge_58 hl (k := 1) rfl rfl (by decide) rfl (fun ls hl => ?_)
            refine lv_goto (tgt := 2) hx hb dX2_merge_61 (by decide) ?_
            exact ih2 (x3_16 + 1) f_ends_27 _ _ _ (hP.sub [0, 2, 1] rfl) (hD.sub [0, 2, 1] (by decide) rfl) hS (lv_sub hl [0, 2, 3, 4] rfl) hm
  exact l2 N 0 f_ends _ _ _ hP hD hS hl hm
abbrev rX2_swapColours : Room := { frames := 2, cells := 0, slots := 0, locals := 44 }
set_option maxHeartbeats 4000000 in
set_option maxRecDepth 100000 in
theorem k_X2_swapColours (l : Launch) (D : va_G) (cI cC cN : ClassId) (N : Nat) (q : Nat) (q_ends : Nat) (q_colours : Nat) (sz : Nat) (f_knots : Int32) (f_threads : Int32) (f_ends : Nat → Int32) (f_colours : Nat → Int32) (a1 : Int32) (a2 : Int32) (f_colours' : Nat → Int32) (hm : m_X2_swapColours N f_threads f_colours a1 a2 = some f_colours') : Met l yX2_swapColours wsX2_swapColours (rX2_swapColours) (gPc D (tysG cI cC cN) [.ref q, .int a1, .int a2] [(q, .inr (2, [.int f_knots, .int f_threads, .ref q_ends, .ref q_colours])), (q_ends, .inl (cI, 21, .inl f_ends)), (q_colours, .inl (cI, 21, .inl f_colours))] sz) (gQv D (tysG cI cC cN) (va_A [(q, .inr (2, [.int f_knots, .int f_threads, .ref q_ends, .ref q_colours])), (q_ends, .inl (cI, 21, .inl f_ends)), (q_colours, .inl (cI, 21, .inl f_colours))] sz) [(q, .inr (2, [.int f_knots, .int f_threads, .ref q_ends, .ref q_colours])), (q_ends, .inl (cI, 21, .inl f_ends)), (q_colours, .inl (cI, 21, .inl f_colours'))]) 0 0 (va_A [(q, .inr (2, [.int f_knots, .int f_threads, .ref q_ends, .ref q_colours])), (q_ends, .inl (cI, 21, .inl f_ends)), (q_colours, .inl (cI, 21, .inl f_colours))] sz) := by
  unfold m_X2_swapColours at hm
  refine g_openV (cc := cX2_swapColours) (maxL := 4) (own := RX2) (by decide) rfl rfl (Nat.le_of_ble_eq_true rfl) ?_
  intro p e s m args below meth c A Q hx hb hml hown hts hP hK hN hD hA hret ls hl
  have hS : va_S A s.heap s.heap [] := va_S.rf
  have hl : lv_has ls 4 [(0, .ref q), (1, .int a1), (2, .int a2)] := hl
  refine lv_iconst (v := 0) hx hb dX2_swapColours_0 (by decide) ?_
  refine lv_istore_n (lv' := [(3, .int 0), (0, .ref q), (1, .int a1), (2, .int a2)]) hx hb dX2_swapColours_1 rfl hl (by decide) rfl (fun ls hl => ?_)
  have l2 : ∀ (n_2 : Nat) (x3_1 : Int32) (f_colours_2 : Nat → Int32), ∀ (H : Heap) (locs : List Loc) (ls : Array Slot), va_P D vwCl [(q, .inr (2, [.int f_knots, .int f_threads, .ref q_ends, .ref q_colours])), (q_ends, .inl (cI, 21, .inl f_ends)), (q_colours, .inl (cI, 21, .inl f_colours_2))] H → va_D A [(q, .inr (2, [.int f_knots, .int f_threads, .ref q_ends, .ref q_colours])), (q_ends, .inl (cI, 21, .inl f_ends)), (q_colours, .inl (cI, 21, .inl f_colours_2))] → va_S A s.heap H locs → lv_has ls 4 [(3, .int x3_1), (0, .ref q), (1, .int a1), (2, .int a2)] → m_X2_swapColours_L2 N f_threads a1 a2 n_2 x3_1 f_colours_2 = some f_colours' → W p l e rX2_swapColours s m args below meth c H locs 0 0 Q (F0 m 2 ls []) := by
    intro n_2
    induction n_2 with
    | zero => intro x3_1 f_colours_2 H locs ls hP hD hS hl hm; rw [m_X2_swapColours_L2] at hm; exact no_use hm
    | succ n_2 ih2 =>
      intro x3_1 f_colours_2 H locs ls hP hD hS hl hm
      rw [m_X2_swapColours_L2] at hm
      refine lv_iload_n hx hb dX2_swapColours_2 rfl (lv_at hl 0 rfl) ?_
      refine lv_aload_n hx hb dX2_swapColours_3 rfl (lv_at hl 1 rfl) ?_
      refine va_get (D := D) (ci := 2) (v := .int f_threads) (C := RX2) (T := TX2) (N := 4) hx hb hts (by decide +kernel) hown hK hP 0 rfl rfl 1 (by decide) (hts (.fieldLink RX2 15 "KnotStripes$Net" "threads" "I") (by decide +kernel)) (fun _ h9 => h9) rfl dX2_swapColours_4 ?_
      refine lv_icmp_ge (tgt := 36) hx hb dX2_swapColours_7 (by decide) (fun hc => ?_) (fun hc => ?_)
      · have hm := if_t _ hc hm
        have z1 := so_use hm
        subst z1
        exact hret _ _ _ _ dX2_swapColours_36 hP hD hS
      · have hm := if_f _ hc hm
        refine lv_iload_n hx hb dX2_swapColours_10 rfl (lv_at hl 2 rfl) ?_
        refine lv_iload_n hx hb dX2_swapColours_11 rfl (lv_at hl 0 rfl) ?_
        obtain ⟨r_3, h_4, hm⟩ := bind_use hm
        refine g_ki (wc := []) (wr := [(q, .inr (2, [.int f_knots, .int f_threads, .ref q_ends, .ref q_colours])), (q_ends, .inl (cI, 21, .inl f_ends)), (q_colours, .inl (cI, 21, .inl f_colours_2))]) (w2 := [(q, .inr (2, [.int f_knots, .int f_threads, .ref q_ends, .ref q_colours])), (q_ends, .inl (cI, 21, .inl f_ends)), (q_colours, .inl (cI, 21, .inl f_colours_2))]) (va_runSN (As := [.int a1, .int x3_1]) (rest := []) ⟨hx, hb, hml, hown, hts⟩ (k_X6_holds l D cI cC cN N H.size a1 x3_1 r_3 h_4) ⟨va_cnB 2 hts gX2_swapColours_X6_holds_n50 rfl rfl rfl (hN (.methodLinkNest RX2 50 yX6_holds RX6) (by decide +kernel)) (hts (.initialized RX6) (by decide +kernel)) (by decide +kernel) ⟨Nat.le_of_ble_eq_true rfl, Nat.le_of_ble_eq_true rfl⟩, hts (.static yX6_holds) (by decide +kernel), trivial⟩ ⟨g_blind, g_pre (hP.sub [] rfl) hK hN (hD.sub [] (by decide) rfl)⟩ rfl rfl hl.1 rfl (lv_room (Nat.le_of_ble_eq_true rfl)) dX2_swapColours_12 ⟨Nat.zero_le _, Nat.zero_le _⟩) hP hD hS hA [] [0, 1, 2] rfl rfl (by decide) (by decide) rfl (fun H locs hP hD hS => ?_)
        refine lv_if_eq (tgt := 30) hx hb dX2_swapColours_15 (by decide) (fun hc => ?_) (fun hc => ?_)
        · have hm := if_t _ hc hm
          refine lv_iinc (v := (x3_1 + 1)) (lv' := [(3, .int (x3_1 + 1)), (0, .ref q), (1, .int a1), (2, .int a2)]) hx hb dX2_swapColours_30 hl (k := 0) rfl rfl (by decide) rfl (fun ls hl => ?_)
          refine lv_goto (tgt := 2) hx hb dX2_swapColours_33 (by decide) ?_
          exact ih2 (x3_1 + 1) f_colours_2 _ _ _ hP hD hS hl hm
        · have hm := if_f _ hc hm
          refine lv_aload_n hx hb dX2_swapColours_18 rfl (lv_at hl 1 rfl) ?_
          refine lv_iload_n hx hb dX2_swapColours_19 rfl (lv_at hl 0 rfl) ?_
          refine lv_iload_n hx hb dX2_swapColours_20 rfl (lv_at hl 3 rfl) ?_
          refine lv_aload_n hx hb dX2_swapColours_21 rfl (lv_at hl 1 rfl) ?_
          refine lv_iload_n hx hb dX2_swapColours_22 rfl (lv_at hl 0 rfl) ?_
          obtain ⟨r_5, h_6, hm⟩ := bind_use hm
          refine g_ki (wc := [(q, .inr (2, [.int f_knots, .int f_threads, .ref q_ends, .ref q_colours])), (q_ends, .inl (cI, 21, .inl f_ends)), (q_colours, .inl (cI, 21, .inl f_colours_2))]) (wr := []) (w2 := [(q, .inr (2, [.int f_knots, .int f_threads, .ref q_ends, .ref q_colours])), (q_ends, .inl (cI, 21, .inl f_ends)), (q_colours, .inl (cI, 21, .inl f_colours_2))]) (va_runV (As := [.int x3_1]) (rest := [.int a2, .int x3_1, .ref q]) ⟨hx, hb, hml, hown, hts⟩ (k_X2_colour l D cI cC cN N q q_ends q_colours H.size f_knots f_threads f_ends f_colours_2 x3_1 r_5 h_6) (cwV 1 hts gX2_swapColours_X2_colour rfl rfl rfl (by decide +kernel) ⟨Nat.le_of_ble_eq_true rfl, Nat.le_of_ble_eq_true rfl⟩) ⟨g_blind, va_recv (D := D) (ci := 2) (q0 := 0) hK hP rfl rfl, g_pre (hP.sub [0, 1, 2] rfl) hK hN (hD.sub [0, 1, 2] (by decide) rfl)⟩ rfl rfl hl.1 rfl (lv_room (Nat.le_of_ble_eq_true rfl)) dX2_swapColours_23 ⟨Nat.zero_le _, Nat.zero_le _⟩) hP hD hS hA [0, 1, 2] [] rfl rfl (by decide) (by decide) rfl (fun H locs hP hD hS => ?_)
          refine lv_isub hx hb dX2_swapColours_26 ?_
          obtain ⟨f_colours_7, h_8, hm⟩ := bind_use hm
          refine g_kv (wc := [(q, .inr (2, [.int f_knots, .int f_threads, .ref q_ends, .ref q_colours])), (q_ends, .inl (cI, 21, .inl f_ends)), (q_colours, .inl (cI, 21, .inl f_colours_2))]) (wr := []) (w2 := [(q, .inr (2, [.int f_knots, .int f_threads, .ref q_ends, .ref q_colours])), (q_ends, .inl (cI, 21, .inl f_ends)), (q_colours, .inl (cI, 21, .inl f_colours_7))]) (va_runV (As := [.int x3_1, .int (a2 - r_5)]) (rest := []) ⟨hx, hb, hml, hown, hts⟩ (k_X2_setColour l D cI cC cN N q q_ends q_colours H.size f_knots f_threads f_ends f_colours_2 x3_1 (a2 - r_5) f_colours_7 h_8) (cwV 2 hts gX2_swapColours_X2_setColour rfl rfl rfl (by decide +kernel) ⟨Nat.le_of_ble_eq_true rfl, Nat.le_of_ble_eq_true rfl⟩) ⟨g_blind, va_recv (D := D) (ci := 2) (q0 := 0) hK hP rfl rfl, g_pre (hP.sub [0, 1, 2] rfl) hK hN (hD.sub [0, 1, 2] (by decide) rfl)⟩ rfl rfl hl.1 rfl (lv_room (Nat.le_of_ble_eq_true rfl)) dX2_swapColours_27 ⟨Nat.zero_le _, Nat.zero_le _⟩) hP hD hS hA [0, 1, 2] [] rfl rfl (by decide) (by decide) rfl (fun H locs hP hD hS => ?_)
          refine lv_iinc (v := (x3_1 + 1)) (lv' := [(3, .int (x3_1 + 1)), (0, .ref q), (1, .int a1), (2, .int a2)]) hx hb dX2_swapColours_30 hl (k := 0) rfl rfl (by decide) rfl (fun ls hl => ?_)
          refine lv_goto (tgt := 2) hx hb dX2_swapColours_33 (by decide) ?_
          exact ih2 (x3_1 + 1) f_colours_7 _ _ _ hP hD hS hl hm
  exact l2 N 0 f_colours _ _ _ hP hD hS hl hm
abbrev rX3_foundColour : Room := { frames := 1, cells := 0, slots := 0, locals := 21 }
set_option maxHeartbeats 4000000 in
set_option maxRecDepth 100000 in
theorem k_X3_foundColour (l : Launch) (D : va_G) (cI cC cN : ClassId) (N : Nat) (q : Nat) (q_bits : Nat) (q_lesser : Nat) (q_greater : Nat) (q_stops : Nat) (q_beside : Nat) (q_found : Nat) (sz : Nat) (f_bits : Nat → Int32) (f_lesser : Nat → Int32) (f_greater : Nat → Int32) (f_placed : Int32) (f_stops : Nat → Int32) (f_groups : Int32) (f_beside : Nat → Int32) (f_found : Nat → Int32) (a1 : Int32) (r : Int32) (hm : m_X3_foundColour N f_found a1 = some r) : Met l yX3_foundColour wsX3_foundColour (rX3_foundColour) (gPc D (tysG cI cC cN) [.ref q, .int a1] [(q, .inr (3, [.ref q_bits, .ref q_lesser, .ref q_greater, .int f_placed, .ref q_stops, .int f_groups, .ref q_beside, .ref q_found])), (q_bits, .inl (cI, 21, .inl f_bits)), (q_lesser, .inl (cI, 21, .inl f_lesser)), (q_greater, .inl (cI, 21, .inl f_greater)), (q_stops, .inl (cI, 21, .inl f_stops)), (q_beside, .inl (cI, 21, .inl f_beside)), (q_found, .inl (cI, 21, .inl f_found))] sz) (gQi D (tysG cI cC cN) (va_A [(q, .inr (3, [.ref q_bits, .ref q_lesser, .ref q_greater, .int f_placed, .ref q_stops, .int f_groups, .ref q_beside, .ref q_found])), (q_bits, .inl (cI, 21, .inl f_bits)), (q_lesser, .inl (cI, 21, .inl f_lesser)), (q_greater, .inl (cI, 21, .inl f_greater)), (q_stops, .inl (cI, 21, .inl f_stops)), (q_beside, .inl (cI, 21, .inl f_beside)), (q_found, .inl (cI, 21, .inl f_found))] sz) [(q, .inr (3, [.ref q_bits, .ref q_lesser, .ref q_greater, .int f_placed, .ref q_stops, .int f_groups, .ref q_beside, .ref q_found])), (q_bits, .inl (cI, 21, .inl f_bits)), (q_lesser, .inl (cI, 21, .inl f_lesser)), (q_greater, .inl (cI, 21, .inl f_greater)), (q_stops, .inl (cI, 21, .inl f_stops)), (q_beside, .inl (cI, 21, .inl f_beside)), (q_found, .inl (cI, 21, .inl f_found))] r) 0 0 (va_A [(q, .inr (3, [.ref q_bits, .ref q_lesser, .ref q_greater, .int f_placed, .ref q_stops, .int f_groups, .ref q_beside, .ref q_found])), (q_bits, .inl (cI, 21, .inl f_bits)), (q_lesser, .inl (cI, 21, .inl f_lesser)), (q_greater, .inl (cI, 21, .inl f_greater)), (q_stops, .inl (cI, 21, .inl f_stops)), (q_beside, .inl (cI, 21, .inl f_beside)), (q_found, .inl (cI, 21, .inl f_found))] sz) := by
  unfold m_X3_foundColour at hm
  refine g_openI (cc := cX3_foundColour) (maxL := 2) (own := RX3) (by decide) rfl rfl (Nat.le_of_ble_eq_true rfl) ?_
  intro p e s m args below meth c A Q hx hb hml hown hts hP hK hN hD hA hret ls hl
  have hS : va_S A s.heap s.heap [] := va_S.rf
  have hl : lv_has ls 2 [(0, .ref q), (1, .int a1)] := hl
  refine lv_aload_n hx hb dX3_foundColour_0 rfl (lv_at hl 0 rfl) ?_
  refine va_get (D := D) (ci := 3) (v := .ref q_found) (C := RX3) (T := TX3) (N := 8) hx hb hts (by decide +kernel) hown hK hP 0 rfl rfl 7 (by decide) (hts (.fieldLink RX3 27 "KnotStripes$Painter" "found" "[I") (by decide +kernel)) (fun _ h9 => h9) rfl dX3_foundColour_1 ?_
  refine lv_iload_n hx hb dX3_foundColour_4 rfl (lv_at hl 1 rfl) ?_
  obtain ⟨r_1, h_2, hm⟩ := bind_use hm
  refine g_ki (wc := [(q_found, .inl (cI, 21, .inl f_found))]) (wr := [(q, .inr (3, [.ref q_bits, .ref q_lesser, .ref q_greater, .int f_placed, .ref q_stops, .int f_groups, .ref q_beside, .ref q_found])), (q_bits, .inl (cI, 21, .inl f_bits)), (q_lesser, .inl (cI, 21, .inl f_lesser)), (q_greater, .inl (cI, 21, .inl f_greater)), (q_stops, .inl (cI, 21, .inl f_stops)), (q_beside, .inl (cI, 21, .inl f_beside))]) (w2 := [(q, .inr (3, [.ref q_bits, .ref q_lesser, .ref q_greater, .int f_placed, .ref q_stops, .int f_groups, .ref q_beside, .ref q_found])), (q_bits, .inl (cI, 21, .inl f_bits)), (q_lesser, .inl (cI, 21, .inl f_lesser)), (q_greater, .inl (cI, 21, .inl f_greater)), (q_stops, .inl (cI, 21, .inl f_stops)), (q_beside, .inl (cI, 21, .inl f_beside)), (q_found, .inl (cI, 21, .inl f_found))]) (va_runSN (As := [.ref q_found, .int a1]) (rest := []) ⟨hx, hb, hml, hown, hts⟩ (k_X6_at l D cI cC cN N q_found 21 s.heap.size f_found a1 r_1 h_2) ⟨va_cnB 2 hts gX3_foundColour_X6_at_n37 rfl rfl rfl (hN (.methodLinkNest RX3 37 yX6_at RX6) (by decide +kernel)) (hts (.initialized RX6) (by decide +kernel)) (by decide +kernel) ⟨Nat.le_of_ble_eq_true rfl, Nat.le_of_ble_eq_true rfl⟩, hts (.static yX6_at) (by decide +kernel), trivial⟩ ⟨g_blind, g_pre (hP.sub [6] rfl) hK hN (hD.sub [6] (by decide) rfl)⟩ rfl rfl hl.1 rfl (lv_room (Nat.le_of_ble_eq_true rfl)) dX3_foundColour_5 ⟨Nat.zero_le _, Nat.zero_le _⟩) hP hD hS hA [6] [0, 1, 2, 3, 4, 5] rfl rfl (by decide) (by decide) rfl (fun H locs hP hD hS => ?_)
  have z1 := so_use hm
  subst z1
  exact hret _ _ _ _ _ dX3_foundColour_8 rfl rfl hP hD hS
abbrev rX3_tightest : Room := { frames := 1, cells := 0, slots := 0, locals := 21 }
set_option maxHeartbeats 4000000 in
set_option maxRecDepth 100000 in
theorem k_X3_tightest (l : Launch) (D : va_G) (cI cC cN : ClassId) (N : Nat) (q : Nat) (q_bits : Nat) (q_lesser : Nat) (q_greater : Nat) (q_stops : Nat) (q_beside : Nat) (q_found : Nat) (sz : Nat) (f_bits : Nat → Int32) (f_lesser : Nat → Int32) (f_greater : Nat → Int32) (f_placed : Int32) (f_stops : Nat → Int32) (f_groups : Int32) (f_beside : Nat → Int32) (f_found : Nat → Int32) (a1 : Int32) (a2 : Int32) (a3 : Int32) (r : Int32) (hm : m_X3_tightest N f_beside a1 a2 a3 = some r) : Met l yX3_tightest wsX3_tightest (rX3_tightest) (gPc D (tysG cI cC cN) [.ref q, .int a1, .int a2, .int a3] [(q, .inr (3, [.ref q_bits, .ref q_lesser, .ref q_greater, .int f_placed, .ref q_stops, .int f_groups, .ref q_beside, .ref q_found])), (q_bits, .inl (cI, 21, .inl f_bits)), (q_lesser, .inl (cI, 21, .inl f_lesser)), (q_greater, .inl (cI, 21, .inl f_greater)), (q_stops, .inl (cI, 21, .inl f_stops)), (q_beside, .inl (cI, 21, .inl f_beside)), (q_found, .inl (cI, 21, .inl f_found))] sz) (gQi D (tysG cI cC cN) (va_A [(q, .inr (3, [.ref q_bits, .ref q_lesser, .ref q_greater, .int f_placed, .ref q_stops, .int f_groups, .ref q_beside, .ref q_found])), (q_bits, .inl (cI, 21, .inl f_bits)), (q_lesser, .inl (cI, 21, .inl f_lesser)), (q_greater, .inl (cI, 21, .inl f_greater)), (q_stops, .inl (cI, 21, .inl f_stops)), (q_beside, .inl (cI, 21, .inl f_beside)), (q_found, .inl (cI, 21, .inl f_found))] sz) [(q, .inr (3, [.ref q_bits, .ref q_lesser, .ref q_greater, .int f_placed, .ref q_stops, .int f_groups, .ref q_beside, .ref q_found])), (q_bits, .inl (cI, 21, .inl f_bits)), (q_lesser, .inl (cI, 21, .inl f_lesser)), (q_greater, .inl (cI, 21, .inl f_greater)), (q_stops, .inl (cI, 21, .inl f_stops)), (q_beside, .inl (cI, 21, .inl f_beside)), (q_found, .inl (cI, 21, .inl f_found))] r) 0 0 (va_A [(q, .inr (3, [.ref q_bits, .ref q_lesser, .ref q_greater, .int f_placed, .ref q_stops, .int f_groups, .ref q_beside, .ref q_found])), (q_bits, .inl (cI, 21, .inl f_bits)), (q_lesser, .inl (cI, 21, .inl f_lesser)), (q_greater, .inl (cI, 21, .inl f_greater)), (q_stops, .inl (cI, 21, .inl f_stops)), (q_beside, .inl (cI, 21, .inl f_beside)), (q_found, .inl (cI, 21, .inl f_found))] sz) := by
  unfold m_X3_tightest at hm
  refine g_openI (cc := cX3_tightest) (maxL := 9) (own := RX3) (by decide) rfl rfl (Nat.le_of_ble_eq_true rfl) ?_
  intro p e s m args below meth c A Q hx hb hml hown hts hP hK hN hD hA hret ls hl
  have hS : va_S A s.heap s.heap [] := va_S.rf
  have hl : lv_has ls 9 [(0, .ref q), (1, .int a1), (2, .int a2), (3, .int a3)] := hl
  refine lv_iconst (v := (-1)) hx hb dX3_tightest_0 (by decide) ?_
  refine lv_istore (lv' := [(4, .int (-1)), (0, .ref q), (1, .int a1), (2, .int a2), (3, .int a3)]) hx hb dX3_tightest_1 hl (by decide) rfl (fun ls hl => ?_)
  refine lv_iconst (v := (-1)) hx hb dX3_tightest_3 (by decide) ?_
  refine lv_istore (lv' := [(5, .int (-1)), (4, .int (-1)), (0, .ref q), (1, .int a1), (2, .int a2), (3, .int a3)]) hx hb dX3_tightest_4 hl (by decide) rfl (fun ls hl => ?_)
  refine lv_iconst (v := 0) hx hb dX3_tightest_6 (by decide) ?_
  refine lv_istore (lv' := [(6, .int 0), (5, .int (-1)), (4, .int (-1)), (0, .ref q), (1, .int a1), (2, .int a2), (3, .int a3)]) hx hb dX3_tightest_7 hl (by decide) rfl (fun ls hl => ?_)
  have l9 : ∀ (n_9 : Nat) (x6_1 : Int32) (x5_2 : Int32) (x4_3 : Int32), ∀ (H : Heap) (locs : List Loc) (ls : Array Slot), va_P D vwCl [(q, .inr (3, [.ref q_bits, .ref q_lesser, .ref q_greater, .int f_placed, .ref q_stops, .int f_groups, .ref q_beside, .ref q_found])), (q_bits, .inl (cI, 21, .inl f_bits)), (q_lesser, .inl (cI, 21, .inl f_lesser)), (q_greater, .inl (cI, 21, .inl f_greater)), (q_stops, .inl (cI, 21, .inl f_stops)), (q_beside, .inl (cI, 21, .inl f_beside)), (q_found, .inl (cI, 21, .inl f_found))] H → va_D A [(q, .inr (3, [.ref q_bits, .ref q_lesser, .ref q_greater, .int f_placed, .ref q_stops, .int f_groups, .ref q_beside, .ref q_found])), (q_bits, .inl (cI, 21, .inl f_bits)), (q_lesser, .inl (cI, 21, .inl f_lesser)), (q_greater, .inl (cI, 21, .inl f_greater)), (q_stops, .inl (cI, 21, .inl f_stops)), (q_beside, .inl (cI, 21, .inl f_beside)), (q_found, .inl (cI, 21, .inl f_found))] → va_S A s.heap H locs → lv_has ls 9 [(6, .int x6_1), (5, .int x5_2), (4, .int x4_3), (0, .ref q), (1, .int a1), (2, .int a2), (3, .int a3)] → m_X3_tightest_L9 N f_beside a1 a2 a3 n_9 x6_1 x5_2 x4_3 = some r → W p l e rX3_tightest s m args below meth c H locs 0 0 Q (F0 m 9 ls []) := by
    intro n_9
    induction n_9 with
    | zero => intro x6_1 x5_2 x4_3 H locs ls hP hD hS hl hm; rw [m_X3_tightest_L9] at hm; exact no_use hm
    | succ n_9 ih9 =>
      intro x6_1 x5_2 x4_3 H locs ls hP hD hS hl hm
      rw [m_X3_tightest_L9] at hm
      refine lv_iload hx hb dX3_tightest_9 (lv_at hl 0 rfl) ?_
      refine lv_iload_n hx hb dX3_tightest_11 rfl (lv_at hl 4 rfl) ?_
      refine lv_icmp_ge (tgt := 78) hx hb dX3_tightest_12 (by decide) (fun hc => ?_) (fun hc => ?_)
      · have hm := if_t _ hc hm
        refine lv_iload hx hb dX3_tightest_78 (lv_at hl 2 rfl) ?_
        have z1 := so_use hm
        subst z1
        exact hret _ _ _ _ _ dX3_tightest_80 rfl rfl hP hD hS
      · have hm := if_f _ hc hm
        refine lv_aload_n hx hb dX3_tightest_15 rfl (lv_at hl 3 rfl) ?_
        refine va_get (D := D) (ci := 3) (v := .ref q_beside) (C := RX3) (T := TX3) (N := 8) hx hb hts (by decide +kernel) hown hK hP 0 rfl rfl 6 (by decide) (hts (.fieldLink RX3 24 "KnotStripes$Painter" "beside" "[I") (by decide +kernel)) (fun _ h9 => h9) rfl dX3_tightest_16 ?_
        refine lv_iload hx hb dX3_tightest_19 (lv_at hl 0 rfl) ?_
        obtain ⟨r_4, h_5, hm⟩ := bind_use hm
        refine g_ki (wc := [(q_beside, .inl (cI, 21, .inl f_beside))]) (wr := [(q, .inr (3, [.ref q_bits, .ref q_lesser, .ref q_greater, .int f_placed, .ref q_stops, .int f_groups, .ref q_beside, .ref q_found])), (q_bits, .inl (cI, 21, .inl f_bits)), (q_lesser, .inl (cI, 21, .inl f_lesser)), (q_greater, .inl (cI, 21, .inl f_greater)), (q_stops, .inl (cI, 21, .inl f_stops)), (q_found, .inl (cI, 21, .inl f_found))]) (w2 := [(q, .inr (3, [.ref q_bits, .ref q_lesser, .ref q_greater, .int f_placed, .ref q_stops, .int f_groups, .ref q_beside, .ref q_found])), (q_bits, .inl (cI, 21, .inl f_bits)), (q_lesser, .inl (cI, 21, .inl f_lesser)), (q_greater, .inl (cI, 21, .inl f_greater)), (q_stops, .inl (cI, 21, .inl f_stops)), (q_found, .inl (cI, 21, .inl f_found)), (q_beside, .inl (cI, 21, .inl f_beside))]) (va_runSN (As := [.ref q_beside, .int x6_1]) (rest := []) ⟨hx, hb, hml, hown, hts⟩ (k_X6_at l D cI cC cN N q_beside 21 H.size f_beside x6_1 r_4 h_5) ⟨va_cnB 2 hts gX3_tightest_X6_at_n37 rfl rfl rfl (hN (.methodLinkNest RX3 37 yX6_at RX6) (by decide +kernel)) (hts (.initialized RX6) (by decide +kernel)) (by decide +kernel) ⟨Nat.le_of_ble_eq_true rfl, Nat.le_of_ble_eq_true rfl⟩, hts (.static yX6_at) (by decide +kernel), trivial⟩ ⟨g_blind, g_pre (hP.sub [5] rfl) hK hN (hD.sub [5] (by decide) rfl)⟩ rfl rfl hl.1 rfl (lv_room (Nat.le_of_ble_eq_true rfl)) dX3_tightest_21 ⟨Nat.zero_le _, Nat.zero_le _⟩) hP hD hS hA [5] [0, 1, 2, 3, 4, 6] rfl rfl (by decide) (by decide) rfl (fun H locs hP hD hS => ?_)
        refine lv_istore (lv' := [(7, .int r_4), (6, .int x6_1), (5, .int x5_2), (4, .int x4_3), (0, .ref q), (1, .int a1), (2, .int a2), (3, .int a3)]) hx hb dX3_tightest_24 hl (by decide) rfl (fun ls hl => ?_)
        refine lv_iload_n hx hb dX3_tightest_26 rfl (lv_at hl 6 rfl) ?_
        refine lv_iload hx hb dX3_tightest_27 (lv_at hl 1 rfl) ?_
        obtain ⟨r_6, h_7, hm⟩ := bind_use hm
        refine g_ki (wc := []) (wr := [(q, .inr (3, [.ref q_bits, .ref q_lesser, .ref q_greater, .int f_placed, .ref q_stops, .int f_groups, .ref q_beside, .ref q_found])), (q_bits, .inl (cI, 21, .inl f_bits)), (q_lesser, .inl (cI, 21, .inl f_lesser)), (q_greater, .inl (cI, 21, .inl f_greater)), (q_stops, .inl (cI, 21, .inl f_stops)), (q_found, .inl (cI, 21, .inl f_found)), (q_beside, .inl (cI, 21, .inl f_beside))]) (w2 := [(q, .inr (3, [.ref q_bits, .ref q_lesser, .ref q_greater, .int f_placed, .ref q_stops, .int f_groups, .ref q_beside, .ref q_found])), (q_bits, .inl (cI, 21, .inl f_bits)), (q_lesser, .inl (cI, 21, .inl f_lesser)), (q_greater, .inl (cI, 21, .inl f_greater)), (q_stops, .inl (cI, 21, .inl f_stops)), (q_found, .inl (cI, 21, .inl f_found)), (q_beside, .inl (cI, 21, .inl f_beside))]) (va_runSN (As := [.int a2, .int x6_1]) (rest := []) ⟨hx, hb, hml, hown, hts⟩ (k_X6_holds l D cI cC cN N H.size a2 x6_1 r_6 h_7) ⟨va_cnB 2 hts gX3_tightest_X6_holds_n72 rfl rfl rfl (hN (.methodLinkNest RX3 72 yX6_holds RX6) (by decide +kernel)) (hts (.initialized RX6) (by decide +kernel)) (by decide +kernel) ⟨Nat.le_of_ble_eq_true rfl, Nat.le_of_ble_eq_true rfl⟩, hts (.static yX6_holds) (by decide +kernel), trivial⟩ ⟨g_blind, g_pre (hP.sub [] rfl) hK hN (hD.sub [] (by decide) rfl)⟩ rfl rfl hl.1 rfl (lv_room (Nat.le_of_ble_eq_true rfl)) dX3_tightest_29 ⟨Nat.zero_le _, Nat.zero_le _⟩) hP hD hS hA [] [0, 1, 2, 3, 4, 5, 6] rfl rfl (by decide) (by decide) rfl (fun H locs hP hD hS => ?_)
        refine lv_if_eq (tgt := 72) hx hb dX3_tightest_32 (by decide) (fun hc => ?_) (fun hc => ?_)
        · have hm := if_t _ hc hm
          refine lv_iinc (v := (x6_1 + 1)) (lv' := [(6, .int (x6_1 + 1)), (7, .int r_4), (5, .int x5_2), (4, .int x4_3), (0, .ref q), (1, .int a1), (2, .int a2), (3, .int a3)]) hx hb dX3_tightest_72 hl (k := 1) rfl rfl (by decide) rfl (fun ls hl => ?_)
          refine lv_goto (tgt := 9) hx hb dX3_tightest_75 (by decide) ?_
          exact ih9 (x6_1 + 1) x5_2 x4_3 _ _ _ (hP.sub [0, 1, 2, 3, 4, 6, 5] rfl) (hD.sub [0, 1, 2, 3, 4, 6, 5] (by decide) rfl) hS (lv_sub hl [0, 2, 3, 4, 5, 6, 7] rfl) hm
        · have hm := if_f _ hc hm
          refine lv_iload_n hx hb dX3_tightest_35 rfl (lv_at hl 7 rfl) ?_
          obtain ⟨J46, hJ46, hm⟩ := jn_use hm
          have j46 : ∀ (H : Heap) (locs : List Loc) (ls : Array Slot), va_P D vwCl [(q, .inr (3, [.ref q_bits, .ref q_lesser, .ref q_greater, .int f_placed, .ref q_stops, .int f_groups, .ref q_beside, .ref q_found])), (q_bits, .inl (cI, 21, .inl f_bits)), (q_lesser, .inl (cI, 21, .inl f_lesser)), (q_greater, .inl (cI, 21, .inl f_greater)), (q_stops, .inl (cI, 21, .inl f_stops)), (q_found, .inl (cI, 21, .inl f_found)), (q_beside, .inl (cI, 21, .inl f_beside))] H → va_D A [(q, .inr (3, [.ref q_bits, .ref q_lesser, .ref q_greater, .int f_placed, .ref q_stops, .int f_groups, .ref q_beside, .ref q_found])), (q_bits, .inl (cI, 21, .inl f_bits)), (q_lesser, .inl (cI, 21, .inl f_lesser)), (q_greater, .inl (cI, 21, .inl f_greater)), (q_stops, .inl (cI, 21, .inl f_stops)), (q_found, .inl (cI, 21, .inl f_found)), (q_beside, .inl (cI, 21, .inl f_beside))] → va_S A s.heap H locs → lv_has ls 9 [(7, .int r_4), (6, .int x6_1), (5, .int x5_2), (4, .int x4_3), (0, .ref q), (1, .int a1), (2, .int a2), (3, .int a3)] → J46 = some r → W p l e rX3_tightest s m args below meth c H locs 0 0 Q (F0 m 46 ls []) := by
            intro H locs ls hP hD hS hl hm
            rw [hJ46] at hm
            refine lv_iload hx hb dX3_tightest_46 (lv_at hl 0 rfl) ?_
            refine lv_iload_n hx hb dX3_tightest_48 rfl (lv_at hl 6 rfl) ?_
            refine lv_iconst (v := (-1)) hx hb dX3_tightest_49 (by decide) ?_
            refine lv_ixor hx hb dX3_tightest_50 ?_
            refine lv_iand hx hb dX3_tightest_51 ?_
            obtain ⟨r_8, h_9, hm⟩ := bind_use hm
            refine g_ki (wc := []) (wr := [(q, .inr (3, [.ref q_bits, .ref q_lesser, .ref q_greater, .int f_placed, .ref q_stops, .int f_groups, .ref q_beside, .ref q_found])), (q_bits, .inl (cI, 21, .inl f_bits)), (q_lesser, .inl (cI, 21, .inl f_lesser)), (q_greater, .inl (cI, 21, .inl f_greater)), (q_stops, .inl (cI, 21, .inl f_stops)), (q_found, .inl (cI, 21, .inl f_found)), (q_beside, .inl (cI, 21, .inl f_beside))]) (w2 := [(q, .inr (3, [.ref q_bits, .ref q_lesser, .ref q_greater, .int f_placed, .ref q_stops, .int f_groups, .ref q_beside, .ref q_found])), (q_bits, .inl (cI, 21, .inl f_bits)), (q_lesser, .inl (cI, 21, .inl f_lesser)), (q_greater, .inl (cI, 21, .inl f_greater)), (q_stops, .inl (cI, 21, .inl f_stops)), (q_found, .inl (cI, 21, .inl f_found)), (q_beside, .inl (cI, 21, .inl f_beside))]) (va_runS (As := [.int (r_4 &&& (a2 ^^^ (-1)))]) (rest := []) ⟨hx, hb, hml, hown, hts⟩ (k_J6_bitCount_0f7a4 l D cI cC cN N H.size (r_4 &&& (a2 ^^^ (-1))) r_8 h_9) (va_cwS 1 hts gX3_tightest_J6_bitCount_0f7a4 rfl rfl rfl (by decide +kernel) ⟨Nat.le_of_ble_eq_true rfl, Nat.le_of_ble_eq_true rfl⟩) ⟨g_blind, g_pre (hP.sub [] rfl) hK hN (hD.sub [] (by decide) rfl)⟩ rfl rfl hl.1 rfl (lv_room (Nat.le_of_ble_eq_true rfl)) dX3_tightest_52 ⟨Nat.zero_le _, Nat.zero_le _⟩) hP hD hS hA [] [0, 1, 2, 3, 4, 5, 6] rfl rfl (by decide) (by decide) rfl (fun H locs hP hD hS => ?_)
            refine lv_istore (lv' := [(8, .int r_8), (7, .int r_4), (6, .int x6_1), (5, .int x5_2), (4, .int x4_3), (0, .ref q), (1, .int a1), (2, .int a2), (3, .int a3)]) hx hb dX3_tightest_55 hl (by decide) rfl (fun ls hl => ?_)
            refine lv_iload hx hb dX3_tightest_57 (lv_at hl 0 rfl) ?_
            refine lv_iload hx hb dX3_tightest_59 (lv_at hl 3 rfl) ?_
            refine lv_icmp_le (tgt := 72) hx hb dX3_tightest_61 (by decide) (fun hc => ?_) (fun hc => ?_)
            · have hm := if_t _ hc hm
              refine lv_iinc (v := (x6_1 + 1)) (lv' := [(6, .int (x6_1 + 1)), (8, .int r_8), (7, .int r_4), (5, .int x5_2), (4, .int x4_3), (0, .ref q), (1, .int a1), (2, .int a2), (3, .int a3)]) hx hb dX3_tightest_72 hl (k := 2) rfl rfl (by decide) rfl (fun ls hl => ?_)
              refine lv_goto (tgt := 9) hx hb dX3_tightest_75 (by decide) ?_
              exact ih9 (x6_1 + 1) x5_2 x4_3 _ _ _ (hP.sub [0, 1, 2, 3, 4, 6, 5] rfl) (hD.sub [0, 1, 2, 3, 4, 6, 5] (by decide) rfl) hS (lv_sub hl [0, 3, 4, 5, 6, 7, 8] rfl) hm
            · have hm := if_f _ hc hm
              refine lv_iload hx hb dX3_tightest_64 (lv_at hl 2 rfl) ?_
              refine lv_istore (lv' := [(4, .int x6_1), (8, .int r_8), (7, .int r_4), (6, .int x6_1), (5, .int x5_2), (0, .ref q), (1, .int a1), (2, .int a2), (3, .int a3)]) hx hb dX3_tightest_66 hl (by decide) rfl (fun ls hl => ?_)
              refine lv_iload hx hb dX3_tightest_68 (lv_at hl 1 rfl) ?_
              refine lv_istore (lv' := [(5, .int r_8), (4, .int x6_1), (8, .int r_8), (7, .int r_4), (6, .int x6_1), (0, .ref q), (1, .int a1), (2, .int a2), (3, .int a3)]) hx hb dX3_tightest_70 hl (by decide) rfl (fun ls hl => ?_)
              refine lv_iinc (v := (x6_1 + 1)) (lv' := [(6, .int (x6_1 + 1)), (5, .int r_8), (4, .int x6_1), (8, .int r_8), (7, .int r_4), (0, .ref q), (1, .int a1), (2, .int a2), (3, .int a3)]) hx hb dX3_tightest_72 hl (k := 4) rfl rfl (by decide) rfl (fun ls hl => ?_)
              refine lv_goto (tgt := 9) hx hb dX3_tightest_75 (by decide) ?_
              exact ih9 (x6_1 + 1) r_8 x6_1 _ _ _ (hP.sub [0, 1, 2, 3, 4, 6, 5] rfl) (hD.sub [0, 1, 2, 3, 4, 6, 5] (by decide) rfl) hS (lv_sub hl [0, 1, 2, 5, 6, 7, 8] rfl) hm
          refine lv_if_eq (tgt := 46) hx hb dX3_tightest_36 (by decide) (fun hc => ?_) (fun hc => ?_)
          · have hm := if_t _ hc hm
            exact j46 _ _ _ hP hD hS hl hm
          · have hm := if_f _ hc hm
            refine lv_iload hx hb dX3_tightest_39 (lv_at hl 0 rfl) ?_
            refine lv_iload_n hx hb dX3_tightest_41 rfl (lv_at hl 7 rfl) ?_
            refine lv_iand hx hb dX3_tightest_42 ?_
            refine lv_if_eq (tgt := 72) hx hb dX3_tightest_43 (by decide) (fun hc => ?_) (fun hc => ?_)
            · have hm := if_t _ hc hm
              refine lv_iinc (v := (x6_1 + 1)) (lv' := [(6, .int (x6_1 + 1)), (7, .int r_4), (5, .int x5_2), (4, .int x4_3), (0, .ref q), (1, .int a1), (2, .int a2), (3, .int a3)]) hx hb dX3_tightest_72 hl (k := 1) rfl rfl (by decide) rfl (fun ls hl => ?_)
              refine lv_goto (tgt := 9) hx hb dX3_tightest_75 (by decide) ?_
              exact ih9 (x6_1 + 1) x5_2 x4_3 _ _ _ (hP.sub [0, 1, 2, 3, 4, 6, 5] rfl) (hD.sub [0, 1, 2, 3, 4, 6, 5] (by decide) rfl) hS (lv_sub hl [0, 2, 3, 4, 5, 6, 7] rfl) hm
            · have hm := if_f _ hc hm
              exact j46 _ _ _ hP hD hS hl hm
  exact l9 N 0 (-1) (-1) _ _ _ hP hD hS hl hm
abbrev rX3_arrangeGroup : Room := { frames := 3, cells := 0, slots := 0, locals := 63 }
set_option maxHeartbeats 4000000 in
set_option maxRecDepth 100000 in
theorem k_X3_arrangeGroup (l : Launch) (D : va_G) (cI cC cN : ClassId) (N : Nat) (q : Nat) (q_bits : Nat) (q_lesser : Nat) (q_greater : Nat) (q_stops : Nat) (q_beside : Nat) (q_found : Nat) (q_p0 : Nat) (q_p0_ends : Nat) (q_p0_colours : Nat) (sz : Nat) (f_bits : Nat → Int32) (f_lesser : Nat → Int32) (f_greater : Nat → Int32) (f_placed : Int32) (f_stops : Nat → Int32) (f_groups : Int32) (f_beside : Nat → Int32) (f_found : Nat → Int32) (f_p0_knots : Int32) (f_p0_threads : Int32) (f_p0_ends : Nat → Int32) (f_p0_colours : Nat → Int32) (a2 : Int32) (r : Int32) (f_bits' : Nat → Int32) (f_lesser' : Nat → Int32) (f_greater' : Nat → Int32) (f_placed' : Int32) (f_stops' : Nat → Int32) (f_groups' : Int32) (hm : m_X3_arrangeGroup N f_bits f_lesser f_greater f_placed f_stops f_groups f_beside f_p0_threads f_p0_ends a2 = some (r, f_bits', f_lesser', f_greater', f_placed', f_stops', f_groups')) : Met l yX3_arrangeGroup wsX3_arrangeGroup (rX3_arrangeGroup) (gPc D (tysG cI cC cN) [.ref q, .ref q_p0, .int a2] [(q, .inr (3, [.ref q_bits, .ref q_lesser, .ref q_greater, .int f_placed, .ref q_stops, .int f_groups, .ref q_beside, .ref q_found])), (q_bits, .inl (cI, 21, .inl f_bits)), (q_lesser, .inl (cI, 21, .inl f_lesser)), (q_greater, .inl (cI, 21, .inl f_greater)), (q_stops, .inl (cI, 21, .inl f_stops)), (q_beside, .inl (cI, 21, .inl f_beside)), (q_found, .inl (cI, 21, .inl f_found)), (q_p0, .inr (2, [.int f_p0_knots, .int f_p0_threads, .ref q_p0_ends, .ref q_p0_colours])), (q_p0_ends, .inl (cI, 21, .inl f_p0_ends)), (q_p0_colours, .inl (cI, 21, .inl f_p0_colours))] sz) (gQi D (tysG cI cC cN) (va_A [(q, .inr (3, [.ref q_bits, .ref q_lesser, .ref q_greater, .int f_placed, .ref q_stops, .int f_groups, .ref q_beside, .ref q_found])), (q_bits, .inl (cI, 21, .inl f_bits)), (q_lesser, .inl (cI, 21, .inl f_lesser)), (q_greater, .inl (cI, 21, .inl f_greater)), (q_stops, .inl (cI, 21, .inl f_stops)), (q_beside, .inl (cI, 21, .inl f_beside)), (q_found, .inl (cI, 21, .inl f_found)), (q_p0, .inr (2, [.int f_p0_knots, .int f_p0_threads, .ref q_p0_ends, .ref q_p0_colours])), (q_p0_ends, .inl (cI, 21, .inl f_p0_ends)), (q_p0_colours, .inl (cI, 21, .inl f_p0_colours))] sz) [(q, .inr (3, [.ref q_bits, .ref q_lesser, .ref q_greater, .int f_placed', .ref q_stops, .int f_groups', .ref q_beside, .ref q_found])), (q_bits, .inl (cI, 21, .inl f_bits')), (q_lesser, .inl (cI, 21, .inl f_lesser')), (q_greater, .inl (cI, 21, .inl f_greater')), (q_stops, .inl (cI, 21, .inl f_stops')), (q_beside, .inl (cI, 21, .inl f_beside)), (q_found, .inl (cI, 21, .inl f_found)), (q_p0, .inr (2, [.int f_p0_knots, .int f_p0_threads, .ref q_p0_ends, .ref q_p0_colours])), (q_p0_ends, .inl (cI, 21, .inl f_p0_ends)), (q_p0_colours, .inl (cI, 21, .inl f_p0_colours))] r) 0 0 (va_A [(q, .inr (3, [.ref q_bits, .ref q_lesser, .ref q_greater, .int f_placed, .ref q_stops, .int f_groups, .ref q_beside, .ref q_found])), (q_bits, .inl (cI, 21, .inl f_bits)), (q_lesser, .inl (cI, 21, .inl f_lesser)), (q_greater, .inl (cI, 21, .inl f_greater)), (q_stops, .inl (cI, 21, .inl f_stops)), (q_beside, .inl (cI, 21, .inl f_beside)), (q_found, .inl (cI, 21, .inl f_found)), (q_p0, .inr (2, [.int f_p0_knots, .int f_p0_threads, .ref q_p0_ends, .ref q_p0_colours])), (q_p0_ends, .inl (cI, 21, .inl f_p0_ends)), (q_p0_colours, .inl (cI, 21, .inl f_p0_colours))] sz) := by
  unfold m_X3_arrangeGroup at hm
  refine g_openI (cc := cX3_arrangeGroup) (maxL := 7) (own := RX3) (by decide) rfl rfl (Nat.le_of_ble_eq_true rfl) ?_
  intro p e s m args below meth c A Q hx hb hml hown hts hP hK hN hD hA hret ls hl
  have hS : va_S A s.heap s.heap [] := va_S.rf
  have hl : lv_has ls 7 [(0, .ref q), (1, .ref q_p0), (2, .int a2)] := hl
  refine lv_iload_n hx hb dX3_arrangeGroup_0 rfl (lv_at hl 2 rfl) ?_
  refine lv_istore_n (lv' := [(3, .int a2), (0, .ref q), (1, .ref q_p0), (2, .int a2)]) hx hb dX3_arrangeGroup_1 rfl hl (by decide) rfl (fun ls hl => ?_)
  refine lv_iconst (v := 0) hx hb dX3_arrangeGroup_2 (by decide) ?_
  refine lv_istore (lv' := [(4, .int 0), (3, .int a2), (0, .ref q), (1, .ref q_p0), (2, .int a2)]) hx hb dX3_arrangeGroup_3 hl (by decide) rfl (fun ls hl => ?_)
  refine lv_iconst (v := 0) hx hb dX3_arrangeGroup_5 (by decide) ?_
  refine lv_istore (lv' := [(5, .int 0), (4, .int 0), (3, .int a2), (0, .ref q), (1, .ref q_p0), (2, .int a2)]) hx hb dX3_arrangeGroup_6 hl (by decide) rfl (fun ls hl => ?_)
  obtain ⟨J126, hJ126, hm⟩ := jn_use hm
  have j126 : ∀ (x3_1 : Int32) (f_bits_2 : Nat → Int32) (f_lesser_3 : Nat → Int32) (f_greater_4 : Nat → Int32) (f_placed_5 : Int32), ∀ (H : Heap) (locs : List Loc) (ls : Array Slot), va_P D vwCl [(q, .inr (3, [.ref q_bits, .ref q_lesser, .ref q_greater, .int f_placed_5, .ref q_stops, .int f_groups, .ref q_beside, .ref q_found])), (q_bits, .inl (cI, 21, .inl f_bits_2)), (q_lesser, .inl (cI, 21, .inl f_lesser_3)), (q_greater, .inl (cI, 21, .inl f_greater_4)), (q_stops, .inl (cI, 21, .inl f_stops)), (q_beside, .inl (cI, 21, .inl f_beside)), (q_found, .inl (cI, 21, .inl f_found)), (q_p0, .inr (2, [.int f_p0_knots, .int f_p0_threads, .ref q_p0_ends, .ref q_p0_colours])), (q_p0_ends, .inl (cI, 21, .inl f_p0_ends)), (q_p0_colours, .inl (cI, 21, .inl f_p0_colours))] H → va_D A [(q, .inr (3, [.ref q_bits, .ref q_lesser, .ref q_greater, .int f_placed_5, .ref q_stops, .int f_groups, .ref q_beside, .ref q_found])), (q_bits, .inl (cI, 21, .inl f_bits_2)), (q_lesser, .inl (cI, 21, .inl f_lesser_3)), (q_greater, .inl (cI, 21, .inl f_greater_4)), (q_stops, .inl (cI, 21, .inl f_stops)), (q_beside, .inl (cI, 21, .inl f_beside)), (q_found, .inl (cI, 21, .inl f_found)), (q_p0, .inr (2, [.int f_p0_knots, .int f_p0_threads, .ref q_p0_ends, .ref q_p0_colours])), (q_p0_ends, .inl (cI, 21, .inl f_p0_ends)), (q_p0_colours, .inl (cI, 21, .inl f_p0_colours))] → va_S A s.heap H locs → lv_has ls 7 [(3, .int x3_1), (0, .ref q)] → J126 x3_1 f_bits_2 f_lesser_3 f_greater_4 f_placed_5 = some (r, f_bits', f_lesser', f_greater', f_placed', f_stops', f_groups') → W p l e rX3_arrangeGroup s m args below meth c H locs 0 0 Q (F0 m 126 ls []) := by
    intro x3_1 f_bits_2 f_lesser_3 f_greater_4 f_placed_5 H locs ls hP hD hS hl hm
    rw [hJ126] at hm
    refine lv_aload_n hx hb dX3_arrangeGroup_126 rfl (lv_at hl 1 rfl) ?_
    refine va_get (D := D) (ci := 3) (v := .ref q_stops) (C := RX3) (T := TX3) (N := 8) hx hb hts (by decide +kernel) hown hK hP 0 rfl rfl 4 (by decide) (hts (.fieldLink RX3 21 "KnotStripes$Painter" "stops" "[I") (by decide +kernel)) (fun _ h9 => h9) rfl dX3_arrangeGroup_127 ?_
    refine lv_aload_n hx hb dX3_arrangeGroup_130 rfl (lv_at hl 1 rfl) ?_
    refine va_get (D := D) (ci := 3) (v := .int f_groups) (C := RX3) (T := TX3) (N := 8) hx hb hts (by decide +kernel) hown hK hP 0 rfl rfl 5 (by decide) (hts (.fieldLink RX3 34 "KnotStripes$Painter" "groups" "I") (by decide +kernel)) (fun _ h9 => h9) rfl dX3_arrangeGroup_131 ?_
    refine lv_aload_n hx hb dX3_arrangeGroup_134 rfl (lv_at hl 1 rfl) ?_
    refine va_get (D := D) (ci := 3) (v := .int f_placed_5) (C := RX3) (T := TX3) (N := 8) hx hb hts (by decide +kernel) hown hK hP 0 rfl rfl 3 (by decide) (hts (.fieldLink RX3 30 "KnotStripes$Painter" "placed" "I") (by decide +kernel)) (fun _ h9 => h9) rfl dX3_arrangeGroup_135 ?_
    obtain ⟨f_stops_6, h_7, hm⟩ := bind_use hm
    refine g_kv (wc := [(q_stops, .inl (cI, 21, .inl f_stops))]) (wr := [(q, .inr (3, [.ref q_bits, .ref q_lesser, .ref q_greater, .int f_placed_5, .ref q_stops, .int f_groups, .ref q_beside, .ref q_found])), (q_bits, .inl (cI, 21, .inl f_bits_2)), (q_lesser, .inl (cI, 21, .inl f_lesser_3)), (q_greater, .inl (cI, 21, .inl f_greater_4)), (q_beside, .inl (cI, 21, .inl f_beside)), (q_found, .inl (cI, 21, .inl f_found)), (q_p0, .inr (2, [.int f_p0_knots, .int f_p0_threads, .ref q_p0_ends, .ref q_p0_colours])), (q_p0_ends, .inl (cI, 21, .inl f_p0_ends)), (q_p0_colours, .inl (cI, 21, .inl f_p0_colours))]) (w2 := [(q, .inr (3, [.ref q_bits, .ref q_lesser, .ref q_greater, .int f_placed_5, .ref q_stops, .int f_groups, .ref q_beside, .ref q_found])), (q_bits, .inl (cI, 21, .inl f_bits_2)), (q_lesser, .inl (cI, 21, .inl f_lesser_3)), (q_greater, .inl (cI, 21, .inl f_greater_4)), (q_beside, .inl (cI, 21, .inl f_beside)), (q_found, .inl (cI, 21, .inl f_found)), (q_p0, .inr (2, [.int f_p0_knots, .int f_p0_threads, .ref q_p0_ends, .ref q_p0_colours])), (q_p0_ends, .inl (cI, 21, .inl f_p0_ends)), (q_p0_colours, .inl (cI, 21, .inl f_p0_colours)), (q_stops, .inl (cI, 21, .inl f_stops_6))]) (va_runSN (As := [.ref q_stops, .int f_groups, .int f_placed_5]) (rest := []) ⟨hx, hb, hml, hown, hts⟩ (k_X6_put l D cI cC cN N q_stops 21 H.size f_stops f_groups f_placed_5 f_stops_6 h_7) ⟨va_cnB 3 hts gX3_arrangeGroup_X6_put_n90 rfl rfl rfl (hN (.methodLinkNest RX3 90 yX6_put RX6) (by decide +kernel)) (hts (.initialized RX6) (by decide +kernel)) (by decide +kernel) ⟨Nat.le_of_ble_eq_true rfl, Nat.le_of_ble_eq_true rfl⟩, hts (.static yX6_put) (by decide +kernel), trivial⟩ ⟨g_blind, g_pre (hP.sub [4] rfl) hK hN (hD.sub [4] (by decide) rfl)⟩ rfl rfl hl.1 rfl (lv_room (Nat.le_of_ble_eq_true rfl)) dX3_arrangeGroup_138 ⟨Nat.zero_le _, Nat.zero_le _⟩) hP hD hS hA [4] [0, 1, 2, 3, 5, 6, 7, 8, 9] rfl rfl (by decide) (by decide) rfl (fun H locs hP hD hS => ?_)
    refine lv_aload_n hx hb dX3_arrangeGroup_141 rfl (lv_at hl 1 rfl) ?_
    refine lv_dup hx hb dX3_arrangeGroup_142 rfl ?_
    refine va_get (D := D) (ci := 3) (v := .int f_groups) (C := RX3) (T := TX3) (N := 8) hx hb hts (by decide +kernel) hown hK hP 0 rfl rfl 5 (by decide) (hts (.fieldLink RX3 34 "KnotStripes$Painter" "groups" "I") (by decide +kernel)) (fun _ h9 => h9) rfl dX3_arrangeGroup_143 ?_
    refine lv_iconst (v := 1) hx hb dX3_arrangeGroup_146 (by decide) ?_
    refine lv_iadd hx hb dX3_arrangeGroup_147 ?_
    refine W.eq (g2 := F0 m 148 ls (.int (f_groups + 1) :: [.ref q])) rfl ?_
    refine lv_topi (fun w_8 ew_8 => ?_)
    have hm := nm_use ew_8 hm
    refine va_put (D := D) (ci := 3) (v := .int w_8) (ty := .int) (C := RX3) (T := TX3) (N := 8) hx hb hts (by decide +kernel) tyX3 tyX3_ok nmX3 hown hK hP hD hS 0 rfl rfl 5 (by decide) (hts (.fieldLink RX3 34 "KnotStripes$Painter" "groups" "I") (by decide +kernel)) (fun _ h9 => h9) rfl (by decide +kernel) rfl rfl (Nat.le_of_ble_eq_true rfl) dX3_arrangeGroup_148 (fun H locs hP hD hS => ?_)
    have hP : va_P D vwCl [(q, .inr (3, [.ref q_bits, .ref q_lesser, .ref q_greater, .int f_placed_5, .ref q_stops, .int w_8, .ref q_beside, .ref q_found])), (q_bits, .inl (cI, 21, .inl f_bits_2)), (q_lesser, .inl (cI, 21, .inl f_lesser_3)), (q_greater, .inl (cI, 21, .inl f_greater_4)), (q_beside, .inl (cI, 21, .inl f_beside)), (q_found, .inl (cI, 21, .inl f_found)), (q_p0, .inr (2, [.int f_p0_knots, .int f_p0_threads, .ref q_p0_ends, .ref q_p0_colours])), (q_p0_ends, .inl (cI, 21, .inl f_p0_ends)), (q_p0_colours, .inl (cI, 21, .inl f_p0_colours)), (q_stops, .inl (cI, 21, .inl f_stops_6))] H := hP
    have hD : va_D A [(q, .inr (3, [.ref q_bits, .ref q_lesser, .ref q_greater, .int f_placed_5, .ref q_stops, .int w_8, .ref q_beside, .ref q_found])), (q_bits, .inl (cI, 21, .inl f_bits_2)), (q_lesser, .inl (cI, 21, .inl f_lesser_3)), (q_greater, .inl (cI, 21, .inl f_greater_4)), (q_beside, .inl (cI, 21, .inl f_beside)), (q_found, .inl (cI, 21, .inl f_found)), (q_p0, .inr (2, [.int f_p0_knots, .int f_p0_threads, .ref q_p0_ends, .ref q_p0_colours])), (q_p0_ends, .inl (cI, 21, .inl f_p0_ends)), (q_p0_colours, .inl (cI, 21, .inl f_p0_colours)), (q_stops, .inl (cI, 21, .inl f_stops_6))] := hD
    refine lv_iload_n hx hb dX3_arrangeGroup_151 rfl (lv_at hl 0 rfl) ?_
    have z1 := so_use hm
    obtain ⟨y1, z2⟩ := pr_use z1
    obtain ⟨y2, z3⟩ := pr_use z2
    obtain ⟨y3, z4⟩ := pr_use z3
    obtain ⟨y4, z5⟩ := pr_use z4
    obtain ⟨y5, z6⟩ := pr_use z5
    obtain ⟨y6, z7⟩ := pr_use z6
    subst y1
    subst y2
    subst y3
    subst y4
    subst y5
    subst y6
    subst z7
    exact hret _ _ _ _ _ dX3_arrangeGroup_152 rfl rfl (hP.sub [0, 1, 2, 3, 9, 4, 5, 6, 7, 8] rfl) (hD.sub [0, 1, 2, 3, 9, 4, 5, 6, 7, 8] (by decide) rfl) hS
  obtain ⟨J33, hJ33, hm⟩ := jn_use hm
  have j33 : ∀ (x3_9 : Int32) (f_bits_10 : Nat → Int32) (f_lesser_11 : Nat → Int32) (f_greater_12 : Nat → Int32) (f_placed_13 : Int32), ∀ (H : Heap) (locs : List Loc) (ls : Array Slot), va_P D vwCl [(q, .inr (3, [.ref q_bits, .ref q_lesser, .ref q_greater, .int f_placed_13, .ref q_stops, .int f_groups, .ref q_beside, .ref q_found])), (q_bits, .inl (cI, 21, .inl f_bits_10)), (q_lesser, .inl (cI, 21, .inl f_lesser_11)), (q_greater, .inl (cI, 21, .inl f_greater_12)), (q_stops, .inl (cI, 21, .inl f_stops)), (q_beside, .inl (cI, 21, .inl f_beside)), (q_found, .inl (cI, 21, .inl f_found)), (q_p0, .inr (2, [.int f_p0_knots, .int f_p0_threads, .ref q_p0_ends, .ref q_p0_colours])), (q_p0_ends, .inl (cI, 21, .inl f_p0_ends)), (q_p0_colours, .inl (cI, 21, .inl f_p0_colours))] H → va_D A [(q, .inr (3, [.ref q_bits, .ref q_lesser, .ref q_greater, .int f_placed_13, .ref q_stops, .int f_groups, .ref q_beside, .ref q_found])), (q_bits, .inl (cI, 21, .inl f_bits_10)), (q_lesser, .inl (cI, 21, .inl f_lesser_11)), (q_greater, .inl (cI, 21, .inl f_greater_12)), (q_stops, .inl (cI, 21, .inl f_stops)), (q_beside, .inl (cI, 21, .inl f_beside)), (q_found, .inl (cI, 21, .inl f_found)), (q_p0, .inr (2, [.int f_p0_knots, .int f_p0_threads, .ref q_p0_ends, .ref q_p0_colours])), (q_p0_ends, .inl (cI, 21, .inl f_p0_ends)), (q_p0_colours, .inl (cI, 21, .inl f_p0_colours))] → va_S A s.heap H locs → lv_has ls 7 [(3, .int x3_9), (0, .ref q)] → J33 x3_9 f_bits_10 f_lesser_11 f_greater_12 f_placed_13 = some (r, f_bits', f_lesser', f_greater', f_placed', f_stops', f_groups') → W p l e rX3_arrangeGroup s m args below meth c H locs 0 0 Q (F0 m 33 ls []) := by
    intro x3_9 f_bits_10 f_lesser_11 f_greater_12 f_placed_13 H locs ls hP hD hS hl hm
    rw [hJ33] at hm
    refine lv_goto (tgt := 126) hx hb dX3_arrangeGroup_33 (by decide) ?_
    exact j126 x3_9 f_bits_10 f_lesser_11 f_greater_12 f_placed_13 _ _ _ hP hD hS hl hm
  have l8 : ∀ (n_8 : Nat) (x5_14 : Int32) (x4_15 : Int32) (x3_16 : Int32) (f_bits_17 : Nat → Int32) (f_lesser_18 : Nat → Int32) (f_greater_19 : Nat → Int32) (f_placed_20 : Int32), ∀ (H : Heap) (locs : List Loc) (ls : Array Slot), va_P D vwCl [(q, .inr (3, [.ref q_bits, .ref q_lesser, .ref q_greater, .int f_placed_20, .ref q_stops, .int f_groups, .ref q_beside, .ref q_found])), (q_bits, .inl (cI, 21, .inl f_bits_17)), (q_lesser, .inl (cI, 21, .inl f_lesser_18)), (q_greater, .inl (cI, 21, .inl f_greater_19)), (q_stops, .inl (cI, 21, .inl f_stops)), (q_beside, .inl (cI, 21, .inl f_beside)), (q_found, .inl (cI, 21, .inl f_found)), (q_p0, .inr (2, [.int f_p0_knots, .int f_p0_threads, .ref q_p0_ends, .ref q_p0_colours])), (q_p0_ends, .inl (cI, 21, .inl f_p0_ends)), (q_p0_colours, .inl (cI, 21, .inl f_p0_colours))] H → va_D A [(q, .inr (3, [.ref q_bits, .ref q_lesser, .ref q_greater, .int f_placed_20, .ref q_stops, .int f_groups, .ref q_beside, .ref q_found])), (q_bits, .inl (cI, 21, .inl f_bits_17)), (q_lesser, .inl (cI, 21, .inl f_lesser_18)), (q_greater, .inl (cI, 21, .inl f_greater_19)), (q_stops, .inl (cI, 21, .inl f_stops)), (q_beside, .inl (cI, 21, .inl f_beside)), (q_found, .inl (cI, 21, .inl f_found)), (q_p0, .inr (2, [.int f_p0_knots, .int f_p0_threads, .ref q_p0_ends, .ref q_p0_colours])), (q_p0_ends, .inl (cI, 21, .inl f_p0_ends)), (q_p0_colours, .inl (cI, 21, .inl f_p0_colours))] → va_S A s.heap H locs → lv_has ls 7 [(5, .int x5_14), (4, .int x4_15), (3, .int x3_16), (0, .ref q), (1, .ref q_p0)] → m_X3_arrangeGroup_L8 N f_beside f_p0_threads f_p0_ends J126 J33 n_8 x5_14 x4_15 x3_16 f_bits_17 f_lesser_18 f_greater_19 f_placed_20 = some (r, f_bits', f_lesser', f_greater', f_placed', f_stops', f_groups') → W p l e rX3_arrangeGroup s m args below meth c H locs 0 0 Q (F0 m 8 ls []) := by
    intro n_8
    induction n_8 with
    | zero => intro x5_14 x4_15 x3_16 f_bits_17 f_lesser_18 f_greater_19 f_placed_20 H locs ls hP hD hS hl hm; rw [m_X3_arrangeGroup_L8] at hm; exact no_use hm
    | succ n_8 ih8 =>
      intro x5_14 x4_15 x3_16 f_bits_17 f_lesser_18 f_greater_19 f_placed_20 H locs ls hP hD hS hl hm
      rw [m_X3_arrangeGroup_L8] at hm
      refine lv_iload hx hb dX3_arrangeGroup_8 (lv_at hl 0 rfl) ?_
      refine lv_bipush (v := 21) hx hb dX3_arrangeGroup_10 (by decide) ?_
      refine lv_icmp_ge (tgt := 126) hx hb dX3_arrangeGroup_12 (by decide) (fun hc => ?_) (fun hc => ?_)
      · have hm := if_t _ hc hm
        exact j126 x3_16 f_bits_17 f_lesser_18 f_greater_19 f_placed_20 _ _ _ hP hD hS (lv_sub hl [2, 3] rfl) hm
      · have hm := if_f _ hc hm
        refine lv_aload_n hx hb dX3_arrangeGroup_15 rfl (lv_at hl 3 rfl) ?_
        refine lv_aload_n hx hb dX3_arrangeGroup_16 rfl (lv_at hl 4 rfl) ?_
        obtain ⟨r_21, h_22, hm⟩ := bind_use hm
        refine g_ki (wc := [(q_p0, .inr (2, [.int f_p0_knots, .int f_p0_threads, .ref q_p0_ends, .ref q_p0_colours])), (q_p0_ends, .inl (cI, 21, .inl f_p0_ends)), (q_p0_colours, .inl (cI, 21, .inl f_p0_colours))]) (wr := [(q, .inr (3, [.ref q_bits, .ref q_lesser, .ref q_greater, .int f_placed_20, .ref q_stops, .int f_groups, .ref q_beside, .ref q_found])), (q_bits, .inl (cI, 21, .inl f_bits_17)), (q_lesser, .inl (cI, 21, .inl f_lesser_18)), (q_greater, .inl (cI, 21, .inl f_greater_19)), (q_stops, .inl (cI, 21, .inl f_stops)), (q_beside, .inl (cI, 21, .inl f_beside)), (q_found, .inl (cI, 21, .inl f_found))]) (w2 := [(q, .inr (3, [.ref q_bits, .ref q_lesser, .ref q_greater, .int f_placed_20, .ref q_stops, .int f_groups, .ref q_beside, .ref q_found])), (q_bits, .inl (cI, 21, .inl f_bits_17)), (q_lesser, .inl (cI, 21, .inl f_lesser_18)), (q_greater, .inl (cI, 21, .inl f_greater_19)), (q_stops, .inl (cI, 21, .inl f_stops)), (q_beside, .inl (cI, 21, .inl f_beside)), (q_found, .inl (cI, 21, .inl f_found)), (q_p0, .inr (2, [.int f_p0_knots, .int f_p0_threads, .ref q_p0_ends, .ref q_p0_colours])), (q_p0_ends, .inl (cI, 21, .inl f_p0_ends)), (q_p0_colours, .inl (cI, 21, .inl f_p0_colours))]) (va_runV (As := []) (rest := [.ref q]) ⟨hx, hb, hml, hown, hts⟩ (k_X2_threads l D cI cC cN N q_p0 q_p0_ends q_p0_colours H.size f_p0_knots f_p0_threads f_p0_ends f_p0_colours r_21 h_22) (cwV 0 hts gX3_arrangeGroup_X2_threads rfl rfl rfl (by decide +kernel) ⟨Nat.le_of_ble_eq_true rfl, Nat.le_of_ble_eq_true rfl⟩) ⟨g_blind, va_recv (D := D) (ci := 2) (q0 := 7) hK hP rfl rfl, g_pre (hP.sub [7, 8, 9] rfl) hK hN (hD.sub [7, 8, 9] (by decide) rfl)⟩ rfl rfl hl.1 rfl (lv_room (Nat.le_of_ble_eq_true rfl)) dX3_arrangeGroup_17 ⟨Nat.zero_le _, Nat.zero_le _⟩) hP hD hS hA [7, 8, 9] [0, 1, 2, 3, 4, 5, 6] rfl rfl (by decide) (by decide) rfl (fun H locs hP hD hS => ?_)
        refine lv_iload_n hx hb dX3_arrangeGroup_20 rfl (lv_at hl 2 rfl) ?_
        refine lv_iload hx hb dX3_arrangeGroup_21 (lv_at hl 1 rfl) ?_
        obtain ⟨r_23, h_24, hm⟩ := bind_use hm
        refine g_ki (wc := [(q, .inr (3, [.ref q_bits, .ref q_lesser, .ref q_greater, .int f_placed_20, .ref q_stops, .int f_groups, .ref q_beside, .ref q_found])), (q_bits, .inl (cI, 21, .inl f_bits_17)), (q_lesser, .inl (cI, 21, .inl f_lesser_18)), (q_greater, .inl (cI, 21, .inl f_greater_19)), (q_stops, .inl (cI, 21, .inl f_stops)), (q_beside, .inl (cI, 21, .inl f_beside)), (q_found, .inl (cI, 21, .inl f_found))]) (wr := [(q_p0, .inr (2, [.int f_p0_knots, .int f_p0_threads, .ref q_p0_ends, .ref q_p0_colours])), (q_p0_ends, .inl (cI, 21, .inl f_p0_ends)), (q_p0_colours, .inl (cI, 21, .inl f_p0_colours))]) (w2 := [(q_p0, .inr (2, [.int f_p0_knots, .int f_p0_threads, .ref q_p0_ends, .ref q_p0_colours])), (q_p0_ends, .inl (cI, 21, .inl f_p0_ends)), (q_p0_colours, .inl (cI, 21, .inl f_p0_colours)), (q, .inr (3, [.ref q_bits, .ref q_lesser, .ref q_greater, .int f_placed_20, .ref q_stops, .int f_groups, .ref q_beside, .ref q_found])), (q_bits, .inl (cI, 21, .inl f_bits_17)), (q_lesser, .inl (cI, 21, .inl f_lesser_18)), (q_greater, .inl (cI, 21, .inl f_greater_19)), (q_stops, .inl (cI, 21, .inl f_stops)), (q_beside, .inl (cI, 21, .inl f_beside)), (q_found, .inl (cI, 21, .inl f_found))]) (va_runV (As := [.int r_21, .int x3_16, .int x4_15]) (rest := []) ⟨hx, hb, hml, hown, hts⟩ (k_X3_tightest l D cI cC cN N q q_bits q_lesser q_greater q_stops q_beside q_found H.size f_bits_17 f_lesser_18 f_greater_19 f_placed_20 f_stops f_groups f_beside f_found r_21 x3_16 x4_15 r_23 h_24) (cwV 3 hts gX3_arrangeGroup_X3_tightest rfl rfl rfl (by decide +kernel) ⟨Nat.le_of_ble_eq_true rfl, Nat.le_of_ble_eq_true rfl⟩) ⟨g_blind, va_recv (D := D) (ci := 3) (q0 := 0) hK hP rfl rfl, g_pre (hP.sub [0, 1, 2, 3, 4, 5, 6] rfl) hK hN (hD.sub [0, 1, 2, 3, 4, 5, 6] (by decide) rfl)⟩ rfl rfl hl.1 rfl (lv_room (Nat.le_of_ble_eq_true rfl)) dX3_arrangeGroup_23 ⟨Nat.zero_le _, Nat.zero_le _⟩) hP hD hS hA [0, 1, 2, 3, 4, 5, 6] [7, 8, 9] rfl rfl (by decide) (by decide) rfl (fun H locs hP hD hS => ?_)
        refine lv_istore (lv' := [(6, .int r_23), (5, .int x5_14), (4, .int x4_15), (3, .int x3_16), (0, .ref q), (1, .ref q_p0)]) hx hb dX3_arrangeGroup_26 hl (by decide) rfl (fun ls hl => ?_)
        refine lv_iload hx hb dX3_arrangeGroup_28 (lv_at hl 0 rfl) ?_
        refine lv_if_ge (tgt := 36) hx hb dX3_arrangeGroup_30 (by decide) (fun hc => ?_) (fun hc => ?_)
        · have hm := if_t _ hc hm
          refine lv_aload_n hx hb dX3_arrangeGroup_36 rfl (lv_at hl 4 rfl) ?_
          refine va_get (D := D) (ci := 3) (v := .ref q_bits) (C := RX3) (T := TX3) (N := 8) hx hb hts (by decide +kernel) hown hK hP 3 rfl rfl 0 (by decide) (hts (.fieldLink RX3 9 "KnotStripes$Painter" "bits" "[I") (by decide +kernel)) (fun _ h9 => h9) rfl dX3_arrangeGroup_37 ?_
          refine lv_aload_n hx hb dX3_arrangeGroup_40 rfl (lv_at hl 4 rfl) ?_
          refine va_get (D := D) (ci := 3) (v := .int f_placed_20) (C := RX3) (T := TX3) (N := 8) hx hb hts (by decide +kernel) hown hK hP 3 rfl rfl 3 (by decide) (hts (.fieldLink RX3 30 "KnotStripes$Painter" "placed" "I") (by decide +kernel)) (fun _ h9 => h9) rfl dX3_arrangeGroup_41 ?_
          refine lv_iload hx hb dX3_arrangeGroup_44 (lv_at hl 0 rfl) ?_
          obtain ⟨r_25, h_26, hm⟩ := bind_use hm
          refine g_ki (wc := []) (wr := [(q_p0, .inr (2, [.int f_p0_knots, .int f_p0_threads, .ref q_p0_ends, .ref q_p0_colours])), (q_p0_ends, .inl (cI, 21, .inl f_p0_ends)), (q_p0_colours, .inl (cI, 21, .inl f_p0_colours)), (q, .inr (3, [.ref q_bits, .ref q_lesser, .ref q_greater, .int f_placed_20, .ref q_stops, .int f_groups, .ref q_beside, .ref q_found])), (q_bits, .inl (cI, 21, .inl f_bits_17)), (q_lesser, .inl (cI, 21, .inl f_lesser_18)), (q_greater, .inl (cI, 21, .inl f_greater_19)), (q_stops, .inl (cI, 21, .inl f_stops)), (q_beside, .inl (cI, 21, .inl f_beside)), (q_found, .inl (cI, 21, .inl f_found))]) (w2 := [(q_p0, .inr (2, [.int f_p0_knots, .int f_p0_threads, .ref q_p0_ends, .ref q_p0_colours])), (q_p0_ends, .inl (cI, 21, .inl f_p0_ends)), (q_p0_colours, .inl (cI, 21, .inl f_p0_colours)), (q, .inr (3, [.ref q_bits, .ref q_lesser, .ref q_greater, .int f_placed_20, .ref q_stops, .int f_groups, .ref q_beside, .ref q_found])), (q_bits, .inl (cI, 21, .inl f_bits_17)), (q_lesser, .inl (cI, 21, .inl f_lesser_18)), (q_greater, .inl (cI, 21, .inl f_greater_19)), (q_stops, .inl (cI, 21, .inl f_stops)), (q_beside, .inl (cI, 21, .inl f_beside)), (q_found, .inl (cI, 21, .inl f_found))]) (va_runSN (As := [.int r_23]) (rest := [.int f_placed_20, .ref q_bits]) ⟨hx, hb, hml, hown, hts⟩ (k_X6_bit l D cI cC cN N H.size r_23 r_25 h_26) ⟨va_cnB 1 hts gX3_arrangeGroup_X6_bit_n76 rfl rfl rfl (hN (.methodLinkNest RX3 76 yX6_bit RX6) (by decide +kernel)) (hts (.initialized RX6) (by decide +kernel)) (by decide +kernel) ⟨Nat.le_of_ble_eq_true rfl, Nat.le_of_ble_eq_true rfl⟩, hts (.static yX6_bit) (by decide +kernel), trivial⟩ ⟨g_blind, g_pre (hP.sub [] rfl) hK hN (hD.sub [] (by decide) rfl)⟩ rfl rfl hl.1 rfl (lv_room (Nat.le_of_ble_eq_true rfl)) dX3_arrangeGroup_46 ⟨Nat.zero_le _, Nat.zero_le _⟩) hP hD hS hA [] [0, 1, 2, 3, 4, 5, 6, 7, 8, 9] rfl rfl (by decide) (by decide) rfl (fun H locs hP hD hS => ?_)
          obtain ⟨f_bits_27, h_28, hm⟩ := bind_use hm
          refine g_kv (wc := [(q_bits, .inl (cI, 21, .inl f_bits_17))]) (wr := [(q_p0, .inr (2, [.int f_p0_knots, .int f_p0_threads, .ref q_p0_ends, .ref q_p0_colours])), (q_p0_ends, .inl (cI, 21, .inl f_p0_ends)), (q_p0_colours, .inl (cI, 21, .inl f_p0_colours)), (q, .inr (3, [.ref q_bits, .ref q_lesser, .ref q_greater, .int f_placed_20, .ref q_stops, .int f_groups, .ref q_beside, .ref q_found])), (q_lesser, .inl (cI, 21, .inl f_lesser_18)), (q_greater, .inl (cI, 21, .inl f_greater_19)), (q_stops, .inl (cI, 21, .inl f_stops)), (q_beside, .inl (cI, 21, .inl f_beside)), (q_found, .inl (cI, 21, .inl f_found))]) (w2 := [(q_p0, .inr (2, [.int f_p0_knots, .int f_p0_threads, .ref q_p0_ends, .ref q_p0_colours])), (q_p0_ends, .inl (cI, 21, .inl f_p0_ends)), (q_p0_colours, .inl (cI, 21, .inl f_p0_colours)), (q, .inr (3, [.ref q_bits, .ref q_lesser, .ref q_greater, .int f_placed_20, .ref q_stops, .int f_groups, .ref q_beside, .ref q_found])), (q_lesser, .inl (cI, 21, .inl f_lesser_18)), (q_greater, .inl (cI, 21, .inl f_greater_19)), (q_stops, .inl (cI, 21, .inl f_stops)), (q_beside, .inl (cI, 21, .inl f_beside)), (q_found, .inl (cI, 21, .inl f_found)), (q_bits, .inl (cI, 21, .inl f_bits_27))]) (va_runSN (As := [.ref q_bits, .int f_placed_20, .int r_25]) (rest := []) ⟨hx, hb, hml, hown, hts⟩ (k_X6_put l D cI cC cN N q_bits 21 H.size f_bits_17 f_placed_20 r_25 f_bits_27 h_28) ⟨va_cnB 3 hts gX3_arrangeGroup_X6_put_n90 rfl rfl rfl (hN (.methodLinkNest RX3 90 yX6_put RX6) (by decide +kernel)) (hts (.initialized RX6) (by decide +kernel)) (by decide +kernel) ⟨Nat.le_of_ble_eq_true rfl, Nat.le_of_ble_eq_true rfl⟩, hts (.static yX6_put) (by decide +kernel), trivial⟩ ⟨g_blind, g_pre (hP.sub [4] rfl) hK hN (hD.sub [4] (by decide) rfl)⟩ rfl rfl hl.1 rfl (lv_room (Nat.le_of_ble_eq_true rfl)) dX3_arrangeGroup_49 ⟨Nat.zero_le _, Nat.zero_le _⟩) hP hD hS hA [4] [0, 1, 2, 3, 5, 6, 7, 8, 9] rfl rfl (by decide) (by decide) rfl (fun H locs hP hD hS => ?_)
          refine lv_aload_n hx hb dX3_arrangeGroup_52 rfl (lv_at hl 4 rfl) ?_
          refine va_get (D := D) (ci := 3) (v := .ref q_lesser) (C := RX3) (T := TX3) (N := 8) hx hb hts (by decide +kernel) hown hK hP 3 rfl rfl 1 (by decide) (hts (.fieldLink RX3 15 "KnotStripes$Painter" "lesser" "[I") (by decide +kernel)) (fun _ h9 => h9) rfl dX3_arrangeGroup_53 ?_
          refine lv_aload_n hx hb dX3_arrangeGroup_56 rfl (lv_at hl 4 rfl) ?_
          refine va_get (D := D) (ci := 3) (v := .int f_placed_20) (C := RX3) (T := TX3) (N := 8) hx hb hts (by decide +kernel) hown hK hP 3 rfl rfl 3 (by decide) (hts (.fieldLink RX3 30 "KnotStripes$Painter" "placed" "I") (by decide +kernel)) (fun _ h9 => h9) rfl dX3_arrangeGroup_57 ?_
          refine lv_iconst (v := 3) hx hb dX3_arrangeGroup_60 (by decide) ?_
          refine lv_aload_n hx hb dX3_arrangeGroup_61 rfl (lv_at hl 5 rfl) ?_
          refine lv_iload hx hb dX3_arrangeGroup_62 (lv_at hl 0 rfl) ?_
          obtain ⟨r_29, h_30, hm⟩ := bind_use hm
          refine g_ki (wc := [(q_p0, .inr (2, [.int f_p0_knots, .int f_p0_threads, .ref q_p0_ends, .ref q_p0_colours])), (q_p0_ends, .inl (cI, 21, .inl f_p0_ends)), (q_p0_colours, .inl (cI, 21, .inl f_p0_colours))]) (wr := [(q, .inr (3, [.ref q_bits, .ref q_lesser, .ref q_greater, .int f_placed_20, .ref q_stops, .int f_groups, .ref q_beside, .ref q_found])), (q_lesser, .inl (cI, 21, .inl f_lesser_18)), (q_greater, .inl (cI, 21, .inl f_greater_19)), (q_stops, .inl (cI, 21, .inl f_stops)), (q_beside, .inl (cI, 21, .inl f_beside)), (q_found, .inl (cI, 21, .inl f_found)), (q_bits, .inl (cI, 21, .inl f_bits_27))]) (w2 := [(q, .inr (3, [.ref q_bits, .ref q_lesser, .ref q_greater, .int f_placed_20, .ref q_stops, .int f_groups, .ref q_beside, .ref q_found])), (q_lesser, .inl (cI, 21, .inl f_lesser_18)), (q_greater, .inl (cI, 21, .inl f_greater_19)), (q_stops, .inl (cI, 21, .inl f_stops)), (q_beside, .inl (cI, 21, .inl f_beside)), (q_found, .inl (cI, 21, .inl f_found)), (q_bits, .inl (cI, 21, .inl f_bits_27)), (q_p0, .inr (2, [.int f_p0_knots, .int f_p0_threads, .ref q_p0_ends, .ref q_p0_colours])), (q_p0_ends, .inl (cI, 21, .inl f_p0_ends)), (q_p0_colours, .inl (cI, 21, .inl f_p0_colours))]) (va_runV (As := [.int r_23]) (rest := [.int 3, .int f_placed_20, .ref q_lesser]) ⟨hx, hb, hml, hown, hts⟩ (k_X2_lesserKnot l D cI cC cN N q_p0 q_p0_ends q_p0_colours H.size f_p0_knots f_p0_threads f_p0_ends f_p0_colours r_23 r_29 h_30) (cwV 1 hts gX3_arrangeGroup_X2_lesserKnot rfl rfl rfl (by decide +kernel) ⟨Nat.le_of_ble_eq_true rfl, Nat.le_of_ble_eq_true rfl⟩) ⟨g_blind, va_recv (D := D) (ci := 2) (q0 := 0) hK hP rfl rfl, g_pre (hP.sub [0, 1, 2] rfl) hK hN (hD.sub [0, 1, 2] (by decide) rfl)⟩ rfl rfl hl.1 rfl (lv_room (Nat.le_of_ble_eq_true rfl)) dX3_arrangeGroup_64 ⟨Nat.zero_le _, Nat.zero_le _⟩) hP hD hS hA [0, 1, 2] [3, 4, 5, 6, 7, 8, 9] rfl rfl (by decide) (by decide) rfl (fun H locs hP hD hS => ?_)
          refine lv_imul hx hb dX3_arrangeGroup_67 ?_
          obtain ⟨f_lesser_31, h_32, hm⟩ := bind_use hm
          refine g_kv (wc := [(q_lesser, .inl (cI, 21, .inl f_lesser_18))]) (wr := [(q, .inr (3, [.ref q_bits, .ref q_lesser, .ref q_greater, .int f_placed_20, .ref q_stops, .int f_groups, .ref q_beside, .ref q_found])), (q_greater, .inl (cI, 21, .inl f_greater_19)), (q_stops, .inl (cI, 21, .inl f_stops)), (q_beside, .inl (cI, 21, .inl f_beside)), (q_found, .inl (cI, 21, .inl f_found)), (q_bits, .inl (cI, 21, .inl f_bits_27)), (q_p0, .inr (2, [.int f_p0_knots, .int f_p0_threads, .ref q_p0_ends, .ref q_p0_colours])), (q_p0_ends, .inl (cI, 21, .inl f_p0_ends)), (q_p0_colours, .inl (cI, 21, .inl f_p0_colours))]) (w2 := [(q, .inr (3, [.ref q_bits, .ref q_lesser, .ref q_greater, .int f_placed_20, .ref q_stops, .int f_groups, .ref q_beside, .ref q_found])), (q_greater, .inl (cI, 21, .inl f_greater_19)), (q_stops, .inl (cI, 21, .inl f_stops)), (q_beside, .inl (cI, 21, .inl f_beside)), (q_found, .inl (cI, 21, .inl f_found)), (q_bits, .inl (cI, 21, .inl f_bits_27)), (q_p0, .inr (2, [.int f_p0_knots, .int f_p0_threads, .ref q_p0_ends, .ref q_p0_colours])), (q_p0_ends, .inl (cI, 21, .inl f_p0_ends)), (q_p0_colours, .inl (cI, 21, .inl f_p0_colours)), (q_lesser, .inl (cI, 21, .inl f_lesser_31))]) (va_runSN (As := [.ref q_lesser, .int f_placed_20, .int (3 * r_29)]) (rest := []) ⟨hx, hb, hml, hown, hts⟩ (k_X6_put l D cI cC cN N q_lesser 21 H.size f_lesser_18 f_placed_20 (3 * r_29) f_lesser_31 h_32) ⟨va_cnB 3 hts gX3_arrangeGroup_X6_put_n90 rfl rfl rfl (hN (.methodLinkNest RX3 90 yX6_put RX6) (by decide +kernel)) (hts (.initialized RX6) (by decide +kernel)) (by decide +kernel) ⟨Nat.le_of_ble_eq_true rfl, Nat.le_of_ble_eq_true rfl⟩, hts (.static yX6_put) (by decide +kernel), trivial⟩ ⟨g_blind, g_pre (hP.sub [1] rfl) hK hN (hD.sub [1] (by decide) rfl)⟩ rfl rfl hl.1 rfl (lv_room (Nat.le_of_ble_eq_true rfl)) dX3_arrangeGroup_68 ⟨Nat.zero_le _, Nat.zero_le _⟩) hP hD hS hA [1] [0, 2, 3, 4, 5, 6, 7, 8, 9] rfl rfl (by decide) (by decide) rfl (fun H locs hP hD hS => ?_)
          refine lv_aload_n hx hb dX3_arrangeGroup_71 rfl (lv_at hl 4 rfl) ?_
          refine va_get (D := D) (ci := 3) (v := .ref q_greater) (C := RX3) (T := TX3) (N := 8) hx hb hts (by decide +kernel) hown hK hP 0 rfl rfl 2 (by decide) (hts (.fieldLink RX3 18 "KnotStripes$Painter" "greater" "[I") (by decide +kernel)) (fun _ h9 => h9) rfl dX3_arrangeGroup_72 ?_
          refine lv_aload_n hx hb dX3_arrangeGroup_75 rfl (lv_at hl 4 rfl) ?_
          refine va_get (D := D) (ci := 3) (v := .int f_placed_20) (C := RX3) (T := TX3) (N := 8) hx hb hts (by decide +kernel) hown hK hP 0 rfl rfl 3 (by decide) (hts (.fieldLink RX3 30 "KnotStripes$Painter" "placed" "I") (by decide +kernel)) (fun _ h9 => h9) rfl dX3_arrangeGroup_76 ?_
          refine lv_iconst (v := 3) hx hb dX3_arrangeGroup_79 (by decide) ?_
          refine lv_aload_n hx hb dX3_arrangeGroup_80 rfl (lv_at hl 5 rfl) ?_
          refine lv_iload hx hb dX3_arrangeGroup_81 (lv_at hl 0 rfl) ?_
          obtain ⟨r_33, h_34, hm⟩ := bind_use hm
          refine g_ki (wc := [(q_p0, .inr (2, [.int f_p0_knots, .int f_p0_threads, .ref q_p0_ends, .ref q_p0_colours])), (q_p0_ends, .inl (cI, 21, .inl f_p0_ends)), (q_p0_colours, .inl (cI, 21, .inl f_p0_colours))]) (wr := [(q, .inr (3, [.ref q_bits, .ref q_lesser, .ref q_greater, .int f_placed_20, .ref q_stops, .int f_groups, .ref q_beside, .ref q_found])), (q_greater, .inl (cI, 21, .inl f_greater_19)), (q_stops, .inl (cI, 21, .inl f_stops)), (q_beside, .inl (cI, 21, .inl f_beside)), (q_found, .inl (cI, 21, .inl f_found)), (q_bits, .inl (cI, 21, .inl f_bits_27)), (q_lesser, .inl (cI, 21, .inl f_lesser_31))]) (w2 := [(q, .inr (3, [.ref q_bits, .ref q_lesser, .ref q_greater, .int f_placed_20, .ref q_stops, .int f_groups, .ref q_beside, .ref q_found])), (q_greater, .inl (cI, 21, .inl f_greater_19)), (q_stops, .inl (cI, 21, .inl f_stops)), (q_beside, .inl (cI, 21, .inl f_beside)), (q_found, .inl (cI, 21, .inl f_found)), (q_bits, .inl (cI, 21, .inl f_bits_27)), (q_lesser, .inl (cI, 21, .inl f_lesser_31)), (q_p0, .inr (2, [.int f_p0_knots, .int f_p0_threads, .ref q_p0_ends, .ref q_p0_colours])), (q_p0_ends, .inl (cI, 21, .inl f_p0_ends)), (q_p0_colours, .inl (cI, 21, .inl f_p0_colours))]) (va_runV (As := [.int r_23]) (rest := [.int 3, .int f_placed_20, .ref q_greater]) ⟨hx, hb, hml, hown, hts⟩ (k_X2_greaterKnot l D cI cC cN N q_p0 q_p0_ends q_p0_colours H.size f_p0_knots f_p0_threads f_p0_ends f_p0_colours r_23 r_33 h_34) (cwV 1 hts gX3_arrangeGroup_X2_greaterKnot rfl rfl rfl (by decide +kernel) ⟨Nat.le_of_ble_eq_true rfl, Nat.le_of_ble_eq_true rfl⟩) ⟨g_blind, va_recv (D := D) (ci := 2) (q0 := 6) hK hP rfl rfl, g_pre (hP.sub [6, 7, 8] rfl) hK hN (hD.sub [6, 7, 8] (by decide) rfl)⟩ rfl rfl hl.1 rfl (lv_room (Nat.le_of_ble_eq_true rfl)) dX3_arrangeGroup_83 ⟨Nat.zero_le _, Nat.zero_le _⟩) hP hD hS hA [6, 7, 8] [0, 1, 2, 3, 4, 5, 9] rfl rfl (by decide) (by decide) rfl (fun H locs hP hD hS => ?_)
          refine lv_imul hx hb dX3_arrangeGroup_86 ?_
          obtain ⟨f_greater_35, h_36, hm⟩ := bind_use hm
          refine g_kv (wc := [(q_greater, .inl (cI, 21, .inl f_greater_19))]) (wr := [(q, .inr (3, [.ref q_bits, .ref q_lesser, .ref q_greater, .int f_placed_20, .ref q_stops, .int f_groups, .ref q_beside, .ref q_found])), (q_stops, .inl (cI, 21, .inl f_stops)), (q_beside, .inl (cI, 21, .inl f_beside)), (q_found, .inl (cI, 21, .inl f_found)), (q_bits, .inl (cI, 21, .inl f_bits_27)), (q_lesser, .inl (cI, 21, .inl f_lesser_31)), (q_p0, .inr (2, [.int f_p0_knots, .int f_p0_threads, .ref q_p0_ends, .ref q_p0_colours])), (q_p0_ends, .inl (cI, 21, .inl f_p0_ends)), (q_p0_colours, .inl (cI, 21, .inl f_p0_colours))]) (w2 := [(q, .inr (3, [.ref q_bits, .ref q_lesser, .ref q_greater, .int f_placed_20, .ref q_stops, .int f_groups, .ref q_beside, .ref q_found])), (q_stops, .inl (cI, 21, .inl f_stops)), (q_beside, .inl (cI, 21, .inl f_beside)), (q_found, .inl (cI, 21, .inl f_found)), (q_bits, .inl (cI, 21, .inl f_bits_27)), (q_lesser, .inl (cI, 21, .inl f_lesser_31)), (q_p0, .inr (2, [.int f_p0_knots, .int f_p0_threads, .ref q_p0_ends, .ref q_p0_colours])), (q_p0_ends, .inl (cI, 21, .inl f_p0_ends)), (q_p0_colours, .inl (cI, 21, .inl f_p0_colours)), (q_greater, .inl (cI, 21, .inl f_greater_35))]) (va_runSN (As := [.ref q_greater, .int f_placed_20, .int (3 * r_33)]) (rest := []) ⟨hx, hb, hml, hown, hts⟩ (k_X6_put l D cI cC cN N q_greater 21 H.size f_greater_19 f_placed_20 (3 * r_33) f_greater_35 h_36) ⟨va_cnB 3 hts gX3_arrangeGroup_X6_put_n90 rfl rfl rfl (hN (.methodLinkNest RX3 90 yX6_put RX6) (by decide +kernel)) (hts (.initialized RX6) (by decide +kernel)) (by decide +kernel) ⟨Nat.le_of_ble_eq_true rfl, Nat.le_of_ble_eq_true rfl⟩, hts (.static yX6_put) (by decide +kernel), trivial⟩ ⟨g_blind, g_pre (hP.sub [1] rfl) hK hN (hD.sub [1] (by decide) rfl)⟩ rfl rfl hl.1 rfl (lv_room (Nat.le_of_ble_eq_true rfl)) dX3_arrangeGroup_87 ⟨Nat.zero_le _, Nat.zero_le _⟩) hP hD hS hA [1] [0, 2, 3, 4, 5, 6, 7, 8, 9] rfl rfl (by decide) (by decide) rfl (fun H locs hP hD hS => ?_)
          refine lv_aload_n hx hb dX3_arrangeGroup_90 rfl (lv_at hl 4 rfl) ?_
          refine lv_dup hx hb dX3_arrangeGroup_91 rfl ?_
          refine va_get (D := D) (ci := 3) (v := .int f_placed_20) (C := RX3) (T := TX3) (N := 8) hx hb hts (by decide +kernel) hown hK hP 0 rfl rfl 3 (by decide) (hts (.fieldLink RX3 30 "KnotStripes$Painter" "placed" "I") (by decide +kernel)) (fun _ h9 => h9) rfl dX3_arrangeGroup_92 ?_
          refine lv_iconst (v := 1) hx hb dX3_arrangeGroup_95 (by decide) ?_
          refine lv_iadd hx hb dX3_arrangeGroup_96 ?_
          refine W.eq (g2 := F0 m 97 ls (.int (f_placed_20 + 1) :: [.ref q])) rfl ?_
          refine lv_topi (fun w_37 ew_37 => ?_)
          have hm := nm_use ew_37 hm
          refine va_put (D := D) (ci := 3) (v := .int w_37) (ty := .int) (C := RX3) (T := TX3) (N := 8) hx hb hts (by decide +kernel) tyX3 tyX3_ok nmX3 hown hK hP hD hS 0 rfl rfl 3 (by decide) (hts (.fieldLink RX3 30 "KnotStripes$Painter" "placed" "I") (by decide +kernel)) (fun _ h9 => h9) rfl (by decide +kernel) rfl rfl (Nat.le_of_ble_eq_true rfl) dX3_arrangeGroup_97 (fun H locs hP hD hS => ?_)
          have hP : va_P D vwCl [(q, .inr (3, [.ref q_bits, .ref q_lesser, .ref q_greater, .int w_37, .ref q_stops, .int f_groups, .ref q_beside, .ref q_found])), (q_stops, .inl (cI, 21, .inl f_stops)), (q_beside, .inl (cI, 21, .inl f_beside)), (q_found, .inl (cI, 21, .inl f_found)), (q_bits, .inl (cI, 21, .inl f_bits_27)), (q_lesser, .inl (cI, 21, .inl f_lesser_31)), (q_p0, .inr (2, [.int f_p0_knots, .int f_p0_threads, .ref q_p0_ends, .ref q_p0_colours])), (q_p0_ends, .inl (cI, 21, .inl f_p0_ends)), (q_p0_colours, .inl (cI, 21, .inl f_p0_colours)), (q_greater, .inl (cI, 21, .inl f_greater_35))] H := hP
          have hD : va_D A [(q, .inr (3, [.ref q_bits, .ref q_lesser, .ref q_greater, .int w_37, .ref q_stops, .int f_groups, .ref q_beside, .ref q_found])), (q_stops, .inl (cI, 21, .inl f_stops)), (q_beside, .inl (cI, 21, .inl f_beside)), (q_found, .inl (cI, 21, .inl f_found)), (q_bits, .inl (cI, 21, .inl f_bits_27)), (q_lesser, .inl (cI, 21, .inl f_lesser_31)), (q_p0, .inr (2, [.int f_p0_knots, .int f_p0_threads, .ref q_p0_ends, .ref q_p0_colours])), (q_p0_ends, .inl (cI, 21, .inl f_p0_ends)), (q_p0_colours, .inl (cI, 21, .inl f_p0_colours)), (q_greater, .inl (cI, 21, .inl f_greater_35))] := hD
          refine lv_iload hx hb dX3_arrangeGroup_100 (lv_at hl 2 rfl) ?_
          refine lv_iload hx hb dX3_arrangeGroup_102 (lv_at hl 0 rfl) ?_
          obtain ⟨r_38, h_39, hm⟩ := bind_use hm
          refine g_ki (wc := []) (wr := [(q, .inr (3, [.ref q_bits, .ref q_lesser, .ref q_greater, .int w_37, .ref q_stops, .int f_groups, .ref q_beside, .ref q_found])), (q_stops, .inl (cI, 21, .inl f_stops)), (q_beside, .inl (cI, 21, .inl f_beside)), (q_found, .inl (cI, 21, .inl f_found)), (q_bits, .inl (cI, 21, .inl f_bits_27)), (q_lesser, .inl (cI, 21, .inl f_lesser_31)), (q_p0, .inr (2, [.int f_p0_knots, .int f_p0_threads, .ref q_p0_ends, .ref q_p0_colours])), (q_p0_ends, .inl (cI, 21, .inl f_p0_ends)), (q_p0_colours, .inl (cI, 21, .inl f_p0_colours)), (q_greater, .inl (cI, 21, .inl f_greater_35))]) (w2 := [(q, .inr (3, [.ref q_bits, .ref q_lesser, .ref q_greater, .int w_37, .ref q_stops, .int f_groups, .ref q_beside, .ref q_found])), (q_stops, .inl (cI, 21, .inl f_stops)), (q_beside, .inl (cI, 21, .inl f_beside)), (q_found, .inl (cI, 21, .inl f_found)), (q_bits, .inl (cI, 21, .inl f_bits_27)), (q_lesser, .inl (cI, 21, .inl f_lesser_31)), (q_p0, .inr (2, [.int f_p0_knots, .int f_p0_threads, .ref q_p0_ends, .ref q_p0_colours])), (q_p0_ends, .inl (cI, 21, .inl f_p0_ends)), (q_p0_colours, .inl (cI, 21, .inl f_p0_colours)), (q_greater, .inl (cI, 21, .inl f_greater_35))]) (va_runSN (As := [.int r_23]) (rest := [.int x4_15]) ⟨hx, hb, hml, hown, hts⟩ (k_X6_bit l D cI cC cN N H.size r_23 r_38 h_39) ⟨va_cnB 1 hts gX3_arrangeGroup_X6_bit_n76 rfl rfl rfl (hN (.methodLinkNest RX3 76 yX6_bit RX6) (by decide +kernel)) (hts (.initialized RX6) (by decide +kernel)) (by decide +kernel) ⟨Nat.le_of_ble_eq_true rfl, Nat.le_of_ble_eq_true rfl⟩, hts (.static yX6_bit) (by decide +kernel), trivial⟩ ⟨g_blind, g_pre (hP.sub [] rfl) hK hN (hD.sub [] (by decide) rfl)⟩ rfl rfl hl.1 rfl (lv_room (Nat.le_of_ble_eq_true rfl)) dX3_arrangeGroup_104 ⟨Nat.zero_le _, Nat.zero_le _⟩) hP hD hS hA [] [0, 1, 2, 3, 4, 5, 6, 7, 8, 9] rfl rfl (by decide) (by decide) rfl (fun H locs hP hD hS => ?_)
          refine lv_ior hx hb dX3_arrangeGroup_107 ?_
          refine lv_topi (fun v4_40 ev4_40 => ?_)
          have hm := nm_use ev4_40 hm
          refine lv_istore (lv' := [(4, .int v4_40), (6, .int r_23), (5, .int x5_14), (3, .int x3_16), (0, .ref q), (1, .ref q_p0)]) hx hb dX3_arrangeGroup_108 hl (by decide) rfl (fun ls hl => ?_)
          refine lv_iload_n hx hb dX3_arrangeGroup_110 rfl (lv_at hl 3 rfl) ?_
          refine lv_iload hx hb dX3_arrangeGroup_111 (lv_at hl 1 rfl) ?_
          obtain ⟨r_41, h_42, hm⟩ := bind_use hm
          refine g_ki (wc := []) (wr := [(q, .inr (3, [.ref q_bits, .ref q_lesser, .ref q_greater, .int w_37, .ref q_stops, .int f_groups, .ref q_beside, .ref q_found])), (q_stops, .inl (cI, 21, .inl f_stops)), (q_beside, .inl (cI, 21, .inl f_beside)), (q_found, .inl (cI, 21, .inl f_found)), (q_bits, .inl (cI, 21, .inl f_bits_27)), (q_lesser, .inl (cI, 21, .inl f_lesser_31)), (q_p0, .inr (2, [.int f_p0_knots, .int f_p0_threads, .ref q_p0_ends, .ref q_p0_colours])), (q_p0_ends, .inl (cI, 21, .inl f_p0_ends)), (q_p0_colours, .inl (cI, 21, .inl f_p0_colours)), (q_greater, .inl (cI, 21, .inl f_greater_35))]) (w2 := [(q, .inr (3, [.ref q_bits, .ref q_lesser, .ref q_greater, .int w_37, .ref q_stops, .int f_groups, .ref q_beside, .ref q_found])), (q_stops, .inl (cI, 21, .inl f_stops)), (q_beside, .inl (cI, 21, .inl f_beside)), (q_found, .inl (cI, 21, .inl f_found)), (q_bits, .inl (cI, 21, .inl f_bits_27)), (q_lesser, .inl (cI, 21, .inl f_lesser_31)), (q_p0, .inr (2, [.int f_p0_knots, .int f_p0_threads, .ref q_p0_ends, .ref q_p0_colours])), (q_p0_ends, .inl (cI, 21, .inl f_p0_ends)), (q_p0_colours, .inl (cI, 21, .inl f_p0_colours)), (q_greater, .inl (cI, 21, .inl f_greater_35))]) (va_runSN (As := [.int r_23]) (rest := [.int x3_16]) ⟨hx, hb, hml, hown, hts⟩ (k_X6_bit l D cI cC cN N H.size r_23 r_41 h_42) ⟨va_cnB 1 hts gX3_arrangeGroup_X6_bit_n76 rfl rfl rfl (hN (.methodLinkNest RX3 76 yX6_bit RX6) (by decide +kernel)) (hts (.initialized RX6) (by decide +kernel)) (by decide +kernel) ⟨Nat.le_of_ble_eq_true rfl, Nat.le_of_ble_eq_true rfl⟩, hts (.static yX6_bit) (by decide +kernel), trivial⟩ ⟨g_blind, g_pre (hP.sub [] rfl) hK hN (hD.sub [] (by decide) rfl)⟩ rfl rfl hl.1 rfl (lv_room (Nat.le_of_ble_eq_true rfl)) dX3_arrangeGroup_113 ⟨Nat.zero_le _, Nat.zero_le _⟩) hP hD hS hA [] [0, 1, 2, 3, 4, 5, 6, 7, 8, 9] rfl rfl (by decide) (by decide) rfl (fun H locs hP hD hS => ?_)
          refine lv_iconst (v := (-1)) hx hb dX3_arrangeGroup_116 (by decide) ?_
          refine lv_ixor hx hb dX3_arrangeGroup_117 ?_
          refine lv_iand hx hb dX3_arrangeGroup_118 ?_
          refine lv_topi (fun v3_43 ev3_43 => ?_)
          have hm := nm_use ev3_43 hm
          refine lv_istore_n (lv' := [(3, .int v3_43), (4, .int v4_40), (6, .int r_23), (5, .int x5_14), (0, .ref q), (1, .ref q_p0)]) hx hb dX3_arrangeGroup_119 rfl hl (by decide) rfl (fun ls hl => ?_)
          refine lv_iinc (v := (x5_14 + 1)) (lv' := [(5, .int (x5_14 + 1)), (3, .int v3_43), (4, .int v4_40), (6, .int r_23), (0, .ref q), (1, .ref q_p0)]) hx hb dX3_arrangeGroup_120 hl (k := 3) rfl rfl (by decide) rfl (fun ls hl => ?_)
          refine lv_goto (tgt := 8) hx hb dX3_arrangeGroup_123 (by decide) ?_
          exact ih8 (x5_14 + 1) v4_40 v3_43 f_bits_27 f_lesser_31 f_greater_35 w_37 _ _ _ (hP.sub [0, 4, 5, 9, 1, 2, 3, 6, 7, 8] rfl) (hD.sub [0, 4, 5, 9, 1, 2, 3, 6, 7, 8] (by decide) rfl) hS (lv_sub hl [0, 2, 1, 4, 5] rfl) hm
        · have hm := if_f _ hc hm
          exact j33 x3_16 f_bits_17 f_lesser_18 f_greater_19 f_placed_20 _ _ _ (hP.sub [3, 4, 5, 6, 7, 8, 9, 0, 1, 2] rfl) (hD.sub [3, 4, 5, 6, 7, 8, 9, 0, 1, 2] (by decide) rfl) hS (lv_sub hl [3, 4] rfl) hm
  exact l8 N 0 0 a2 f_bits f_lesser f_greater f_placed _ _ _ hP hD hS (lv_sub hl [0, 1, 2, 3, 4] rfl) hm
abbrev rX3_arrange : Room := { frames := 4, cells := 0, slots := 0, locals := 89 }
set_option maxHeartbeats 4000000 in
set_option maxRecDepth 100000 in
theorem k_X3_arrange (l : Launch) (D : va_G) (cI cC cN : ClassId) (N : Nat) (q : Nat) (q_bits : Nat) (q_lesser : Nat) (q_greater : Nat) (q_stops : Nat) (q_beside : Nat) (q_found : Nat) (q_p0 : Nat) (q_p0_ends : Nat) (q_p0_colours : Nat) (sz : Nat) (f_bits : Nat → Int32) (f_lesser : Nat → Int32) (f_greater : Nat → Int32) (f_placed : Int32) (f_stops : Nat → Int32) (f_groups : Int32) (f_beside : Nat → Int32) (f_found : Nat → Int32) (f_p0_knots : Int32) (f_p0_threads : Int32) (f_p0_ends : Nat → Int32) (f_p0_colours : Nat → Int32) (a2 : Int32) (f_bits' : Nat → Int32) (f_lesser' : Nat → Int32) (f_greater' : Nat → Int32) (f_placed' : Int32) (f_stops' : Nat → Int32) (f_groups' : Int32) (f_beside' : Nat → Int32) (hm : m_X3_arrange N f_bits f_lesser f_greater f_placed f_stops f_groups f_beside f_p0_threads f_p0_ends a2 = some (f_bits', f_lesser', f_greater', f_placed', f_stops', f_groups', f_beside')) : Met l yX3_arrange wsX3_arrange (rX3_arrange) (gPc D (tysG cI cC cN) [.ref q, .ref q_p0, .int a2] [(q, .inr (3, [.ref q_bits, .ref q_lesser, .ref q_greater, .int f_placed, .ref q_stops, .int f_groups, .ref q_beside, .ref q_found])), (q_bits, .inl (cI, 21, .inl f_bits)), (q_lesser, .inl (cI, 21, .inl f_lesser)), (q_greater, .inl (cI, 21, .inl f_greater)), (q_stops, .inl (cI, 21, .inl f_stops)), (q_beside, .inl (cI, 21, .inl f_beside)), (q_found, .inl (cI, 21, .inl f_found)), (q_p0, .inr (2, [.int f_p0_knots, .int f_p0_threads, .ref q_p0_ends, .ref q_p0_colours])), (q_p0_ends, .inl (cI, 21, .inl f_p0_ends)), (q_p0_colours, .inl (cI, 21, .inl f_p0_colours))] sz) (gQv D (tysG cI cC cN) (va_A [(q, .inr (3, [.ref q_bits, .ref q_lesser, .ref q_greater, .int f_placed, .ref q_stops, .int f_groups, .ref q_beside, .ref q_found])), (q_bits, .inl (cI, 21, .inl f_bits)), (q_lesser, .inl (cI, 21, .inl f_lesser)), (q_greater, .inl (cI, 21, .inl f_greater)), (q_stops, .inl (cI, 21, .inl f_stops)), (q_beside, .inl (cI, 21, .inl f_beside)), (q_found, .inl (cI, 21, .inl f_found)), (q_p0, .inr (2, [.int f_p0_knots, .int f_p0_threads, .ref q_p0_ends, .ref q_p0_colours])), (q_p0_ends, .inl (cI, 21, .inl f_p0_ends)), (q_p0_colours, .inl (cI, 21, .inl f_p0_colours))] sz) [(q, .inr (3, [.ref q_bits, .ref q_lesser, .ref q_greater, .int f_placed', .ref q_stops, .int f_groups', .ref q_beside, .ref q_found])), (q_bits, .inl (cI, 21, .inl f_bits')), (q_lesser, .inl (cI, 21, .inl f_lesser')), (q_greater, .inl (cI, 21, .inl f_greater')), (q_stops, .inl (cI, 21, .inl f_stops')), (q_beside, .inl (cI, 21, .inl f_beside')), (q_found, .inl (cI, 21, .inl f_found)), (q_p0, .inr (2, [.int f_p0_knots, .int f_p0_threads, .ref q_p0_ends, .ref q_p0_colours])), (q_p0_ends, .inl (cI, 21, .inl f_p0_ends)), (q_p0_colours, .inl (cI, 21, .inl f_p0_colours))]) 0 0 (va_A [(q, .inr (3, [.ref q_bits, .ref q_lesser, .ref q_greater, .int f_placed, .ref q_stops, .int f_groups, .ref q_beside, .ref q_found])), (q_bits, .inl (cI, 21, .inl f_bits)), (q_lesser, .inl (cI, 21, .inl f_lesser)), (q_greater, .inl (cI, 21, .inl f_greater)), (q_stops, .inl (cI, 21, .inl f_stops)), (q_beside, .inl (cI, 21, .inl f_beside)), (q_found, .inl (cI, 21, .inl f_found)), (q_p0, .inr (2, [.int f_p0_knots, .int f_p0_threads, .ref q_p0_ends, .ref q_p0_colours])), (q_p0_ends, .inl (cI, 21, .inl f_p0_ends)), (q_p0_colours, .inl (cI, 21, .inl f_p0_colours))] sz) := by
  unfold m_X3_arrange at hm
  refine g_openV (cc := cX3_arrange) (maxL := 5) (own := RX3) (by decide) rfl rfl (Nat.le_of_ble_eq_true rfl) ?_
  intro p e s m args below meth c A Q hx hb hml hown hts hP hK hN hD hA hret ls hl
  have hS : va_S A s.heap s.heap [] := va_S.rf
  have hl : lv_has ls 5 [(0, .ref q), (1, .ref q_p0), (2, .int a2)] := hl
  refine lv_iconst (v := 0) hx hb dX3_arrange_0 (by decide) ?_
  refine lv_istore_n (lv' := [(3, .int 0), (0, .ref q), (1, .ref q_p0), (2, .int a2)]) hx hb dX3_arrange_1 rfl hl (by decide) rfl (fun ls hl => ?_)
  obtain ⟨J33, hJ33, hm⟩ := jn_use hm
  have j33 : ∀ (f_beside_1 : Nat → Int32), ∀ (H : Heap) (locs : List Loc) (ls : Array Slot), va_P D vwCl [(q, .inr (3, [.ref q_bits, .ref q_lesser, .ref q_greater, .int f_placed, .ref q_stops, .int f_groups, .ref q_beside, .ref q_found])), (q_bits, .inl (cI, 21, .inl f_bits)), (q_lesser, .inl (cI, 21, .inl f_lesser)), (q_greater, .inl (cI, 21, .inl f_greater)), (q_stops, .inl (cI, 21, .inl f_stops)), (q_beside, .inl (cI, 21, .inl f_beside_1)), (q_found, .inl (cI, 21, .inl f_found)), (q_p0, .inr (2, [.int f_p0_knots, .int f_p0_threads, .ref q_p0_ends, .ref q_p0_colours])), (q_p0_ends, .inl (cI, 21, .inl f_p0_ends)), (q_p0_colours, .inl (cI, 21, .inl f_p0_colours))] H → va_D A [(q, .inr (3, [.ref q_bits, .ref q_lesser, .ref q_greater, .int f_placed, .ref q_stops, .int f_groups, .ref q_beside, .ref q_found])), (q_bits, .inl (cI, 21, .inl f_bits)), (q_lesser, .inl (cI, 21, .inl f_lesser)), (q_greater, .inl (cI, 21, .inl f_greater)), (q_stops, .inl (cI, 21, .inl f_stops)), (q_beside, .inl (cI, 21, .inl f_beside_1)), (q_found, .inl (cI, 21, .inl f_found)), (q_p0, .inr (2, [.int f_p0_knots, .int f_p0_threads, .ref q_p0_ends, .ref q_p0_colours])), (q_p0_ends, .inl (cI, 21, .inl f_p0_ends)), (q_p0_colours, .inl (cI, 21, .inl f_p0_colours))] → va_S A s.heap H locs → lv_has ls 5 [(0, .ref q), (1, .ref q_p0), (2, .int a2)] → J33 f_beside_1 = some (f_bits', f_lesser', f_greater', f_placed', f_stops', f_groups', f_beside') → W p l e rX3_arrange s m args below meth c H locs 0 0 Q (F0 m 33 ls []) := by
    intro f_beside_1 H locs ls hP hD hS hl hm
    rw [hJ33] at hm
    refine lv_aload_n hx hb dX3_arrange_33 rfl (lv_at hl 0 rfl) ?_
    refine lv_iconst (v := 0) hx hb dX3_arrange_34 (by decide) ?_
    refine va_put (D := D) (ci := 3) (v := .int 0) (ty := .int) (C := RX3) (T := TX3) (N := 8) hx hb hts (by decide +kernel) tyX3 tyX3_ok nmX3 hown hK hP hD hS 0 rfl rfl 3 (by decide) (hts (.fieldLink RX3 30 "KnotStripes$Painter" "placed" "I") (by decide +kernel)) (fun _ h9 => h9) rfl (by decide +kernel) rfl rfl (Nat.le_of_ble_eq_true rfl) dX3_arrange_35 (fun H locs hP hD hS => ?_)
    have hP : va_P D vwCl [(q, .inr (3, [.ref q_bits, .ref q_lesser, .ref q_greater, .int 0, .ref q_stops, .int f_groups, .ref q_beside, .ref q_found])), (q_bits, .inl (cI, 21, .inl f_bits)), (q_lesser, .inl (cI, 21, .inl f_lesser)), (q_greater, .inl (cI, 21, .inl f_greater)), (q_stops, .inl (cI, 21, .inl f_stops)), (q_beside, .inl (cI, 21, .inl f_beside_1)), (q_found, .inl (cI, 21, .inl f_found)), (q_p0, .inr (2, [.int f_p0_knots, .int f_p0_threads, .ref q_p0_ends, .ref q_p0_colours])), (q_p0_ends, .inl (cI, 21, .inl f_p0_ends)), (q_p0_colours, .inl (cI, 21, .inl f_p0_colours))] H := hP
    have hD : va_D A [(q, .inr (3, [.ref q_bits, .ref q_lesser, .ref q_greater, .int 0, .ref q_stops, .int f_groups, .ref q_beside, .ref q_found])), (q_bits, .inl (cI, 21, .inl f_bits)), (q_lesser, .inl (cI, 21, .inl f_lesser)), (q_greater, .inl (cI, 21, .inl f_greater)), (q_stops, .inl (cI, 21, .inl f_stops)), (q_beside, .inl (cI, 21, .inl f_beside_1)), (q_found, .inl (cI, 21, .inl f_found)), (q_p0, .inr (2, [.int f_p0_knots, .int f_p0_threads, .ref q_p0_ends, .ref q_p0_colours])), (q_p0_ends, .inl (cI, 21, .inl f_p0_ends)), (q_p0_colours, .inl (cI, 21, .inl f_p0_colours))] := hD
    refine lv_aload_n hx hb dX3_arrange_38 rfl (lv_at hl 0 rfl) ?_
    refine lv_iconst (v := 0) hx hb dX3_arrange_39 (by decide) ?_
    refine va_put (D := D) (ci := 3) (v := .int 0) (ty := .int) (C := RX3) (T := TX3) (N := 8) hx hb hts (by decide +kernel) tyX3 tyX3_ok nmX3 hown hK hP hD hS 0 rfl rfl 5 (by decide) (hts (.fieldLink RX3 34 "KnotStripes$Painter" "groups" "I") (by decide +kernel)) (fun _ h9 => h9) rfl (by decide +kernel) rfl rfl (Nat.le_of_ble_eq_true rfl) dX3_arrange_40 (fun H locs hP hD hS => ?_)
    have hP : va_P D vwCl [(q, .inr (3, [.ref q_bits, .ref q_lesser, .ref q_greater, .int 0, .ref q_stops, .int 0, .ref q_beside, .ref q_found])), (q_bits, .inl (cI, 21, .inl f_bits)), (q_lesser, .inl (cI, 21, .inl f_lesser)), (q_greater, .inl (cI, 21, .inl f_greater)), (q_stops, .inl (cI, 21, .inl f_stops)), (q_beside, .inl (cI, 21, .inl f_beside_1)), (q_found, .inl (cI, 21, .inl f_found)), (q_p0, .inr (2, [.int f_p0_knots, .int f_p0_threads, .ref q_p0_ends, .ref q_p0_colours])), (q_p0_ends, .inl (cI, 21, .inl f_p0_ends)), (q_p0_colours, .inl (cI, 21, .inl f_p0_colours))] H := hP
    have hD : va_D A [(q, .inr (3, [.ref q_bits, .ref q_lesser, .ref q_greater, .int 0, .ref q_stops, .int 0, .ref q_beside, .ref q_found])), (q_bits, .inl (cI, 21, .inl f_bits)), (q_lesser, .inl (cI, 21, .inl f_lesser)), (q_greater, .inl (cI, 21, .inl f_greater)), (q_stops, .inl (cI, 21, .inl f_stops)), (q_beside, .inl (cI, 21, .inl f_beside_1)), (q_found, .inl (cI, 21, .inl f_found)), (q_p0, .inr (2, [.int f_p0_knots, .int f_p0_threads, .ref q_p0_ends, .ref q_p0_colours])), (q_p0_ends, .inl (cI, 21, .inl f_p0_ends)), (q_p0_colours, .inl (cI, 21, .inl f_p0_colours))] := hD
    refine lv_iload_n hx hb dX3_arrange_43 rfl (lv_at hl 2 rfl) ?_
    refine lv_istore_n (lv' := [(3, .int a2), (0, .ref q), (1, .ref q_p0), (2, .int a2)]) hx hb dX3_arrange_44 rfl hl (by decide) rfl (fun ls hl => ?_)
    refine lv_iconst (v := 0) hx hb dX3_arrange_45 (by decide) ?_
    refine lv_istore (lv' := [(4, .int 0), (3, .int a2), (0, .ref q), (1, .ref q_p0), (2, .int a2)]) hx hb dX3_arrange_46 hl (by decide) rfl (fun ls hl => ?_)
    have l48 : ∀ (n_48 : Nat) (x4_2 : Int32) (x3_3 : Int32) (f_bits_4 : Nat → Int32) (f_lesser_5 : Nat → Int32) (f_greater_6 : Nat → Int32) (f_placed_7 : Int32) (f_stops_8 : Nat → Int32) (f_groups_9 : Int32), ∀ (H : Heap) (locs : List Loc) (ls : Array Slot), va_P D vwCl [(q, .inr (3, [.ref q_bits, .ref q_lesser, .ref q_greater, .int f_placed_7, .ref q_stops, .int f_groups_9, .ref q_beside, .ref q_found])), (q_bits, .inl (cI, 21, .inl f_bits_4)), (q_lesser, .inl (cI, 21, .inl f_lesser_5)), (q_greater, .inl (cI, 21, .inl f_greater_6)), (q_stops, .inl (cI, 21, .inl f_stops_8)), (q_beside, .inl (cI, 21, .inl f_beside_1)), (q_found, .inl (cI, 21, .inl f_found)), (q_p0, .inr (2, [.int f_p0_knots, .int f_p0_threads, .ref q_p0_ends, .ref q_p0_colours])), (q_p0_ends, .inl (cI, 21, .inl f_p0_ends)), (q_p0_colours, .inl (cI, 21, .inl f_p0_colours))] H → va_D A [(q, .inr (3, [.ref q_bits, .ref q_lesser, .ref q_greater, .int f_placed_7, .ref q_stops, .int f_groups_9, .ref q_beside, .ref q_found])), (q_bits, .inl (cI, 21, .inl f_bits_4)), (q_lesser, .inl (cI, 21, .inl f_lesser_5)), (q_greater, .inl (cI, 21, .inl f_greater_6)), (q_stops, .inl (cI, 21, .inl f_stops_8)), (q_beside, .inl (cI, 21, .inl f_beside_1)), (q_found, .inl (cI, 21, .inl f_found)), (q_p0, .inr (2, [.int f_p0_knots, .int f_p0_threads, .ref q_p0_ends, .ref q_p0_colours])), (q_p0_ends, .inl (cI, 21, .inl f_p0_ends)), (q_p0_colours, .inl (cI, 21, .inl f_p0_colours))] → va_S A s.heap H locs → lv_has ls 5 [(4, .int x4_2), (3, .int x3_3), (0, .ref q), (1, .ref q_p0)] → m_X3_arrange_L48 N f_p0_threads f_p0_ends f_beside_1 n_48 x4_2 x3_3 f_bits_4 f_lesser_5 f_greater_6 f_placed_7 f_stops_8 f_groups_9 = some (f_bits', f_lesser', f_greater', f_placed', f_stops', f_groups', f_beside') → W p l e rX3_arrange s m args below meth c H locs 0 0 Q (F0 m 48 ls []) := by
      intro n_48
      induction n_48 with
      | zero => intro x4_2 x3_3 f_bits_4 f_lesser_5 f_greater_6 f_placed_7 f_stops_8 f_groups_9 H locs ls hP hD hS hl hm; rw [m_X3_arrange_L48] at hm; exact no_use hm
      | succ n_48 ih48 =>
        intro x4_2 x3_3 f_bits_4 f_lesser_5 f_greater_6 f_placed_7 f_stops_8 f_groups_9 H locs ls hP hD hS hl hm
        rw [m_X3_arrange_L48] at hm
        refine lv_iload hx hb dX3_arrange_48 (lv_at hl 0 rfl) ?_
        refine lv_bipush (v := 21) hx hb dX3_arrange_50 (by decide) ?_
        refine lv_icmp_ge (tgt := 72) hx hb dX3_arrange_52 (by decide) (fun hc => ?_) (fun hc => ?_)
        · have hm := if_t _ hc hm
          have z1 := so_use hm
          obtain ⟨y1, z2⟩ := pr_use z1
          obtain ⟨y2, z3⟩ := pr_use z2
          obtain ⟨y3, z4⟩ := pr_use z3
          obtain ⟨y4, z5⟩ := pr_use z4
          obtain ⟨y5, z6⟩ := pr_use z5
          obtain ⟨y6, z7⟩ := pr_use z6
          subst y1
          subst y2
          subst y3
          subst y4
          subst y5
          subst y6
          subst z7
          exact hret _ _ _ _ dX3_arrange_72 hP hD hS
        · have hm := if_f _ hc hm
          refine lv_iload_n hx hb dX3_arrange_55 rfl (lv_at hl 1 rfl) ?_
          refine lv_if_eq (tgt := 72) hx hb dX3_arrange_56 (by decide) (fun hc => ?_) (fun hc => ?_)
          · have hm := if_t _ hc hm
            have z1 := so_use hm
            obtain ⟨y1, z2⟩ := pr_use z1
            obtain ⟨y2, z3⟩ := pr_use z2
            obtain ⟨y3, z4⟩ := pr_use z3
            obtain ⟨y4, z5⟩ := pr_use z4
            obtain ⟨y5, z6⟩ := pr_use z5
            obtain ⟨y6, z7⟩ := pr_use z6
            subst y1
            subst y2
            subst y3
            subst y4
            subst y5
            subst y6
            subst z7
            exact hret _ _ _ _ dX3_arrange_72 hP hD hS
          · have hm := if_f _ hc hm
            refine lv_aload_n hx hb dX3_arrange_59 rfl (lv_at hl 2 rfl) ?_
            refine lv_aload_n hx hb dX3_arrange_60 rfl (lv_at hl 3 rfl) ?_
            refine lv_iload_n hx hb dX3_arrange_61 rfl (lv_at hl 1 rfl) ?_
            obtain ⟨⟨r_10, f_bits_11, f_lesser_12, f_greater_13, f_placed_14, f_stops_15, f_groups_16⟩, h_17, hm⟩ := bind_use hm
            refine g_ki (wc := [(q, .inr (3, [.ref q_bits, .ref q_lesser, .ref q_greater, .int f_placed_7, .ref q_stops, .int f_groups_9, .ref q_beside, .ref q_found])), (q_bits, .inl (cI, 21, .inl f_bits_4)), (q_lesser, .inl (cI, 21, .inl f_lesser_5)), (q_greater, .inl (cI, 21, .inl f_greater_6)), (q_stops, .inl (cI, 21, .inl f_stops_8)), (q_beside, .inl (cI, 21, .inl f_beside_1)), (q_found, .inl (cI, 21, .inl f_found)), (q_p0, .inr (2, [.int f_p0_knots, .int f_p0_threads, .ref q_p0_ends, .ref q_p0_colours])), (q_p0_ends, .inl (cI, 21, .inl f_p0_ends)), (q_p0_colours, .inl (cI, 21, .inl f_p0_colours))]) (wr := []) (w2 := [(q, .inr (3, [.ref q_bits, .ref q_lesser, .ref q_greater, .int f_placed_14, .ref q_stops, .int f_groups_16, .ref q_beside, .ref q_found])), (q_bits, .inl (cI, 21, .inl f_bits_11)), (q_lesser, .inl (cI, 21, .inl f_lesser_12)), (q_greater, .inl (cI, 21, .inl f_greater_13)), (q_stops, .inl (cI, 21, .inl f_stops_15)), (q_beside, .inl (cI, 21, .inl f_beside_1)), (q_found, .inl (cI, 21, .inl f_found)), (q_p0, .inr (2, [.int f_p0_knots, .int f_p0_threads, .ref q_p0_ends, .ref q_p0_colours])), (q_p0_ends, .inl (cI, 21, .inl f_p0_ends)), (q_p0_colours, .inl (cI, 21, .inl f_p0_colours))]) (va_runV (As := [.ref q_p0, .int x3_3]) (rest := []) ⟨hx, hb, hml, hown, hts⟩ (k_X3_arrangeGroup l D cI cC cN N q q_bits q_lesser q_greater q_stops q_beside q_found q_p0 q_p0_ends q_p0_colours H.size f_bits_4 f_lesser_5 f_greater_6 f_placed_7 f_stops_8 f_groups_9 f_beside_1 f_found f_p0_knots f_p0_threads f_p0_ends f_p0_colours x3_3 r_10 f_bits_11 f_lesser_12 f_greater_13 f_placed_14 f_stops_15 f_groups_16 h_17) (cwV 2 hts gX3_arrange_X3_arrangeGroup rfl rfl rfl (by decide +kernel) ⟨Nat.le_of_ble_eq_true rfl, Nat.le_of_ble_eq_true rfl⟩) ⟨g_blind, va_recv (D := D) (ci := 3) (q0 := 0) hK hP rfl rfl, g_pre (hP.sub [0, 1, 2, 3, 4, 5, 6, 7, 8, 9] rfl) hK hN (hD.sub [0, 1, 2, 3, 4, 5, 6, 7, 8, 9] (by decide) rfl)⟩ rfl rfl hl.1 rfl (lv_room (Nat.le_of_ble_eq_true rfl)) dX3_arrange_62 ⟨Nat.zero_le _, Nat.zero_le _⟩) hP hD hS hA [0, 1, 2, 3, 4, 5, 6, 7, 8, 9] [] rfl rfl (by decide) (by decide) rfl (fun H locs hP hD hS => ?_)
            refine lv_istore_n (lv' := [(3, .int r_10), (4, .int x4_2), (0, .ref q), (1, .ref q_p0)]) hx hb dX3_arrange_65 rfl hl (by decide) rfl (fun ls hl => ?_)
            refine lv_iinc (v := (x4_2 + 1)) (lv' := [(4, .int (x4_2 + 1)), (3, .int r_10), (0, .ref q), (1, .ref q_p0)]) hx hb dX3_arrange_66 hl (k := 1) rfl rfl (by decide) rfl (fun ls hl => ?_)
            refine lv_goto (tgt := 48) hx hb dX3_arrange_69 (by decide) ?_
            exact ih48 (x4_2 + 1) r_10 f_bits_11 f_lesser_12 f_greater_13 f_placed_14 f_stops_15 f_groups_16 _ _ _ hP hD hS hl hm
    exact l48 N 0 a2 f_bits f_lesser f_greater 0 f_stops 0 _ _ _ hP hD hS (lv_sub hl [0, 1, 2, 3] rfl) hm
  have l2 : ∀ (n_2 : Nat) (x3_18 : Int32) (f_beside_19 : Nat → Int32), ∀ (H : Heap) (locs : List Loc) (ls : Array Slot), va_P D vwCl [(q, .inr (3, [.ref q_bits, .ref q_lesser, .ref q_greater, .int f_placed, .ref q_stops, .int f_groups, .ref q_beside, .ref q_found])), (q_bits, .inl (cI, 21, .inl f_bits)), (q_lesser, .inl (cI, 21, .inl f_lesser)), (q_greater, .inl (cI, 21, .inl f_greater)), (q_stops, .inl (cI, 21, .inl f_stops)), (q_beside, .inl (cI, 21, .inl f_beside_19)), (q_found, .inl (cI, 21, .inl f_found)), (q_p0, .inr (2, [.int f_p0_knots, .int f_p0_threads, .ref q_p0_ends, .ref q_p0_colours])), (q_p0_ends, .inl (cI, 21, .inl f_p0_ends)), (q_p0_colours, .inl (cI, 21, .inl f_p0_colours))] H → va_D A [(q, .inr (3, [.ref q_bits, .ref q_lesser, .ref q_greater, .int f_placed, .ref q_stops, .int f_groups, .ref q_beside, .ref q_found])), (q_bits, .inl (cI, 21, .inl f_bits)), (q_lesser, .inl (cI, 21, .inl f_lesser)), (q_greater, .inl (cI, 21, .inl f_greater)), (q_stops, .inl (cI, 21, .inl f_stops)), (q_beside, .inl (cI, 21, .inl f_beside_19)), (q_found, .inl (cI, 21, .inl f_found)), (q_p0, .inr (2, [.int f_p0_knots, .int f_p0_threads, .ref q_p0_ends, .ref q_p0_colours])), (q_p0_ends, .inl (cI, 21, .inl f_p0_ends)), (q_p0_colours, .inl (cI, 21, .inl f_p0_colours))] → va_S A s.heap H locs → lv_has ls 5 [(3, .int x3_18), (0, .ref q), (1, .ref q_p0), (2, .int a2)] → m_X3_arrange_L2 N f_p0_threads f_p0_ends J33 n_2 x3_18 f_beside_19 = some (f_bits', f_lesser', f_greater', f_placed', f_stops', f_groups', f_beside') → W p l e rX3_arrange s m args below meth c H locs 0 0 Q (F0 m 2 ls []) := by
    intro n_2
    induction n_2 with
    | zero => intro x3_18 f_beside_19 H locs ls hP hD hS hl hm; rw [m_X3_arrange_L2] at hm; exact no_use hm
    | succ n_2 ih2 =>
      intro x3_18 f_beside_19 H locs ls hP hD hS hl hm
      rw [m_X3_arrange_L2] at hm
      refine lv_iload_n hx hb dX3_arrange_2 rfl (lv_at hl 0 rfl) ?_
      refine lv_aload_n hx hb dX3_arrange_3 rfl (lv_at hl 2 rfl) ?_
      obtain ⟨r_20, h_21, hm⟩ := bind_use hm
      refine g_ki (wc := [(q_p0, .inr (2, [.int f_p0_knots, .int f_p0_threads, .ref q_p0_ends, .ref q_p0_colours])), (q_p0_ends, .inl (cI, 21, .inl f_p0_ends)), (q_p0_colours, .inl (cI, 21, .inl f_p0_colours))]) (wr := [(q, .inr (3, [.ref q_bits, .ref q_lesser, .ref q_greater, .int f_placed, .ref q_stops, .int f_groups, .ref q_beside, .ref q_found])), (q_bits, .inl (cI, 21, .inl f_bits)), (q_lesser, .inl (cI, 21, .inl f_lesser)), (q_greater, .inl (cI, 21, .inl f_greater)), (q_stops, .inl (cI, 21, .inl f_stops)), (q_beside, .inl (cI, 21, .inl f_beside_19)), (q_found, .inl (cI, 21, .inl f_found))]) (w2 := [(q, .inr (3, [.ref q_bits, .ref q_lesser, .ref q_greater, .int f_placed, .ref q_stops, .int f_groups, .ref q_beside, .ref q_found])), (q_bits, .inl (cI, 21, .inl f_bits)), (q_lesser, .inl (cI, 21, .inl f_lesser)), (q_greater, .inl (cI, 21, .inl f_greater)), (q_stops, .inl (cI, 21, .inl f_stops)), (q_beside, .inl (cI, 21, .inl f_beside_19)), (q_found, .inl (cI, 21, .inl f_found)), (q_p0, .inr (2, [.int f_p0_knots, .int f_p0_threads, .ref q_p0_ends, .ref q_p0_colours])), (q_p0_ends, .inl (cI, 21, .inl f_p0_ends)), (q_p0_colours, .inl (cI, 21, .inl f_p0_colours))]) (va_runV (As := []) (rest := [.int x3_18]) ⟨hx, hb, hml, hown, hts⟩ (k_X2_threads l D cI cC cN N q_p0 q_p0_ends q_p0_colours H.size f_p0_knots f_p0_threads f_p0_ends f_p0_colours r_20 h_21) (cwV 0 hts gX3_arrange_X2_threads rfl rfl rfl (by decide +kernel) ⟨Nat.le_of_ble_eq_true rfl, Nat.le_of_ble_eq_true rfl⟩) ⟨g_blind, va_recv (D := D) (ci := 2) (q0 := 7) hK hP rfl rfl, g_pre (hP.sub [7, 8, 9] rfl) hK hN (hD.sub [7, 8, 9] (by decide) rfl)⟩ rfl rfl hl.1 rfl (lv_room (Nat.le_of_ble_eq_true rfl)) dX3_arrange_4 ⟨Nat.zero_le _, Nat.zero_le _⟩) hP hD hS hA [7, 8, 9] [0, 1, 2, 3, 4, 5, 6] rfl rfl (by decide) (by decide) rfl (fun H locs hP hD hS => ?_)
      refine lv_icmp_ge (tgt := 33) hx hb dX3_arrange_7 (by decide) (fun hc => ?_) (fun hc => ?_)
      · have hm := if_t _ hc hm
        exact j33 f_beside_19 _ _ _ hP hD hS (lv_sub hl [1, 2, 3] rfl) hm
      · have hm := if_f _ hc hm
        refine lv_aload_n hx hb dX3_arrange_10 rfl (lv_at hl 1 rfl) ?_
        refine va_get (D := D) (ci := 3) (v := .ref q_beside) (C := RX3) (T := TX3) (N := 8) hx hb hts (by decide +kernel) hown hK hP 0 rfl rfl 6 (by decide) (hts (.fieldLink RX3 24 "KnotStripes$Painter" "beside" "[I") (by decide +kernel)) (fun _ h9 => h9) rfl dX3_arrange_11 ?_
        refine lv_iload_n hx hb dX3_arrange_14 rfl (lv_at hl 0 rfl) ?_
        refine lv_aload_n hx hb dX3_arrange_15 rfl (lv_at hl 2 rfl) ?_
        refine lv_aload_n hx hb dX3_arrange_16 rfl (lv_at hl 2 rfl) ?_
        refine lv_iload_n hx hb dX3_arrange_17 rfl (lv_at hl 0 rfl) ?_
        obtain ⟨r_22, h_23, hm⟩ := bind_use hm
        refine g_ki (wc := [(q_p0, .inr (2, [.int f_p0_knots, .int f_p0_threads, .ref q_p0_ends, .ref q_p0_colours])), (q_p0_ends, .inl (cI, 21, .inl f_p0_ends)), (q_p0_colours, .inl (cI, 21, .inl f_p0_colours))]) (wr := [(q, .inr (3, [.ref q_bits, .ref q_lesser, .ref q_greater, .int f_placed, .ref q_stops, .int f_groups, .ref q_beside, .ref q_found])), (q_bits, .inl (cI, 21, .inl f_bits)), (q_lesser, .inl (cI, 21, .inl f_lesser)), (q_greater, .inl (cI, 21, .inl f_greater)), (q_stops, .inl (cI, 21, .inl f_stops)), (q_beside, .inl (cI, 21, .inl f_beside_19)), (q_found, .inl (cI, 21, .inl f_found))]) (w2 := [(q, .inr (3, [.ref q_bits, .ref q_lesser, .ref q_greater, .int f_placed, .ref q_stops, .int f_groups, .ref q_beside, .ref q_found])), (q_bits, .inl (cI, 21, .inl f_bits)), (q_lesser, .inl (cI, 21, .inl f_lesser)), (q_greater, .inl (cI, 21, .inl f_greater)), (q_stops, .inl (cI, 21, .inl f_stops)), (q_beside, .inl (cI, 21, .inl f_beside_19)), (q_found, .inl (cI, 21, .inl f_found)), (q_p0, .inr (2, [.int f_p0_knots, .int f_p0_threads, .ref q_p0_ends, .ref q_p0_colours])), (q_p0_ends, .inl (cI, 21, .inl f_p0_ends)), (q_p0_colours, .inl (cI, 21, .inl f_p0_colours))]) (va_runV (As := [.int x3_18]) (rest := [.ref q_p0, .int x3_18, .ref q_beside]) ⟨hx, hb, hml, hown, hts⟩ (k_X2_ends l D cI cC cN N q_p0 q_p0_ends q_p0_colours H.size f_p0_knots f_p0_threads f_p0_ends f_p0_colours x3_18 r_22 h_23) (cwV 1 hts gX3_arrange_X2_ends rfl rfl rfl (by decide +kernel) ⟨Nat.le_of_ble_eq_true rfl, Nat.le_of_ble_eq_true rfl⟩) ⟨g_blind, va_recv (D := D) (ci := 2) (q0 := 7) hK hP rfl rfl, g_pre (hP.sub [7, 8, 9] rfl) hK hN (hD.sub [7, 8, 9] (by decide) rfl)⟩ rfl rfl hl.1 rfl (lv_room (Nat.le_of_ble_eq_true rfl)) dX3_arrange_18 ⟨Nat.zero_le _, Nat.zero_le _⟩) hP hD hS hA [7, 8, 9] [0, 1, 2, 3, 4, 5, 6] rfl rfl (by decide) (by decide) rfl (fun H locs hP hD hS => ?_)
        obtain ⟨r_24, h_25, hm⟩ := bind_use hm
        refine g_ki (wc := [(q_p0, .inr (2, [.int f_p0_knots, .int f_p0_threads, .ref q_p0_ends, .ref q_p0_colours])), (q_p0_ends, .inl (cI, 21, .inl f_p0_ends)), (q_p0_colours, .inl (cI, 21, .inl f_p0_colours))]) (wr := [(q, .inr (3, [.ref q_bits, .ref q_lesser, .ref q_greater, .int f_placed, .ref q_stops, .int f_groups, .ref q_beside, .ref q_found])), (q_bits, .inl (cI, 21, .inl f_bits)), (q_lesser, .inl (cI, 21, .inl f_lesser)), (q_greater, .inl (cI, 21, .inl f_greater)), (q_stops, .inl (cI, 21, .inl f_stops)), (q_beside, .inl (cI, 21, .inl f_beside_19)), (q_found, .inl (cI, 21, .inl f_found))]) (w2 := [(q, .inr (3, [.ref q_bits, .ref q_lesser, .ref q_greater, .int f_placed, .ref q_stops, .int f_groups, .ref q_beside, .ref q_found])), (q_bits, .inl (cI, 21, .inl f_bits)), (q_lesser, .inl (cI, 21, .inl f_lesser)), (q_greater, .inl (cI, 21, .inl f_greater)), (q_stops, .inl (cI, 21, .inl f_stops)), (q_beside, .inl (cI, 21, .inl f_beside_19)), (q_found, .inl (cI, 21, .inl f_found)), (q_p0, .inr (2, [.int f_p0_knots, .int f_p0_threads, .ref q_p0_ends, .ref q_p0_colours])), (q_p0_ends, .inl (cI, 21, .inl f_p0_ends)), (q_p0_colours, .inl (cI, 21, .inl f_p0_colours))]) (va_runV (As := [.int r_22]) (rest := [.int x3_18, .ref q_beside]) ⟨hx, hb, hml, hown, hts⟩ (k_X2_threadsAt l D cI cC cN N q_p0 q_p0_ends q_p0_colours H.size f_p0_knots f_p0_threads f_p0_ends f_p0_colours r_22 r_24 h_25) (cwV 1 hts gX3_arrange_X2_threadsAt rfl rfl rfl (by decide +kernel) ⟨Nat.le_of_ble_eq_true rfl, Nat.le_of_ble_eq_true rfl⟩) ⟨g_blind, va_recv (D := D) (ci := 2) (q0 := 7) hK hP rfl rfl, g_pre (hP.sub [7, 8, 9] rfl) hK hN (hD.sub [7, 8, 9] (by decide) rfl)⟩ rfl rfl hl.1 rfl (lv_room (Nat.le_of_ble_eq_true rfl)) dX3_arrange_21 ⟨Nat.zero_le _, Nat.zero_le _⟩) hP hD hS hA [7, 8, 9] [0, 1, 2, 3, 4, 5, 6] rfl rfl (by decide) (by decide) rfl (fun H locs hP hD hS => ?_)
        obtain ⟨f_beside_26, h_27, hm⟩ := bind_use hm
        refine g_kv (wc := [(q_beside, .inl (cI, 21, .inl f_beside_19))]) (wr := [(q, .inr (3, [.ref q_bits, .ref q_lesser, .ref q_greater, .int f_placed, .ref q_stops, .int f_groups, .ref q_beside, .ref q_found])), (q_bits, .inl (cI, 21, .inl f_bits)), (q_lesser, .inl (cI, 21, .inl f_lesser)), (q_greater, .inl (cI, 21, .inl f_greater)), (q_stops, .inl (cI, 21, .inl f_stops)), (q_found, .inl (cI, 21, .inl f_found)), (q_p0, .inr (2, [.int f_p0_knots, .int f_p0_threads, .ref q_p0_ends, .ref q_p0_colours])), (q_p0_ends, .inl (cI, 21, .inl f_p0_ends)), (q_p0_colours, .inl (cI, 21, .inl f_p0_colours))]) (w2 := [(q, .inr (3, [.ref q_bits, .ref q_lesser, .ref q_greater, .int f_placed, .ref q_stops, .int f_groups, .ref q_beside, .ref q_found])), (q_bits, .inl (cI, 21, .inl f_bits)), (q_lesser, .inl (cI, 21, .inl f_lesser)), (q_greater, .inl (cI, 21, .inl f_greater)), (q_stops, .inl (cI, 21, .inl f_stops)), (q_found, .inl (cI, 21, .inl f_found)), (q_p0, .inr (2, [.int f_p0_knots, .int f_p0_threads, .ref q_p0_ends, .ref q_p0_colours])), (q_p0_ends, .inl (cI, 21, .inl f_p0_ends)), (q_p0_colours, .inl (cI, 21, .inl f_p0_colours)), (q_beside, .inl (cI, 21, .inl f_beside_26))]) (va_runSN (As := [.ref q_beside, .int x3_18, .int r_24]) (rest := []) ⟨hx, hb, hml, hown, hts⟩ (k_X6_put l D cI cC cN N q_beside 21 H.size f_beside_19 x3_18 r_24 f_beside_26 h_27) ⟨va_cnB 3 hts gX3_arrange_X6_put_n90 rfl rfl rfl (hN (.methodLinkNest RX3 90 yX6_put RX6) (by decide +kernel)) (hts (.initialized RX6) (by decide +kernel)) (by decide +kernel) ⟨Nat.le_of_ble_eq_true rfl, Nat.le_of_ble_eq_true rfl⟩, hts (.static yX6_put) (by decide +kernel), trivial⟩ ⟨g_blind, g_pre (hP.sub [5] rfl) hK hN (hD.sub [5] (by decide) rfl)⟩ rfl rfl hl.1 rfl (lv_room (Nat.le_of_ble_eq_true rfl)) dX3_arrange_24 ⟨Nat.zero_le _, Nat.zero_le _⟩) hP hD hS hA [5] [0, 1, 2, 3, 4, 6, 7, 8, 9] rfl rfl (by decide) (by decide) rfl (fun H locs hP hD hS => ?_)
        refine lv_iinc (v := (x3_18 + 1)) (lv' := [(3, .int (x3_18 + 1)), (0, .ref q), (1, .ref q_p0), (2, .int a2)]) hx hb dX3_arrange_27 hl (k := 0) rfl rfl (by decide) rfl (fun ls hl => ?_)
        refine lv_goto (tgt := 2) hx hb dX3_arrange_30 (by decide) ?_
        exact ih2 (x3_18 + 1) f_beside_26 _ _ _ (hP.sub [0, 1, 2, 3, 4, 9, 5, 6, 7, 8] rfl) (hD.sub [0, 1, 2, 3, 4, 9, 5, 6, 7, 8] (by decide) rfl) hS hl hm
  exact l2 N 0 f_beside _ _ _ hP hD hS hl hm
abbrev rX3_usedAt : Room := { frames := 0, cells := 0, slots := 0, locals := 0 }
set_option maxHeartbeats 4000000 in
set_option maxRecDepth 100000 in
theorem k_X3_usedAt (l : Launch) (D : va_G) (cI cC cN : ClassId) (N : Nat) (sz : Nat) (a0 : Int32) (a1 : Int32) (a2 : Int64) (r : Int32) (hm : m_X3_usedAt N a0 a1 a2 = some r) : Met l yX3_usedAt wsX3_usedAt (rX3_usedAt) (gPc D (tysG cI cC cN) [.int a0, .int a1, .long a2] [] sz) (gQi D (tysG cI cC cN) (va_A [] sz) [] r) 0 0 (va_A [] sz) := by
  unfold m_X3_usedAt at hm
  refine g_openI (cc := cX3_usedAt) (maxL := 4) (own := RX3) (by decide) rfl rfl (Nat.le_of_ble_eq_true rfl) ?_
  intro p e s m args below meth c A Q hx hb hml hown hts hP hK hN hD hA hret ls hl
  have hS : va_S A s.heap s.heap [] := va_S.rf
  have hl : lv_has ls 4 [(0, .int a0), (1, .int a1), (2, .long a2)] := hl
  refine lv_lload_n hx hb dX3_usedAt_0 rfl (lv_at hl 2 rfl) ?_
  refine lv_iload_n hx hb dX3_usedAt_1 rfl (lv_at hl 0 rfl) ?_
  refine gv_lushr hx hb dX3_usedAt_2 ?_
  refine lv_lload_n hx hb dX3_usedAt_3 rfl (lv_at hl 2 rfl) ?_
  refine lv_iload_n hx hb dX3_usedAt_4 rfl (lv_at hl 1 rfl) ?_
  refine gv_lushr hx hb dX3_usedAt_5 ?_
  refine lv_lor hx hb dX3_usedAt_6 ?_
  refine lv_l2i hx hb dX3_usedAt_7 rfl ?_
  refine lv_bipush (v := 7) hx hb dX3_usedAt_8 (by decide) ?_
  refine lv_iand hx hb dX3_usedAt_10 ?_
  have z1 := so_use hm
  subst z1
  exact hret _ _ _ _ _ dX3_usedAt_11 rfl rfl hP hD hS
abbrev rX3_isBare : Room := { frames := 1, cells := 0, slots := 0, locals := 23 }
set_option maxHeartbeats 4000000 in
set_option maxRecDepth 100000 in
theorem k_X3_isBare (l : Launch) (D : va_G) (cI cC cN : ClassId) (N : Nat) (q : Nat) (q_bits : Nat) (q_lesser : Nat) (q_greater : Nat) (q_stops : Nat) (q_beside : Nat) (q_found : Nat) (sz : Nat) (f_bits : Nat → Int32) (f_lesser : Nat → Int32) (f_greater : Nat → Int32) (f_placed : Int32) (f_stops : Nat → Int32) (f_groups : Int32) (f_beside : Nat → Int32) (f_found : Nat → Int32) (a1 : Int32) (a2 : Int32) (a3 : Int64) (a5 : Int32) (r : Int32) (hm : m_X3_isBare N f_bits f_lesser f_greater a1 a2 a3 a5 = some r) : Met l yX3_isBare wsX3_isBare (rX3_isBare) (gPc D (tysG cI cC cN) [.ref q, .int a1, .int a2, .long a3, .int a5] [(q, .inr (3, [.ref q_bits, .ref q_lesser, .ref q_greater, .int f_placed, .ref q_stops, .int f_groups, .ref q_beside, .ref q_found])), (q_bits, .inl (cI, 21, .inl f_bits)), (q_lesser, .inl (cI, 21, .inl f_lesser)), (q_greater, .inl (cI, 21, .inl f_greater)), (q_stops, .inl (cI, 21, .inl f_stops)), (q_beside, .inl (cI, 21, .inl f_beside)), (q_found, .inl (cI, 21, .inl f_found))] sz) (gQi D (tysG cI cC cN) (va_A [(q, .inr (3, [.ref q_bits, .ref q_lesser, .ref q_greater, .int f_placed, .ref q_stops, .int f_groups, .ref q_beside, .ref q_found])), (q_bits, .inl (cI, 21, .inl f_bits)), (q_lesser, .inl (cI, 21, .inl f_lesser)), (q_greater, .inl (cI, 21, .inl f_greater)), (q_stops, .inl (cI, 21, .inl f_stops)), (q_beside, .inl (cI, 21, .inl f_beside)), (q_found, .inl (cI, 21, .inl f_found))] sz) [(q, .inr (3, [.ref q_bits, .ref q_lesser, .ref q_greater, .int f_placed, .ref q_stops, .int f_groups, .ref q_beside, .ref q_found])), (q_bits, .inl (cI, 21, .inl f_bits)), (q_lesser, .inl (cI, 21, .inl f_lesser)), (q_greater, .inl (cI, 21, .inl f_greater)), (q_stops, .inl (cI, 21, .inl f_stops)), (q_beside, .inl (cI, 21, .inl f_beside)), (q_found, .inl (cI, 21, .inl f_found))] r) 0 0 (va_A [(q, .inr (3, [.ref q_bits, .ref q_lesser, .ref q_greater, .int f_placed, .ref q_stops, .int f_groups, .ref q_beside, .ref q_found])), (q_bits, .inl (cI, 21, .inl f_bits)), (q_lesser, .inl (cI, 21, .inl f_lesser)), (q_greater, .inl (cI, 21, .inl f_greater)), (q_stops, .inl (cI, 21, .inl f_stops)), (q_beside, .inl (cI, 21, .inl f_beside)), (q_found, .inl (cI, 21, .inl f_found))] sz) := by
  unfold m_X3_isBare at hm
  refine g_openI (cc := cX3_isBare) (maxL := 8) (own := RX3) (by decide) rfl rfl (Nat.le_of_ble_eq_true rfl) ?_
  intro p e s m args below meth c A Q hx hb hml hown hts hP hK hN hD hA hret ls hl
  have hS : va_S A s.heap s.heap [] := va_S.rf
  have hl : lv_has ls 8 [(0, .ref q), (1, .int a1), (2, .int a2), (3, .long a3), (5, .int a5)] := hl
  refine lv_iload_n hx hb dX3_isBare_0 rfl (lv_at hl 1 rfl) ?_
  refine lv_istore (lv' := [(6, .int a1), (0, .ref q), (1, .int a1), (2, .int a2), (3, .long a3), (5, .int a5)]) hx hb dX3_isBare_1 hl (by decide) rfl (fun ls hl => ?_)
  have l3 : ∀ (n_3 : Nat) (x6_1 : Int32), ∀ (H : Heap) (locs : List Loc) (ls : Array Slot), va_P D vwCl [(q, .inr (3, [.ref q_bits, .ref q_lesser, .ref q_greater, .int f_placed, .ref q_stops, .int f_groups, .ref q_beside, .ref q_found])), (q_bits, .inl (cI, 21, .inl f_bits)), (q_lesser, .inl (cI, 21, .inl f_lesser)), (q_greater, .inl (cI, 21, .inl f_greater)), (q_stops, .inl (cI, 21, .inl f_stops)), (q_beside, .inl (cI, 21, .inl f_beside)), (q_found, .inl (cI, 21, .inl f_found))] H → va_D A [(q, .inr (3, [.ref q_bits, .ref q_lesser, .ref q_greater, .int f_placed, .ref q_stops, .int f_groups, .ref q_beside, .ref q_found])), (q_bits, .inl (cI, 21, .inl f_bits)), (q_lesser, .inl (cI, 21, .inl f_lesser)), (q_greater, .inl (cI, 21, .inl f_greater)), (q_stops, .inl (cI, 21, .inl f_stops)), (q_beside, .inl (cI, 21, .inl f_beside)), (q_found, .inl (cI, 21, .inl f_found))] → va_S A s.heap H locs → lv_has ls 8 [(6, .int x6_1), (0, .ref q), (2, .int a2), (3, .long a3), (5, .int a5)] → m_X3_isBare_L3 N f_bits f_lesser f_greater a2 a3 a5 n_3 x6_1 = some r → W p l e rX3_isBare s m args below meth c H locs 0 0 Q (F0 m 3 ls []) := by
    intro n_3
    induction n_3 with
    | zero => intro x6_1 H locs ls hP hD hS hl hm; rw [m_X3_isBare_L3] at hm; exact no_use hm
    | succ n_3 ih3 =>
      intro x6_1 H locs ls hP hD hS hl hm
      rw [m_X3_isBare_L3] at hm
      refine lv_iload hx hb dX3_isBare_3 (lv_at hl 0 rfl) ?_
      refine lv_iload_n hx hb dX3_isBare_5 rfl (lv_at hl 2 rfl) ?_
      refine lv_icmp_ge (tgt := 69) hx hb dX3_isBare_6 (by decide) (fun hc => ?_) (fun hc => ?_)
      · have hm := if_t _ hc hm
        refine lv_iconst (v := 1) hx hb dX3_isBare_69 (by decide) ?_
        have z1 := so_use hm
        subst z1
        exact hret _ _ _ _ _ dX3_isBare_70 rfl rfl hP hD hS
      · have hm := if_f _ hc hm
        refine lv_aload_n hx hb dX3_isBare_9 rfl (lv_at hl 1 rfl) ?_
        refine va_get (D := D) (ci := 3) (v := .ref q_bits) (C := RX3) (T := TX3) (N := 8) hx hb hts (by decide +kernel) hown hK hP 0 rfl rfl 0 (by decide) (hts (.fieldLink RX3 9 "KnotStripes$Painter" "bits" "[I") (by decide +kernel)) (fun _ h9 => h9) rfl dX3_isBare_10 ?_
        refine lv_iload hx hb dX3_isBare_13 (lv_at hl 0 rfl) ?_
        obtain ⟨r_2, h_3, hm⟩ := bind_use hm
        refine g_ki (wc := [(q_bits, .inl (cI, 21, .inl f_bits))]) (wr := [(q, .inr (3, [.ref q_bits, .ref q_lesser, .ref q_greater, .int f_placed, .ref q_stops, .int f_groups, .ref q_beside, .ref q_found])), (q_lesser, .inl (cI, 21, .inl f_lesser)), (q_greater, .inl (cI, 21, .inl f_greater)), (q_stops, .inl (cI, 21, .inl f_stops)), (q_beside, .inl (cI, 21, .inl f_beside)), (q_found, .inl (cI, 21, .inl f_found))]) (w2 := [(q, .inr (3, [.ref q_bits, .ref q_lesser, .ref q_greater, .int f_placed, .ref q_stops, .int f_groups, .ref q_beside, .ref q_found])), (q_lesser, .inl (cI, 21, .inl f_lesser)), (q_greater, .inl (cI, 21, .inl f_greater)), (q_stops, .inl (cI, 21, .inl f_stops)), (q_beside, .inl (cI, 21, .inl f_beside)), (q_found, .inl (cI, 21, .inl f_found)), (q_bits, .inl (cI, 21, .inl f_bits))]) (va_runSN (As := [.ref q_bits, .int x6_1]) (rest := []) ⟨hx, hb, hml, hown, hts⟩ (k_X6_at l D cI cC cN N q_bits 21 H.size f_bits x6_1 r_2 h_3) ⟨va_cnB 2 hts gX3_isBare_X6_at_n37 rfl rfl rfl (hN (.methodLinkNest RX3 37 yX6_at RX6) (by decide +kernel)) (hts (.initialized RX6) (by decide +kernel)) (by decide +kernel) ⟨Nat.le_of_ble_eq_true rfl, Nat.le_of_ble_eq_true rfl⟩, hts (.static yX6_at) (by decide +kernel), trivial⟩ ⟨g_blind, g_pre (hP.sub [1] rfl) hK hN (hD.sub [1] (by decide) rfl)⟩ rfl rfl hl.1 rfl (lv_room (Nat.le_of_ble_eq_true rfl)) dX3_isBare_15 ⟨Nat.zero_le _, Nat.zero_le _⟩) hP hD hS hA [1] [0, 2, 3, 4, 5, 6] rfl rfl (by decide) (by decide) rfl (fun H locs hP hD hS => ?_)
        refine lv_iload hx hb dX3_isBare_18 (lv_at hl 4 rfl) ?_
        refine lv_iand hx hb dX3_isBare_20 ?_
        obtain ⟨J29, hJ29, hm⟩ := jn_use hm
        have j29 : ∀ (y_4 : Int32), ∀ (H : Heap) (locs : List Loc) (ls : Array Slot), va_P D vwCl [(q, .inr (3, [.ref q_bits, .ref q_lesser, .ref q_greater, .int f_placed, .ref q_stops, .int f_groups, .ref q_beside, .ref q_found])), (q_lesser, .inl (cI, 21, .inl f_lesser)), (q_greater, .inl (cI, 21, .inl f_greater)), (q_stops, .inl (cI, 21, .inl f_stops)), (q_beside, .inl (cI, 21, .inl f_beside)), (q_found, .inl (cI, 21, .inl f_found)), (q_bits, .inl (cI, 21, .inl f_bits))] H → va_D A [(q, .inr (3, [.ref q_bits, .ref q_lesser, .ref q_greater, .int f_placed, .ref q_stops, .int f_groups, .ref q_beside, .ref q_found])), (q_lesser, .inl (cI, 21, .inl f_lesser)), (q_greater, .inl (cI, 21, .inl f_greater)), (q_stops, .inl (cI, 21, .inl f_stops)), (q_beside, .inl (cI, 21, .inl f_beside)), (q_found, .inl (cI, 21, .inl f_found)), (q_bits, .inl (cI, 21, .inl f_bits))] → va_S A s.heap H locs → lv_has ls 8 [(6, .int x6_1), (0, .ref q), (2, .int a2), (3, .long a3), (5, .int a5)] → J29 y_4 = some r → W p l e rX3_isBare s m args below meth c H locs 0 0 Q (F0 m 29 ls [.int y_4]) := by
          intro y_4 H locs ls hP hD hS hl hm
          rw [hJ29] at hm
          refine lv_istore (lv' := [(7, .int y_4), (6, .int x6_1), (0, .ref q), (2, .int a2), (3, .long a3), (5, .int a5)]) hx hb dX3_isBare_29 hl (by decide) rfl (fun ls hl => ?_)
          refine lv_iload hx hb dX3_isBare_31 (lv_at hl 0 rfl) ?_
          refine lv_if_ne (tgt := 63) hx hb dX3_isBare_33 (by decide) (fun hc => ?_) (fun hc => ?_)
          · have hm := if_f _ hc hm
            refine lv_iinc (v := (x6_1 + 1)) (lv' := [(6, .int (x6_1 + 1)), (7, .int y_4), (0, .ref q), (2, .int a2), (3, .long a3), (5, .int a5)]) hx hb dX3_isBare_63 hl (k := 1) rfl rfl (by decide) rfl (fun ls hl => ?_)
            refine lv_goto (tgt := 3) hx hb dX3_isBare_66 (by decide) ?_
            exact ih3 (x6_1 + 1) _ _ _ (hP.sub [0, 6, 1, 2, 3, 4, 5] rfl) (hD.sub [0, 6, 1, 2, 3, 4, 5] (by decide) rfl) hS (lv_sub hl [0, 2, 3, 4, 5] rfl) hm
          · have hm := if_t _ hc hm
            refine lv_aload_n hx hb dX3_isBare_36 rfl (lv_at hl 2 rfl) ?_
            refine va_get (D := D) (ci := 3) (v := .ref q_lesser) (C := RX3) (T := TX3) (N := 8) hx hb hts (by decide +kernel) hown hK hP 0 rfl rfl 1 (by decide) (hts (.fieldLink RX3 15 "KnotStripes$Painter" "lesser" "[I") (by decide +kernel)) (fun _ h9 => h9) rfl dX3_isBare_37 ?_
            refine lv_iload hx hb dX3_isBare_40 (lv_at hl 1 rfl) ?_
            obtain ⟨r_5, h_6, hm⟩ := bind_use hm
            refine g_ki (wc := [(q_lesser, .inl (cI, 21, .inl f_lesser))]) (wr := [(q, .inr (3, [.ref q_bits, .ref q_lesser, .ref q_greater, .int f_placed, .ref q_stops, .int f_groups, .ref q_beside, .ref q_found])), (q_greater, .inl (cI, 21, .inl f_greater)), (q_stops, .inl (cI, 21, .inl f_stops)), (q_beside, .inl (cI, 21, .inl f_beside)), (q_found, .inl (cI, 21, .inl f_found)), (q_bits, .inl (cI, 21, .inl f_bits))]) (w2 := [(q, .inr (3, [.ref q_bits, .ref q_lesser, .ref q_greater, .int f_placed, .ref q_stops, .int f_groups, .ref q_beside, .ref q_found])), (q_greater, .inl (cI, 21, .inl f_greater)), (q_stops, .inl (cI, 21, .inl f_stops)), (q_beside, .inl (cI, 21, .inl f_beside)), (q_found, .inl (cI, 21, .inl f_found)), (q_bits, .inl (cI, 21, .inl f_bits)), (q_lesser, .inl (cI, 21, .inl f_lesser))]) (va_runSN (As := [.ref q_lesser, .int x6_1]) (rest := []) ⟨hx, hb, hml, hown, hts⟩ (k_X6_at l D cI cC cN N q_lesser 21 H.size f_lesser x6_1 r_5 h_6) ⟨va_cnB 2 hts gX3_isBare_X6_at_n37 rfl rfl rfl (hN (.methodLinkNest RX3 37 yX6_at RX6) (by decide +kernel)) (hts (.initialized RX6) (by decide +kernel)) (by decide +kernel) ⟨Nat.le_of_ble_eq_true rfl, Nat.le_of_ble_eq_true rfl⟩, hts (.static yX6_at) (by decide +kernel), trivial⟩ ⟨g_blind, g_pre (hP.sub [1] rfl) hK hN (hD.sub [1] (by decide) rfl)⟩ rfl rfl hl.1 rfl (lv_room (Nat.le_of_ble_eq_true rfl)) dX3_isBare_42 ⟨Nat.zero_le _, Nat.zero_le _⟩) hP hD hS hA [1] [0, 2, 3, 4, 5, 6] rfl rfl (by decide) (by decide) rfl (fun H locs hP hD hS => ?_)
            refine lv_aload_n hx hb dX3_isBare_45 rfl (lv_at hl 2 rfl) ?_
            refine va_get (D := D) (ci := 3) (v := .ref q_greater) (C := RX3) (T := TX3) (N := 8) hx hb hts (by decide +kernel) hown hK hP 0 rfl rfl 2 (by decide) (hts (.fieldLink RX3 18 "KnotStripes$Painter" "greater" "[I") (by decide +kernel)) (fun _ h9 => h9) rfl dX3_isBare_46 ?_
            refine lv_iload hx hb dX3_isBare_49 (lv_at hl 1 rfl) ?_
            obtain ⟨r_7, h_8, hm⟩ := bind_use hm
            refine g_ki (wc := [(q_greater, .inl (cI, 21, .inl f_greater))]) (wr := [(q, .inr (3, [.ref q_bits, .ref q_lesser, .ref q_greater, .int f_placed, .ref q_stops, .int f_groups, .ref q_beside, .ref q_found])), (q_stops, .inl (cI, 21, .inl f_stops)), (q_beside, .inl (cI, 21, .inl f_beside)), (q_found, .inl (cI, 21, .inl f_found)), (q_bits, .inl (cI, 21, .inl f_bits)), (q_lesser, .inl (cI, 21, .inl f_lesser))]) (w2 := [(q, .inr (3, [.ref q_bits, .ref q_lesser, .ref q_greater, .int f_placed, .ref q_stops, .int f_groups, .ref q_beside, .ref q_found])), (q_stops, .inl (cI, 21, .inl f_stops)), (q_beside, .inl (cI, 21, .inl f_beside)), (q_found, .inl (cI, 21, .inl f_found)), (q_bits, .inl (cI, 21, .inl f_bits)), (q_lesser, .inl (cI, 21, .inl f_lesser)), (q_greater, .inl (cI, 21, .inl f_greater))]) (va_runSN (As := [.ref q_greater, .int x6_1]) (rest := [.int r_5]) ⟨hx, hb, hml, hown, hts⟩ (k_X6_at l D cI cC cN N q_greater 21 H.size f_greater x6_1 r_7 h_8) ⟨va_cnB 2 hts gX3_isBare_X6_at_n37 rfl rfl rfl (hN (.methodLinkNest RX3 37 yX6_at RX6) (by decide +kernel)) (hts (.initialized RX6) (by decide +kernel)) (by decide +kernel) ⟨Nat.le_of_ble_eq_true rfl, Nat.le_of_ble_eq_true rfl⟩, hts (.static yX6_at) (by decide +kernel), trivial⟩ ⟨g_blind, g_pre (hP.sub [1] rfl) hK hN (hD.sub [1] (by decide) rfl)⟩ rfl rfl hl.1 rfl (lv_room (Nat.le_of_ble_eq_true rfl)) dX3_isBare_51 ⟨Nat.zero_le _, Nat.zero_le _⟩) hP hD hS hA [1] [0, 2, 3, 4, 5, 6] rfl rfl (by decide) (by decide) rfl (fun H locs hP hD hS => ?_)
            refine lv_lload_n hx hb dX3_isBare_54 rfl (lv_at hl 4 rfl) ?_
            obtain ⟨r_9, h_10, hm⟩ := bind_use hm
            refine g_ki (wc := []) (wr := [(q, .inr (3, [.ref q_bits, .ref q_lesser, .ref q_greater, .int f_placed, .ref q_stops, .int f_groups, .ref q_beside, .ref q_found])), (q_stops, .inl (cI, 21, .inl f_stops)), (q_beside, .inl (cI, 21, .inl f_beside)), (q_found, .inl (cI, 21, .inl f_found)), (q_bits, .inl (cI, 21, .inl f_bits)), (q_lesser, .inl (cI, 21, .inl f_lesser)), (q_greater, .inl (cI, 21, .inl f_greater))]) (w2 := [(q, .inr (3, [.ref q_bits, .ref q_lesser, .ref q_greater, .int f_placed, .ref q_stops, .int f_groups, .ref q_beside, .ref q_found])), (q_stops, .inl (cI, 21, .inl f_stops)), (q_beside, .inl (cI, 21, .inl f_beside)), (q_found, .inl (cI, 21, .inl f_found)), (q_bits, .inl (cI, 21, .inl f_bits)), (q_lesser, .inl (cI, 21, .inl f_lesser)), (q_greater, .inl (cI, 21, .inl f_greater))]) (va_runS (As := [.int r_5, .int r_7, .long a3]) (rest := []) ⟨hx, hb, hml, hown, hts⟩ (k_X3_usedAt l D cI cC cN N H.size r_5 r_7 a3 r_9 h_10) (va_cwS 3 hts gX3_isBare_X3_usedAt rfl rfl rfl (by decide +kernel) ⟨Nat.le_of_ble_eq_true rfl, Nat.le_of_ble_eq_true rfl⟩) ⟨g_blind, g_pre (hP.sub [] rfl) hK hN (hD.sub [] (by decide) rfl)⟩ rfl rfl hl.1 rfl (lv_room (Nat.le_of_ble_eq_true rfl)) dX3_isBare_55 ⟨Nat.zero_le _, Nat.zero_le _⟩) hP hD hS hA [] [0, 1, 2, 3, 4, 5, 6] rfl rfl (by decide) (by decide) rfl (fun H locs hP hD hS => ?_)
            refine lv_if_eq (tgt := 63) hx hb dX3_isBare_58 (by decide) (fun hc => ?_) (fun hc => ?_)
            · have hm := if_t _ hc hm
              refine lv_iinc (v := (x6_1 + 1)) (lv' := [(6, .int (x6_1 + 1)), (7, .int y_4), (0, .ref q), (2, .int a2), (3, .long a3), (5, .int a5)]) hx hb dX3_isBare_63 hl (k := 1) rfl rfl (by decide) rfl (fun ls hl => ?_)
              refine lv_goto (tgt := 3) hx hb dX3_isBare_66 (by decide) ?_
              exact ih3 (x6_1 + 1) _ _ _ (hP.sub [0, 4, 5, 6, 1, 2, 3] rfl) (hD.sub [0, 4, 5, 6, 1, 2, 3] (by decide) rfl) hS (lv_sub hl [0, 2, 3, 4, 5] rfl) hm
            · have hm := if_f _ hc hm
              refine lv_iconst (v := 0) hx hb dX3_isBare_61 (by decide) ?_
              have z1 := so_use hm
              subst z1
              exact hret _ _ _ _ _ dX3_isBare_62 rfl rfl (hP.sub [0, 4, 5, 6, 1, 2, 3] rfl) (hD.sub [0, 4, 5, 6, 1, 2, 3] (by decide) rfl) hS
        refine lv_if_eq (tgt := 28) hx hb dX3_isBare_21 (by decide) (fun hc => ?_) (fun hc => ?_)
        · have hm := if_t _ hc hm
          refine lv_iconst (v := 0) hx hb dX3_isBare_28 (by decide) ?_
          exact j29 0 _ _ _ hP hD hS hl hm
        · have hm := if_f _ hc hm
          refine lv_iconst (v := 1) hx hb dX3_isBare_24 (by decide) ?_
          refine lv_goto (tgt := 29) hx hb dX3_isBare_25 (by decide) ?_
          exact j29 1 _ _ _ hP hD hS hl hm
  exact l3 N a1 _ _ _ hP hD hS (lv_sub hl [0, 1, 3, 4, 5] rfl) hm
abbrev rX3_usedWith : Room := { frames := 0, cells := 0, slots := 0, locals := 0 }
set_option maxHeartbeats 4000000 in
set_option maxRecDepth 100000 in
theorem k_X3_usedWith (l : Launch) (D : va_G) (cI cC cN : ClassId) (N : Nat) (sz : Nat) (a0 : Int32) (a1 : Int32) (a2 : Int32) (r : Int64) (hm : m_X3_usedWith N a0 a1 a2 = some r) : Met l yX3_usedWith wsX3_usedWith (rX3_usedWith) (gPc D (tysG cI cC cN) [.int a0, .int a1, .int a2] [] sz) (gQl D (tysG cI cC cN) (va_A [] sz) [] r) 0 0 (va_A [] sz) := by
  unfold m_X3_usedWith at hm
  refine g_openL (cc := cX3_usedWith) (maxL := 3) (own := RX3) (by decide) rfl rfl (Nat.le_of_ble_eq_true rfl) ?_
  intro p e s m args below meth c A Q hx hb hml hown hts hP hK hN hD hA hret ls hl
  have hS : va_S A s.heap s.heap [] := va_S.rf
  have hl : lv_has ls 3 [(0, .int a0), (1, .int a1), (2, .int a2)] := hl
  refine lv_lconst (v := 1) hx hb dX3_usedWith_0 rfl ?_
  refine lv_iload_n hx hb dX3_usedWith_1 rfl (lv_at hl 0 rfl) ?_
  refine lv_iload_n hx hb dX3_usedWith_2 rfl (lv_at hl 2 rfl) ?_
  refine lv_iadd hx hb dX3_usedWith_3 ?_
  refine gv_lshl hx hb dX3_usedWith_4 ?_
  refine lv_lconst (v := 1) hx hb dX3_usedWith_5 rfl ?_
  refine lv_iload_n hx hb dX3_usedWith_6 rfl (lv_at hl 1 rfl) ?_
  refine lv_iload_n hx hb dX3_usedWith_7 rfl (lv_at hl 2 rfl) ?_
  refine lv_iadd hx hb dX3_usedWith_8 ?_
  refine gv_lshl hx hb dX3_usedWith_9 ?_
  refine lv_lor hx hb dX3_usedWith_10 ?_
  have z1 := so_use hm
  subst z1
  exact hret _ _ _ _ _ dX3_usedWith_11 rfl hP hD hS
