abbrev rX7_findCircles : Room := { frames := 2, cells := 0, slots := 0, locals := 48 }
set_option maxHeartbeats 4000000 in
set_option maxRecDepth 100000 in
theorem k_X7_findCircles (l : Launch) (D : va_G) (cI cC cN : ClassId) (N : Nat) (q : Nat) (q_s : Nat) (q_past : Nat) (q_slot : Nat) (q_text : Nat) (q_tries : Nat) (q_firstOne : Nat) (q_read : Nat) (q_coverSets : Nat) (q_picks : Nat) (q_covered : Nat) (q_takenThreads : Nat) (sz : Nat) (f_s : Nat → Int32) (f_past : Nat → Int32) (f_states : Int32) (f_slot : Nat → Int32) (f_isKept : Int32) (f_text : Nat → Int32) (f_length : Int32) (f_tries : Nat → Int32) (f_firstOne : Nat → Int32) (f_at : Int32) (f_ends : Int32) (f_read : Nat → Int32) (f_coverMany : Int32) (f_coverSets : Nat → Int32) (f_picks : Nat → Int32) (f_covered : Nat → Int32) (f_takenThreads : Nat → Int32) (f_circleMany : Int32) (f_circleOdd : Int32) (f_circleLongest : Int32) (a1 : Int32) (f_circleMany' : Int32) (f_circleOdd' : Int32) (f_circleLongest' : Int32) (hm : m_X7_findCircles N f_s f_circleMany f_circleOdd f_circleLongest a1 = some (f_circleMany', f_circleOdd', f_circleLongest')) : Met l yX7_findCircles wsX7_findCircles (rX7_findCircles) (gPc D (tysG cI cC cN) [.ref q, .int a1] [(q, .inr (6, [.ref q_s, .ref q_past, .int f_states, .ref q_slot, .int f_isKept, .ref q_text, .int f_length, .ref q_tries, .ref q_firstOne, .int f_at, .int f_ends, .ref q_read, .int f_coverMany, .ref q_coverSets, .ref q_picks, .ref q_covered, .ref q_takenThreads, .int f_circleMany, .int f_circleOdd, .int f_circleLongest])), (q_s, .inl (cI, 65, .inl f_s)), (q_past, .inl (cI, 260, .inl f_past)), (q_slot, .inl (cI, 65, .inl f_slot)), (q_text, .inl (cC, 60, .inl f_text)), (q_tries, .inl (cI, 22, .inl f_tries)), (q_firstOne, .inl (cI, 21, .inl f_firstOne)), (q_read, .inl (cI, 32, .inl f_read)), (q_coverSets, .inl (cI, 256, .inl f_coverSets)), (q_picks, .inl (cI, 8, .inl f_picks)), (q_covered, .inl (cI, 8, .inl f_covered)), (q_takenThreads, .inl (cI, 8, .inl f_takenThreads))] sz) (gQv D (tysG cI cC cN) (va_A [(q, .inr (6, [.ref q_s, .ref q_past, .int f_states, .ref q_slot, .int f_isKept, .ref q_text, .int f_length, .ref q_tries, .ref q_firstOne, .int f_at, .int f_ends, .ref q_read, .int f_coverMany, .ref q_coverSets, .ref q_picks, .ref q_covered, .ref q_takenThreads, .int f_circleMany, .int f_circleOdd, .int f_circleLongest])), (q_s, .inl (cI, 65, .inl f_s)), (q_past, .inl (cI, 260, .inl f_past)), (q_slot, .inl (cI, 65, .inl f_slot)), (q_text, .inl (cC, 60, .inl f_text)), (q_tries, .inl (cI, 22, .inl f_tries)), (q_firstOne, .inl (cI, 21, .inl f_firstOne)), (q_read, .inl (cI, 32, .inl f_read)), (q_coverSets, .inl (cI, 256, .inl f_coverSets)), (q_picks, .inl (cI, 8, .inl f_picks)), (q_covered, .inl (cI, 8, .inl f_covered)), (q_takenThreads, .inl (cI, 8, .inl f_takenThreads))] sz) [(q, .inr (6, [.ref q_s, .ref q_past, .int f_states, .ref q_slot, .int f_isKept, .ref q_text, .int f_length, .ref q_tries, .ref q_firstOne, .int f_at, .int f_ends, .ref q_read, .int f_coverMany, .ref q_coverSets, .ref q_picks, .ref q_covered, .ref q_takenThreads, .int f_circleMany', .int f_circleOdd', .int f_circleLongest'])), (q_s, .inl (cI, 65, .inl f_s)), (q_past, .inl (cI, 260, .inl f_past)), (q_slot, .inl (cI, 65, .inl f_slot)), (q_text, .inl (cC, 60, .inl f_text)), (q_tries, .inl (cI, 22, .inl f_tries)), (q_firstOne, .inl (cI, 21, .inl f_firstOne)), (q_read, .inl (cI, 32, .inl f_read)), (q_coverSets, .inl (cI, 256, .inl f_coverSets)), (q_picks, .inl (cI, 8, .inl f_picks)), (q_covered, .inl (cI, 8, .inl f_covered)), (q_takenThreads, .inl (cI, 8, .inl f_takenThreads))]) 0 0 (va_A [(q, .inr (6, [.ref q_s, .ref q_past, .int f_states, .ref q_slot, .int f_isKept, .ref q_text, .int f_length, .ref q_tries, .ref q_firstOne, .int f_at, .int f_ends, .ref q_read, .int f_coverMany, .ref q_coverSets, .ref q_picks, .ref q_covered, .ref q_takenThreads, .int f_circleMany, .int f_circleOdd, .int f_circleLongest])), (q_s, .inl (cI, 65, .inl f_s)), (q_past, .inl (cI, 260, .inl f_past)), (q_slot, .inl (cI, 65, .inl f_slot)), (q_text, .inl (cC, 60, .inl f_text)), (q_tries, .inl (cI, 22, .inl f_tries)), (q_firstOne, .inl (cI, 21, .inl f_firstOne)), (q_read, .inl (cI, 32, .inl f_read)), (q_coverSets, .inl (cI, 256, .inl f_coverSets)), (q_picks, .inl (cI, 8, .inl f_picks)), (q_covered, .inl (cI, 8, .inl f_covered)), (q_takenThreads, .inl (cI, 8, .inl f_takenThreads))] sz) := by
  unfold m_X7_findCircles at hm
  refine g_openV (cc := cX7_findCircles) (maxL := 5) (own := RX7) (by decide) rfl rfl (Nat.le_of_ble_eq_true rfl) ?_
  intro p e s m args below meth c A Q hx hb hml hown hts hP hK hN hD hA hret ls hl
  have hS : va_S A s.heap s.heap [] := va_S.rf
  have hl : lv_has ls 5 [(0, .ref q), (1, .int a1)] := hl
  refine lv_aload_n hx hb dX7_findCircles_0 rfl (lv_at hl 0 rfl) ?_
  refine lv_iconst (v := 0) hx hb dX7_findCircles_1 (by decide) ?_
  refine va_put (D := D) (ci := 6) (v := .int 0) (ty := .int) (C := RX7) (T := TX7) (N := 20) hx hb hts (by decide +kernel) tyX7 tyX7_ok nmX7 hown hK hP hD hS 0 rfl rfl 17 (by decide) (hts (.fieldLink RX7 254 "KnotStripesModel" "circleMany" "I") (by decide +kernel)) (fun _ h9 => h9) rfl (by decide +kernel) rfl rfl (Nat.le_of_ble_eq_true rfl) dX7_findCircles_2 (fun H locs hP hD hS => ?_)
  have hP : va_P D vwCl [(q, .inr (6, [.ref q_s, .ref q_past, .int f_states, .ref q_slot, .int f_isKept, .ref q_text, .int f_length, .ref q_tries, .ref q_firstOne, .int f_at, .int f_ends, .ref q_read, .int f_coverMany, .ref q_coverSets, .ref q_picks, .ref q_covered, .ref q_takenThreads, .int 0, .int f_circleOdd, .int f_circleLongest])), (q_s, .inl (cI, 65, .inl f_s)), (q_past, .inl (cI, 260, .inl f_past)), (q_slot, .inl (cI, 65, .inl f_slot)), (q_text, .inl (cC, 60, .inl f_text)), (q_tries, .inl (cI, 22, .inl f_tries)), (q_firstOne, .inl (cI, 21, .inl f_firstOne)), (q_read, .inl (cI, 32, .inl f_read)), (q_coverSets, .inl (cI, 256, .inl f_coverSets)), (q_picks, .inl (cI, 8, .inl f_picks)), (q_covered, .inl (cI, 8, .inl f_covered)), (q_takenThreads, .inl (cI, 8, .inl f_takenThreads))] H := hP
  have hD : va_D A [(q, .inr (6, [.ref q_s, .ref q_past, .int f_states, .ref q_slot, .int f_isKept, .ref q_text, .int f_length, .ref q_tries, .ref q_firstOne, .int f_at, .int f_ends, .ref q_read, .int f_coverMany, .ref q_coverSets, .ref q_picks, .ref q_covered, .ref q_takenThreads, .int 0, .int f_circleOdd, .int f_circleLongest])), (q_s, .inl (cI, 65, .inl f_s)), (q_past, .inl (cI, 260, .inl f_past)), (q_slot, .inl (cI, 65, .inl f_slot)), (q_text, .inl (cC, 60, .inl f_text)), (q_tries, .inl (cI, 22, .inl f_tries)), (q_firstOne, .inl (cI, 21, .inl f_firstOne)), (q_read, .inl (cI, 32, .inl f_read)), (q_coverSets, .inl (cI, 256, .inl f_coverSets)), (q_picks, .inl (cI, 8, .inl f_picks)), (q_covered, .inl (cI, 8, .inl f_covered)), (q_takenThreads, .inl (cI, 8, .inl f_takenThreads))] := hD
  refine lv_aload_n hx hb dX7_findCircles_5 rfl (lv_at hl 0 rfl) ?_
  refine lv_iconst (v := 0) hx hb dX7_findCircles_6 (by decide) ?_
  refine va_put (D := D) (ci := 6) (v := .int 0) (ty := .int) (C := RX7) (T := TX7) (N := 20) hx hb hts (by decide +kernel) tyX7 tyX7_ok nmX7 hown hK hP hD hS 0 rfl rfl 18 (by decide) (hts (.fieldLink RX7 257 "KnotStripesModel" "circleOdd" "I") (by decide +kernel)) (fun _ h9 => h9) rfl (by decide +kernel) rfl rfl (Nat.le_of_ble_eq_true rfl) dX7_findCircles_7 (fun H locs hP hD hS => ?_)
  have hP : va_P D vwCl [(q, .inr (6, [.ref q_s, .ref q_past, .int f_states, .ref q_slot, .int f_isKept, .ref q_text, .int f_length, .ref q_tries, .ref q_firstOne, .int f_at, .int f_ends, .ref q_read, .int f_coverMany, .ref q_coverSets, .ref q_picks, .ref q_covered, .ref q_takenThreads, .int 0, .int 0, .int f_circleLongest])), (q_s, .inl (cI, 65, .inl f_s)), (q_past, .inl (cI, 260, .inl f_past)), (q_slot, .inl (cI, 65, .inl f_slot)), (q_text, .inl (cC, 60, .inl f_text)), (q_tries, .inl (cI, 22, .inl f_tries)), (q_firstOne, .inl (cI, 21, .inl f_firstOne)), (q_read, .inl (cI, 32, .inl f_read)), (q_coverSets, .inl (cI, 256, .inl f_coverSets)), (q_picks, .inl (cI, 8, .inl f_picks)), (q_covered, .inl (cI, 8, .inl f_covered)), (q_takenThreads, .inl (cI, 8, .inl f_takenThreads))] H := hP
  have hD : va_D A [(q, .inr (6, [.ref q_s, .ref q_past, .int f_states, .ref q_slot, .int f_isKept, .ref q_text, .int f_length, .ref q_tries, .ref q_firstOne, .int f_at, .int f_ends, .ref q_read, .int f_coverMany, .ref q_coverSets, .ref q_picks, .ref q_covered, .ref q_takenThreads, .int 0, .int 0, .int f_circleLongest])), (q_s, .inl (cI, 65, .inl f_s)), (q_past, .inl (cI, 260, .inl f_past)), (q_slot, .inl (cI, 65, .inl f_slot)), (q_text, .inl (cC, 60, .inl f_text)), (q_tries, .inl (cI, 22, .inl f_tries)), (q_firstOne, .inl (cI, 21, .inl f_firstOne)), (q_read, .inl (cI, 32, .inl f_read)), (q_coverSets, .inl (cI, 256, .inl f_coverSets)), (q_picks, .inl (cI, 8, .inl f_picks)), (q_covered, .inl (cI, 8, .inl f_covered)), (q_takenThreads, .inl (cI, 8, .inl f_takenThreads))] := hD
  refine lv_aload_n hx hb dX7_findCircles_10 rfl (lv_at hl 0 rfl) ?_
  refine lv_iconst (v := 0) hx hb dX7_findCircles_11 (by decide) ?_
  refine va_put (D := D) (ci := 6) (v := .int 0) (ty := .int) (C := RX7) (T := TX7) (N := 20) hx hb hts (by decide +kernel) tyX7 tyX7_ok nmX7 hown hK hP hD hS 0 rfl rfl 19 (by decide) (hts (.fieldLink RX7 260 "KnotStripesModel" "circleLongest" "I") (by decide +kernel)) (fun _ h9 => h9) rfl (by decide +kernel) rfl rfl (Nat.le_of_ble_eq_true rfl) dX7_findCircles_12 (fun H locs hP hD hS => ?_)
  have hP : va_P D vwCl [(q, .inr (6, [.ref q_s, .ref q_past, .int f_states, .ref q_slot, .int f_isKept, .ref q_text, .int f_length, .ref q_tries, .ref q_firstOne, .int f_at, .int f_ends, .ref q_read, .int f_coverMany, .ref q_coverSets, .ref q_picks, .ref q_covered, .ref q_takenThreads, .int 0, .int 0, .int 0])), (q_s, .inl (cI, 65, .inl f_s)), (q_past, .inl (cI, 260, .inl f_past)), (q_slot, .inl (cI, 65, .inl f_slot)), (q_text, .inl (cC, 60, .inl f_text)), (q_tries, .inl (cI, 22, .inl f_tries)), (q_firstOne, .inl (cI, 21, .inl f_firstOne)), (q_read, .inl (cI, 32, .inl f_read)), (q_coverSets, .inl (cI, 256, .inl f_coverSets)), (q_picks, .inl (cI, 8, .inl f_picks)), (q_covered, .inl (cI, 8, .inl f_covered)), (q_takenThreads, .inl (cI, 8, .inl f_takenThreads))] H := hP
  have hD : va_D A [(q, .inr (6, [.ref q_s, .ref q_past, .int f_states, .ref q_slot, .int f_isKept, .ref q_text, .int f_length, .ref q_tries, .ref q_firstOne, .int f_at, .int f_ends, .ref q_read, .int f_coverMany, .ref q_coverSets, .ref q_picks, .ref q_covered, .ref q_takenThreads, .int 0, .int 0, .int 0])), (q_s, .inl (cI, 65, .inl f_s)), (q_past, .inl (cI, 260, .inl f_past)), (q_slot, .inl (cI, 65, .inl f_slot)), (q_text, .inl (cC, 60, .inl f_text)), (q_tries, .inl (cI, 22, .inl f_tries)), (q_firstOne, .inl (cI, 21, .inl f_firstOne)), (q_read, .inl (cI, 32, .inl f_read)), (q_coverSets, .inl (cI, 256, .inl f_coverSets)), (q_picks, .inl (cI, 8, .inl f_picks)), (q_covered, .inl (cI, 8, .inl f_covered)), (q_takenThreads, .inl (cI, 8, .inl f_takenThreads))] := hD
  refine lv_iconst (v := 0) hx hb dX7_findCircles_15 (by decide) ?_
  refine lv_istore_n (lv' := [(2, .int 0), (0, .ref q), (1, .int a1)]) hx hb dX7_findCircles_16 rfl hl (by decide) rfl (fun ls hl => ?_)
  refine lv_iconst (v := 0) hx hb dX7_findCircles_17 (by decide) ?_
  refine lv_istore_n (lv' := [(3, .int 0), (2, .int 0), (0, .ref q), (1, .int a1)]) hx hb dX7_findCircles_18 rfl hl (by decide) rfl (fun ls hl => ?_)
  have l19 : ∀ (n_19 : Nat) (x3_1 : Int32) (x2_2 : Int32) (f_circleMany_3 : Int32) (f_circleOdd_4 : Int32) (f_circleLongest_5 : Int32), ∀ (H : Heap) (locs : List Loc) (ls : Array Slot), va_P D vwCl [(q, .inr (6, [.ref q_s, .ref q_past, .int f_states, .ref q_slot, .int f_isKept, .ref q_text, .int f_length, .ref q_tries, .ref q_firstOne, .int f_at, .int f_ends, .ref q_read, .int f_coverMany, .ref q_coverSets, .ref q_picks, .ref q_covered, .ref q_takenThreads, .int f_circleMany_3, .int f_circleOdd_4, .int f_circleLongest_5])), (q_s, .inl (cI, 65, .inl f_s)), (q_past, .inl (cI, 260, .inl f_past)), (q_slot, .inl (cI, 65, .inl f_slot)), (q_text, .inl (cC, 60, .inl f_text)), (q_tries, .inl (cI, 22, .inl f_tries)), (q_firstOne, .inl (cI, 21, .inl f_firstOne)), (q_read, .inl (cI, 32, .inl f_read)), (q_coverSets, .inl (cI, 256, .inl f_coverSets)), (q_picks, .inl (cI, 8, .inl f_picks)), (q_covered, .inl (cI, 8, .inl f_covered)), (q_takenThreads, .inl (cI, 8, .inl f_takenThreads))] H → va_D A [(q, .inr (6, [.ref q_s, .ref q_past, .int f_states, .ref q_slot, .int f_isKept, .ref q_text, .int f_length, .ref q_tries, .ref q_firstOne, .int f_at, .int f_ends, .ref q_read, .int f_coverMany, .ref q_coverSets, .ref q_picks, .ref q_covered, .ref q_takenThreads, .int f_circleMany_3, .int f_circleOdd_4, .int f_circleLongest_5])), (q_s, .inl (cI, 65, .inl f_s)), (q_past, .inl (cI, 260, .inl f_past)), (q_slot, .inl (cI, 65, .inl f_slot)), (q_text, .inl (cC, 60, .inl f_text)), (q_tries, .inl (cI, 22, .inl f_tries)), (q_firstOne, .inl (cI, 21, .inl f_firstOne)), (q_read, .inl (cI, 32, .inl f_read)), (q_coverSets, .inl (cI, 256, .inl f_coverSets)), (q_picks, .inl (cI, 8, .inl f_picks)), (q_covered, .inl (cI, 8, .inl f_covered)), (q_takenThreads, .inl (cI, 8, .inl f_takenThreads))] → va_S A s.heap H locs → lv_has ls 5 [(3, .int x3_1), (2, .int x2_2), (0, .ref q), (1, .int a1)] → m_X7_findCircles_L19 N f_s a1 n_19 x3_1 x2_2 f_circleMany_3 f_circleOdd_4 f_circleLongest_5 = some (f_circleMany', f_circleOdd', f_circleLongest') → W p l e rX7_findCircles s m args below meth c H locs 0 0 Q (F0 m 19 ls []) := by
    intro n_19
    induction n_19 with
    | zero => intro x3_1 x2_2 f_circleMany_3 f_circleOdd_4 f_circleLongest_5 H locs ls hP hD hS hl hm; rw [m_X7_findCircles_L19] at hm; exact no_use hm
    | succ n_19 ih19 =>
      intro x3_1 x2_2 f_circleMany_3 f_circleOdd_4 f_circleLongest_5 H locs ls hP hD hS hl hm
      rw [m_X7_findCircles_L19] at hm
      refine lv_iload_n hx hb dX7_findCircles_19 rfl (lv_at hl 0 rfl) ?_
      refine lv_aload_n hx hb dX7_findCircles_20 rfl (lv_at hl 2 rfl) ?_
      refine va_get (D := D) (ci := 6) (v := .ref q_s) (C := RX7) (T := TX7) (N := 20) hx hb hts (by decide +kernel) hown hK hP 0 rfl rfl 0 (by decide) (hts (.fieldLink RX7 7 "KnotStripesModel" "s" "[I") (by decide +kernel)) (fun _ h9 => h9) rfl dX7_findCircles_21 ?_
      refine lv_iconst (v := 0) hx hb dX7_findCircles_24 (by decide) ?_
      obtain ⟨hi_6, hm⟩ := ard_use hm
      refine va_iald (D := D) (n := 65) (f := f_s) hx hb hK hP 1 0 rfl rfl hi_6 dX7_findCircles_25 ?_
      refine lv_topi (fun u_7 eu_7 => ?_)
      have hm := nm_use eu_7 hm
      refine lv_icmp_ge (tgt := 110) hx hb dX7_findCircles_26 (by decide) (fun hc => ?_) (fun hc => ?_)
      · have hm := if_t _ hc hm
        have z1 := so_use hm
        obtain ⟨y1, z2⟩ := pr_use z1
        obtain ⟨y2, z3⟩ := pr_use z2
        subst y1
        subst y2
        subst z3
        exact hret _ _ _ _ dX7_findCircles_110 hP hD hS
      · have hm := if_f _ hc hm
        refine lv_iload_n hx hb dX7_findCircles_29 rfl (lv_at hl 1 rfl) ?_
        refine lv_iload_n hx hb dX7_findCircles_30 rfl (lv_at hl 0 rfl) ?_
        obtain ⟨r_8, h_9, hm⟩ := bind_use hm
        refine g_ki (wc := []) (wr := [(q, .inr (6, [.ref q_s, .ref q_past, .int f_states, .ref q_slot, .int f_isKept, .ref q_text, .int f_length, .ref q_tries, .ref q_firstOne, .int f_at, .int f_ends, .ref q_read, .int f_coverMany, .ref q_coverSets, .ref q_picks, .ref q_covered, .ref q_takenThreads, .int f_circleMany_3, .int f_circleOdd_4, .int f_circleLongest_5])), (q_s, .inl (cI, 65, .inl f_s)), (q_past, .inl (cI, 260, .inl f_past)), (q_slot, .inl (cI, 65, .inl f_slot)), (q_text, .inl (cC, 60, .inl f_text)), (q_tries, .inl (cI, 22, .inl f_tries)), (q_firstOne, .inl (cI, 21, .inl f_firstOne)), (q_read, .inl (cI, 32, .inl f_read)), (q_coverSets, .inl (cI, 256, .inl f_coverSets)), (q_picks, .inl (cI, 8, .inl f_picks)), (q_covered, .inl (cI, 8, .inl f_covered)), (q_takenThreads, .inl (cI, 8, .inl f_takenThreads))]) (w2 := [(q, .inr (6, [.ref q_s, .ref q_past, .int f_states, .ref q_slot, .int f_isKept, .ref q_text, .int f_length, .ref q_tries, .ref q_firstOne, .int f_at, .int f_ends, .ref q_read, .int f_coverMany, .ref q_coverSets, .ref q_picks, .ref q_covered, .ref q_takenThreads, .int f_circleMany_3, .int f_circleOdd_4, .int f_circleLongest_5])), (q_s, .inl (cI, 65, .inl f_s)), (q_past, .inl (cI, 260, .inl f_past)), (q_slot, .inl (cI, 65, .inl f_slot)), (q_text, .inl (cC, 60, .inl f_text)), (q_tries, .inl (cI, 22, .inl f_tries)), (q_firstOne, .inl (cI, 21, .inl f_firstOne)), (q_read, .inl (cI, 32, .inl f_read)), (q_coverSets, .inl (cI, 256, .inl f_coverSets)), (q_picks, .inl (cI, 8, .inl f_picks)), (q_covered, .inl (cI, 8, .inl f_covered)), (q_takenThreads, .inl (cI, 8, .inl f_takenThreads))]) (va_runS (As := [.int x2_2, .int x3_1]) (rest := []) ⟨hx, hb, hml, hown, hts⟩ (k_X7_has l D cI cC cN N H.size x2_2 x3_1 r_8 h_9) (va_cwS 2 hts gX7_findCircles_X7_has rfl rfl rfl (by decide +kernel) ⟨Nat.le_of_ble_eq_true rfl, Nat.le_of_ble_eq_true rfl⟩) ⟨g_blind, g_pre (hP.sub [] rfl) hK hN (hD.sub [] (by decide) rfl)⟩ rfl rfl hl.1 rfl (lv_room (Nat.le_of_ble_eq_true rfl)) dX7_findCircles_31 ⟨Nat.zero_le _, Nat.zero_le _⟩) hP hD hS hA [] [0, 1, 2, 3, 4, 5, 6, 7, 8, 9, 10, 11] rfl rfl (by decide) (by decide) rfl (fun H locs hP hD hS => ?_)
        refine lv_if_ne (tgt := 104) hx hb dX7_findCircles_34 (by decide) (fun hc => ?_) (fun hc => ?_)
        · have hm := if_f _ hc hm
          refine lv_iinc (v := (x3_1 + 1)) (lv' := [(3, .int (x3_1 + 1)), (2, .int x2_2), (0, .ref q), (1, .int a1)]) hx hb dX7_findCircles_104 hl (k := 0) rfl rfl (by decide) rfl (fun ls hl => ?_)
          refine lv_goto (tgt := 19) hx hb dX7_findCircles_107 (by decide) ?_
          exact ih19 (x3_1 + 1) x2_2 f_circleMany_3 f_circleOdd_4 f_circleLongest_5 _ _ _ hP hD hS hl hm
        · have hm := if_t _ hc hm
          refine lv_aload_n hx hb dX7_findCircles_37 rfl (lv_at hl 2 rfl) ?_
          refine lv_iload_n hx hb dX7_findCircles_38 rfl (lv_at hl 0 rfl) ?_
          refine lv_iload_n hx hb dX7_findCircles_39 rfl (lv_at hl 3 rfl) ?_
          obtain ⟨r_10, h_11, hm⟩ := bind_use hm
          refine g_ki (wc := [(q, .inr (6, [.ref q_s, .ref q_past, .int f_states, .ref q_slot, .int f_isKept, .ref q_text, .int f_length, .ref q_tries, .ref q_firstOne, .int f_at, .int f_ends, .ref q_read, .int f_coverMany, .ref q_coverSets, .ref q_picks, .ref q_covered, .ref q_takenThreads, .int f_circleMany_3, .int f_circleOdd_4, .int f_circleLongest_5])), (q_s, .inl (cI, 65, .inl f_s)), (q_past, .inl (cI, 260, .inl f_past)), (q_slot, .inl (cI, 65, .inl f_slot)), (q_text, .inl (cC, 60, .inl f_text)), (q_tries, .inl (cI, 22, .inl f_tries)), (q_firstOne, .inl (cI, 21, .inl f_firstOne)), (q_read, .inl (cI, 32, .inl f_read)), (q_coverSets, .inl (cI, 256, .inl f_coverSets)), (q_picks, .inl (cI, 8, .inl f_picks)), (q_covered, .inl (cI, 8, .inl f_covered)), (q_takenThreads, .inl (cI, 8, .inl f_takenThreads))]) (wr := []) (w2 := [(q, .inr (6, [.ref q_s, .ref q_past, .int f_states, .ref q_slot, .int f_isKept, .ref q_text, .int f_length, .ref q_tries, .ref q_firstOne, .int f_at, .int f_ends, .ref q_read, .int f_coverMany, .ref q_coverSets, .ref q_picks, .ref q_covered, .ref q_takenThreads, .int f_circleMany_3, .int f_circleOdd_4, .int f_circleLongest_5])), (q_s, .inl (cI, 65, .inl f_s)), (q_past, .inl (cI, 260, .inl f_past)), (q_slot, .inl (cI, 65, .inl f_slot)), (q_text, .inl (cC, 60, .inl f_text)), (q_tries, .inl (cI, 22, .inl f_tries)), (q_firstOne, .inl (cI, 21, .inl f_firstOne)), (q_read, .inl (cI, 32, .inl f_read)), (q_coverSets, .inl (cI, 256, .inl f_coverSets)), (q_picks, .inl (cI, 8, .inl f_picks)), (q_covered, .inl (cI, 8, .inl f_covered)), (q_takenThreads, .inl (cI, 8, .inl f_takenThreads))]) (va_runV (As := [.int x3_1, .int a1]) (rest := []) ⟨hx, hb, hml, hown, hts⟩ (k_X7_circleOf l D cI cC cN N q q_s q_past q_slot q_text q_tries q_firstOne q_read q_coverSets q_picks q_covered q_takenThreads H.size f_s f_past f_states f_slot f_isKept f_text f_length f_tries f_firstOne f_at f_ends f_read f_coverMany f_coverSets f_picks f_covered f_takenThreads f_circleMany_3 f_circleOdd_4 f_circleLongest_5 x3_1 a1 r_10 h_11) (cwV 2 hts gX7_findCircles_X7_circleOf rfl rfl rfl (by decide +kernel) ⟨Nat.le_of_ble_eq_true rfl, Nat.le_of_ble_eq_true rfl⟩) ⟨g_blind, va_recv (D := D) (ci := 6) (q0 := 0) hK hP rfl rfl, g_pre (hP.sub [0, 1, 2, 3, 4, 5, 6, 7, 8, 9, 10, 11] rfl) hK hN (hD.sub [0, 1, 2, 3, 4, 5, 6, 7, 8, 9, 10, 11] (by decide) rfl)⟩ rfl rfl hl.1 rfl (lv_room (Nat.le_of_ble_eq_true rfl)) dX7_findCircles_40 ⟨Nat.zero_le _, Nat.zero_le _⟩) hP hD hS hA [0, 1, 2, 3, 4, 5, 6, 7, 8, 9, 10, 11] [] rfl rfl (by decide) (by decide) rfl (fun H locs hP hD hS => ?_)
          refine lv_istore (lv' := [(4, .int r_10), (3, .int x3_1), (2, .int x2_2), (0, .ref q), (1, .int a1)]) hx hb dX7_findCircles_43 hl (by decide) rfl (fun ls hl => ?_)
          refine lv_iload_n hx hb dX7_findCircles_45 rfl (lv_at hl 2 rfl) ?_
          refine lv_iload hx hb dX7_findCircles_46 (lv_at hl 0 rfl) ?_
          refine lv_ior hx hb dX7_findCircles_48 ?_
          refine lv_topi (fun v2_12 ev2_12 => ?_)
          have hm := nm_use ev2_12 hm
          refine lv_istore_n (lv' := [(2, .int v2_12), (4, .int r_10), (3, .int x3_1), (0, .ref q), (1, .int a1)]) hx hb dX7_findCircles_49 rfl hl (by decide) rfl (fun ls hl => ?_)
          refine lv_aload_n hx hb dX7_findCircles_50 rfl (lv_at hl 3 rfl) ?_
          refine lv_dup hx hb dX7_findCircles_51 rfl ?_
          refine va_get (D := D) (ci := 6) (v := .int f_circleMany_3) (C := RX7) (T := TX7) (N := 20) hx hb hts (by decide +kernel) hown hK hP 0 rfl rfl 17 (by decide) (hts (.fieldLink RX7 254 "KnotStripesModel" "circleMany" "I") (by decide +kernel)) (fun _ h9 => h9) rfl dX7_findCircles_52 ?_
          refine lv_iconst (v := 1) hx hb dX7_findCircles_55 (by decide) ?_
          refine lv_iadd hx hb dX7_findCircles_56 ?_
          refine W.eq (g2 := F0 m 57 ls (.int (f_circleMany_3 + 1) :: [.ref q])) rfl ?_
          refine lv_topi (fun w_13 ew_13 => ?_)
          have hm := nm_use ew_13 hm
          refine va_put (D := D) (ci := 6) (v := .int w_13) (ty := .int) (C := RX7) (T := TX7) (N := 20) hx hb hts (by decide +kernel) tyX7 tyX7_ok nmX7 hown hK hP hD hS 0 rfl rfl 17 (by decide) (hts (.fieldLink RX7 254 "KnotStripesModel" "circleMany" "I") (by decide +kernel)) (fun _ h9 => h9) rfl (by decide +kernel) rfl rfl (Nat.le_of_ble_eq_true rfl) dX7_findCircles_57 (fun H locs hP hD hS => ?_)
          have hP : va_P D vwCl [(q, .inr (6, [.ref q_s, .ref q_past, .int f_states, .ref q_slot, .int f_isKept, .ref q_text, .int f_length, .ref q_tries, .ref q_firstOne, .int f_at, .int f_ends, .ref q_read, .int f_coverMany, .ref q_coverSets, .ref q_picks, .ref q_covered, .ref q_takenThreads, .int w_13, .int f_circleOdd_4, .int f_circleLongest_5])), (q_s, .inl (cI, 65, .inl f_s)), (q_past, .inl (cI, 260, .inl f_past)), (q_slot, .inl (cI, 65, .inl f_slot)), (q_text, .inl (cC, 60, .inl f_text)), (q_tries, .inl (cI, 22, .inl f_tries)), (q_firstOne, .inl (cI, 21, .inl f_firstOne)), (q_read, .inl (cI, 32, .inl f_read)), (q_coverSets, .inl (cI, 256, .inl f_coverSets)), (q_picks, .inl (cI, 8, .inl f_picks)), (q_covered, .inl (cI, 8, .inl f_covered)), (q_takenThreads, .inl (cI, 8, .inl f_takenThreads))] H := hP
          have hD : va_D A [(q, .inr (6, [.ref q_s, .ref q_past, .int f_states, .ref q_slot, .int f_isKept, .ref q_text, .int f_length, .ref q_tries, .ref q_firstOne, .int f_at, .int f_ends, .ref q_read, .int f_coverMany, .ref q_coverSets, .ref q_picks, .ref q_covered, .ref q_takenThreads, .int w_13, .int f_circleOdd_4, .int f_circleLongest_5])), (q_s, .inl (cI, 65, .inl f_s)), (q_past, .inl (cI, 260, .inl f_past)), (q_slot, .inl (cI, 65, .inl f_slot)), (q_text, .inl (cC, 60, .inl f_text)), (q_tries, .inl (cI, 22, .inl f_tries)), (q_firstOne, .inl (cI, 21, .inl f_firstOne)), (q_read, .inl (cI, 32, .inl f_read)), (q_coverSets, .inl (cI, 256, .inl f_coverSets)), (q_picks, .inl (cI, 8, .inl f_picks)), (q_covered, .inl (cI, 8, .inl f_covered)), (q_takenThreads, .inl (cI, 8, .inl f_takenThreads))] := hD
          refine lv_aload_n hx hb dX7_findCircles_60 rfl (lv_at hl 3 rfl) ?_
          refine lv_dup hx hb dX7_findCircles_61 rfl ?_
          refine va_get (D := D) (ci := 6) (v := .int f_circleOdd_4) (C := RX7) (T := TX7) (N := 20) hx hb hts (by decide +kernel) hown hK hP 0 rfl rfl 18 (by decide) (hts (.fieldLink RX7 257 "KnotStripesModel" "circleOdd" "I") (by decide +kernel)) (fun _ h9 => h9) rfl dX7_findCircles_62 ?_
          refine lv_iload hx hb dX7_findCircles_65 (lv_at hl 1 rfl) ?_
          obtain ⟨r_14, h_15, hm⟩ := bind_use hm
          refine g_ki (wc := []) (wr := [(q, .inr (6, [.ref q_s, .ref q_past, .int f_states, .ref q_slot, .int f_isKept, .ref q_text, .int f_length, .ref q_tries, .ref q_firstOne, .int f_at, .int f_ends, .ref q_read, .int f_coverMany, .ref q_coverSets, .ref q_picks, .ref q_covered, .ref q_takenThreads, .int w_13, .int f_circleOdd_4, .int f_circleLongest_5])), (q_s, .inl (cI, 65, .inl f_s)), (q_past, .inl (cI, 260, .inl f_past)), (q_slot, .inl (cI, 65, .inl f_slot)), (q_text, .inl (cC, 60, .inl f_text)), (q_tries, .inl (cI, 22, .inl f_tries)), (q_firstOne, .inl (cI, 21, .inl f_firstOne)), (q_read, .inl (cI, 32, .inl f_read)), (q_coverSets, .inl (cI, 256, .inl f_coverSets)), (q_picks, .inl (cI, 8, .inl f_picks)), (q_covered, .inl (cI, 8, .inl f_covered)), (q_takenThreads, .inl (cI, 8, .inl f_takenThreads))]) (w2 := [(q, .inr (6, [.ref q_s, .ref q_past, .int f_states, .ref q_slot, .int f_isKept, .ref q_text, .int f_length, .ref q_tries, .ref q_firstOne, .int f_at, .int f_ends, .ref q_read, .int f_coverMany, .ref q_coverSets, .ref q_picks, .ref q_covered, .ref q_takenThreads, .int w_13, .int f_circleOdd_4, .int f_circleLongest_5])), (q_s, .inl (cI, 65, .inl f_s)), (q_past, .inl (cI, 260, .inl f_past)), (q_slot, .inl (cI, 65, .inl f_slot)), (q_text, .inl (cC, 60, .inl f_text)), (q_tries, .inl (cI, 22, .inl f_tries)), (q_firstOne, .inl (cI, 21, .inl f_firstOne)), (q_read, .inl (cI, 32, .inl f_read)), (q_coverSets, .inl (cI, 256, .inl f_coverSets)), (q_picks, .inl (cI, 8, .inl f_picks)), (q_covered, .inl (cI, 8, .inl f_covered)), (q_takenThreads, .inl (cI, 8, .inl f_takenThreads))]) (va_runS (As := [.int r_10]) (rest := [.int f_circleOdd_4, .ref q]) ⟨hx, hb, hml, hown, hts⟩ (k_X7_ones l D cI cC cN N H.size r_10 r_14 h_15) (va_cwS 1 hts gX7_findCircles_X7_ones rfl rfl rfl (by decide +kernel) ⟨Nat.le_of_ble_eq_true rfl, Nat.le_of_ble_eq_true rfl⟩) ⟨g_blind, g_pre (hP.sub [] rfl) hK hN (hD.sub [] (by decide) rfl)⟩ rfl rfl hl.1 rfl (lv_room (Nat.le_of_ble_eq_true rfl)) dX7_findCircles_67 ⟨Nat.zero_le _, Nat.zero_le _⟩) hP hD hS hA [] [0, 1, 2, 3, 4, 5, 6, 7, 8, 9, 10, 11] rfl rfl (by decide) (by decide) rfl (fun H locs hP hD hS => ?_)
          refine lv_iconst (v := 2) hx hb dX7_findCircles_70 (by decide) ?_
          refine gv_irem hx hb dX7_findCircles_71 (by decide) ?_
          refine lv_iadd hx hb dX7_findCircles_72 ?_
          refine W.eq (g2 := F0 m 73 ls (.int (f_circleOdd_4 + (im r_14 2)) :: [.ref q])) rfl ?_
          refine lv_topi (fun w_16 ew_16 => ?_)
          have hm := nm_use ew_16 hm
          refine va_put (D := D) (ci := 6) (v := .int w_16) (ty := .int) (C := RX7) (T := TX7) (N := 20) hx hb hts (by decide +kernel) tyX7 tyX7_ok nmX7 hown hK hP hD hS 0 rfl rfl 18 (by decide) (hts (.fieldLink RX7 257 "KnotStripesModel" "circleOdd" "I") (by decide +kernel)) (fun _ h9 => h9) rfl (by decide +kernel) rfl rfl (Nat.le_of_ble_eq_true rfl) dX7_findCircles_73 (fun H locs hP hD hS => ?_)
          have hP : va_P D vwCl [(q, .inr (6, [.ref q_s, .ref q_past, .int f_states, .ref q_slot, .int f_isKept, .ref q_text, .int f_length, .ref q_tries, .ref q_firstOne, .int f_at, .int f_ends, .ref q_read, .int f_coverMany, .ref q_coverSets, .ref q_picks, .ref q_covered, .ref q_takenThreads, .int w_13, .int w_16, .int f_circleLongest_5])), (q_s, .inl (cI, 65, .inl f_s)), (q_past, .inl (cI, 260, .inl f_past)), (q_slot, .inl (cI, 65, .inl f_slot)), (q_text, .inl (cC, 60, .inl f_text)), (q_tries, .inl (cI, 22, .inl f_tries)), (q_firstOne, .inl (cI, 21, .inl f_firstOne)), (q_read, .inl (cI, 32, .inl f_read)), (q_coverSets, .inl (cI, 256, .inl f_coverSets)), (q_picks, .inl (cI, 8, .inl f_picks)), (q_covered, .inl (cI, 8, .inl f_covered)), (q_takenThreads, .inl (cI, 8, .inl f_takenThreads))] H := hP
          have hD : va_D A [(q, .inr (6, [.ref q_s, .ref q_past, .int f_states, .ref q_slot, .int f_isKept, .ref q_text, .int f_length, .ref q_tries, .ref q_firstOne, .int f_at, .int f_ends, .ref q_read, .int f_coverMany, .ref q_coverSets, .ref q_picks, .ref q_covered, .ref q_takenThreads, .int w_13, .int w_16, .int f_circleLongest_5])), (q_s, .inl (cI, 65, .inl f_s)), (q_past, .inl (cI, 260, .inl f_past)), (q_slot, .inl (cI, 65, .inl f_slot)), (q_text, .inl (cC, 60, .inl f_text)), (q_tries, .inl (cI, 22, .inl f_tries)), (q_firstOne, .inl (cI, 21, .inl f_firstOne)), (q_read, .inl (cI, 32, .inl f_read)), (q_coverSets, .inl (cI, 256, .inl f_coverSets)), (q_picks, .inl (cI, 8, .inl f_picks)), (q_covered, .inl (cI, 8, .inl f_covered)), (q_takenThreads, .inl (cI, 8, .inl f_takenThreads))] := hD
          refine lv_aload_n hx hb dX7_findCircles_76 rfl (lv_at hl 3 rfl) ?_
          refine lv_iload hx hb dX7_findCircles_77 (lv_at hl 1 rfl) ?_
          obtain ⟨r_17, h_18, hm⟩ := bind_use hm
          refine g_ki (wc := []) (wr := [(q, .inr (6, [.ref q_s, .ref q_past, .int f_states, .ref q_slot, .int f_isKept, .ref q_text, .int f_length, .ref q_tries, .ref q_firstOne, .int f_at, .int f_ends, .ref q_read, .int f_coverMany, .ref q_coverSets, .ref q_picks, .ref q_covered, .ref q_takenThreads, .int w_13, .int w_16, .int f_circleLongest_5])), (q_s, .inl (cI, 65, .inl f_s)), (q_past, .inl (cI, 260, .inl f_past)), (q_slot, .inl (cI, 65, .inl f_slot)), (q_text, .inl (cC, 60, .inl f_text)), (q_tries, .inl (cI, 22, .inl f_tries)), (q_firstOne, .inl (cI, 21, .inl f_firstOne)), (q_read, .inl (cI, 32, .inl f_read)), (q_coverSets, .inl (cI, 256, .inl f_coverSets)), (q_picks, .inl (cI, 8, .inl f_picks)), (q_covered, .inl (cI, 8, .inl f_covered)), (q_takenThreads, .inl (cI, 8, .inl f_takenThreads))]) (w2 := [(q, .inr (6, [.ref q_s, .ref q_past, .int f_states, .ref q_slot, .int f_isKept, .ref q_text, .int f_length, .ref q_tries, .ref q_firstOne, .int f_at, .int f_ends, .ref q_read, .int f_coverMany, .ref q_coverSets, .ref q_picks, .ref q_covered, .ref q_takenThreads, .int w_13, .int w_16, .int f_circleLongest_5])), (q_s, .inl (cI, 65, .inl f_s)), (q_past, .inl (cI, 260, .inl f_past)), (q_slot, .inl (cI, 65, .inl f_slot)), (q_text, .inl (cC, 60, .inl f_text)), (q_tries, .inl (cI, 22, .inl f_tries)), (q_firstOne, .inl (cI, 21, .inl f_firstOne)), (q_read, .inl (cI, 32, .inl f_read)), (q_coverSets, .inl (cI, 256, .inl f_coverSets)), (q_picks, .inl (cI, 8, .inl f_picks)), (q_covered, .inl (cI, 8, .inl f_covered)), (q_takenThreads, .inl (cI, 8, .inl f_takenThreads))]) (va_runS (As := [.int r_10]) (rest := [.ref q]) ⟨hx, hb, hml, hown, hts⟩ (k_X7_ones l D cI cC cN N H.size r_10 r_17 h_18) (va_cwS 1 hts gX7_findCircles_X7_ones rfl rfl rfl (by decide +kernel) ⟨Nat.le_of_ble_eq_true rfl, Nat.le_of_ble_eq_true rfl⟩) ⟨g_blind, g_pre (hP.sub [] rfl) hK hN (hD.sub [] (by decide) rfl)⟩ rfl rfl hl.1 rfl (lv_room (Nat.le_of_ble_eq_true rfl)) dX7_findCircles_79 ⟨Nat.zero_le _, Nat.zero_le _⟩) hP hD hS hA [] [0, 1, 2, 3, 4, 5, 6, 7, 8, 9, 10, 11] rfl rfl (by decide) (by decide) rfl (fun H locs hP hD hS => ?_)
          refine lv_aload_n hx hb dX7_findCircles_82 rfl (lv_at hl 3 rfl) ?_
          refine va_get (D := D) (ci := 6) (v := .int f_circleLongest_5) (C := RX7) (T := TX7) (N := 20) hx hb hts (by decide +kernel) hown hK hP 0 rfl rfl 19 (by decide) (hts (.fieldLink RX7 260 "KnotStripesModel" "circleLongest" "I") (by decide +kernel)) (fun _ h9 => h9) rfl dX7_findCircles_83 ?_
          obtain ⟨J101, hJ101, hm⟩ := jn_use hm
          have j101 : ∀ (y_19 : Int32), ∀ (H : Heap) (locs : List Loc) (ls : Array Slot), va_P D vwCl [(q, .inr (6, [.ref q_s, .ref q_past, .int f_states, .ref q_slot, .int f_isKept, .ref q_text, .int f_length, .ref q_tries, .ref q_firstOne, .int f_at, .int f_ends, .ref q_read, .int f_coverMany, .ref q_coverSets, .ref q_picks, .ref q_covered, .ref q_takenThreads, .int w_13, .int w_16, .int f_circleLongest_5])), (q_s, .inl (cI, 65, .inl f_s)), (q_past, .inl (cI, 260, .inl f_past)), (q_slot, .inl (cI, 65, .inl f_slot)), (q_text, .inl (cC, 60, .inl f_text)), (q_tries, .inl (cI, 22, .inl f_tries)), (q_firstOne, .inl (cI, 21, .inl f_firstOne)), (q_read, .inl (cI, 32, .inl f_read)), (q_coverSets, .inl (cI, 256, .inl f_coverSets)), (q_picks, .inl (cI, 8, .inl f_picks)), (q_covered, .inl (cI, 8, .inl f_covered)), (q_takenThreads, .inl (cI, 8, .inl f_takenThreads))] H → va_D A [(q, .inr (6, [.ref q_s, .ref q_past, .int f_states, .ref q_slot, .int f_isKept, .ref q_text, .int f_length, .ref q_tries, .ref q_firstOne, .int f_at, .int f_ends, .ref q_read, .int f_coverMany, .ref q_coverSets, .ref q_picks, .ref q_covered, .ref q_takenThreads, .int w_13, .int w_16, .int f_circleLongest_5])), (q_s, .inl (cI, 65, .inl f_s)), (q_past, .inl (cI, 260, .inl f_past)), (q_slot, .inl (cI, 65, .inl f_slot)), (q_text, .inl (cC, 60, .inl f_text)), (q_tries, .inl (cI, 22, .inl f_tries)), (q_firstOne, .inl (cI, 21, .inl f_firstOne)), (q_read, .inl (cI, 32, .inl f_read)), (q_coverSets, .inl (cI, 256, .inl f_coverSets)), (q_picks, .inl (cI, 8, .inl f_picks)), (q_covered, .inl (cI, 8, .inl f_covered)), (q_takenThreads, .inl (cI, 8, .inl f_takenThreads))] → va_S A s.heap H locs → lv_has ls 5 [(2, .int v2_12), (3, .int x3_1), (0, .ref q), (1, .int a1)] → J101 y_19 = some (f_circleMany', f_circleOdd', f_circleLongest') → W p l e rX7_findCircles s m args below meth c H locs 0 0 Q (F0 m 101 ls [.int y_19, .ref q]) := by
            intro y_19 H locs ls hP hD hS hl hm
            rw [hJ101] at hm
            refine va_put (D := D) (ci := 6) (v := .int y_19) (ty := .int) (C := RX7) (T := TX7) (N := 20) hx hb hts (by decide +kernel) tyX7 tyX7_ok nmX7 hown hK hP hD hS 0 rfl rfl 19 (by decide) (hts (.fieldLink RX7 260 "KnotStripesModel" "circleLongest" "I") (by decide +kernel)) (fun _ h9 => h9) rfl (by decide +kernel) rfl rfl (Nat.le_of_ble_eq_true rfl) dX7_findCircles_101 (fun H locs hP hD hS => ?_)
            have hP : va_P D vwCl [(q, .inr (6, [.ref q_s, .ref q_past, .int f_states, .ref q_slot, .int f_isKept, .ref q_text, .int f_length, .ref q_tries, .ref q_firstOne, .int f_at, .int f_ends, .ref q_read, .int f_coverMany, .ref q_coverSets, .ref q_picks, .ref q_covered, .ref q_takenThreads, .int w_13, .int w_16, .int y_19])), (q_s, .inl (cI, 65, .inl f_s)), (q_past, .inl (cI, 260, .inl f_past)), (q_slot, .inl (cI, 65, .inl f_slot)), (q_text, .inl (cC, 60, .inl f_text)), (q_tries, .inl (cI, 22, .inl f_tries)), (q_firstOne, .inl (cI, 21, .inl f_firstOne)), (q_read, .inl (cI, 32, .inl f_read)), (q_coverSets, .inl (cI, 256, .inl f_coverSets)), (q_picks, .inl (cI, 8, .inl f_picks)), (q_covered, .inl (cI, 8, .inl f_covered)), (q_takenThreads, .inl (cI, 8, .inl f_takenThreads))] H := hP
            have hD : va_D A [(q, .inr (6, [.ref q_s, .ref q_past, .int f_states, .ref q_slot, .int f_isKept, .ref q_text, .int f_length, .ref q_tries, .ref q_firstOne, .int f_at, .int f_ends, .ref q_read, .int f_coverMany, .ref q_coverSets, .ref q_picks, .ref q_covered, .ref q_takenThreads, .int w_13, .int w_16, .int y_19])), (q_s, .inl (cI, 65, .inl f_s)), (q_past, .inl (cI, 260, .inl f_past)), (q_slot, .inl (cI, 65, .inl f_slot)), (q_text, .inl (cC, 60, .inl f_text)), (q_tries, .inl (cI, 22, .inl f_tries)), (q_firstOne, .inl (cI, 21, .inl f_firstOne)), (q_read, .inl (cI, 32, .inl f_read)), (q_coverSets, .inl (cI, 256, .inl f_coverSets)), (q_picks, .inl (cI, 8, .inl f_picks)), (q_covered, .inl (cI, 8, .inl f_covered)), (q_takenThreads, .inl (cI, 8, .inl f_takenThreads))] := hD
            refine lv_iinc (v := (x3_1 + 1)) (lv' := [(3, .int (x3_1 + 1)), (2, .int v2_12), (0, .ref q), (1, .int a1)]) hx hb dX7_findCircles_104 hl (k := 1) rfl rfl (by decide) rfl (fun ls hl => ?_)
            refine lv_goto (tgt := 19) hx hb dX7_findCircles_107 (by decide) ?_
            exact ih19 (x3_1 + 1) v2_12 w_13 w_16 y_19 _ _ _ hP hD hS hl hm
          refine lv_icmp_le (tgt := 97) hx hb dX7_findCircles_86 (by decide) (fun hc => ?_) (fun hc => ?_)
          · have hm := if_t _ hc hm
            refine lv_aload_n hx hb dX7_findCircles_97 rfl (lv_at hl 3 rfl) ?_
            refine va_get (D := D) (ci := 6) (v := .int f_circleLongest_5) (C := RX7) (T := TX7) (N := 20) hx hb hts (by decide +kernel) hown hK hP 0 rfl rfl 19 (by decide) (hts (.fieldLink RX7 260 "KnotStripesModel" "circleLongest" "I") (by decide +kernel)) (fun _ h9 => h9) rfl dX7_findCircles_98 ?_
            exact j101 f_circleLongest_5 _ _ _ hP hD hS (lv_sub hl [0, 2, 3, 4] rfl) hm
          · have hm := if_f _ hc hm
            refine lv_iload hx hb dX7_findCircles_89 (lv_at hl 1 rfl) ?_
            obtain ⟨r_20, h_21, hm⟩ := bind_use hm
            refine g_ki (wc := []) (wr := [(q, .inr (6, [.ref q_s, .ref q_past, .int f_states, .ref q_slot, .int f_isKept, .ref q_text, .int f_length, .ref q_tries, .ref q_firstOne, .int f_at, .int f_ends, .ref q_read, .int f_coverMany, .ref q_coverSets, .ref q_picks, .ref q_covered, .ref q_takenThreads, .int w_13, .int w_16, .int f_circleLongest_5])), (q_s, .inl (cI, 65, .inl f_s)), (q_past, .inl (cI, 260, .inl f_past)), (q_slot, .inl (cI, 65, .inl f_slot)), (q_text, .inl (cC, 60, .inl f_text)), (q_tries, .inl (cI, 22, .inl f_tries)), (q_firstOne, .inl (cI, 21, .inl f_firstOne)), (q_read, .inl (cI, 32, .inl f_read)), (q_coverSets, .inl (cI, 256, .inl f_coverSets)), (q_picks, .inl (cI, 8, .inl f_picks)), (q_covered, .inl (cI, 8, .inl f_covered)), (q_takenThreads, .inl (cI, 8, .inl f_takenThreads))]) (w2 := [(q, .inr (6, [.ref q_s, .ref q_past, .int f_states, .ref q_slot, .int f_isKept, .ref q_text, .int f_length, .ref q_tries, .ref q_firstOne, .int f_at, .int f_ends, .ref q_read, .int f_coverMany, .ref q_coverSets, .ref q_picks, .ref q_covered, .ref q_takenThreads, .int w_13, .int w_16, .int f_circleLongest_5])), (q_s, .inl (cI, 65, .inl f_s)), (q_past, .inl (cI, 260, .inl f_past)), (q_slot, .inl (cI, 65, .inl f_slot)), (q_text, .inl (cC, 60, .inl f_text)), (q_tries, .inl (cI, 22, .inl f_tries)), (q_firstOne, .inl (cI, 21, .inl f_firstOne)), (q_read, .inl (cI, 32, .inl f_read)), (q_coverSets, .inl (cI, 256, .inl f_coverSets)), (q_picks, .inl (cI, 8, .inl f_picks)), (q_covered, .inl (cI, 8, .inl f_covered)), (q_takenThreads, .inl (cI, 8, .inl f_takenThreads))]) (va_runS (As := [.int r_10]) (rest := [.ref q]) ⟨hx, hb, hml, hown, hts⟩ (k_X7_ones l D cI cC cN N H.size r_10 r_20 h_21) (va_cwS 1 hts gX7_findCircles_X7_ones rfl rfl rfl (by decide +kernel) ⟨Nat.le_of_ble_eq_true rfl, Nat.le_of_ble_eq_true rfl⟩) ⟨g_blind, g_pre (hP.sub [] rfl) hK hN (hD.sub [] (by decide) rfl)⟩ rfl rfl hl.1 rfl (lv_room (Nat.le_of_ble_eq_true rfl)) dX7_findCircles_91 ⟨Nat.zero_le _, Nat.zero_le _⟩) hP hD hS hA [] [0, 1, 2, 3, 4, 5, 6, 7, 8, 9, 10, 11] rfl rfl (by decide) (by decide) rfl (fun H locs hP hD hS => ?_)
            refine lv_goto (tgt := 101) hx hb dX7_findCircles_94 (by decide) ?_
            exact j101 r_20 _ _ _ hP hD hS (lv_sub hl [0, 2, 3, 4] rfl) hm
  exact l19 N 0 0 0 0 0 _ _ _ hP hD hS hl hm
abbrev rX7_circles : Room := { frames := 5, cells := 0, slots := 0, locals := 110 }
set_option maxHeartbeats 4000000 in
set_option maxRecDepth 100000 in
theorem k_X7_circles (l : Launch) (D : va_G) (cI cC cN : ClassId) (N : Nat) (q : Nat) (q_s : Nat) (q_past : Nat) (q_slot : Nat) (q_text : Nat) (q_tries : Nat) (q_firstOne : Nat) (q_read : Nat) (q_coverSets : Nat) (q_picks : Nat) (q_covered : Nat) (q_takenThreads : Nat) (sz : Nat) (f_s : Nat → Int32) (f_past : Nat → Int32) (f_states : Int32) (f_slot : Nat → Int32) (f_isKept : Int32) (f_text : Nat → Int32) (f_length : Int32) (f_tries : Nat → Int32) (f_firstOne : Nat → Int32) (f_at : Int32) (f_ends : Int32) (f_read : Nat → Int32) (f_coverMany : Int32) (f_coverSets : Nat → Int32) (f_picks : Nat → Int32) (f_covered : Nat → Int32) (f_takenThreads : Nat → Int32) (f_circleMany : Int32) (f_circleOdd : Int32) (f_circleLongest : Int32) (a1 : Int32) (a2 : Int32) (r : Int32) (f_coverMany' : Int32) (f_coverSets' : Nat → Int32) (f_picks' : Nat → Int32) (f_covered' : Nat → Int32) (f_takenThreads' : Nat → Int32) (f_circleMany' : Int32) (f_circleOdd' : Int32) (f_circleLongest' : Int32) (hm : m_X7_circles N f_s f_coverMany f_coverSets f_picks f_covered f_takenThreads f_circleMany f_circleOdd f_circleLongest a1 a2 = some (r, f_coverMany', f_coverSets', f_picks', f_covered', f_takenThreads', f_circleMany', f_circleOdd', f_circleLongest')) : Met l yX7_circles wsX7_circles (rX7_circles) (gPc D (tysG cI cC cN) [.ref q, .int a1, .int a2] [(q, .inr (6, [.ref q_s, .ref q_past, .int f_states, .ref q_slot, .int f_isKept, .ref q_text, .int f_length, .ref q_tries, .ref q_firstOne, .int f_at, .int f_ends, .ref q_read, .int f_coverMany, .ref q_coverSets, .ref q_picks, .ref q_covered, .ref q_takenThreads, .int f_circleMany, .int f_circleOdd, .int f_circleLongest])), (q_s, .inl (cI, 65, .inl f_s)), (q_past, .inl (cI, 260, .inl f_past)), (q_slot, .inl (cI, 65, .inl f_slot)), (q_text, .inl (cC, 60, .inl f_text)), (q_tries, .inl (cI, 22, .inl f_tries)), (q_firstOne, .inl (cI, 21, .inl f_firstOne)), (q_read, .inl (cI, 32, .inl f_read)), (q_coverSets, .inl (cI, 256, .inl f_coverSets)), (q_picks, .inl (cI, 8, .inl f_picks)), (q_covered, .inl (cI, 8, .inl f_covered)), (q_takenThreads, .inl (cI, 8, .inl f_takenThreads))] sz) (gQi D (tysG cI cC cN) (va_A [(q, .inr (6, [.ref q_s, .ref q_past, .int f_states, .ref q_slot, .int f_isKept, .ref q_text, .int f_length, .ref q_tries, .ref q_firstOne, .int f_at, .int f_ends, .ref q_read, .int f_coverMany, .ref q_coverSets, .ref q_picks, .ref q_covered, .ref q_takenThreads, .int f_circleMany, .int f_circleOdd, .int f_circleLongest])), (q_s, .inl (cI, 65, .inl f_s)), (q_past, .inl (cI, 260, .inl f_past)), (q_slot, .inl (cI, 65, .inl f_slot)), (q_text, .inl (cC, 60, .inl f_text)), (q_tries, .inl (cI, 22, .inl f_tries)), (q_firstOne, .inl (cI, 21, .inl f_firstOne)), (q_read, .inl (cI, 32, .inl f_read)), (q_coverSets, .inl (cI, 256, .inl f_coverSets)), (q_picks, .inl (cI, 8, .inl f_picks)), (q_covered, .inl (cI, 8, .inl f_covered)), (q_takenThreads, .inl (cI, 8, .inl f_takenThreads))] sz) [(q, .inr (6, [.ref q_s, .ref q_past, .int f_states, .ref q_slot, .int f_isKept, .ref q_text, .int f_length, .ref q_tries, .ref q_firstOne, .int f_at, .int f_ends, .ref q_read, .int f_coverMany', .ref q_coverSets, .ref q_picks, .ref q_covered, .ref q_takenThreads, .int f_circleMany', .int f_circleOdd', .int f_circleLongest'])), (q_s, .inl (cI, 65, .inl f_s)), (q_past, .inl (cI, 260, .inl f_past)), (q_slot, .inl (cI, 65, .inl f_slot)), (q_text, .inl (cC, 60, .inl f_text)), (q_tries, .inl (cI, 22, .inl f_tries)), (q_firstOne, .inl (cI, 21, .inl f_firstOne)), (q_read, .inl (cI, 32, .inl f_read)), (q_coverSets, .inl (cI, 256, .inl f_coverSets')), (q_picks, .inl (cI, 8, .inl f_picks')), (q_covered, .inl (cI, 8, .inl f_covered')), (q_takenThreads, .inl (cI, 8, .inl f_takenThreads'))] r) 0 0 (va_A [(q, .inr (6, [.ref q_s, .ref q_past, .int f_states, .ref q_slot, .int f_isKept, .ref q_text, .int f_length, .ref q_tries, .ref q_firstOne, .int f_at, .int f_ends, .ref q_read, .int f_coverMany, .ref q_coverSets, .ref q_picks, .ref q_covered, .ref q_takenThreads, .int f_circleMany, .int f_circleOdd, .int f_circleLongest])), (q_s, .inl (cI, 65, .inl f_s)), (q_past, .inl (cI, 260, .inl f_past)), (q_slot, .inl (cI, 65, .inl f_slot)), (q_text, .inl (cC, 60, .inl f_text)), (q_tries, .inl (cI, 22, .inl f_tries)), (q_firstOne, .inl (cI, 21, .inl f_firstOne)), (q_read, .inl (cI, 32, .inl f_read)), (q_coverSets, .inl (cI, 256, .inl f_coverSets)), (q_picks, .inl (cI, 8, .inl f_picks)), (q_covered, .inl (cI, 8, .inl f_covered)), (q_takenThreads, .inl (cI, 8, .inl f_takenThreads))] sz) := by
  unfold m_X7_circles at hm
  refine g_openI (cc := cX7_circles) (maxL := 3) (own := RX7) (by decide) rfl rfl (Nat.le_of_ble_eq_true rfl) ?_
  intro p e s m args below meth c A Q hx hb hml hown hts hP hK hN hD hA hret ls hl
  have hS : va_S A s.heap s.heap [] := va_S.rf
  have hl : lv_has ls 3 [(0, .ref q), (1, .int a1), (2, .int a2)] := hl
  refine lv_aload_n hx hb dX7_circles_0 rfl (lv_at hl 0 rfl) ?_
  obtain ⟨r_1, h_2, hm⟩ := bind_use hm
  refine g_ki (wc := [(q, .inr (6, [.ref q_s, .ref q_past, .int f_states, .ref q_slot, .int f_isKept, .ref q_text, .int f_length, .ref q_tries, .ref q_firstOne, .int f_at, .int f_ends, .ref q_read, .int f_coverMany, .ref q_coverSets, .ref q_picks, .ref q_covered, .ref q_takenThreads, .int f_circleMany, .int f_circleOdd, .int f_circleLongest])), (q_s, .inl (cI, 65, .inl f_s)), (q_past, .inl (cI, 260, .inl f_past)), (q_slot, .inl (cI, 65, .inl f_slot)), (q_text, .inl (cC, 60, .inl f_text)), (q_tries, .inl (cI, 22, .inl f_tries)), (q_firstOne, .inl (cI, 21, .inl f_firstOne)), (q_read, .inl (cI, 32, .inl f_read)), (q_coverSets, .inl (cI, 256, .inl f_coverSets)), (q_picks, .inl (cI, 8, .inl f_picks)), (q_covered, .inl (cI, 8, .inl f_covered)), (q_takenThreads, .inl (cI, 8, .inl f_takenThreads))]) (wr := []) (w2 := [(q, .inr (6, [.ref q_s, .ref q_past, .int f_states, .ref q_slot, .int f_isKept, .ref q_text, .int f_length, .ref q_tries, .ref q_firstOne, .int f_at, .int f_ends, .ref q_read, .int f_coverMany, .ref q_coverSets, .ref q_picks, .ref q_covered, .ref q_takenThreads, .int f_circleMany, .int f_circleOdd, .int f_circleLongest])), (q_s, .inl (cI, 65, .inl f_s)), (q_past, .inl (cI, 260, .inl f_past)), (q_slot, .inl (cI, 65, .inl f_slot)), (q_text, .inl (cC, 60, .inl f_text)), (q_tries, .inl (cI, 22, .inl f_tries)), (q_firstOne, .inl (cI, 21, .inl f_firstOne)), (q_read, .inl (cI, 32, .inl f_read)), (q_coverSets, .inl (cI, 256, .inl f_coverSets)), (q_picks, .inl (cI, 8, .inl f_picks)), (q_covered, .inl (cI, 8, .inl f_covered)), (q_takenThreads, .inl (cI, 8, .inl f_takenThreads))]) (va_runV (As := []) (rest := []) ⟨hx, hb, hml, hown, hts⟩ (k_X7_isFullNet l D cI cC cN N q q_s q_past q_slot q_text q_tries q_firstOne q_read q_coverSets q_picks q_covered q_takenThreads s.heap.size f_s f_past f_states f_slot f_isKept f_text f_length f_tries f_firstOne f_at f_ends f_read f_coverMany f_coverSets f_picks f_covered f_takenThreads f_circleMany f_circleOdd f_circleLongest r_1 h_2) (cwV 0 hts gX7_circles_X7_isFullNet rfl rfl rfl (by decide +kernel) ⟨Nat.le_of_ble_eq_true rfl, Nat.le_of_ble_eq_true rfl⟩) ⟨g_blind, va_recv (D := D) (ci := 6) (q0 := 0) hK hP rfl rfl, g_pre (hP.sub [0, 1, 2, 3, 4, 5, 6, 7, 8, 9, 10, 11] rfl) hK hN (hD.sub [0, 1, 2, 3, 4, 5, 6, 7, 8, 9, 10, 11] (by decide) rfl)⟩ rfl rfl hl.1 rfl (lv_room (Nat.le_of_ble_eq_true rfl)) dX7_circles_1 ⟨Nat.zero_le _, Nat.zero_le _⟩) hP hD hS hA [0, 1, 2, 3, 4, 5, 6, 7, 8, 9, 10, 11] [] rfl rfl (by decide) (by decide) rfl (fun H locs hP hD hS => ?_)
  refine lv_if_ne (tgt := 10) hx hb dX7_circles_4 (by decide) (fun hc => ?_) (fun hc => ?_)
  · have hm := if_f _ hc hm
    refine lv_iload_n hx hb dX7_circles_10 rfl (lv_at hl 1 rfl) ?_
    refine lv_if_lt (tgt := 23) hx hb dX7_circles_11 (by decide) (fun hc => ?_) (fun hc => ?_)
    · have hm := if_t _ hc hm
      refine lv_bipush (v := (-2)) hx hb dX7_circles_23 (by decide) ?_
      have z1 := so_use hm
      obtain ⟨y1, z2⟩ := pr_use z1
      obtain ⟨y2, z3⟩ := pr_use z2
      obtain ⟨y3, z4⟩ := pr_use z3
      obtain ⟨y4, z5⟩ := pr_use z4
      obtain ⟨y5, z6⟩ := pr_use z5
      obtain ⟨y6, z7⟩ := pr_use z6
      obtain ⟨y7, z8⟩ := pr_use z7
      obtain ⟨y8, z9⟩ := pr_use z8
      subst y1
      subst y2
      subst y3
      subst y4
      subst y5
      subst y6
      subst y7
      subst y8
      subst z9
      exact hret _ _ _ _ _ dX7_circles_25 rfl rfl hP hD hS
    · have hm := if_f _ hc hm
      refine lv_iload_n hx hb dX7_circles_14 rfl (lv_at hl 2 rfl) ?_
      refine lv_iconst (v := 0) hx hb dX7_circles_15 (by decide) ?_
      refine lv_iconst (v := 2) hx hb dX7_circles_16 (by decide) ?_
      obtain ⟨r_3, h_4, hm⟩ := bind_use hm
      refine g_ki (wc := []) (wr := [(q, .inr (6, [.ref q_s, .ref q_past, .int f_states, .ref q_slot, .int f_isKept, .ref q_text, .int f_length, .ref q_tries, .ref q_firstOne, .int f_at, .int f_ends, .ref q_read, .int f_coverMany, .ref q_coverSets, .ref q_picks, .ref q_covered, .ref q_takenThreads, .int f_circleMany, .int f_circleOdd, .int f_circleLongest])), (q_s, .inl (cI, 65, .inl f_s)), (q_past, .inl (cI, 260, .inl f_past)), (q_slot, .inl (cI, 65, .inl f_slot)), (q_text, .inl (cC, 60, .inl f_text)), (q_tries, .inl (cI, 22, .inl f_tries)), (q_firstOne, .inl (cI, 21, .inl f_firstOne)), (q_read, .inl (cI, 32, .inl f_read)), (q_coverSets, .inl (cI, 256, .inl f_coverSets)), (q_picks, .inl (cI, 8, .inl f_picks)), (q_covered, .inl (cI, 8, .inl f_covered)), (q_takenThreads, .inl (cI, 8, .inl f_takenThreads))]) (w2 := [(q, .inr (6, [.ref q_s, .ref q_past, .int f_states, .ref q_slot, .int f_isKept, .ref q_text, .int f_length, .ref q_tries, .ref q_firstOne, .int f_at, .int f_ends, .ref q_read, .int f_coverMany, .ref q_coverSets, .ref q_picks, .ref q_covered, .ref q_takenThreads, .int f_circleMany, .int f_circleOdd, .int f_circleLongest])), (q_s, .inl (cI, 65, .inl f_s)), (q_past, .inl (cI, 260, .inl f_past)), (q_slot, .inl (cI, 65, .inl f_slot)), (q_text, .inl (cC, 60, .inl f_text)), (q_tries, .inl (cI, 22, .inl f_tries)), (q_firstOne, .inl (cI, 21, .inl f_firstOne)), (q_read, .inl (cI, 32, .inl f_read)), (q_coverSets, .inl (cI, 256, .inl f_coverSets)), (q_picks, .inl (cI, 8, .inl f_picks)), (q_covered, .inl (cI, 8, .inl f_covered)), (q_takenThreads, .inl (cI, 8, .inl f_takenThreads))]) (va_runS (As := [.int a2, .int 0, .int 2]) (rest := []) ⟨hx, hb, hml, hown, hts⟩ (k_X7_in l D cI cC cN N H.size a2 0 2 r_3 h_4) (va_cwS 3 hts gX7_circles_X7_in rfl rfl rfl (by decide +kernel) ⟨Nat.le_of_ble_eq_true rfl, Nat.le_of_ble_eq_true rfl⟩) ⟨g_blind, g_pre (hP.sub [] rfl) hK hN (hD.sub [] (by decide) rfl)⟩ rfl rfl hl.1 rfl (lv_room (Nat.le_of_ble_eq_true rfl)) dX7_circles_17 ⟨Nat.zero_le _, Nat.zero_le _⟩) hP hD hS hA [] [0, 1, 2, 3, 4, 5, 6, 7, 8, 9, 10, 11] rfl rfl (by decide) (by decide) rfl (fun H locs hP hD hS => ?_)
      refine lv_if_ne (tgt := 26) hx hb dX7_circles_20 (by decide) (fun hc => ?_) (fun hc => ?_)
      · have hm := if_f _ hc hm
        refine lv_aload_n hx hb dX7_circles_26 rfl (lv_at hl 0 rfl) ?_
        obtain ⟨⟨f_coverMany_5, f_coverSets_6, f_picks_7, f_covered_8, f_takenThreads_9⟩, h_10, hm⟩ := bind_use hm
        refine g_kv (wc := [(q, .inr (6, [.ref q_s, .ref q_past, .int f_states, .ref q_slot, .int f_isKept, .ref q_text, .int f_length, .ref q_tries, .ref q_firstOne, .int f_at, .int f_ends, .ref q_read, .int f_coverMany, .ref q_coverSets, .ref q_picks, .ref q_covered, .ref q_takenThreads, .int f_circleMany, .int f_circleOdd, .int f_circleLongest])), (q_s, .inl (cI, 65, .inl f_s)), (q_past, .inl (cI, 260, .inl f_past)), (q_slot, .inl (cI, 65, .inl f_slot)), (q_text, .inl (cC, 60, .inl f_text)), (q_tries, .inl (cI, 22, .inl f_tries)), (q_firstOne, .inl (cI, 21, .inl f_firstOne)), (q_read, .inl (cI, 32, .inl f_read)), (q_coverSets, .inl (cI, 256, .inl f_coverSets)), (q_picks, .inl (cI, 8, .inl f_picks)), (q_covered, .inl (cI, 8, .inl f_covered)), (q_takenThreads, .inl (cI, 8, .inl f_takenThreads))]) (wr := []) (w2 := [(q, .inr (6, [.ref q_s, .ref q_past, .int f_states, .ref q_slot, .int f_isKept, .ref q_text, .int f_length, .ref q_tries, .ref q_firstOne, .int f_at, .int f_ends, .ref q_read, .int f_coverMany_5, .ref q_coverSets, .ref q_picks, .ref q_covered, .ref q_takenThreads, .int f_circleMany, .int f_circleOdd, .int f_circleLongest])), (q_s, .inl (cI, 65, .inl f_s)), (q_past, .inl (cI, 260, .inl f_past)), (q_slot, .inl (cI, 65, .inl f_slot)), (q_text, .inl (cC, 60, .inl f_text)), (q_tries, .inl (cI, 22, .inl f_tries)), (q_firstOne, .inl (cI, 21, .inl f_firstOne)), (q_read, .inl (cI, 32, .inl f_read)), (q_coverSets, .inl (cI, 256, .inl f_coverSets_6)), (q_picks, .inl (cI, 8, .inl f_picks_7)), (q_covered, .inl (cI, 8, .inl f_covered_8)), (q_takenThreads, .inl (cI, 8, .inl f_takenThreads_9))]) (va_runV (As := []) (rest := []) ⟨hx, hb, hml, hown, hts⟩ (k_X7_findCovers l D cI cC cN N q q_s q_past q_slot q_text q_tries q_firstOne q_read q_coverSets q_picks q_covered q_takenThreads H.size f_s f_past f_states f_slot f_isKept f_text f_length f_tries f_firstOne f_at f_ends f_read f_coverMany f_coverSets f_picks f_covered f_takenThreads f_circleMany f_circleOdd f_circleLongest f_coverMany_5 f_coverSets_6 f_picks_7 f_covered_8 f_takenThreads_9 h_10) (cwV 0 hts gX7_circles_X7_findCovers rfl rfl rfl (by decide +kernel) ⟨Nat.le_of_ble_eq_true rfl, Nat.le_of_ble_eq_true rfl⟩) ⟨g_blind, va_recv (D := D) (ci := 6) (q0 := 0) hK hP rfl rfl, g_pre (hP.sub [0, 1, 2, 3, 4, 5, 6, 7, 8, 9, 10, 11] rfl) hK hN (hD.sub [0, 1, 2, 3, 4, 5, 6, 7, 8, 9, 10, 11] (by decide) rfl)⟩ rfl rfl hl.1 rfl (lv_room (Nat.le_of_ble_eq_true rfl)) dX7_circles_27 ⟨Nat.zero_le _, Nat.zero_le _⟩) hP hD hS hA [0, 1, 2, 3, 4, 5, 6, 7, 8, 9, 10, 11] [] rfl rfl (by decide) (by decide) rfl (fun H locs hP hD hS => ?_)
        refine lv_iload_n hx hb dX7_circles_30 rfl (lv_at hl 1 rfl) ?_
        refine lv_aload_n hx hb dX7_circles_31 rfl (lv_at hl 0 rfl) ?_
        refine va_get (D := D) (ci := 6) (v := .int f_coverMany_5) (C := RX7) (T := TX7) (N := 20) hx hb hts (by decide +kernel) hown hK hP 0 rfl rfl 12 (by decide) (hts (.fieldLink RX7 238 "KnotStripesModel" "coverMany" "I") (by decide +kernel)) (fun _ h9 => h9) rfl dX7_circles_32 ?_
        refine lv_icmp_lt (tgt := 41) hx hb dX7_circles_35 (by decide) (fun hc => ?_) (fun hc => ?_)
        · have hm := if_t _ hc hm
          refine lv_aload_n hx hb dX7_circles_41 rfl (lv_at hl 0 rfl) ?_
          refine lv_aload_n hx hb dX7_circles_42 rfl (lv_at hl 0 rfl) ?_
          refine va_get (D := D) (ci := 6) (v := .ref q_coverSets) (C := RX7) (T := TX7) (N := 20) hx hb hts (by decide +kernel) hown hK hP 0 rfl rfl 13 (by decide) (hts (.fieldLink RX7 32 "KnotStripesModel" "coverSets" "[I") (by decide +kernel)) (fun _ h9 => h9) rfl dX7_circles_43 ?_
          refine lv_iload_n hx hb dX7_circles_46 rfl (lv_at hl 1 rfl) ?_
          obtain ⟨hi_11, hm⟩ := ard_use hm
          refine va_iald (D := D) (n := 256) (f := f_coverSets_6) hx hb hK hP 8 0 rfl rfl hi_11 dX7_circles_47 ?_
          refine lv_topi (fun u_12 eu_12 => ?_)
          have hm := nm_use eu_12 hm
          obtain ⟨⟨f_circleMany_13, f_circleOdd_14, f_circleLongest_15⟩, h_16, hm⟩ := bind_use hm
          refine g_kv (wc := [(q, .inr (6, [.ref q_s, .ref q_past, .int f_states, .ref q_slot, .int f_isKept, .ref q_text, .int f_length, .ref q_tries, .ref q_firstOne, .int f_at, .int f_ends, .ref q_read, .int f_coverMany_5, .ref q_coverSets, .ref q_picks, .ref q_covered, .ref q_takenThreads, .int f_circleMany, .int f_circleOdd, .int f_circleLongest])), (q_s, .inl (cI, 65, .inl f_s)), (q_past, .inl (cI, 260, .inl f_past)), (q_slot, .inl (cI, 65, .inl f_slot)), (q_text, .inl (cC, 60, .inl f_text)), (q_tries, .inl (cI, 22, .inl f_tries)), (q_firstOne, .inl (cI, 21, .inl f_firstOne)), (q_read, .inl (cI, 32, .inl f_read)), (q_coverSets, .inl (cI, 256, .inl f_coverSets_6)), (q_picks, .inl (cI, 8, .inl f_picks_7)), (q_covered, .inl (cI, 8, .inl f_covered_8)), (q_takenThreads, .inl (cI, 8, .inl f_takenThreads_9))]) (wr := []) (w2 := [(q, .inr (6, [.ref q_s, .ref q_past, .int f_states, .ref q_slot, .int f_isKept, .ref q_text, .int f_length, .ref q_tries, .ref q_firstOne, .int f_at, .int f_ends, .ref q_read, .int f_coverMany_5, .ref q_coverSets, .ref q_picks, .ref q_covered, .ref q_takenThreads, .int f_circleMany_13, .int f_circleOdd_14, .int f_circleLongest_15])), (q_s, .inl (cI, 65, .inl f_s)), (q_past, .inl (cI, 260, .inl f_past)), (q_slot, .inl (cI, 65, .inl f_slot)), (q_text, .inl (cC, 60, .inl f_text)), (q_tries, .inl (cI, 22, .inl f_tries)), (q_firstOne, .inl (cI, 21, .inl f_firstOne)), (q_read, .inl (cI, 32, .inl f_read)), (q_coverSets, .inl (cI, 256, .inl f_coverSets_6)), (q_picks, .inl (cI, 8, .inl f_picks_7)), (q_covered, .inl (cI, 8, .inl f_covered_8)), (q_takenThreads, .inl (cI, 8, .inl f_takenThreads_9))]) (va_runV (As := [.int u_12]) (rest := []) ⟨hx, hb, hml, hown, hts⟩ (k_X7_findCircles l D cI cC cN N q q_s q_past q_slot q_text q_tries q_firstOne q_read q_coverSets q_picks q_covered q_takenThreads H.size f_s f_past f_states f_slot f_isKept f_text f_length f_tries f_firstOne f_at f_ends f_read f_coverMany_5 f_coverSets_6 f_picks_7 f_covered_8 f_takenThreads_9 f_circleMany f_circleOdd f_circleLongest u_12 f_circleMany_13 f_circleOdd_14 f_circleLongest_15 h_16) (cwV 1 hts gX7_circles_X7_findCircles rfl rfl rfl (by decide +kernel) ⟨Nat.le_of_ble_eq_true rfl, Nat.le_of_ble_eq_true rfl⟩) ⟨g_blind, va_recv (D := D) (ci := 6) (q0 := 0) hK hP rfl rfl, g_pre (hP.sub [0, 1, 2, 3, 4, 5, 6, 7, 8, 9, 10, 11] rfl) hK hN (hD.sub [0, 1, 2, 3, 4, 5, 6, 7, 8, 9, 10, 11] (by decide) rfl)⟩ rfl rfl hl.1 rfl (lv_room (Nat.le_of_ble_eq_true rfl)) dX7_circles_48 ⟨Nat.zero_le _, Nat.zero_le _⟩) hP hD hS hA [0, 1, 2, 3, 4, 5, 6, 7, 8, 9, 10, 11] [] rfl rfl (by decide) (by decide) rfl (fun H locs hP hD hS => ?_)
          refine lv_iload_n hx hb dX7_circles_51 rfl (lv_at hl 2 rfl) ?_
          refine lv_if_ne (tgt := 62) hx hb dX7_circles_52 (by decide) (fun hc => ?_) (fun hc => ?_)
          · have hm := if_f _ hc hm
            refine lv_iload_n hx hb dX7_circles_62 rfl (lv_at hl 2 rfl) ?_
            refine lv_iconst (v := 1) hx hb dX7_circles_63 (by decide) ?_
            refine lv_icmp_ne (tgt := 74) hx hb dX7_circles_64 (by decide) (fun hc => ?_) (fun hc => ?_)
            · have hm := if_f _ hc hm
              refine lv_aload_n hx hb dX7_circles_74 rfl (lv_at hl 0 rfl) ?_
              refine va_get (D := D) (ci := 6) (v := .int f_circleLongest_15) (C := RX7) (T := TX7) (N := 20) hx hb hts (by decide +kernel) hown hK hP 0 rfl rfl 19 (by decide) (hts (.fieldLink RX7 260 "KnotStripesModel" "circleLongest" "I") (by decide +kernel)) (fun _ h9 => h9) rfl dX7_circles_75 ?_
              have z1 := so_use hm
              obtain ⟨y1, z2⟩ := pr_use z1
              obtain ⟨y2, z3⟩ := pr_use z2
              obtain ⟨y3, z4⟩ := pr_use z3
              obtain ⟨y4, z5⟩ := pr_use z4
              obtain ⟨y5, z6⟩ := pr_use z5
              obtain ⟨y6, z7⟩ := pr_use z6
              obtain ⟨y7, z8⟩ := pr_use z7
              obtain ⟨y8, z9⟩ := pr_use z8
              subst y1
              subst y2
              subst y3
              subst y4
              subst y5
              subst y6
              subst y7
              subst y8
              subst z9
              exact hret _ _ _ _ _ dX7_circles_78 rfl rfl hP hD hS
            · have hm := if_t _ hc hm
              refine lv_aload_n hx hb dX7_circles_67 rfl (lv_at hl 0 rfl) ?_
              refine va_get (D := D) (ci := 6) (v := .int f_circleOdd_14) (C := RX7) (T := TX7) (N := 20) hx hb hts (by decide +kernel) hown hK hP 0 rfl rfl 18 (by decide) (hts (.fieldLink RX7 257 "KnotStripesModel" "circleOdd" "I") (by decide +kernel)) (fun _ h9 => h9) rfl dX7_circles_68 ?_
              refine lv_goto (tgt := 78) hx hb dX7_circles_71 (by decide) ?_
              have z1 := so_use hm
              obtain ⟨y1, z2⟩ := pr_use z1
              obtain ⟨y2, z3⟩ := pr_use z2
              obtain ⟨y3, z4⟩ := pr_use z3
              obtain ⟨y4, z5⟩ := pr_use z4
              obtain ⟨y5, z6⟩ := pr_use z5
              obtain ⟨y6, z7⟩ := pr_use z6
              obtain ⟨y7, z8⟩ := pr_use z7
              obtain ⟨y8, z9⟩ := pr_use z8
              subst y1
              subst y2
              subst y3
              subst y4
              subst y5
              subst y6
              subst y7
              subst y8
              subst z9
              exact hret _ _ _ _ _ dX7_circles_78 rfl rfl hP hD hS
          · have hm := if_t _ hc hm
            refine lv_aload_n hx hb dX7_circles_55 rfl (lv_at hl 0 rfl) ?_
            refine va_get (D := D) (ci := 6) (v := .int f_circleMany_13) (C := RX7) (T := TX7) (N := 20) hx hb hts (by decide +kernel) hown hK hP 0 rfl rfl 17 (by decide) (hts (.fieldLink RX7 254 "KnotStripesModel" "circleMany" "I") (by decide +kernel)) (fun _ h9 => h9) rfl dX7_circles_56 ?_
            refine lv_goto (tgt := 78) hx hb dX7_circles_59 (by decide) ?_
            have z1 := so_use hm
            obtain ⟨y1, z2⟩ := pr_use z1
            obtain ⟨y2, z3⟩ := pr_use z2
            obtain ⟨y3, z4⟩ := pr_use z3
            obtain ⟨y4, z5⟩ := pr_use z4
            obtain ⟨y5, z6⟩ := pr_use z5
            obtain ⟨y6, z7⟩ := pr_use z6
            obtain ⟨y7, z8⟩ := pr_use z7
            obtain ⟨y8, z9⟩ := pr_use z8
            subst y1
            subst y2
            subst y3
            subst y4
            subst y5
            subst y6
            subst y7
            subst y8
            subst z9
            exact hret _ _ _ _ _ dX7_circles_78 rfl rfl hP hD hS
        · have hm := if_f _ hc hm
          refine lv_bipush (v := (-5)) hx hb dX7_circles_38 (by decide) ?_
          have z1 := so_use hm
          obtain ⟨y1, z2⟩ := pr_use z1
          obtain ⟨y2, z3⟩ := pr_use z2
          obtain ⟨y3, z4⟩ := pr_use z3
          obtain ⟨y4, z5⟩ := pr_use z4
          obtain ⟨y5, z6⟩ := pr_use z5
          obtain ⟨y6, z7⟩ := pr_use z6
          obtain ⟨y7, z8⟩ := pr_use z7
          obtain ⟨y8, z9⟩ := pr_use z8
          subst y1
          subst y2
          subst y3
          subst y4
          subst y5
          subst y6
          subst y7
          subst y8
          subst z9
          exact hret _ _ _ _ _ dX7_circles_40 rfl rfl hP hD hS
      · have hm := if_t _ hc hm
        refine lv_bipush (v := (-2)) hx hb dX7_circles_23 (by decide) ?_
        have z1 := so_use hm
        obtain ⟨y1, z2⟩ := pr_use z1
        obtain ⟨y2, z3⟩ := pr_use z2
        obtain ⟨y3, z4⟩ := pr_use z3
        obtain ⟨y4, z5⟩ := pr_use z4
        obtain ⟨y5, z6⟩ := pr_use z5
        obtain ⟨y6, z7⟩ := pr_use z6
        obtain ⟨y7, z8⟩ := pr_use z7
        obtain ⟨y8, z9⟩ := pr_use z8
        subst y1
        subst y2
        subst y3
        subst y4
        subst y5
        subst y6
        subst y7
        subst y8
        subst z9
        exact hret _ _ _ _ _ dX7_circles_25 rfl rfl hP hD hS
  · have hm := if_t _ hc hm
    refine lv_bipush (v := (-4)) hx hb dX7_circles_7 (by decide) ?_
    have z1 := so_use hm
    obtain ⟨y1, z2⟩ := pr_use z1
    obtain ⟨y2, z3⟩ := pr_use z2
    obtain ⟨y3, z4⟩ := pr_use z3
    obtain ⟨y4, z5⟩ := pr_use z4
    obtain ⟨y5, z6⟩ := pr_use z5
    obtain ⟨y6, z7⟩ := pr_use z6
    obtain ⟨y7, z8⟩ := pr_use z7
    obtain ⟨y8, z9⟩ := pr_use z8
    subst y1
    subst y2
    subst y3
    subst y4
    subst y5
    subst y6
    subst y7
    subst y8
    subst z9
    exact hret _ _ _ _ _ dX7_circles_9 rfl rfl hP hD hS
abbrev rX7_fewestOdd : Room := { frames := 5, cells := 0, slots := 0, locals := 110 }
set_option maxHeartbeats 4000000 in
set_option maxRecDepth 100000 in
theorem k_X7_fewestOdd (l : Launch) (D : va_G) (cI cC cN : ClassId) (N : Nat) (q : Nat) (q_s : Nat) (q_past : Nat) (q_slot : Nat) (q_text : Nat) (q_tries : Nat) (q_firstOne : Nat) (q_read : Nat) (q_coverSets : Nat) (q_picks : Nat) (q_covered : Nat) (q_takenThreads : Nat) (sz : Nat) (f_s : Nat → Int32) (f_past : Nat → Int32) (f_states : Int32) (f_slot : Nat → Int32) (f_isKept : Int32) (f_text : Nat → Int32) (f_length : Int32) (f_tries : Nat → Int32) (f_firstOne : Nat → Int32) (f_at : Int32) (f_ends : Int32) (f_read : Nat → Int32) (f_coverMany : Int32) (f_coverSets : Nat → Int32) (f_picks : Nat → Int32) (f_covered : Nat → Int32) (f_takenThreads : Nat → Int32) (f_circleMany : Int32) (f_circleOdd : Int32) (f_circleLongest : Int32) (r : Int32) (f_coverMany' : Int32) (f_coverSets' : Nat → Int32) (f_picks' : Nat → Int32) (f_covered' : Nat → Int32) (f_takenThreads' : Nat → Int32) (f_circleMany' : Int32) (f_circleOdd' : Int32) (f_circleLongest' : Int32) (hm : m_X7_fewestOdd N f_s f_coverMany f_coverSets f_picks f_covered f_takenThreads f_circleMany f_circleOdd f_circleLongest = some (r, f_coverMany', f_coverSets', f_picks', f_covered', f_takenThreads', f_circleMany', f_circleOdd', f_circleLongest')) : Met l yX7_fewestOdd wsX7_fewestOdd (rX7_fewestOdd) (gPc D (tysG cI cC cN) [.ref q] [(q, .inr (6, [.ref q_s, .ref q_past, .int f_states, .ref q_slot, .int f_isKept, .ref q_text, .int f_length, .ref q_tries, .ref q_firstOne, .int f_at, .int f_ends, .ref q_read, .int f_coverMany, .ref q_coverSets, .ref q_picks, .ref q_covered, .ref q_takenThreads, .int f_circleMany, .int f_circleOdd, .int f_circleLongest])), (q_s, .inl (cI, 65, .inl f_s)), (q_past, .inl (cI, 260, .inl f_past)), (q_slot, .inl (cI, 65, .inl f_slot)), (q_text, .inl (cC, 60, .inl f_text)), (q_tries, .inl (cI, 22, .inl f_tries)), (q_firstOne, .inl (cI, 21, .inl f_firstOne)), (q_read, .inl (cI, 32, .inl f_read)), (q_coverSets, .inl (cI, 256, .inl f_coverSets)), (q_picks, .inl (cI, 8, .inl f_picks)), (q_covered, .inl (cI, 8, .inl f_covered)), (q_takenThreads, .inl (cI, 8, .inl f_takenThreads))] sz) (gQi D (tysG cI cC cN) (va_A [(q, .inr (6, [.ref q_s, .ref q_past, .int f_states, .ref q_slot, .int f_isKept, .ref q_text, .int f_length, .ref q_tries, .ref q_firstOne, .int f_at, .int f_ends, .ref q_read, .int f_coverMany, .ref q_coverSets, .ref q_picks, .ref q_covered, .ref q_takenThreads, .int f_circleMany, .int f_circleOdd, .int f_circleLongest])), (q_s, .inl (cI, 65, .inl f_s)), (q_past, .inl (cI, 260, .inl f_past)), (q_slot, .inl (cI, 65, .inl f_slot)), (q_text, .inl (cC, 60, .inl f_text)), (q_tries, .inl (cI, 22, .inl f_tries)), (q_firstOne, .inl (cI, 21, .inl f_firstOne)), (q_read, .inl (cI, 32, .inl f_read)), (q_coverSets, .inl (cI, 256, .inl f_coverSets)), (q_picks, .inl (cI, 8, .inl f_picks)), (q_covered, .inl (cI, 8, .inl f_covered)), (q_takenThreads, .inl (cI, 8, .inl f_takenThreads))] sz) [(q, .inr (6, [.ref q_s, .ref q_past, .int f_states, .ref q_slot, .int f_isKept, .ref q_text, .int f_length, .ref q_tries, .ref q_firstOne, .int f_at, .int f_ends, .ref q_read, .int f_coverMany', .ref q_coverSets, .ref q_picks, .ref q_covered, .ref q_takenThreads, .int f_circleMany', .int f_circleOdd', .int f_circleLongest'])), (q_s, .inl (cI, 65, .inl f_s)), (q_past, .inl (cI, 260, .inl f_past)), (q_slot, .inl (cI, 65, .inl f_slot)), (q_text, .inl (cC, 60, .inl f_text)), (q_tries, .inl (cI, 22, .inl f_tries)), (q_firstOne, .inl (cI, 21, .inl f_firstOne)), (q_read, .inl (cI, 32, .inl f_read)), (q_coverSets, .inl (cI, 256, .inl f_coverSets')), (q_picks, .inl (cI, 8, .inl f_picks')), (q_covered, .inl (cI, 8, .inl f_covered')), (q_takenThreads, .inl (cI, 8, .inl f_takenThreads'))] r) 0 0 (va_A [(q, .inr (6, [.ref q_s, .ref q_past, .int f_states, .ref q_slot, .int f_isKept, .ref q_text, .int f_length, .ref q_tries, .ref q_firstOne, .int f_at, .int f_ends, .ref q_read, .int f_coverMany, .ref q_coverSets, .ref q_picks, .ref q_covered, .ref q_takenThreads, .int f_circleMany, .int f_circleOdd, .int f_circleLongest])), (q_s, .inl (cI, 65, .inl f_s)), (q_past, .inl (cI, 260, .inl f_past)), (q_slot, .inl (cI, 65, .inl f_slot)), (q_text, .inl (cC, 60, .inl f_text)), (q_tries, .inl (cI, 22, .inl f_tries)), (q_firstOne, .inl (cI, 21, .inl f_firstOne)), (q_read, .inl (cI, 32, .inl f_read)), (q_coverSets, .inl (cI, 256, .inl f_coverSets)), (q_picks, .inl (cI, 8, .inl f_picks)), (q_covered, .inl (cI, 8, .inl f_covered)), (q_takenThreads, .inl (cI, 8, .inl f_takenThreads))] sz) := by
  unfold m_X7_fewestOdd at hm
  refine g_openI (cc := cX7_fewestOdd) (maxL := 3) (own := RX7) (by decide) rfl rfl (Nat.le_of_ble_eq_true rfl) ?_
  intro p e s m args below meth c A Q hx hb hml hown hts hP hK hN hD hA hret ls hl
  have hS : va_S A s.heap s.heap [] := va_S.rf
  have hl : lv_has ls 3 [(0, .ref q)] := hl
  refine lv_aload_n hx hb dX7_fewestOdd_0 rfl (lv_at hl 0 rfl) ?_
  obtain ⟨r_1, h_2, hm⟩ := bind_use hm
  refine g_ki (wc := [(q, .inr (6, [.ref q_s, .ref q_past, .int f_states, .ref q_slot, .int f_isKept, .ref q_text, .int f_length, .ref q_tries, .ref q_firstOne, .int f_at, .int f_ends, .ref q_read, .int f_coverMany, .ref q_coverSets, .ref q_picks, .ref q_covered, .ref q_takenThreads, .int f_circleMany, .int f_circleOdd, .int f_circleLongest])), (q_s, .inl (cI, 65, .inl f_s)), (q_past, .inl (cI, 260, .inl f_past)), (q_slot, .inl (cI, 65, .inl f_slot)), (q_text, .inl (cC, 60, .inl f_text)), (q_tries, .inl (cI, 22, .inl f_tries)), (q_firstOne, .inl (cI, 21, .inl f_firstOne)), (q_read, .inl (cI, 32, .inl f_read)), (q_coverSets, .inl (cI, 256, .inl f_coverSets)), (q_picks, .inl (cI, 8, .inl f_picks)), (q_covered, .inl (cI, 8, .inl f_covered)), (q_takenThreads, .inl (cI, 8, .inl f_takenThreads))]) (wr := []) (w2 := [(q, .inr (6, [.ref q_s, .ref q_past, .int f_states, .ref q_slot, .int f_isKept, .ref q_text, .int f_length, .ref q_tries, .ref q_firstOne, .int f_at, .int f_ends, .ref q_read, .int f_coverMany, .ref q_coverSets, .ref q_picks, .ref q_covered, .ref q_takenThreads, .int f_circleMany, .int f_circleOdd, .int f_circleLongest])), (q_s, .inl (cI, 65, .inl f_s)), (q_past, .inl (cI, 260, .inl f_past)), (q_slot, .inl (cI, 65, .inl f_slot)), (q_text, .inl (cC, 60, .inl f_text)), (q_tries, .inl (cI, 22, .inl f_tries)), (q_firstOne, .inl (cI, 21, .inl f_firstOne)), (q_read, .inl (cI, 32, .inl f_read)), (q_coverSets, .inl (cI, 256, .inl f_coverSets)), (q_picks, .inl (cI, 8, .inl f_picks)), (q_covered, .inl (cI, 8, .inl f_covered)), (q_takenThreads, .inl (cI, 8, .inl f_takenThreads))]) (va_runV (As := []) (rest := []) ⟨hx, hb, hml, hown, hts⟩ (k_X7_isFullNet l D cI cC cN N q q_s q_past q_slot q_text q_tries q_firstOne q_read q_coverSets q_picks q_covered q_takenThreads s.heap.size f_s f_past f_states f_slot f_isKept f_text f_length f_tries f_firstOne f_at f_ends f_read f_coverMany f_coverSets f_picks f_covered f_takenThreads f_circleMany f_circleOdd f_circleLongest r_1 h_2) (cwV 0 hts gX7_fewestOdd_X7_isFullNet rfl rfl rfl (by decide +kernel) ⟨Nat.le_of_ble_eq_true rfl, Nat.le_of_ble_eq_true rfl⟩) ⟨g_blind, va_recv (D := D) (ci := 6) (q0 := 0) hK hP rfl rfl, g_pre (hP.sub [0, 1, 2, 3, 4, 5, 6, 7, 8, 9, 10, 11] rfl) hK hN (hD.sub [0, 1, 2, 3, 4, 5, 6, 7, 8, 9, 10, 11] (by decide) rfl)⟩ rfl rfl hl.1 rfl (lv_room (Nat.le_of_ble_eq_true rfl)) dX7_fewestOdd_1 ⟨Nat.zero_le _, Nat.zero_le _⟩) hP hD hS hA [0, 1, 2, 3, 4, 5, 6, 7, 8, 9, 10, 11] [] rfl rfl (by decide) (by decide) rfl (fun H locs hP hD hS => ?_)
  refine lv_if_ne (tgt := 10) hx hb dX7_fewestOdd_4 (by decide) (fun hc => ?_) (fun hc => ?_)
  · have hm := if_f _ hc hm
    refine lv_aload_n hx hb dX7_fewestOdd_10 rfl (lv_at hl 0 rfl) ?_
    obtain ⟨⟨f_coverMany_3, f_coverSets_4, f_picks_5, f_covered_6, f_takenThreads_7⟩, h_8, hm⟩ := bind_use hm
    refine g_kv (wc := [(q, .inr (6, [.ref q_s, .ref q_past, .int f_states, .ref q_slot, .int f_isKept, .ref q_text, .int f_length, .ref q_tries, .ref q_firstOne, .int f_at, .int f_ends, .ref q_read, .int f_coverMany, .ref q_coverSets, .ref q_picks, .ref q_covered, .ref q_takenThreads, .int f_circleMany, .int f_circleOdd, .int f_circleLongest])), (q_s, .inl (cI, 65, .inl f_s)), (q_past, .inl (cI, 260, .inl f_past)), (q_slot, .inl (cI, 65, .inl f_slot)), (q_text, .inl (cC, 60, .inl f_text)), (q_tries, .inl (cI, 22, .inl f_tries)), (q_firstOne, .inl (cI, 21, .inl f_firstOne)), (q_read, .inl (cI, 32, .inl f_read)), (q_coverSets, .inl (cI, 256, .inl f_coverSets)), (q_picks, .inl (cI, 8, .inl f_picks)), (q_covered, .inl (cI, 8, .inl f_covered)), (q_takenThreads, .inl (cI, 8, .inl f_takenThreads))]) (wr := []) (w2 := [(q, .inr (6, [.ref q_s, .ref q_past, .int f_states, .ref q_slot, .int f_isKept, .ref q_text, .int f_length, .ref q_tries, .ref q_firstOne, .int f_at, .int f_ends, .ref q_read, .int f_coverMany_3, .ref q_coverSets, .ref q_picks, .ref q_covered, .ref q_takenThreads, .int f_circleMany, .int f_circleOdd, .int f_circleLongest])), (q_s, .inl (cI, 65, .inl f_s)), (q_past, .inl (cI, 260, .inl f_past)), (q_slot, .inl (cI, 65, .inl f_slot)), (q_text, .inl (cC, 60, .inl f_text)), (q_tries, .inl (cI, 22, .inl f_tries)), (q_firstOne, .inl (cI, 21, .inl f_firstOne)), (q_read, .inl (cI, 32, .inl f_read)), (q_coverSets, .inl (cI, 256, .inl f_coverSets_4)), (q_picks, .inl (cI, 8, .inl f_picks_5)), (q_covered, .inl (cI, 8, .inl f_covered_6)), (q_takenThreads, .inl (cI, 8, .inl f_takenThreads_7))]) (va_runV (As := []) (rest := []) ⟨hx, hb, hml, hown, hts⟩ (k_X7_findCovers l D cI cC cN N q q_s q_past q_slot q_text q_tries q_firstOne q_read q_coverSets q_picks q_covered q_takenThreads H.size f_s f_past f_states f_slot f_isKept f_text f_length f_tries f_firstOne f_at f_ends f_read f_coverMany f_coverSets f_picks f_covered f_takenThreads f_circleMany f_circleOdd f_circleLongest f_coverMany_3 f_coverSets_4 f_picks_5 f_covered_6 f_takenThreads_7 h_8) (cwV 0 hts gX7_fewestOdd_X7_findCovers rfl rfl rfl (by decide +kernel) ⟨Nat.le_of_ble_eq_true rfl, Nat.le_of_ble_eq_true rfl⟩) ⟨g_blind, va_recv (D := D) (ci := 6) (q0 := 0) hK hP rfl rfl, g_pre (hP.sub [0, 1, 2, 3, 4, 5, 6, 7, 8, 9, 10, 11] rfl) hK hN (hD.sub [0, 1, 2, 3, 4, 5, 6, 7, 8, 9, 10, 11] (by decide) rfl)⟩ rfl rfl hl.1 rfl (lv_room (Nat.le_of_ble_eq_true rfl)) dX7_fewestOdd_11 ⟨Nat.zero_le _, Nat.zero_le _⟩) hP hD hS hA [0, 1, 2, 3, 4, 5, 6, 7, 8, 9, 10, 11] [] rfl rfl (by decide) (by decide) rfl (fun H locs hP hD hS => ?_)
    refine lv_bipush (v := (-5)) hx hb dX7_fewestOdd_14 (by decide) ?_
    refine lv_istore_n (lv' := [(1, .int (-5)), (0, .ref q)]) hx hb dX7_fewestOdd_16 rfl hl (by decide) rfl (fun ls hl => ?_)
    refine lv_iconst (v := 0) hx hb dX7_fewestOdd_17 (by decide) ?_
    refine lv_istore_n (lv' := [(2, .int 0), (1, .int (-5)), (0, .ref q)]) hx hb dX7_fewestOdd_18 rfl hl (by decide) rfl (fun ls hl => ?_)
    have l19 : ∀ (n_19 : Nat) (x2_9 : Int32) (x1_10 : Int32) (f_circleMany_11 : Int32) (f_circleOdd_12 : Int32) (f_circleLongest_13 : Int32), ∀ (H : Heap) (locs : List Loc) (ls : Array Slot), va_P D vwCl [(q, .inr (6, [.ref q_s, .ref q_past, .int f_states, .ref q_slot, .int f_isKept, .ref q_text, .int f_length, .ref q_tries, .ref q_firstOne, .int f_at, .int f_ends, .ref q_read, .int f_coverMany_3, .ref q_coverSets, .ref q_picks, .ref q_covered, .ref q_takenThreads, .int f_circleMany_11, .int f_circleOdd_12, .int f_circleLongest_13])), (q_s, .inl (cI, 65, .inl f_s)), (q_past, .inl (cI, 260, .inl f_past)), (q_slot, .inl (cI, 65, .inl f_slot)), (q_text, .inl (cC, 60, .inl f_text)), (q_tries, .inl (cI, 22, .inl f_tries)), (q_firstOne, .inl (cI, 21, .inl f_firstOne)), (q_read, .inl (cI, 32, .inl f_read)), (q_coverSets, .inl (cI, 256, .inl f_coverSets_4)), (q_picks, .inl (cI, 8, .inl f_picks_5)), (q_covered, .inl (cI, 8, .inl f_covered_6)), (q_takenThreads, .inl (cI, 8, .inl f_takenThreads_7))] H → va_D A [(q, .inr (6, [.ref q_s, .ref q_past, .int f_states, .ref q_slot, .int f_isKept, .ref q_text, .int f_length, .ref q_tries, .ref q_firstOne, .int f_at, .int f_ends, .ref q_read, .int f_coverMany_3, .ref q_coverSets, .ref q_picks, .ref q_covered, .ref q_takenThreads, .int f_circleMany_11, .int f_circleOdd_12, .int f_circleLongest_13])), (q_s, .inl (cI, 65, .inl f_s)), (q_past, .inl (cI, 260, .inl f_past)), (q_slot, .inl (cI, 65, .inl f_slot)), (q_text, .inl (cC, 60, .inl f_text)), (q_tries, .inl (cI, 22, .inl f_tries)), (q_firstOne, .inl (cI, 21, .inl f_firstOne)), (q_read, .inl (cI, 32, .inl f_read)), (q_coverSets, .inl (cI, 256, .inl f_coverSets_4)), (q_picks, .inl (cI, 8, .inl f_picks_5)), (q_covered, .inl (cI, 8, .inl f_covered_6)), (q_takenThreads, .inl (cI, 8, .inl f_takenThreads_7))] → va_S A s.heap H locs → lv_has ls 3 [(2, .int x2_9), (1, .int x1_10), (0, .ref q)] → m_X7_fewestOdd_L19 N f_s f_coverMany_3 f_coverSets_4 f_picks_5 f_covered_6 f_takenThreads_7 n_19 x2_9 x1_10 f_circleMany_11 f_circleOdd_12 f_circleLongest_13 = some (r, f_coverMany', f_coverSets', f_picks', f_covered', f_takenThreads', f_circleMany', f_circleOdd', f_circleLongest') → W p l e rX7_fewestOdd s m args below meth c H locs 0 0 Q (F0 m 19 ls []) := by
      intro n_19
      induction n_19 with
      | zero => intro x2_9 x1_10 f_circleMany_11 f_circleOdd_12 f_circleLongest_13 H locs ls hP hD hS hl hm; rw [m_X7_fewestOdd_L19] at hm; exact no_use hm
      | succ n_19 ih19 =>
        intro x2_9 x1_10 f_circleMany_11 f_circleOdd_12 f_circleLongest_13 H locs ls hP hD hS hl hm
        rw [m_X7_fewestOdd_L19] at hm
        refine lv_iload_n hx hb dX7_fewestOdd_19 rfl (lv_at hl 0 rfl) ?_
        refine lv_aload_n hx hb dX7_fewestOdd_20 rfl (lv_at hl 2 rfl) ?_
        refine va_get (D := D) (ci := 6) (v := .int f_coverMany_3) (C := RX7) (T := TX7) (N := 20) hx hb hts (by decide +kernel) hown hK hP 0 rfl rfl 12 (by decide) (hts (.fieldLink RX7 238 "KnotStripesModel" "coverMany" "I") (by decide +kernel)) (fun _ h9 => h9) rfl dX7_fewestOdd_21 ?_
        refine lv_icmp_ge (tgt := 64) hx hb dX7_fewestOdd_24 (by decide) (fun hc => ?_) (fun hc => ?_)
        · have hm := if_t _ hc hm
          refine lv_iload_n hx hb dX7_fewestOdd_64 rfl (lv_at hl 1 rfl) ?_
          have z1 := so_use hm
          obtain ⟨y1, z2⟩ := pr_use z1
          obtain ⟨y2, z3⟩ := pr_use z2
          obtain ⟨y3, z4⟩ := pr_use z3
          obtain ⟨y4, z5⟩ := pr_use z4
          obtain ⟨y5, z6⟩ := pr_use z5
          obtain ⟨y6, z7⟩ := pr_use z6
          obtain ⟨y7, z8⟩ := pr_use z7
          obtain ⟨y8, z9⟩ := pr_use z8
          subst y1
          subst y2
          subst y3
          subst y4
          subst y5
          subst y6
          subst y7
          subst y8
          subst z9
          exact hret _ _ _ _ _ dX7_fewestOdd_65 rfl rfl hP hD hS
        · have hm := if_f _ hc hm
          refine lv_aload_n hx hb dX7_fewestOdd_27 rfl (lv_at hl 2 rfl) ?_
          refine lv_aload_n hx hb dX7_fewestOdd_28 rfl (lv_at hl 2 rfl) ?_
          refine va_get (D := D) (ci := 6) (v := .ref q_coverSets) (C := RX7) (T := TX7) (N := 20) hx hb hts (by decide +kernel) hown hK hP 0 rfl rfl 13 (by decide) (hts (.fieldLink RX7 32 "KnotStripesModel" "coverSets" "[I") (by decide +kernel)) (fun _ h9 => h9) rfl dX7_fewestOdd_29 ?_
          refine lv_iload_n hx hb dX7_fewestOdd_32 rfl (lv_at hl 0 rfl) ?_
          obtain ⟨hi_14, hm⟩ := ard_use hm
          refine va_iald (D := D) (n := 256) (f := f_coverSets_4) hx hb hK hP 8 0 rfl rfl hi_14 dX7_fewestOdd_33 ?_
          refine lv_topi (fun u_15 eu_15 => ?_)
          have hm := nm_use eu_15 hm
          obtain ⟨⟨f_circleMany_16, f_circleOdd_17, f_circleLongest_18⟩, h_19, hm⟩ := bind_use hm
          refine g_kv (wc := [(q, .inr (6, [.ref q_s, .ref q_past, .int f_states, .ref q_slot, .int f_isKept, .ref q_text, .int f_length, .ref q_tries, .ref q_firstOne, .int f_at, .int f_ends, .ref q_read, .int f_coverMany_3, .ref q_coverSets, .ref q_picks, .ref q_covered, .ref q_takenThreads, .int f_circleMany_11, .int f_circleOdd_12, .int f_circleLongest_13])), (q_s, .inl (cI, 65, .inl f_s)), (q_past, .inl (cI, 260, .inl f_past)), (q_slot, .inl (cI, 65, .inl f_slot)), (q_text, .inl (cC, 60, .inl f_text)), (q_tries, .inl (cI, 22, .inl f_tries)), (q_firstOne, .inl (cI, 21, .inl f_firstOne)), (q_read, .inl (cI, 32, .inl f_read)), (q_coverSets, .inl (cI, 256, .inl f_coverSets_4)), (q_picks, .inl (cI, 8, .inl f_picks_5)), (q_covered, .inl (cI, 8, .inl f_covered_6)), (q_takenThreads, .inl (cI, 8, .inl f_takenThreads_7))]) (wr := []) (w2 := [(q, .inr (6, [.ref q_s, .ref q_past, .int f_states, .ref q_slot, .int f_isKept, .ref q_text, .int f_length, .ref q_tries, .ref q_firstOne, .int f_at, .int f_ends, .ref q_read, .int f_coverMany_3, .ref q_coverSets, .ref q_picks, .ref q_covered, .ref q_takenThreads, .int f_circleMany_16, .int f_circleOdd_17, .int f_circleLongest_18])), (q_s, .inl (cI, 65, .inl f_s)), (q_past, .inl (cI, 260, .inl f_past)), (q_slot, .inl (cI, 65, .inl f_slot)), (q_text, .inl (cC, 60, .inl f_text)), (q_tries, .inl (cI, 22, .inl f_tries)), (q_firstOne, .inl (cI, 21, .inl f_firstOne)), (q_read, .inl (cI, 32, .inl f_read)), (q_coverSets, .inl (cI, 256, .inl f_coverSets_4)), (q_picks, .inl (cI, 8, .inl f_picks_5)), (q_covered, .inl (cI, 8, .inl f_covered_6)), (q_takenThreads, .inl (cI, 8, .inl f_takenThreads_7))]) (va_runV (As := [.int u_15]) (rest := []) ⟨hx, hb, hml, hown, hts⟩ (k_X7_findCircles l D cI cC cN N q q_s q_past q_slot q_text q_tries q_firstOne q_read q_coverSets q_picks q_covered q_takenThreads H.size f_s f_past f_states f_slot f_isKept f_text f_length f_tries f_firstOne f_at f_ends f_read f_coverMany_3 f_coverSets_4 f_picks_5 f_covered_6 f_takenThreads_7 f_circleMany_11 f_circleOdd_12 f_circleLongest_13 u_15 f_circleMany_16 f_circleOdd_17 f_circleLongest_18 h_19) (cwV 1 hts gX7_fewestOdd_X7_findCircles rfl rfl rfl (by decide +kernel) ⟨Nat.le_of_ble_eq_true rfl, Nat.le_of_ble_eq_true rfl⟩) ⟨g_blind, va_recv (D := D) (ci := 6) (q0 := 0) hK hP rfl rfl, g_pre (hP.sub [0, 1, 2, 3, 4, 5, 6, 7, 8, 9, 10, 11] rfl) hK hN (hD.sub [0, 1, 2, 3, 4, 5, 6, 7, 8, 9, 10, 11] (by decide) rfl)⟩ rfl rfl hl.1 rfl (lv_room (Nat.le_of_ble_eq_true rfl)) dX7_fewestOdd_34 ⟨Nat.zero_le _, Nat.zero_le _⟩) hP hD hS hA [0, 1, 2, 3, 4, 5, 6, 7, 8, 9, 10, 11] [] rfl rfl (by decide) (by decide) rfl (fun H locs hP hD hS => ?_)
          refine lv_iload_n hx hb dX7_fewestOdd_37 rfl (lv_at hl 1 rfl) ?_
          refine lv_if_lt (tgt := 49) hx hb dX7_fewestOdd_38 (by decide) (fun hc => ?_) (fun hc => ?_)
          · have hm := if_t _ hc hm
            refine lv_aload_n hx hb dX7_fewestOdd_49 rfl (lv_at hl 2 rfl) ?_
            refine va_get (D := D) (ci := 6) (v := .int f_circleOdd_17) (C := RX7) (T := TX7) (N := 20) hx hb hts (by decide +kernel) hown hK hP 0 rfl rfl 18 (by decide) (hts (.fieldLink RX7 257 "KnotStripesModel" "circleOdd" "I") (by decide +kernel)) (fun _ h9 => h9) rfl dX7_fewestOdd_50 ?_
            refine lv_goto (tgt := 57) hx hb dX7_fewestOdd_53 (by decide) ?_
            refine lv_istore_n (lv' := [(1, .int f_circleOdd_17), (2, .int x2_9), (0, .ref q)]) hx hb dX7_fewestOdd_57 rfl hl (by decide) rfl (fun ls hl => ?_)
            refine lv_iinc (v := (x2_9 + 1)) (lv' := [(2, .int (x2_9 + 1)), (1, .int f_circleOdd_17), (0, .ref q)]) hx hb dX7_fewestOdd_58 hl (k := 1) rfl rfl (by decide) rfl (fun ls hl => ?_)
            refine lv_goto (tgt := 19) hx hb dX7_fewestOdd_61 (by decide) ?_
            exact ih19 (x2_9 + 1) f_circleOdd_17 f_circleMany_16 f_circleOdd_17 f_circleLongest_18 _ _ _ hP hD hS hl hm
          · have hm := if_f _ hc hm
            refine lv_aload_n hx hb dX7_fewestOdd_41 rfl (lv_at hl 2 rfl) ?_
            refine va_get (D := D) (ci := 6) (v := .int f_circleOdd_17) (C := RX7) (T := TX7) (N := 20) hx hb hts (by decide +kernel) hown hK hP 0 rfl rfl 18 (by decide) (hts (.fieldLink RX7 257 "KnotStripesModel" "circleOdd" "I") (by decide +kernel)) (fun _ h9 => h9) rfl dX7_fewestOdd_42 ?_
            refine lv_iload_n hx hb dX7_fewestOdd_45 rfl (lv_at hl 1 rfl) ?_
            refine lv_icmp_ge (tgt := 56) hx hb dX7_fewestOdd_46 (by decide) (fun hc => ?_) (fun hc => ?_)
            · have hm := if_t _ hc hm
              refine lv_iload_n hx hb dX7_fewestOdd_56 rfl (lv_at hl 1 rfl) ?_
              refine lv_istore_n (lv' := [(1, .int x1_10), (2, .int x2_9), (0, .ref q)]) hx hb dX7_fewestOdd_57 rfl hl (by decide) rfl (fun ls hl => ?_)
              refine lv_iinc (v := (x2_9 + 1)) (lv' := [(2, .int (x2_9 + 1)), (1, .int x1_10), (0, .ref q)]) hx hb dX7_fewestOdd_58 hl (k := 1) rfl rfl (by decide) rfl (fun ls hl => ?_)
              refine lv_goto (tgt := 19) hx hb dX7_fewestOdd_61 (by decide) ?_
              exact ih19 (x2_9 + 1) x1_10 f_circleMany_16 f_circleOdd_17 f_circleLongest_18 _ _ _ hP hD hS hl hm
            · have hm := if_f _ hc hm
              refine lv_aload_n hx hb dX7_fewestOdd_49 rfl (lv_at hl 2 rfl) ?_
              refine va_get (D := D) (ci := 6) (v := .int f_circleOdd_17) (C := RX7) (T := TX7) (N := 20) hx hb hts (by decide +kernel) hown hK hP 0 rfl rfl 18 (by decide) (hts (.fieldLink RX7 257 "KnotStripesModel" "circleOdd" "I") (by decide +kernel)) (fun _ h9 => h9) rfl dX7_fewestOdd_50 ?_
              refine lv_goto (tgt := 57) hx hb dX7_fewestOdd_53 (by decide) ?_
              refine lv_istore_n (lv' := [(1, .int f_circleOdd_17), (2, .int x2_9), (0, .ref q)]) hx hb dX7_fewestOdd_57 rfl hl (by decide) rfl (fun ls hl => ?_)
              refine lv_iinc (v := (x2_9 + 1)) (lv' := [(2, .int (x2_9 + 1)), (1, .int f_circleOdd_17), (0, .ref q)]) hx hb dX7_fewestOdd_58 hl (k := 1) rfl rfl (by decide) rfl (fun ls hl => ?_)
              refine lv_goto (tgt := 19) hx hb dX7_fewestOdd_61 (by decide) ?_
              exact ih19 (x2_9 + 1) f_circleOdd_17 f_circleMany_16 f_circleOdd_17 f_circleLongest_18 _ _ _ hP hD hS hl hm
    exact l19 N 0 (-5) f_circleMany f_circleOdd f_circleLongest _ _ _ hP hD hS hl hm
  · have hm := if_t _ hc hm
    refine lv_bipush (v := (-4)) hx hb dX7_fewestOdd_7 (by decide) ?_
    have z1 := so_use hm
    obtain ⟨y1, z2⟩ := pr_use z1
    obtain ⟨y2, z3⟩ := pr_use z2
    obtain ⟨y3, z4⟩ := pr_use z3
    obtain ⟨y4, z5⟩ := pr_use z4
    obtain ⟨y5, z6⟩ := pr_use z5
    obtain ⟨y6, z7⟩ := pr_use z6
    obtain ⟨y7, z8⟩ := pr_use z7
    obtain ⟨y8, z9⟩ := pr_use z8
    subst y1
    subst y2
    subst y3
    subst y4
    subst y5
    subst y6
    subst y7
    subst y8
    subst z9
    exact hret _ _ _ _ _ dX7_fewestOdd_9 rfl rfl hP hD hS
abbrev rX7_knot : Room := { frames := 4, cells := 0, slots := 0, locals := 95 }
set_option maxHeartbeats 4000000 in
set_option maxRecDepth 100000 in
theorem k_X7_knot (l : Launch) (D : va_G) (cI cC cN : ClassId) (N : Nat) (q : Nat) (q_s : Nat) (q_past : Nat) (q_slot : Nat) (q_text : Nat) (q_tries : Nat) (q_firstOne : Nat) (q_read : Nat) (q_coverSets : Nat) (q_picks : Nat) (q_covered : Nat) (q_takenThreads : Nat) (sz : Nat) (f_s : Nat → Int32) (f_past : Nat → Int32) (f_states : Int32) (f_slot : Nat → Int32) (f_isKept : Int32) (f_text : Nat → Int32) (f_length : Int32) (f_tries : Nat → Int32) (f_firstOne : Nat → Int32) (f_at : Int32) (f_ends : Int32) (f_read : Nat → Int32) (f_coverMany : Int32) (f_coverSets : Nat → Int32) (f_picks : Nat → Int32) (f_covered : Nat → Int32) (f_takenThreads : Nat → Int32) (f_circleMany : Int32) (f_circleOdd : Int32) (f_circleLongest : Int32) (a1 : Int32) (a2 : Int32) (r : Int32) (hm : m_X7_knot N f_s a1 a2 = some r) : Met l yX7_knot wsX7_knot (rX7_knot) (gPc D (tysG cI cC cN) [.ref q, .int a1, .int a2] [(q, .inr (6, [.ref q_s, .ref q_past, .int f_states, .ref q_slot, .int f_isKept, .ref q_text, .int f_length, .ref q_tries, .ref q_firstOne, .int f_at, .int f_ends, .ref q_read, .int f_coverMany, .ref q_coverSets, .ref q_picks, .ref q_covered, .ref q_takenThreads, .int f_circleMany, .int f_circleOdd, .int f_circleLongest])), (q_s, .inl (cI, 65, .inl f_s)), (q_past, .inl (cI, 260, .inl f_past)), (q_slot, .inl (cI, 65, .inl f_slot)), (q_text, .inl (cC, 60, .inl f_text)), (q_tries, .inl (cI, 22, .inl f_tries)), (q_firstOne, .inl (cI, 21, .inl f_firstOne)), (q_read, .inl (cI, 32, .inl f_read)), (q_coverSets, .inl (cI, 256, .inl f_coverSets)), (q_picks, .inl (cI, 8, .inl f_picks)), (q_covered, .inl (cI, 8, .inl f_covered)), (q_takenThreads, .inl (cI, 8, .inl f_takenThreads))] sz) (gQi D (tysG cI cC cN) (va_A [(q, .inr (6, [.ref q_s, .ref q_past, .int f_states, .ref q_slot, .int f_isKept, .ref q_text, .int f_length, .ref q_tries, .ref q_firstOne, .int f_at, .int f_ends, .ref q_read, .int f_coverMany, .ref q_coverSets, .ref q_picks, .ref q_covered, .ref q_takenThreads, .int f_circleMany, .int f_circleOdd, .int f_circleLongest])), (q_s, .inl (cI, 65, .inl f_s)), (q_past, .inl (cI, 260, .inl f_past)), (q_slot, .inl (cI, 65, .inl f_slot)), (q_text, .inl (cC, 60, .inl f_text)), (q_tries, .inl (cI, 22, .inl f_tries)), (q_firstOne, .inl (cI, 21, .inl f_firstOne)), (q_read, .inl (cI, 32, .inl f_read)), (q_coverSets, .inl (cI, 256, .inl f_coverSets)), (q_picks, .inl (cI, 8, .inl f_picks)), (q_covered, .inl (cI, 8, .inl f_covered)), (q_takenThreads, .inl (cI, 8, .inl f_takenThreads))] sz) [(q, .inr (6, [.ref q_s, .ref q_past, .int f_states, .ref q_slot, .int f_isKept, .ref q_text, .int f_length, .ref q_tries, .ref q_firstOne, .int f_at, .int f_ends, .ref q_read, .int f_coverMany, .ref q_coverSets, .ref q_picks, .ref q_covered, .ref q_takenThreads, .int f_circleMany, .int f_circleOdd, .int f_circleLongest])), (q_s, .inl (cI, 65, .inl f_s)), (q_past, .inl (cI, 260, .inl f_past)), (q_slot, .inl (cI, 65, .inl f_slot)), (q_text, .inl (cC, 60, .inl f_text)), (q_tries, .inl (cI, 22, .inl f_tries)), (q_firstOne, .inl (cI, 21, .inl f_firstOne)), (q_read, .inl (cI, 32, .inl f_read)), (q_coverSets, .inl (cI, 256, .inl f_coverSets)), (q_picks, .inl (cI, 8, .inl f_picks)), (q_covered, .inl (cI, 8, .inl f_covered)), (q_takenThreads, .inl (cI, 8, .inl f_takenThreads))] r) 0 0 (va_A [(q, .inr (6, [.ref q_s, .ref q_past, .int f_states, .ref q_slot, .int f_isKept, .ref q_text, .int f_length, .ref q_tries, .ref q_firstOne, .int f_at, .int f_ends, .ref q_read, .int f_coverMany, .ref q_coverSets, .ref q_picks, .ref q_covered, .ref q_takenThreads, .int f_circleMany, .int f_circleOdd, .int f_circleLongest])), (q_s, .inl (cI, 65, .inl f_s)), (q_past, .inl (cI, 260, .inl f_past)), (q_slot, .inl (cI, 65, .inl f_slot)), (q_text, .inl (cC, 60, .inl f_text)), (q_tries, .inl (cI, 22, .inl f_tries)), (q_firstOne, .inl (cI, 21, .inl f_firstOne)), (q_read, .inl (cI, 32, .inl f_read)), (q_coverSets, .inl (cI, 256, .inl f_coverSets)), (q_picks, .inl (cI, 8, .inl f_picks)), (q_covered, .inl (cI, 8, .inl f_covered)), (q_takenThreads, .inl (cI, 8, .inl f_takenThreads))] sz) := by
  unfold m_X7_knot at hm
  refine g_openI (cc := cX7_knot) (maxL := 3) (own := RX7) (by decide) rfl rfl (Nat.le_of_ble_eq_true rfl) ?_
  intro p e s m args below meth c A Q hx hb hml hown hts hP hK hN hD hA hret ls hl
  have hS : va_S A s.heap s.heap [] := va_S.rf
  have hl : lv_has ls 3 [(0, .ref q), (1, .int a1), (2, .int a2)] := hl
  refine lv_aload_n hx hb dX7_knot_0 rfl (lv_at hl 0 rfl) ?_
  refine lv_iload_n hx hb dX7_knot_1 rfl (lv_at hl 1 rfl) ?_
  obtain ⟨r_1, h_2, hm⟩ := bind_use hm
  refine g_ki (wc := [(q, .inr (6, [.ref q_s, .ref q_past, .int f_states, .ref q_slot, .int f_isKept, .ref q_text, .int f_length, .ref q_tries, .ref q_firstOne, .int f_at, .int f_ends, .ref q_read, .int f_coverMany, .ref q_coverSets, .ref q_picks, .ref q_covered, .ref q_takenThreads, .int f_circleMany, .int f_circleOdd, .int f_circleLongest])), (q_s, .inl (cI, 65, .inl f_s)), (q_past, .inl (cI, 260, .inl f_past)), (q_slot, .inl (cI, 65, .inl f_slot)), (q_text, .inl (cC, 60, .inl f_text)), (q_tries, .inl (cI, 22, .inl f_tries)), (q_firstOne, .inl (cI, 21, .inl f_firstOne)), (q_read, .inl (cI, 32, .inl f_read)), (q_coverSets, .inl (cI, 256, .inl f_coverSets)), (q_picks, .inl (cI, 8, .inl f_picks)), (q_covered, .inl (cI, 8, .inl f_covered)), (q_takenThreads, .inl (cI, 8, .inl f_takenThreads))]) (wr := []) (w2 := [(q, .inr (6, [.ref q_s, .ref q_past, .int f_states, .ref q_slot, .int f_isKept, .ref q_text, .int f_length, .ref q_tries, .ref q_firstOne, .int f_at, .int f_ends, .ref q_read, .int f_coverMany, .ref q_coverSets, .ref q_picks, .ref q_covered, .ref q_takenThreads, .int f_circleMany, .int f_circleOdd, .int f_circleLongest])), (q_s, .inl (cI, 65, .inl f_s)), (q_past, .inl (cI, 260, .inl f_past)), (q_slot, .inl (cI, 65, .inl f_slot)), (q_text, .inl (cC, 60, .inl f_text)), (q_tries, .inl (cI, 22, .inl f_tries)), (q_firstOne, .inl (cI, 21, .inl f_firstOne)), (q_read, .inl (cI, 32, .inl f_read)), (q_coverSets, .inl (cI, 256, .inl f_coverSets)), (q_picks, .inl (cI, 8, .inl f_picks)), (q_covered, .inl (cI, 8, .inl f_covered)), (q_takenThreads, .inl (cI, 8, .inl f_takenThreads))]) (va_runV (As := [.int a1]) (rest := []) ⟨hx, hb, hml, hown, hts⟩ (k_X7_isKnot l D cI cC cN N q q_s q_past q_slot q_text q_tries q_firstOne q_read q_coverSets q_picks q_covered q_takenThreads s.heap.size f_s f_past f_states f_slot f_isKept f_text f_length f_tries f_firstOne f_at f_ends f_read f_coverMany f_coverSets f_picks f_covered f_takenThreads f_circleMany f_circleOdd f_circleLongest a1 r_1 h_2) (cwV 1 hts gX7_knot_X7_isKnot rfl rfl rfl (by decide +kernel) ⟨Nat.le_of_ble_eq_true rfl, Nat.le_of_ble_eq_true rfl⟩) ⟨g_blind, va_recv (D := D) (ci := 6) (q0 := 0) hK hP rfl rfl, g_pre (hP.sub [0, 1, 2, 3, 4, 5, 6, 7, 8, 9, 10, 11] rfl) hK hN (hD.sub [0, 1, 2, 3, 4, 5, 6, 7, 8, 9, 10, 11] (by decide) rfl)⟩ rfl rfl hl.1 rfl (lv_room (Nat.le_of_ble_eq_true rfl)) dX7_knot_2 ⟨Nat.zero_le _, Nat.zero_le _⟩) hP hD hS hA [0, 1, 2, 3, 4, 5, 6, 7, 8, 9, 10, 11] [] rfl rfl (by decide) (by decide) rfl (fun H locs hP hD hS => ?_)
  refine lv_if_ne (tgt := 10) hx hb dX7_knot_5 (by decide) (fun hc => ?_) (fun hc => ?_)
  · have hm := if_f _ hc hm
    refine lv_iload_n hx hb dX7_knot_10 rfl (lv_at hl 2 rfl) ?_
    by_cases hc : Int32.toInt a2 < 0 ∨ 4 < Int32.toInt a2
    · have hm := if_t _ hc hm
      refine lv_tableOut (tgt := 86) hx hb dX7_knot_11 hc (by decide) ?_
      refine lv_bipush (v := (-2)) hx hb dX7_knot_86 (by decide) ?_
      have z1 := so_use hm
      subst z1
      exact hret _ _ _ _ _ dX7_knot_88 rfl rfl hP hD hS
    have hm := if_f _ hc hm
    by_cases hc : a2 = 0
    · have hm := if_t _ hc hm
      refine lv_tableIn (off := 33) (tgt := 44) hx hb dX7_knot_11 (by rw [hc]; decide) (by rw [hc]; decide) (by rw [hc]; rfl) (by decide) ?_
      refine lv_aload_n hx hb dX7_knot_44 rfl (lv_at hl 0 rfl) ?_
      refine lv_iload_n hx hb dX7_knot_45 rfl (lv_at hl 1 rfl) ?_
      obtain ⟨r_3, h_4, hm⟩ := bind_use hm
      refine g_ki (wc := [(q, .inr (6, [.ref q_s, .ref q_past, .int f_states, .ref q_slot, .int f_isKept, .ref q_text, .int f_length, .ref q_tries, .ref q_firstOne, .int f_at, .int f_ends, .ref q_read, .int f_coverMany, .ref q_coverSets, .ref q_picks, .ref q_covered, .ref q_takenThreads, .int f_circleMany, .int f_circleOdd, .int f_circleLongest])), (q_s, .inl (cI, 65, .inl f_s)), (q_past, .inl (cI, 260, .inl f_past)), (q_slot, .inl (cI, 65, .inl f_slot)), (q_text, .inl (cC, 60, .inl f_text)), (q_tries, .inl (cI, 22, .inl f_tries)), (q_firstOne, .inl (cI, 21, .inl f_firstOne)), (q_read, .inl (cI, 32, .inl f_read)), (q_coverSets, .inl (cI, 256, .inl f_coverSets)), (q_picks, .inl (cI, 8, .inl f_picks)), (q_covered, .inl (cI, 8, .inl f_covered)), (q_takenThreads, .inl (cI, 8, .inl f_takenThreads))]) (wr := []) (w2 := [(q, .inr (6, [.ref q_s, .ref q_past, .int f_states, .ref q_slot, .int f_isKept, .ref q_text, .int f_length, .ref q_tries, .ref q_firstOne, .int f_at, .int f_ends, .ref q_read, .int f_coverMany, .ref q_coverSets, .ref q_picks, .ref q_covered, .ref q_takenThreads, .int f_circleMany, .int f_circleOdd, .int f_circleLongest])), (q_s, .inl (cI, 65, .inl f_s)), (q_past, .inl (cI, 260, .inl f_past)), (q_slot, .inl (cI, 65, .inl f_slot)), (q_text, .inl (cC, 60, .inl f_text)), (q_tries, .inl (cI, 22, .inl f_tries)), (q_firstOne, .inl (cI, 21, .inl f_firstOne)), (q_read, .inl (cI, 32, .inl f_read)), (q_coverSets, .inl (cI, 256, .inl f_coverSets)), (q_picks, .inl (cI, 8, .inl f_picks)), (q_covered, .inl (cI, 8, .inl f_covered)), (q_takenThreads, .inl (cI, 8, .inl f_takenThreads))]) (va_runV (As := [.int a1]) (rest := []) ⟨hx, hb, hml, hown, hts⟩ (k_X7_threadsOf l D cI cC cN N q q_s q_past q_slot q_text q_tries q_firstOne q_read q_coverSets q_picks q_covered q_takenThreads H.size f_s f_past f_states f_slot f_isKept f_text f_length f_tries f_firstOne f_at f_ends f_read f_coverMany f_coverSets f_picks f_covered f_takenThreads f_circleMany f_circleOdd f_circleLongest a1 r_3 h_4) (cwV 1 hts gX7_knot_X7_threadsOf rfl rfl rfl (by decide +kernel) ⟨Nat.le_of_ble_eq_true rfl, Nat.le_of_ble_eq_true rfl⟩) ⟨g_blind, va_recv (D := D) (ci := 6) (q0 := 0) hK hP rfl rfl, g_pre (hP.sub [0, 1, 2, 3, 4, 5, 6, 7, 8, 9, 10, 11] rfl) hK hN (hD.sub [0, 1, 2, 3, 4, 5, 6, 7, 8, 9, 10, 11] (by decide) rfl)⟩ rfl rfl hl.1 rfl (lv_room (Nat.le_of_ble_eq_true rfl)) dX7_knot_46 ⟨Nat.zero_le _, Nat.zero_le _⟩) hP hD hS hA [0, 1, 2, 3, 4, 5, 6, 7, 8, 9, 10, 11] [] rfl rfl (by decide) (by decide) rfl (fun H locs hP hD hS => ?_)
      have z1 := so_use hm
      subst z1
      exact hret _ _ _ _ _ dX7_knot_49 rfl rfl hP hD hS
    have hm := if_f _ hc hm
    by_cases hc : a2 = 1
    · have hm := if_t _ hc hm
      refine lv_tableIn (off := 39) (tgt := 50) hx hb dX7_knot_11 (by rw [hc]; decide) (by rw [hc]; decide) (by rw [hc]; rfl) (by decide) ?_
      refine lv_aload_n hx hb dX7_knot_50 rfl (lv_at hl 0 rfl) ?_
      refine lv_iload_n hx hb dX7_knot_51 rfl (lv_at hl 1 rfl) ?_
      obtain ⟨r_5, h_6, hm⟩ := bind_use hm
      refine g_ki (wc := [(q, .inr (6, [.ref q_s, .ref q_past, .int f_states, .ref q_slot, .int f_isKept, .ref q_text, .int f_length, .ref q_tries, .ref q_firstOne, .int f_at, .int f_ends, .ref q_read, .int f_coverMany, .ref q_coverSets, .ref q_picks, .ref q_covered, .ref q_takenThreads, .int f_circleMany, .int f_circleOdd, .int f_circleLongest])), (q_s, .inl (cI, 65, .inl f_s)), (q_past, .inl (cI, 260, .inl f_past)), (q_slot, .inl (cI, 65, .inl f_slot)), (q_text, .inl (cC, 60, .inl f_text)), (q_tries, .inl (cI, 22, .inl f_tries)), (q_firstOne, .inl (cI, 21, .inl f_firstOne)), (q_read, .inl (cI, 32, .inl f_read)), (q_coverSets, .inl (cI, 256, .inl f_coverSets)), (q_picks, .inl (cI, 8, .inl f_picks)), (q_covered, .inl (cI, 8, .inl f_covered)), (q_takenThreads, .inl (cI, 8, .inl f_takenThreads))]) (wr := []) (w2 := [(q, .inr (6, [.ref q_s, .ref q_past, .int f_states, .ref q_slot, .int f_isKept, .ref q_text, .int f_length, .ref q_tries, .ref q_firstOne, .int f_at, .int f_ends, .ref q_read, .int f_coverMany, .ref q_coverSets, .ref q_picks, .ref q_covered, .ref q_takenThreads, .int f_circleMany, .int f_circleOdd, .int f_circleLongest])), (q_s, .inl (cI, 65, .inl f_s)), (q_past, .inl (cI, 260, .inl f_past)), (q_slot, .inl (cI, 65, .inl f_slot)), (q_text, .inl (cC, 60, .inl f_text)), (q_tries, .inl (cI, 22, .inl f_tries)), (q_firstOne, .inl (cI, 21, .inl f_firstOne)), (q_read, .inl (cI, 32, .inl f_read)), (q_coverSets, .inl (cI, 256, .inl f_coverSets)), (q_picks, .inl (cI, 8, .inl f_picks)), (q_covered, .inl (cI, 8, .inl f_covered)), (q_takenThreads, .inl (cI, 8, .inl f_takenThreads))]) (va_runV (As := [.int a1]) (rest := []) ⟨hx, hb, hml, hown, hts⟩ (k_X7_neighbours l D cI cC cN N q q_s q_past q_slot q_text q_tries q_firstOne q_read q_coverSets q_picks q_covered q_takenThreads H.size f_s f_past f_states f_slot f_isKept f_text f_length f_tries f_firstOne f_at f_ends f_read f_coverMany f_coverSets f_picks f_covered f_takenThreads f_circleMany f_circleOdd f_circleLongest a1 r_5 h_6) (cwV 1 hts gX7_knot_X7_neighbours rfl rfl rfl (by decide +kernel) ⟨Nat.le_of_ble_eq_true rfl, Nat.le_of_ble_eq_true rfl⟩) ⟨g_blind, va_recv (D := D) (ci := 6) (q0 := 0) hK hP rfl rfl, g_pre (hP.sub [0, 1, 2, 3, 4, 5, 6, 7, 8, 9, 10, 11] rfl) hK hN (hD.sub [0, 1, 2, 3, 4, 5, 6, 7, 8, 9, 10, 11] (by decide) rfl)⟩ rfl rfl hl.1 rfl (lv_room (Nat.le_of_ble_eq_true rfl)) dX7_knot_52 ⟨Nat.zero_le _, Nat.zero_le _⟩) hP hD hS hA [0, 1, 2, 3, 4, 5, 6, 7, 8, 9, 10, 11] [] rfl rfl (by decide) (by decide) rfl (fun H locs hP hD hS => ?_)
      have z1 := so_use hm
      subst z1
      exact hret _ _ _ _ _ dX7_knot_55 rfl rfl hP hD hS
    have hm := if_f _ hc hm
    by_cases hc : a2 = 2
    · have hm := if_t _ hc hm
      refine lv_tableIn (off := 45) (tgt := 56) hx hb dX7_knot_11 (by rw [hc]; decide) (by rw [hc]; decide) (by rw [hc]; rfl) (by decide) ?_
      refine lv_aload_n hx hb dX7_knot_56 rfl (lv_at hl 0 rfl) ?_
      refine lv_iload_n hx hb dX7_knot_57 rfl (lv_at hl 1 rfl) ?_
      obtain ⟨r_7, h_8, hm⟩ := bind_use hm
      refine g_ki (wc := [(q, .inr (6, [.ref q_s, .ref q_past, .int f_states, .ref q_slot, .int f_isKept, .ref q_text, .int f_length, .ref q_tries, .ref q_firstOne, .int f_at, .int f_ends, .ref q_read, .int f_coverMany, .ref q_coverSets, .ref q_picks, .ref q_covered, .ref q_takenThreads, .int f_circleMany, .int f_circleOdd, .int f_circleLongest])), (q_s, .inl (cI, 65, .inl f_s)), (q_past, .inl (cI, 260, .inl f_past)), (q_slot, .inl (cI, 65, .inl f_slot)), (q_text, .inl (cC, 60, .inl f_text)), (q_tries, .inl (cI, 22, .inl f_tries)), (q_firstOne, .inl (cI, 21, .inl f_firstOne)), (q_read, .inl (cI, 32, .inl f_read)), (q_coverSets, .inl (cI, 256, .inl f_coverSets)), (q_picks, .inl (cI, 8, .inl f_picks)), (q_covered, .inl (cI, 8, .inl f_covered)), (q_takenThreads, .inl (cI, 8, .inl f_takenThreads))]) (wr := []) (w2 := [(q, .inr (6, [.ref q_s, .ref q_past, .int f_states, .ref q_slot, .int f_isKept, .ref q_text, .int f_length, .ref q_tries, .ref q_firstOne, .int f_at, .int f_ends, .ref q_read, .int f_coverMany, .ref q_coverSets, .ref q_picks, .ref q_covered, .ref q_takenThreads, .int f_circleMany, .int f_circleOdd, .int f_circleLongest])), (q_s, .inl (cI, 65, .inl f_s)), (q_past, .inl (cI, 260, .inl f_past)), (q_slot, .inl (cI, 65, .inl f_slot)), (q_text, .inl (cC, 60, .inl f_text)), (q_tries, .inl (cI, 22, .inl f_tries)), (q_firstOne, .inl (cI, 21, .inl f_firstOne)), (q_read, .inl (cI, 32, .inl f_read)), (q_coverSets, .inl (cI, 256, .inl f_coverSets)), (q_picks, .inl (cI, 8, .inl f_picks)), (q_covered, .inl (cI, 8, .inl f_covered)), (q_takenThreads, .inl (cI, 8, .inl f_takenThreads))]) (va_runV (As := [.int a1]) (rest := []) ⟨hx, hb, hml, hown, hts⟩ (k_X7_isWrong l D cI cC cN N q q_s q_past q_slot q_text q_tries q_firstOne q_read q_coverSets q_picks q_covered q_takenThreads H.size f_s f_past f_states f_slot f_isKept f_text f_length f_tries f_firstOne f_at f_ends f_read f_coverMany f_coverSets f_picks f_covered f_takenThreads f_circleMany f_circleOdd f_circleLongest a1 r_7 h_8) (cwV 1 hts gX7_knot_X7_isWrong rfl rfl rfl (by decide +kernel) ⟨Nat.le_of_ble_eq_true rfl, Nat.le_of_ble_eq_true rfl⟩) ⟨g_blind, va_recv (D := D) (ci := 6) (q0 := 0) hK hP rfl rfl, g_pre (hP.sub [0, 1, 2, 3, 4, 5, 6, 7, 8, 9, 10, 11] rfl) hK hN (hD.sub [0, 1, 2, 3, 4, 5, 6, 7, 8, 9, 10, 11] (by decide) rfl)⟩ rfl rfl hl.1 rfl (lv_room (Nat.le_of_ble_eq_true rfl)) dX7_knot_58 ⟨Nat.zero_le _, Nat.zero_le _⟩) hP hD hS hA [0, 1, 2, 3, 4, 5, 6, 7, 8, 9, 10, 11] [] rfl rfl (by decide) (by decide) rfl (fun H locs hP hD hS => ?_)
      refine lv_if_eq (tgt := 68) hx hb dX7_knot_61 (by decide) (fun hc => ?_) (fun hc => ?_)
      · have hm := if_t _ hc hm
        refine lv_iconst (v := 0) hx hb dX7_knot_68 (by decide) ?_
        have z1 := so_use hm
        subst z1
        exact hret _ _ _ _ _ dX7_knot_69 rfl rfl hP hD hS
      · have hm := if_f _ hc hm
        refine lv_iconst (v := 1) hx hb dX7_knot_64 (by decide) ?_
        refine lv_goto (tgt := 69) hx hb dX7_knot_65 (by decide) ?_
        have z1 := so_use hm
        subst z1
        exact hret _ _ _ _ _ dX7_knot_69 rfl rfl hP hD hS
    have hm := if_f _ hc hm
    by_cases hc : a2 = 3
    · have hm := if_t _ hc hm
      refine lv_tableIn (off := 59) (tgt := 70) hx hb dX7_knot_11 (by rw [hc]; decide) (by rw [hc]; decide) (by rw [hc]; rfl) (by decide) ?_
      refine lv_aload_n hx hb dX7_knot_70 rfl (lv_at hl 0 rfl) ?_
      refine lv_iload_n hx hb dX7_knot_71 rfl (lv_at hl 1 rfl) ?_
      obtain ⟨r_9, h_10, hm⟩ := bind_use hm
      refine g_ki (wc := [(q, .inr (6, [.ref q_s, .ref q_past, .int f_states, .ref q_slot, .int f_isKept, .ref q_text, .int f_length, .ref q_tries, .ref q_firstOne, .int f_at, .int f_ends, .ref q_read, .int f_coverMany, .ref q_coverSets, .ref q_picks, .ref q_covered, .ref q_takenThreads, .int f_circleMany, .int f_circleOdd, .int f_circleLongest])), (q_s, .inl (cI, 65, .inl f_s)), (q_past, .inl (cI, 260, .inl f_past)), (q_slot, .inl (cI, 65, .inl f_slot)), (q_text, .inl (cC, 60, .inl f_text)), (q_tries, .inl (cI, 22, .inl f_tries)), (q_firstOne, .inl (cI, 21, .inl f_firstOne)), (q_read, .inl (cI, 32, .inl f_read)), (q_coverSets, .inl (cI, 256, .inl f_coverSets)), (q_picks, .inl (cI, 8, .inl f_picks)), (q_covered, .inl (cI, 8, .inl f_covered)), (q_takenThreads, .inl (cI, 8, .inl f_takenThreads))]) (wr := []) (w2 := [(q, .inr (6, [.ref q_s, .ref q_past, .int f_states, .ref q_slot, .int f_isKept, .ref q_text, .int f_length, .ref q_tries, .ref q_firstOne, .int f_at, .int f_ends, .ref q_read, .int f_coverMany, .ref q_coverSets, .ref q_picks, .ref q_covered, .ref q_takenThreads, .int f_circleMany, .int f_circleOdd, .int f_circleLongest])), (q_s, .inl (cI, 65, .inl f_s)), (q_past, .inl (cI, 260, .inl f_past)), (q_slot, .inl (cI, 65, .inl f_slot)), (q_text, .inl (cC, 60, .inl f_text)), (q_tries, .inl (cI, 22, .inl f_tries)), (q_firstOne, .inl (cI, 21, .inl f_firstOne)), (q_read, .inl (cI, 32, .inl f_read)), (q_coverSets, .inl (cI, 256, .inl f_coverSets)), (q_picks, .inl (cI, 8, .inl f_picks)), (q_covered, .inl (cI, 8, .inl f_covered)), (q_takenThreads, .inl (cI, 8, .inl f_takenThreads))]) (va_runV (As := [.int a1]) (rest := []) ⟨hx, hb, hml, hown, hts⟩ (k_X7_partOf l D cI cC cN N q q_s q_past q_slot q_text q_tries q_firstOne q_read q_coverSets q_picks q_covered q_takenThreads H.size f_s f_past f_states f_slot f_isKept f_text f_length f_tries f_firstOne f_at f_ends f_read f_coverMany f_coverSets f_picks f_covered f_takenThreads f_circleMany f_circleOdd f_circleLongest a1 r_9 h_10) (cwV 1 hts gX7_knot_X7_partOf rfl rfl rfl (by decide +kernel) ⟨Nat.le_of_ble_eq_true rfl, Nat.le_of_ble_eq_true rfl⟩) ⟨g_blind, va_recv (D := D) (ci := 6) (q0 := 0) hK hP rfl rfl, g_pre (hP.sub [0, 1, 2, 3, 4, 5, 6, 7, 8, 9, 10, 11] rfl) hK hN (hD.sub [0, 1, 2, 3, 4, 5, 6, 7, 8, 9, 10, 11] (by decide) rfl)⟩ rfl rfl hl.1 rfl (lv_room (Nat.le_of_ble_eq_true rfl)) dX7_knot_72 ⟨Nat.zero_le _, Nat.zero_le _⟩) hP hD hS hA [0, 1, 2, 3, 4, 5, 6, 7, 8, 9, 10, 11] [] rfl rfl (by decide) (by decide) rfl (fun H locs hP hD hS => ?_)
      have z1 := so_use hm
      subst z1
      exact hret _ _ _ _ _ dX7_knot_75 rfl rfl hP hD hS
    have hm := if_f _ hc hm
    by_cases hc : a2 = 4
    · have hm := if_t _ hc hm
      refine lv_tableIn (off := 65) (tgt := 76) hx hb dX7_knot_11 (by rw [hc]; decide) (by rw [hc]; decide) (by rw [hc]; rfl) (by decide) ?_
      refine lv_aload_n hx hb dX7_knot_76 rfl (lv_at hl 0 rfl) ?_
      refine lv_aload_n hx hb dX7_knot_77 rfl (lv_at hl 0 rfl) ?_
      refine lv_iload_n hx hb dX7_knot_78 rfl (lv_at hl 1 rfl) ?_
      obtain ⟨r_11, h_12, hm⟩ := bind_use hm
      refine g_ki (wc := [(q, .inr (6, [.ref q_s, .ref q_past, .int f_states, .ref q_slot, .int f_isKept, .ref q_text, .int f_length, .ref q_tries, .ref q_firstOne, .int f_at, .int f_ends, .ref q_read, .int f_coverMany, .ref q_coverSets, .ref q_picks, .ref q_covered, .ref q_takenThreads, .int f_circleMany, .int f_circleOdd, .int f_circleLongest])), (q_s, .inl (cI, 65, .inl f_s)), (q_past, .inl (cI, 260, .inl f_past)), (q_slot, .inl (cI, 65, .inl f_slot)), (q_text, .inl (cC, 60, .inl f_text)), (q_tries, .inl (cI, 22, .inl f_tries)), (q_firstOne, .inl (cI, 21, .inl f_firstOne)), (q_read, .inl (cI, 32, .inl f_read)), (q_coverSets, .inl (cI, 256, .inl f_coverSets)), (q_picks, .inl (cI, 8, .inl f_picks)), (q_covered, .inl (cI, 8, .inl f_covered)), (q_takenThreads, .inl (cI, 8, .inl f_takenThreads))]) (wr := []) (w2 := [(q, .inr (6, [.ref q_s, .ref q_past, .int f_states, .ref q_slot, .int f_isKept, .ref q_text, .int f_length, .ref q_tries, .ref q_firstOne, .int f_at, .int f_ends, .ref q_read, .int f_coverMany, .ref q_coverSets, .ref q_picks, .ref q_covered, .ref q_takenThreads, .int f_circleMany, .int f_circleOdd, .int f_circleLongest])), (q_s, .inl (cI, 65, .inl f_s)), (q_past, .inl (cI, 260, .inl f_past)), (q_slot, .inl (cI, 65, .inl f_slot)), (q_text, .inl (cC, 60, .inl f_text)), (q_tries, .inl (cI, 22, .inl f_tries)), (q_firstOne, .inl (cI, 21, .inl f_firstOne)), (q_read, .inl (cI, 32, .inl f_read)), (q_coverSets, .inl (cI, 256, .inl f_coverSets)), (q_picks, .inl (cI, 8, .inl f_picks)), (q_covered, .inl (cI, 8, .inl f_covered)), (q_takenThreads, .inl (cI, 8, .inl f_takenThreads))]) (va_runV (As := [.int a1]) (rest := [.ref q]) ⟨hx, hb, hml, hown, hts⟩ (k_X7_threadsOf l D cI cC cN N q q_s q_past q_slot q_text q_tries q_firstOne q_read q_coverSets q_picks q_covered q_takenThreads H.size f_s f_past f_states f_slot f_isKept f_text f_length f_tries f_firstOne f_at f_ends f_read f_coverMany f_coverSets f_picks f_covered f_takenThreads f_circleMany f_circleOdd f_circleLongest a1 r_11 h_12) (cwV 1 hts gX7_knot_X7_threadsOf rfl rfl rfl (by decide +kernel) ⟨Nat.le_of_ble_eq_true rfl, Nat.le_of_ble_eq_true rfl⟩) ⟨g_blind, va_recv (D := D) (ci := 6) (q0 := 0) hK hP rfl rfl, g_pre (hP.sub [0, 1, 2, 3, 4, 5, 6, 7, 8, 9, 10, 11] rfl) hK hN (hD.sub [0, 1, 2, 3, 4, 5, 6, 7, 8, 9, 10, 11] (by decide) rfl)⟩ rfl rfl hl.1 rfl (lv_room (Nat.le_of_ble_eq_true rfl)) dX7_knot_79 ⟨Nat.zero_le _, Nat.zero_le _⟩) hP hD hS hA [0, 1, 2, 3, 4, 5, 6, 7, 8, 9, 10, 11] [] rfl rfl (by decide) (by decide) rfl (fun H locs hP hD hS => ?_)
      obtain ⟨r_13, h_14, hm⟩ := bind_use hm
      refine g_ki (wc := [(q, .inr (6, [.ref q_s, .ref q_past, .int f_states, .ref q_slot, .int f_isKept, .ref q_text, .int f_length, .ref q_tries, .ref q_firstOne, .int f_at, .int f_ends, .ref q_read, .int f_coverMany, .ref q_coverSets, .ref q_picks, .ref q_covered, .ref q_takenThreads, .int f_circleMany, .int f_circleOdd, .int f_circleLongest])), (q_s, .inl (cI, 65, .inl f_s)), (q_past, .inl (cI, 260, .inl f_past)), (q_slot, .inl (cI, 65, .inl f_slot)), (q_text, .inl (cC, 60, .inl f_text)), (q_tries, .inl (cI, 22, .inl f_tries)), (q_firstOne, .inl (cI, 21, .inl f_firstOne)), (q_read, .inl (cI, 32, .inl f_read)), (q_coverSets, .inl (cI, 256, .inl f_coverSets)), (q_picks, .inl (cI, 8, .inl f_picks)), (q_covered, .inl (cI, 8, .inl f_covered)), (q_takenThreads, .inl (cI, 8, .inl f_takenThreads))]) (wr := []) (w2 := [(q, .inr (6, [.ref q_s, .ref q_past, .int f_states, .ref q_slot, .int f_isKept, .ref q_text, .int f_length, .ref q_tries, .ref q_firstOne, .int f_at, .int f_ends, .ref q_read, .int f_coverMany, .ref q_coverSets, .ref q_picks, .ref q_covered, .ref q_takenThreads, .int f_circleMany, .int f_circleOdd, .int f_circleLongest])), (q_s, .inl (cI, 65, .inl f_s)), (q_past, .inl (cI, 260, .inl f_past)), (q_slot, .inl (cI, 65, .inl f_slot)), (q_text, .inl (cC, 60, .inl f_text)), (q_tries, .inl (cI, 22, .inl f_tries)), (q_firstOne, .inl (cI, 21, .inl f_firstOne)), (q_read, .inl (cI, 32, .inl f_read)), (q_coverSets, .inl (cI, 256, .inl f_coverSets)), (q_picks, .inl (cI, 8, .inl f_picks)), (q_covered, .inl (cI, 8, .inl f_covered)), (q_takenThreads, .inl (cI, 8, .inl f_takenThreads))]) (va_runV (As := [.int r_11]) (rest := []) ⟨hx, hb, hml, hown, hts⟩ (k_X7_shortest l D cI cC cN N q q_s q_past q_slot q_text q_tries q_firstOne q_read q_coverSets q_picks q_covered q_takenThreads H.size f_s f_past f_states f_slot f_isKept f_text f_length f_tries f_firstOne f_at f_ends f_read f_coverMany f_coverSets f_picks f_covered f_takenThreads f_circleMany f_circleOdd f_circleLongest r_11 r_13 h_14) (cwV 1 hts gX7_knot_X7_shortest rfl rfl rfl (by decide +kernel) ⟨Nat.le_of_ble_eq_true rfl, Nat.le_of_ble_eq_true rfl⟩) ⟨g_blind, va_recv (D := D) (ci := 6) (q0 := 0) hK hP rfl rfl, g_pre (hP.sub [0, 1, 2, 3, 4, 5, 6, 7, 8, 9, 10, 11] rfl) hK hN (hD.sub [0, 1, 2, 3, 4, 5, 6, 7, 8, 9, 10, 11] (by decide) rfl)⟩ rfl rfl hl.1 rfl (lv_room (Nat.le_of_ble_eq_true rfl)) dX7_knot_82 ⟨Nat.zero_le _, Nat.zero_le _⟩) hP hD hS hA [0, 1, 2, 3, 4, 5, 6, 7, 8, 9, 10, 11] [] rfl rfl (by decide) (by decide) rfl (fun H locs hP hD hS => ?_)
      have z1 := so_use hm
      subst z1
      exact hret _ _ _ _ _ dX7_knot_85 rfl rfl hP hD hS
    have hm := if_f _ hc hm
    exact no_use hm
  · have hm := if_t _ hc hm
    refine lv_iconst (v := (-1)) hx hb dX7_knot_8 (by decide) ?_
    have z1 := so_use hm
    subst z1
    exact hret _ _ _ _ _ dX7_knot_9 rfl rfl hP hD hS
abbrev rX7_thread : Room := { frames := 5, cells := 0, slots := 0, locals := 115 }
set_option maxHeartbeats 4000000 in
set_option maxRecDepth 100000 in
theorem k_X7_thread (l : Launch) (D : va_G) (cI cC cN : ClassId) (N : Nat) (q : Nat) (q_s : Nat) (q_past : Nat) (q_slot : Nat) (q_text : Nat) (q_tries : Nat) (q_firstOne : Nat) (q_read : Nat) (q_coverSets : Nat) (q_picks : Nat) (q_covered : Nat) (q_takenThreads : Nat) (sz : Nat) (f_s : Nat → Int32) (f_past : Nat → Int32) (f_states : Int32) (f_slot : Nat → Int32) (f_isKept : Int32) (f_text : Nat → Int32) (f_length : Int32) (f_tries : Nat → Int32) (f_firstOne : Nat → Int32) (f_at : Int32) (f_ends : Int32) (f_read : Nat → Int32) (f_coverMany : Int32) (f_coverSets : Nat → Int32) (f_picks : Nat → Int32) (f_covered : Nat → Int32) (f_takenThreads : Nat → Int32) (f_circleMany : Int32) (f_circleOdd : Int32) (f_circleLongest : Int32) (a1 : Int32) (a2 : Int32) (r : Int32) (f_coverMany' : Int32) (f_coverSets' : Nat → Int32) (f_picks' : Nat → Int32) (f_covered' : Nat → Int32) (f_takenThreads' : Nat → Int32) (hm : m_X7_thread N f_s f_coverMany f_coverSets f_picks f_covered f_takenThreads a1 a2 = some (r, f_coverMany', f_coverSets', f_picks', f_covered', f_takenThreads')) : Met l yX7_thread wsX7_thread (rX7_thread) (gPc D (tysG cI cC cN) [.ref q, .int a1, .int a2] [(q, .inr (6, [.ref q_s, .ref q_past, .int f_states, .ref q_slot, .int f_isKept, .ref q_text, .int f_length, .ref q_tries, .ref q_firstOne, .int f_at, .int f_ends, .ref q_read, .int f_coverMany, .ref q_coverSets, .ref q_picks, .ref q_covered, .ref q_takenThreads, .int f_circleMany, .int f_circleOdd, .int f_circleLongest])), (q_s, .inl (cI, 65, .inl f_s)), (q_past, .inl (cI, 260, .inl f_past)), (q_slot, .inl (cI, 65, .inl f_slot)), (q_text, .inl (cC, 60, .inl f_text)), (q_tries, .inl (cI, 22, .inl f_tries)), (q_firstOne, .inl (cI, 21, .inl f_firstOne)), (q_read, .inl (cI, 32, .inl f_read)), (q_coverSets, .inl (cI, 256, .inl f_coverSets)), (q_picks, .inl (cI, 8, .inl f_picks)), (q_covered, .inl (cI, 8, .inl f_covered)), (q_takenThreads, .inl (cI, 8, .inl f_takenThreads))] sz) (gQi D (tysG cI cC cN) (va_A [(q, .inr (6, [.ref q_s, .ref q_past, .int f_states, .ref q_slot, .int f_isKept, .ref q_text, .int f_length, .ref q_tries, .ref q_firstOne, .int f_at, .int f_ends, .ref q_read, .int f_coverMany, .ref q_coverSets, .ref q_picks, .ref q_covered, .ref q_takenThreads, .int f_circleMany, .int f_circleOdd, .int f_circleLongest])), (q_s, .inl (cI, 65, .inl f_s)), (q_past, .inl (cI, 260, .inl f_past)), (q_slot, .inl (cI, 65, .inl f_slot)), (q_text, .inl (cC, 60, .inl f_text)), (q_tries, .inl (cI, 22, .inl f_tries)), (q_firstOne, .inl (cI, 21, .inl f_firstOne)), (q_read, .inl (cI, 32, .inl f_read)), (q_coverSets, .inl (cI, 256, .inl f_coverSets)), (q_picks, .inl (cI, 8, .inl f_picks)), (q_covered, .inl (cI, 8, .inl f_covered)), (q_takenThreads, .inl (cI, 8, .inl f_takenThreads))] sz) [(q, .inr (6, [.ref q_s, .ref q_past, .int f_states, .ref q_slot, .int f_isKept, .ref q_text, .int f_length, .ref q_tries, .ref q_firstOne, .int f_at, .int f_ends, .ref q_read, .int f_coverMany', .ref q_coverSets, .ref q_picks, .ref q_covered, .ref q_takenThreads, .int f_circleMany, .int f_circleOdd, .int f_circleLongest])), (q_s, .inl (cI, 65, .inl f_s)), (q_past, .inl (cI, 260, .inl f_past)), (q_slot, .inl (cI, 65, .inl f_slot)), (q_text, .inl (cC, 60, .inl f_text)), (q_tries, .inl (cI, 22, .inl f_tries)), (q_firstOne, .inl (cI, 21, .inl f_firstOne)), (q_read, .inl (cI, 32, .inl f_read)), (q_coverSets, .inl (cI, 256, .inl f_coverSets')), (q_picks, .inl (cI, 8, .inl f_picks')), (q_covered, .inl (cI, 8, .inl f_covered')), (q_takenThreads, .inl (cI, 8, .inl f_takenThreads'))] r) 0 0 (va_A [(q, .inr (6, [.ref q_s, .ref q_past, .int f_states, .ref q_slot, .int f_isKept, .ref q_text, .int f_length, .ref q_tries, .ref q_firstOne, .int f_at, .int f_ends, .ref q_read, .int f_coverMany, .ref q_coverSets, .ref q_picks, .ref q_covered, .ref q_takenThreads, .int f_circleMany, .int f_circleOdd, .int f_circleLongest])), (q_s, .inl (cI, 65, .inl f_s)), (q_past, .inl (cI, 260, .inl f_past)), (q_slot, .inl (cI, 65, .inl f_slot)), (q_text, .inl (cC, 60, .inl f_text)), (q_tries, .inl (cI, 22, .inl f_tries)), (q_firstOne, .inl (cI, 21, .inl f_firstOne)), (q_read, .inl (cI, 32, .inl f_read)), (q_coverSets, .inl (cI, 256, .inl f_coverSets)), (q_picks, .inl (cI, 8, .inl f_picks)), (q_covered, .inl (cI, 8, .inl f_covered)), (q_takenThreads, .inl (cI, 8, .inl f_takenThreads))] sz) := by
  unfold m_X7_thread at hm
  refine g_openI (cc := cX7_thread) (maxL := 3) (own := RX7) (by decide) rfl rfl (Nat.le_of_ble_eq_true rfl) ?_
  intro p e s m args below meth c A Q hx hb hml hown hts hP hK hN hD hA hret ls hl
  have hS : va_S A s.heap s.heap [] := va_S.rf
  have hl : lv_has ls 3 [(0, .ref q), (1, .int a1), (2, .int a2)] := hl
  refine lv_aload_n hx hb dX7_thread_0 rfl (lv_at hl 0 rfl) ?_
  refine lv_iload_n hx hb dX7_thread_1 rfl (lv_at hl 1 rfl) ?_
  obtain ⟨r_1, h_2, hm⟩ := bind_use hm
  refine g_ki (wc := [(q, .inr (6, [.ref q_s, .ref q_past, .int f_states, .ref q_slot, .int f_isKept, .ref q_text, .int f_length, .ref q_tries, .ref q_firstOne, .int f_at, .int f_ends, .ref q_read, .int f_coverMany, .ref q_coverSets, .ref q_picks, .ref q_covered, .ref q_takenThreads, .int f_circleMany, .int f_circleOdd, .int f_circleLongest])), (q_s, .inl (cI, 65, .inl f_s)), (q_past, .inl (cI, 260, .inl f_past)), (q_slot, .inl (cI, 65, .inl f_slot)), (q_text, .inl (cC, 60, .inl f_text)), (q_tries, .inl (cI, 22, .inl f_tries)), (q_firstOne, .inl (cI, 21, .inl f_firstOne)), (q_read, .inl (cI, 32, .inl f_read)), (q_coverSets, .inl (cI, 256, .inl f_coverSets)), (q_picks, .inl (cI, 8, .inl f_picks)), (q_covered, .inl (cI, 8, .inl f_covered)), (q_takenThreads, .inl (cI, 8, .inl f_takenThreads))]) (wr := []) (w2 := [(q, .inr (6, [.ref q_s, .ref q_past, .int f_states, .ref q_slot, .int f_isKept, .ref q_text, .int f_length, .ref q_tries, .ref q_firstOne, .int f_at, .int f_ends, .ref q_read, .int f_coverMany, .ref q_coverSets, .ref q_picks, .ref q_covered, .ref q_takenThreads, .int f_circleMany, .int f_circleOdd, .int f_circleLongest])), (q_s, .inl (cI, 65, .inl f_s)), (q_past, .inl (cI, 260, .inl f_past)), (q_slot, .inl (cI, 65, .inl f_slot)), (q_text, .inl (cC, 60, .inl f_text)), (q_tries, .inl (cI, 22, .inl f_tries)), (q_firstOne, .inl (cI, 21, .inl f_firstOne)), (q_read, .inl (cI, 32, .inl f_read)), (q_coverSets, .inl (cI, 256, .inl f_coverSets)), (q_picks, .inl (cI, 8, .inl f_picks)), (q_covered, .inl (cI, 8, .inl f_covered)), (q_takenThreads, .inl (cI, 8, .inl f_takenThreads))]) (va_runV (As := [.int a1]) (rest := []) ⟨hx, hb, hml, hown, hts⟩ (k_X7_isThread l D cI cC cN N q q_s q_past q_slot q_text q_tries q_firstOne q_read q_coverSets q_picks q_covered q_takenThreads s.heap.size f_s f_past f_states f_slot f_isKept f_text f_length f_tries f_firstOne f_at f_ends f_read f_coverMany f_coverSets f_picks f_covered f_takenThreads f_circleMany f_circleOdd f_circleLongest a1 r_1 h_2) (cwV 1 hts gX7_thread_X7_isThread rfl rfl rfl (by decide +kernel) ⟨Nat.le_of_ble_eq_true rfl, Nat.le_of_ble_eq_true rfl⟩) ⟨g_blind, va_recv (D := D) (ci := 6) (q0 := 0) hK hP rfl rfl, g_pre (hP.sub [0, 1, 2, 3, 4, 5, 6, 7, 8, 9, 10, 11] rfl) hK hN (hD.sub [0, 1, 2, 3, 4, 5, 6, 7, 8, 9, 10, 11] (by decide) rfl)⟩ rfl rfl hl.1 rfl (lv_room (Nat.le_of_ble_eq_true rfl)) dX7_thread_2 ⟨Nat.zero_le _, Nat.zero_le _⟩) hP hD hS hA [0, 1, 2, 3, 4, 5, 6, 7, 8, 9, 10, 11] [] rfl rfl (by decide) (by decide) rfl (fun H locs hP hD hS => ?_)
  refine lv_if_ne (tgt := 10) hx hb dX7_thread_5 (by decide) (fun hc => ?_) (fun hc => ?_)
  · have hm := if_f _ hc hm
    refine lv_iload_n hx hb dX7_thread_10 rfl (lv_at hl 2 rfl) ?_
    by_cases hc : Int32.toInt a2 < 0 ∨ 5 < Int32.toInt a2
    · have hm := if_t _ hc hm
      refine lv_tableOut (tgt := 112) hx hb dX7_thread_11 hc (by decide) ?_
      refine lv_bipush (v := (-2)) hx hb dX7_thread_112 (by decide) ?_
      have z1 := so_use hm
      obtain ⟨y1, z2⟩ := pr_use z1
      obtain ⟨y2, z3⟩ := pr_use z2
      obtain ⟨y3, z4⟩ := pr_use z3
      obtain ⟨y4, z5⟩ := pr_use z4
      obtain ⟨y5, z6⟩ := pr_use z5
      subst y1
      subst y2
      subst y3
      subst y4
      subst y5
      subst z6
      exact hret _ _ _ _ _ dX7_thread_114 rfl rfl hP hD hS
    have hm := if_f _ hc hm
    by_cases hc : a2 = 0
    · have hm := if_t _ hc hm
      refine lv_tableIn (off := 37) (tgt := 48) hx hb dX7_thread_11 (by rw [hc]; decide) (by rw [hc]; decide) (by rw [hc]; rfl) (by decide) ?_
      refine lv_aload_n hx hb dX7_thread_48 rfl (lv_at hl 0 rfl) ?_
      refine lv_iload_n hx hb dX7_thread_49 rfl (lv_at hl 1 rfl) ?_
      refine lv_iconst (v := 0) hx hb dX7_thread_50 (by decide) ?_
      obtain ⟨r_3, h_4, hm⟩ := bind_use hm
      refine g_ki (wc := [(q, .inr (6, [.ref q_s, .ref q_past, .int f_states, .ref q_slot, .int f_isKept, .ref q_text, .int f_length, .ref q_tries, .ref q_firstOne, .int f_at, .int f_ends, .ref q_read, .int f_coverMany, .ref q_coverSets, .ref q_picks, .ref q_covered, .ref q_takenThreads, .int f_circleMany, .int f_circleOdd, .int f_circleLongest])), (q_s, .inl (cI, 65, .inl f_s)), (q_past, .inl (cI, 260, .inl f_past)), (q_slot, .inl (cI, 65, .inl f_slot)), (q_text, .inl (cC, 60, .inl f_text)), (q_tries, .inl (cI, 22, .inl f_tries)), (q_firstOne, .inl (cI, 21, .inl f_firstOne)), (q_read, .inl (cI, 32, .inl f_read)), (q_coverSets, .inl (cI, 256, .inl f_coverSets)), (q_picks, .inl (cI, 8, .inl f_picks)), (q_covered, .inl (cI, 8, .inl f_covered)), (q_takenThreads, .inl (cI, 8, .inl f_takenThreads))]) (wr := []) (w2 := [(q, .inr (6, [.ref q_s, .ref q_past, .int f_states, .ref q_slot, .int f_isKept, .ref q_text, .int f_length, .ref q_tries, .ref q_firstOne, .int f_at, .int f_ends, .ref q_read, .int f_coverMany, .ref q_coverSets, .ref q_picks, .ref q_covered, .ref q_takenThreads, .int f_circleMany, .int f_circleOdd, .int f_circleLongest])), (q_s, .inl (cI, 65, .inl f_s)), (q_past, .inl (cI, 260, .inl f_past)), (q_slot, .inl (cI, 65, .inl f_slot)), (q_text, .inl (cC, 60, .inl f_text)), (q_tries, .inl (cI, 22, .inl f_tries)), (q_firstOne, .inl (cI, 21, .inl f_firstOne)), (q_read, .inl (cI, 32, .inl f_read)), (q_coverSets, .inl (cI, 256, .inl f_coverSets)), (q_picks, .inl (cI, 8, .inl f_picks)), (q_covered, .inl (cI, 8, .inl f_covered)), (q_takenThreads, .inl (cI, 8, .inl f_takenThreads))]) (va_runV (As := [.int a1, .int 0]) (rest := []) ⟨hx, hb, hml, hown, hts⟩ (k_X7_of l D cI cC cN N q q_s q_past q_slot q_text q_tries q_firstOne q_read q_coverSets q_picks q_covered q_takenThreads H.size f_s f_past f_states f_slot f_isKept f_text f_length f_tries f_firstOne f_at f_ends f_read f_coverMany f_coverSets f_picks f_covered f_takenThreads f_circleMany f_circleOdd f_circleLongest a1 0 r_3 h_4) (cwV 2 hts gX7_thread_X7_of rfl rfl rfl (by decide +kernel) ⟨Nat.le_of_ble_eq_true rfl, Nat.le_of_ble_eq_true rfl⟩) ⟨g_blind, va_recv (D := D) (ci := 6) (q0 := 0) hK hP rfl rfl, g_pre (hP.sub [0, 1, 2, 3, 4, 5, 6, 7, 8, 9, 10, 11] rfl) hK hN (hD.sub [0, 1, 2, 3, 4, 5, 6, 7, 8, 9, 10, 11] (by decide) rfl)⟩ rfl rfl hl.1 rfl (lv_room (Nat.le_of_ble_eq_true rfl)) dX7_thread_51 ⟨Nat.zero_le _, Nat.zero_le _⟩) hP hD hS hA [0, 1, 2, 3, 4, 5, 6, 7, 8, 9, 10, 11] [] rfl rfl (by decide) (by decide) rfl (fun H locs hP hD hS => ?_)
      have z1 := so_use hm
      obtain ⟨y1, z2⟩ := pr_use z1
      obtain ⟨y2, z3⟩ := pr_use z2
      obtain ⟨y3, z4⟩ := pr_use z3
      obtain ⟨y4, z5⟩ := pr_use z4
      obtain ⟨y5, z6⟩ := pr_use z5
      subst y1
      subst y2
      subst y3
      subst y4
      subst y5
      subst z6
      exact hret _ _ _ _ _ dX7_thread_54 rfl rfl hP hD hS
    have hm := if_f _ hc hm
    by_cases hc : a2 = 1
    · have hm := if_t _ hc hm
      refine lv_tableIn (off := 44) (tgt := 55) hx hb dX7_thread_11 (by rw [hc]; decide) (by rw [hc]; decide) (by rw [hc]; rfl) (by decide) ?_
      refine lv_aload_n hx hb dX7_thread_55 rfl (lv_at hl 0 rfl) ?_
      refine lv_iload_n hx hb dX7_thread_56 rfl (lv_at hl 1 rfl) ?_
      refine lv_iconst (v := 1) hx hb dX7_thread_57 (by decide) ?_
      obtain ⟨r_5, h_6, hm⟩ := bind_use hm
      refine g_ki (wc := [(q, .inr (6, [.ref q_s, .ref q_past, .int f_states, .ref q_slot, .int f_isKept, .ref q_text, .int f_length, .ref q_tries, .ref q_firstOne, .int f_at, .int f_ends, .ref q_read, .int f_coverMany, .ref q_coverSets, .ref q_picks, .ref q_covered, .ref q_takenThreads, .int f_circleMany, .int f_circleOdd, .int f_circleLongest])), (q_s, .inl (cI, 65, .inl f_s)), (q_past, .inl (cI, 260, .inl f_past)), (q_slot, .inl (cI, 65, .inl f_slot)), (q_text, .inl (cC, 60, .inl f_text)), (q_tries, .inl (cI, 22, .inl f_tries)), (q_firstOne, .inl (cI, 21, .inl f_firstOne)), (q_read, .inl (cI, 32, .inl f_read)), (q_coverSets, .inl (cI, 256, .inl f_coverSets)), (q_picks, .inl (cI, 8, .inl f_picks)), (q_covered, .inl (cI, 8, .inl f_covered)), (q_takenThreads, .inl (cI, 8, .inl f_takenThreads))]) (wr := []) (w2 := [(q, .inr (6, [.ref q_s, .ref q_past, .int f_states, .ref q_slot, .int f_isKept, .ref q_text, .int f_length, .ref q_tries, .ref q_firstOne, .int f_at, .int f_ends, .ref q_read, .int f_coverMany, .ref q_coverSets, .ref q_picks, .ref q_covered, .ref q_takenThreads, .int f_circleMany, .int f_circleOdd, .int f_circleLongest])), (q_s, .inl (cI, 65, .inl f_s)), (q_past, .inl (cI, 260, .inl f_past)), (q_slot, .inl (cI, 65, .inl f_slot)), (q_text, .inl (cC, 60, .inl f_text)), (q_tries, .inl (cI, 22, .inl f_tries)), (q_firstOne, .inl (cI, 21, .inl f_firstOne)), (q_read, .inl (cI, 32, .inl f_read)), (q_coverSets, .inl (cI, 256, .inl f_coverSets)), (q_picks, .inl (cI, 8, .inl f_picks)), (q_covered, .inl (cI, 8, .inl f_covered)), (q_takenThreads, .inl (cI, 8, .inl f_takenThreads))]) (va_runV (As := [.int a1, .int 1]) (rest := []) ⟨hx, hb, hml, hown, hts⟩ (k_X7_of l D cI cC cN N q q_s q_past q_slot q_text q_tries q_firstOne q_read q_coverSets q_picks q_covered q_takenThreads H.size f_s f_past f_states f_slot f_isKept f_text f_length f_tries f_firstOne f_at f_ends f_read f_coverMany f_coverSets f_picks f_covered f_takenThreads f_circleMany f_circleOdd f_circleLongest a1 1 r_5 h_6) (cwV 2 hts gX7_thread_X7_of rfl rfl rfl (by decide +kernel) ⟨Nat.le_of_ble_eq_true rfl, Nat.le_of_ble_eq_true rfl⟩) ⟨g_blind, va_recv (D := D) (ci := 6) (q0 := 0) hK hP rfl rfl, g_pre (hP.sub [0, 1, 2, 3, 4, 5, 6, 7, 8, 9, 10, 11] rfl) hK hN (hD.sub [0, 1, 2, 3, 4, 5, 6, 7, 8, 9, 10, 11] (by decide) rfl)⟩ rfl rfl hl.1 rfl (lv_room (Nat.le_of_ble_eq_true rfl)) dX7_thread_58 ⟨Nat.zero_le _, Nat.zero_le _⟩) hP hD hS hA [0, 1, 2, 3, 4, 5, 6, 7, 8, 9, 10, 11] [] rfl rfl (by decide) (by decide) rfl (fun H locs hP hD hS => ?_)
      have z1 := so_use hm
      obtain ⟨y1, z2⟩ := pr_use z1
      obtain ⟨y2, z3⟩ := pr_use z2
      obtain ⟨y3, z4⟩ := pr_use z3
      obtain ⟨y4, z5⟩ := pr_use z4
      obtain ⟨y5, z6⟩ := pr_use z5
      subst y1
      subst y2
      subst y3
      subst y4
      subst y5
      subst z6
      exact hret _ _ _ _ _ dX7_thread_61 rfl rfl hP hD hS
    have hm := if_f _ hc hm
    by_cases hc : a2 = 2
    · have hm := if_t _ hc hm
      refine lv_tableIn (off := 51) (tgt := 62) hx hb dX7_thread_11 (by rw [hc]; decide) (by rw [hc]; decide) (by rw [hc]; rfl) (by decide) ?_
      refine lv_aload_n hx hb dX7_thread_62 rfl (lv_at hl 0 rfl) ?_
      refine lv_iload_n hx hb dX7_thread_63 rfl (lv_at hl 1 rfl) ?_
      refine lv_iconst (v := 2) hx hb dX7_thread_64 (by decide) ?_
      obtain ⟨r_7, h_8, hm⟩ := bind_use hm
      refine g_ki (wc := [(q, .inr (6, [.ref q_s, .ref q_past, .int f_states, .ref q_slot, .int f_isKept, .ref q_text, .int f_length, .ref q_tries, .ref q_firstOne, .int f_at, .int f_ends, .ref q_read, .int f_coverMany, .ref q_coverSets, .ref q_picks, .ref q_covered, .ref q_takenThreads, .int f_circleMany, .int f_circleOdd, .int f_circleLongest])), (q_s, .inl (cI, 65, .inl f_s)), (q_past, .inl (cI, 260, .inl f_past)), (q_slot, .inl (cI, 65, .inl f_slot)), (q_text, .inl (cC, 60, .inl f_text)), (q_tries, .inl (cI, 22, .inl f_tries)), (q_firstOne, .inl (cI, 21, .inl f_firstOne)), (q_read, .inl (cI, 32, .inl f_read)), (q_coverSets, .inl (cI, 256, .inl f_coverSets)), (q_picks, .inl (cI, 8, .inl f_picks)), (q_covered, .inl (cI, 8, .inl f_covered)), (q_takenThreads, .inl (cI, 8, .inl f_takenThreads))]) (wr := []) (w2 := [(q, .inr (6, [.ref q_s, .ref q_past, .int f_states, .ref q_slot, .int f_isKept, .ref q_text, .int f_length, .ref q_tries, .ref q_firstOne, .int f_at, .int f_ends, .ref q_read, .int f_coverMany, .ref q_coverSets, .ref q_picks, .ref q_covered, .ref q_takenThreads, .int f_circleMany, .int f_circleOdd, .int f_circleLongest])), (q_s, .inl (cI, 65, .inl f_s)), (q_past, .inl (cI, 260, .inl f_past)), (q_slot, .inl (cI, 65, .inl f_slot)), (q_text, .inl (cC, 60, .inl f_text)), (q_tries, .inl (cI, 22, .inl f_tries)), (q_firstOne, .inl (cI, 21, .inl f_firstOne)), (q_read, .inl (cI, 32, .inl f_read)), (q_coverSets, .inl (cI, 256, .inl f_coverSets)), (q_picks, .inl (cI, 8, .inl f_picks)), (q_covered, .inl (cI, 8, .inl f_covered)), (q_takenThreads, .inl (cI, 8, .inl f_takenThreads))]) (va_runV (As := [.int a1, .int 2]) (rest := []) ⟨hx, hb, hml, hown, hts⟩ (k_X7_of l D cI cC cN N q q_s q_past q_slot q_text q_tries q_firstOne q_read q_coverSets q_picks q_covered q_takenThreads H.size f_s f_past f_states f_slot f_isKept f_text f_length f_tries f_firstOne f_at f_ends f_read f_coverMany f_coverSets f_picks f_covered f_takenThreads f_circleMany f_circleOdd f_circleLongest a1 2 r_7 h_8) (cwV 2 hts gX7_thread_X7_of rfl rfl rfl (by decide +kernel) ⟨Nat.le_of_ble_eq_true rfl, Nat.le_of_ble_eq_true rfl⟩) ⟨g_blind, va_recv (D := D) (ci := 6) (q0 := 0) hK hP rfl rfl, g_pre (hP.sub [0, 1, 2, 3, 4, 5, 6, 7, 8, 9, 10, 11] rfl) hK hN (hD.sub [0, 1, 2, 3, 4, 5, 6, 7, 8, 9, 10, 11] (by decide) rfl)⟩ rfl rfl hl.1 rfl (lv_room (Nat.le_of_ble_eq_true rfl)) dX7_thread_65 ⟨Nat.zero_le _, Nat.zero_le _⟩) hP hD hS hA [0, 1, 2, 3, 4, 5, 6, 7, 8, 9, 10, 11] [] rfl rfl (by decide) (by decide) rfl (fun H locs hP hD hS => ?_)
      refine lv_iconst (v := 3) hx hb dX7_thread_68 (by decide) ?_
      refine lv_icmp_ne (tgt := 77) hx hb dX7_thread_69 (by decide) (fun hc => ?_) (fun hc => ?_)
      · have hm := if_f _ hc hm
        refine lv_aload_n hx hb dX7_thread_77 rfl (lv_at hl 0 rfl) ?_
        refine lv_iload_n hx hb dX7_thread_78 rfl (lv_at hl 1 rfl) ?_
        refine lv_iconst (v := 2) hx hb dX7_thread_79 (by decide) ?_
        obtain ⟨r_9, h_10, hm⟩ := bind_use hm
        refine g_ki (wc := [(q, .inr (6, [.ref q_s, .ref q_past, .int f_states, .ref q_slot, .int f_isKept, .ref q_text, .int f_length, .ref q_tries, .ref q_firstOne, .int f_at, .int f_ends, .ref q_read, .int f_coverMany, .ref q_coverSets, .ref q_picks, .ref q_covered, .ref q_takenThreads, .int f_circleMany, .int f_circleOdd, .int f_circleLongest])), (q_s, .inl (cI, 65, .inl f_s)), (q_past, .inl (cI, 260, .inl f_past)), (q_slot, .inl (cI, 65, .inl f_slot)), (q_text, .inl (cC, 60, .inl f_text)), (q_tries, .inl (cI, 22, .inl f_tries)), (q_firstOne, .inl (cI, 21, .inl f_firstOne)), (q_read, .inl (cI, 32, .inl f_read)), (q_coverSets, .inl (cI, 256, .inl f_coverSets)), (q_picks, .inl (cI, 8, .inl f_picks)), (q_covered, .inl (cI, 8, .inl f_covered)), (q_takenThreads, .inl (cI, 8, .inl f_takenThreads))]) (wr := []) (w2 := [(q, .inr (6, [.ref q_s, .ref q_past, .int f_states, .ref q_slot, .int f_isKept, .ref q_text, .int f_length, .ref q_tries, .ref q_firstOne, .int f_at, .int f_ends, .ref q_read, .int f_coverMany, .ref q_coverSets, .ref q_picks, .ref q_covered, .ref q_takenThreads, .int f_circleMany, .int f_circleOdd, .int f_circleLongest])), (q_s, .inl (cI, 65, .inl f_s)), (q_past, .inl (cI, 260, .inl f_past)), (q_slot, .inl (cI, 65, .inl f_slot)), (q_text, .inl (cC, 60, .inl f_text)), (q_tries, .inl (cI, 22, .inl f_tries)), (q_firstOne, .inl (cI, 21, .inl f_firstOne)), (q_read, .inl (cI, 32, .inl f_read)), (q_coverSets, .inl (cI, 256, .inl f_coverSets)), (q_picks, .inl (cI, 8, .inl f_picks)), (q_covered, .inl (cI, 8, .inl f_covered)), (q_takenThreads, .inl (cI, 8, .inl f_takenThreads))]) (va_runV (As := [.int a1, .int 2]) (rest := []) ⟨hx, hb, hml, hown, hts⟩ (k_X7_of l D cI cC cN N q q_s q_past q_slot q_text q_tries q_firstOne q_read q_coverSets q_picks q_covered q_takenThreads H.size f_s f_past f_states f_slot f_isKept f_text f_length f_tries f_firstOne f_at f_ends f_read f_coverMany f_coverSets f_picks f_covered f_takenThreads f_circleMany f_circleOdd f_circleLongest a1 2 r_9 h_10) (cwV 2 hts gX7_thread_X7_of rfl rfl rfl (by decide +kernel) ⟨Nat.le_of_ble_eq_true rfl, Nat.le_of_ble_eq_true rfl⟩) ⟨g_blind, va_recv (D := D) (ci := 6) (q0 := 0) hK hP rfl rfl, g_pre (hP.sub [0, 1, 2, 3, 4, 5, 6, 7, 8, 9, 10, 11] rfl) hK hN (hD.sub [0, 1, 2, 3, 4, 5, 6, 7, 8, 9, 10, 11] (by decide) rfl)⟩ rfl rfl hl.1 rfl (lv_room (Nat.le_of_ble_eq_true rfl)) dX7_thread_80 ⟨Nat.zero_le _, Nat.zero_le _⟩) hP hD hS hA [0, 1, 2, 3, 4, 5, 6, 7, 8, 9, 10, 11] [] rfl rfl (by decide) (by decide) rfl (fun H locs hP hD hS => ?_)
        have z1 := so_use hm
        obtain ⟨y1, z2⟩ := pr_use z1
        obtain ⟨y2, z3⟩ := pr_use z2
        obtain ⟨y3, z4⟩ := pr_use z3
        obtain ⟨y4, z5⟩ := pr_use z4
        obtain ⟨y5, z6⟩ := pr_use z5
        subst y1
        subst y2
        subst y3
        subst y4
        subst y5
        subst z6
        exact hret _ _ _ _ _ dX7_thread_83 rfl rfl hP hD hS
      · have hm := if_t _ hc hm
        refine lv_bipush (v := (-5)) hx hb dX7_thread_72 (by decide) ?_
        refine lv_goto (tgt := 83) hx hb dX7_thread_74 (by decide) ?_
        have z1 := so_use hm
        obtain ⟨y1, z2⟩ := pr_use z1
        obtain ⟨y2, z3⟩ := pr_use z2
        obtain ⟨y3, z4⟩ := pr_use z3
        obtain ⟨y4, z5⟩ := pr_use z4
        obtain ⟨y5, z6⟩ := pr_use z5
        subst y1
        subst y2
        subst y3
        subst y4
        subst y5
        subst z6
        exact hret _ _ _ _ _ dX7_thread_83 rfl rfl hP hD hS
    have hm := if_f _ hc hm
    by_cases hc : a2 = 3
    · have hm := if_t _ hc hm
      refine lv_tableIn (off := 73) (tgt := 84) hx hb dX7_thread_11 (by rw [hc]; decide) (by rw [hc]; decide) (by rw [hc]; rfl) (by decide) ?_
      refine lv_aload_n hx hb dX7_thread_84 rfl (lv_at hl 0 rfl) ?_
      refine lv_iload_n hx hb dX7_thread_85 rfl (lv_at hl 1 rfl) ?_
      obtain ⟨r_11, h_12, hm⟩ := bind_use hm
      refine g_ki (wc := [(q, .inr (6, [.ref q_s, .ref q_past, .int f_states, .ref q_slot, .int f_isKept, .ref q_text, .int f_length, .ref q_tries, .ref q_firstOne, .int f_at, .int f_ends, .ref q_read, .int f_coverMany, .ref q_coverSets, .ref q_picks, .ref q_covered, .ref q_takenThreads, .int f_circleMany, .int f_circleOdd, .int f_circleLongest])), (q_s, .inl (cI, 65, .inl f_s)), (q_past, .inl (cI, 260, .inl f_past)), (q_slot, .inl (cI, 65, .inl f_slot)), (q_text, .inl (cC, 60, .inl f_text)), (q_tries, .inl (cI, 22, .inl f_tries)), (q_firstOne, .inl (cI, 21, .inl f_firstOne)), (q_read, .inl (cI, 32, .inl f_read)), (q_coverSets, .inl (cI, 256, .inl f_coverSets)), (q_picks, .inl (cI, 8, .inl f_picks)), (q_covered, .inl (cI, 8, .inl f_covered)), (q_takenThreads, .inl (cI, 8, .inl f_takenThreads))]) (wr := []) (w2 := [(q, .inr (6, [.ref q_s, .ref q_past, .int f_states, .ref q_slot, .int f_isKept, .ref q_text, .int f_length, .ref q_tries, .ref q_firstOne, .int f_at, .int f_ends, .ref q_read, .int f_coverMany, .ref q_coverSets, .ref q_picks, .ref q_covered, .ref q_takenThreads, .int f_circleMany, .int f_circleOdd, .int f_circleLongest])), (q_s, .inl (cI, 65, .inl f_s)), (q_past, .inl (cI, 260, .inl f_past)), (q_slot, .inl (cI, 65, .inl f_slot)), (q_text, .inl (cC, 60, .inl f_text)), (q_tries, .inl (cI, 22, .inl f_tries)), (q_firstOne, .inl (cI, 21, .inl f_firstOne)), (q_read, .inl (cI, 32, .inl f_read)), (q_coverSets, .inl (cI, 256, .inl f_coverSets)), (q_picks, .inl (cI, 8, .inl f_picks)), (q_covered, .inl (cI, 8, .inl f_covered)), (q_takenThreads, .inl (cI, 8, .inl f_takenThreads))]) (va_runV (As := [.int a1]) (rest := []) ⟨hx, hb, hml, hown, hts⟩ (k_X7_round l D cI cC cN N q q_s q_past q_slot q_text q_tries q_firstOne q_read q_coverSets q_picks q_covered q_takenThreads H.size f_s f_past f_states f_slot f_isKept f_text f_length f_tries f_firstOne f_at f_ends f_read f_coverMany f_coverSets f_picks f_covered f_takenThreads f_circleMany f_circleOdd f_circleLongest a1 r_11 h_12) (cwV 1 hts gX7_thread_X7_round rfl rfl rfl (by decide +kernel) ⟨Nat.le_of_ble_eq_true rfl, Nat.le_of_ble_eq_true rfl⟩) ⟨g_blind, va_recv (D := D) (ci := 6) (q0 := 0) hK hP rfl rfl, g_pre (hP.sub [0, 1, 2, 3, 4, 5, 6, 7, 8, 9, 10, 11] rfl) hK hN (hD.sub [0, 1, 2, 3, 4, 5, 6, 7, 8, 9, 10, 11] (by decide) rfl)⟩ rfl rfl hl.1 rfl (lv_room (Nat.le_of_ble_eq_true rfl)) dX7_thread_86 ⟨Nat.zero_le _, Nat.zero_le _⟩) hP hD hS hA [0, 1, 2, 3, 4, 5, 6, 7, 8, 9, 10, 11] [] rfl rfl (by decide) (by decide) rfl (fun H locs hP hD hS => ?_)
      refine lv_bipush (v := (-5)) hx hb dX7_thread_89 (by decide) ?_
      refine lv_icmp_ne (tgt := 98) hx hb dX7_thread_91 (by decide) (fun hc => ?_) (fun hc => ?_)
      · have hm := if_f _ hc hm
        refine lv_iconst (v := 0) hx hb dX7_thread_98 (by decide) ?_
        have z1 := so_use hm
        obtain ⟨y1, z2⟩ := pr_use z1
        obtain ⟨y2, z3⟩ := pr_use z2
        obtain ⟨y3, z4⟩ := pr_use z3
        obtain ⟨y4, z5⟩ := pr_use z4
        obtain ⟨y5, z6⟩ := pr_use z5
        subst y1
        subst y2
        subst y3
        subst y4
        subst y5
        subst z6
        exact hret _ _ _ _ _ dX7_thread_99 rfl rfl hP hD hS
      · have hm := if_t _ hc hm
        refine lv_iconst (v := 1) hx hb dX7_thread_94 (by decide) ?_
        refine lv_goto (tgt := 99) hx hb dX7_thread_95 (by decide) ?_
        have z1 := so_use hm
        obtain ⟨y1, z2⟩ := pr_use z1
        obtain ⟨y2, z3⟩ := pr_use z2
        obtain ⟨y3, z4⟩ := pr_use z3
        obtain ⟨y4, z5⟩ := pr_use z4
        obtain ⟨y5, z6⟩ := pr_use z5
        subst y1
        subst y2
        subst y3
        subst y4
        subst y5
        subst z6
        exact hret _ _ _ _ _ dX7_thread_99 rfl rfl hP hD hS
    have hm := if_f _ hc hm
    by_cases hc : a2 = 4
    · have hm := if_t _ hc hm
      refine lv_tableIn (off := 89) (tgt := 100) hx hb dX7_thread_11 (by rw [hc]; decide) (by rw [hc]; decide) (by rw [hc]; rfl) (by decide) ?_
      refine lv_aload_n hx hb dX7_thread_100 rfl (lv_at hl 0 rfl) ?_
      refine lv_iload_n hx hb dX7_thread_101 rfl (lv_at hl 1 rfl) ?_
      obtain ⟨r_13, h_14, hm⟩ := bind_use hm
      refine g_ki (wc := [(q, .inr (6, [.ref q_s, .ref q_past, .int f_states, .ref q_slot, .int f_isKept, .ref q_text, .int f_length, .ref q_tries, .ref q_firstOne, .int f_at, .int f_ends, .ref q_read, .int f_coverMany, .ref q_coverSets, .ref q_picks, .ref q_covered, .ref q_takenThreads, .int f_circleMany, .int f_circleOdd, .int f_circleLongest])), (q_s, .inl (cI, 65, .inl f_s)), (q_past, .inl (cI, 260, .inl f_past)), (q_slot, .inl (cI, 65, .inl f_slot)), (q_text, .inl (cC, 60, .inl f_text)), (q_tries, .inl (cI, 22, .inl f_tries)), (q_firstOne, .inl (cI, 21, .inl f_firstOne)), (q_read, .inl (cI, 32, .inl f_read)), (q_coverSets, .inl (cI, 256, .inl f_coverSets)), (q_picks, .inl (cI, 8, .inl f_picks)), (q_covered, .inl (cI, 8, .inl f_covered)), (q_takenThreads, .inl (cI, 8, .inl f_takenThreads))]) (wr := []) (w2 := [(q, .inr (6, [.ref q_s, .ref q_past, .int f_states, .ref q_slot, .int f_isKept, .ref q_text, .int f_length, .ref q_tries, .ref q_firstOne, .int f_at, .int f_ends, .ref q_read, .int f_coverMany, .ref q_coverSets, .ref q_picks, .ref q_covered, .ref q_takenThreads, .int f_circleMany, .int f_circleOdd, .int f_circleLongest])), (q_s, .inl (cI, 65, .inl f_s)), (q_past, .inl (cI, 260, .inl f_past)), (q_slot, .inl (cI, 65, .inl f_slot)), (q_text, .inl (cC, 60, .inl f_text)), (q_tries, .inl (cI, 22, .inl f_tries)), (q_firstOne, .inl (cI, 21, .inl f_firstOne)), (q_read, .inl (cI, 32, .inl f_read)), (q_coverSets, .inl (cI, 256, .inl f_coverSets)), (q_picks, .inl (cI, 8, .inl f_picks)), (q_covered, .inl (cI, 8, .inl f_covered)), (q_takenThreads, .inl (cI, 8, .inl f_takenThreads))]) (va_runV (As := [.int a1]) (rest := []) ⟨hx, hb, hml, hown, hts⟩ (k_X7_round l D cI cC cN N q q_s q_past q_slot q_text q_tries q_firstOne q_read q_coverSets q_picks q_covered q_takenThreads H.size f_s f_past f_states f_slot f_isKept f_text f_length f_tries f_firstOne f_at f_ends f_read f_coverMany f_coverSets f_picks f_covered f_takenThreads f_circleMany f_circleOdd f_circleLongest a1 r_13 h_14) (cwV 1 hts gX7_thread_X7_round rfl rfl rfl (by decide +kernel) ⟨Nat.le_of_ble_eq_true rfl, Nat.le_of_ble_eq_true rfl⟩) ⟨g_blind, va_recv (D := D) (ci := 6) (q0 := 0) hK hP rfl rfl, g_pre (hP.sub [0, 1, 2, 3, 4, 5, 6, 7, 8, 9, 10, 11] rfl) hK hN (hD.sub [0, 1, 2, 3, 4, 5, 6, 7, 8, 9, 10, 11] (by decide) rfl)⟩ rfl rfl hl.1 rfl (lv_room (Nat.le_of_ble_eq_true rfl)) dX7_thread_102 ⟨Nat.zero_le _, Nat.zero_le _⟩) hP hD hS hA [0, 1, 2, 3, 4, 5, 6, 7, 8, 9, 10, 11] [] rfl rfl (by decide) (by decide) rfl (fun H locs hP hD hS => ?_)
      have z1 := so_use hm
      obtain ⟨y1, z2⟩ := pr_use z1
      obtain ⟨y2, z3⟩ := pr_use z2
      obtain ⟨y3, z4⟩ := pr_use z3
      obtain ⟨y4, z5⟩ := pr_use z4
      obtain ⟨y5, z6⟩ := pr_use z5
      subst y1
      subst y2
      subst y3
      subst y4
      subst y5
      subst z6
      exact hret _ _ _ _ _ dX7_thread_105 rfl rfl hP hD hS
    have hm := if_f _ hc hm
    by_cases hc : a2 = 5
    · have hm := if_t _ hc hm
      refine lv_tableIn (off := 95) (tgt := 106) hx hb dX7_thread_11 (by rw [hc]; decide) (by rw [hc]; decide) (by rw [hc]; rfl) (by decide) ?_
      refine lv_aload_n hx hb dX7_thread_106 rfl (lv_at hl 0 rfl) ?_
      refine lv_iload_n hx hb dX7_thread_107 rfl (lv_at hl 1 rfl) ?_
      obtain ⟨⟨r_15, f_coverMany_16, f_coverSets_17, f_picks_18, f_covered_19, f_takenThreads_20⟩, h_21, hm⟩ := bind_use hm
      refine g_ki (wc := [(q, .inr (6, [.ref q_s, .ref q_past, .int f_states, .ref q_slot, .int f_isKept, .ref q_text, .int f_length, .ref q_tries, .ref q_firstOne, .int f_at, .int f_ends, .ref q_read, .int f_coverMany, .ref q_coverSets, .ref q_picks, .ref q_covered, .ref q_takenThreads, .int f_circleMany, .int f_circleOdd, .int f_circleLongest])), (q_s, .inl (cI, 65, .inl f_s)), (q_past, .inl (cI, 260, .inl f_past)), (q_slot, .inl (cI, 65, .inl f_slot)), (q_text, .inl (cC, 60, .inl f_text)), (q_tries, .inl (cI, 22, .inl f_tries)), (q_firstOne, .inl (cI, 21, .inl f_firstOne)), (q_read, .inl (cI, 32, .inl f_read)), (q_coverSets, .inl (cI, 256, .inl f_coverSets)), (q_picks, .inl (cI, 8, .inl f_picks)), (q_covered, .inl (cI, 8, .inl f_covered)), (q_takenThreads, .inl (cI, 8, .inl f_takenThreads))]) (wr := []) (w2 := [(q, .inr (6, [.ref q_s, .ref q_past, .int f_states, .ref q_slot, .int f_isKept, .ref q_text, .int f_length, .ref q_tries, .ref q_firstOne, .int f_at, .int f_ends, .ref q_read, .int f_coverMany_16, .ref q_coverSets, .ref q_picks, .ref q_covered, .ref q_takenThreads, .int f_circleMany, .int f_circleOdd, .int f_circleLongest])), (q_s, .inl (cI, 65, .inl f_s)), (q_past, .inl (cI, 260, .inl f_past)), (q_slot, .inl (cI, 65, .inl f_slot)), (q_text, .inl (cC, 60, .inl f_text)), (q_tries, .inl (cI, 22, .inl f_tries)), (q_firstOne, .inl (cI, 21, .inl f_firstOne)), (q_read, .inl (cI, 32, .inl f_read)), (q_coverSets, .inl (cI, 256, .inl f_coverSets_17)), (q_picks, .inl (cI, 8, .inl f_picks_18)), (q_covered, .inl (cI, 8, .inl f_covered_19)), (q_takenThreads, .inl (cI, 8, .inl f_takenThreads_20))]) (va_runV (As := [.int a1]) (rest := []) ⟨hx, hb, hml, hown, hts⟩ (k_X7_coversWith l D cI cC cN N q q_s q_past q_slot q_text q_tries q_firstOne q_read q_coverSets q_picks q_covered q_takenThreads H.size f_s f_past f_states f_slot f_isKept f_text f_length f_tries f_firstOne f_at f_ends f_read f_coverMany f_coverSets f_picks f_covered f_takenThreads f_circleMany f_circleOdd f_circleLongest a1 r_15 f_coverMany_16 f_coverSets_17 f_picks_18 f_covered_19 f_takenThreads_20 h_21) (cwV 1 hts gX7_thread_X7_coversWith rfl rfl rfl (by decide +kernel) ⟨Nat.le_of_ble_eq_true rfl, Nat.le_of_ble_eq_true rfl⟩) ⟨g_blind, va_recv (D := D) (ci := 6) (q0 := 0) hK hP rfl rfl, g_pre (hP.sub [0, 1, 2, 3, 4, 5, 6, 7, 8, 9, 10, 11] rfl) hK hN (hD.sub [0, 1, 2, 3, 4, 5, 6, 7, 8, 9, 10, 11] (by decide) rfl)⟩ rfl rfl hl.1 rfl (lv_room (Nat.le_of_ble_eq_true rfl)) dX7_thread_108 ⟨Nat.zero_le _, Nat.zero_le _⟩) hP hD hS hA [0, 1, 2, 3, 4, 5, 6, 7, 8, 9, 10, 11] [] rfl rfl (by decide) (by decide) rfl (fun H locs hP hD hS => ?_)
      have z1 := so_use hm
      obtain ⟨y1, z2⟩ := pr_use z1
      obtain ⟨y2, z3⟩ := pr_use z2
      obtain ⟨y3, z4⟩ := pr_use z3
      obtain ⟨y4, z5⟩ := pr_use z4
      obtain ⟨y5, z6⟩ := pr_use z5
      subst y1
      subst y2
      subst y3
      subst y4
      subst y5
      subst z6
      exact hret _ _ _ _ _ dX7_thread_111 rfl rfl hP hD hS
    have hm := if_f _ hc hm
    exact no_use hm
  · have hm := if_t _ hc hm
    refine lv_iconst (v := (-1)) hx hb dX7_thread_8 (by decide) ?_
    have z1 := so_use hm
    obtain ⟨y1, z2⟩ := pr_use z1
    obtain ⟨y2, z3⟩ := pr_use z2
    obtain ⟨y3, z4⟩ := pr_use z3
    obtain ⟨y4, z5⟩ := pr_use z4
    obtain ⟨y5, z6⟩ := pr_use z5
    subst y1
    subst y2
    subst y3
    subst y4
    subst y5
    subst z6
    exact hret _ _ _ _ _ dX7_thread_9 rfl rfl hP hD hS
abbrev rX7_between : Room := { frames := 3, cells := 0, slots := 0, locals := 67 }
set_option maxHeartbeats 4000000 in
set_option maxRecDepth 100000 in
theorem k_X7_between (l : Launch) (D : va_G) (cI cC cN : ClassId) (N : Nat) (q : Nat) (q_s : Nat) (q_past : Nat) (q_slot : Nat) (q_text : Nat) (q_tries : Nat) (q_firstOne : Nat) (q_read : Nat) (q_coverSets : Nat) (q_picks : Nat) (q_covered : Nat) (q_takenThreads : Nat) (sz : Nat) (f_s : Nat → Int32) (f_past : Nat → Int32) (f_states : Int32) (f_slot : Nat → Int32) (f_isKept : Int32) (f_text : Nat → Int32) (f_length : Int32) (f_tries : Nat → Int32) (f_firstOne : Nat → Int32) (f_at : Int32) (f_ends : Int32) (f_read : Nat → Int32) (f_coverMany : Int32) (f_coverSets : Nat → Int32) (f_picks : Nat → Int32) (f_covered : Nat → Int32) (f_takenThreads : Nat → Int32) (f_circleMany : Int32) (f_circleOdd : Int32) (f_circleLongest : Int32) (a1 : Int32) (a2 : Int32) (r : Int32) (hm : m_X7_between N f_s a1 a2 = some r) : Met l yX7_between wsX7_between (rX7_between) (gPc D (tysG cI cC cN) [.ref q, .int a1, .int a2] [(q, .inr (6, [.ref q_s, .ref q_past, .int f_states, .ref q_slot, .int f_isKept, .ref q_text, .int f_length, .ref q_tries, .ref q_firstOne, .int f_at, .int f_ends, .ref q_read, .int f_coverMany, .ref q_coverSets, .ref q_picks, .ref q_covered, .ref q_takenThreads, .int f_circleMany, .int f_circleOdd, .int f_circleLongest])), (q_s, .inl (cI, 65, .inl f_s)), (q_past, .inl (cI, 260, .inl f_past)), (q_slot, .inl (cI, 65, .inl f_slot)), (q_text, .inl (cC, 60, .inl f_text)), (q_tries, .inl (cI, 22, .inl f_tries)), (q_firstOne, .inl (cI, 21, .inl f_firstOne)), (q_read, .inl (cI, 32, .inl f_read)), (q_coverSets, .inl (cI, 256, .inl f_coverSets)), (q_picks, .inl (cI, 8, .inl f_picks)), (q_covered, .inl (cI, 8, .inl f_covered)), (q_takenThreads, .inl (cI, 8, .inl f_takenThreads))] sz) (gQi D (tysG cI cC cN) (va_A [(q, .inr (6, [.ref q_s, .ref q_past, .int f_states, .ref q_slot, .int f_isKept, .ref q_text, .int f_length, .ref q_tries, .ref q_firstOne, .int f_at, .int f_ends, .ref q_read, .int f_coverMany, .ref q_coverSets, .ref q_picks, .ref q_covered, .ref q_takenThreads, .int f_circleMany, .int f_circleOdd, .int f_circleLongest])), (q_s, .inl (cI, 65, .inl f_s)), (q_past, .inl (cI, 260, .inl f_past)), (q_slot, .inl (cI, 65, .inl f_slot)), (q_text, .inl (cC, 60, .inl f_text)), (q_tries, .inl (cI, 22, .inl f_tries)), (q_firstOne, .inl (cI, 21, .inl f_firstOne)), (q_read, .inl (cI, 32, .inl f_read)), (q_coverSets, .inl (cI, 256, .inl f_coverSets)), (q_picks, .inl (cI, 8, .inl f_picks)), (q_covered, .inl (cI, 8, .inl f_covered)), (q_takenThreads, .inl (cI, 8, .inl f_takenThreads))] sz) [(q, .inr (6, [.ref q_s, .ref q_past, .int f_states, .ref q_slot, .int f_isKept, .ref q_text, .int f_length, .ref q_tries, .ref q_firstOne, .int f_at, .int f_ends, .ref q_read, .int f_coverMany, .ref q_coverSets, .ref q_picks, .ref q_covered, .ref q_takenThreads, .int f_circleMany, .int f_circleOdd, .int f_circleLongest])), (q_s, .inl (cI, 65, .inl f_s)), (q_past, .inl (cI, 260, .inl f_past)), (q_slot, .inl (cI, 65, .inl f_slot)), (q_text, .inl (cC, 60, .inl f_text)), (q_tries, .inl (cI, 22, .inl f_tries)), (q_firstOne, .inl (cI, 21, .inl f_firstOne)), (q_read, .inl (cI, 32, .inl f_read)), (q_coverSets, .inl (cI, 256, .inl f_coverSets)), (q_picks, .inl (cI, 8, .inl f_picks)), (q_covered, .inl (cI, 8, .inl f_covered)), (q_takenThreads, .inl (cI, 8, .inl f_takenThreads))] r) 0 0 (va_A [(q, .inr (6, [.ref q_s, .ref q_past, .int f_states, .ref q_slot, .int f_isKept, .ref q_text, .int f_length, .ref q_tries, .ref q_firstOne, .int f_at, .int f_ends, .ref q_read, .int f_coverMany, .ref q_coverSets, .ref q_picks, .ref q_covered, .ref q_takenThreads, .int f_circleMany, .int f_circleOdd, .int f_circleLongest])), (q_s, .inl (cI, 65, .inl f_s)), (q_past, .inl (cI, 260, .inl f_past)), (q_slot, .inl (cI, 65, .inl f_slot)), (q_text, .inl (cC, 60, .inl f_text)), (q_tries, .inl (cI, 22, .inl f_tries)), (q_firstOne, .inl (cI, 21, .inl f_firstOne)), (q_read, .inl (cI, 32, .inl f_read)), (q_coverSets, .inl (cI, 256, .inl f_coverSets)), (q_picks, .inl (cI, 8, .inl f_picks)), (q_covered, .inl (cI, 8, .inl f_covered)), (q_takenThreads, .inl (cI, 8, .inl f_takenThreads))] sz) := by
  unfold m_X7_between at hm
  refine g_openI (cc := cX7_between) (maxL := 3) (own := RX7) (by decide) rfl rfl (Nat.le_of_ble_eq_true rfl) ?_
  intro p e s m args below meth c A Q hx hb hml hown hts hP hK hN hD hA hret ls hl
  have hS : va_S A s.heap s.heap [] := va_S.rf
  have hl : lv_has ls 3 [(0, .ref q), (1, .int a1), (2, .int a2)] := hl
  refine lv_aload_n hx hb dX7_between_0 rfl (lv_at hl 0 rfl) ?_
  refine lv_iload_n hx hb dX7_between_1 rfl (lv_at hl 1 rfl) ?_
  obtain ⟨r_1, h_2, hm⟩ := bind_use hm
  refine g_ki (wc := [(q, .inr (6, [.ref q_s, .ref q_past, .int f_states, .ref q_slot, .int f_isKept, .ref q_text, .int f_length, .ref q_tries, .ref q_firstOne, .int f_at, .int f_ends, .ref q_read, .int f_coverMany, .ref q_coverSets, .ref q_picks, .ref q_covered, .ref q_takenThreads, .int f_circleMany, .int f_circleOdd, .int f_circleLongest])), (q_s, .inl (cI, 65, .inl f_s)), (q_past, .inl (cI, 260, .inl f_past)), (q_slot, .inl (cI, 65, .inl f_slot)), (q_text, .inl (cC, 60, .inl f_text)), (q_tries, .inl (cI, 22, .inl f_tries)), (q_firstOne, .inl (cI, 21, .inl f_firstOne)), (q_read, .inl (cI, 32, .inl f_read)), (q_coverSets, .inl (cI, 256, .inl f_coverSets)), (q_picks, .inl (cI, 8, .inl f_picks)), (q_covered, .inl (cI, 8, .inl f_covered)), (q_takenThreads, .inl (cI, 8, .inl f_takenThreads))]) (wr := []) (w2 := [(q, .inr (6, [.ref q_s, .ref q_past, .int f_states, .ref q_slot, .int f_isKept, .ref q_text, .int f_length, .ref q_tries, .ref q_firstOne, .int f_at, .int f_ends, .ref q_read, .int f_coverMany, .ref q_coverSets, .ref q_picks, .ref q_covered, .ref q_takenThreads, .int f_circleMany, .int f_circleOdd, .int f_circleLongest])), (q_s, .inl (cI, 65, .inl f_s)), (q_past, .inl (cI, 260, .inl f_past)), (q_slot, .inl (cI, 65, .inl f_slot)), (q_text, .inl (cC, 60, .inl f_text)), (q_tries, .inl (cI, 22, .inl f_tries)), (q_firstOne, .inl (cI, 21, .inl f_firstOne)), (q_read, .inl (cI, 32, .inl f_read)), (q_coverSets, .inl (cI, 256, .inl f_coverSets)), (q_picks, .inl (cI, 8, .inl f_picks)), (q_covered, .inl (cI, 8, .inl f_covered)), (q_takenThreads, .inl (cI, 8, .inl f_takenThreads))]) (va_runV (As := [.int a1]) (rest := []) ⟨hx, hb, hml, hown, hts⟩ (k_X7_isKnot l D cI cC cN N q q_s q_past q_slot q_text q_tries q_firstOne q_read q_coverSets q_picks q_covered q_takenThreads s.heap.size f_s f_past f_states f_slot f_isKept f_text f_length f_tries f_firstOne f_at f_ends f_read f_coverMany f_coverSets f_picks f_covered f_takenThreads f_circleMany f_circleOdd f_circleLongest a1 r_1 h_2) (cwV 1 hts gX7_between_X7_isKnot rfl rfl rfl (by decide +kernel) ⟨Nat.le_of_ble_eq_true rfl, Nat.le_of_ble_eq_true rfl⟩) ⟨g_blind, va_recv (D := D) (ci := 6) (q0 := 0) hK hP rfl rfl, g_pre (hP.sub [0, 1, 2, 3, 4, 5, 6, 7, 8, 9, 10, 11] rfl) hK hN (hD.sub [0, 1, 2, 3, 4, 5, 6, 7, 8, 9, 10, 11] (by decide) rfl)⟩ rfl rfl hl.1 rfl (lv_room (Nat.le_of_ble_eq_true rfl)) dX7_between_2 ⟨Nat.zero_le _, Nat.zero_le _⟩) hP hD hS hA [0, 1, 2, 3, 4, 5, 6, 7, 8, 9, 10, 11] [] rfl rfl (by decide) (by decide) rfl (fun H locs hP hD hS => ?_)
  refine lv_if_eq (tgt := 25) hx hb dX7_between_5 (by decide) (fun hc => ?_) (fun hc => ?_)
  · have hm := if_t _ hc hm
    refine lv_iconst (v := (-1)) hx hb dX7_between_25 (by decide) ?_
    have z1 := so_use hm
    subst z1
    exact hret _ _ _ _ _ dX7_between_26 rfl rfl hP hD hS
  · have hm := if_f _ hc hm
    refine lv_aload_n hx hb dX7_between_8 rfl (lv_at hl 0 rfl) ?_
    refine lv_iload_n hx hb dX7_between_9 rfl (lv_at hl 2 rfl) ?_
    obtain ⟨r_3, h_4, hm⟩ := bind_use hm
    refine g_ki (wc := [(q, .inr (6, [.ref q_s, .ref q_past, .int f_states, .ref q_slot, .int f_isKept, .ref q_text, .int f_length, .ref q_tries, .ref q_firstOne, .int f_at, .int f_ends, .ref q_read, .int f_coverMany, .ref q_coverSets, .ref q_picks, .ref q_covered, .ref q_takenThreads, .int f_circleMany, .int f_circleOdd, .int f_circleLongest])), (q_s, .inl (cI, 65, .inl f_s)), (q_past, .inl (cI, 260, .inl f_past)), (q_slot, .inl (cI, 65, .inl f_slot)), (q_text, .inl (cC, 60, .inl f_text)), (q_tries, .inl (cI, 22, .inl f_tries)), (q_firstOne, .inl (cI, 21, .inl f_firstOne)), (q_read, .inl (cI, 32, .inl f_read)), (q_coverSets, .inl (cI, 256, .inl f_coverSets)), (q_picks, .inl (cI, 8, .inl f_picks)), (q_covered, .inl (cI, 8, .inl f_covered)), (q_takenThreads, .inl (cI, 8, .inl f_takenThreads))]) (wr := []) (w2 := [(q, .inr (6, [.ref q_s, .ref q_past, .int f_states, .ref q_slot, .int f_isKept, .ref q_text, .int f_length, .ref q_tries, .ref q_firstOne, .int f_at, .int f_ends, .ref q_read, .int f_coverMany, .ref q_coverSets, .ref q_picks, .ref q_covered, .ref q_takenThreads, .int f_circleMany, .int f_circleOdd, .int f_circleLongest])), (q_s, .inl (cI, 65, .inl f_s)), (q_past, .inl (cI, 260, .inl f_past)), (q_slot, .inl (cI, 65, .inl f_slot)), (q_text, .inl (cC, 60, .inl f_text)), (q_tries, .inl (cI, 22, .inl f_tries)), (q_firstOne, .inl (cI, 21, .inl f_firstOne)), (q_read, .inl (cI, 32, .inl f_read)), (q_coverSets, .inl (cI, 256, .inl f_coverSets)), (q_picks, .inl (cI, 8, .inl f_picks)), (q_covered, .inl (cI, 8, .inl f_covered)), (q_takenThreads, .inl (cI, 8, .inl f_takenThreads))]) (va_runV (As := [.int a2]) (rest := []) ⟨hx, hb, hml, hown, hts⟩ (k_X7_isKnot l D cI cC cN N q q_s q_past q_slot q_text q_tries q_firstOne q_read q_coverSets q_picks q_covered q_takenThreads H.size f_s f_past f_states f_slot f_isKept f_text f_length f_tries f_firstOne f_at f_ends f_read f_coverMany f_coverSets f_picks f_covered f_takenThreads f_circleMany f_circleOdd f_circleLongest a2 r_3 h_4) (cwV 1 hts gX7_between_X7_isKnot rfl rfl rfl (by decide +kernel) ⟨Nat.le_of_ble_eq_true rfl, Nat.le_of_ble_eq_true rfl⟩) ⟨g_blind, va_recv (D := D) (ci := 6) (q0 := 0) hK hP rfl rfl, g_pre (hP.sub [0, 1, 2, 3, 4, 5, 6, 7, 8, 9, 10, 11] rfl) hK hN (hD.sub [0, 1, 2, 3, 4, 5, 6, 7, 8, 9, 10, 11] (by decide) rfl)⟩ rfl rfl hl.1 rfl (lv_room (Nat.le_of_ble_eq_true rfl)) dX7_between_10 ⟨Nat.zero_le _, Nat.zero_le _⟩) hP hD hS hA [0, 1, 2, 3, 4, 5, 6, 7, 8, 9, 10, 11] [] rfl rfl (by decide) (by decide) rfl (fun H locs hP hD hS => ?_)
    refine lv_if_eq (tgt := 25) hx hb dX7_between_13 (by decide) (fun hc => ?_) (fun hc => ?_)
    · have hm := if_t _ hc hm
      refine lv_iconst (v := (-1)) hx hb dX7_between_25 (by decide) ?_
      have z1 := so_use hm
      subst z1
      exact hret _ _ _ _ _ dX7_between_26 rfl rfl hP hD hS
    · have hm := if_f _ hc hm
      refine lv_aload_n hx hb dX7_between_16 rfl (lv_at hl 0 rfl) ?_
      refine lv_iload_n hx hb dX7_between_17 rfl (lv_at hl 1 rfl) ?_
      refine lv_iload_n hx hb dX7_between_18 rfl (lv_at hl 2 rfl) ?_
      obtain ⟨r_5, h_6, hm⟩ := bind_use hm
      refine g_ki (wc := [(q, .inr (6, [.ref q_s, .ref q_past, .int f_states, .ref q_slot, .int f_isKept, .ref q_text, .int f_length, .ref q_tries, .ref q_firstOne, .int f_at, .int f_ends, .ref q_read, .int f_coverMany, .ref q_coverSets, .ref q_picks, .ref q_covered, .ref q_takenThreads, .int f_circleMany, .int f_circleOdd, .int f_circleLongest])), (q_s, .inl (cI, 65, .inl f_s)), (q_past, .inl (cI, 260, .inl f_past)), (q_slot, .inl (cI, 65, .inl f_slot)), (q_text, .inl (cC, 60, .inl f_text)), (q_tries, .inl (cI, 22, .inl f_tries)), (q_firstOne, .inl (cI, 21, .inl f_firstOne)), (q_read, .inl (cI, 32, .inl f_read)), (q_coverSets, .inl (cI, 256, .inl f_coverSets)), (q_picks, .inl (cI, 8, .inl f_picks)), (q_covered, .inl (cI, 8, .inl f_covered)), (q_takenThreads, .inl (cI, 8, .inl f_takenThreads))]) (wr := []) (w2 := [(q, .inr (6, [.ref q_s, .ref q_past, .int f_states, .ref q_slot, .int f_isKept, .ref q_text, .int f_length, .ref q_tries, .ref q_firstOne, .int f_at, .int f_ends, .ref q_read, .int f_coverMany, .ref q_coverSets, .ref q_picks, .ref q_covered, .ref q_takenThreads, .int f_circleMany, .int f_circleOdd, .int f_circleLongest])), (q_s, .inl (cI, 65, .inl f_s)), (q_past, .inl (cI, 260, .inl f_past)), (q_slot, .inl (cI, 65, .inl f_slot)), (q_text, .inl (cC, 60, .inl f_text)), (q_tries, .inl (cI, 22, .inl f_tries)), (q_firstOne, .inl (cI, 21, .inl f_firstOne)), (q_read, .inl (cI, 32, .inl f_read)), (q_coverSets, .inl (cI, 256, .inl f_coverSets)), (q_picks, .inl (cI, 8, .inl f_picks)), (q_covered, .inl (cI, 8, .inl f_covered)), (q_takenThreads, .inl (cI, 8, .inl f_takenThreads))]) (va_runV (As := [.int a1, .int a2]) (rest := []) ⟨hx, hb, hml, hown, hts⟩ (k_X7_threadBetween l D cI cC cN N q q_s q_past q_slot q_text q_tries q_firstOne q_read q_coverSets q_picks q_covered q_takenThreads H.size f_s f_past f_states f_slot f_isKept f_text f_length f_tries f_firstOne f_at f_ends f_read f_coverMany f_coverSets f_picks f_covered f_takenThreads f_circleMany f_circleOdd f_circleLongest a1 a2 r_5 h_6) (cwV 2 hts gX7_between_X7_threadBetween rfl rfl rfl (by decide +kernel) ⟨Nat.le_of_ble_eq_true rfl, Nat.le_of_ble_eq_true rfl⟩) ⟨g_blind, va_recv (D := D) (ci := 6) (q0 := 0) hK hP rfl rfl, g_pre (hP.sub [0, 1, 2, 3, 4, 5, 6, 7, 8, 9, 10, 11] rfl) hK hN (hD.sub [0, 1, 2, 3, 4, 5, 6, 7, 8, 9, 10, 11] (by decide) rfl)⟩ rfl rfl hl.1 rfl (lv_room (Nat.le_of_ble_eq_true rfl)) dX7_between_19 ⟨Nat.zero_le _, Nat.zero_le _⟩) hP hD hS hA [0, 1, 2, 3, 4, 5, 6, 7, 8, 9, 10, 11] [] rfl rfl (by decide) (by decide) rfl (fun H locs hP hD hS => ?_)
      refine lv_goto (tgt := 26) hx hb dX7_between_22 (by decide) ?_
      have z1 := so_use hm
      subst z1
      exact hret _ _ _ _ _ dX7_between_26 rfl rfl hP hD hS
abbrev rX7_covers : Room := { frames := 4, cells := 0, slots := 0, locals := 92 }
set_option maxHeartbeats 4000000 in
set_option maxRecDepth 100000 in
theorem k_X7_covers (l : Launch) (D : va_G) (cI cC cN : ClassId) (N : Nat) (q : Nat) (q_s : Nat) (q_past : Nat) (q_slot : Nat) (q_text : Nat) (q_tries : Nat) (q_firstOne : Nat) (q_read : Nat) (q_coverSets : Nat) (q_picks : Nat) (q_covered : Nat) (q_takenThreads : Nat) (sz : Nat) (f_s : Nat → Int32) (f_past : Nat → Int32) (f_states : Int32) (f_slot : Nat → Int32) (f_isKept : Int32) (f_text : Nat → Int32) (f_length : Int32) (f_tries : Nat → Int32) (f_firstOne : Nat → Int32) (f_at : Int32) (f_ends : Int32) (f_read : Nat → Int32) (f_coverMany : Int32) (f_coverSets : Nat → Int32) (f_picks : Nat → Int32) (f_covered : Nat → Int32) (f_takenThreads : Nat → Int32) (f_circleMany : Int32) (f_circleOdd : Int32) (f_circleLongest : Int32) (r : Int32) (f_coverMany' : Int32) (f_coverSets' : Nat → Int32) (f_picks' : Nat → Int32) (f_covered' : Nat → Int32) (f_takenThreads' : Nat → Int32) (hm : m_X7_covers N f_s f_coverMany f_coverSets f_picks f_covered f_takenThreads = some (r, f_coverMany', f_coverSets', f_picks', f_covered', f_takenThreads')) : Met l yX7_covers wsX7_covers (rX7_covers) (gPc D (tysG cI cC cN) [.ref q] [(q, .inr (6, [.ref q_s, .ref q_past, .int f_states, .ref q_slot, .int f_isKept, .ref q_text, .int f_length, .ref q_tries, .ref q_firstOne, .int f_at, .int f_ends, .ref q_read, .int f_coverMany, .ref q_coverSets, .ref q_picks, .ref q_covered, .ref q_takenThreads, .int f_circleMany, .int f_circleOdd, .int f_circleLongest])), (q_s, .inl (cI, 65, .inl f_s)), (q_past, .inl (cI, 260, .inl f_past)), (q_slot, .inl (cI, 65, .inl f_slot)), (q_text, .inl (cC, 60, .inl f_text)), (q_tries, .inl (cI, 22, .inl f_tries)), (q_firstOne, .inl (cI, 21, .inl f_firstOne)), (q_read, .inl (cI, 32, .inl f_read)), (q_coverSets, .inl (cI, 256, .inl f_coverSets)), (q_picks, .inl (cI, 8, .inl f_picks)), (q_covered, .inl (cI, 8, .inl f_covered)), (q_takenThreads, .inl (cI, 8, .inl f_takenThreads))] sz) (gQi D (tysG cI cC cN) (va_A [(q, .inr (6, [.ref q_s, .ref q_past, .int f_states, .ref q_slot, .int f_isKept, .ref q_text, .int f_length, .ref q_tries, .ref q_firstOne, .int f_at, .int f_ends, .ref q_read, .int f_coverMany, .ref q_coverSets, .ref q_picks, .ref q_covered, .ref q_takenThreads, .int f_circleMany, .int f_circleOdd, .int f_circleLongest])), (q_s, .inl (cI, 65, .inl f_s)), (q_past, .inl (cI, 260, .inl f_past)), (q_slot, .inl (cI, 65, .inl f_slot)), (q_text, .inl (cC, 60, .inl f_text)), (q_tries, .inl (cI, 22, .inl f_tries)), (q_firstOne, .inl (cI, 21, .inl f_firstOne)), (q_read, .inl (cI, 32, .inl f_read)), (q_coverSets, .inl (cI, 256, .inl f_coverSets)), (q_picks, .inl (cI, 8, .inl f_picks)), (q_covered, .inl (cI, 8, .inl f_covered)), (q_takenThreads, .inl (cI, 8, .inl f_takenThreads))] sz) [(q, .inr (6, [.ref q_s, .ref q_past, .int f_states, .ref q_slot, .int f_isKept, .ref q_text, .int f_length, .ref q_tries, .ref q_firstOne, .int f_at, .int f_ends, .ref q_read, .int f_coverMany', .ref q_coverSets, .ref q_picks, .ref q_covered, .ref q_takenThreads, .int f_circleMany, .int f_circleOdd, .int f_circleLongest])), (q_s, .inl (cI, 65, .inl f_s)), (q_past, .inl (cI, 260, .inl f_past)), (q_slot, .inl (cI, 65, .inl f_slot)), (q_text, .inl (cC, 60, .inl f_text)), (q_tries, .inl (cI, 22, .inl f_tries)), (q_firstOne, .inl (cI, 21, .inl f_firstOne)), (q_read, .inl (cI, 32, .inl f_read)), (q_coverSets, .inl (cI, 256, .inl f_coverSets')), (q_picks, .inl (cI, 8, .inl f_picks')), (q_covered, .inl (cI, 8, .inl f_covered')), (q_takenThreads, .inl (cI, 8, .inl f_takenThreads'))] r) 0 0 (va_A [(q, .inr (6, [.ref q_s, .ref q_past, .int f_states, .ref q_slot, .int f_isKept, .ref q_text, .int f_length, .ref q_tries, .ref q_firstOne, .int f_at, .int f_ends, .ref q_read, .int f_coverMany, .ref q_coverSets, .ref q_picks, .ref q_covered, .ref q_takenThreads, .int f_circleMany, .int f_circleOdd, .int f_circleLongest])), (q_s, .inl (cI, 65, .inl f_s)), (q_past, .inl (cI, 260, .inl f_past)), (q_slot, .inl (cI, 65, .inl f_slot)), (q_text, .inl (cC, 60, .inl f_text)), (q_tries, .inl (cI, 22, .inl f_tries)), (q_firstOne, .inl (cI, 21, .inl f_firstOne)), (q_read, .inl (cI, 32, .inl f_read)), (q_coverSets, .inl (cI, 256, .inl f_coverSets)), (q_picks, .inl (cI, 8, .inl f_picks)), (q_covered, .inl (cI, 8, .inl f_covered)), (q_takenThreads, .inl (cI, 8, .inl f_takenThreads))] sz) := by
  unfold m_X7_covers at hm
  refine g_openI (cc := cX7_covers) (maxL := 1) (own := RX7) (by decide) rfl rfl (Nat.le_of_ble_eq_true rfl) ?_
  intro p e s m args below meth c A Q hx hb hml hown hts hP hK hN hD hA hret ls hl
  have hS : va_S A s.heap s.heap [] := va_S.rf
  have hl : lv_has ls 1 [(0, .ref q)] := hl
  refine lv_aload_n hx hb dX7_covers_0 rfl (lv_at hl 0 rfl) ?_
  obtain ⟨⟨f_coverMany_1, f_coverSets_2, f_picks_3, f_covered_4, f_takenThreads_5⟩, h_6, hm⟩ := bind_use hm
  refine g_kv (wc := [(q, .inr (6, [.ref q_s, .ref q_past, .int f_states, .ref q_slot, .int f_isKept, .ref q_text, .int f_length, .ref q_tries, .ref q_firstOne, .int f_at, .int f_ends, .ref q_read, .int f_coverMany, .ref q_coverSets, .ref q_picks, .ref q_covered, .ref q_takenThreads, .int f_circleMany, .int f_circleOdd, .int f_circleLongest])), (q_s, .inl (cI, 65, .inl f_s)), (q_past, .inl (cI, 260, .inl f_past)), (q_slot, .inl (cI, 65, .inl f_slot)), (q_text, .inl (cC, 60, .inl f_text)), (q_tries, .inl (cI, 22, .inl f_tries)), (q_firstOne, .inl (cI, 21, .inl f_firstOne)), (q_read, .inl (cI, 32, .inl f_read)), (q_coverSets, .inl (cI, 256, .inl f_coverSets)), (q_picks, .inl (cI, 8, .inl f_picks)), (q_covered, .inl (cI, 8, .inl f_covered)), (q_takenThreads, .inl (cI, 8, .inl f_takenThreads))]) (wr := []) (w2 := [(q, .inr (6, [.ref q_s, .ref q_past, .int f_states, .ref q_slot, .int f_isKept, .ref q_text, .int f_length, .ref q_tries, .ref q_firstOne, .int f_at, .int f_ends, .ref q_read, .int f_coverMany_1, .ref q_coverSets, .ref q_picks, .ref q_covered, .ref q_takenThreads, .int f_circleMany, .int f_circleOdd, .int f_circleLongest])), (q_s, .inl (cI, 65, .inl f_s)), (q_past, .inl (cI, 260, .inl f_past)), (q_slot, .inl (cI, 65, .inl f_slot)), (q_text, .inl (cC, 60, .inl f_text)), (q_tries, .inl (cI, 22, .inl f_tries)), (q_firstOne, .inl (cI, 21, .inl f_firstOne)), (q_read, .inl (cI, 32, .inl f_read)), (q_coverSets, .inl (cI, 256, .inl f_coverSets_2)), (q_picks, .inl (cI, 8, .inl f_picks_3)), (q_covered, .inl (cI, 8, .inl f_covered_4)), (q_takenThreads, .inl (cI, 8, .inl f_takenThreads_5))]) (va_runV (As := []) (rest := []) ⟨hx, hb, hml, hown, hts⟩ (k_X7_findCovers l D cI cC cN N q q_s q_past q_slot q_text q_tries q_firstOne q_read q_coverSets q_picks q_covered q_takenThreads s.heap.size f_s f_past f_states f_slot f_isKept f_text f_length f_tries f_firstOne f_at f_ends f_read f_coverMany f_coverSets f_picks f_covered f_takenThreads f_circleMany f_circleOdd f_circleLongest f_coverMany_1 f_coverSets_2 f_picks_3 f_covered_4 f_takenThreads_5 h_6) (cwV 0 hts gX7_covers_X7_findCovers rfl rfl rfl (by decide +kernel) ⟨Nat.le_of_ble_eq_true rfl, Nat.le_of_ble_eq_true rfl⟩) ⟨g_blind, va_recv (D := D) (ci := 6) (q0 := 0) hK hP rfl rfl, g_pre (hP.sub [0, 1, 2, 3, 4, 5, 6, 7, 8, 9, 10, 11] rfl) hK hN (hD.sub [0, 1, 2, 3, 4, 5, 6, 7, 8, 9, 10, 11] (by decide) rfl)⟩ rfl rfl hl.1 rfl (lv_room (Nat.le_of_ble_eq_true rfl)) dX7_covers_1 ⟨Nat.zero_le _, Nat.zero_le _⟩) hP hD hS hA [0, 1, 2, 3, 4, 5, 6, 7, 8, 9, 10, 11] [] rfl rfl (by decide) (by decide) rfl (fun H locs hP hD hS => ?_)
  refine lv_aload_n hx hb dX7_covers_4 rfl (lv_at hl 0 rfl) ?_
  refine va_get (D := D) (ci := 6) (v := .int f_coverMany_1) (C := RX7) (T := TX7) (N := 20) hx hb hts (by decide +kernel) hown hK hP 0 rfl rfl 12 (by decide) (hts (.fieldLink RX7 238 "KnotStripesModel" "coverMany" "I") (by decide +kernel)) (fun _ h9 => h9) rfl dX7_covers_5 ?_
  have z1 := so_use hm
  obtain ⟨y1, z2⟩ := pr_use z1
  obtain ⟨y2, z3⟩ := pr_use z2
  obtain ⟨y3, z4⟩ := pr_use z3
  obtain ⟨y4, z5⟩ := pr_use z4
  obtain ⟨y5, z6⟩ := pr_use z5
  subst y1
  subst y2
  subst y3
  subst y4
  subst y5
  subst z6
  exact hret _ _ _ _ _ dX7_covers_8 rfl rfl hP hD hS
abbrev rX7_count : Room := { frames := 5, cells := 0, slots := 0, locals := 112 }
set_option maxHeartbeats 4000000 in
set_option maxRecDepth 100000 in
theorem k_X7_count (l : Launch) (D : va_G) (cI cC cN : ClassId) (N : Nat) (q : Nat) (q_s : Nat) (q_past : Nat) (q_slot : Nat) (q_text : Nat) (q_tries : Nat) (q_firstOne : Nat) (q_read : Nat) (q_coverSets : Nat) (q_picks : Nat) (q_covered : Nat) (q_takenThreads : Nat) (sz : Nat) (f_s : Nat → Int32) (f_past : Nat → Int32) (f_states : Int32) (f_slot : Nat → Int32) (f_isKept : Int32) (f_text : Nat → Int32) (f_length : Int32) (f_tries : Nat → Int32) (f_firstOne : Nat → Int32) (f_at : Int32) (f_ends : Int32) (f_read : Nat → Int32) (f_coverMany : Int32) (f_coverSets : Nat → Int32) (f_picks : Nat → Int32) (f_covered : Nat → Int32) (f_takenThreads : Nat → Int32) (f_circleMany : Int32) (f_circleOdd : Int32) (f_circleLongest : Int32) (a1 : Int32) (r : Int32) (f_coverMany' : Int32) (f_coverSets' : Nat → Int32) (f_picks' : Nat → Int32) (f_covered' : Nat → Int32) (f_takenThreads' : Nat → Int32) (hm : m_X7_count N f_s f_states f_length f_coverMany f_coverSets f_picks f_covered f_takenThreads a1 = some (r, f_coverMany', f_coverSets', f_picks', f_covered', f_takenThreads')) : Met l yX7_count wsX7_count (rX7_count) (gPc D (tysG cI cC cN) [.ref q, .int a1] [(q, .inr (6, [.ref q_s, .ref q_past, .int f_states, .ref q_slot, .int f_isKept, .ref q_text, .int f_length, .ref q_tries, .ref q_firstOne, .int f_at, .int f_ends, .ref q_read, .int f_coverMany, .ref q_coverSets, .ref q_picks, .ref q_covered, .ref q_takenThreads, .int f_circleMany, .int f_circleOdd, .int f_circleLongest])), (q_s, .inl (cI, 65, .inl f_s)), (q_past, .inl (cI, 260, .inl f_past)), (q_slot, .inl (cI, 65, .inl f_slot)), (q_text, .inl (cC, 60, .inl f_text)), (q_tries, .inl (cI, 22, .inl f_tries)), (q_firstOne, .inl (cI, 21, .inl f_firstOne)), (q_read, .inl (cI, 32, .inl f_read)), (q_coverSets, .inl (cI, 256, .inl f_coverSets)), (q_picks, .inl (cI, 8, .inl f_picks)), (q_covered, .inl (cI, 8, .inl f_covered)), (q_takenThreads, .inl (cI, 8, .inl f_takenThreads))] sz) (gQi D (tysG cI cC cN) (va_A [(q, .inr (6, [.ref q_s, .ref q_past, .int f_states, .ref q_slot, .int f_isKept, .ref q_text, .int f_length, .ref q_tries, .ref q_firstOne, .int f_at, .int f_ends, .ref q_read, .int f_coverMany, .ref q_coverSets, .ref q_picks, .ref q_covered, .ref q_takenThreads, .int f_circleMany, .int f_circleOdd, .int f_circleLongest])), (q_s, .inl (cI, 65, .inl f_s)), (q_past, .inl (cI, 260, .inl f_past)), (q_slot, .inl (cI, 65, .inl f_slot)), (q_text, .inl (cC, 60, .inl f_text)), (q_tries, .inl (cI, 22, .inl f_tries)), (q_firstOne, .inl (cI, 21, .inl f_firstOne)), (q_read, .inl (cI, 32, .inl f_read)), (q_coverSets, .inl (cI, 256, .inl f_coverSets)), (q_picks, .inl (cI, 8, .inl f_picks)), (q_covered, .inl (cI, 8, .inl f_covered)), (q_takenThreads, .inl (cI, 8, .inl f_takenThreads))] sz) [(q, .inr (6, [.ref q_s, .ref q_past, .int f_states, .ref q_slot, .int f_isKept, .ref q_text, .int f_length, .ref q_tries, .ref q_firstOne, .int f_at, .int f_ends, .ref q_read, .int f_coverMany', .ref q_coverSets, .ref q_picks, .ref q_covered, .ref q_takenThreads, .int f_circleMany, .int f_circleOdd, .int f_circleLongest])), (q_s, .inl (cI, 65, .inl f_s)), (q_past, .inl (cI, 260, .inl f_past)), (q_slot, .inl (cI, 65, .inl f_slot)), (q_text, .inl (cC, 60, .inl f_text)), (q_tries, .inl (cI, 22, .inl f_tries)), (q_firstOne, .inl (cI, 21, .inl f_firstOne)), (q_read, .inl (cI, 32, .inl f_read)), (q_coverSets, .inl (cI, 256, .inl f_coverSets')), (q_picks, .inl (cI, 8, .inl f_picks')), (q_covered, .inl (cI, 8, .inl f_covered')), (q_takenThreads, .inl (cI, 8, .inl f_takenThreads'))] r) 0 0 (va_A [(q, .inr (6, [.ref q_s, .ref q_past, .int f_states, .ref q_slot, .int f_isKept, .ref q_text, .int f_length, .ref q_tries, .ref q_firstOne, .int f_at, .int f_ends, .ref q_read, .int f_coverMany, .ref q_coverSets, .ref q_picks, .ref q_covered, .ref q_takenThreads, .int f_circleMany, .int f_circleOdd, .int f_circleLongest])), (q_s, .inl (cI, 65, .inl f_s)), (q_past, .inl (cI, 260, .inl f_past)), (q_slot, .inl (cI, 65, .inl f_slot)), (q_text, .inl (cC, 60, .inl f_text)), (q_tries, .inl (cI, 22, .inl f_tries)), (q_firstOne, .inl (cI, 21, .inl f_firstOne)), (q_read, .inl (cI, 32, .inl f_read)), (q_coverSets, .inl (cI, 256, .inl f_coverSets)), (q_picks, .inl (cI, 8, .inl f_picks)), (q_covered, .inl (cI, 8, .inl f_covered)), (q_takenThreads, .inl (cI, 8, .inl f_takenThreads))] sz) := by
  unfold m_X7_count at hm
  refine g_openI (cc := cX7_count) (maxL := 2) (own := RX7) (by decide) rfl rfl (Nat.le_of_ble_eq_true rfl) ?_
  intro p e s m args below meth c A Q hx hb hml hown hts hP hK hN hD hA hret ls hl
  have hS : va_S A s.heap s.heap [] := va_S.rf
  have hl : lv_has ls 2 [(0, .ref q), (1, .int a1)] := hl
  refine lv_iload_n hx hb dX7_count_0 rfl (lv_at hl 1 rfl) ?_
  by_cases hc : Int32.toInt a1 < 0 ∨ 10 < Int32.toInt a1
  · have hm := if_t _ hc hm
    refine lv_tableOut (tgt := 137) hx hb dX7_count_1 hc (by decide) ?_
    refine lv_bipush (v := (-2)) hx hb dX7_count_137 (by decide) ?_
    have z1 := so_use hm
    obtain ⟨y1, z2⟩ := pr_use z1
    obtain ⟨y2, z3⟩ := pr_use z2
    obtain ⟨y3, z4⟩ := pr_use z3
    obtain ⟨y4, z5⟩ := pr_use z4
    obtain ⟨y5, z6⟩ := pr_use z5
    subst y1
    subst y2
    subst y3
    subst y4
    subst y5
    subst z6
    exact hret _ _ _ _ _ dX7_count_139 rfl rfl hP hD hS
  have hm := if_f _ hc hm
  by_cases hc : a1 = 0
  · have hm := if_t _ hc hm
    refine lv_tableIn (off := 59) (tgt := 60) hx hb dX7_count_1 (by rw [hc]; decide) (by rw [hc]; decide) (by rw [hc]; rfl) (by decide) ?_
    refine lv_aload_n hx hb dX7_count_60 rfl (lv_at hl 0 rfl) ?_
    refine va_get (D := D) (ci := 6) (v := .ref q_s) (C := RX7) (T := TX7) (N := 20) hx hb hts (by decide +kernel) hown hK hP 0 rfl rfl 0 (by decide) (hts (.fieldLink RX7 7 "KnotStripesModel" "s" "[I") (by decide +kernel)) (fun _ h9 => h9) rfl dX7_count_61 ?_
    refine lv_iconst (v := 0) hx hb dX7_count_64 (by decide) ?_
    obtain ⟨hi_1, hm⟩ := ard_use hm
    refine va_iald (D := D) (n := 65) (f := f_s) hx hb hK hP 1 0 rfl rfl hi_1 dX7_count_65 ?_
    refine lv_topi (fun u_2 eu_2 => ?_)
    have hm := nm_use eu_2 hm
    have z1 := so_use hm
    obtain ⟨y1, z2⟩ := pr_use z1
    obtain ⟨y2, z3⟩ := pr_use z2
    obtain ⟨y3, z4⟩ := pr_use z3
    obtain ⟨y4, z5⟩ := pr_use z4
    obtain ⟨y5, z6⟩ := pr_use z5
    subst y1
    subst y2
    subst y3
    subst y4
    subst y5
    subst z6
    exact hret _ _ _ _ _ dX7_count_66 rfl rfl hP hD hS
  have hm := if_f _ hc hm
  by_cases hc : a1 = 1
  · have hm := if_t _ hc hm
    refine lv_tableIn (off := 66) (tgt := 67) hx hb dX7_count_1 (by rw [hc]; decide) (by rw [hc]; decide) (by rw [hc]; rfl) (by decide) ?_
    refine lv_aload_n hx hb dX7_count_67 rfl (lv_at hl 0 rfl) ?_
    refine va_get (D := D) (ci := 6) (v := .ref q_s) (C := RX7) (T := TX7) (N := 20) hx hb hts (by decide +kernel) hown hK hP 0 rfl rfl 0 (by decide) (hts (.fieldLink RX7 7 "KnotStripesModel" "s" "[I") (by decide +kernel)) (fun _ h9 => h9) rfl dX7_count_68 ?_
    refine lv_iconst (v := 1) hx hb dX7_count_71 (by decide) ?_
    obtain ⟨hi_3, hm⟩ := ard_use hm
    refine va_iald (D := D) (n := 65) (f := f_s) hx hb hK hP 1 0 rfl rfl hi_3 dX7_count_72 ?_
    refine lv_topi (fun u_4 eu_4 => ?_)
    have hm := nm_use eu_4 hm
    have z1 := so_use hm
    obtain ⟨y1, z2⟩ := pr_use z1
    obtain ⟨y2, z3⟩ := pr_use z2
    obtain ⟨y3, z4⟩ := pr_use z3
    obtain ⟨y4, z5⟩ := pr_use z4
    obtain ⟨y5, z6⟩ := pr_use z5
    subst y1
    subst y2
    subst y3
    subst y4
    subst y5
    subst z6
    exact hret _ _ _ _ _ dX7_count_73 rfl rfl hP hD hS
  have hm := if_f _ hc hm
  by_cases hc : a1 = 2
  · have hm := if_t _ hc hm
    refine lv_tableIn (off := 73) (tgt := 74) hx hb dX7_count_1 (by rw [hc]; decide) (by rw [hc]; decide) (by rw [hc]; rfl) (by decide) ?_
    refine lv_aload_n hx hb dX7_count_74 rfl (lv_at hl 0 rfl) ?_
    obtain ⟨r_5, h_6, hm⟩ := bind_use hm
    refine g_ki (wc := [(q, .inr (6, [.ref q_s, .ref q_past, .int f_states, .ref q_slot, .int f_isKept, .ref q_text, .int f_length, .ref q_tries, .ref q_firstOne, .int f_at, .int f_ends, .ref q_read, .int f_coverMany, .ref q_coverSets, .ref q_picks, .ref q_covered, .ref q_takenThreads, .int f_circleMany, .int f_circleOdd, .int f_circleLongest])), (q_s, .inl (cI, 65, .inl f_s)), (q_past, .inl (cI, 260, .inl f_past)), (q_slot, .inl (cI, 65, .inl f_slot)), (q_text, .inl (cC, 60, .inl f_text)), (q_tries, .inl (cI, 22, .inl f_tries)), (q_firstOne, .inl (cI, 21, .inl f_firstOne)), (q_read, .inl (cI, 32, .inl f_read)), (q_coverSets, .inl (cI, 256, .inl f_coverSets)), (q_picks, .inl (cI, 8, .inl f_picks)), (q_covered, .inl (cI, 8, .inl f_covered)), (q_takenThreads, .inl (cI, 8, .inl f_takenThreads))]) (wr := []) (w2 := [(q, .inr (6, [.ref q_s, .ref q_past, .int f_states, .ref q_slot, .int f_isKept, .ref q_text, .int f_length, .ref q_tries, .ref q_firstOne, .int f_at, .int f_ends, .ref q_read, .int f_coverMany, .ref q_coverSets, .ref q_picks, .ref q_covered, .ref q_takenThreads, .int f_circleMany, .int f_circleOdd, .int f_circleLongest])), (q_s, .inl (cI, 65, .inl f_s)), (q_past, .inl (cI, 260, .inl f_past)), (q_slot, .inl (cI, 65, .inl f_slot)), (q_text, .inl (cC, 60, .inl f_text)), (q_tries, .inl (cI, 22, .inl f_tries)), (q_firstOne, .inl (cI, 21, .inl f_firstOne)), (q_read, .inl (cI, 32, .inl f_read)), (q_coverSets, .inl (cI, 256, .inl f_coverSets)), (q_picks, .inl (cI, 8, .inl f_picks)), (q_covered, .inl (cI, 8, .inl f_covered)), (q_takenThreads, .inl (cI, 8, .inl f_takenThreads))]) (va_runV (As := []) (rest := []) ⟨hx, hb, hml, hown, hts⟩ (k_X7_isFullNet l D cI cC cN N q q_s q_past q_slot q_text q_tries q_firstOne q_read q_coverSets q_picks q_covered q_takenThreads s.heap.size f_s f_past f_states f_slot f_isKept f_text f_length f_tries f_firstOne f_at f_ends f_read f_coverMany f_coverSets f_picks f_covered f_takenThreads f_circleMany f_circleOdd f_circleLongest r_5 h_6) (cwV 0 hts gX7_count_X7_isFullNet rfl rfl rfl (by decide +kernel) ⟨Nat.le_of_ble_eq_true rfl, Nat.le_of_ble_eq_true rfl⟩) ⟨g_blind, va_recv (D := D) (ci := 6) (q0 := 0) hK hP rfl rfl, g_pre (hP.sub [0, 1, 2, 3, 4, 5, 6, 7, 8, 9, 10, 11] rfl) hK hN (hD.sub [0, 1, 2, 3, 4, 5, 6, 7, 8, 9, 10, 11] (by decide) rfl)⟩ rfl rfl hl.1 rfl (lv_room (Nat.le_of_ble_eq_true rfl)) dX7_count_75 ⟨Nat.zero_le _, Nat.zero_le _⟩) hP hD hS hA [0, 1, 2, 3, 4, 5, 6, 7, 8, 9, 10, 11] [] rfl rfl (by decide) (by decide) rfl (fun H locs hP hD hS => ?_)
    refine lv_if_eq (tgt := 85) hx hb dX7_count_78 (by decide) (fun hc => ?_) (fun hc => ?_)
    · have hm := if_t _ hc hm
      refine lv_iconst (v := 0) hx hb dX7_count_85 (by decide) ?_
      have z1 := so_use hm
      obtain ⟨y1, z2⟩ := pr_use z1
      obtain ⟨y2, z3⟩ := pr_use z2
      obtain ⟨y3, z4⟩ := pr_use z3
      obtain ⟨y4, z5⟩ := pr_use z4
      obtain ⟨y5, z6⟩ := pr_use z5
      subst y1
      subst y2
      subst y3
      subst y4
      subst y5
      subst z6
      exact hret _ _ _ _ _ dX7_count_86 rfl rfl hP hD hS
    · have hm := if_f _ hc hm
      refine lv_iconst (v := 1) hx hb dX7_count_81 (by decide) ?_
      refine lv_goto (tgt := 86) hx hb dX7_count_82 (by decide) ?_
      have z1 := so_use hm
      obtain ⟨y1, z2⟩ := pr_use z1
      obtain ⟨y2, z3⟩ := pr_use z2
      obtain ⟨y3, z4⟩ := pr_use z3
      obtain ⟨y4, z5⟩ := pr_use z4
      obtain ⟨y5, z6⟩ := pr_use z5
      subst y1
      subst y2
      subst y3
      subst y4
      subst y5
      subst z6
      exact hret _ _ _ _ _ dX7_count_86 rfl rfl hP hD hS
  have hm := if_f _ hc hm
  by_cases hc : a1 = 3
  · have hm := if_t _ hc hm
    refine lv_tableIn (off := 86) (tgt := 87) hx hb dX7_count_1 (by rw [hc]; decide) (by rw [hc]; decide) (by rw [hc]; rfl) (by decide) ?_
    refine lv_aload_n hx hb dX7_count_87 rfl (lv_at hl 0 rfl) ?_
    obtain ⟨r_7, h_8, hm⟩ := bind_use hm
    refine g_ki (wc := [(q, .inr (6, [.ref q_s, .ref q_past, .int f_states, .ref q_slot, .int f_isKept, .ref q_text, .int f_length, .ref q_tries, .ref q_firstOne, .int f_at, .int f_ends, .ref q_read, .int f_coverMany, .ref q_coverSets, .ref q_picks, .ref q_covered, .ref q_takenThreads, .int f_circleMany, .int f_circleOdd, .int f_circleLongest])), (q_s, .inl (cI, 65, .inl f_s)), (q_past, .inl (cI, 260, .inl f_past)), (q_slot, .inl (cI, 65, .inl f_slot)), (q_text, .inl (cC, 60, .inl f_text)), (q_tries, .inl (cI, 22, .inl f_tries)), (q_firstOne, .inl (cI, 21, .inl f_firstOne)), (q_read, .inl (cI, 32, .inl f_read)), (q_coverSets, .inl (cI, 256, .inl f_coverSets)), (q_picks, .inl (cI, 8, .inl f_picks)), (q_covered, .inl (cI, 8, .inl f_covered)), (q_takenThreads, .inl (cI, 8, .inl f_takenThreads))]) (wr := []) (w2 := [(q, .inr (6, [.ref q_s, .ref q_past, .int f_states, .ref q_slot, .int f_isKept, .ref q_text, .int f_length, .ref q_tries, .ref q_firstOne, .int f_at, .int f_ends, .ref q_read, .int f_coverMany, .ref q_coverSets, .ref q_picks, .ref q_covered, .ref q_takenThreads, .int f_circleMany, .int f_circleOdd, .int f_circleLongest])), (q_s, .inl (cI, 65, .inl f_s)), (q_past, .inl (cI, 260, .inl f_past)), (q_slot, .inl (cI, 65, .inl f_slot)), (q_text, .inl (cC, 60, .inl f_text)), (q_tries, .inl (cI, 22, .inl f_tries)), (q_firstOne, .inl (cI, 21, .inl f_firstOne)), (q_read, .inl (cI, 32, .inl f_read)), (q_coverSets, .inl (cI, 256, .inl f_coverSets)), (q_picks, .inl (cI, 8, .inl f_picks)), (q_covered, .inl (cI, 8, .inl f_covered)), (q_takenThreads, .inl (cI, 8, .inl f_takenThreads))]) (va_runV (As := []) (rest := []) ⟨hx, hb, hml, hown, hts⟩ (k_X7_parts l D cI cC cN N q q_s q_past q_slot q_text q_tries q_firstOne q_read q_coverSets q_picks q_covered q_takenThreads s.heap.size f_s f_past f_states f_slot f_isKept f_text f_length f_tries f_firstOne f_at f_ends f_read f_coverMany f_coverSets f_picks f_covered f_takenThreads f_circleMany f_circleOdd f_circleLongest r_7 h_8) (cwV 0 hts gX7_count_X7_parts rfl rfl rfl (by decide +kernel) ⟨Nat.le_of_ble_eq_true rfl, Nat.le_of_ble_eq_true rfl⟩) ⟨g_blind, va_recv (D := D) (ci := 6) (q0 := 0) hK hP rfl rfl, g_pre (hP.sub [0, 1, 2, 3, 4, 5, 6, 7, 8, 9, 10, 11] rfl) hK hN (hD.sub [0, 1, 2, 3, 4, 5, 6, 7, 8, 9, 10, 11] (by decide) rfl)⟩ rfl rfl hl.1 rfl (lv_room (Nat.le_of_ble_eq_true rfl)) dX7_count_88 ⟨Nat.zero_le _, Nat.zero_le _⟩) hP hD hS hA [0, 1, 2, 3, 4, 5, 6, 7, 8, 9, 10, 11] [] rfl rfl (by decide) (by decide) rfl (fun H locs hP hD hS => ?_)
    have z1 := so_use hm
    obtain ⟨y1, z2⟩ := pr_use z1
    obtain ⟨y2, z3⟩ := pr_use z2
    obtain ⟨y3, z4⟩ := pr_use z3
    obtain ⟨y4, z5⟩ := pr_use z4
    obtain ⟨y5, z6⟩ := pr_use z5
    subst y1
    subst y2
    subst y3
    subst y4
    subst y5
    subst z6
    exact hret _ _ _ _ _ dX7_count_91 rfl rfl hP hD hS
  have hm := if_f _ hc hm
  by_cases hc : a1 = 4
  · have hm := if_t _ hc hm
    refine lv_tableIn (off := 91) (tgt := 92) hx hb dX7_count_1 (by rw [hc]; decide) (by rw [hc]; decide) (by rw [hc]; rfl) (by decide) ?_
    refine lv_aload_n hx hb dX7_count_92 rfl (lv_at hl 0 rfl) ?_
    obtain ⟨r_9, h_10, hm⟩ := bind_use hm
    refine g_ki (wc := [(q, .inr (6, [.ref q_s, .ref q_past, .int f_states, .ref q_slot, .int f_isKept, .ref q_text, .int f_length, .ref q_tries, .ref q_firstOne, .int f_at, .int f_ends, .ref q_read, .int f_coverMany, .ref q_coverSets, .ref q_picks, .ref q_covered, .ref q_takenThreads, .int f_circleMany, .int f_circleOdd, .int f_circleLongest])), (q_s, .inl (cI, 65, .inl f_s)), (q_past, .inl (cI, 260, .inl f_past)), (q_slot, .inl (cI, 65, .inl f_slot)), (q_text, .inl (cC, 60, .inl f_text)), (q_tries, .inl (cI, 22, .inl f_tries)), (q_firstOne, .inl (cI, 21, .inl f_firstOne)), (q_read, .inl (cI, 32, .inl f_read)), (q_coverSets, .inl (cI, 256, .inl f_coverSets)), (q_picks, .inl (cI, 8, .inl f_picks)), (q_covered, .inl (cI, 8, .inl f_covered)), (q_takenThreads, .inl (cI, 8, .inl f_takenThreads))]) (wr := []) (w2 := [(q, .inr (6, [.ref q_s, .ref q_past, .int f_states, .ref q_slot, .int f_isKept, .ref q_text, .int f_length, .ref q_tries, .ref q_firstOne, .int f_at, .int f_ends, .ref q_read, .int f_coverMany, .ref q_coverSets, .ref q_picks, .ref q_covered, .ref q_takenThreads, .int f_circleMany, .int f_circleOdd, .int f_circleLongest])), (q_s, .inl (cI, 65, .inl f_s)), (q_past, .inl (cI, 260, .inl f_past)), (q_slot, .inl (cI, 65, .inl f_slot)), (q_text, .inl (cC, 60, .inl f_text)), (q_tries, .inl (cI, 22, .inl f_tries)), (q_firstOne, .inl (cI, 21, .inl f_firstOne)), (q_read, .inl (cI, 32, .inl f_read)), (q_coverSets, .inl (cI, 256, .inl f_coverSets)), (q_picks, .inl (cI, 8, .inl f_picks)), (q_covered, .inl (cI, 8, .inl f_covered)), (q_takenThreads, .inl (cI, 8, .inl f_takenThreads))]) (va_runV (As := []) (rest := []) ⟨hx, hb, hml, hown, hts⟩ (k_X7_bridges l D cI cC cN N q q_s q_past q_slot q_text q_tries q_firstOne q_read q_coverSets q_picks q_covered q_takenThreads s.heap.size f_s f_past f_states f_slot f_isKept f_text f_length f_tries f_firstOne f_at f_ends f_read f_coverMany f_coverSets f_picks f_covered f_takenThreads f_circleMany f_circleOdd f_circleLongest r_9 h_10) (cwV 0 hts gX7_count_X7_bridges rfl rfl rfl (by decide +kernel) ⟨Nat.le_of_ble_eq_true rfl, Nat.le_of_ble_eq_true rfl⟩) ⟨g_blind, va_recv (D := D) (ci := 6) (q0 := 0) hK hP rfl rfl, g_pre (hP.sub [0, 1, 2, 3, 4, 5, 6, 7, 8, 9, 10, 11] rfl) hK hN (hD.sub [0, 1, 2, 3, 4, 5, 6, 7, 8, 9, 10, 11] (by decide) rfl)⟩ rfl rfl hl.1 rfl (lv_room (Nat.le_of_ble_eq_true rfl)) dX7_count_93 ⟨Nat.zero_le _, Nat.zero_le _⟩) hP hD hS hA [0, 1, 2, 3, 4, 5, 6, 7, 8, 9, 10, 11] [] rfl rfl (by decide) (by decide) rfl (fun H locs hP hD hS => ?_)
    have z1 := so_use hm
    obtain ⟨y1, z2⟩ := pr_use z1
    obtain ⟨y2, z3⟩ := pr_use z2
    obtain ⟨y3, z4⟩ := pr_use z3
    obtain ⟨y4, z5⟩ := pr_use z4
    obtain ⟨y5, z6⟩ := pr_use z5
    subst y1
    subst y2
    subst y3
    subst y4
    subst y5
    subst z6
    exact hret _ _ _ _ _ dX7_count_96 rfl rfl hP hD hS
  have hm := if_f _ hc hm
  by_cases hc : a1 = 5
  · have hm := if_t _ hc hm
    refine lv_tableIn (off := 96) (tgt := 97) hx hb dX7_count_1 (by rw [hc]; decide) (by rw [hc]; decide) (by rw [hc]; rfl) (by decide) ?_
    refine lv_aload_n hx hb dX7_count_97 rfl (lv_at hl 0 rfl) ?_
    refine lv_iconst (v := 1) hx hb dX7_count_98 (by decide) ?_
    refine lv_aload_n hx hb dX7_count_99 rfl (lv_at hl 0 rfl) ?_
    refine va_get (D := D) (ci := 6) (v := .ref q_s) (C := RX7) (T := TX7) (N := 20) hx hb hts (by decide +kernel) hown hK hP 0 rfl rfl 0 (by decide) (hts (.fieldLink RX7 7 "KnotStripesModel" "s" "[I") (by decide +kernel)) (fun _ h9 => h9) rfl dX7_count_100 ?_
    refine lv_iconst (v := 1) hx hb dX7_count_103 (by decide) ?_
    obtain ⟨hi_11, hm⟩ := ard_use hm
    refine va_iald (D := D) (n := 65) (f := f_s) hx hb hK hP 1 0 rfl rfl hi_11 dX7_count_104 ?_
    refine lv_topi (fun u_12 eu_12 => ?_)
    have hm := nm_use eu_12 hm
    refine gv_ishl hx hb dX7_count_105 ?_
    refine lv_iconst (v := 1) hx hb dX7_count_106 (by decide) ?_
    refine lv_isub hx hb dX7_count_107 ?_
    obtain ⟨r_13, h_14, hm⟩ := bind_use hm
    refine g_ki (wc := [(q, .inr (6, [.ref q_s, .ref q_past, .int f_states, .ref q_slot, .int f_isKept, .ref q_text, .int f_length, .ref q_tries, .ref q_firstOne, .int f_at, .int f_ends, .ref q_read, .int f_coverMany, .ref q_coverSets, .ref q_picks, .ref q_covered, .ref q_takenThreads, .int f_circleMany, .int f_circleOdd, .int f_circleLongest])), (q_s, .inl (cI, 65, .inl f_s)), (q_past, .inl (cI, 260, .inl f_past)), (q_slot, .inl (cI, 65, .inl f_slot)), (q_text, .inl (cC, 60, .inl f_text)), (q_tries, .inl (cI, 22, .inl f_tries)), (q_firstOne, .inl (cI, 21, .inl f_firstOne)), (q_read, .inl (cI, 32, .inl f_read)), (q_coverSets, .inl (cI, 256, .inl f_coverSets)), (q_picks, .inl (cI, 8, .inl f_picks)), (q_covered, .inl (cI, 8, .inl f_covered)), (q_takenThreads, .inl (cI, 8, .inl f_takenThreads))]) (wr := []) (w2 := [(q, .inr (6, [.ref q_s, .ref q_past, .int f_states, .ref q_slot, .int f_isKept, .ref q_text, .int f_length, .ref q_tries, .ref q_firstOne, .int f_at, .int f_ends, .ref q_read, .int f_coverMany, .ref q_coverSets, .ref q_picks, .ref q_covered, .ref q_takenThreads, .int f_circleMany, .int f_circleOdd, .int f_circleLongest])), (q_s, .inl (cI, 65, .inl f_s)), (q_past, .inl (cI, 260, .inl f_past)), (q_slot, .inl (cI, 65, .inl f_slot)), (q_text, .inl (cC, 60, .inl f_text)), (q_tries, .inl (cI, 22, .inl f_tries)), (q_firstOne, .inl (cI, 21, .inl f_firstOne)), (q_read, .inl (cI, 32, .inl f_read)), (q_coverSets, .inl (cI, 256, .inl f_coverSets)), (q_picks, .inl (cI, 8, .inl f_picks)), (q_covered, .inl (cI, 8, .inl f_covered)), (q_takenThreads, .inl (cI, 8, .inl f_takenThreads))]) (va_runV (As := [.int ((sh 1 u_12) - 1)]) (rest := []) ⟨hx, hb, hml, hown, hts⟩ (k_X7_shortest l D cI cC cN N q q_s q_past q_slot q_text q_tries q_firstOne q_read q_coverSets q_picks q_covered q_takenThreads s.heap.size f_s f_past f_states f_slot f_isKept f_text f_length f_tries f_firstOne f_at f_ends f_read f_coverMany f_coverSets f_picks f_covered f_takenThreads f_circleMany f_circleOdd f_circleLongest ((sh 1 u_12) - 1) r_13 h_14) (cwV 1 hts gX7_count_X7_shortest rfl rfl rfl (by decide +kernel) ⟨Nat.le_of_ble_eq_true rfl, Nat.le_of_ble_eq_true rfl⟩) ⟨g_blind, va_recv (D := D) (ci := 6) (q0 := 0) hK hP rfl rfl, g_pre (hP.sub [0, 1, 2, 3, 4, 5, 6, 7, 8, 9, 10, 11] rfl) hK hN (hD.sub [0, 1, 2, 3, 4, 5, 6, 7, 8, 9, 10, 11] (by decide) rfl)⟩ rfl rfl hl.1 rfl (lv_room (Nat.le_of_ble_eq_true rfl)) dX7_count_108 ⟨Nat.zero_le _, Nat.zero_le _⟩) hP hD hS hA [0, 1, 2, 3, 4, 5, 6, 7, 8, 9, 10, 11] [] rfl rfl (by decide) (by decide) rfl (fun H locs hP hD hS => ?_)
    have z1 := so_use hm
    obtain ⟨y1, z2⟩ := pr_use z1
    obtain ⟨y2, z3⟩ := pr_use z2
    obtain ⟨y3, z4⟩ := pr_use z3
    obtain ⟨y4, z5⟩ := pr_use z4
    obtain ⟨y5, z6⟩ := pr_use z5
    subst y1
    subst y2
    subst y3
    subst y4
    subst y5
    subst z6
    exact hret _ _ _ _ _ dX7_count_111 rfl rfl hP hD hS
  have hm := if_f _ hc hm
  by_cases hc : a1 = 6
  · have hm := if_t _ hc hm
    refine lv_tableIn (off := 111) (tgt := 112) hx hb dX7_count_1 (by rw [hc]; decide) (by rw [hc]; decide) (by rw [hc]; rfl) (by decide) ?_
    refine lv_aload_n hx hb dX7_count_112 rfl (lv_at hl 0 rfl) ?_
    obtain ⟨⟨r_15, f_coverMany_16, f_coverSets_17, f_picks_18, f_covered_19, f_takenThreads_20⟩, h_21, hm⟩ := bind_use hm
    refine g_ki (wc := [(q, .inr (6, [.ref q_s, .ref q_past, .int f_states, .ref q_slot, .int f_isKept, .ref q_text, .int f_length, .ref q_tries, .ref q_firstOne, .int f_at, .int f_ends, .ref q_read, .int f_coverMany, .ref q_coverSets, .ref q_picks, .ref q_covered, .ref q_takenThreads, .int f_circleMany, .int f_circleOdd, .int f_circleLongest])), (q_s, .inl (cI, 65, .inl f_s)), (q_past, .inl (cI, 260, .inl f_past)), (q_slot, .inl (cI, 65, .inl f_slot)), (q_text, .inl (cC, 60, .inl f_text)), (q_tries, .inl (cI, 22, .inl f_tries)), (q_firstOne, .inl (cI, 21, .inl f_firstOne)), (q_read, .inl (cI, 32, .inl f_read)), (q_coverSets, .inl (cI, 256, .inl f_coverSets)), (q_picks, .inl (cI, 8, .inl f_picks)), (q_covered, .inl (cI, 8, .inl f_covered)), (q_takenThreads, .inl (cI, 8, .inl f_takenThreads))]) (wr := []) (w2 := [(q, .inr (6, [.ref q_s, .ref q_past, .int f_states, .ref q_slot, .int f_isKept, .ref q_text, .int f_length, .ref q_tries, .ref q_firstOne, .int f_at, .int f_ends, .ref q_read, .int f_coverMany_16, .ref q_coverSets, .ref q_picks, .ref q_covered, .ref q_takenThreads, .int f_circleMany, .int f_circleOdd, .int f_circleLongest])), (q_s, .inl (cI, 65, .inl f_s)), (q_past, .inl (cI, 260, .inl f_past)), (q_slot, .inl (cI, 65, .inl f_slot)), (q_text, .inl (cC, 60, .inl f_text)), (q_tries, .inl (cI, 22, .inl f_tries)), (q_firstOne, .inl (cI, 21, .inl f_firstOne)), (q_read, .inl (cI, 32, .inl f_read)), (q_coverSets, .inl (cI, 256, .inl f_coverSets_17)), (q_picks, .inl (cI, 8, .inl f_picks_18)), (q_covered, .inl (cI, 8, .inl f_covered_19)), (q_takenThreads, .inl (cI, 8, .inl f_takenThreads_20))]) (va_runV (As := []) (rest := []) ⟨hx, hb, hml, hown, hts⟩ (k_X7_covers l D cI cC cN N q q_s q_past q_slot q_text q_tries q_firstOne q_read q_coverSets q_picks q_covered q_takenThreads s.heap.size f_s f_past f_states f_slot f_isKept f_text f_length f_tries f_firstOne f_at f_ends f_read f_coverMany f_coverSets f_picks f_covered f_takenThreads f_circleMany f_circleOdd f_circleLongest r_15 f_coverMany_16 f_coverSets_17 f_picks_18 f_covered_19 f_takenThreads_20 h_21) (cwV 0 hts gX7_count_X7_covers rfl rfl rfl (by decide +kernel) ⟨Nat.le_of_ble_eq_true rfl, Nat.le_of_ble_eq_true rfl⟩) ⟨g_blind, va_recv (D := D) (ci := 6) (q0 := 0) hK hP rfl rfl, g_pre (hP.sub [0, 1, 2, 3, 4, 5, 6, 7, 8, 9, 10, 11] rfl) hK hN (hD.sub [0, 1, 2, 3, 4, 5, 6, 7, 8, 9, 10, 11] (by decide) rfl)⟩ rfl rfl hl.1 rfl (lv_room (Nat.le_of_ble_eq_true rfl)) dX7_count_113 ⟨Nat.zero_le _, Nat.zero_le _⟩) hP hD hS hA [0, 1, 2, 3, 4, 5, 6, 7, 8, 9, 10, 11] [] rfl rfl (by decide) (by decide) rfl (fun H locs hP hD hS => ?_)
    have z1 := so_use hm
    obtain ⟨y1, z2⟩ := pr_use z1
    obtain ⟨y2, z3⟩ := pr_use z2
    obtain ⟨y3, z4⟩ := pr_use z3
    obtain ⟨y4, z5⟩ := pr_use z4
    obtain ⟨y5, z6⟩ := pr_use z5
    subst y1
    subst y2
    subst y3
    subst y4
    subst y5
    subst z6
    exact hret _ _ _ _ _ dX7_count_116 rfl rfl hP hD hS
  have hm := if_f _ hc hm
  by_cases hc : a1 = 7
  · have hm := if_t _ hc hm
    refine lv_tableIn (off := 116) (tgt := 117) hx hb dX7_count_1 (by rw [hc]; decide) (by rw [hc]; decide) (by rw [hc]; rfl) (by decide) ?_
    refine lv_aload_n hx hb dX7_count_117 rfl (lv_at hl 0 rfl) ?_
    obtain ⟨r_22, h_23, hm⟩ := bind_use hm
    refine g_ki (wc := [(q, .inr (6, [.ref q_s, .ref q_past, .int f_states, .ref q_slot, .int f_isKept, .ref q_text, .int f_length, .ref q_tries, .ref q_firstOne, .int f_at, .int f_ends, .ref q_read, .int f_coverMany, .ref q_coverSets, .ref q_picks, .ref q_covered, .ref q_takenThreads, .int f_circleMany, .int f_circleOdd, .int f_circleLongest])), (q_s, .inl (cI, 65, .inl f_s)), (q_past, .inl (cI, 260, .inl f_past)), (q_slot, .inl (cI, 65, .inl f_slot)), (q_text, .inl (cC, 60, .inl f_text)), (q_tries, .inl (cI, 22, .inl f_tries)), (q_firstOne, .inl (cI, 21, .inl f_firstOne)), (q_read, .inl (cI, 32, .inl f_read)), (q_coverSets, .inl (cI, 256, .inl f_coverSets)), (q_picks, .inl (cI, 8, .inl f_picks)), (q_covered, .inl (cI, 8, .inl f_covered)), (q_takenThreads, .inl (cI, 8, .inl f_takenThreads))]) (wr := []) (w2 := [(q, .inr (6, [.ref q_s, .ref q_past, .int f_states, .ref q_slot, .int f_isKept, .ref q_text, .int f_length, .ref q_tries, .ref q_firstOne, .int f_at, .int f_ends, .ref q_read, .int f_coverMany, .ref q_coverSets, .ref q_picks, .ref q_covered, .ref q_takenThreads, .int f_circleMany, .int f_circleOdd, .int f_circleLongest])), (q_s, .inl (cI, 65, .inl f_s)), (q_past, .inl (cI, 260, .inl f_past)), (q_slot, .inl (cI, 65, .inl f_slot)), (q_text, .inl (cC, 60, .inl f_text)), (q_tries, .inl (cI, 22, .inl f_tries)), (q_firstOne, .inl (cI, 21, .inl f_firstOne)), (q_read, .inl (cI, 32, .inl f_read)), (q_coverSets, .inl (cI, 256, .inl f_coverSets)), (q_picks, .inl (cI, 8, .inl f_picks)), (q_covered, .inl (cI, 8, .inl f_covered)), (q_takenThreads, .inl (cI, 8, .inl f_takenThreads))]) (va_runV (As := []) (rest := []) ⟨hx, hb, hml, hown, hts⟩ (k_X7_wrongs l D cI cC cN N q q_s q_past q_slot q_text q_tries q_firstOne q_read q_coverSets q_picks q_covered q_takenThreads s.heap.size f_s f_past f_states f_slot f_isKept f_text f_length f_tries f_firstOne f_at f_ends f_read f_coverMany f_coverSets f_picks f_covered f_takenThreads f_circleMany f_circleOdd f_circleLongest r_22 h_23) (cwV 0 hts gX7_count_X7_wrongs rfl rfl rfl (by decide +kernel) ⟨Nat.le_of_ble_eq_true rfl, Nat.le_of_ble_eq_true rfl⟩) ⟨g_blind, va_recv (D := D) (ci := 6) (q0 := 0) hK hP rfl rfl, g_pre (hP.sub [0, 1, 2, 3, 4, 5, 6, 7, 8, 9, 10, 11] rfl) hK hN (hD.sub [0, 1, 2, 3, 4, 5, 6, 7, 8, 9, 10, 11] (by decide) rfl)⟩ rfl rfl hl.1 rfl (lv_room (Nat.le_of_ble_eq_true rfl)) dX7_count_118 ⟨Nat.zero_le _, Nat.zero_le _⟩) hP hD hS hA [0, 1, 2, 3, 4, 5, 6, 7, 8, 9, 10, 11] [] rfl rfl (by decide) (by decide) rfl (fun H locs hP hD hS => ?_)
    have z1 := so_use hm
    obtain ⟨y1, z2⟩ := pr_use z1
    obtain ⟨y2, z3⟩ := pr_use z2
    obtain ⟨y3, z4⟩ := pr_use z3
    obtain ⟨y4, z5⟩ := pr_use z4
    obtain ⟨y5, z6⟩ := pr_use z5
    subst y1
    subst y2
    subst y3
    subst y4
    subst y5
    subst z6
    exact hret _ _ _ _ _ dX7_count_121 rfl rfl hP hD hS
  have hm := if_f _ hc hm
  by_cases hc : a1 = 8
  · have hm := if_t _ hc hm
    refine lv_tableIn (off := 121) (tgt := 122) hx hb dX7_count_1 (by rw [hc]; decide) (by rw [hc]; decide) (by rw [hc]; rfl) (by decide) ?_
    refine lv_aload_n hx hb dX7_count_122 rfl (lv_at hl 0 rfl) ?_
    obtain ⟨r_24, h_25, hm⟩ := bind_use hm
    refine g_ki (wc := [(q, .inr (6, [.ref q_s, .ref q_past, .int f_states, .ref q_slot, .int f_isKept, .ref q_text, .int f_length, .ref q_tries, .ref q_firstOne, .int f_at, .int f_ends, .ref q_read, .int f_coverMany, .ref q_coverSets, .ref q_picks, .ref q_covered, .ref q_takenThreads, .int f_circleMany, .int f_circleOdd, .int f_circleLongest])), (q_s, .inl (cI, 65, .inl f_s)), (q_past, .inl (cI, 260, .inl f_past)), (q_slot, .inl (cI, 65, .inl f_slot)), (q_text, .inl (cC, 60, .inl f_text)), (q_tries, .inl (cI, 22, .inl f_tries)), (q_firstOne, .inl (cI, 21, .inl f_firstOne)), (q_read, .inl (cI, 32, .inl f_read)), (q_coverSets, .inl (cI, 256, .inl f_coverSets)), (q_picks, .inl (cI, 8, .inl f_picks)), (q_covered, .inl (cI, 8, .inl f_covered)), (q_takenThreads, .inl (cI, 8, .inl f_takenThreads))]) (wr := []) (w2 := [(q, .inr (6, [.ref q_s, .ref q_past, .int f_states, .ref q_slot, .int f_isKept, .ref q_text, .int f_length, .ref q_tries, .ref q_firstOne, .int f_at, .int f_ends, .ref q_read, .int f_coverMany, .ref q_coverSets, .ref q_picks, .ref q_covered, .ref q_takenThreads, .int f_circleMany, .int f_circleOdd, .int f_circleLongest])), (q_s, .inl (cI, 65, .inl f_s)), (q_past, .inl (cI, 260, .inl f_past)), (q_slot, .inl (cI, 65, .inl f_slot)), (q_text, .inl (cC, 60, .inl f_text)), (q_tries, .inl (cI, 22, .inl f_tries)), (q_firstOne, .inl (cI, 21, .inl f_firstOne)), (q_read, .inl (cI, 32, .inl f_read)), (q_coverSets, .inl (cI, 256, .inl f_coverSets)), (q_picks, .inl (cI, 8, .inl f_picks)), (q_covered, .inl (cI, 8, .inl f_covered)), (q_takenThreads, .inl (cI, 8, .inl f_takenThreads))]) (va_runV (As := []) (rest := []) ⟨hx, hb, hml, hown, hts⟩ (k_X7_plainOnes l D cI cC cN N q q_s q_past q_slot q_text q_tries q_firstOne q_read q_coverSets q_picks q_covered q_takenThreads s.heap.size f_s f_past f_states f_slot f_isKept f_text f_length f_tries f_firstOne f_at f_ends f_read f_coverMany f_coverSets f_picks f_covered f_takenThreads f_circleMany f_circleOdd f_circleLongest r_24 h_25) (cwV 0 hts gX7_count_X7_plainOnes rfl rfl rfl (by decide +kernel) ⟨Nat.le_of_ble_eq_true rfl, Nat.le_of_ble_eq_true rfl⟩) ⟨g_blind, va_recv (D := D) (ci := 6) (q0 := 0) hK hP rfl rfl, g_pre (hP.sub [0, 1, 2, 3, 4, 5, 6, 7, 8, 9, 10, 11] rfl) hK hN (hD.sub [0, 1, 2, 3, 4, 5, 6, 7, 8, 9, 10, 11] (by decide) rfl)⟩ rfl rfl hl.1 rfl (lv_room (Nat.le_of_ble_eq_true rfl)) dX7_count_123 ⟨Nat.zero_le _, Nat.zero_le _⟩) hP hD hS hA [0, 1, 2, 3, 4, 5, 6, 7, 8, 9, 10, 11] [] rfl rfl (by decide) (by decide) rfl (fun H locs hP hD hS => ?_)
    have z1 := so_use hm
    obtain ⟨y1, z2⟩ := pr_use z1
    obtain ⟨y2, z3⟩ := pr_use z2
    obtain ⟨y3, z4⟩ := pr_use z3
    obtain ⟨y4, z5⟩ := pr_use z4
    obtain ⟨y5, z6⟩ := pr_use z5
    subst y1
    subst y2
    subst y3
    subst y4
    subst y5
    subst z6
    exact hret _ _ _ _ _ dX7_count_126 rfl rfl hP hD hS
  have hm := if_f _ hc hm
  by_cases hc : a1 = 9
  · have hm := if_t _ hc hm
    refine lv_tableIn (off := 126) (tgt := 127) hx hb dX7_count_1 (by rw [hc]; decide) (by rw [hc]; decide) (by rw [hc]; rfl) (by decide) ?_
    refine lv_aload_n hx hb dX7_count_127 rfl (lv_at hl 0 rfl) ?_
    refine va_get (D := D) (ci := 6) (v := .int f_states) (C := RX7) (T := TX7) (N := 20) hx hb hts (by decide +kernel) hown hK hP 0 rfl rfl 2 (by decide) (hts (.fieldLink RX7 76 "KnotStripesModel" "states" "I") (by decide +kernel)) (fun _ h9 => h9) rfl dX7_count_128 ?_
    have z1 := so_use hm
    obtain ⟨y1, z2⟩ := pr_use z1
    obtain ⟨y2, z3⟩ := pr_use z2
    obtain ⟨y3, z4⟩ := pr_use z3
    obtain ⟨y4, z5⟩ := pr_use z4
    obtain ⟨y5, z6⟩ := pr_use z5
    subst y1
    subst y2
    subst y3
    subst y4
    subst y5
    subst z6
    exact hret _ _ _ _ _ dX7_count_131 rfl rfl hP hD hS
  have hm := if_f _ hc hm
  by_cases hc : a1 = 10
  · have hm := if_t _ hc hm
    refine lv_tableIn (off := 131) (tgt := 132) hx hb dX7_count_1 (by rw [hc]; decide) (by rw [hc]; decide) (by rw [hc]; rfl) (by decide) ?_
    refine lv_aload_n hx hb dX7_count_132 rfl (lv_at hl 0 rfl) ?_
    refine va_get (D := D) (ci := 6) (v := .int f_length) (C := RX7) (T := TX7) (N := 20) hx hb hts (by decide +kernel) hown hK hP 0 rfl rfl 6 (by decide) (hts (.fieldLink RX7 192 "KnotStripesModel" "length" "I") (by decide +kernel)) (fun _ h9 => h9) rfl dX7_count_133 ?_
    have z1 := so_use hm
    obtain ⟨y1, z2⟩ := pr_use z1
    obtain ⟨y2, z3⟩ := pr_use z2
    obtain ⟨y3, z4⟩ := pr_use z3
    obtain ⟨y4, z5⟩ := pr_use z4
    obtain ⟨y5, z6⟩ := pr_use z5
    subst y1
    subst y2
    subst y3
    subst y4
    subst y5
    subst z6
    exact hret _ _ _ _ _ dX7_count_136 rfl rfl hP hD hS
  have hm := if_f _ hc hm
  exact no_use hm
