/-! the arrays that the class comes with: what a contract says of them -/
def nmB : Nat → String
  | 0 => "BUILT_IN_0"
  | 1 => "BUILT_IN_1"
  | 2 => "BUILT_IN_2"
  | 3 => "BUILT_IN_3"
  | _ => "BUILT_IN_4"
abbrev ZP : Type := (Nat → Prop) → State → Heap → Prop
def ZL (Z : ZP) : Prop := (∀ (A : Nat → Prop) (u U : State) (H : Heap), u.vm.Alike U.vm → Z A u H → Z A U H) ∧ (∀ (A : Nat → Prop) (U : State) (H H1 : Heap), Z A U H → (∀ a : Nat, a < H.size → ¬ A a → H1[a]? = H[a]?) → Z A U H1) ∧ ∀ (A B : Nat → Prop) (U : State) (H : Heap), Z A U H → (∀ q, B q → A q) → Z B U H
abbrev Z1 (t n : Nat) (f : Nat → Int32) : ZP := fun A U H => va_T .int t n (fun j => .int (f j)) A U H
abbrev SB (bb : Nat → Nat) : ZP := fun A U H => ∀ k, k < 5 → va_Z RX6 (nmB k) "[I" (.ref (bb k)) A U H ∧ va_T .int (bb k) (lnB k) (fun j => .int (elB k j)) A U H
theorem z1L (t n : Nat) (f : Nat → Int32) : ZL (Z1 t n f) := ⟨fun _ _ _ _ hv h => va_T.moved hv h, fun _ _ _ _ h hq => va_T.kept h hq, fun _ _ _ _ h hq => va_T.narrow h hq⟩
theorem sBL (bb : Nat → Nat) : ZL (SB bb) := ⟨fun _ _ _ _ hv h k hk => ⟨va_Z.moved hv (h k hk).1, va_T.moved hv (h k hk).2⟩, fun _ _ _ _ h hq k hk => ⟨va_Z.kept (h k hk).1 hq, va_T.kept (h k hk).2 hq⟩, fun _ _ _ _ h hq k hk => ⟨va_Z.narrow (h k hk).1 hq, va_T.narrow (h k hk).2 hq⟩⟩
theorem selB_lt (a : Int32) : selB a < 5 := by
  unfold selB
  split
  · decide
  · split
    · decide
    · split
      · decide
      · split <;> decide
abbrev gPz (Z : ZP) (D : va_G) (tys : List (ClassId × FieldType)) (av : List Value) (w : va_W) (sz : Nat) : Array Value → State → Prop := va_Pc av (fun U => U.heap.size = sz ∧ va_P D vwCl w U.heap ∧ va_K D vwCl tys U ∧ gN U ∧ va_D (fun _ => True) w ∧ Z (va_A w sz) U U.heap)
abbrev gQr (D : va_G) (tys : List (ClassId × FieldType)) (A : Nat → Prop) (w' : va_W) (ra : Nat) : Array Value → State → Outcome → State → Prop := va_Qr (fun (_ : Unit) => True) (fun _ a t => a = ra ∧ va_P D vwCl w' t.heap ∧ va_K D vwCl tys t ∧ va_D A w') A
theorem z_blind {Z : ZP} (hz : ZL Z) {D : va_G} {tys : List (ClassId × FieldType)} {av : List Value} {w : va_W} {sz : Nat} : FrameBlind (gPz Z D tys av w sz) := fun a U g mk q => by
  obtain ⟨q0, q1, qP, qK, qN, qD, qZ⟩ := q
  exact ⟨q0, q1, qP, va_K.moved (u := U) (U := U.calling g mk a) (Vm.Alike.refl U.vm) qK, gN.same (s := U) (U := U.calling g mk a) rfl qN, qD, hz.1 _ U (U.calling g mk a) _ (Vm.Alike.refl U.vm) qZ⟩
theorem g_prez {Z : ZP} (hz : ZL Z) {D : va_G} {tys : List (ClassId × FieldType)} {av : List Value} {w : va_W} {s : State} {H : Heap} {A A0 : Nat → Prop} {locs : List Loc} (hP : va_P D vwCl w H) (hK : va_K D vwCl tys s) (hN : gN s) (hD : va_D A w) (hZ : Z A0 s s.heap) (hS : va_S A0 s.heap H locs) (hF : ∀ q, va_A w H.size q → A0 q) : ∀ U : State, U.heap = H → s.WarmedH U.vm → gPz Z D tys av w H.size av.toArray U := fun U hU hW => ⟨rfl, by rw [hU], by rw [hU]; exact hP, va_K.moved hW.alike hK, hN.warm hW, hD.weaken (fun _ _ _ _ => trivial), by rw [hU]; exact hz.1 _ s U H hW.alike (hz.2.2 _ _ s H (hz.2.1 _ s _ _ hZ hS.2.1) hF)⟩
section ZK
variable {p : Program} {l : Launch} {e : Env} {R : Room} {s : State} {m : MethodId} {args : Array Value} {below : List Frame} {meth : Method} {c : Code} {H : Heap} {locs : List Loc} {cells slots : Nat} {Q : State → Prop} {cc : ByteArray} {pc : Nat} {ls : Array Slot} {rest : List Value}
theorem g_kr {D : va_G} {tys : List (ClassId × FieldType)} {ws wc wc' wr w2 : va_W} {A : Nat → Prop} {st0 : List Value} {r : Nat} {a : Array Value}
    (hr : va_Run p l e R s m args below meth c H locs cells slots 0 0 (F0 m pc ls st0) rest (gQr D tys (va_A wc H.size) wc' r a) (va_A wc H.size))
    (hP : va_P D vwCl ws H) (hD : va_D A ws) (hS : va_S A s.heap H locs) (hA : ∀ q, s.heap.size ≤ q → A q) (isC isR : List Nat) (hC : isC.map (fun i => ws[i]?) = wc.map some) (hR : isR.map (fun i => ws[i]?) = wr.map some) (hn : va_nd isR = true) (hdis : ∀ i ∈ isR, i ∉ isC) (hw : wr ++ wc' = w2)
    (k : ∀ (H1 : Heap) (locs1 : List Loc), va_P D vwCl w2 H1 → va_D A w2 → va_S A s.heap H1 locs1 → W p l e R s m args below meth c H1 locs1 cells slots Q (F0 m (pc + 3) ls (.ref r :: rest))) : W p l e R s m args below meth c H locs cells slots Q (F0 m pc ls st0) := by
  have hF := va_free (wc := wc) hD hS hA isC hC
  subst hw
  refine va_callr hr hS (fun q _ h => hF q h) hF (fun u ra t H1 locs1 ht hvm hw hB hz1 hk1 hS => ?_)
  obtain ⟨hra, hP1, -, hD1⟩ := hB
  rw [ht] at hP1
  obtain ⟨hP, hD⟩ := va_join hP hD isC isR hC hR hn hdis hk1 hF hP1 hD1
  rw [hra]
  exact k H1 locs1 hP hD hS
end ZK
theorem z_openI {Z : ZP} (hz : ZL Z) {l : Launch} {y : MethodName} {ws ws' : List Cond} {rm : Room} {av : List Value} {w w' : va_W} {sz : Nat} {r : Int32} {D : va_G} {tys : List (ClassId × FieldType)} {cc : ByteArray} {maxL : Nat} {rt : FieldType} {own : String} (hy : plainName y.cls = true) (hw : ws = Cond.code y cc maxL (some rt) :: ws') (ho : y.cls = own) (hsl : (lg_sl av).length ≤ maxL)
    (body : ∀ (p : Program) (e : Env) (s : State) (m : MethodId) (args : Array Value) (below : List Frame) (meth : Method) (c : Code) (A : Nat → Prop) (Q : State → Prop), p.tables.exec = Jvm.exec → c.code = cc → c.maxLocals = maxL → s.vm.findClass own = some m.cls → (∀ w ∈ ws, w.before args s = true) → va_P D vwCl w s.heap → va_K D vwCl tys s → gN s → va_D A w → (∀ q, s.heap.size ≤ q → A q) → Z A s s.heap →
      (∀ (v : Int32) (pc : Nat) (ls : Array Slot) (H : Heap) (locs : List Loc), decode cc pc = .ok (.ireturn, 1) → narrow rt (.int v) = .int v → v = r → va_P D vwCl w' H → va_D A w' → va_S A s.heap H locs → W p l e rm s m args below meth c H locs 0 0 Q (F0 m pc ls [.int v])) →
      ∀ ls : Array Slot, lv_has ls maxL (lv_args 0 av) → W p l e rm s m args below meth c s.heap [] 0 0 Q (F0 m 0 ls [])) :
    Met l y ws rm (gPz Z D tys av w sz) (gQi D tys (va_A w sz) w' r) 0 0 (va_A w sz) := by
  refine Met.ofW hy hw ?_
  intro p e s m args below meth c s₁ B hml hv
  obtain ⟨rfl, hsz, hP, hK, hN, hD0, hZ⟩ := hv
  subst hsz
  have hD := hD0.self (sz := s.heap.size)
  have hl := lv_entry av (n := maxL) hsl
  rw [lg_entry_eq]
  have hlocks := B.notSynchronized
  refine body p e s m av.toArray below meth c (va_A w s.heap.size) _ B.exec B.bytes hml (by rw [← ho]; exact findClass_of_methodNamed B.named) (atoms_spec (ws := ws) B.pre) hP hK hN hD (fun q h => Or.inr h) hZ ?_ _ hl
  intro v pc ls H locs hd hn e1 h1 h2 h3
  subst e1
  exact W.zret (v := v) B.exec B.bytes B.returns hn (fun t ht hW => ⟨⟨v, (), rfl, rfl, by rw [ht]; exact h1, va_K.moved hW.alike hK, h2⟩, h3.F ht⟩) h3.2.2 hd
theorem z_openV {Z : ZP} (hz : ZL Z) {l : Launch} {y : MethodName} {ws ws' : List Cond} {rm : Room} {av : List Value} {w w' : va_W} {sz : Nat} {D : va_G} {tys : List (ClassId × FieldType)} {cc : ByteArray} {maxL : Nat} {own : String} (hy : plainName y.cls = true) (hw : ws = Cond.code y cc maxL none :: ws') (ho : y.cls = own) (hsl : (lg_sl av).length ≤ maxL)
    (body : ∀ (p : Program) (e : Env) (s : State) (m : MethodId) (args : Array Value) (below : List Frame) (meth : Method) (c : Code) (A : Nat → Prop) (Q : State → Prop), p.tables.exec = Jvm.exec → c.code = cc → c.maxLocals = maxL → s.vm.findClass own = some m.cls → (∀ w ∈ ws, w.before args s = true) → va_P D vwCl w s.heap → va_K D vwCl tys s → gN s → va_D A w → (∀ q, s.heap.size ≤ q → A q) → Z A s s.heap →
      (∀ (pc : Nat) (ls : Array Slot) (H : Heap) (locs : List Loc), decode cc pc = .ok (.return_, 1) → va_P D vwCl w' H → va_D A w' → va_S A s.heap H locs → W p l e rm s m args below meth c H locs 0 0 Q (F0 m pc ls [])) →
      ∀ ls : Array Slot, lv_has ls maxL (lv_args 0 av) → W p l e rm s m args below meth c s.heap [] 0 0 Q (F0 m 0 ls [])) :
    Met l y ws rm (gPz Z D tys av w sz) (gQv D tys (va_A w sz) w') 0 0 (va_A w sz) := by
  refine Met.ofW hy hw ?_
  intro p e s m args below meth c s₁ B hml hv
  obtain ⟨rfl, hsz, hP, hK, hN, hD0, hZ⟩ := hv
  subst hsz
  have hD := hD0.self (sz := s.heap.size)
  have hl := lv_entry av (n := maxL) hsl
  rw [lg_entry_eq]
  have hlocks := B.notSynchronized
  refine body p e s m av.toArray below meth c (va_A w s.heap.size) _ B.exec B.bytes hml (by rw [← ho]; exact findClass_of_methodNamed B.named) (atoms_spec (ws := ws) B.pre) hP hK hN hD (fun q h => Or.inr h) hZ ?_ _ hl
  intro pc ls H locs hd h1 h2 h3
  exact W.vret B.exec B.bytes B.returns (fun t ht hW => ⟨⟨(), rfl, trivial, by rw [ht]; exact h1, va_K.moved hW.alike hK, h2⟩, h3.F ht⟩) h3.2.2 hd
theorem z_openR {Z : ZP} (hz : ZL Z) {l : Launch} {y : MethodName} {ws ws' : List Cond} {rm : Room} {av : List Value} {w w' : va_W} {sz ra : Nat} {D : va_G} {tys : List (ClassId × FieldType)} {cc : ByteArray} {maxL : Nat} {ty : FieldType} {own : String} (hy : plainName y.cls = true) (hw : ws = Cond.code y cc maxL (some (.array ty)) :: ws') (ho : y.cls = own) (hsl : (lg_sl av).length ≤ maxL)
    (body : ∀ (p : Program) (e : Env) (s : State) (m : MethodId) (args : Array Value) (below : List Frame) (meth : Method) (c : Code) (A : Nat → Prop) (Q : State → Prop), p.tables.exec = Jvm.exec → c.code = cc → c.maxLocals = maxL → s.vm.findClass own = some m.cls → (∀ w ∈ ws, w.before args s = true) → va_P D vwCl w s.heap → va_K D vwCl tys s → gN s → va_D A w → (∀ q, s.heap.size ≤ q → A q) → Z A s s.heap →
      (∀ (v pc : Nat) (ls : Array Slot) (H : Heap) (locs : List Loc), decode cc pc = .ok (.areturn, 1) → v = ra → va_P D vwCl w' H → va_D A w' → va_S A s.heap H locs → W p l e rm s m args below meth c H locs 0 0 Q (F0 m pc ls [.ref v])) →
      ∀ ls : Array Slot, lv_has ls maxL (lv_args 0 av) → W p l e rm s m args below meth c s.heap [] 0 0 Q (F0 m 0 ls [])) :
    Met l y ws rm (gPz Z D tys av w sz) (gQr D tys (va_A w sz) w' ra) 0 0 (va_A w sz) := by
  refine Met.ofW hy hw ?_
  intro p e s m args below meth c s₁ B hml hv
  obtain ⟨rfl, hsz, hP, hK, hN, hD0, hZ⟩ := hv
  subst hsz
  have hD := hD0.self (sz := s.heap.size)
  have hl := lv_entry av (n := maxL) hsl
  rw [lg_entry_eq]
  have hlocks := B.notSynchronized
  refine body p e s m av.toArray below meth c (va_A w s.heap.size) _ B.exec B.bytes hml (by rw [← ho]; exact findClass_of_methodNamed B.named) (atoms_spec (ws := ws) B.pre) hP hK hN hD (fun q h => Or.inr h) hZ ?_ _ hl
  intro v pc ls H locs hd e1 h1 h2 h3
  exact W.aret (v := .ref v) B.exec B.bytes B.returns (Or.inr ⟨ty, rfl⟩) (Or.inr ⟨v, rfl⟩) (fun t ht hW => ⟨⟨(), v, rfl, trivial, e1, by rw [ht]; exact h1, va_K.moved hW.alike hK, h2⟩, h3.F ht⟩) h3.2.2 hd
abbrev rX6_builtIn : Room := { frames := 0, cells := 0, slots := 0, locals := 0 }
set_option maxHeartbeats 4000000 in
set_option maxRecDepth 100000 in
theorem k_X6_builtIn (l : Launch) (D : va_G) (cI cC cN : ClassId) (bb : Nat → Nat) (sz : Nat) (a0 : Int32) : Met l yX6_builtIn wsX6_builtIn rX6_builtIn (gPz (SB bb) D (tysG cI cC cN) [.int a0] [] sz) (gQr D (tysG cI cC cN) (va_A [] sz) [] (bb (selB a0))) 0 0 (va_A [] sz) := by
  refine z_openR (sBL bb) (ty := .int) (cc := cX6_builtIn) (maxL := 1) (own := RX6) (by decide) rfl rfl (Nat.le_of_ble_eq_true rfl) ?_
  intro p e s m args below meth c A Q hx hb hml hown hts hP hK hN hD hA hZ hret ls hl
  have hS : va_S A s.heap s.heap [] := va_S.rf
  have hl : lv_has ls 1 [(0, .int a0)] := hl
  refine lv_iload_n hx hb dX6_builtIn_0 rfl (lv_at hl 0 rfl) ?_
  have far : ∀ v : Int32, 0 ≤ v.toInt → v.toInt ≤ 3 → (Int32.toInt a0 < 0 ∨ 3 < Int32.toInt a0) → ¬ a0 = v := fun v h1 h2 h g => by
    rw [g] at h
    omega
  by_cases hc : Int32.toInt a0 < 0 ∨ 3 < Int32.toInt a0
  · refine lv_tableOut (tgt := 48) hx hb dX6_builtIn_1 hc (by decide) ?_
    have e4 : 4 = selB a0 := by
      unfold selB
      rw [if_neg (far 0 (by decide) (by decide) hc), if_neg (far 1 (by decide) (by decide) hc), if_neg (far 2 (by decide) (by decide) hc), if_neg (far 3 (by decide) (by decide) hc)]
    refine va_gets (C := RX6) (n := "BUILT_IN_4") (d := "[I") (own := RX6) (ref := "KnotStripes") (v := .ref (bb 4)) (index := 281) hx hb (hZ 4 (by decide)).1 hS hown (hts (.fieldLink RX6 281 "KnotStripes" "BUILT_IN_4" "[I") (by decide +kernel)) (fun _ h9 => h9) dX6_builtIn_48 ?_
    exact hret (bb 4) _ _ _ _ dX6_builtIn_51 (congrArg bb e4) hP hD hS
  by_cases hc0 : a0 = 0
  · refine lv_tableIn (off := 31) (tgt := 32) hx hb dX6_builtIn_1 (by rw [hc0]; decide) (by rw [hc0]; decide) (by rw [hc0]; rfl) (by decide) ?_
    have e0 : 0 = selB a0 := by rw [hc0]; decide
    refine va_gets (C := RX6) (n := "BUILT_IN_0") (d := "[I") (own := RX6) (ref := "KnotStripes") (v := .ref (bb 0)) (index := 268) hx hb (hZ 0 (by decide)).1 hS hown (hts (.fieldLink RX6 268 "KnotStripes" "BUILT_IN_0" "[I") (by decide +kernel)) (fun _ h9 => h9) dX6_builtIn_32 ?_
    exact hret (bb 0) _ _ _ _ dX6_builtIn_35 (congrArg bb e0) hP hD hS
  by_cases hc1 : a0 = 1
  · refine lv_tableIn (off := 35) (tgt := 36) hx hb dX6_builtIn_1 (by rw [hc1]; decide) (by rw [hc1]; decide) (by rw [hc1]; rfl) (by decide) ?_
    have e1 : 1 = selB a0 := by rw [hc1]; decide
    refine va_gets (C := RX6) (n := "BUILT_IN_1") (d := "[I") (own := RX6) (ref := "KnotStripes") (v := .ref (bb 1)) (index := 272) hx hb (hZ 1 (by decide)).1 hS hown (hts (.fieldLink RX6 272 "KnotStripes" "BUILT_IN_1" "[I") (by decide +kernel)) (fun _ h9 => h9) dX6_builtIn_36 ?_
    exact hret (bb 1) _ _ _ _ dX6_builtIn_39 (congrArg bb e1) hP hD hS
  by_cases hc2 : a0 = 2
  · refine lv_tableIn (off := 39) (tgt := 40) hx hb dX6_builtIn_1 (by rw [hc2]; decide) (by rw [hc2]; decide) (by rw [hc2]; rfl) (by decide) ?_
    have e2 : 2 = selB a0 := by rw [hc2]; decide
    refine va_gets (C := RX6) (n := "BUILT_IN_2") (d := "[I") (own := RX6) (ref := "KnotStripes") (v := .ref (bb 2)) (index := 275) hx hb (hZ 2 (by decide)).1 hS hown (hts (.fieldLink RX6 275 "KnotStripes" "BUILT_IN_2" "[I") (by decide +kernel)) (fun _ h9 => h9) dX6_builtIn_40 ?_
    exact hret (bb 2) _ _ _ _ dX6_builtIn_43 (congrArg bb e2) hP hD hS
  by_cases hc3 : a0 = 3
  · refine lv_tableIn (off := 43) (tgt := 44) hx hb dX6_builtIn_1 (by rw [hc3]; decide) (by rw [hc3]; decide) (by rw [hc3]; rfl) (by decide) ?_
    have e3 : 3 = selB a0 := by rw [hc3]; decide
    refine va_gets (C := RX6) (n := "BUILT_IN_3") (d := "[I") (own := RX6) (ref := "KnotStripes") (v := .ref (bb 3)) (index := 278) hx hb (hZ 3 (by decide)).1 hS hown (hts (.fieldLink RX6 278 "KnotStripes" "BUILT_IN_3" "[I") (by decide +kernel)) (fun _ h9 => h9) dX6_builtIn_44 ?_
    exact hret (bb 3) _ _ _ _ dX6_builtIn_47 (congrArg bb e3) hP hD hS
  exfalso
  rcases (show Int32.toInt a0 = 0 ∨ Int32.toInt a0 = 1 ∨ Int32.toInt a0 = 2 ∨ Int32.toInt a0 = 3 by omega) with q | q | q | q
  · exact hc0 (Int32.toInt_inj.mp q)
  · exact hc1 (Int32.toInt_inj.mp q)
  · exact hc2 (Int32.toInt_inj.mp q)
  · exact hc3 (Int32.toInt_inj.mp q)
