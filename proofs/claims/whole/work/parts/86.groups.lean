/-! pure: arrange -/
abbrev Gr7 : Type := Option (Int32 × (Nat → Int32) × (Nat → Int32) × (Nat → Int32) × Int32 × (Nat → Int32) × Int32)
/-- where a group stands: o was open, r is placed, rest is left -/
def INg (T o : Nat) (Z r : List Nat) (rest group : Nat) : Prop := rest < 2 ^ T ∧ (∀ t, group.testBit t = true ↔ t ∈ r) ∧ group < 2 ^ 21 ∧ (∀ t, o.testBit t = true ↔ t ∈ r ∨ rest.testBit t = true) ∧ r.Nodup ∧ (∀ t ∈ r, rest.testBit t = false) ∧ (Z ++ r).length + ct (fun i => rest.testBit i) T ≤ 21
theorem tb_lt {x n t : Nat} (h : x < 2 ^ n) (ht : x.testBit t = true) : t < n := by
  rcases Nat.lt_or_ge t n with g | g
  · exact g
  · rw [Nat.testBit_lt_two_pow (Nat.lt_of_lt_of_le h (p2le g))] at ht
    cases ht
theorem tb_none {x n : Nat} (h : x < 2 ^ n) (hc : ct (fun i => x.testBit i) n = 0) (t : Nat) : x.testBit t = false := by
  cases q : x.testBit t with
  | false => rfl
  | true =>
    have := (ct_pos (p := fun i => x.testBit i) (n := n)).mpr ⟨t, tb_lt h q, q⟩
    omega
theorem tb_del {x t i : Nat} : (ad x (2 ^ t)).testBit i = (x.testBit i && !(i == t)) := by
  rw [tb_ad, Nat.testBit_two_pow]
  congr 2
  rw [Bool.eq_iff_iff]
  simp
  exact eq_comm
theorem tb_ins {x t i : Nat} : (x ||| 2 ^ t).testBit i = (x.testBit i || i == t) := by
  rw [Nat.testBit_or, Nat.testBit_two_pow]
  congr 1
  rw [Bool.eq_iff_iff]
  simp
  exact eq_comm
theorem INg.step {T o : Nat} {Z r : List Nat} {rest group t : Nat} (hT : T ≤ 21) (h : INg T o Z r rest group) (ht : rest.testBit t = true) : INg T o Z (r ++ [t]) (ad rest (2 ^ t)) (group ||| 2 ^ t) ∧ ct (fun i => (ad rest (2 ^ t)).testBit i) T + 1 = ct (fun i => rest.testBit i) T := by
  obtain ⟨h1, h2, h3, h4, h5, h6, h7⟩ := h
  have tT := tb_lt h1 ht
  have cd : ct (fun i => (ad rest (2 ^ t)).testBit i) T + 1 = ct (fun i => rest.testBit i) T := by
    rw [← ct_del (p := fun i => rest.testBit i) tT ht]
    congr 1
    exact ct_cong (fun i _ => tb_del)
  refine ⟨⟨ad_lt h1, fun i => ?_, or_lt h3 (p2lt (by omega)), fun i => ?_, ?_, fun i hi => ?_, ?_⟩, cd⟩
  · rw [tb_ins, Bool.or_eq_true, h2 i]
    simp
  · rw [h4 i, tb_del]
    simp
    by_cases q : i = t
    · subst q
      simp [ht]
    · simp [q]
  · rw [List.nodup_append]
    refine ⟨h5, by simp, fun a ha b hb => ?_⟩
    simp at hb
    rw [hb]
    intro q
    rw [q] at ha
    rw [h6 t ha] at ht
    cases ht
  · rw [tb_del]
    rcases List.mem_append.mp hi with g | g
    · rw [h6 i g]; rfl
    · simp at g
      simp [g]
  · rw [← List.append_assoc, List.length_append, List.length_singleton]
    omega
theorem x_agLoop {N K o : Nat} {L : List TH} {Z : List Nat} {e c bes : Nat → Int32} {J126 J33 : Int32 → (Nat → Int32) → (Nat → Int32) → (Nat → Int32) → Int32 → Gr7} (hJ : ∀ a b d f h, J33 a b d f h = J126 a b d f h) (hN : 1000 ≤ N) (hW : WL K L) (hX : XL L e c) (hB : BSr L bes) :
    ∀ cnt (r : List Nat) (rest group n x5 : Nat) (b l g : Nat → Int32), ct (fun i => rest.testBit i) L.length = cnt → x5 + cnt ≤ 21 → cnt < n → PAr L (Z ++ r) b l g → INg L.length o Z r rest group →
    ∃ (r' : List Nat) (rest' group' : Nat) (b' l' g' : Nat → Int32), m_X3_arrangeGroup_L8 N bes (nI L.length) e J126 J33 n (nI x5) (nI group) (nI rest) b l g (nI (Z ++ r).length) = J126 (nI rest') b' l' g' (nI (Z ++ r').length) ∧ PAr L (Z ++ r') b' l' g' ∧ INg L.length o Z r' rest' group' ∧ ∀ t, ¬ candi L rest' group' t := by
  have h21 := hW.len21
  have hw := hW.wt
  obtain ⟨hE, -⟩ := XL_iff.mp hX
  intro cnt
  induction cnt with
  | zero =>
    intro r rest group n x5 b l g hc hx hn hP hI
    obtain ⟨n, rfl⟩ : ∃ m, n = m + 1 := ⟨n - 1, by omega⟩
    have none := tb_none hI.1 hc
    have nc : ∀ t, ¬ candi L rest group t := fun t w => by
      have := w.1
      rw [none t] at this
      cases this
    refine ⟨r, rest, group, b, l, g, ?_, hP, hI, nc⟩
    rw [m_X3_arrangeGroup_L8]
    by_cases q : 21 ≤ x5
    · rw [if_pos (show (21 : Int32) ≤ nI x5 from nI_le (a := 21) q (by omega))]
    · unfold m_X2_threads
      rw [if_neg (show ¬ (21 : Int32) ≤ nI x5 from nI_ge (b := 21) (by omega) (by omega)), r_bind]
      rcases x_tightest hN h21 hB (Nat.lt_of_lt_of_le hI.1 (p2le h21)) hI.2.2.1 with ⟨t, t1, t2, -⟩ | ⟨-, t2⟩
      · exact absurd t2 (nc t)
      · rw [t2, r_bind, if_neg (by decide)]
        exact hJ _ _ _ _ _
  | succ cnt ih =>
    intro r rest group n x5 b l g hc hx hn hP hI
    obtain ⟨n, rfl⟩ : ∃ m, n = m + 1 := ⟨n - 1, by omega⟩
    have l7 := hI.2.2.2.2.2.2
    unfold m_X3_arrangeGroup_L8
    unfold m_X2_threads
    rw [if_neg (show ¬ (21 : Int32) ≤ nI x5 from nI_ge (b := 21) (by omega) (by omega)), r_bind]
    rcases x_tightest hN h21 hB (Nat.lt_of_lt_of_le hI.1 (p2le h21)) hI.2.2.1 with ⟨t, t1, t2, t3⟩ | ⟨t1, t2⟩
    · obtain ⟨I', c'⟩ := hI.step h21 t2.1
      rw [t3, r_bind, if_pos (show (0 : Int32) ≤ nI t from nI_le (a := 0) (Nat.zero_le t) (by omega)), m_bit (by omega), r_bind, x_put (by omega) (by decide), r_bind, x_lesser hw hE t1, r_bind, show (3 : Int32) = nI 3 from rfl, pk_mul, x_put (by omega) (by decide), r_bind, x_greater hw hE t1, r_bind, pk_mul, x_put (by omega) (by decide), r_bind]
      simp only [nm, r_bind]
      rw [nI_1, nor, nandn, nI_1]
      have P' : PAr L (Z ++ (r ++ [t])) (upd b (Z ++ r).length (nI (2 ^ t))) (upd l (Z ++ r).length (nI (3 * (thn L t).1))) (upd g (Z ++ r).length (nI (3 * (thn L t).2.1))) := by
        rw [← List.append_assoc]
        exact hP.app
      have el : (Z ++ (r ++ [t])).length = (Z ++ r).length + 1 := by rw [← List.append_assoc, List.length_append, List.length_singleton]
      have := ih (r ++ [t]) (ad rest (2 ^ t)) (group ||| 2 ^ t) n (x5 + 1) _ _ _ (by omega) (by omega) (by omega) P' I'
      rw [el] at this
      exact this
    · refine ⟨r, rest, group, b, l, g, ?_, hP, hI, fun t w => t1 t (tb_lt hI.1 w.1) w⟩
      rw [t2, r_bind, if_neg (by decide)]
      exact hJ _ _ _ _ _
theorem x_arrangeGroup {N K o gr : Nat} {L : List TH} {Z : List Nat} {e c bes b l g st : Nat → Int32} (hN : 1000 ≤ N) (hW : WL K L) (hX : XL L e c) (hB : BSr L bes) (hP : PAr L Z b l g) (ho : o < 2 ^ L.length) (hgr : gr < 21) (hc : Z.length + ct (fun i => o.testBit i) L.length ≤ 21) :
    ∃ (r : List Nat) (rest : Nat) (b' l' g' : Nat → Int32), m_X3_arrangeGroup N b l g (nI Z.length) st (nI gr) bes (nI L.length) e (nI o) = some (nI rest, b', l', g', nI (Z ++ r).length, upd st gr (nI (Z ++ r).length), nI (gr + 1)) ∧ PAr L (Z ++ r) b' l' g' ∧ rest < 2 ^ L.length ∧ (∀ t, o.testBit t = true ↔ t ∈ r ∨ rest.testBit t = true) ∧ r.Nodup ∧ (∀ t ∈ r, rest.testBit t = false) ∧ (Z ++ r).length + ct (fun i => rest.testBit i) L.length ≤ 21 ∧ (r = [] → ∀ t, o.testBit t = false) ∧ ∀ t ∈ r, ∀ v, rest.testBit v = true → tchp (thn L t) (thn L v) = false := by
  have h21 := hW.len21
  have I0 : INg L.length o Z [] o 0 := ⟨ho, fun t => by simp, by decide, fun t => by simp, List.nodup_nil, (fun t ht => by cases ht), (by simpa using hc)⟩
  have c0 := ct_le (fun i => o.testBit i) L.length
  obtain ⟨r, rest, group, b', l', g', h1, h2, h3, h4⟩ := x_agLoop (N := N) (J126 := fun (x3_1 : Int32) (f_bits_2 f_lesser_3 f_greater_4 : Nat → Int32) (f_placed_5 : Int32) => Option.bind (m_X6_put N 21 st (nI gr) f_placed_5) (fun f_stops_6 => nm (nI gr + 1) (fun (w_8 : Int32) => some (x3_1, f_bits_2, f_lesser_3, f_greater_4, f_placed_5, f_stops_6, w_8)))) (J33 := fun (x3_1 : Int32) (f_bits_2 f_lesser_3 f_greater_4 : Nat → Int32) (f_placed_5 : Int32) => Option.bind (m_X6_put N 21 st (nI gr) f_placed_5) (fun f_stops_6 => nm (nI gr + 1) (fun (w_8 : Int32) => some (x3_1, f_bits_2, f_lesser_3, f_greater_4, f_placed_5, f_stops_6, w_8)))) (fun _ _ _ _ _ => rfl) hN hW hX hB (ct (fun i => o.testBit i) L.length) [] o 0 N 0 b l g rfl (by omega) (by omega) (by rw [List.append_nil]; exact hP) I0
  obtain ⟨i1, i2, i3, i4, i5, i6, i7⟩ := h3
  rw [List.append_nil] at h1
  refine ⟨r, rest, b', l', g', Eq.trans h1 ?_, h2, i1, i4, i5, i6, i7, fun hr t => ?_, fun t ht v hv => ?_⟩
  · rw [x_put (by omega) (by decide), r_bind]
    simp only [nm]
    rw [nI_1]
  · cases q : o.testBit t with
    | false => rfl
    | true =>
      have g0 : group = 0 := by
        apply Nat.eq_of_testBit_eq
        intro i
        rw [Nat.zero_testBit]
        cases w : group.testBit i with
        | false => rfl
        | true =>
          have := (i2 i).mp w
          rw [hr] at this
          cases this
      rcases (i4 t).mp q with w | w
      · rw [hr] at w; cases w
      · exact absurd ⟨w, Or.inl g0⟩ (h4 t)
  · have nc := h4 v
    have vT := tb_lt i1 hv
    have tT := tb_lt ho ((i4 t).mpr (Or.inl ht))
    refine bsd_no hW tT vT ?_
    cases q : (bsd L v).testBit t with
    | false => rfl
    | true =>
      have : bsd L v &&& group ≠ 0 := fun w => by
        have z := Nat.testBit_and (bsd L v) group t
        rw [w, q, (i2 t).mpr ht, Nat.zero_testBit] at z
        cases z
      exact absurd ⟨hv, Or.inr this⟩ nc
/-- what arrange leaves -/
def ARr (L : List TH) (o : Nat) (G : List (List Nat)) (b l g st : Nat → Int32) : Prop := PAr L G.flatten b l g ∧ G.flatten.length ≤ 21 ∧ G.length ≤ 21 ∧ (∀ i, i < G.length → st i = nI (G.take (i + 1)).flatten.length) ∧ G.Pairwise (gdis L) ∧ G.flatten.Nodup ∧ ∀ t, o.testBit t = true ↔ t ∈ G.flatten
theorem x_arrange {N K o : Nat} {L : List TH} {e c b l g st bes : Nat → Int32} {p0 gr0 : Int32} (hN : 1000 ≤ N) (hW : WL K L) (hX : XL L e c) (ho : o < 2 ^ L.length) : ∃ (G : List (List Nat)) (b' l' g' st' bes' : Nat → Int32), m_X3_arrange N b l g p0 st gr0 bes (nI L.length) e (nI o) = some (b', l', g', nI G.flatten.length, st', nI G.length, bes') ∧ ARr L o G b' l' g' st' := by
  have h21 := hW.len21
  obtain ⟨bes', hb1, hb2⟩ := x_beside (N := N) (R := Nat) (bes := bes) (J := fun f_beside_1 => m_X3_arrange_L48 N (nI L.length) e f_beside_1 N 0 (nI o) b l g 0 st 0) hN hW hX
  have key : ∀ cnt (G : List (List Nat)) (rest n : Nat) (b l g st : Nat → Int32), ct (fun i => rest.testBit i) L.length = cnt → cnt < n → PAr L G.flatten b l g → rest < 2 ^ L.length → G.flatten.length + cnt ≤ 21 → G.length ≤ G.flatten.length → (∀ i, i < G.length → st i = nI (G.take (i + 1)).flatten.length) → G.Pairwise (gdis L) → G.flatten.Nodup → (∀ t ∈ G.flatten, rest.testBit t = false ∧ ∀ v, rest.testBit v = true → tchp (thn L t) (thn L v) = false) → (∀ t, o.testBit t = true ↔ t ∈ G.flatten ∨ rest.testBit t = true) →
      ∃ (G' : List (List Nat)) (b' l' g' st' : Nat → Int32), m_X3_arrange_L48 N (nI L.length) e bes' n (nI G.length) (nI rest) b l g (nI G.flatten.length) st (nI G.length) = some (b', l', g', nI G'.flatten.length, st', nI G'.length, bes') ∧ ARr L o G' b' l' g' st' := by
    intro cnt
    induction cnt using Nat.strongRecOn with
    | ind cnt ih =>
    intro G rest n b l g st hc hn hP hr hl hl2 hst hpw hnd hdj ho2
    obtain ⟨n, rfl⟩ : ∃ m, n = m + 1 := ⟨n - 1, by omega⟩
    by_cases q : rest = 0
    · have done : ARr L o G b l g st := ⟨hP, by omega, by omega, hst, hpw, hnd, fun t => by rw [ho2 t, q, Nat.zero_testBit]; simp⟩
      refine ⟨G, b, l, g, st, ?_, done⟩
      rw [m_X3_arrange_L48, q]
      split
      · rfl
      · rw [if_pos (show nI 0 = 0 from rfl)]
    · have pos : ∃ t, rest.testBit t = true := by
        rcases Nat.eq_zero_or_pos cnt with w | w
        · exfalso
          apply q
          apply Nat.eq_of_testBit_eq
          intro t
          rw [tb_none hr (by omega) t, Nat.zero_testBit]
        · obtain ⟨t, -, ht⟩ := (ct_pos (p := fun i => rest.testBit i) (n := L.length)).mp (by omega)
          exact ⟨t, ht⟩
      obtain ⟨t0, ht0⟩ := pos
      have cp : 0 < cnt := by
        have := (ct_pos (p := fun i => rest.testBit i) (n := L.length)).mpr ⟨t0, tb_lt hr ht0, ht0⟩
        omega
      obtain ⟨r, rest', b', l', g', h1, h2, h3, h4, h5, h6, h7, h8, h9⟩ := x_arrangeGroup (gr := G.length) (st := st) hN hW hX hb2 hP hr (by omega) (by omega)
      have rne : r ≠ [] := fun w => by
        have := h8 w t0
        rw [ht0] at this
        cases this
      have rl : 0 < r.length := List.length_pos_iff.mpr rne
      have fl' : (G ++ [r]).flatten = G.flatten ++ r := by simp
      have lr : rest < 2 ^ 21 := Nat.lt_of_lt_of_le hr (p2le h21)
      have rr : ∀ t ∈ r, rest.testBit t = true := fun t ht => (h4 t).mpr (Or.inl ht)
      rw [m_X3_arrange_L48, if_neg (show ¬ (21 : Int32) ≤ nI G.length from nI_ge (b := 21) (by omega) (by omega)), if_neg (fun w => q ((nI_eq0 (by omega)).mp w)), h1, r_bind]
      have cc : ct (fun i => rest'.testBit i) L.length < cnt := by
        obtain ⟨t1, ht1⟩ := List.exists_mem_of_ne_nil r rne
        rw [← hc]
        exact ct_strict (i := t1) (fun i _ hi => (h4 i).mpr (Or.inr hi)) (tb_lt hr (rr t1 ht1)) (h6 t1 ht1) (rr t1 ht1)
      have lc : (G.flatten ++ r).length = G.flatten.length + r.length := List.length_append
      have := ih (ct (fun i => rest'.testBit i) L.length) cc (G ++ [r]) rest' n b' l' g' (upd st G.length (nI (G.flatten ++ r).length)) rfl (by omega) (by rw [fl']; exact h2) h3 (by rw [fl']; exact h7) (by rw [fl', lc, List.length_append, List.length_singleton]; omega) (fun i hi => ?_) ?_ ?_ ?_ ?_
      · rw [fl', show (G ++ [r]).length = G.length + 1 by simp] at this
        show ∃ G' b'_1 l'_1 g'_1 st', m_X3_arrange_L48 N (nI L.length) e bes' n (nI G.length + 1) (nI rest') b' l' g' (nI (G.flatten ++ r).length) (upd st G.length (nI (G.flatten ++ r).length)) (nI (G.length + 1)) = _ ∧ _
        rw [nI_1]
        exact this
      · rw [List.length_append, List.length_singleton] at hi
        by_cases w : i = G.length
        · subst w
          rw [upd_s, show (G ++ [r]).take (G.length + 1) = G ++ [r] from List.take_of_length_le (by simp), fl']
        · rw [upd_n w, hst i (by omega), List.take_append_of_le_length (by omega)]
      · rw [List.pairwise_append]
        refine ⟨hpw, List.pairwise_singleton _ _, fun a ha d hd => ?_⟩
        rw [List.mem_singleton] at hd
        rw [hd]
        intro t ht v hv
        exact (hdj t (List.mem_flatten.mpr ⟨a, ha, ht⟩)).2 v (rr v hv)
      · rw [fl', List.nodup_append]
        refine ⟨hnd, h5, fun a ha d hd w => ?_⟩
        rw [w] at ha
        have := (hdj d ha).1
        rw [rr d hd] at this
        cases this
      · intro t ht
        rw [fl'] at ht
        rcases List.mem_append.mp ht with w | w
        · refine ⟨?_, fun v hv => (hdj t w).2 v ((h4 v).mpr (Or.inr hv))⟩
          cases z : rest'.testBit t with
          | false => rfl
          | true =>
            have a := (hdj t w).1
            rw [(h4 t).mpr (Or.inr z)] at a
            cases a
        · exact ⟨h6 t w, fun v hv => h9 t w v hv⟩
      · intro t
        rw [ho2 t, fl', List.mem_append, h4 t, or_assoc]
  have cle := ct_le (fun i => o.testBit i) L.length
  obtain ⟨G, b', l', g', st', k1, k2⟩ := key (ct (fun i => o.testBit i) L.length) [] o N b l g st rfl (by omega) (fun p t hp => by simp at hp) ho (by simp; omega) (by simp) (fun i hi => absurd hi (Nat.not_lt_zero i)) List.Pairwise.nil List.nodup_nil (fun t ht => by cases ht) (fun t => by simp)
  exact ⟨G, b', l', g', st', bes', Eq.trans hb1 k1, k2⟩
