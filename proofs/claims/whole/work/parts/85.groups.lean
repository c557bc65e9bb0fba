-- 85.arrange.lean.txt
section
/-! pure: the open threads are put into groups that share no knot -/
theorem ct_del {p : Nat → Bool} {t : Nat} : ∀ {n : Nat}, t < n → p t = true → ct (fun i => p i && !(i == t)) n + 1 = ct p n
  | 0, h, _ => absurd h (Nat.not_lt_zero t)
  | n + 1, h, hp => by
    rw [ct_s, ct_s]
    by_cases q : t = n
    · subst q
      have : ct (fun i => p i && !(i == t)) t = ct p t := ct_cong (fun i hi => by
        have : (i == t) = false := by simp; omega
        rw [this]
        simp)
      rw [this, hp]
      simp
    · have ih := ct_del (p := p) (t := t) (n := n) (by omega) hp
      have : (n == t) = false := by simp; omega
      rw [this]
      simp only [Bool.not_false, Bool.and_true]
      omega
theorem nat_app (P : List Nat) (x i y : Nat) : (P ++ [x])[i]? = some y → P[i]? = some y ∨ (i = P.length ∧ x = y) := by
  intro h
  rcases Nat.lt_trichotomy i P.length with q | q | q
  · rw [List.getElem?_append_left q] at h
    exact Or.inl h
  · subst q
    rw [List.getElem?_append_right (Nat.le_refl _), Nat.sub_self] at h
    exact Or.inr ⟨rfl, Option.some.inj h⟩
  · rw [List.getElem?_eq_none (by simp; omega)] at h
    cases h
theorem nat_lt {P : List Nat} {i p : Nat} (h : P[i]? = some p) : i < P.length := by
  rcases Nat.lt_or_ge i P.length with g | g
  · exact g
  · rw [List.getElem?_eq_none g] at h; cases h
theorem PAr.app {L : List TH} {Z : List Nat} {b l g : Nat → Int32} {t : Nat} (h : PAr L Z b l g) : PAr L (Z ++ [t]) (upd b Z.length (nI (2 ^ t))) (upd l Z.length (nI (3 * (thn L t).1))) (upd g Z.length (nI (3 * (thn L t).2.1))) := by
  intro p v hp
  rcases nat_app Z t p v hp with q | ⟨rfl, rfl⟩
  · have := nat_lt q
    rw [upd_n (by omega), upd_n (by omega), upd_n (by omega)]
    exact h p v q
  · rw [upd_s, upd_s, upd_s]
    exact ⟨rfl, rfl, rfl⟩
/-- the threads that share a knot with a thread -/
def bsd (L : List TH) (i : Nat) : Nat := bs (fun t => em (fl L) (fh L) t &&& em (fl L) (fh L) i != 0) L.length
theorem bsd_lt {L : List TH} (h21 : L.length ≤ 21) (i : Nat) : bsd L i < 2 ^ 21 := Nat.lt_of_lt_of_le (bs_lt _ _) (p2le h21)
theorem bsd_no {K : Nat} {L : List TH} {t i : Nat} (hW : WL K L) (ht : t < L.length) (hi : i < L.length) (h : (bsd L i).testBit t = false) : tchp (thn L t) (thn L i) = false := by
  unfold bsd at h
  rw [tb_bs] at h
  have hw := hW.wt
  simp only [ht, decide_true, Bool.true_and] at h
  have h0 : em (fl L) (fh L) t &&& em (fl L) (fh L) i = 0 := by
    by_cases q : em (fl L) (fh L) t &&& em (fl L) (fh L) i = 0
    · exact q
    · simp [q] at h
  cases q : tchp (thn L t) (thn L i) with
  | false => rfl
  | true =>
    have key : ∀ k, isat (fl L) (fh L) t k = true → isat (fl L) (fh L) i k = true → False := fun k a b => by
      have a' := tb_em (lo := fl L) (hi := fh L) (hw.2 t ht).1 k
      have b' := tb_em (lo := fl L) (hi := fh L) (hw.2 i hi).1 k
      have c := Nat.testBit_and (em (fl L) (fh L) t) (em (fl L) (fh L) i) k
      rw [h0, a', b', a, b, Nat.zero_testBit] at c
      cases c
    unfold tchp at q
    rw [Bool.or_eq_true] at q
    rcases q with q | q
    · exact (key (thn L i).1 q (by unfold isat fl thn; simp)).elim
    · exact (key (thn L i).2.1 q (by unfold isat fh thn; simp)).elim
def BSr (L : List TH) (bes : Nat → Int32) : Prop := ∀ i, i < L.length → bes i = nI (bsd L i)
theorem x_beside {N K : Nat} {L : List TH} {e c bes : Nat → Int32} {R : Type} {J : (Nat → Int32) → Option ((Nat → Int32) × (Nat → Int32) × (Nat → Int32) × Int32 × (Nat → Int32) × Int32 × (Nat → Int32))} (hN : 1000 ≤ N) (hW : WL K L) (hX : XL L e c) : ∃ bes', m_X3_arrange_L2 N (nI L.length) e J N 0 bes = J bes' ∧ BSr L bes' := by
  have h21 := hW.len21
  have hw := hW.wt
  obtain ⟨hE, -⟩ := XL_iff.mp hX
  have := for_inv (fun n i (s : Nat → Int32) => m_X3_arrange_L2 N (nI L.length) e J n (nI i) s) (fun i s => ∀ j, j < i → s j = nI (bsd L j)) L.length (fun s => J s) (fun n s hP => by
      show m_X3_arrange_L2 N (nI L.length) e J (n + 1) (nI L.length) s = _
      rw [m_X3_arrange_L2]
      unfold m_X2_threads
      rw [r_bind, if_pos (nI_le (Nat.le_refl _) (by omega))]) (fun n i s hi hP => by
      show ∃ s', m_X3_arrange_L2 N (nI L.length) e J (n + 1) (nI i) s = m_X3_arrange_L2 N (nI L.length) e J n (nI (i + 1)) s' ∧ _
      have lt : em (fl L) (fh L) i < 2 ^ 31 := em_lt (n := 31) (hw.2 i hi).1 (by have := (hw.2 i hi).2.1; omega)
      refine ⟨upd s i (nI (bsd L i)), ?_, fun j hj => ?_⟩
      · rw [m_X3_arrange_L2]
        unfold m_X2_threads
        rw [r_bind, if_neg (nI_ge hi (by omega)), x_ends h21 hE hi, r_bind, x_threadsAt hN h21 hE lt, r_bind, x_put (by omega) (by decide), r_bind, nI_1]
        rfl
      · by_cases q : j = i
        · rw [q, upd_s]
        · rw [upd_n q]
          exact hP j (by omega)) L.length N 0 bes (by omega) (by omega) (fun j hj => absurd hj (Nat.not_lt_zero j))
  obtain ⟨s', h1, h2⟩ := this
  exact ⟨s', h2, h1⟩
/-- a thread that may come next in a group -/
def candi (L : List TH) (rest group t : Nat) : Prop := rest.testBit t = true ∧ (group = 0 ∨ bsd L t &&& group ≠ 0)
theorem x_tightest {N rest group : Nat} {L : List TH} {bes : Nat → Int32} (hN : 1000 ≤ N) (h21 : L.length ≤ 21) (hB : BSr L bes) (hr : rest < 2 ^ 21) (hg : group < 2 ^ 21) : (∃ t, t < L.length ∧ candi L rest group t ∧ m_X3_tightest N bes (nI L.length) (nI rest) (nI group) = some (nI t)) ∨ ((∀ t, t < L.length → ¬ candi L rest group t) ∧ m_X3_tightest N bes (nI L.length) (nI rest) (nI group) = some (-1)) := by
  have key : ∀ d i n (most best : Int32), i + d = L.length → d < n → ((best = -1 ∧ most = -1 ∧ ∀ t, t < i → ¬ candi L rest group t) ∨ ∃ t, t < L.length ∧ candi L rest group t ∧ best = nI t) → (∃ t, t < L.length ∧ candi L rest group t ∧ m_X3_tightest_L9 N bes (nI L.length) (nI rest) (nI group) n (nI i) most best = some (nI t)) ∨ ((∀ t, t < L.length → ¬ candi L rest group t) ∧ m_X3_tightest_L9 N bes (nI L.length) (nI rest) (nI group) n (nI i) most best = some (-1)) := by
    intro d
    induction d with
    | zero =>
      intro i n most best hi hn h
      obtain ⟨n, rfl⟩ : ∃ m, n = m + 1 := ⟨n - 1, by omega⟩
      have : i = L.length := by omega
      subst this
      rw [m_X3_tightest_L9, if_pos (nI_le (Nat.le_refl _) (by omega))]
      rcases h with ⟨h1, -, h2⟩ | ⟨t, h1, h2, h3⟩
      · exact Or.inr ⟨h2, by rw [h1]⟩
      · exact Or.inl ⟨t, h1, h2, by rw [h3]⟩
    | succ d ih =>
      intro i n most best hi hn h
      obtain ⟨n, rfl⟩ : ∃ m, n = m + 1 := ⟨n - 1, by omega⟩
      have hil : i < L.length := by omega
      have lb := bsd_lt h21 i
      have la : ad (bsd L i) rest < 2 ^ 24 := ad_lt (Nat.lt_of_lt_of_le lb (p2le (by decide)))
      have skipc : ¬ candi L rest group i → (best = -1 ∧ most = -1 ∧ ∀ t, t < i + 1 → ¬ candi L rest group t) ∨ ∃ t, t < L.length ∧ candi L rest group t ∧ best = nI t := fun hc => by
        rcases h with ⟨h1, h2, h3⟩ | h
        · refine Or.inl ⟨h1, h2, fun t ht => ?_⟩
          rcases Nat.lt_or_ge t i with g | g
          · exact h3 t g
          · rw [show t = i by omega]; exact hc
        · exact Or.inr h
      rw [m_X3_tightest_L9, if_neg (nI_ge hil (by omega)), x_at (by omega) (by decide), r_bind, hB i hil, m_holds (by omega) (by omega), r_bind, sel, nI_1]
      cases q : rest.testBit i with
      | false =>
        rw [if_neg bff]
        exact ih (i + 1) n most best (by omega) (by omega) (skipc (fun c => by rw [c.1] at q; cases q))
      | true =>
        rw [if_pos btt]
        simp only [jn]
        rw [nandn, m_bitCount la, r_bind, nand]
        have wt := pop_le 24 (ad (bsd L i) rest)
        have step : candi L rest group i → (∃ t, t < L.length ∧ candi L rest group t ∧ (if nI (pop 24 (ad (bsd L i) rest)) ≤ most then m_X3_tightest_L9 N bes (nI L.length) (nI rest) (nI group) n (nI (i + 1)) most best else m_X3_tightest_L9 N bes (nI L.length) (nI rest) (nI group) n (nI (i + 1)) (nI (pop 24 (ad (bsd L i) rest))) (nI i)) = some (nI t)) ∨ ((∀ t, t < L.length → ¬ candi L rest group t) ∧ (if nI (pop 24 (ad (bsd L i) rest)) ≤ most then m_X3_tightest_L9 N bes (nI L.length) (nI rest) (nI group) n (nI (i + 1)) most best else m_X3_tightest_L9 N bes (nI L.length) (nI rest) (nI group) n (nI (i + 1)) (nI (pop 24 (ad (bsd L i) rest))) (nI i)) = some (-1)) := fun hc => by
          by_cases w : nI (pop 24 (ad (bsd L i) rest)) ≤ most
          · rw [if_pos w]
            refine ih (i + 1) n most best (by omega) (by omega) ?_
            rcases h with ⟨h1, h2, h3⟩ | h
            · rw [h2] at w
              exfalso
              have p := nI_pos (n := pop 24 (ad (bsd L i) rest)) (by omega)
              rw [fa_le, neg1] at w
              rw [fa_lt] at p
              have z : (0 : Int32).toInt = 0 := by decide
              omega
            · exact Or.inr h
          · rw [if_neg w]
            exact ih (i + 1) n _ _ (by omega) (by omega) (Or.inr ⟨i, hil, hc, rfl⟩)
        by_cases g0 : group = 0
        · rw [if_pos (by rw [g0]; rfl)]
          exact step ⟨q, Or.inl g0⟩
        · rw [if_neg (fun w => g0 ((nI_eq0 (by omega)).mp w))]
          by_cases g1 : bsd L i &&& group = 0
          · rw [if_pos (by rw [g1]; rfl)]
            refine ih (i + 1) n most best (by omega) (by omega) (skipc (fun c => ?_))
            rcases c.2 with c | c
            · exact g0 c
            · exact c g1
          · rw [if_neg (fun w => g1 ((nI_eq0 (Nat.lt_of_le_of_lt Nat.and_le_right (by omega))).mp w))]
            exact step ⟨q, Or.inr g1⟩
  exact key L.length 0 N (-1) (-1) (by omega) (by omega) (Or.inl ⟨rfl, rfl, fun t ht => absurd ht (Nat.not_lt_zero t)⟩)
end
-- 86.groups.lean.txt
section
/-! pure: arrange -/
abbrev Gr7 : Type := Option (Int32 × (Nat → Int32) × (Nat → Int32) × (Nat → Int32) × Int32 × (Nat → Int32) × Int32)
/-- where a group stands: o was open, r is placed, rest is left -/
def INg (T o : Nat) (Z r : List Nat) (rest group : Nat) : Prop := rest < 2 ^ T ∧ (∀ t, group.testBit t = true ↔ t ∈ r) ∧ group < 2 ^ 21 ∧ (∀ t, o.testBit t = true ↔ t ∈ r ∨ rest.testBit t = true) ∧ r.Nodup ∧ (∀ t ∈ r, rest.testBit t = false) ∧ (Z ++ r).length + ct (fun i => rest.testBit i) T ≤ 21
theorem tb_lt {x n t : Nat} (h : x < 2 ^ n) (ht : x.testBit t = true) : t < n := by
  rcases Nat.lt_or_ge t n with g | g
  · exact g
  · rw [Nat.testBit_lt_two_pow (Nat.lt_of_lt_of_le h (p2le g))] at ht
    cases ht
theorem tb_none {x n : Nat} (h : x < 2 ^ n) (hc : ct (fun i => x.testBit i) n = 0) (t : Nat) : x.testBit t = false := by
  cases q : x.testBit t with
  | false => rfl
  | true =>
    have := (ct_pos (p := fun i => x.testBit i) (n := n)).mpr ⟨t, tb_lt h q, q⟩
    omega
theorem tb_del {x t i : Nat} : (ad x (2 ^ t)).testBit i = (x.testBit i && !(i == t)) := by
  rw [tb_ad, Nat.testBit_two_pow]
  congr 2
  rw [Bool.eq_iff_iff]
  simp
  exact eq_comm
theorem tb_ins {x t i : Nat} : (x ||| 2 ^ t).testBit i = (x.testBit i || i == t) := by
  rw [Nat.testBit_or, Nat.testBit_two_pow]
  congr 1
  rw [Bool.eq_iff_iff]
  simp
  exact eq_comm
theorem INg.step {T o : Nat} {Z r : List Nat} {rest group t : Nat} (hT : T ≤ 21) (h : INg T o Z r rest group) (ht : rest.testBit t = true) : INg T o Z (r ++ [t]) (ad rest (2 ^ t)) (group ||| 2 ^ t) ∧ ct (fun i => (ad rest (2 ^ t)).testBit i) T + 1 = ct (fun i => rest.testBit i) T := by
  obtain ⟨h1, h2, h3, h4, h5, h6, h7⟩ := h
  have tT := tb_lt h1 ht
  have cd : ct (fun i => (ad rest (2 ^ t)).testBit i) T + 1 = ct (fun i => rest.testBit i) T := by
    rw [← ct_del (p := fun i => rest.testBit i) tT ht]
    congr 1
    exact ct_cong (fun i _ => tb_del)
  refine ⟨⟨ad_lt h1, fun i => ?_, or_lt h3 (p2lt (by omega)), fun i => ?_, ?_, fun i hi => ?_, ?_⟩, cd⟩
  · rw [tb_ins, Bool.or_eq_true, h2 i]
    simp
  · rw [h4 i, tb_del]
    simp
    by_cases q : i = t
    · subst q
      simp [ht]
    · simp [q]
  · rw [List.nodup_append]
    refine ⟨h5, by simp, fun a ha b hb => ?_⟩
    simp at hb
    rw [hb]
    intro q
    rw [q] at ha
    rw [h6 t ha] at ht
    cases ht
  · rw [tb_del]
    rcases List.mem_append.mp hi with g | g
    · rw [h6 i g]; rfl
    · simp at g
      simp [g]
  · rw [← List.append_assoc, List.length_append, List.length_singleton]
    omega
theorem x_agLoop {N K o : Nat} {L : List TH} {Z : List Nat} {e c bes : Nat → Int32} {J126 J33 : Int32 → (Nat → Int32) → (Nat → Int32) → (Nat → Int32) → Int32 → Gr7} (hJ : ∀ a b d f h, J33 a b d f h = J126 a b d f h) (hN : 1000 ≤ N) (hW : WL K L) (hX : XL L e c) (hB : BSr L bes) :
    ∀ cnt (r : List Nat) (rest group n x5 : Nat) (b l g : Nat → Int32), ct (fun i => rest.testBit i) L.length = cnt → x5 + cnt ≤ 21 → cnt < n → PAr L (Z ++ r) b l g → INg L.length o Z r rest group →
    ∃ (r' : List Nat) (rest' group' : Nat) (b' l' g' : Nat → Int32), m_X3_arrangeGroup_L8 N bes (nI L.length) e J126 J33 n (nI x5) (nI group) (nI rest) b l g (nI (Z ++ r).length) = J126 (nI rest') b' l' g' (nI (Z ++ r').length) ∧ PAr L (Z ++ r') b' l' g' ∧ INg L.length o Z r' rest' group' ∧ ∀ t, ¬ candi L rest' group' t := by
  have h21 := hW.len21
  have hw := hW.wt
  obtain ⟨hE, -⟩ := XL_iff.mp hX
  intro cnt
  induction cnt with
  | zero =>
    intro r rest group n x5 b l g hc hx hn hP hI
    obtain ⟨n, rfl⟩ : ∃ m, n = m + 1 := ⟨n - 1, by omega⟩
    have none := tb_none hI.1 hc
    have nc : ∀ t, ¬ candi L rest group t := fun t w => by
      have := w.1
      rw [none t] at this
      cases this
    refine ⟨r, rest, group, b, l, g, ?_, hP, hI, nc⟩
    rw [m_X3_arrangeGroup_L8]
    by_cases q : 21 ≤ x5
    · rw [if_pos (show (21 : Int32) ≤ nI x5 from nI_le (a := 21) q (by omega))]
    · unfold m_X2_threads
      rw [if_neg (show ¬ (21 : Int32) ≤ nI x5 from nI_ge (b := 21) (by omega) (by omega)), r_bind]
      rcases x_tightest hN h21 hB (Nat.lt_of_lt_of_le hI.1 (p2le h21)) hI.2.2.1 with ⟨t, t1, t2, -⟩ | ⟨-, t2⟩
      · exact absurd t2 (nc t)
      · rw [t2, r_bind, if_neg (by decide)]
        exact hJ _ _ _ _ _
  | succ cnt ih =>
    intro r rest group n x5 b l g hc hx hn hP hI
    obtain ⟨n, rfl⟩ : ∃ m, n = m + 1 := ⟨n - 1, by omega⟩
    have l7 := hI.2.2.2.2.2.2
    unfold m_X3_arrangeGroup_L8
    unfold m_X2_threads
    rw [if_neg (show ¬ (21 : Int32) ≤ nI x5 from nI_ge (b := 21) (by omega) (by omega)), r_bind]
    rcases x_tightest hN h21 hB (Nat.lt_of_lt_of_le hI.1 (p2le h21)) hI.2.2.1 with ⟨t, t1, t2, t3⟩ | ⟨t1, t2⟩
    · obtain ⟨I', c'⟩ := hI.step h21 t2.1
      rw [t3, r_bind, if_pos (show (0 : Int32) ≤ nI t from nI_le (a := 0) (Nat.zero_le t) (by omega)), m_bit (by omega), r_bind, x_put (by omega) (by decide), r_bind, x_lesser hw hE t1, r_bind, show (3 : Int32) = nI 3 from rfl, pk_mul, x_put (by omega) (by decide), r_bind, x_greater hw hE t1, r_bind, pk_mul, x_put (by omega) (by decide), r_bind]
      simp only [nm, r_bind]
      rw [nI_1, nor, nandn, nI_1]
      have P' : PAr L (Z ++ (r ++ [t])) (upd b (Z ++ r).length (nI (2 ^ t))) (upd l (Z ++ r).length (nI (3 * (thn L t).1))) (upd g (Z ++ r).length (nI (3 * (thn L t).2.1))) := by
        rw [← List.append_assoc]
        exact hP.app
      have el : (Z ++ (r ++ [t])).length = (Z ++ r).length + 1 := by rw [← List.append_assoc, List.length_append, List.length_singleton]
      have := ih (r ++ [t]) (ad rest (2 ^ t)) (group ||| 2 ^ t) n (x5 + 1) _ _ _ (by omega) (by omega) (by omega) P' I'
      rw [el] at this
      exact this
    · refine ⟨r, rest, group, b, l, g, ?_, hP, hI, fun t w => t1 t (tb_lt hI.1 w.1) w⟩
      rw [t2, r_bind, if_neg (by decide)]
      exact hJ _ _ _ _ _
theorem x_arrangeGroup {N K o gr : Nat} {L : List TH} {Z : List Nat} {e c bes b l g st : Nat → Int32} (hN : 1000 ≤ N) (hW : WL K L) (hX : XL L e c) (hB : BSr L bes) (hP : PAr L Z b l g) (ho : o < 2 ^ L.length) (hgr : gr < 21) (hc : Z.length + ct (fun i => o.testBit i) L.length ≤ 21) :
    ∃ (r : List Nat) (rest : Nat) (b' l' g' : Nat → Int32), m_X3_arrangeGroup N b l g (nI Z.length) st (nI gr) bes (nI L.length) e (nI o) = some (nI rest, b', l', g', nI (Z ++ r).length, upd st gr (nI (Z ++ r).length), nI (gr + 1)) ∧ PAr L (Z ++ r) b' l' g' ∧ rest < 2 ^ L.length ∧ (∀ t, o.testBit t = true ↔ t ∈ r ∨ rest.testBit t = true) ∧ r.Nodup ∧ (∀ t ∈ r, rest.testBit t = false) ∧ (Z ++ r).length + ct (fun i => rest.testBit i) L.length ≤ 21 ∧ (r = [] → ∀ t, o.testBit t = false) ∧ ∀ t ∈ r, ∀ v, rest.testBit v = true → tchp (thn L t) (thn L v) = false := by
  have h21 := hW.len21
  have I0 : INg L.length o Z [] o 0 := ⟨ho, fun t => by simp, by decide, fun t => by simp, List.nodup_nil, (fun t ht => by cases ht), (by simpa using hc)⟩
  have c0 := ct_le (fun i => o.testBit i) L.length
  obtain ⟨r, rest, group, b', l', g', h1, h2, h3, h4⟩ := x_agLoop (N := N) (J126 := fun (x3_1 : Int32) (f_bits_2 f_lesser_3 f_greater_4 : Nat → Int32) (f_placed_5 : Int32) => Option.bind (m_X6_put N 21 st (nI gr) f_placed_5) (fun f_stops_6 => nm (nI gr + 1) (fun (w_8 : Int32) => some (x3_1, f_bits_2, f_lesser_3, f_greater_4, f_placed_5, f_stops_6, w_8)))) (J33 := fun (x3_1 : Int32) (f_bits_2 f_lesser_3 f_greater_4 : Nat → Int32) (f_placed_5 : Int32) => Option.bind (m_X6_put N 21 st (nI gr) f_placed_5) (fun f_stops_6 => nm (nI gr + 1) (fun (w_8 : Int32) => some (x3_1, f_bits_2, f_lesser_3, f_greater_4, f_placed_5, f_stops_6, w_8)))) (fun _ _ _ _ _ => rfl) hN hW hX hB (ct (fun i => o.testBit i) L.length) [] o 0 N 0 b l g rfl (by omega) (by omega) (by rw [List.append_nil]; exact hP) I0
  obtain ⟨i1, i2, i3, i4, i5, i6, i7⟩ := h3
  rw [List.append_nil] at h1
  refine ⟨r, rest, b', l', g', Eq.trans h1 ?_, h2, i1, i4, i5, i6, i7, fun hr t => ?_, fun t ht v hv => ?_⟩
  · rw [x_put (by omega) (by decide), r_bind]
    simp only [nm]
    rw [nI_1]
  · cases q : o.testBit t with
    | false => rfl
    | true =>
      have g0 : group = 0 := by
        apply Nat.eq_of_testBit_eq
        intro i
        rw [Nat.zero_testBit]
        cases w : group.testBit i with
        | false => rfl
        | true =>
          have := (i2 i).mp w
          rw [hr] at this
          cases this
      rcases (i4 t).mp q with w | w
      · rw [hr] at w; cases w
      · exact absurd ⟨w, Or.inl g0⟩ (h4 t)
  · have nc := h4 v
    have vT := tb_lt i1 hv
    have tT := tb_lt ho ((i4 t).mpr (Or.inl ht))
    refine bsd_no hW tT vT ?_
    cases q : (bsd L v).testBit t with
    | false => rfl
    | true =>
      have : bsd L v &&& group ≠ 0 := fun w => by
        have z := Nat.testBit_and (bsd L v) group t
        rw [w, q, (i2 t).mpr ht, Nat.zero_testBit] at z
        cases z
      exact absurd ⟨hv, Or.inr this⟩ nc
/-- what arrange leaves -/
def ARr (L : List TH) (o : Nat) (G : List (List Nat)) (b l g st : Nat → Int32) : Prop := PAr L G.flatten b l g ∧ G.flatten.length ≤ 21 ∧ G.length ≤ 21 ∧ (∀ i, i < G.length → st i = nI (G.take (i + 1)).flatten.length) ∧ G.Pairwise (gdis L) ∧ G.flatten.Nodup ∧ ∀ t, o.testBit t = true ↔ t ∈ G.flatten
theorem x_arrange {N K o : Nat} {L : List TH} {e c b l g st bes : Nat → Int32} {p0 gr0 : Int32} (hN : 1000 ≤ N) (hW : WL K L) (hX : XL L e c) (ho : o < 2 ^ L.length) : ∃ (G : List (List Nat)) (b' l' g' st' bes' : Nat → Int32), m_X3_arrange N b l g p0 st gr0 bes (nI L.length) e (nI o) = some (b', l', g', nI G.flatten.length, st', nI G.length, bes') ∧ ARr L o G b' l' g' st' := by
  have h21 := hW.len21
  obtain ⟨bes', hb1, hb2⟩ := x_beside (N := N) (R := Nat) (bes := bes) (J := fun f_beside_1 => m_X3_arrange_L48 N (nI L.length) e f_beside_1 N 0 (nI o) b l g 0 st 0) hN hW hX
  have key : ∀ cnt (G : List (List Nat)) (rest n : Nat) (b l g st : Nat → Int32), ct (fun i => rest.testBit i) L.length = cnt → cnt < n → PAr L G.flatten b l g → rest < 2 ^ L.length → G.flatten.length + cnt ≤ 21 → G.length ≤ G.flatten.length → (∀ i, i < G.length → st i = nI (G.take (i + 1)).flatten.length) → G.Pairwise (gdis L) → G.flatten.Nodup → (∀ t ∈ G.flatten, rest.testBit t = false ∧ ∀ v, rest.testBit v = true → tchp (thn L t) (thn L v) = false) → (∀ t, o.testBit t = true ↔ t ∈ G.flatten ∨ rest.testBit t = true) →
      ∃ (G' : List (List Nat)) (b' l' g' st' : Nat → Int32), m_X3_arrange_L48 N (nI L.length) e bes' n (nI G.length) (nI rest) b l g (nI G.flatten.length) st (nI G.length) = some (b', l', g', nI G'.flatten.length, st', nI G'.length, bes') ∧ ARr L o G' b' l' g' st' := by
    intro cnt
    induction cnt using Nat.strongRecOn with
    | ind cnt ih =>
    intro G rest n b l g st hc hn hP hr hl hl2 hst hpw hnd hdj ho2
    obtain ⟨n, rfl⟩ : ∃ m, n = m + 1 := ⟨n - 1, by omega⟩
    by_cases q : rest = 0
    · have done : ARr L o G b l g st := ⟨hP, by omega, by omega, hst, hpw, hnd, fun t => by rw [ho2 t, q, Nat.zero_testBit]; simp⟩
      refine ⟨G, b, l, g, st, ?_, done⟩
      rw [m_X3_arrange_L48, q]
      split
      · rfl
      · rw [if_pos (show nI 0 = 0 from rfl)]
    · have pos : ∃ t, rest.testBit t = true := by
        rcases Nat.eq_zero_or_pos cnt with w | w
        · exfalso
          apply q
          apply Nat.eq_of_testBit_eq
          intro t
          rw [tb_none hr (by omega) t, Nat.zero_testBit]
        · obtain ⟨t, -, ht⟩ := (ct_pos (p := fun i => rest.testBit i) (n := L.length)).mp (by omega)
          exact ⟨t, ht⟩
      obtain ⟨t0, ht0⟩ := pos
      have cp : 0 < cnt := by
        have := (ct_pos (p := fun i => rest.testBit i) (n := L.length)).mpr ⟨t0, tb_lt hr ht0, ht0⟩
        omega
      obtain ⟨r, rest', b', l', g', h1, h2, h3, h4, h5, h6, h7, h8, h9⟩ := x_arrangeGroup (gr := G.length) (st := st) hN hW hX hb2 hP hr (by omega) (by omega)
      have rne : r ≠ [] := fun w => by
        have := h8 w t0
        rw [ht0] at this
        cases this
      have rl : 0 < r.length := List.length_pos_iff.mpr rne
      have fl' : (G ++ [r]).flatten = G.flatten ++ r := by simp
      have lr : rest < 2 ^ 21 := Nat.lt_of_lt_of_le hr (p2le h21)
      have rr : ∀ t ∈ r, rest.testBit t = true := fun t ht => (h4 t).mpr (Or.inl ht)
      rw [m_X3_arrange_L48, if_neg (show ¬ (21 : Int32) ≤ nI G.length from nI_ge (b := 21) (by omega) (by omega)), if_neg (fun w => q ((nI_eq0 (by omega)).mp w)), h1, r_bind]
      have cc : ct (fun i => rest'.testBit i) L.length < cnt := by
        obtain ⟨t1, ht1⟩ := List.exists_mem_of_ne_nil r rne
        rw [← hc]
        exact ct_strict (i := t1) (fun i _ hi => (h4 i).mpr (Or.inr hi)) (tb_lt hr (rr t1 ht1)) (h6 t1 ht1) (rr t1 ht1)
      have lc : (G.flatten ++ r).length = G.flatten.length + r.length := List.length_append
      have := ih (ct (fun i => rest'.testBit i) L.length) cc (G ++ [r]) rest' n b' l' g' (upd st G.length (nI (G.flatten ++ r).length)) rfl (by omega) (by rw [fl']; exact h2) h3 (by rw [fl']; exact h7) (by rw [fl', lc, List.length_append, List.length_singleton]; omega) (fun i hi => ?_) ?_ ?_ ?_ ?_
      · rw [fl', show (G ++ [r]).length = G.length + 1 by simp] at this
        show ∃ G' b'_1 l'_1 g'_1 st', m_X3_arrange_L48 N (nI L.length) e bes' n (nI G.length + 1) (nI rest') b' l' g' (nI (G.flatten ++ r).length) (upd st G.length (nI (G.flatten ++ r).length)) (nI (G.length + 1)) = _ ∧ _
        rw [nI_1]
        exact this
      · rw [List.length_append, List.length_singleton] at hi
        by_cases w : i = G.length
        · subst w
          rw [upd_s, show (G ++ [r]).take (G.length + 1) = G ++ [r] from List.take_of_length_le (by simp), fl']
        · rw [upd_n w, hst i (by omega), List.take_append_of_le_length (by omega)]
      · rw [List.pairwise_append]
        refine ⟨hpw, List.pairwise_singleton _ _, fun a ha d hd => ?_⟩
        rw [List.mem_singleton] at hd
        rw [hd]
        intro t ht v hv
        exact (hdj t (List.mem_flatten.mpr ⟨a, ha, ht⟩)).2 v (rr v hv)
      · rw [fl', List.nodup_append]
        refine ⟨hnd, h5, fun a ha d hd w => ?_⟩
        rw [w] at ha
        have := (hdj d ha).1
        rw [rr d hd] at this
        cases this
      · intro t ht
        rw [fl'] at ht
        rcases List.mem_append.mp ht with w | w
        · refine ⟨?_, fun v hv => (hdj t w).2 v ((h4 v).mpr (Or.inr hv))⟩
          cases z : rest'.testBit t with
          | false => rfl
          | true =>
            have a := (hdj t w).1
            rw [(h4 t).mpr (Or.inr z)] at a
            cases a
        · exact ⟨h6 t w, fun v hv => h9 t w v hv⟩
      · intro t
        rw [ho2 t, fl', List.mem_append, h4 t, or_assoc]
  have cle := ct_le (fun i => o.testBit i) L.length
  obtain ⟨G, b', l', g', st', k1, k2⟩ := key (ct (fun i => o.testBit i) L.length) [] o N b l g st rfl (by omega) (fun p t hp => by simp at hp) ho (by simp; omega) (by simp) (fun i hi => absurd hi (Nat.not_lt_zero i)) List.Pairwise.nil List.nodup_nil (fun t ht => by cases ht) (fun t => by simp)
  exact ⟨G, b', l', g', st', bes', Eq.trans hb1 k1, k2⟩
end
-- 87.paints.lean.txt
section
/-! pure: the reference goes through the good paintings -/
def alK (keep : Bool) (x : TH) (c : Nat) : Bool := !keep || x.2.2 == 3 || x.2.2 == c
/-- what the tries ahead of a thread use -/
def TRr (L : List TH) (tries : Nat → Int32) (t : Nat) (U : UC) : Prop := ∀ k d, d < 3 → (U k d = true ↔ ∃ i, i < t ∧ tries i = nI d ∧ atk k (thn L i) = true)
theorem TRr.agree {L : List TH} {a b : Nat → Int32} {t : Nat} {U : UC} (h : TRr L a t U) (e : ∀ i, i < t → b i = a i) : TRr L b t U := by
  intro k d hd
  rw [h k d hd]
  constructor
  · rintro ⟨i, h1, h2, h3⟩
    exact ⟨i, h1, by rw [e i h1]; exact h2, h3⟩
  · rintro ⟨i, h1, h2, h3⟩
    exact ⟨i, h1, by rw [← e i h1]; exact h2, h3⟩
theorem TRr.take {L : List TH} {a : Nat → Int32} {t c : Nat} {U : UC} (h : TRr L a t U) (hc : c < 3) : TRr L (upd a t (nI c)) (t + 1) (us3 U (thn L t) c) := by
  intro k d hd
  unfold us3
  rw [Bool.or_eq_true, h k d hd, Bool.and_eq_true]
  constructor
  · rintro (⟨i, h1, h2, h3⟩ | ⟨h1, h2⟩)
    · exact ⟨i, by omega, by rw [upd_n (by omega)]; exact h2, h3⟩
    · exact ⟨t, by omega, by rw [upd_s]; simp at h2; rw [h2], h1⟩
  · rintro ⟨i, h1, h2, h3⟩
    by_cases q : i = t
    · subst q
      rw [upd_s] at h2
      have := (nI_eq (by omega) (by omega)).mp h2
      exact Or.inr ⟨h3, by simp; omega⟩
    · rw [upd_n q] at h2
      exact Or.inl ⟨i, by omega, h2, h3⟩
theorem TRr.skip {L : List TH} {a : Nat → Int32} {t : Nat} {U : UC} (h : TRr L a t U) : TRr L (upd a t (nI 4)) (t + 1) U := by
  intro k d hd
  rw [h k d hd]
  constructor
  · rintro ⟨i, h1, h2, h3⟩
    exact ⟨i, by omega, by rw [upd_n (by omega)]; exact h2, h3⟩
  · rintro ⟨i, h1, h2, h3⟩
    by_cases q : i = t
    · subst q
      rw [upd_s] at h2
      have := (nI_eq (a := 4) (b := d) (by omega) (by omega)).mp h2
      omega
    · rw [upd_n q] at h2
      exact ⟨i, by omega, h2, h3⟩
section PM
variable {N K skip t c : Nat} {L : List TH} {s tries first : Nat → Int32} {U : UC} {keep : Bool}
theorem m_may (hN : 1000 ≤ N) (hW : WL K L) (hM : ML K L s) (ht : t < L.length) (hc : c < 3) (hT : TRr L tries t U) : m_X7_may N s tries (nI t) (nI c) = some (if fr3 U (thn L t) c then 1 else 0) := by
  have h21 := hW.len21
  have ms := ML_iff.mp hM
  have st : ∀ n i, i < t → m_X7_may_L2 N s tries (nI t) (nI c) (n + 1) (nI i) = if ((tries i == nI c) && tchp (thn L i) (thn L t)) = true then some 0 else m_X7_may_L2 N s tries (nI t) (nI c) n (nI (i + 1)) := by
    intro n i hi
    rw [m_X7_may_L2, if_neg (nI_ge hi (by omega)), r_ard (by omega) (by omega), nI_1]
    by_cases q : tries i = nI c
    · have b : (tries i == nI c) = true := by simpa using q
      rw [if_pos q, m_touch hW.wt ms (by omega) ht, r_bind, sel, b]
      rfl
    · have b : (tries i == nI c) = false := by simpa using q
      rw [if_neg q, b]
      rfl
  have := for_find (fun n i => m_X7_may_L2 N s tries (nI t) (nI c) n (nI i)) (fun i => (tries i == nI c) && tchp (thn L i) (thn L t)) t (some 0) (some 1) (fun n => by
    show m_X7_may_L2 N s tries (nI t) (nI c) (n + 1) (nI t) = _
    rw [m_X7_may_L2, if_pos (nI_le (Nat.le_refl _) (by omega))]) (fun n i hi hp => by
    show m_X7_may_L2 N s tries (nI t) (nI c) (n + 1) (nI i) = _
    rw [st n i hi, if_pos hp]) (fun n i hi hp => by
    show m_X7_may_L2 N s tries (nI t) (nI c) (n + 1) (nI i) = m_X7_may_L2 N s tries (nI t) (nI c) n (nI (i + 1))
    rw [st n i hi, hp]
    rfl) N (by omega)
  unfold m_X7_may
  refine Eq.trans this ?_
  have e : an (fun i => (tries i == nI c) && tchp (thn L i) (thn L t)) t = !fr3 U (thn L t) c := by
    rw [Bool.eq_iff_iff, an_iff]
    have h1 := hT (thn L t).1 c hc
    have h2 := hT (thn L t).2.1 c hc
    unfold fr3
    constructor
    · rintro ⟨i, g1, g2⟩
      rw [Bool.and_eq_true] at g2
      obtain ⟨g2, g3⟩ := g2
      have g2 : tries i = nI c := by simpa using g2
      unfold tchp at g3
      rw [Bool.or_eq_true] at g3
      rcases g3 with g3 | g3
      · rw [h1.mpr ⟨i, g1, g2, g3⟩]; rfl
      · rw [h2.mpr ⟨i, g1, g2, g3⟩]; simp
    · intro g
      have : U (thn L t).1 c = true ∨ U (thn L t).2.1 c = true := by
        cases q1 : U (thn L t).1 c <;> cases q2 : U (thn L t).2.1 c <;> simp_all
      rcases this with q | q
      · obtain ⟨i, g1, g2, g3⟩ := h1.mp q
        exact ⟨i, g1, by unfold tchp; rw [g3, g2]; simp⟩
      · obtain ⟨i, g1, g2, g3⟩ := h2.mp q
        exact ⟨i, g1, by unfold tchp; rw [g3, g2]; simp⟩
  rw [e]
  cases fr3 U (thn L t) c <;> rfl
def nxc (p : Nat → Bool) : Nat → Nat → Nat
  | 0, c => c
  | k + 1, c => if p c = true then c else nxc p k (c + 1)
def goodC (keep : Bool) (U : UC) (x : TH) (c : Nat) : Bool := alK keep x c && fr3 U x c
theorem m_next1 {y : Int32} (hN : 1000 ≤ N) (hW : WL K L) (hM : ML K L s) (ht : t < L.length) (hT : TRr L tries t U) (hy : y = if keep = true then nI (thn L t).2.2 else 3) (h3 : (thn L t).2.2 ≤ 3) : ∀ k c n, c + k = 3 → k < n → m_X7_nextAt_L49 N s tries (nI t) y n (nI c) = some (nI (nxc (goodC keep U (thn L t)) k c)) := by
  intro k
  induction k with
  | zero =>
    intro c n hc hn
    obtain ⟨n, rfl⟩ : ∃ m, n = m + 1 := ⟨n - 1, by omega⟩
    have : c = 3 := by omega
    subst this
    rw [m_X7_nextAt_L49, if_pos (show (3 : Int32) ≤ nI 3 by decide)]
    rfl
  | succ k ih =>
    intro c n hc hn
    obtain ⟨n, rfl⟩ : ∃ m, n = m + 1 := ⟨n - 1, by omega⟩
    have hc3 : c < 3 := by omega
    have ih' := ih (c + 1) n (by omega) (by omega)
    rw [m_X7_nextAt_L49, if_neg (show ¬ (3 : Int32) ≤ nI c from nI_ge (a := c) (b := 3) hc3 (by decide)), m_may hN hW hM ht hc3 hT, r_bind, sel, nI_1, ih']
    have eg : nxc (goodC keep U (thn L t)) (k + 1) c = if goodC keep U (thn L t) c = true then c else nxc (goodC keep U (thn L t)) k (c + 1) := rfl
    rw [eg]
    have ea : goodC keep U (thn L t) c = (alK keep (thn L t) c && fr3 U (thn L t) c) := rfl
    rw [ea]
    cases fr : fr3 U (thn L t) c with
    | false => rw [if_neg bff, Bool.and_false, if_neg bff]
    | true =>
      rw [if_pos btt, Bool.and_true, hy]
      unfold alK
      cases keep with
      | false =>
        rw [if_neg bff, if_pos rfl]
        rfl
      | true =>
        rw [if_pos btt]
        by_cases q : (thn L t).2.2 = 3
        · rw [if_pos ((nI3 (by omega)).mpr q), q]
          rfl
        · rw [if_neg (fun w => q ((nI3 (by omega)).mp w))]
          by_cases q2 : (thn L t).2.2 = c
          · rw [if_pos (by rw [q2]), if_pos (by simp [q2])]
          · rw [if_neg (fun w => q2 ((nI_eq (by omega) (by omega)).mp w)), if_neg (by simp [q, q2])]
theorem m_nextAt {k : Nat} (hN : 1000 ≤ N) (hW : WL K L) (hM : ML K L s) (ht : t < L.length) (hT : TRr L tries t U) (hs : skip < 2 ^ 31) (hb : skip.testBit t = false) (hv : tries t + 1 = nI c) (hc : c + k = 3) : m_X7_nextAt N s tries (nI t) (bI keep) (nI skip) = some (nI (nxc (goodC keep U (thn L t)) k c)) := by
  have h21 := hW.len21
  obtain ⟨x, hx⟩ := some_of ht
  have ho := hW.2.1 x (List.mem_of_getElem? hx)
  have ex : thn L t = x := getD_some hx
  have key := fun y hy => m_next1 (N := N) (keep := keep) (y := y) hN hW hM ht hT hy (by rw [ex]; exact ho.2.2) k c N hc (by omega)
  unfold m_X7_nextAt
  rw [m_has hs (by omega), r_bind, sel, hb, if_neg bff]
  simp only [jn, nm]
  rw [r_ard (by omega) (by omega), hv]
  cases keep with
  | false =>
    rw [if_pos (show bI false = 0 from rfl)]
    exact key 3 rfl
  | true =>
    rw [if_neg (show ¬ bI true = 0 by decide), ml_2 h21 hM hx, r_bind, r_ard (by omega) (by omega), hv]
    exact key _ (by rw [if_pos btt, ex])
theorem m_nextSkip (ht : t < 22) (hs : skip < 2 ^ 31) (hb : skip.testBit t = true) : m_X7_nextAt N s tries (nI t) (bI keep) (nI skip) = some (if 0 ≤ tries t then 3 else 4) := by
  unfold m_X7_nextAt
  rw [m_has hs (by omega), r_bind, sel, hb, if_pos btt, r_ard (by omega) (by omega)]
  split <;> rfl
theorem m_lays (hN : 1000 ≤ N) (h21 : L.length ≤ 21) (hM : ML K L s) (y : Int32) : ∃ first', m_X7_laysAside N s tries first y = some first' ∧ (y = 0 → first' = first) ∧ (y ≠ 0 → ∀ i, i < L.length → first' i = tries i) := by
  by_cases q : y = 0
  · refine ⟨first, ?_, fun _ => rfl, fun h => absurd q h⟩
    unfold m_X7_laysAside
    obtain ⟨n, rfl⟩ : ∃ m, N = m + 1 := ⟨N - 1, by omega⟩
    rw [m_X7_laysAside_L2, r_1 (by decide), if_pos q]
    split <;> rfl
  · have := for_inv (fun n i (f : Nat → Int32) => m_X7_laysAside_L2 N s tries y n (nI i) f) (fun i f => ∀ j, j < i → f j = tries j) L.length (fun f => some f) (fun n f hP => by
      show m_X7_laysAside_L2 N s tries y (n + 1) (nI L.length) f = _
      rw [m_X7_laysAside_L2, r_1 (by decide), hM.2.1, if_pos (nI_le (Nat.le_refl _) (by omega))]) (fun n i f hi hP => by
      show ∃ f', m_X7_laysAside_L2 N s tries y (n + 1) (nI i) f = m_X7_laysAside_L2 N s tries y n (nI (i + 1)) f' ∧ _
      refine ⟨upd f i (tries i), ?_, fun j hj => ?_⟩
      · rw [m_X7_laysAside_L2, r_1 (by decide), hM.2.1, if_neg (nI_ge hi (by omega)), if_neg q, r_ard (by omega) (by omega), r_awr (by omega) (by omega), nI_clamp (by omega), nI_1]
        rfl
      · by_cases w : j = i
        · rw [w, upd_s]
        · rw [upd_n w]
          exact hP j (by omega)) L.length N 0 first (by omega) (by omega) (fun j hj => absurd hj (Nat.not_lt_zero j))
    obtain ⟨f', h1, h2⟩ := this
    exact ⟨f', h2, fun h => absurd h q, fun _ => h1⟩
end PM
end
