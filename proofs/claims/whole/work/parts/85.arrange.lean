/-! pure: the open threads are put into groups that share no knot -/
theorem ct_del {p : Nat → Bool} {t : Nat} : ∀ {n : Nat}, t < n → p t = true → ct (fun i => p i && !(i == t)) n + 1 = ct p n
  | 0, h, _ => absurd h (Nat.not_lt_zero t)
  | n + 1, h, hp => by
    rw [ct_s, ct_s]
    by_cases q : t = n
    · subst q
      have : ct (fun i => p i && !(i == t)) t = ct p t := ct_cong (fun i hi => by
        have : (i == t) = false := by simp; omega
        rw [this]
        simp)
      rw [this, hp]
      simp
    · have ih := ct_del (p := p) (t := t) (n := n) (by omega) hp
      have : (n == t) = false := by simp; omega
      rw [this]
      simp only [Bool.not_false, Bool.and_true]
      omega
theorem nat_app (P : List Nat) (x i y : Nat) : (P ++ [x])[i]? = some y → P[i]? = some y ∨ (i = P.length ∧ x = y) := by
  intro h
  rcases Nat.lt_trichotomy i P.length with q | q | q
  · rw [List.getElem?_append_left q] at h
    exact Or.inl h
  · subst q
    rw [List.getElem?_append_right (Nat.le_refl _), Nat.sub_self] at h
    exact Or.inr ⟨rfl, Option.some.inj h⟩
  · rw [List.getElem?_eq_none (by simp; omega)] at h
    cases h
theorem nat_lt {P : List Nat} {i p : Nat} (h : P[i]? = some p) : i < P.length := by
  rcases Nat.lt_or_ge i P.length with g | g
  · exact g
  · rw [List.getElem?_eq_none g] at h; cases h
theorem PAr.app {L : List TH} {Z : List Nat} {b l g : Nat → Int32} {t : Nat} (h : PAr L Z b l g) : PAr L (Z ++ [t]) (upd b Z.length (nI (2 ^ t))) (upd l Z.length (nI (3 * (thn L t).1))) (upd g Z.length (nI (3 * (thn L t).2.1))) := by
  intro p v hp
  rcases nat_app Z t p v hp with q | ⟨rfl, rfl⟩
  · have := nat_lt q
    rw [upd_n (by omega), upd_n (by omega), upd_n (by omega)]
    exact h p v q
  · rw [upd_s, upd_s, upd_s]
    exact ⟨rfl, rfl, rfl⟩
/-- the threads that share a knot with a thread -/
def bsd (L : List TH) (i : Nat) : Nat := bs (fun t => em (fl L) (fh L) t &&& em (fl L) (fh L) i != 0) L.length
theorem bsd_lt {L : List TH} (h21 : L.length ≤ 21) (i : Nat) : bsd L i < 2 ^ 21 := Nat.lt_of_lt_of_le (bs_lt _ _) (p2le h21)
theorem bsd_no {K : Nat} {L : List TH} {t i : Nat} (hW : WL K L) (ht : t < L.length) (hi : i < L.length) (h : (bsd L i).testBit t = false) : tchp (thn L t) (thn L i) = false := by
  unfold bsd at h
  rw [tb_bs] at h
  have hw := hW.wt
  simp only [ht, decide_true, Bool.true_and] at h
  have h0 : em (fl L) (fh L) t &&& em (fl L) (fh L) i = 0 := by
    by_cases q : em (fl L) (fh L) t &&& em (fl L) (fh L) i = 0
    · exact q
    · simp [q] at h
  cases q : tchp (thn L t) (thn L i) with
  | false => rfl
  | true =>
    have key : ∀ k, isat (fl L) (fh L) t k = true → isat (fl L) (fh L) i k = true → False := fun k a b => by
      have a' := tb_em (lo := fl L) (hi := fh L) (hw.2 t ht).1 k
      have b' := tb_em (lo := fl L) (hi := fh L) (hw.2 i hi).1 k
      have c := Nat.testBit_and (em (fl L) (fh L) t) (em (fl L) (fh L) i) k
      rw [h0, a', b', a, b, Nat.zero_testBit] at c
      cases c
    unfold tchp at q
    rw [Bool.or_eq_true] at q
    rcases q with q | q
    · exact (key (thn L i).1 q (by unfold isat fl thn; simp)).elim
    · exact (key (thn L i).2.1 q (by unfold isat fh thn; simp)).elim
def BSr (L : List TH) (bes : Nat → Int32) : Prop := ∀ i, i < L.length → bes i = nI (bsd L i)
theorem x_beside {N K : Nat} {L : List TH} {e c bes : Nat → Int32} {R : Type} {J : (Nat → Int32) → Option ((Nat → Int32) × (Nat → Int32) × (Nat → Int32) × Int32 × (Nat → Int32) × Int32 × (Nat → Int32))} (hN : 1000 ≤ N) (hW : WL K L) (hX : XL L e c) : ∃ bes', m_X3_arrange_L2 N (nI L.length) e J N 0 bes = J bes' ∧ BSr L bes' := by
  have h21 := hW.len21
  have hw := hW.wt
  obtain ⟨hE, -⟩ := XL_iff.mp hX
  have := for_inv (fun n i (s : Nat → Int32) => m_X3_arrange_L2 N (nI L.length) e J n (nI i) s) (fun i s => ∀ j, j < i → s j = nI (bsd L j)) L.length (fun s => J s) (fun n s hP => by
      show m_X3_arrange_L2 N (nI L.length) e J (n + 1) (nI L.length) s = _
      rw [m_X3_arrange_L2]
      unfold m_X2_threads
      rw [r_bind, if_pos (nI_le (Nat.le_refl _) (by omega))]) (fun n i s hi hP => by
      show ∃ s', m_X3_arrange_L2 N (nI L.length) e J (n + 1) (nI i) s = m_X3_arrange_L2 N (nI L.length) e J n (nI (i + 1)) s' ∧ _
      have lt : em (fl L) (fh L) i < 2 ^ 31 := em_lt (n := 31) (hw.2 i hi).1 (by have := (hw.2 i hi).2.1; omega)
      refine ⟨upd s i (nI (bsd L i)), ?_, fun j hj => ?_⟩
      · rw [m_X3_arrange_L2]
        unfold m_X2_threads
        rw [r_bind, if_neg (nI_ge hi (by omega)), x_ends h21 hE hi, r_bind, x_threadsAt hN h21 hE lt, r_bind, x_put (by omega) (by decide), r_bind, nI_1]
        rfl
      · by_cases q : j = i
        · rw [q, upd_s]
        · rw [upd_n q]
          exact hP j (by omega)) L.length N 0 bes (by omega) (by omega) (fun j hj => absurd hj (Nat.not_lt_zero j))
  obtain ⟨s', h1, h2⟩ := this
  exact ⟨s', h2, h1⟩
/-- a thread that may come next in a group -/
def candi (L : List TH) (rest group t : Nat) : Prop := rest.testBit t = true ∧ (group = 0 ∨ bsd L t &&& group ≠ 0)
theorem x_tightest {N rest group : Nat} {L : List TH} {bes : Nat → Int32} (hN : 1000 ≤ N) (h21 : L.length ≤ 21) (hB : BSr L bes) (hr : rest < 2 ^ 21) (hg : group < 2 ^ 21) : (∃ t, t < L.length ∧ candi L rest group t ∧ m_X3_tightest N bes (nI L.length) (nI rest) (nI group) = some (nI t)) ∨ ((∀ t, t < L.length → ¬ candi L rest group t) ∧ m_X3_tightest N bes (nI L.length) (nI rest) (nI group) = some (-1)) := by
  have key : ∀ d i n (most best : Int32), i + d = L.length → d < n → ((best = -1 ∧ most = -1 ∧ ∀ t, t < i → ¬ candi L rest group t) ∨ ∃ t, t < L.length ∧ candi L rest group t ∧ best = nI t) → (∃ t, t < L.length ∧ candi L rest group t ∧ m_X3_tightest_L9 N bes (nI L.length) (nI rest) (nI group) n (nI i) most best = some (nI t)) ∨ ((∀ t, t < L.length → ¬ candi L rest group t) ∧ m_X3_tightest_L9 N bes (nI L.length) (nI rest) (nI group) n (nI i) most best = some (-1)) := by
    intro d
    induction d with
    | zero =>
      intro i n most best hi hn h
      obtain ⟨n, rfl⟩ : ∃ m, n = m + 1 := ⟨n - 1, by omega⟩
      have : i = L.length := by omega
      subst this
      rw [m_X3_tightest_L9, if_pos (nI_le (Nat.le_refl _) (by omega))]
      rcases h with ⟨h1, -, h2⟩ | ⟨t, h1, h2, h3⟩
      · exact Or.inr ⟨h2, by rw [h1]⟩
      · exact Or.inl ⟨t, h1, h2, by rw [h3]⟩
    | succ d ih =>
      intro i n most best hi hn h
      obtain ⟨n, rfl⟩ : ∃ m, n = m + 1 := ⟨n - 1, by omega⟩
      have hil : i < L.length := by omega
      have lb := bsd_lt h21 i
      have la : ad (bsd L i) rest < 2 ^ 24 := ad_lt (Nat.lt_of_lt_of_le lb (p2le (by decide)))
      have skipc : ¬ candi L rest group i → (best = -1 ∧ most = -1 ∧ ∀ t, t < i + 1 → ¬ candi L rest group t) ∨ ∃ t, t < L.length ∧ candi L rest group t ∧ best = nI t := fun hc => by
        rcases h with ⟨h1, h2, h3⟩ | h
        · refine Or.inl ⟨h1, h2, fun t ht => ?_⟩
          rcases Nat.lt_or_ge t i with g | g
          · exact h3 t g
          · rw [show t = i by omega]; exact hc
        · exact Or.inr h
      rw [m_X3_tightest_L9, if_neg (nI_ge hil (by omega)), x_at (by omega) (by decide), r_bind, hB i hil, m_holds (by omega) (by omega), r_bind, sel, nI_1]
      cases q : rest.testBit i with
      | false =>
        rw [if_neg bff]
        exact ih (i + 1) n most best (by omega) (by omega) (skipc (fun c => by rw [c.1] at q; cases q))
      | true =>
        rw [if_pos btt]
        simp only [jn]
        rw [nandn, m_bitCount la, r_bind, nand]
        have wt := pop_le 24 (ad (bsd L i) rest)
        have step : candi L rest group i → (∃ t, t < L.length ∧ candi L rest group t ∧ (if nI (pop 24 (ad (bsd L i) rest)) ≤ most then m_X3_tightest_L9 N bes (nI L.length) (nI rest) (nI group) n (nI (i + 1)) most best else m_X3_tightest_L9 N bes (nI L.length) (nI rest) (nI group) n (nI (i + 1)) (nI (pop 24 (ad (bsd L i) rest))) (nI i)) = some (nI t)) ∨ ((∀ t, t < L.length → ¬ candi L rest group t) ∧ (if nI (pop 24 (ad (bsd L i) rest)) ≤ most then m_X3_tightest_L9 N bes (nI L.length) (nI rest) (nI group) n (nI (i + 1)) most best else m_X3_tightest_L9 N bes (nI L.length) (nI rest) (nI group) n (nI (i + 1)) (nI (pop 24 (ad (bsd L i) rest))) (nI i)) = some (-1)) := fun hc => by
          by_cases w : nI (pop 24 (ad (bsd L i) rest)) ≤ most
          · rw [if_pos w]
            refine ih (i + 1) n most best (by omega) (by omega) ?_
            rcases h with ⟨h1, h2, h3⟩ | h
            · rw [h2] at w
              exfalso
              have p := nI_pos (n := pop 24 (ad (bsd L i) rest)) (by omega)
              rw [fa_le, neg1] at w
              rw [fa_lt] at p
              have z : (0 : Int32).toInt = 0 := by decide
              omega
            · exact Or.inr h
          · rw [if_neg w]
            exact ih (i + 1) n _ _ (by omega) (by omega) (Or.inr ⟨i, hil, hc, rfl⟩)
        by_cases g0 : group = 0
        · rw [if_pos (by rw [g0]; rfl)]
          exact step ⟨q, Or.inl g0⟩
        · rw [if_neg (fun w => g0 ((nI_eq0 (by omega)).mp w))]
          by_cases g1 : bsd L i &&& group = 0
          · rw [if_pos (by rw [g1]; rfl)]
            refine ih (i + 1) n most best (by omega) (by omega) (skipc (fun c => ?_))
            rcases c.2 with c | c
            · exact g0 c
            · exact c g1
          · rw [if_neg (fun w => g1 ((nI_eq0 (Nat.lt_of_le_of_lt Nat.and_le_right (by omega))).mp w))]
            exact step ⟨q, Or.inr g1⟩
  exact key L.length 0 N (-1) (-1) (by omega) (by omega) (Or.inl ⟨rfl, rfl, fun t ht => absurd ht (Nat.not_lt_zero t)⟩)
