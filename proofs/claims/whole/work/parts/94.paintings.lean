/-! both classes: paintings, firstPainting, complete -/
theorem sw_in {a : Int32} {n : Nat} (h : ¬ (Int32.toInt a < 0 ∨ (n : Int) < Int32.toInt a)) (hn : n < 2 ^ 30) : ∃ i, i ≤ n ∧ a = nI i := by
  rcases pk_ix a (show n + 1 < 2 ^ 31 by omega) with g | g | ⟨j, hj, e⟩
  · rw [fa_lt] at g
    exact absurd (Or.inl g) h
  · rw [fa_le, nI_toInt (by omega)] at g
    exact absurd (Or.inr (by omega)) h
  · exact ⟨j, by omega, e⟩
theorem sw_out {a : Int32} {n : Nat} (h : Int32.toInt a < 0 ∨ (n : Int) < Int32.toInt a) (hn : n < 2 ^ 30) : a < 0 ∨ nI n < a := by
  rcases h with h | h
  · left
    rw [fa_lt]
    exact h
  · right
    rw [fa_lt, nI_toInt (by omega)]
    exact h
theorem m_inT {N i n : Nat} (h : i ≤ n) (hn : n < 2 ^ 31) : m_X7_in N (nI i) 0 (nI n) = some 1 := by
  unfold m_X7_in
  rw [if_neg (nI_pos (by omega)), if_neg (nI_nlt h hn)]
theorem m_inF {N n : Nat} {a : Int32} (h : a < 0 ∨ nI n < a) : m_X7_in N a 0 (nI n) = some 0 := by
  unfold m_X7_in
  rcases h with h | h
  · rw [if_pos h]
  · by_cases g : a < 0
    · rw [if_pos g]
    · rw [if_neg g, if_pos h]
theorem b_paintings {N K : Nat} {L : List TH} {e c b l g st bes s tries first : Nat → Int32} {p0 gr0 : Int32} (a : Int32) (hN : NB ≤ N) (hW : WL K L) (hX : XL L e c) (hM : ML K L s) : ∃ r b' l' g' p' st' gr' bes' tries' first', m_X6_paintings N (nI L.length) e c b l g p0 st gr0 bes a = some (r, b', l', g', p', st', gr', bes') ∧ m_X7_paintings N s tries first a = some (r, tries', first') := by
  unfold m_X6_paintings m_X7_paintings
  by_cases h : Int32.toInt a < 0 ∨ 2 < Int32.toInt a
  · refine ⟨-2, b, l, g, p0, st, gr0, bes, tries, first, by rw [if_pos h], ?_⟩
    rw [show m_X7_in N a 0 2 = some 0 from m_inF (n := 2) (sw_out (n := 2) h (by decide)), r_bind, if_pos rfl]
  · obtain ⟨i, hi, rfl⟩ := sw_in (n := 2) h (by decide)
    rw [show m_X7_in N (nI i) 0 2 = some 1 from m_inT (n := 2) hi (by decide), r_bind, if_neg n10]
    simp only [jn]
    obtain rfl | rfl | rfl : i = 0 ∨ i = 1 ∨ i = 2 := by omega
    · obtain ⟨b', l', g', p', st', gr', bes', h1⟩ := x_isPaintable (b := b) (l := l) (g := g) (st := st) (bes := bes) (p0 := p0) (gr0 := gr0) (NB_le hN) hW hX
      obtain ⟨t', f', h2, -⟩ := m_paintsB (tries := tries) (first := first) (keep := false) (skip := 0) hN hW hM (by decide)
      by_cases q : 0 < cntA L false
      · have q2 : 0 < cq (alK false) (qs L 0 (rgf L.length 0)) U0 := q
        rw [if_pos q] at h1
        rw [if_pos q2] at h2
        refine ⟨1, b', l', g', p', st', gr', bes', t', f', ?_, ?_⟩
        · rw [if_neg h, if_pos (show nI 0 = 0 from rfl), h1, r_bind]
          rfl
        · rw [if_neg (show ¬ nI 0 = 1 by decide), if_pos (show nI 0 = 0 from rfl)]
          show Option.bind (m_X7_paints N s tries first (bI false) (nI 0) (bI true)) _ = _
          rw [h2]
          rfl
      · have q2 : ¬ 0 < cq (alK false) (qs L 0 (rgf L.length 0)) U0 := q
        rw [if_neg q] at h1
        rw [if_neg q2] at h2
        refine ⟨0, b', l', g', p', st', gr', bes', t', f', ?_, ?_⟩
        · rw [if_neg h, if_pos (show nI 0 = 0 from rfl), h1, r_bind]
          rfl
        · rw [if_neg (show ¬ nI 0 = 1 by decide), if_pos (show nI 0 = 0 from rfl)]
          show Option.bind (m_X7_paints N s tries first (bI false) (nI 0) (bI true)) _ = _
          rw [h2]
          rfl
    · obtain ⟨b', l', g', p', st', gr', bes', h1⟩ := x_howMany (b := b) (l := l) (g := g) (st := st) (bes := bes) (p0 := p0) (gr0 := gr0) (keep := true) (NB_le hN) hW hX
      obtain ⟨t', f', h2⟩ := m_paintsA (tries := tries) (first := first) (keep := true) (skip := 0) hN hW hM (by decide)
      refine ⟨nI (cntA L true), b', l', g', p', st', gr', bes', t', f', ?_, ?_⟩
      · rw [if_neg h, if_neg (show ¬ nI 1 = 0 by decide), if_pos (show nI 1 = 1 from rfl)]
        show Option.bind (m_X3_howMany N b l g p0 st gr0 bes (nI L.length) e c (bI true)) _ = _
        rw [h1]
        rfl
      · rw [if_pos (show nI 1 = 1 from rfl), if_neg (show ¬ nI 1 = 0 by decide)]
        show Option.bind (m_X7_paints N s tries first (bI true) (nI 0) (bI false)) _ = _
        rw [h2]
        rfl
    · obtain ⟨b', l', g', p', st', gr', bes', h1⟩ := x_howMany (b := b) (l := l) (g := g) (st := st) (bes := bes) (p0 := p0) (gr0 := gr0) (keep := false) (NB_le hN) hW hX
      obtain ⟨t', f', h2⟩ := m_paintsA (tries := tries) (first := first) (keep := false) (skip := 0) hN hW hM (by decide)
      refine ⟨nI (cntA L false), b', l', g', p', st', gr', bes', t', f', ?_, ?_⟩
      · rw [if_neg h, if_neg (show ¬ nI 2 = 0 by decide), if_neg (show ¬ nI 2 = 1 by decide), if_pos (show nI 2 = 2 from rfl)]
        show Option.bind (m_X3_howMany N b l g p0 st gr0 bes (nI L.length) e c (bI false)) _ = _
        rw [h1]
        rfl
      · rw [if_neg (show ¬ nI 2 = 1 by decide), if_neg (show ¬ nI 2 = 0 by decide)]
        show Option.bind (m_X7_paints N s tries first (bI false) (nI 0) (bI false)) _ = _
        rw [h2]
        rfl
theorem gx_len (al : TH → Nat → Bool) : ∀ (Q : List TH) (U : UC), (gx al Q U).length = Q.length
  | [], _ => rfl
  | x :: Q, U => by
    show (gx al Q _).length + 1 = Q.length + 1
    rw [gx_len al Q]
theorem gx_at {L : List TH} {keep : Bool} {i : Nat} (hi : i < L.length) : ∃ v, (gx (alK keep) (qs L 0 (rgf L.length 0)) U0)[i]? = some v := by
  have : i < (gx (alK keep) (qs L 0 (rgf L.length 0)) U0).length := by
    rw [gx_len, qs_all, List.length_map, rgf_len]
    exact hi
  exact ⟨_, List.getElem?_eq_getElem this⟩
theorem b_firstPainting {N K : Nat} {L : List TH} {e c b l g st bes f s tries first : Nat → Int32} {p0 gr0 : Int32} (a : Int32) (hN : NB ≤ N) (hW : WL K L) (hX : XL L e c) (hM : ML K L s) : ∃ r b' l' g' p' st' gr' bes' f' tries' first', m_X6_firstPainting N (nI L.length) e c b l g p0 st gr0 bes f a = some (r, b', l', g', p', st', gr', bes', f') ∧ m_X7_firstPainting N s tries first a = some (r, tries', first') := by
  have h21 := hW.len21
  unfold m_X6_firstPainting m_X7_firstPainting
  rw [x_hasThread h21, m_isThread h21 (ML_iff.mp hM), r_bind, r_bind]
  by_cases h : ∃ i, i < L.length ∧ a = nI i
  · rw [if_pos h, if_neg n10, if_neg n10]
    obtain ⟨i, hi, rfl⟩ := h
    obtain ⟨b', l', g', p', st', gr', bes', f', h1, h2⟩ := x_findFirst (b := b) (l := l) (g := g) (st := st) (bes := bes) (p0 := p0) (gr0 := gr0) (f := f) (keep := false) (NB_le hN) hW hX
    obtain ⟨t', f2, h3, h4⟩ := m_paintsB (tries := tries) (first := first) (keep := false) (skip := 0) hN hW hM (by decide)
    have e1 : m_X3_findFirst N b l g p0 st gr0 bes f (nI L.length) e c 0 = m_X3_findFirst N b l g p0 st gr0 bes f (nI L.length) e c (bI false) := rfl
    have e2 : m_X7_paints N s tries first 0 0 1 = m_X7_paints N s tries first (bI false) (nI 0) (bI true) := rfl
    rw [e1, e2, h1, h3, r_bind, r_bind]
    by_cases q : 0 < cntA L false
    · obtain ⟨v, hv⟩ := gx_at (keep := false) hi
      have g1 := h2 q i v hv
      have g2 := h4 q rfl i v hv
      refine ⟨nI v, b', l', g', p', st', gr', bes', f', t', f2, ?_, ?_⟩
      · rw [if_pos q]
        show (if (1 : Int32) = 0 then _ else _) = _
        rw [if_neg n10]
        unfold m_X3_foundColour
        rw [x_at (by omega) (by decide), r_bind, r_bind, g1]
      · rw [if_pos (show 0 < cq (alK false) (qs L 0 (rgf L.length 0)) U0 from q)]
        show (if (1 : Int32) = 0 then _ else _) = _
        rw [if_neg n10, r_ard (by omega) (by omega), g2]
    · refine ⟨-5, b', l', g', p', st', gr', bes', f', t', f2, ?_, ?_⟩
      · rw [if_neg q]
        rfl
      · rw [if_neg (show ¬ 0 < cq (alK false) (qs L 0 (rgf L.length 0)) U0 from q)]
        rfl
  · rw [if_neg h]
    exact ⟨-1, b, l, g, p0, st, gr0, bes, f, tries, first, rfl, rfl⟩
