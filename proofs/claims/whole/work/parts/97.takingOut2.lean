/-! both classes: takingOut, the rest -/
section TP
variable {N K : Nat} {L : List TH} {G : List (List Nat)} {b l g st bes e c s tries first : Nat → Int32} {p : Int32}
def lst (L : List TH) : Nat := if okS L 0 = true then 0 else sch (okS L) L.length (L.length - 1) 1
theorem fnd_lt {good : Nat → Bool} {B r : Nat} : ∀ {n s : Nat}, fnd good B n s = some r → r < B := by
  intro n
  induction n with
  | zero => intro s h; cases h
  | succ n ih =>
    intro s h
    have h : (if s < B then (if good s = true then some s else fnd good B n (nx s)) else none) = some r := h
    by_cases q : s < B
    · rw [if_pos q] at h
      by_cases w : good s = true
      · rw [if_pos w] at h
        have := Option.some.inj h
        omega
      · rw [if_neg w] at h
        exact ih h
    · rw [if_neg q] at h
      cases h
theorem sch_lt {good : Nat → Bool} {T : Nat} : ∀ (d z : Nat), sch good T d z < 2 ^ T := by
  have p0 := Nat.two_pow_pos T
  intro d
  induction d with
  | zero => intro z; show 2 ^ T - 1 < 2 ^ T; omega
  | succ d ih =>
    intro z
    show (match fnd good (2 ^ T) (2 ^ T) (2 ^ z - 1) with | some r => r | none => sch good T d (z + 1)) < 2 ^ T
    cases q : fnd good (2 ^ T) (2 ^ T) (2 ^ z - 1) with
    | none => exact ih (z + 1)
    | some r => exact fnd_lt q
theorem lst_lt (L : List TH) : lst L < 2 ^ L.length := by
  unfold lst
  split
  · exact Nat.two_pow_pos _
  · exact sch_lt _ _
theorem okS_all (L : List TH) : okS L (2 ^ L.length - 1) = true := by
  unfold okS
  have : qs L (2 ^ L.length - 1) (rgf L.length 0) = [] := by
    unfold qs
    rw [List.map_eq_nil_iff, List.filter_eq_nil_iff]
    intro i hi
    have := rgf_mem.mp hi
    rw [tb_all]
    simp
    omega
  rw [this]
  rfl
theorem x_firstLeastSet {st0 bes0 b0 l0 g0 : Nat → Int32} {p0 gr0 : Int32} (hN : NB ≤ N) (hW : WL K L) (hX : XL L e c) : ∃ b' l' g' p' st' gr' bes', m_X3_firstLeastSet N b0 l0 g0 p0 st0 gr0 bes0 (nI L.length) e = some (nI (lst L), b', l', g', p', st', gr', bes') := by
  have h21 := hW.len21
  have a := p2le h21
  have p0' := Nat.two_pow_pos L.length
  have N1 := NB_le hN
  have eo : opm L false = 2 ^ L.length - 1 := by unfold opm; rw [if_neg bff]
  obtain ⟨G, b', l', g', st', bes', a1, a2⟩ := x_arrange (N := N) (b := b0) (l := l0) (g := g0) (st := st0) (bes := bes0) (p0 := p0) (gr0 := gr0) N1 hW hX (opm_lt L false)
  rw [eo] at a1 a2
  refine ⟨b', l', g', nI G.flatten.length, st', nI G.length, bes', ?_⟩
  unfold m_X3_firstLeastSet
  rw [x_allThreads h21, r_bind, a1, r_bind]
  show m_X3_firstLeastSet_L13 N (nI L.length) (nI (2 ^ L.length - 1)) b' l' g' (nI G.flatten.length) st' (nI G.length) bes' N 0 = _
  obtain ⟨n, hn⟩ : ∃ m, N = m + 1 := ⟨N - 1, by omega⟩
  obtain ⟨m, hm⟩ : ∃ m, N = m + 1 := ⟨N - 1, by omega⟩
  have step : m_X3_firstLeastSet_L13 N (nI L.length) (nI (2 ^ L.length - 1)) b' l' g' (nI G.flatten.length) st' (nI G.length) bes' (n + 1) 0 = if nI L.length ≤ 0 then some (nI (2 ^ L.length - 1), b', l', g', nI G.flatten.length, st', nI G.length, bes') else m_X3_firstLeastSet_L32 N (nI (2 ^ L.length - 1)) b' l' g' (nI G.flatten.length) st' (nI G.length) bes' (m_X3_firstLeastSet_L13 N (nI L.length) (nI (2 ^ L.length - 1)) b' l' g' (nI G.flatten.length) st' (nI G.length) bes' n (0 + 1)) (m_X3_firstLeastSet_L13 N (nI L.length) (nI (2 ^ L.length - 1)) b' l' g' (nI G.flatten.length) st' (nI G.length) bes' n (0 + 1)) N 0 0 := by
    rw [m_X3_firstLeastSet_L13]
    rfl
  have goal1 : m_X3_firstLeastSet_L13 N (nI L.length) (nI (2 ^ L.length - 1)) b' l' g' (nI G.flatten.length) st' (nI G.length) bes' (n + 1) 0 = some (nI (lst L), b', l', g', nI G.flatten.length, st', nI G.length, bes') := by
    rw [step]
    obtain ⟨w, g1, g2, g3⟩ := x_test (N := N) (skip := 0) N1 hW a2 (by decide)
    by_cases q : L.length = 0
    · have l0 : L = [] := List.length_eq_zero_iff.mp q
      subst l0
      rfl
    · rw [if_neg (nI_le0 (by omega) (by omega))]
      have inn : ∀ J : R8, m_X3_firstLeastSet_L32 N (nI (2 ^ L.length - 1)) b' l' g' (nI G.flatten.length) st' (nI G.length) bes' J J N 0 0 = if 0 < w then some (0, b', l', g', nI G.flatten.length, st', nI G.length, bes') else J := by
        intro J
        have : m_X3_firstLeastSet_L32 N (nI (2 ^ L.length - 1)) b' l' g' (nI G.flatten.length) st' (nI G.length) bes' J J (m + 1) 0 0 = if 0 < w then some (0, b', l', g', nI G.flatten.length, st', nI G.length, bes') else J := by
          have g1' : m_X3_ways N b' l' g' st' (nI G.length) 0 0 1 = some (nI w) := g1
          rw [m_X3_firstLeastSet_L32, if_neg (by decide), if_neg (show ¬ nI (2 ^ L.length - 1) < 0 from nI_pos (by omega)), g1', r_bind]
          by_cases qw : 0 < w
          · rw [if_neg (nI_le0 qw (by omega)), if_pos qw]
          · have w0 : w = 0 := by omega
            rw [w0, if_pos (show nI 0 ≤ 0 from nI_le (a := 0) (b := 0) (Nat.le_refl _) (by decide)), if_pos rfl, if_neg (by decide)]
        rw [← hm] at this
        exact this
      rw [inn]
      unfold lst
      by_cases qw : 0 < w
      · rw [if_pos qw, if_pos (g3.mp qw)]
        rfl
      · rw [if_neg qw, if_neg (fun z => qw (g3.mpr z))]
        exact x_sizes hN hW a2 (L.length - 1) 1 n (by omega) (by decide) (by omega)
  rw [← hn] at goal1
  exact goal1
theorem m_sizes (hN : NB ≤ N) (hW : WL K L) (hM : ML K L s) : ∀ (d z n : Nat) (tries first : Nat → Int32), z + d = L.length → 0 < z → d + 1 < n → ∃ tries' first', m_X7_leastSet_L19 N s n (nI z) (-5) tries first = some (nI (sch (okS L) L.length d z), tries', first') := by
  have h21 := hW.len21
  have a := p2le h21
  have p0' := Nat.two_pow_pos L.length
  have big : 2 ^ 22 < N := Nat.lt_of_lt_of_le (show 2 ^ 22 < 5 ^ 40 by decide +kernel) hN
  have one : ∀ (z n : Nat) (tries first : Nat → Int32), 0 < z → z ≤ L.length → ∃ t f, m_X7_leastSet_L19 N s (n + 1) (nI z) (-5) tries first = m_X7_leastSet_L19 N s n (nI (z + 1)) (match fnd (okS L) (2 ^ L.length) (2 ^ L.length) (2 ^ z - 1) with | some r => nI r | none => -5) t f := by
    intro z n tries first h0 hz
    have pz := p2le (show z ≤ 21 by omega)
    have pz2 := Nat.two_pow_pos z
    obtain ⟨t, f, h⟩ := m_enoughL hN hW hM (2 ^ L.length) (2 ^ z - 1) N tries first (by omega) (by omega) (pw1 h0) (by omega)
    refine ⟨t, f, ?_⟩
    rw [m_X7_leastSet_L19, if_neg (by decide)]
    unfold m_X7_enough
    simp only [nm]
    rw [sh1 (by omega), nI_m1 pz2, h, r_bind, nI_1]
    rfl
  have stop : ∀ (r n : Nat) (z : Int32) (t f : Nat → Int32), r < 2 ^ 31 → m_X7_leastSet_L19 N s (n + 1) z (nI r) t f = some (nI r, t, f) := by
    intro r n z t f hr
    rw [m_X7_leastSet_L19, if_pos (nI_pos' hr)]
  intro d
  induction d with
  | zero =>
    intro z n tries first hz h0 hn
    obtain ⟨n, rfl⟩ : ∃ m, n = m + 2 := ⟨n - 2, by omega⟩
    obtain ⟨t, f, h⟩ := one z (n + 1) tries first h0 (by omega)
    have ez : z = L.length := by omega
    have ef : fnd (okS L) (2 ^ L.length) (2 ^ L.length) (2 ^ z - 1) = some (2 ^ L.length - 1) := by
      rw [ez]
      obtain ⟨k, hk⟩ : ∃ k, 2 ^ L.length = k + 1 := ⟨2 ^ L.length - 1, by omega⟩
      have : fnd (okS L) (2 ^ L.length) (k + 1) (2 ^ L.length - 1) = some (2 ^ L.length - 1) := by
        show (if 2 ^ L.length - 1 < 2 ^ L.length then (if okS L (2 ^ L.length - 1) = true then some (2 ^ L.length - 1) else _) else none) = _
        rw [if_pos (by omega), if_pos (okS_all L)]
      rw [← hk] at this
      exact this
    rw [ef] at h
    exact ⟨t, f, by rw [h]; exact stop _ n _ t f (by omega)⟩
  | succ d ih =>
    intro z n tries first hz h0 hn
    obtain ⟨n, rfl⟩ : ∃ m, n = m + 2 := ⟨n - 2, by omega⟩
    obtain ⟨t, f, h⟩ := one z (n + 1) tries first h0 (by omega)
    have es : sch (okS L) L.length (d + 1) z = (match fnd (okS L) (2 ^ L.length) (2 ^ L.length) (2 ^ z - 1) with | some r => r | none => sch (okS L) L.length d (z + 1)) := rfl
    cases q : fnd (okS L) (2 ^ L.length) (2 ^ L.length) (2 ^ z - 1) with
    | some r =>
      rw [q] at h es
      have := fnd_lt q
      exact ⟨t, f, by rw [h, es]; exact stop _ n _ t f (by omega)⟩
    | none =>
      rw [q] at h es
      obtain ⟨t2, f2, h2⟩ := ih (z + 1) (n + 1) t f (by omega) (by omega) (by omega)
      exact ⟨t2, f2, by rw [h, es]; exact h2⟩
theorem m_leastSet (hN : NB ≤ N) (hW : WL K L) (hM : ML K L s) : ∃ tries' first', m_X7_leastSet N s tries first = some (nI (lst L), tries', first') := by
  have h21 := hW.len21
  have a := p2le h21
  have N1 := NB_le hN
  obtain ⟨t, f, h1, -⟩ := m_paintsB (tries := tries) (first := first) (keep := false) (skip := 0) hN hW hM (by decide)
  have e2 : m_X7_paints N s tries first 0 0 1 = m_X7_paints N s tries first (bI false) (nI 0) (bI true) := rfl
  obtain ⟨n, hn⟩ : ∃ m, N = m + 1 := ⟨N - 1, by omega⟩
  unfold m_X7_leastSet lst
  rw [e2, h1, r_bind]
  by_cases q : 0 < cq (alK false) (qs L 0 (rgf L.length 0)) U0
  · refine ⟨t, f, ?_⟩
    rw [if_pos q, if_pos (show okS L 0 = true from decide_eq_true q)]
    show m_X7_leastSet_L19 N s N 1 0 t f = _
    have : m_X7_leastSet_L19 N s (n + 1) 1 0 t f = some (nI 0, t, f) := by
      rw [m_X7_leastSet_L19, if_pos (by decide)]
      rfl
    rw [← hn] at this
    exact this
  · have l0 : 0 < L.length := by
      rcases Nat.eq_zero_or_pos L.length with z | z
      · have l0 : L = [] := List.length_eq_zero_iff.mp z
        subst l0
        exact absurd (by decide) q
      · exact z
    obtain ⟨t2, f2, h2⟩ := m_sizes hN hW hM (L.length - 1) 1 N t f (by omega) (by decide) (by omega)
    refine ⟨t2, f2, ?_⟩
    rw [if_neg q, if_neg (show ¬ okS L 0 = true from fun z => q (of_decide_eq_true z))]
    exact h2
theorem pop_same {x : Nat} (h : x < 2 ^ 24) : pop 31 x = pop 24 x := by
  rw [eq_bs h, pop_bs _ _ _ (by decide), pop_bs _ _ _ (by decide)]
theorem b_takingOut {st0 bes0 b0 l0 g0 : Nat → Int32} {p0 gr0 : Int32} (a : Int32) (hN : NB ≤ N) (hW : WL K L) (hX : XL L e c) (hM : ML K L s) : ∃ r b' l' g' p' st' gr' bes' tries' first', m_X6_takingOut N (nI L.length) e b0 l0 g0 p0 st0 gr0 bes0 a = some (r, b', l', g', p', st', gr', bes') ∧ m_X7_takingOut N s tries first a = some (r, tries', first') := by
  have h21 := hW.len21
  have al := p2le (show L.length ≤ 23 by omega)
  have N1 := NB_le hN
  obtain ⟨b', l', g', p', st', gr', bes', h1⟩ := x_firstLeastSet (b0 := b0) (l0 := l0) (g0 := g0) (st0 := st0) (bes0 := bes0) (p0 := p0) (gr0 := gr0) hN hW hX
  obtain ⟨t, f, h2⟩ := m_leastSet (tries := tries) (first := first) hN hW hM
  have lt := lst_lt L
  unfold m_X6_takingOut m_X7_takingOut
  simp only [jn]
  rcases pk_ix a (show 2 < 2 ^ 31 by decide) with q | q | ⟨j, hj, rfl⟩
  · refine ⟨-2, b0, l0, g0, p0, st0, gr0, bes0, tries, first, ?_, ?_⟩
    · rw [if_neg (fun z => by rw [z] at q; exact absurd q (by decide)), if_neg (fun z => by rw [z] at q; exact absurd q (by decide))]
    · rw [show m_X7_in N a 0 1 = some 0 from m_inF (n := 1) (Or.inl q), r_bind, if_pos rfl]
  · refine ⟨-2, b0, l0, g0, p0, st0, gr0, bes0, tries, first, ?_, ?_⟩
    · rw [if_neg (fun z => by rw [z] at q; exact absurd q (by decide)), if_neg (fun z => by rw [z] at q; exact absurd q (by decide))]
    · have q2 : nI 1 < a := by
        rw [fa_lt, nI_toInt (by decide)]
        rw [fa_le, nI_toInt (by decide)] at q
        omega
      rw [show m_X7_in N a 0 1 = some 0 from m_inF (n := 1) (Or.inr q2), r_bind, if_pos rfl]
  · rw [show m_X7_in N (nI j) 0 1 = some 1 from m_inT (n := 1) (by omega) (by decide), r_bind, if_neg n10, h1, h2, r_bind, r_bind]
    obtain rfl | rfl : j = 0 ∨ j = 1 := by omega
    · refine ⟨nI (pop 24 (lst L)), b', l', g', p', st', gr', bes', t, f, ?_, ?_⟩
      · rw [if_pos (show nI 0 = 0 from rfl), if_pos (show nI 0 = 0 from rfl)]
        show Option.bind (m_J6_bitCount_0f7a4 N (nI (lst L))) _ = _
        rw [m_bitCount (by omega), r_bind]
      · show Option.bind (m_X7_ones N (nI (lst L))) _ = _
        have := pop_le 31 (lst L)
        rw [r_ones N1 (by omega) (by omega), r_bind, pop_same (by omega)]
    · refine ⟨nI (lst L), b', l', g', p', st', gr', bes', t, f, ?_, ?_⟩
      · rw [if_neg (show ¬ nI 1 = 0 by decide), if_pos (show nI 1 = 1 from rfl)]
        rfl
      · rfl
end TP
