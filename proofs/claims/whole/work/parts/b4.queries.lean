/-! both classes: what is told -/
theorem orN {N c : Nat} (h : c < 2 ^ 31) : m_X6_orNone N (nI c) = some (if c = 0 then -5 else nI c) := by
  unfold m_X6_orNone
  by_cases q : c = 0
  · rw [if_pos (show nI c = 0 by rw [q]; rfl), if_pos q]
  · rw [if_neg (fun g => q ((nI_eq0 h).mp g)), if_neg q]
theorem nI_n5 {c : Nat} (h : c < 2 ^ 31) : ¬ nI c = -5 := by
  intro g
  have := nI_toInt h
  rw [g] at this
  have z : (-5 : Int32).toInt = -5 := by decide
  omega
section QU
variable {N K : Nat} {L : List TH} {k t z k0 t0 k1 t1 k2 t2 k3 t3 st : Int32} {e c s past e0 c0 e1 c1 e2 c2 e3 c3 : Nat → Int32}
theorem b_knot (a b : Int32) (hN : 1000 ≤ N) (hR : RN K L k t e c s) : ∃ r, m_X6_knot N k t e c a b = some r ∧ m_X7_knot N s a b = some r := by
  obtain ⟨hW, rfl, rfl, hX, hM⟩ := hR
  have hK := hW.1
  have h21 := hW.len21
  have hw := hW.wt
  have hS := ML_iff.mp hM
  obtain ⟨hE, hC⟩ := XL_iff.mp hX
  unfold m_X6_knot m_X7_knot
  rw [x_hasKnot (by omega), m_isKnot hK hS, r_bind, r_bind]
  by_cases qa : ∃ i, i < K ∧ a = nI i
  · rw [if_pos qa, if_neg n10, if_neg n10]
    obtain ⟨i, hi, rfl⟩ := qa
    by_cases h : Int32.toInt b < 0 ∨ 4 < Int32.toInt b
    · exact ⟨-2, by rw [if_pos h], by rw [if_pos h]⟩
    · rw [if_neg h, if_neg h]
      obtain ⟨j, hj, rfl⟩ := sw_in (n := 4) h (by decide)
      have bl := bs_lt21 (fun t => isat (fl L) (fh L) t i) h21
      obtain rfl | rfl | rfl | rfl | rfl : j = 0 ∨ j = 1 ∨ j = 2 ∨ j = 3 ∨ j = 4 := by omega
      · refine ⟨nI (bs (fun t => isat (fl L) (fh L) t i) L.length), ?_, ?_⟩
        · rw [if_pos (show nI 0 = 0 from rfl), m_bit (by omega), r_bind, x_threadsAt1 hN hw hE (by omega), r_bind]
        · rw [if_pos (show nI 0 = 0 from rfl), m_threadsOf hN hw hS (by omega), r_bind]
      · refine ⟨nI (nb L.length (fl L) (fh L) i), ?_, ?_⟩
        · rw [if_neg (show ¬ nI 1 = 0 by decide), if_pos (show nI 1 = 1 from rfl), x_neighbours hN hw hE (by omega), r_bind]
        · rw [if_neg (show ¬ nI 1 = 0 by decide), if_pos (show nI 1 = 1 from rfl), m_neighbours hN hw hS (by omega), r_bind]
      · have x1 := x_isWrong (N := N) hN hw hE hC (show i < 31 by omega)
        have x2 := m_isWrong (N := N) hN hw hS (show i < 31 by omega)
        rw [if_neg (show ¬ nI 2 = 0 by decide), if_neg (show ¬ nI 2 = 1 by decide), if_pos (show nI 2 = 2 from rfl), if_neg (show ¬ nI 2 = 0 by decide), if_neg (show ¬ nI 2 = 1 by decide), if_pos (show nI 2 = 2 from rfl), x1, x2, r_bind]
        cases wr1 (fl L) (fh L) (fc L) i L.length with
        | true => exact ⟨1, rfl, rfl⟩
        | false => exact ⟨0, rfl, rfl⟩
      · obtain ⟨R, r1, r2, r3, -⟩ := both_part (N := N) hN hw hE hS (show i < 14 by omega)
        refine ⟨nI R, ?_, ?_⟩
        · rw [if_neg (show ¬ nI 3 = 0 by decide), if_neg (show ¬ nI 3 = 1 by decide), if_neg (show ¬ nI 3 = 2 by decide), if_pos (show nI 3 = 3 from rfl), m_bit (by omega), r_bind, x_allThreads h21, r_bind, r2, r_bind]
        · rw [if_neg (show ¬ nI 3 = 0 by decide), if_neg (show ¬ nI 3 = 1 by decide), if_neg (show ¬ nI 3 = 2 by decide), if_pos (show nI 3 = 3 from rfl), r3, r_bind]
      · obtain ⟨q, r1, r2, r3⟩ := both_shortest (N := N) (B := bs (fun t => isat (fl L) (fh L) t i) L.length) hN hw hE hS (by omega)
        refine ⟨if q = 0 then -5 else nI q, ?_, ?_⟩
        · rw [if_neg (show ¬ nI 4 = 0 by decide), if_neg (show ¬ nI 4 = 1 by decide), if_neg (show ¬ nI 4 = 2 by decide), if_neg (show ¬ nI 4 = 3 by decide), if_pos (show nI 4 = 4 from rfl), m_bit (by omega), r_bind, x_threadsAt1 hN hw hE (by omega), r_bind, r2, r_bind, orN (by omega), r_bind]
        · rw [if_neg (show ¬ nI 4 = 0 by decide), if_neg (show ¬ nI 4 = 1 by decide), if_neg (show ¬ nI 4 = 2 by decide), if_neg (show ¬ nI 4 = 3 by decide), if_pos (show nI 4 = 4 from rfl), m_threadsOf hN hw hS (by omega), r_bind, r3, r_bind]
  · rw [if_neg qa]
    exact ⟨-1, by rw [if_pos rfl], by rw [if_pos rfl]⟩
theorem b_thread (f bef sets pk cv tk : Nat → Int32) (sz many a b : Int32) (hN : NB ≤ N) (hR : RN K L k t e c s) : ∃ r A B, m_X6_thread N k t e c f sz bef a b = some (r, A) ∧ m_X7_thread N s many sets pk cv tk a b = some (r, B) := by
  have N1 := NB_le hN
  obtain ⟨hW, rfl, rfl, hX, hM⟩ := hR
  have hK := hW.1
  have h21 := hW.len21
  have hw := hW.wt
  have hS := ML_iff.mp hM
  obtain ⟨hE, hC⟩ := XL_iff.mp hX
  unfold m_X6_thread m_X7_thread
  rw [x_hasThread h21, m_isThread h21 hS, r_bind, r_bind]
  by_cases qa : ∃ i, i < L.length ∧ a = nI i
  · rw [if_pos qa, if_neg n10, if_neg n10]
    obtain ⟨i, hi, rfl⟩ := qa
    by_cases h : Int32.toInt b < 0 ∨ 5 < Int32.toInt b
    · exact ⟨-2, (f, sz, bef), (many, sets, pk, cv, tk), by rw [if_pos h], by rw [if_pos h]⟩
    · rw [if_neg h, if_neg h]
      obtain ⟨j, hj, rfl⟩ := sw_in (n := 5) h (by decide)
      obtain ⟨cf, hcf⟩ := rounds (N := N) N1 hw hE hS
      obtain ⟨c14, ct1, ct2⟩ := hcf i hi
      have f0 := m_of0 (N := N) h21 hS hi
      have f1 := m_of1 (N := N) h21 hS hi
      have f2 := m_of2 (N := N) h21 hS hi
      have co3 := (hw.2 i hi).2.2
      obtain rfl | rfl | rfl | rfl | rfl | rfl : j = 0 ∨ j = 1 ∨ j = 2 ∨ j = 3 ∨ j = 4 ∨ j = 5 := by omega
      · refine ⟨nI (fl L i), (f, sz, bef), (many, sets, pk, cv, tk), ?_, ?_⟩
        · rw [if_pos (show nI 0 = 0 from rfl), x_lesser hw hE hi, r_bind]
        · rw [if_pos (show nI 0 = 0 from rfl), f0, r_bind]
      · refine ⟨nI (fh L i), (f, sz, bef), (many, sets, pk, cv, tk), ?_, ?_⟩
        · rw [if_neg (show ¬ nI 1 = 0 by decide), if_pos (show nI 1 = 1 from rfl), x_greater hw hE hi, r_bind]
        · rw [if_neg (show ¬ nI 1 = 0 by decide), if_pos (show nI 1 = 1 from rfl), f1, r_bind]
      · rw [if_neg (show ¬ nI 2 = 0 by decide), if_neg (show ¬ nI 2 = 1 by decide), if_pos (show nI 2 = 2 from rfl), if_neg (show ¬ nI 2 = 0 by decide), if_neg (show ¬ nI 2 = 1 by decide), if_pos (show nI 2 = 2 from rfl), x_colour h21 hC hi, f2, r_bind, r_bind]
        by_cases q : nI (fc L i) = 3
        · exact ⟨-5, (f, sz, bef), (many, sets, pk, cv, tk), by rw [if_pos q], by rw [r_bind, if_pos q]⟩
        · exact ⟨nI (fc L i), (f, sz, bef), (many, sets, pk, cv, tk), by rw [if_neg q], by rw [r_bind, if_neg q, r_bind]⟩
      · rw [if_neg (show ¬ nI 3 = 0 by decide), if_neg (show ¬ nI 3 = 1 by decide), if_neg (show ¬ nI 3 = 2 by decide), if_pos (show nI 3 = 3 from rfl), if_neg (show ¬ nI 3 = 0 by decide), if_neg (show ¬ nI 3 = 1 by decide), if_neg (show ¬ nI 3 = 2 by decide), if_pos (show nI 3 = 3 from rfl), ct1, ct2, r_bind, r_bind]
        by_cases q : cf i = 0
        · rw [if_pos q, if_pos rfl, if_pos (show nI (cf i) = 0 by rw [q]; rfl)]
          exact ⟨1, (f, sz, bef), (many, sets, pk, cv, tk), rfl, rfl⟩
        · rw [if_neg q, if_neg (nI_n5 (by omega)), if_neg (fun g => q ((nI_eq0 (by omega)).mp g))]
          exact ⟨0, (f, sz, bef), (many, sets, pk, cv, tk), rfl, rfl⟩
      · refine ⟨if cf i = 0 then -5 else nI (cf i), (f, sz, bef), (many, sets, pk, cv, tk), ?_, ?_⟩
        · rw [if_neg (show ¬ nI 4 = 0 by decide), if_neg (show ¬ nI 4 = 1 by decide), if_neg (show ¬ nI 4 = 2 by decide), if_neg (show ¬ nI 4 = 3 by decide), if_pos (show nI 4 = 4 from rfl), ct1, r_bind, orN (by omega), r_bind]
        · rw [if_neg (show ¬ nI 4 = 0 by decide), if_neg (show ¬ nI 4 = 1 by decide), if_neg (show ¬ nI 4 = 2 by decide), if_neg (show ¬ nI 4 = 3 by decide), if_pos (show nI 4 = 4 from rfl), ct2, r_bind]
      · obtain ⟨r, A, B, g1, g2⟩ := b_coversWith (N := N) hN hW hX hM hi f bef sets pk cv tk sz many
        obtain ⟨B1, B2, B3, B4, B5⟩ := B
        refine ⟨r, A, (B1, B2, B3, B4, B5), ?_, ?_⟩
        · rw [if_neg (show ¬ nI 5 = 0 by decide), if_neg (show ¬ nI 5 = 1 by decide), if_neg (show ¬ nI 5 = 2 by decide), if_neg (show ¬ nI 5 = 3 by decide), if_neg (show ¬ nI 5 = 4 by decide), if_pos (show nI 5 = 5 from rfl)]
          exact g1
        · rw [if_neg (show ¬ nI 5 = 0 by decide), if_neg (show ¬ nI 5 = 1 by decide), if_neg (show ¬ nI 5 = 2 by decide), if_neg (show ¬ nI 5 = 3 by decide), if_neg (show ¬ nI 5 = 4 by decide), if_pos (show nI 5 = 5 from rfl), g2, r_bind]
  · rw [if_neg qa]
    exact ⟨-1, (f, sz, bef), (many, sets, pk, cv, tk), by rw [if_pos rfl], by rw [if_pos rfl]⟩
theorem b_between (a b : Int32) (hN : 1000 ≤ N) (hR : RN K L k t e c s) : ∃ r, m_X6_between N k t e a b = some r ∧ m_X7_between N s a b = some r := by
  obtain ⟨hW, rfl, rfl, hX, hM⟩ := hR
  have hK := hW.1
  have h21 := hW.len21
  have hw := hW.wt
  have hS := ML_iff.mp hM
  obtain ⟨hE, hC⟩ := XL_iff.mp hX
  unfold m_X6_between m_X7_between
  rw [x_hasKnot (by omega), x_hasKnot (by omega), m_isKnot hK hS, m_isKnot hK hS, r_bind, r_bind]
  by_cases qa : ∃ i, i < K ∧ a = nI i
  · rw [if_pos qa, if_neg n10, r_bind, if_neg n10, r_bind]
    by_cases qb : ∃ i, i < K ∧ b = nI i
    · rw [if_pos qb, if_neg n10, if_neg n10]
      obtain ⟨i, hi, rfl⟩ := qa
      obtain ⟨j, hj, rfl⟩ := qb
      rw [m_bit (by omega), r_bind, m_bit (by omega), r_bind, nor]
      have sl : 2 ^ i ||| 2 ^ j < 2 ^ 31 := or_lt (p2lt (by omega)) (p2lt (by omega))
      have ej : ∀ u, u < L.length → (em (fl L) (fh L) u = 2 ^ i ||| 2 ^ j ↔ joins (fl L) (fh L) u i j = true) := by
        intro u hu
        have l := (hw.2 u hu).1
        by_cases q : i = j
        · subst q
          constructor
          · intro g
            rw [Nat.or_self] at g
            have g1 := tb_em l (fl L u)
            have g2 := tb_em l (fh L u)
            rw [g, Nat.testBit_two_pow] at g1 g2
            unfold isat at g1 g2
            simp at g1 g2
            omega
          · intro g
            unfold joins at g
            simp only [Bool.or_eq_true, Bool.and_eq_true, beq_iff_eq] at g
            omega
        · exact em_joins l q
      rcases first_of (fun u => joins (fl L) (fh L) u i j) L.length with ⟨u, h1, h2, h3⟩ | h1
      · refine ⟨nI u, ?_, ?_⟩
        · rw [x_find hN hw hE sl (Or.inl ⟨u, h1, (ej u h1).mpr h2, (fun v hv g => by have := (ej v (by omega)).mp g; rw [h3 v hv] at this; cases this), rfl⟩), r_bind, if_pos (nI_pos' (by omega))]
        · rw [m_between hN hw hS (by omega) (by omega) (Or.inl ⟨u, h1, h2, h3, rfl⟩), r_bind]
      · refine ⟨-5, ?_, ?_⟩
        · rw [x_find hN hw hE sl (Or.inr ⟨(fun v hv g => by have := (ej v hv).mp g; rw [h1 v hv] at this; cases this), rfl⟩), r_bind, if_neg (by decide)]
        · rw [m_between hN hw hS (by omega) (by omega) (Or.inr ⟨h1, rfl⟩), r_bind]
    · rw [if_neg qb]
      exact ⟨-1, by rw [if_pos rfl], by rw [if_pos rfl]⟩
  · rw [if_neg qa]
    exact ⟨-1, by rw [if_pos rfl], by rw [r_bind, if_pos rfl]⟩
theorem RH.eq (h : RH z k0 t0 e0 c0 k1 t1 e1 c1 k2 t2 e2 c2 k3 t3 e3 c3 past st) : st = z := by
  obtain ⟨Hs, -, h2, h3⟩ := h
  rw [h2.1, h3.1]
theorem b_count {g g' : Nat → Int32} {n n' : Int32} (f bef sets pk cv tk : Nat → Int32) (sz many a : Int32) (hN : NB ≤ N) (hR : RN K L k t e c s) (hz : st = z) (hT : RT g n g' n') : ∃ r A B, m_X6_count N k t e c z n f sz bef a = some (r, A) ∧ m_X7_count N s st n' many sets pk cv tk a = some (r, B) := by
  have N1 := NB_le hN
  obtain ⟨hW, rfl, rfl, hX, hM⟩ := hR
  obtain ⟨-, rfl, -⟩ := hT
  subst hz
  have hK := hW.1
  have h21 := hW.len21
  have hw := hW.wt
  have hS := ML_iff.mp hM
  obtain ⟨hE, hC⟩ := XL_iff.mp hX
  unfold m_X6_count m_X7_count
  by_cases h : Int32.toInt a < 0 ∨ 10 < Int32.toInt a
  · exact ⟨-2, (f, sz, bef), (many, sets, pk, cv, tk), by rw [if_pos h], by rw [if_pos h]⟩
  · rw [if_neg h, if_neg h]
    obtain ⟨j, hj, rfl⟩ := sw_in (n := 10) h (by decide)
    have ne : ∀ p q : Nat, p ≤ 10 → q ≤ 10 → p ≠ q → ¬ nI p = nI q := fun p q hp hq hpq g => hpq ((nI_eq (by omega) (by omega)).mp g)
    obtain rfl | rfl | rfl | rfl | rfl | rfl | rfl | rfl | rfl | rfl | rfl : j = 0 ∨ j = 1 ∨ j = 2 ∨ j = 3 ∨ j = 4 ∨ j = 5 ∨ j = 6 ∨ j = 7 ∨ j = 8 ∨ j = 9 ∨ j = 10 := by omega
    · refine ⟨nI K, (f, sz, bef), (many, sets, pk, cv, tk), ?_, ?_⟩
      · rfl
      · rw [if_pos (show nI 0 = 0 from rfl), r_0 (by decide), hM.1]
    · refine ⟨nI L.length, (f, sz, bef), (many, sets, pk, cv, tk), ?_, ?_⟩
      · rfl
      · rw [if_neg (show ¬ nI 1 = 0 by decide), if_pos (show nI 1 = 1 from rfl), r_1 (by decide), hM.2.1]
    · have x1 := x_isFull (N := N) N1 hW.wa hE
      have x1 : m_X2_isFull N (nI K) (nI L.length) e = some (if fu K L.length (fl L) (fh L) K = true then 1 else 0) := x1
      have x2 := m_isFullNet (N := N) N1 hK hw hS
      show ∃ r A B, Option.bind (m_X2_isFull N (nI K) (nI L.length) e) _ = _ ∧ Option.bind (m_X7_isFullNet N s) _ = _
      rw [x1, x2, r_bind, r_bind]
      cases fu K L.length (fl L) (fh L) K with
      | true => exact ⟨1, (f, sz, bef), (many, sets, pk, cv, tk), rfl, rfl⟩
      | false => exact ⟨0, (f, sz, bef), (many, sets, pk, cv, tk), rfl, rfl⟩
    · obtain ⟨r, g1, g2⟩ := both_parts (N := N) N1 hw hE hS hK
      refine ⟨r, (f, sz, bef), (many, sets, pk, cv, tk), ?_, ?_⟩
      · show Option.bind (m_X5_parts N (nI K) (nI L.length) e) _ = _
        rw [g1, r_bind]
      · show Option.bind (m_X7_parts N s) _ = _
        rw [g2, r_bind]
    · obtain ⟨r, g1, g2⟩ := both_bridges (N := N) N1 hw hE hS
      refine ⟨r, (f, sz, bef), (many, sets, pk, cv, tk), ?_, ?_⟩
      · show Option.bind (m_X5_bridges N (nI L.length) e) _ = _
        rw [g1, r_bind]
      · show Option.bind (m_X7_bridges N s) _ = _
        rw [g2, r_bind]
    · have al := p2le h21
      have p0 := Nat.two_pow_pos L.length
      obtain ⟨q, r1, r2, r3⟩ := both_shortest (N := N) (B := 2 ^ L.length - 1) N1 hw hE hS (by omega)
      refine ⟨if q = 0 then -5 else nI q, (f, sz, bef), (many, sets, pk, cv, tk), ?_, ?_⟩
      · rw [if_neg (show ¬ nI 5 = 0 by decide), if_neg (show ¬ nI 5 = 1 by decide), if_neg (show ¬ nI 5 = 2 by decide), if_neg (show ¬ nI 5 = 3 by decide), if_neg (show ¬ nI 5 = 4 by decide), if_pos (show nI 5 = 5 from rfl), x_allThreads h21, r_bind, r2, r_bind, orN (by omega), r_bind]
      · rw [if_neg (show ¬ nI 5 = 0 by decide), if_neg (show ¬ nI 5 = 1 by decide), if_neg (show ¬ nI 5 = 2 by decide), if_neg (show ¬ nI 5 = 3 by decide), if_neg (show ¬ nI 5 = 4 by decide), if_pos (show nI 5 = 5 from rfl), r_1 (by decide), hM.2.1, sh1 (by omega), nI_m1 p0, r3, r_bind]
    · obtain ⟨r, A, B, g1, g2⟩ := b_covers (N := N) hN hW hX hM f bef sets pk cv tk sz many
      obtain ⟨B1, B2, B3, B4, B5⟩ := B
      refine ⟨r, A, (B1, B2, B3, B4, B5), g1, ?_⟩
      show Option.bind (m_X7_covers N s many sets pk cv tk) _ = _
      rw [g2, r_bind]
    · refine ⟨nI (ct (fun u => wr1 (fl L) (fh L) (fc L) u L.length) K), (f, sz, bef), (many, sets, pk, cv, tk), ?_, ?_⟩
      · show Option.bind (m_X2_wrongKnots N (nI K) (nI L.length) e c) _ = _
        rw [x_wrongs N1 hK hw hE hC, r_bind]
      · show Option.bind (m_X7_wrongs N s) _ = _
        rw [m_wrongs N1 hK hw hS, r_bind]
    · refine ⟨nI (ct (fun u => fc L u == 3) L.length), (f, sz, bef), (many, sets, pk, cv, tk), ?_, ?_⟩
      · have xp := x_plain (N := N) N1 h21 hC (fun u hu => (hw.2 u hu).2.2)
        have bl := bs_lt21 (fun t => fc L t == 3) h21
        have col : m_X2_coloured N (nI L.length) c 3 = some (nI (bs (fun t => fc L t == 3) L.length)) := x_coloured (v := 3) N1 h21 hC (by decide) (fun u hu => (hw.2 u hu).2.2)
        show Option.bind (m_X2_coloured N (nI L.length) c 3) _ = _
        rw [col, r_bind, m_bitCount (by omega), r_bind, pop_bs _ _ _ (by omega)]
      · show Option.bind (m_X7_plainOnes N s) _ = _
        rw [m_plainOnes N1 hw hS, r_bind]
    · exact ⟨st, (f, sz, bef), (many, sets, pk, cv, tk), rfl, rfl⟩
    · exact ⟨n', (f, sz, bef), (many, sets, pk, cv, tk), rfl, rfl⟩
theorem b_circles (f bef sets pk cv tk : Nat → Int32) (sz many ci od lo' m1 m2 m3 a b : Int32) (hN : NB ≤ N) (hR : RN K L k t e c s) : ∃ r A B, m_X6_circles N k t e f sz bef ci od lo' a b = some (r, A) ∧ m_X7_circles N s many sets pk cv tk m1 m2 m3 a b = some (r, B) := by
  have N1 := NB_le hN
  obtain ⟨hW, rfl, rfl, hX, hM⟩ := hR
  have hK := hW.1
  have hw := hW.wt
  have hS := ML_iff.mp hM
  obtain ⟨hE, hC⟩ := XL_iff.mp hX
  have x1 : m_X2_isFull N (nI K) (nI L.length) e = some (if fu K L.length (fl L) (fh L) K = true then 1 else 0) := x_isFull (N := N) N1 hW.wa hE
  have x2 := m_isFullNet (N := N) N1 hK hw hS
  unfold m_X6_circles m_X7_circles
  rw [x1, x2, r_bind, r_bind]
  cases fu K L.length (fl L) (fh L) K with
  | false => exact ⟨-4, (f, sz, bef, ci, od, lo'), (many, sets, pk, cv, tk, m1, m2, m3), rfl, rfl⟩
  | true =>
    rw [if_pos btt, if_neg n10, if_neg n10]
    by_cases qa : a < 0
    · rw [if_pos qa, if_pos qa]
      exact ⟨-2, (f, sz, bef, ci, od, lo'), (many, sets, pk, cv, tk, m1, m2, m3), rfl, rfl⟩
    · rw [if_neg qa, if_neg qa]
      rcases pk_ix b (show 3 < 2 ^ 31 by decide) with q | q | ⟨j, hj, rfl⟩
      · rw [if_pos q, show m_X7_in N b 0 2 = some 0 from m_inF (n := 2) (Or.inl q), r_bind, if_pos rfl]
        exact ⟨-2, (f, sz, bef, ci, od, lo'), (many, sets, pk, cv, tk, m1, m2, m3), rfl, rfl⟩
      · have q2 : nI 2 < b := by
          rw [fa_lt, nI_toInt (by decide)]
          rw [fa_le, nI_toInt (by decide)] at q
          omega
        have q3 : ¬ b < 0 := by
          intro g
          rw [fa_lt] at g
          rw [fa_le, nI_toInt (by decide)] at q
          have z0 : (0 : Int32).toInt = 0 := rfl
          omega
        rw [if_neg q3, if_neg (show ¬ b ≤ 2 from (fa_of_lt q2).2.1), show m_X7_in N b 0 2 = some 0 from m_inF (n := 2) (Or.inr q2), r_bind, if_pos rfl]
        exact ⟨-2, (f, sz, bef, ci, od, lo'), (many, sets, pk, cv, tk, m1, m2, m3), rfl, rfl⟩
      · obtain ⟨Z, f', bef', sets', pk', cv', tk', z1, z2, z3, z4, z5⟩ := both_covers hN hW hX hM f bef sets pk cv tk sz many
        rw [if_neg (nI_pos (by omega)), if_pos (show nI j ≤ 2 from nI_le (b := 2) (by omega) (by decide)), show m_X7_in N (nI j) 0 2 = some 1 from m_inT (n := 2) (by omega) (by decide), r_bind, if_neg n10, z3, z4, r_bind, r_bind]
        show ∃ r A B, Option.bind (some (nI Z.length)) _ = _ ∧ (if a < nI Z.length then _ else _) = _
        rw [r_bind]
        rcases pk_ix a (show Z.length < 2 ^ 31 by omega) with w | w | ⟨i, hi, rfl⟩
        · exact (qa w).elim
        · have w2 : ¬ a < nI Z.length := fun g => (fa_of_lt g).2.1 w
          rw [if_neg w2, if_neg w2]
          exact ⟨-5, (f', nI Z.length, bef', ci, od, lo'), (nI Z.length, sets', pk', cv', tk', m1, m2, m3), rfl, rfl⟩
        · obtain ⟨v, hv, hm⟩ := nat_some hi
          obtain ⟨v1, v2⟩ := z5 i v hv
          obtain ⟨c1', o1', l1', -, g2, g3⟩ := both_circles (N := N) (f := f') N1 hK hw hE hS (show i < 80 by omega) (z2 v hm) v1
          rw [if_pos (nI_lt hi (by omega)), if_pos (nI_lt hi (by omega)), r_ard (by omega) (by omega), v2, g2, g3, r_bind, r_bind]
          obtain rfl | rfl | rfl : j = 0 ∨ j = 1 ∨ j = 2 := by omega
          · exact ⟨nI c1', (f', nI Z.length, bef', nI c1', nI o1', nI l1'), (nI Z.length, sets', pk', cv', tk', nI c1', nI o1', nI l1'), rfl, rfl⟩
          · exact ⟨nI o1', (f', nI Z.length, bef', nI c1', nI o1', nI l1'), (nI Z.length, sets', pk', cv', tk', nI c1', nI o1', nI l1'), rfl, rfl⟩
          · exact ⟨nI l1', (f', nI Z.length, bef', nI c1', nI o1', nI l1'), (nI Z.length, sets', pk', cv', tk', nI c1', nI o1', nI l1'), rfl, rfl⟩
def mnf (od : Nat → Nat) : Nat → Nat
  | 0 => 14
  | i + 1 => min (mnf od i) (od i)
theorem mnf_le (od : Nat → Nat) : ∀ i, mnf od i ≤ 14
  | 0 => Nat.le_refl _
  | i + 1 => by have := mnf_le od i; rw [mnf]; omega
theorem mn_N {a b : Nat} (ha : a < 2 ^ 31) (hb : b < 2 ^ 31) : mni (nI a) (nI b) = nI (min a b) := by
  unfold mni
  by_cases q : b < a
  · rw [if_pos (nI_lt q ha), show min a b = b by omega]
  · rw [if_neg (nI_nlt (by omega) hb), show min a b = a by omega]
theorem b_fewestOdd (f bef sets pk cv tk : Nat → Int32) (sz many ci od lo' m1 m2 m3 : Int32) (hN : NB ≤ N) (hR : RN K L k t e c s) : ∃ r A B, m_X6_fewestOdd N k t e f sz bef ci od lo' = some (r, A) ∧ m_X7_fewestOdd N s many sets pk cv tk m1 m2 m3 = some (r, B) := by
  have N1 := NB_le hN
  obtain ⟨hW, rfl, rfl, hX, hM⟩ := hR
  have hK := hW.1
  have hw := hW.wt
  have hS := ML_iff.mp hM
  obtain ⟨hE, hC⟩ := XL_iff.mp hX
  have x1 : m_X2_isFull N (nI K) (nI L.length) e = some (if fu K L.length (fl L) (fh L) K = true then 1 else 0) := x_isFull (N := N) N1 hW.wa hE
  have x2 := m_isFullNet (N := N) N1 hK hw hS
  unfold m_X6_fewestOdd m_X7_fewestOdd
  rw [x1, x2, r_bind, r_bind]
  cases fu K L.length (fl L) (fh L) K with
  | false => exact ⟨-4, (f, sz, bef, ci, od, lo'), (many, sets, pk, cv, tk, m1, m2, m3), rfl, rfl⟩
  | true =>
    rw [if_pos btt, if_neg n10, if_neg n10]
    obtain ⟨Z, f', bef', sets', pk', cv', tk', z1, z2, z3, z4, z5⟩ := both_covers hN hW hX hM f bef sets pk cv tk sz many
    rw [z3, z4, r_bind, r_bind]
    show ∃ r A B, Option.bind (some (nI Z.length)) _ = _ ∧ m_X7_fewestOdd_L19 N s (nI Z.length) sets' pk' cv' tk' N 0 (-5) m1 m2 m3 = _
    rw [r_bind]
    have one : ∀ i, i < Z.length → ∃ o, o ≤ 14 ∧ ∃ c1' l1', (∀ a b d, m_X0_leave N f' a b d (nI K) (nI L.length) e (nI i) = some (nI c1', nI o, nI l1')) ∧ ∀ a b d, Option.bind (ard sets' 256 (nI i) some) (fun u => m_X7_findCircles N s a b d u) = some (nI c1', nI o, nI l1') := by
      intro i hi
      obtain ⟨v, hv, hm⟩ := nat_some hi
      obtain ⟨v1, v2⟩ := z5 i v hv
      obtain ⟨c1', o1', l1', o14, g2, g3⟩ := both_circles (N := N) (f := f') N1 hK hw hE hS (show i < 80 by omega) (z2 v hm) v1
      refine ⟨o1', o14, c1', l1', g2, fun a b d => ?_⟩
      rw [r_ard (by omega) (by omega), r_bind, v2]
      exact g3 a b d
    obtain ⟨o, ho⟩ : ∃ o : Nat → Nat, ∀ i, i < Z.length → o i ≤ 14 ∧ ∃ c1' l1', (∀ a b d, m_X0_leave N f' a b d (nI K) (nI L.length) e (nI i) = some (nI c1', nI (o i), nI l1')) ∧ ∀ a b d, Option.bind (ard sets' 256 (nI i) some) (fun u => m_X7_findCircles N s a b d u) = some (nI c1', nI (o i), nI l1') := by
      refine ⟨fun i => if h : i < Z.length then Classical.choose (one i h) else 0, fun i hi => ?_⟩
      simp only [dif_pos hi]
      exact Classical.choose_spec (one i hi)
    obtain ⟨a2, -, r2⟩ := for_inv (fun n i (a : Int32 × Int32 × Int32 × Int32) => m_X7_fewestOdd_L19 N s (nI Z.length) sets' pk' cv' tk' n (nI i) a.1 a.2.1 a.2.2.1 a.2.2.2) (fun i a => a.1 = if i = 0 then -5 else nI (mnf o i)) Z.length (fun a => some (if Z.length = 0 then -5 else nI (mnf o Z.length), nI Z.length, sets', pk', cv', tk', a.2.1, a.2.2.1, a.2.2.2))
      (by
        intro n a ha
        show m_X7_fewestOdd_L19 N s (nI Z.length) sets' pk' cv' tk' (n + 1) (nI Z.length) _ _ _ _ = _
        rw [m_X7_fewestOdd_L19, if_pos (nI_le (Nat.le_refl _) (by omega)), ha])
      (by
        intro n i a hi ha
        obtain ⟨o14, c1', l1', -, g⟩ := ho i hi
        refine ⟨(nI (mnf o (i + 1)), nI c1', nI (o i), nI l1'), ?_, by rw [if_neg (by omega)]⟩
        show m_X7_fewestOdd_L19 N s (nI Z.length) sets' pk' cv' tk' (n + 1) (nI i) _ _ _ _ = m_X7_fewestOdd_L19 N s (nI Z.length) sets' pk' cv' tk' n (nI (i + 1)) (nI (mnf o (i + 1))) (nI c1') (nI (o i)) (nI l1')
        have g := g a.2.1 a.2.2.1 a.2.2.2
        rw [r_ard (by omega) (by omega), r_bind] at g
        have ml := mnf_le o i
        rw [m_X7_fewestOdd_L19, if_neg (nI_ge hi (by omega)), r_ard (by omega) (by omega), g, r_bind]
        dsimp only
        rw [ha, nI_1]
        by_cases q : i = 0
        · subst q
          rw [if_pos rfl, if_pos (by decide), show mnf o (0 + 1) = o 0 from by show min 14 (o 0) = o 0; omega]
        · rw [if_neg q, if_neg (nI_pos (by omega))]
          by_cases w : mnf o i ≤ o i
          · rw [if_pos (nI_le w (by omega)), show mnf o (i + 1) = mnf o i from by show min (mnf o i) (o i) = _; omega]
          · rw [if_neg (nI_ge (by omega) (by omega)), show mnf o (i + 1) = o i from by show min (mnf o i) (o i) = _; omega])
      Z.length N 0 (-5, m1, m2, m3) (by omega) (by omega) (by rw [if_pos rfl])
    by_cases z0 : Z.length = 0
    · refine ⟨-5, (f', nI Z.length, bef', ci, od, lo'), (nI Z.length, sets', pk', cv', tk', a2.2.1, a2.2.2.1, a2.2.2.2), ?_, ?_⟩
      · rw [if_pos (show nI Z.length = 0 by rw [z0]; rfl)]
      · rw [if_pos z0] at r2
        exact r2
    · obtain ⟨a1, -, r1⟩ := for_inv (fun n i (a : Int32 × Int32 × Int32 × Int32) => m_X6_fewestOdd_L42 N (nI K) (nI L.length) e f' (nI Z.length) bef' n (nI i) a.1 a.2.1 a.2.2.1 a.2.2.2) (fun i a => a.1 = nI (mnf o i)) Z.length (fun a => some (nI (mnf o Z.length), f', nI Z.length, bef', a.2.1, a.2.2.1, a.2.2.2))
        (by
          intro n a ha
          show m_X6_fewestOdd_L42 N (nI K) (nI L.length) e f' (nI Z.length) bef' (n + 1) (nI Z.length) _ _ _ _ = _
          rw [m_X6_fewestOdd_L42]
          show Option.bind (some (nI Z.length)) _ = _
          rw [r_bind, if_pos (nI_le (Nat.le_refl _) (by omega)), ha])
        (by
          intro n i a hi ha
          obtain ⟨o14, c1', l1', g, -⟩ := ho i hi
          refine ⟨(nI (mnf o (i + 1)), nI c1', nI (o i), nI l1'), ?_, rfl⟩
          show m_X6_fewestOdd_L42 N (nI K) (nI L.length) e f' (nI Z.length) bef' (n + 1) (nI i) _ _ _ _ = m_X6_fewestOdd_L42 N (nI K) (nI L.length) e f' (nI Z.length) bef' n (nI (i + 1)) (nI (mnf o (i + 1))) (nI c1') (nI (o i)) (nI l1')
          have ml := mnf_le o i
          rw [m_X6_fewestOdd_L42]
          show Option.bind (some (nI Z.length)) _ = _
          rw [r_bind, if_neg (nI_ge hi (by omega)), g a.2.1 a.2.2.1 a.2.2.2, r_bind]
          show Option.bind (some (nI (o i))) _ = _
          rw [r_bind]
          simp only [nm]
          rw [ha, mn_N (by omega) (by omega), nI_1]
          rfl)
        Z.length N 0 (14, ci, od, lo') (by omega) (by omega) rfl
      refine ⟨nI (mnf o Z.length), (f', nI Z.length, bef', a1.2.1, a1.2.2.1, a1.2.2.2), (nI Z.length, sets', pk', cv', tk', a2.2.1, a2.2.2.1, a2.2.2.2), ?_, ?_⟩
      · rw [if_neg (fun g => z0 ((nI_eq0 (by omega)).mp g))]
        exact r1
      · rw [if_neg z0] at r2
        exact r2
end QU
