/-! pure: the readers of the text -/
theorem neq_m1 {n : Nat} (h : n < 2 ^ 31) : ¬ nI n = -1 := by
  intro e
  have := nI_pos h
  rw [e] at this
  exact this (by decide)
theorem x_addPair {N m a b : Nat} {px : Nat → Int32} (hm : m < 21) (ha : a < 31) (hb : b < 31) : m_X4_addPair N px (nI m) (nI a) (nI b) = some (upd px m (nI (2 ^ a ||| 2 ^ b)), nI (m + 1)) := by
  unfold m_X4_addPair
  rw [m_bit ha, r_bind, m_bit hb, r_bind, nor, x_put hm (by decide), r_bind]
  simp only [nm]
  rw [nI_1]
abbrev R3 : Type := Option (Int32 × (Nat → Int32) × Int32)
abbrev R4 : Type := Option (Int32 × Int32 × Int32 × (Nat → Int32))
def jX4 (N : Nat) (len : Int32) (x2 x1 : Int32) (px : Nat → Int32) (sz : Int32) : R3 := if x1 = -1 then some (len, px, sz) else if x2 = -1 then some (len, px, sz) else Option.bind (m_X4_addPair N px sz x1 x2) (fun r => some (-1, r.1, r.2))
def jM7 (len : Int32) (a e : Int32) (rd : Nat → Int32) : R4 := if a = len then some (1, a, e, rd) else some (0, a, e, rd)
theorem x_read_eq (N : Nat) (g : Nat → Int32) (len : Int32) (px : Nat → Int32) (sz : Int32) : m_X4_read N g len px sz = m_X4_read_L11 N g len (jX4 N len) N 0 (-1) (-1) px 0 := rfl
theorem m_read_eq (N : Nat) (g : Nat → Int32) (len a e : Int32) (rd : Nat → Int32) : m_X7_readsThreads N g len a e rd = m_X7_readsThreads_L12 N g len (jM7 len) N 1 0 0 rd := rfl
section RD
variable {N n i f : Nat} {g px : Nat → Int32} {J : Int32 → Int32 → (Nat → Int32) → Int32 → R3} {x1 x2 sz : Int32}
theorem rd_end (h : n ≤ i) (hi : i < 2 ^ 31) : m_X4_read_L11 N g (nI n) J (f + 1) (nI i) x2 x1 px sz = J x2 x1 px sz := by
  rw [m_X4_read_L11, if_pos (nI_le h hi)]
theorem rd_dig (hi : i < n) (hn : n ≤ 60) (hm : m_X4_mayFollow N x2 (g i) = some 1) : m_X4_read_L11 N g (nI n) J (f + 1) (nI i) x2 x1 px sz = m_X4_read_L11 N g (nI n) J f (nI (i + 1)) ((if x2 = -1 then 0 else 10 * x2) + (g i - 48)) x1 px sz := by
  rw [m_X4_read_L11, if_neg (nI_ge hi (by omega)), if_neg (show ¬ (60 : Int32) ≤ nI i from nI_ge (b := 60) (by omega) (by omega)), r_ard (by omega) (by omega), hm, r_bind, if_neg (by decide), nI_1]
  simp only [jn, nm]
  by_cases q : x2 = -1
  · rw [if_pos q, if_pos q]
  · rw [if_neg q, if_neg q]
theorem rd_no (hi : i < n) (hn : n ≤ 60) (hm : m_X4_mayFollow N x2 (g i) = some 0) : m_X4_read_L11 N g (nI n) J (f + 1) (nI i) x2 x1 px sz = if g i = 45 ∧ ¬ x2 = -1 ∧ x1 = -1 then m_X4_read_L11 N g (nI n) J f (nI (i + 1)) (-1) x2 px sz else if g i = 44 ∧ ¬ x2 = -1 ∧ ¬ x1 = -1 then Option.bind (m_X4_addPair N px sz x1 x2) (fun r => m_X4_read_L11 N g (nI n) J f (nI (i + 1)) (-1) (-1) r.1 r.2) else some (nI i, px, sz) := by
  rw [m_X4_read_L11, if_neg (nI_ge hi (by omega)), if_neg (show ¬ (60 : Int32) ≤ nI i from nI_ge (b := 60) (by omega) (by omega)), r_ard (by omega) (by omega), hm, r_bind, if_pos rfl, nI_1]
  simp only [jn]
  by_cases q1 : g i = 45
  · have q2 : ¬ g i = 44 := by rw [q1]; decide
    rw [if_pos q1, if_neg q2, if_neg (fun h : g i = 44 ∧ ¬ x2 = -1 ∧ ¬ x1 = -1 => q2 h.1)]
    by_cases q3 : x2 = -1
    · rw [if_pos q3, if_neg (fun h : g i = 45 ∧ ¬ x2 = -1 ∧ x1 = -1 => h.2.1 q3)]
    · rw [if_neg q3]
      by_cases q4 : x1 = -1
      · rw [if_pos q4, if_pos ⟨q1, q3, q4⟩]
      · rw [if_neg q4, if_neg (fun h : g i = 45 ∧ ¬ x2 = -1 ∧ x1 = -1 => q4 h.2.2)]
  · rw [if_neg q1, if_neg (fun h : g i = 45 ∧ ¬ x2 = -1 ∧ x1 = -1 => q1 h.1)]
    by_cases q2 : g i = 44
    · rw [if_pos q2]
      by_cases q3 : x2 = -1
      · rw [if_pos q3, if_neg (fun h : g i = 44 ∧ ¬ x2 = -1 ∧ ¬ x1 = -1 => h.2.1 q3)]
      · rw [if_neg q3]
        by_cases q4 : x1 = -1
        · rw [if_pos q4, if_neg (fun h : g i = 44 ∧ ¬ x2 = -1 ∧ ¬ x1 = -1 => h.2.2 q4)]
        · rw [if_neg q4, if_pos ⟨q2, q3, q4⟩]
    · rw [if_neg q2, if_neg (fun h : g i = 44 ∧ ¬ x2 = -1 ∧ ¬ x1 = -1 => q2 h.1)]
end RD
theorem digit {u : Int32} (h1 : ¬ u < 48) (h2 : ¬ 57 < u) : ∃ d, d ≤ 9 ∧ u = nI (48 + d) := by
  have p : ¬ u < 0 := by
    rw [fa_lt] at h1 ⊢
    have a : (0 : Int32).toInt = 0 := by decide
    have b : (48 : Int32).toInt = 48 := by decide
    omega
  obtain ⟨j, hj, rfl⟩ := nI_of p
  have a : ¬ j < 48 := fun q => h1 (nI_lt (a := j) (b := 48) q (by decide))
  have b : ¬ 57 < j := fun q => h2 (nI_lt (a := 57) (b := j) q hj)
  exact ⟨j - 48, by omega, by rw [show 48 + (j - 48) = j by omega]⟩
theorem digit_in {d : Nat} (h : d ≤ 9) : ¬ nI (48 + d) < 48 ∧ ¬ 57 < nI (48 + d) ∧ nI (48 + d) - 48 = nI d := by
  refine ⟨nI_nlt (a := 48 + d) (b := 48) (by omega) (by omega), nI_nlt (a := 57) (b := 48 + d) (by omega) (by decide), ?_⟩
  have := pk_sub (a := 48 + d) (b := 48) (by omega)
  rw [show 48 + d - 48 = d by omega] at this
  exact this
theorem mf_dig {N d : Nat} (h : d ≤ 9) : m_X4_mayFollow N (-1) (nI (48 + d)) = some 1 := by
  obtain ⟨a, b, -⟩ := digit_in h
  unfold m_X4_mayFollow
  rw [if_neg a, if_pos (fa_of_nlt b), if_pos rfl]
theorem mf_non {N : Nat} {x u : Int32} (h : u < 48 ∨ 57 < u) : m_X4_mayFollow N x u = some 0 := by
  unfold m_X4_mayFollow
  by_cases q : u < 48
  · rw [if_pos q]
  · rw [if_neg q, if_neg (fun g => (fa_of_lt (h.resolve_left q)).2.1 g)]
theorem mf_val {N v : Nat} {u : Int32} (hv : v < 2 ^ 31) (h : ¬ (v = 1 ∧ ¬ u < 48 ∧ ¬ 51 < u)) : m_X4_mayFollow N (nI v) u = some 0 := by
  unfold m_X4_mayFollow
  by_cases q : u < 48
  · rw [if_pos q]
  · rw [if_neg q]
    by_cases q2 : u ≤ 57
    · rw [if_pos q2, if_neg (neq_m1 hv)]
      by_cases q3 : v = 1
      · rw [if_pos (show nI v = 1 by rw [q3]; rfl)]
        by_cases q4 : 51 < u
        · rw [if_pos q4]
        · exact absurd ⟨q3, q, q4⟩ h
      · rw [if_neg (show ¬ nI v = 1 from fun g => q3 ((nI_eq hv (b := 1) (by decide)).mp g))]
    · rw [if_neg q2]
theorem mf_one {N : Nat} {u : Int32} (h : ¬ u < 48) (h2 : ¬ 51 < u) : m_X4_mayFollow N (nI 1) u = some 1 := by
  have a := fa_of_nlt h2
  have b : u ≤ 57 := by
    rw [fa_le] at a ⊢
    have a1 : (51 : Int32).toInt = 51 := by decide
    have a2 : (57 : Int32).toInt = 57 := by decide
    omega
  unfold m_X4_mayFollow
  rw [if_neg h, if_pos b, if_neg (by decide), if_pos (show nI 1 = 1 from rfl), if_neg h2]
theorem zb0 {β : Type} {k : Option β} : zb 0 k = k := zb01 false
theorem zb1 {β : Type} {k : Option β} : zb 1 k = k := zb01 true
section SE
variable {N n i : Nat} {g : Nat → Int32} {lo hi c : Int32}
theorem sees_end (h : n ≤ i) (hi' : i < 2 ^ 31) : m_X7_sees N g (nI n) (nI i) lo hi = some 0 := by
  unfold m_X7_sees
  rw [if_pos (nI_le h hi')]
theorem sees_in (h : i < n) (hn : n ≤ 60) : m_X7_sees N g (nI n) (nI i) lo hi = some (if g i < lo then 0 else if hi < g i then 0 else 1) := by
  unfold m_X7_sees m_X7_in
  rw [if_neg (nI_ge h (by omega)), r_ard (by omega) (by omega)]
  by_cases q : g i < lo
  · rw [if_pos q, if_pos q]; rfl
  · rw [if_neg q, if_neg q]
    by_cases q2 : hi < g i
    · rw [if_pos q2, if_pos q2]; rfl
    · rw [if_neg q2, if_neg q2]; rfl
theorem takes_no (h : i ≤ n) (hn : n ≤ 60) (hc : i < n → ¬ g i = c) : m_X7_takes N g (nI n) (nI i) c = some (0, nI i) := by
  have e : m_X7_sees N g (nI n) (nI i) c c = some 0 := by
    by_cases q : i < n
    · rw [sees_in q hn]
      rcases fa_three (g i) c with t | t | t
      · rw [if_pos t]
      · exact absurd t (hc q)
      · rw [if_neg (fa_of_lt t).2.2.1, if_pos t]
    · exact sees_end (by omega) (by omega)
  unfold m_X7_takes
  rw [e, r_bind]
  simp only [jn, nm]
  rw [if_pos trivial, show nI i + 0 = nI i from nI_add i 0, zb0]
theorem takes_yes (h : i < n) (hn : n ≤ 60) (hc : g i = c) : m_X7_takes N g (nI n) (nI i) c = some (1, nI (i + 1)) := by
  have l : ¬ c < c := by rw [fa_lt]; omega
  have e : m_X7_sees N g (nI n) (nI i) c c = some 1 := by rw [sees_in h hn, hc, if_neg l, if_neg l]
  unfold m_X7_takes
  rw [e, r_bind]
  simp only [jn, nm]
  rw [if_neg (by decide), nI_1, zb1]
end SE
theorem knot_no {N n i : Nat} {e : Int32} {g rd : Nat → Int32} (hi : i ≤ n) (hn : n ≤ 60) (h : i < n → g i < 48 ∨ 57 < g i) : m_X7_takesKnot N g (nI n) (nI i) e rd = some (0, nI i, e, rd) := by
  have z : m_X7_sees N g (nI n) (nI i) 48 57 = some 0 := by
    by_cases q : i < n
    · rw [sees_in q hn]
      by_cases t : g i < 48
      · rw [if_pos t]
      · rw [if_neg t, if_pos ((h q).resolve_left t)]
    · exact sees_end (by omega) (by omega)
  unfold m_X7_takesKnot
  rw [z, r_bind, if_pos rfl]
theorem knot_yes {N n i e d : Nat} {g rd : Nat → Int32} (hi : i < n) (hn : n ≤ 60) (he : e < 32) (hd : d ≤ 9) (hu : g i = nI (48 + d)) : m_X7_takesKnot N g (nI n) (nI i) (nI e) rd = if d = 1 ∧ i + 1 < n ∧ ¬ g (i + 1) < 48 ∧ ¬ 51 < g (i + 1) then some (1, nI (i + 2), nI (e + 1), upd rd e (10 + g (i + 1) - 48)) else some (1, nI (i + 1), nI (e + 1), upd rd e (nI d)) := by
  obtain ⟨a, b, c⟩ := digit_in hd
  rw [← hu] at a b c
  unfold m_X7_takesKnot
  rw [sees_in hi hn, if_neg a, if_neg b, r_bind, if_neg (by decide), r_ard (by omega) (by omega)]
  simp only [nm, jn]
  rw [c, nI_1]
  by_cases q : d = 1
  · rw [if_pos (show nI d = 1 by rw [q]; rfl)]
    by_cases q2 : i + 1 < n
    · rw [sees_in q2 hn]
      by_cases q3 : g (i + 1) < 48
      · rw [if_pos q3, r_bind, if_pos rfl, r_awr (by omega) (by omega), nI_clamp (by omega), nI_1, if_neg (fun h => h.2.2.1 q3)]
      · rw [if_neg q3]
        by_cases q4 : 51 < g (i + 1)
        · rw [if_pos q4, r_bind, if_pos rfl, r_awr (by omega) (by omega), nI_clamp (by omega), nI_1, if_neg (fun h => h.2.2.2 q4)]
        · rw [if_neg q4, r_bind, if_neg (by decide), r_ard (by omega) (by omega), r_awr (by omega) (by omega), nI_clamp (by omega), nI_1, nI_1, if_pos ⟨q, q2, q3, q4⟩]
    · rw [sees_end (by omega) (by omega), r_bind, if_pos rfl, r_awr (by omega) (by omega), nI_clamp (by omega), nI_1, if_neg (fun h => q2 h.2.1)]
  · rw [if_neg (show ¬ nI d = 1 from fun h => q ((nI_eq (a := d) (b := 1) (by omega) (by decide)).mp h)), r_awr (by omega) (by omega), nI_clamp (by omega), nI_1, if_neg (fun h => q h.1)]
/-- both readers at a knot -/
theorem knot {N n i e : Nat} {g px rd : Nat → Int32} {J : Int32 → Int32 → (Nat → Int32) → Int32 → R3} {x1 sz : Int32} (hi : i ≤ n) (hn : n ≤ 60) (he : e < 32) : (m_X7_takesKnot N g (nI n) (nI i) (nI e) rd = some (0, nI i, nI e, rd) ∧ ∀ f, m_X4_read_L11 N g (nI n) J (f + 1) (nI i) (-1) x1 px sz = if i = n then J (-1) x1 px sz else some (nI i, px, sz)) ∨ ∃ j v, i < j ∧ j ≤ n ∧ v ≤ 13 ∧ m_X7_takesKnot N g (nI n) (nI i) (nI e) rd = some (1, nI j, nI (e + 1), upd rd e (nI v)) ∧ (∀ f, ∃ f', f ≤ f' ∧ m_X4_read_L11 N g (nI n) J (f + 2) (nI i) (-1) x1 px sz = m_X4_read_L11 N g (nI n) J f' (nI j) (nI v) x1 px sz) ∧ (j < n → m_X4_mayFollow N (nI v) (g j) = some 0) := by
  by_cases hin : i < n
  · by_cases hd : g i < 48 ∨ 57 < g i
    · refine Or.inl ⟨knot_no hi hn (fun _ => hd), fun f => ?_⟩
      rw [rd_no hin hn (mf_non hd), if_neg (fun h => h.2.1 rfl), if_neg (fun h => h.2.1 rfl), if_neg (by omega)]
    · obtain ⟨d, hd9, hu⟩ := digit (u := g i) (fun h => hd (Or.inl h)) (fun h => hd (Or.inr h))
      have kn := knot_yes (N := N) (e := e) (rd := rd) hin hn he hd9 hu
      have st : ∀ f, m_X4_read_L11 N g (nI n) J (f + 1) (nI i) (-1) x1 px sz = m_X4_read_L11 N g (nI n) J f (nI (i + 1)) (nI d) x1 px sz := fun f => by
        rw [rd_dig hin hn (by rw [hu]; exact mf_dig hd9), if_pos rfl, hu, (digit_in hd9).2.2, show (0 : Int32) + nI d = nI d from by rw [show (0 : Int32) = nI 0 from rfl, nI_add, Nat.zero_add]]
      by_cases q : d = 1 ∧ i + 1 < n ∧ ¬ g (i + 1) < 48 ∧ ¬ 51 < g (i + 1)
      · rw [if_pos q] at kn
        obtain ⟨q1, q2, q3, q4⟩ := q
        have q5 : ¬ 57 < g (i + 1) := by
          rw [fa_lt] at q4 ⊢
          have a1 : (51 : Int32).toInt = 51 := by decide
          have a2 : (57 : Int32).toInt = 57 := by decide
          omega
        obtain ⟨d2, h2, hu2⟩ := digit q3 q5
        have h3 : d2 ≤ 3 := by
          rcases Nat.lt_or_ge 3 d2 with g1 | g1
          · exact absurd (by rw [hu2]; exact nI_lt (a := 51) (b := 48 + d2) (by omega) (by omega)) q4
          · exact g1
        refine Or.inr ⟨i + 2, 10 + d2, by omega, by omega, by omega, ?_, fun f => ⟨f, Nat.le_refl _, ?_⟩, fun _ => mf_val (by omega) (by omega)⟩
        · rw [kn, hu2]
          have : (10 : Int32) + nI (48 + d2) - 48 = nI (10 + d2) := by
            rw [show (10 : Int32) + nI (48 + d2) = nI (10 + (48 + d2)) from nI_add 10 _]
            have := pk_sub (a := 10 + (48 + d2)) (b := 48) (by omega)
            rw [show 10 + (48 + d2) - 48 = 10 + d2 by omega] at this
            exact this
          rw [this]
        · rw [st (f + 1), q1, rd_dig q2 hn (mf_one q3 q4), if_neg (by decide), hu2, (digit_in h2).2.2]
          have : (10 : Int32) * nI 1 + nI d2 = nI (10 + d2) := by
            show nI 10 + nI d2 = _
            rw [nI_add]
          rw [this]
      · rw [if_neg q] at kn
        refine Or.inr ⟨i + 1, d, by omega, by omega, by omega, kn, fun f => ⟨f + 1, by omega, st (f + 1)⟩, fun hj => mf_val (by omega) (fun h => q ⟨h.1, hj, h.2⟩)⟩
  · have : i = n := by omega
    subst this
    exact Or.inl ⟨knot_no hi hn (fun h => absurd h hin), fun f => by rw [rd_end (Nat.le_refl _) (by omega), if_pos rfl]⟩
