-- 70.text.lean.txt
section
/-! pure: the readers of the text -/
theorem neq_m1 {n : Nat} (h : n < 2 ^ 31) : ¬ nI n = -1 := by
  intro e
  have := nI_pos h
  rw [e] at this
  exact this (by decide)
theorem x_addPair {N m a b : Nat} {px : Nat → Int32} (hm : m < 21) (ha : a < 31) (hb : b < 31) : m_X4_addPair N px (nI m) (nI a) (nI b) = some (upd px m (nI (2 ^ a ||| 2 ^ b)), nI (m + 1)) := by
  unfold m_X4_addPair
  rw [m_bit ha, r_bind, m_bit hb, r_bind, nor, x_put hm (by decide), r_bind]
  simp only [nm]
  rw [nI_1]
abbrev R3 : Type := Option (Int32 × (Nat → Int32) × Int32)
abbrev R4 : Type := Option (Int32 × Int32 × Int32 × (Nat → Int32))
def jX4 (N : Nat) (len : Int32) (x2 x1 : Int32) (px : Nat → Int32) (sz : Int32) : R3 := if x1 = -1 then some (len, px, sz) else if x2 = -1 then some (len, px, sz) else Option.bind (m_X4_addPair N px sz x1 x2) (fun r => some (-1, r.1, r.2))
def jM7 (len : Int32) (a e : Int32) (rd : Nat → Int32) : R4 := if a = len then some (1, a, e, rd) else some (0, a, e, rd)
theorem x_read_eq (N : Nat) (g : Nat → Int32) (len : Int32) (px : Nat → Int32) (sz : Int32) : m_X4_read N g len px sz = m_X4_read_L11 N g len (jX4 N len) N 0 (-1) (-1) px 0 := rfl
theorem m_read_eq (N : Nat) (g : Nat → Int32) (len a e : Int32) (rd : Nat → Int32) : m_X7_readsThreads N g len a e rd = m_X7_readsThreads_L12 N g len (jM7 len) N 1 0 0 rd := rfl
section RD
variable {N n i f : Nat} {g px : Nat → Int32} {J : Int32 → Int32 → (Nat → Int32) → Int32 → R3} {x1 x2 sz : Int32}
theorem rd_end (h : n ≤ i) (hi : i < 2 ^ 31) : m_X4_read_L11 N g (nI n) J (f + 1) (nI i) x2 x1 px sz = J x2 x1 px sz := by
  rw [m_X4_read_L11, if_pos (nI_le h hi)]
theorem rd_dig (hi : i < n) (hn : n ≤ 60) (hm : m_X4_mayFollow N x2 (g i) = some 1) : m_X4_read_L11 N g (nI n) J (f + 1) (nI i) x2 x1 px sz = m_X4_read_L11 N g (nI n) J f (nI (i + 1)) ((if x2 = -1 then 0 else 10 * x2) + (g i - 48)) x1 px sz := by
  rw [m_X4_read_L11, if_neg (nI_ge hi (by omega)), if_neg (show ¬ (60 : Int32) ≤ nI i from nI_ge (b := 60) (by omega) (by omega)), r_ard (by omega) (by omega), hm, r_bind, if_neg (by decide), nI_1]
  simp only [jn, nm]
  by_cases q : x2 = -1
  · rw [if_pos q, if_pos q]
  · rw [if_neg q, if_neg q]
theorem rd_no (hi : i < n) (hn : n ≤ 60) (hm : m_X4_mayFollow N x2 (g i) = some 0) : m_X4_read_L11 N g (nI n) J (f + 1) (nI i) x2 x1 px sz = if g i = 45 ∧ ¬ x2 = -1 ∧ x1 = -1 then m_X4_read_L11 N g (nI n) J f (nI (i + 1)) (-1) x2 px sz else if g i = 44 ∧ ¬ x2 = -1 ∧ ¬ x1 = -1 then Option.bind (m_X4_addPair N px sz x1 x2) (fun r => m_X4_read_L11 N g (nI n) J f (nI (i + 1)) (-1) (-1) r.1 r.2) else some (nI i, px, sz) := by
  rw [m_X4_read_L11, if_neg (nI_ge hi (by omega)), if_neg (show ¬ (60 : Int32) ≤ nI i from nI_ge (b := 60) (by omega) (by omega)), r_ard (by omega) (by omega), hm, r_bind, if_pos rfl, nI_1]
  simp only [jn]
  by_cases q1 : g i = 45
  · have q2 : ¬ g i = 44 := by rw [q1]; decide
    rw [if_pos q1, if_neg q2, if_neg (fun h : g i = 44 ∧ ¬ x2 = -1 ∧ ¬ x1 = -1 => q2 h.1)]
    by_cases q3 : x2 = -1
    · rw [if_pos q3, if_neg (fun h : g i = 45 ∧ ¬ x2 = -1 ∧ x1 = -1 => h.2.1 q3)]
    · rw [if_neg q3]
      by_cases q4 : x1 = -1
      · rw [if_pos q4, if_pos ⟨q1, q3, q4⟩]
      · rw [if_neg q4, if_neg (fun h : g i = 45 ∧ ¬ x2 = -1 ∧ x1 = -1 => q4 h.2.2)]
  · rw [if_neg q1, if_neg (fun h : g i = 45 ∧ ¬ x2 = -1 ∧ x1 = -1 => q1 h.1)]
    by_cases q2 : g i = 44
    · rw [if_pos q2]
      by_cases q3 : x2 = -1
      · rw [if_pos q3, if_neg (fun h : g i = 44 ∧ ¬ x2 = -1 ∧ ¬ x1 = -1 => h.2.1 q3)]
      · rw [if_neg q3]
        by_cases q4 : x1 = -1
        · rw [if_pos q4, if_neg (fun h : g i = 44 ∧ ¬ x2 = -1 ∧ ¬ x1 = -1 => h.2.2 q4)]
        · rw [if_neg q4, if_pos ⟨q2, q3, q4⟩]
    · rw [if_neg q2, if_neg (fun h : g i = 44 ∧ ¬ x2 = -1 ∧ ¬ x1 = -1 => q2 h.1)]
end RD
theorem digit {u : Int32} (h1 : ¬ u < 48) (h2 : ¬ 57 < u) : ∃ d, d ≤ 9 ∧ u = nI (48 + d) := by
  have p : ¬ u < 0 := by
    rw [fa_lt] at h1 ⊢
    have a : (0 : Int32).toInt = 0 := by decide
    have b : (48 : Int32).toInt = 48 := by decide
    omega
  obtain ⟨j, hj, rfl⟩ := nI_of p
  have a : ¬ j < 48 := fun q => h1 (nI_lt (a := j) (b := 48) q (by decide))
  have b : ¬ 57 < j := fun q => h2 (nI_lt (a := 57) (b := j) q hj)
  exact ⟨j - 48, by omega, by rw [show 48 + (j - 48) = j by omega]⟩
theorem digit_in {d : Nat} (h : d ≤ 9) : ¬ nI (48 + d) < 48 ∧ ¬ 57 < nI (48 + d) ∧ nI (48 + d) - 48 = nI d := by
  refine ⟨nI_nlt (a := 48 + d) (b := 48) (by omega) (by omega), nI_nlt (a := 57) (b := 48 + d) (by omega) (by decide), ?_⟩
  have := pk_sub (a := 48 + d) (b := 48) (by omega)
  rw [show 48 + d - 48 = d by omega] at this
  exact this
theorem mf_dig {N d : Nat} (h : d ≤ 9) : m_X4_mayFollow N (-1) (nI (48 + d)) = some 1 := by
  obtain ⟨a, b, -⟩ := digit_in h
  unfold m_X4_mayFollow
  rw [if_neg a, if_pos (fa_of_nlt b), if_pos rfl]
theorem mf_non {N : Nat} {x u : Int32} (h : u < 48 ∨ 57 < u) : m_X4_mayFollow N x u = some 0 := by
  unfold m_X4_mayFollow
  by_cases q : u < 48
  · rw [if_pos q]
  · rw [if_neg q, if_neg (fun g => (fa_of_lt (h.resolve_left q)).2.1 g)]
theorem mf_val {N v : Nat} {u : Int32} (hv : v < 2 ^ 31) (h : ¬ (v = 1 ∧ ¬ u < 48 ∧ ¬ 51 < u)) : m_X4_mayFollow N (nI v) u = some 0 := by
  unfold m_X4_mayFollow
  by_cases q : u < 48
  · rw [if_pos q]
  · rw [if_neg q]
    by_cases q2 : u ≤ 57
    · rw [if_pos q2, if_neg (neq_m1 hv)]
      by_cases q3 : v = 1
      · rw [if_pos (show nI v = 1 by rw [q3]; rfl)]
        by_cases q4 : 51 < u
        · rw [if_pos q4]
        · exact absurd ⟨q3, q, q4⟩ h
      · rw [if_neg (show ¬ nI v = 1 from fun g => q3 ((nI_eq hv (b := 1) (by decide)).mp g))]
    · rw [if_neg q2]
theorem mf_one {N : Nat} {u : Int32} (h : ¬ u < 48) (h2 : ¬ 51 < u) : m_X4_mayFollow N (nI 1) u = some 1 := by
  have a := fa_of_nlt h2
  have b : u ≤ 57 := by
    rw [fa_le] at a ⊢
    have a1 : (51 : Int32).toInt = 51 := by decide
    have a2 : (57 : Int32).toInt = 57 := by decide
    omega
  unfold m_X4_mayFollow
  rw [if_neg h, if_pos b, if_neg (by decide), if_pos (show nI 1 = 1 from rfl), if_neg h2]
theorem zb0 {β : Type} {k : Option β} : zb 0 k = k := zb01 false
theorem zb1 {β : Type} {k : Option β} : zb 1 k = k := zb01 true
section SE
variable {N n i : Nat} {g : Nat → Int32} {lo hi c : Int32}
theorem sees_end (h : n ≤ i) (hi' : i < 2 ^ 31) : m_X7_sees N g (nI n) (nI i) lo hi = some 0 := by
  unfold m_X7_sees
  rw [if_pos (nI_le h hi')]
theorem sees_in (h : i < n) (hn : n ≤ 60) : m_X7_sees N g (nI n) (nI i) lo hi = some (if g i < lo then 0 else if hi < g i then 0 else 1) := by
  unfold m_X7_sees m_X7_in
  rw [if_neg (nI_ge h (by omega)), r_ard (by omega) (by omega)]
  by_cases q : g i < lo
  · rw [if_pos q, if_pos q]; rfl
  · rw [if_neg q, if_neg q]
    by_cases q2 : hi < g i
    · rw [if_pos q2, if_pos q2]; rfl
    · rw [if_neg q2, if_neg q2]; rfl
theorem takes_no (h : i ≤ n) (hn : n ≤ 60) (hc : i < n → ¬ g i = c) : m_X7_takes N g (nI n) (nI i) c = some (0, nI i) := by
  have e : m_X7_sees N g (nI n) (nI i) c c = some 0 := by
    by_cases q : i < n
    · rw [sees_in q hn]
      rcases fa_three (g i) c with t | t | t
      · rw [if_pos t]
      · exact absurd t (hc q)
      · rw [if_neg (fa_of_lt t).2.2.1, if_pos t]
    · exact sees_end (by omega) (by omega)
  unfold m_X7_takes
  rw [e, r_bind]
  simp only [jn, nm]
  rw [if_pos trivial, show nI i + 0 = nI i from nI_add i 0, zb0]
theorem takes_yes (h : i < n) (hn : n ≤ 60) (hc : g i = c) : m_X7_takes N g (nI n) (nI i) c = some (1, nI (i + 1)) := by
  have l : ¬ c < c := by rw [fa_lt]; omega
  have e : m_X7_sees N g (nI n) (nI i) c c = some 1 := by rw [sees_in h hn, hc, if_neg l, if_neg l]
  unfold m_X7_takes
  rw [e, r_bind]
  simp only [jn, nm]
  rw [if_neg (by decide), nI_1, zb1]
end SE
theorem knot_no {N n i : Nat} {e : Int32} {g rd : Nat → Int32} (hi : i ≤ n) (hn : n ≤ 60) (h : i < n → g i < 48 ∨ 57 < g i) : m_X7_takesKnot N g (nI n) (nI i) e rd = some (0, nI i, e, rd) := by
  have z : m_X7_sees N g (nI n) (nI i) 48 57 = some 0 := by
    by_cases q : i < n
    · rw [sees_in q hn]
      by_cases t : g i < 48
      · rw [if_pos t]
      · rw [if_neg t, if_pos ((h q).resolve_left t)]
    · exact sees_end (by omega) (by omega)
  unfold m_X7_takesKnot
  rw [z, r_bind, if_pos rfl]
theorem knot_yes {N n i e d : Nat} {g rd : Nat → Int32} (hi : i < n) (hn : n ≤ 60) (he : e < 32) (hd : d ≤ 9) (hu : g i = nI (48 + d)) : m_X7_takesKnot N g (nI n) (nI i) (nI e) rd = if d = 1 ∧ i + 1 < n ∧ ¬ g (i + 1) < 48 ∧ ¬ 51 < g (i + 1) then some (1, nI (i + 2), nI (e + 1), upd rd e (10 + g (i + 1) - 48)) else some (1, nI (i + 1), nI (e + 1), upd rd e (nI d)) := by
  obtain ⟨a, b, c⟩ := digit_in hd
  rw [← hu] at a b c
  unfold m_X7_takesKnot
  rw [sees_in hi hn, if_neg a, if_neg b, r_bind, if_neg (by decide), r_ard (by omega) (by omega)]
  simp only [nm, jn]
  rw [c, nI_1]
  by_cases q : d = 1
  · rw [if_pos (show nI d = 1 by rw [q]; rfl)]
    by_cases q2 : i + 1 < n
    · rw [sees_in q2 hn]
      by_cases q3 : g (i + 1) < 48
      · rw [if_pos q3, r_bind, if_pos rfl, r_awr (by omega) (by omega), nI_clamp (by omega), nI_1, if_neg (fun h => h.2.2.1 q3)]
      · rw [if_neg q3]
        by_cases q4 : 51 < g (i + 1)
        · rw [if_pos q4, r_bind, if_pos rfl, r_awr (by omega) (by omega), nI_clamp (by omega), nI_1, if_neg (fun h => h.2.2.2 q4)]
        · rw [if_neg q4, r_bind, if_neg (by decide), r_ard (by omega) (by omega), r_awr (by omega) (by omega), nI_clamp (by omega), nI_1, nI_1, if_pos ⟨q, q2, q3, q4⟩]
    · rw [sees_end (by omega) (by omega), r_bind, if_pos rfl, r_awr (by omega) (by omega), nI_clamp (by omega), nI_1, if_neg (fun h => q2 h.2.1)]
  · rw [if_neg (show ¬ nI d = 1 from fun h => q ((nI_eq (a := d) (b := 1) (by omega) (by decide)).mp h)), r_awr (by omega) (by omega), nI_clamp (by omega), nI_1, if_neg (fun h => q h.1)]
/-- both readers at a knot -/
theorem knot {N n i e : Nat} {g px rd : Nat → Int32} {J : Int32 → Int32 → (Nat → Int32) → Int32 → R3} {x1 sz : Int32} (hi : i ≤ n) (hn : n ≤ 60) (he : e < 32) : (m_X7_takesKnot N g (nI n) (nI i) (nI e) rd = some (0, nI i, nI e, rd) ∧ ∀ f, m_X4_read_L11 N g (nI n) J (f + 1) (nI i) (-1) x1 px sz = if i = n then J (-1) x1 px sz else some (nI i, px, sz)) ∨ ∃ j v, i < j ∧ j ≤ n ∧ v ≤ 13 ∧ m_X7_takesKnot N g (nI n) (nI i) (nI e) rd = some (1, nI j, nI (e + 1), upd rd e (nI v)) ∧ (∀ f, ∃ f', f ≤ f' ∧ m_X4_read_L11 N g (nI n) J (f + 2) (nI i) (-1) x1 px sz = m_X4_read_L11 N g (nI n) J f' (nI j) (nI v) x1 px sz) ∧ (j < n → m_X4_mayFollow N (nI v) (g j) = some 0) := by
  by_cases hin : i < n
  · by_cases hd : g i < 48 ∨ 57 < g i
    · refine Or.inl ⟨knot_no hi hn (fun _ => hd), fun f => ?_⟩
      rw [rd_no hin hn (mf_non hd), if_neg (fun h => h.2.1 rfl), if_neg (fun h => h.2.1 rfl), if_neg (by omega)]
    · obtain ⟨d, hd9, hu⟩ := digit (u := g i) (fun h => hd (Or.inl h)) (fun h => hd (Or.inr h))
      have kn := knot_yes (N := N) (e := e) (rd := rd) hin hn he hd9 hu
      have st : ∀ f, m_X4_read_L11 N g (nI n) J (f + 1) (nI i) (-1) x1 px sz = m_X4_read_L11 N g (nI n) J f (nI (i + 1)) (nI d) x1 px sz := fun f => by
        rw [rd_dig hin hn (by rw [hu]; exact mf_dig hd9), if_pos rfl, hu, (digit_in hd9).2.2, show (0 : Int32) + nI d = nI d from by rw [show (0 : Int32) = nI 0 from rfl, nI_add, Nat.zero_add]]
      by_cases q : d = 1 ∧ i + 1 < n ∧ ¬ g (i + 1) < 48 ∧ ¬ 51 < g (i + 1)
      · rw [if_pos q] at kn
        obtain ⟨q1, q2, q3, q4⟩ := q
        have q5 : ¬ 57 < g (i + 1) := by
          rw [fa_lt] at q4 ⊢
          have a1 : (51 : Int32).toInt = 51 := by decide
          have a2 : (57 : Int32).toInt = 57 := by decide
          omega
        obtain ⟨d2, h2, hu2⟩ := digit q3 q5
        have h3 : d2 ≤ 3 := by
          rcases Nat.lt_or_ge 3 d2 with g1 | g1
          · exact absurd (by rw [hu2]; exact nI_lt (a := 51) (b := 48 + d2) (by omega) (by omega)) q4
          · exact g1
        refine Or.inr ⟨i + 2, 10 + d2, by omega, by omega, by omega, ?_, fun f => ⟨f, Nat.le_refl _, ?_⟩, fun _ => mf_val (by omega) (by omega)⟩
        · rw [kn, hu2]
          have : (10 : Int32) + nI (48 + d2) - 48 = nI (10 + d2) := by
            rw [show (10 : Int32) + nI (48 + d2) = nI (10 + (48 + d2)) from nI_add 10 _]
            have := pk_sub (a := 10 + (48 + d2)) (b := 48) (by omega)
            rw [show 10 + (48 + d2) - 48 = 10 + d2 by omega] at this
            exact this
          rw [this]
        · rw [st (f + 1), q1, rd_dig q2 hn (mf_one q3 q4), if_neg (by decide), hu2, (digit_in h2).2.2]
          have : (10 : Int32) * nI 1 + nI d2 = nI (10 + d2) := by
            show nI 10 + nI d2 = _
            rw [nI_add]
          rw [this]
      · rw [if_neg q] at kn
        refine Or.inr ⟨i + 1, d, by omega, by omega, by omega, kn, fun f => ⟨f + 1, by omega, st (f + 1)⟩, fun hj => mf_val (by omega) (fun h => q ⟨h.1, hj, h.2⟩)⟩
  · have : i = n := by omega
    subst this
    exact Or.inl ⟨knot_no hi hn (fun h => absurd h hin), fun f => by rw [rd_end (Nat.le_refl _) (by omega), if_pos rfl]⟩
end
-- 71.parse.lean.txt
section
/-! pure: both readers give one answer -/
abbrev PR : Type := Nat × Nat
def XP (P : List PR) (px : Nat → Int32) : Prop := ∀ k p, P[k]? = some p → px k = nI (2 ^ p.1 ||| 2 ^ p.2)
def MP (P : List PR) (rd : Nat → Int32) : Prop := ∀ k p, P[k]? = some p → rd (2 * k) = nI p.1 ∧ rd (2 * k + 1) = nI p.2
def BP (P : List PR) : Prop := ∀ p ∈ P, p.1 ≤ 13 ∧ p.2 ≤ 13
theorem pr_lt {P : List PR} {i : Nat} {p : PR} (h : P[i]? = some p) : i < P.length := by
  rcases Nat.lt_or_ge i P.length with g | g
  · exact g
  · rw [List.getElem?_eq_none g] at h; cases h
theorem pr_some {P : List PR} {i : Nat} (h : i < P.length) : ∃ p, P[i]? = some p := ⟨P[i], List.getElem?_eq_getElem h⟩
theorem pr_app (P : List PR) (x : PR) (i : Nat) (y : PR) : (P ++ [x])[i]? = some y → P[i]? = some y ∨ (i = P.length ∧ x = y) := by
  intro h
  rcases Nat.lt_trichotomy i P.length with q | q | q
  · rw [List.getElem?_append_left q] at h
    exact Or.inl h
  · subst q
    rw [List.getElem?_append_right (Nat.le_refl _), Nat.sub_self] at h
    exact Or.inr ⟨rfl, Option.some.inj h⟩
  · rw [List.getElem?_append_right (by omega)] at h
    have := pr_lt h
    simp at this
    omega
theorem XP.app {P : List PR} {px : Nat → Int32} {a b : Nat} (h : XP P px) : XP (P ++ [(a, b)]) (upd px P.length (nI (2 ^ a ||| 2 ^ b))) := by
  intro k p hp
  rcases pr_app P _ k p hp with q | ⟨rfl, rfl⟩
  · rw [upd_n (by have := pr_lt q; omega)]
    exact h k p q
  · rw [upd_s]
theorem MP.app {P : List PR} {rd : Nat → Int32} {a b : Nat} (h : MP P rd) : MP (P ++ [(a, b)]) (upd (upd rd (2 * P.length) (nI a)) (2 * P.length + 1) (nI b)) := by
  intro k p hp
  rcases pr_app P _ k p hp with q | ⟨rfl, rfl⟩
  · have := pr_lt q
    rw [upd_n (by omega), upd_n (by omega), upd_n (by omega), upd_n (by omega)]
    exact h k p q
  · rw [upd_n (by omega), upd_s, upd_s]
    exact ⟨rfl, rfl⟩
theorem BP.app {P : List PR} {a b : Nat} (h : BP P) (ha : a ≤ 13) (hb : b ≤ 13) : BP (P ++ [(a, b)]) := by
  intro p hp
  rw [List.mem_append, List.mem_singleton] at hp
  rcases hp with q | q
  · exact h p q
  · rw [q]; exact ⟨ha, hb⟩
theorem rt_step {N h : Nat} {g rd : Nat → Int32} {len a e : Int32} {J : Int32 → Int32 → (Nat → Int32) → R4} : m_X7_readsThreads_L12 N g len J (h + 1) 1 a e rd = Option.bind (m_X7_takesKnot N g len a e rd) (fun r => if r.1 = 0 then some (0, r.2.1, r.2.2.1, r.2.2.2) else Option.bind (m_X7_takes N g len r.2.1 45) (fun q => if q.1 = 0 then some (0, q.2, r.2.2.1, r.2.2.2) else Option.bind (m_X7_takesKnot N g len q.2 r.2.2.1 r.2.2.2) (fun w => if w.1 = 0 then some (0, w.2.1, w.2.2.1, w.2.2.2) else Option.bind (m_X7_takes N g len w.2.1 44) (fun z => m_X7_readsThreads_L12 N g len J h z.1 z.2 w.2.2.1 w.2.2.2)))) := by
  rw [m_X7_readsThreads_L12, if_neg (by decide)]
theorem rt_end {N h : Nat} {g rd : Nat → Int32} {len a e : Int32} {J : Int32 → Int32 → (Nat → Int32) → R4} : m_X7_readsThreads_L12 N g len J (h + 1) 0 a e rd = J a e rd := by
  rw [m_X7_readsThreads_L12, if_pos rfl]
theorem n10 : ¬ (1 : Int32) = 0 := by decide
theorem text_main {N n : Nat} {g : Nat → Int32} (hn : n ≤ 60) : ∀ (d i : Nat), i + d = n → ∀ (P : List PR) (px rd : Nat → Int32) (f h : Nat), 4 * P.length ≤ i → BP P → XP P px → MP P rd → 2 * d + 8 ≤ f → d + 1 < h →
    (∃ j e' px' sz' rd', j ≤ n ∧ m_X4_read_L11 N g (nI n) (jX4 N (nI n)) f (nI i) (-1) (-1) px (nI P.length) = some (nI j, px', sz') ∧ m_X7_readsThreads_L12 N g (nI n) (jM7 (nI n)) h 1 (nI i) (nI (2 * P.length)) rd = some (0, nI j, e', rd')) ∨
    ∃ P' px' rd', P' ≠ [] ∧ 4 * P'.length ≤ n + 1 ∧ BP P' ∧ XP P' px' ∧ MP P' rd' ∧ m_X4_read_L11 N g (nI n) (jX4 N (nI n)) f (nI i) (-1) (-1) px (nI P.length) = some (-1, px', nI P'.length) ∧ m_X7_readsThreads_L12 N g (nI n) (jM7 (nI n)) h 1 (nI i) (nI (2 * P.length)) rd = some (1, nI n, nI (2 * P'.length), rd') := by
  intro d
  induction d using Nat.strongRecOn with
  | ind d ih =>
  intro i hi P px rd f h hP hB hX hM hf hh
  obtain ⟨h, rfl⟩ : ∃ m, h = m + 1 := ⟨h - 1, by omega⟩
  obtain ⟨f, rfl⟩ : ∃ m, f = m + 2 := ⟨f - 2, by omega⟩
  rcases knot (N := N) (n := n) (i := i) (e := 2 * P.length) (g := g) (px := px) (rd := rd) (J := jX4 N (nI n)) (x1 := -1) (sz := nI P.length) (by omega) hn (by omega) with ⟨a, b⟩ | ⟨j, v, h1, h2, hv, a, b, c⟩
  · left
    refine ⟨i, nI (2 * P.length), px, nI P.length, rd, by omega, ?_, ?_⟩
    · rw [show f + 2 = f + 1 + 1 from rfl, b]
      by_cases q : i = n
      · rw [if_pos q]
        unfold jX4
        rw [if_pos rfl, q]
      · rw [if_neg q]
    · rw [rt_step, a, r_bind, if_pos rfl]
  · obtain ⟨f', hf', b⟩ := b f
    rw [b]
    obtain ⟨f', rfl⟩ : ∃ m, f' = m + 1 := ⟨f' - 1, by omega⟩
    have v1 := neq_m1 (n := v) (by omega)
    by_cases q : j < n ∧ g j = 45
    · have cl : m_X4_read_L11 N g (nI n) (jX4 N (nI n)) (f' + 1) (nI j) (nI v) (-1) px (nI P.length) = m_X4_read_L11 N g (nI n) (jX4 N (nI n)) f' (nI (j + 1)) (-1) (nI v) px (nI P.length) := by
        rw [rd_no q.1 hn (c q.1), if_pos ⟨q.2, v1, rfl⟩]
      have tk := takes_yes (N := N) (c := 45) q.1 hn q.2
      rw [cl, rt_step, a, r_bind, if_neg n10, tk, r_bind, if_neg n10]
      obtain ⟨f', rfl⟩ : ∃ m, f' = m + 2 := ⟨f' - 2, by omega⟩
      rcases knot (N := N) (n := n) (i := j + 1) (e := 2 * P.length + 1) (g := g) (px := px) (rd := upd rd (2 * P.length) (nI v)) (J := jX4 N (nI n)) (x1 := nI v) (sz := nI P.length) (by omega) hn (by omega) with ⟨a2, b2⟩ | ⟨j2, w, h3, h4, hw, a2, b2, c2⟩
      · left
        refine ⟨j + 1, nI (2 * P.length + 1), px, nI P.length, upd rd (2 * P.length) (nI v), by omega, ?_, ?_⟩
        · rw [show f' + 2 = f' + 1 + 1 from rfl, b2]
          by_cases q2 : j + 1 = n
          · rw [if_pos q2]
            unfold jX4
            rw [if_neg v1, if_pos rfl, q2]
          · rw [if_neg q2]
        · rw [a2, r_bind, if_pos rfl]
      · obtain ⟨f2, hf2, b2⟩ := b2 f'
        have w1 := neq_m1 (n := w) (by omega)
        have ad := x_addPair (N := N) (px := px) (m := P.length) (a := v) (b := w) (by omega) (by omega) (by omega)
        have hX' := hX.app (a := v) (b := w)
        have hM' := hM.app (a := v) (b := w)
        have hB' := hB.app (a := v) (b := w) hv hw
        have len : (P ++ [(v, w)]).length = P.length + 1 := by simp
        rw [b2, a2, r_bind, if_neg n10]
        obtain ⟨f2, rfl⟩ : ∃ m, f2 = m + 1 := ⟨f2 - 1, by omega⟩
        by_cases q2 : j2 < n ∧ g j2 = 44
        · rw [rd_no q2.1 hn (c2 q2.1), if_neg (fun t => v1 t.2.2), if_pos ⟨q2.2, w1, v1⟩, ad, r_bind, takes_yes (N := N) (c := 44) q2.1 hn q2.2, r_bind]
          have := ih (n - (j2 + 1)) (by omega) (j2 + 1) (by omega) (P ++ [(v, w)]) _ _ f2 h (by rw [len]; omega) hB' hX' hM' (by omega) (by omega)
          rw [len] at this
          exact this
        · obtain ⟨h, rfl⟩ : ∃ m, h = m + 1 := ⟨h - 1, by omega⟩
          rw [takes_no (N := N) (c := 44) h4 hn (fun t g1 => q2 ⟨t, g1⟩), r_bind]
          by_cases q3 : j2 = n
          · right
            refine ⟨P ++ [(v, w)], _, _, by simp, by rw [len]; omega, hB', hX', hM', ?_, ?_⟩
            · rw [rd_end (by omega) (by omega)]
              unfold jX4
              rw [if_neg v1, if_neg w1, ad, r_bind, len]
            · rw [len]
              refine Eq.trans rt_end ?_
              unfold jM7
              rw [q3, if_pos rfl]
              rfl
          · left
            refine ⟨j2, nI (2 * P.length + 1 + 1), px, nI P.length, upd (upd rd (2 * P.length) (nI v)) (2 * P.length + 1) (nI w), h4, ?_, ?_⟩
            · rw [rd_no (by omega) hn (c2 (by omega)), if_neg (fun t => v1 t.2.2), if_neg (fun t => q2 ⟨by omega, t.1⟩)]
            · refine Eq.trans rt_end ?_
              unfold jM7
              rw [if_neg (fun t => q3 ((nI_eq (by omega) (by omega)).mp t))]
    · left
      refine ⟨j, nI (2 * P.length + 1), px, nI P.length, upd rd (2 * P.length) (nI v), h2, ?_, ?_⟩
      · by_cases q2 : j < n
        · rw [rd_no q2 hn (c q2), if_neg (fun t => q ⟨q2, t.1⟩), if_neg (fun t => t.2.2 rfl)]
        · have : j = n := by omega
          subst this
          rw [rd_end (Nat.le_refl _) (by omega)]
          unfold jX4
          rw [if_pos rfl]
      · rw [rt_step, a, r_bind, if_neg n10, takes_no (N := N) (c := 45) h2 hn (fun t g1 => q ⟨t, g1⟩), r_bind, if_pos rfl]
theorem text_both {N n : Nat} {g px rd : Nat → Int32} {sz a e : Int32} (hN : 1000 ≤ N) (hn : n ≤ 60) :
    (∃ j e' px' sz' rd', j ≤ n ∧ m_X4_read N g (nI n) px sz = some (nI j, px', sz') ∧ m_X7_readsThreads N g (nI n) a e rd = some (0, nI j, e', rd')) ∨
    ∃ P px' rd', P ≠ [] ∧ P.length ≤ 15 ∧ BP P ∧ XP P px' ∧ MP P rd' ∧ m_X4_read N g (nI n) px sz = some (-1, px', nI P.length) ∧ m_X7_readsThreads N g (nI n) a e rd = some (1, nI n, nI (2 * P.length), rd') := by
  have h := text_main (N := N) (g := g) hn n 0 (by omega) [] px rd N N (by simp) (fun p hp => by cases hp) (fun k p hp => by simp at hp) (fun k p hp => by simp at hp) (by omega) (by omega)
  rcases h with ⟨j, e', px', sz', rd', h1, h2, h3⟩ | ⟨P, px', rd', h1, h2, h3, h4, h5, h6, h7⟩
  · exact Or.inl ⟨j, e', px', sz', rd', h1, h2, h3⟩
  · exact Or.inr ⟨P, px', rd', h1, by omega, h3, h4, h5, h6, h7⟩
end
-- 72.pairs.lean.txt
section
/-! pure: the pairs that were read, and the net that they make -/
theorem for_find {β : Type} (F : Nat → Nat → Option β) (p : Nat → Bool) (m : Nat) (A B : Option β) (hend : ∀ n, F (n + 1) m = B) (hyes : ∀ n i, i < m → p i = true → F (n + 1) i = A) (hno : ∀ n i, i < m → p i = false → F (n + 1) i = F n (i + 1)) (n : Nat) (hn : m < n) : F n 0 = if an p m then A else B := by
  have key : ∀ d i n, i + d = m → d < n → (∀ k, k < i → p k = false) → F n i = if an p m then A else B := by
    intro d
    induction d with
    | zero =>
      intro i n hi hn hp
      obtain ⟨n, rfl⟩ : ∃ k, n = k + 1 := ⟨n - 1, by omega⟩
      have e : i = m := by omega
      subst e
      have : ¬ an p i = true := fun g => by
        obtain ⟨k, h1, h2⟩ := (an_iff p i).mp g
        rw [hp k h1] at h2
        cases h2
      rw [hend, if_neg this]
    | succ d ih =>
      intro i n hi hn hp
      obtain ⟨n, rfl⟩ : ∃ k, n = k + 1 := ⟨n - 1, by omega⟩
      by_cases q : p i = true
      · rw [hyes n i (by omega) q, if_pos ((an_iff p m).mpr ⟨i, by omega, q⟩)]
      · have q' : p i = false := by simpa using q
        rw [hno n i (by omega) q']
        refine ih (i + 1) n (by omega) (by omega) (fun k hk => ?_)
        rcases Nat.lt_or_ge k i with g | g
        · exact hp k g
        · rw [show k = i by omega]; exact q'
  exact key m 0 n (by omega) hn (fun k hk => absurd hk (Nat.not_lt_zero k))
def pa (P : List PR) (i : Nat) : Nat := (P.getD i (0, 0)).1
def pb (P : List PR) (i : Nat) : Nat := (P.getD i (0, 0)).2
theorem pr_get {P : List PR} {i : Nat} (h : i < P.length) : P[i]? = some (pa P i, pb P i) := by
  obtain ⟨p, hp⟩ := pr_some h
  have : P.getD i (0, 0) = p := by rw [List.getD_eq_getElem?_getD, hp]; rfl
  unfold pa pb
  rw [hp, this]
theorem XP.fn {P : List PR} {px : Nat → Int32} (h : XP P px) {i : Nat} (hi : i < P.length) : px i = nI (2 ^ pa P i ||| 2 ^ pb P i) := h i _ (pr_get hi)
theorem MP.fn {P : List PR} {rd : Nat → Int32} (h : MP P rd) {i : Nat} (hi : i < P.length) : rd (2 * i) = nI (pa P i) ∧ rd (2 * i + 1) = nI (pb P i) := h i _ (pr_get hi)
theorem BP.fn {P : List PR} (h : BP P) {i : Nat} (hi : i < P.length) : pa P i ≤ 13 ∧ pb P i ≤ 13 := h _ (List.mem_of_getElem? (pr_get hi))
/-- a knot tied to itself -/
def loopP (P : List PR) (i : Nat) : Bool := pa P i == pb P i
theorem pop_p2 {a : Nat} (h : a < 14) : pop 24 (2 ^ a ||| 2 ^ a) = 1 := by
  have key : ∀ a, a < 14 → pop 24 (2 ^ a ||| 2 ^ a) = 1 := by decide +kernel
  exact key a h
theorem pop_2 {a b : Nat} (h : a < 14) (h2 : b < 14) (hab : a ≠ b) : pop 24 (2 ^ a ||| 2 ^ b) = 2 := by
  have key : ∀ a, a < 14 → ∀ b, b < 14 → a ≠ b → pop 24 (2 ^ a ||| 2 ^ b) = 2 := by decide +kernel
  exact key a h b h2 hab
theorem x_ties {N : Nat} {P : List PR} {px : Nat → Int32} (hN : 1000 ≤ N) (hX : XP P px) (hB : BP P) (hm : P.length ≤ 15) : m_X4_tiesAKnotToItself N px (nI P.length) = some (if an (loopP P) P.length then 1 else 0) := by
  have st : ∀ n i, i < P.length → m_X4_tiesAKnotToItself_L2 N px (nI P.length) (n + 1) (nI i) = if loopP P i then some 1 else m_X4_tiesAKnotToItself_L2 N px (nI P.length) n (nI (i + 1)) := by
    intro n i hi
    obtain ⟨ha, hb⟩ := hB.fn hi
    have l : 2 ^ pa P i ||| 2 ^ pb P i < 2 ^ 24 := or_lt (p2lt (by omega)) (p2lt (by omega))
    rw [m_X4_tiesAKnotToItself_L2, if_neg (nI_ge hi (by omega)), x_at (by omega) (by decide), r_bind, hX.fn hi, m_bitCount l, r_bind, nI_1]
    unfold loopP
    by_cases q : pa P i = pb P i
    · rw [q, pop_p2 (by omega), if_pos (show nI 1 = 1 from rfl), if_pos (by simp)]
    · rw [pop_2 (by omega) (by omega) q, if_neg (show ¬ nI 2 = 1 by decide), if_neg (by simpa using q)]
  have := for_find (fun n i => m_X4_tiesAKnotToItself_L2 N px (nI P.length) n (nI i)) (loopP P) P.length (some 1) (some 0) (fun n => by
    show m_X4_tiesAKnotToItself_L2 N px (nI P.length) (n + 1) (nI P.length) = _
    rw [m_X4_tiesAKnotToItself_L2, if_pos (nI_le (Nat.le_refl _) (by omega))]) (fun n i hi hp => by
    show m_X4_tiesAKnotToItself_L2 N px (nI P.length) (n + 1) (nI i) = _
    rw [st n i hi, if_pos hp]) (fun n i hi hp => by
    show m_X4_tiesAKnotToItself_L2 N px (nI P.length) (n + 1) (nI i) = m_X4_tiesAKnotToItself_L2 N px (nI P.length) n (nI (i + 1))
    rw [st n i hi, hp]
    rfl) N (by omega)
  unfold m_X4_tiesAKnotToItself
  refine Eq.trans this ?_
  cases an (loopP P) P.length <;> rfl
def bI (b : Bool) : Int32 := if b then 1 else 0
theorem zbb {β : Type} (b : Bool) {k : Option β} : zb (bI b) k = k := zb01 b
theorem m_isLoop {N : Nat} {P : List PR} {rd : Nat → Int32} (hN : 1000 ≤ N) (hM : MP P rd) (hB : BP P) (hm : P.length ≤ 15) : m_X7_isLoop N (nI (2 * P.length)) rd = some (bI (an (loopP P) P.length)) := by
  unfold m_X7_isLoop
  refine for_up (fun n i (acc : Int32) => m_X7_isLoop_L4 N (nI (2 * P.length)) rd n (nI (2 * i)) acc) P.length (fun i => bI (an (loopP P) i)) _ ?_ ?_ P.length N 0 (by omega) (by omega)
  · intro n
    show m_X7_isLoop_L4 N (nI (2 * P.length)) rd (n + 1) (nI (2 * P.length)) (bI (an (loopP P) P.length)) = _
    rw [m_X7_isLoop_L4, if_pos (nI_le (Nat.le_refl _) (by omega)), zbb]
  · intro n i hi
    obtain ⟨ha, hb⟩ := hB.fn hi
    obtain ⟨r1, r2⟩ := hM.fn hi
    show m_X7_isLoop_L4 N (nI (2 * P.length)) rd (n + 1) (nI (2 * i)) (bI (an (loopP P) i)) = m_X7_isLoop_L4 N (nI (2 * P.length)) rd n (nI (2 * (i + 1))) (bI (an (loopP P) i || loopP P i))
    have e2 : nI (2 * i) + (2 : Int32) = nI (2 * (i + 1)) := nI_add (2 * i) 2
    rw [m_X7_isLoop_L4, if_neg (nI_ge (by omega) (by omega)), e2, nI_1, r_ard (by omega) (by omega), r_ard (by omega) (by omega), r1, r2]
    cases an (loopP P) i with
    | true => rw [if_neg (show ¬ bI true = 0 by decide)]; rfl
    | false =>
      rw [if_pos (show bI false = 0 from rfl)]
      unfold loopP
      by_cases q : pa P i = pb P i
      · rw [if_pos (by rw [q]), q]; simp [bI]
      · rw [if_neg (fun g => q ((nI_eq (by omega) (by omega)).mp g))]
        have : (pa P i == pb P i) = false := by simpa using q
        rw [this]
        rfl
/-- two threads between the same knots -/
def sameP (P : List PR) (k j : Nat) : Bool := (pa P k == pa P j && pb P k == pb P j) || (pa P k == pb P j && pb P k == pa P j)
def twiceP (P : List PR) (k : Nat) : Bool := an (sameP P k) k
theorem ite4 {α : Type} {A B C D : Prop} [Decidable A] [Decidable B] [Decidable C] [Decidable D] (x y : α) : (if A then (if B then x else if C then (if D then x else y) else y) else if C then (if D then x else y) else y) = if (A ∧ B) ∨ (C ∧ D) then x else y := by
  by_cases a : A <;> by_cases b : B <;> by_cases c : C <;> by_cases d : D <;> simp [a, b, c, d]
theorem m_twice1 {N k : Nat} {P : List PR} {rd : Nat → Int32} {J : Int32 → Option Int32} {c : Bool} (hN : 1000 ≤ N) (hM : MP P rd) (hB : BP P) (hm : P.length ≤ 15) (hk : k < P.length) : m_X7_isTwice_L14 N rd (nI (2 * k)) J N 0 (bI c) = J (bI (c || twiceP P k)) := by
  have e0 : bI c = bI (c || an (sameP P k) 0) := by simp [an]
  rw [e0]
  refine for_up (fun n j (acc : Int32) => m_X7_isTwice_L14 N rd (nI (2 * k)) J n (nI (2 * j)) acc) k (fun j => bI (c || an (sameP P k) j)) _ ?_ ?_ k N 0 (by omega) (by omega)
  · intro n
    show m_X7_isTwice_L14 N rd (nI (2 * k)) J (n + 1) (nI (2 * k)) (bI (c || an (sameP P k) k)) = _
    rw [m_X7_isTwice_L14, if_pos (nI_le (Nat.le_refl _) (by omega))]
    rfl
  · intro n j hj
    obtain ⟨ha, hb⟩ := hB.fn hk
    obtain ⟨ha2, hb2⟩ := hB.fn (i := j) (by omega)
    obtain ⟨r1, r2⟩ := hM.fn hk
    obtain ⟨r3, r4⟩ := hM.fn (i := j) (by omega)
    show m_X7_isTwice_L14 N rd (nI (2 * k)) J (n + 1) (nI (2 * j)) (bI (c || an (sameP P k) j)) = m_X7_isTwice_L14 N rd (nI (2 * k)) J n (nI (2 * (j + 1))) (bI (c || (an (sameP P k) j || sameP P k j)))
    have e2 : nI (2 * j) + (2 : Int32) = nI (2 * (j + 1)) := nI_add (2 * j) 2
    rw [← Bool.or_assoc, m_X7_isTwice_L14, if_neg (nI_ge (by omega) (by omega)), e2]
    cases c || an (sameP P k) j with
    | true => rw [if_neg (show ¬ bI true = 0 by decide)]; rfl
    | false =>
      rw [if_pos (show bI false = 0 from rfl)]
      simp only [jn]
      rw [nI_1, nI_1]
      have a1 : ∀ {β : Type} {K : Int32 → Option β}, ard rd 32 (nI (2 * k)) K = K (nI (pa P k)) := fun {β K} => by rw [r_ard (by omega) (by omega), r1]
      have a2 : ∀ {β : Type} {K : Int32 → Option β}, ard rd 32 (nI (2 * k + 1)) K = K (nI (pb P k)) := fun {β K} => by rw [r_ard (by omega) (by omega), r2]
      have a3 : ∀ {β : Type} {K : Int32 → Option β}, ard rd 32 (nI (2 * j)) K = K (nI (pa P j)) := fun {β K} => by rw [r_ard (by omega) (by omega), r3]
      have a4 : ∀ {β : Type} {K : Int32 → Option β}, ard rd 32 (nI (2 * j + 1)) K = K (nI (pb P j)) := fun {β K} => by rw [r_ard (by omega) (by omega), r4]
      simp only [a1, a2, a3, a4]
      have c1 : nI (pa P k) = nI (pa P j) ↔ pa P k = pa P j := nI_eq (by omega) (by omega)
      have c2 : nI (pb P k) = nI (pb P j) ↔ pb P k = pb P j := nI_eq (by omega) (by omega)
      have c3 : nI (pa P k) = nI (pb P j) ↔ pa P k = pb P j := nI_eq (by omega) (by omega)
      have c4 : nI (pb P k) = nI (pa P j) ↔ pb P k = pa P j := nI_eq (by omega) (by omega)
      simp only [c1, c2, c3, c4]
      rw [ite4]
      by_cases q : (pa P k = pa P j ∧ pb P k = pb P j) ∨ (pa P k = pb P j ∧ pb P k = pa P j)
      · rw [if_pos q]
        have : sameP P k j = true := by
          unfold sameP
          simpa using q
        rw [this]
        rfl
      · rw [if_neg q]
        have : sameP P k j = false := by
          cases w : sameP P k j with
          | false => rfl
          | true =>
            unfold sameP at w
            exact absurd (by simpa using w) q
        rw [this]
        rfl
theorem m_isTwice {N : Nat} {P : List PR} {rd : Nat → Int32} (hN : 1000 ≤ N) (hM : MP P rd) (hB : BP P) (hm : P.length ≤ 15) : m_X7_isTwice N (nI (2 * P.length)) rd = some (bI (an (twiceP P) P.length)) := by
  unfold m_X7_isTwice
  refine for_up (fun n i (acc : Int32) => m_X7_isTwice_L4 N (nI (2 * P.length)) rd n (nI (2 * i)) acc) P.length (fun i => bI (an (twiceP P) i)) _ ?_ ?_ P.length N 0 (by omega) (by omega)
  · intro n
    show m_X7_isTwice_L4 N (nI (2 * P.length)) rd (n + 1) (nI (2 * P.length)) (bI (an (twiceP P) P.length)) = _
    rw [m_X7_isTwice_L4, if_pos (nI_le (Nat.le_refl _) (by omega)), zbb]
  · intro n i hi
    show m_X7_isTwice_L4 N (nI (2 * P.length)) rd (n + 1) (nI (2 * i)) (bI (an (twiceP P) i)) = m_X7_isTwice_L4 N (nI (2 * P.length)) rd n (nI (2 * (i + 1))) (bI (an (twiceP P) i || twiceP P i))
    have e2 : nI (2 * i) + (2 : Int32) = nI (2 * (i + 1)) := nI_add (2 * i) 2
    rw [m_X7_isTwice_L4, if_neg (nI_ge (by omega) (by omega)), e2]
    simp only [jn]
    rw [m_twice1 hN hM hB hm hi]
/-- how often a knot is read -/
def readP (P : List PR) (c k : Nat) : Bool := (if k % 2 = 0 then pa P (k / 2) else pb P (k / 2)) == c
def atP (P : List PR) (c i : Nat) : Bool := pa P i == c || pb P i == c
theorem ct_read {P : List PR} {c : Nat} : ∀ m, (∀ i, i < m → loopP P i = false) → ct (readP P c) (2 * m) = ct (atP P c) m
  | 0, _ => rfl
  | m + 1, h => by
    have ih := ct_read (P := P) (c := c) m (fun i hi => h i (by omega))
    have l := h m (by omega)
    rw [show 2 * (m + 1) = 2 * m + 1 + 1 by omega, ct_s, ct_s, ct_s, ih]
    unfold readP atP
    unfold loopP at l
    have e1 : 2 * m % 2 = 0 := by omega
    have e2 : ¬ (2 * m + 1) % 2 = 0 := by omega
    rw [if_pos e1, if_neg e2, show 2 * m / 2 = m by omega, show (2 * m + 1) / 2 = m by omega]
    have l' : pa P m ≠ pb P m := by simpa using l
    by_cases q1 : pa P m = c <;> by_cases q2 : pb P m = c
    · omega
    · simp [q1, q2]
    · simp [q1, q2]
    · simp [q1, q2]
theorem m_timesRead {N c : Nat} {P : List PR} {rd : Nat → Int32} (hN : 1000 ≤ N) (hM : MP P rd) (hB : BP P) (hm : P.length ≤ 15) (hc : c < 14) : m_X7_timesRead N (nI (2 * P.length)) rd (nI c) = some (nI (ct (readP P c) (2 * P.length))) := by
  unfold m_X7_timesRead
  refine for_up (fun n i (acc : Int32) => m_X7_timesRead_L4 N (nI (2 * P.length)) rd (nI c) n (nI i) acc) (2 * P.length) (fun i => nI (ct (readP P c) i)) _ ?_ ?_ (2 * P.length) N 0 (by omega) (by omega)
  · intro n
    show m_X7_timesRead_L4 N (nI (2 * P.length)) rd (nI c) (n + 1) (nI (2 * P.length)) (nI (ct (readP P c) (2 * P.length))) = _
    rw [m_X7_timesRead_L4, if_pos (nI_le (Nat.le_refl _) (by omega))]
  · intro n i hi
    show m_X7_timesRead_L4 N (nI (2 * P.length)) rd (nI c) (n + 1) (nI i) (nI (ct (readP P c) i)) = m_X7_timesRead_L4 N (nI (2 * P.length)) rd (nI c) n (nI (i + 1)) (nI (ct (readP P c) i + (if readP P c i then 1 else 0)))
    have val : rd i = nI (if i % 2 = 0 then pa P (i / 2) else pb P (i / 2)) := by
      obtain ⟨r1, r2⟩ := hM.fn (i := i / 2) (by omega)
      by_cases q : i % 2 = 0
      · rw [if_pos q, ← r1, show 2 * (i / 2) = i by omega]
      · rw [if_neg q, ← r2, show 2 * (i / 2) + 1 = i by omega]
    obtain ⟨ha, hb⟩ := hB.fn (i := i / 2) (by omega)
    have lt : (if i % 2 = 0 then pa P (i / 2) else pb P (i / 2)) < 2 ^ 31 := by split <;> omega
    rw [m_X7_timesRead_L4, if_neg (nI_ge hi (by omega)), r_ard (by omega) (by omega), val, nI_1, nI_1]
    simp only [nm]
    unfold readP
    by_cases q : (if i % 2 = 0 then pa P (i / 2) else pb P (i / 2)) = c
    · rw [if_pos (by rw [q]), if_pos (by simpa using q)]
    · rw [if_neg (fun g => q ((nI_eq lt (by omega)).mp g)), if_neg (by simpa using q), show (nI (ct (fun k => (if k % 2 = 0 then pa P (k / 2) else pb P (k / 2)) == c) i) : Int32) + 0 = nI (ct (fun k => (if k % 2 = 0 then pa P (k / 2) else pb P (k / 2)) == c) i) from nI_add _ 0]
      rfl
def muchP (P : List PR) (c : Nat) : Bool := decide (3 < ct (readP P c) (2 * P.length))
theorem m_isTooMuch {N : Nat} {P : List PR} {rd : Nat → Int32} (hN : 1000 ≤ N) (hM : MP P rd) (hB : BP P) (hm : P.length ≤ 15) : m_X7_isTooMuch N (nI (2 * P.length)) rd = some (bI (an (muchP P) 14)) := by
  unfold m_X7_isTooMuch
  refine for_up (fun n i (acc : Int32) => m_X7_isTooMuch_L4 N (nI (2 * P.length)) rd n (nI i) acc) 14 (fun i => bI (an (muchP P) i)) _ ?_ ?_ 14 N 0 (by omega) (by omega)
  · intro n
    show m_X7_isTooMuch_L4 N (nI (2 * P.length)) rd (n + 1) (nI 14) (bI (an (muchP P) 14)) = _
    rw [m_X7_isTooMuch_L4, if_pos (show (14 : Int32) ≤ nI 14 from nI_le (a := 14) (b := 14) (Nat.le_refl _) (by omega)), zbb]
  · intro n i hi
    show m_X7_isTooMuch_L4 N (nI (2 * P.length)) rd (n + 1) (nI i) (bI (an (muchP P) i)) = m_X7_isTooMuch_L4 N (nI (2 * P.length)) rd n (nI (i + 1)) (bI (an (muchP P) i || muchP P i))
    have l : ct (readP P i) (2 * P.length) < 2 ^ 31 := by have := ct_le (readP P i) (2 * P.length); omega
    rw [m_X7_isTooMuch_L4, if_neg (show ¬ (14 : Int32) ≤ nI i from nI_ge (a := i) (b := 14) hi (by omega)), nI_1, m_timesRead hN hM hB hm hi, r_bind]
    cases an (muchP P) i with
    | true => rw [if_neg (show ¬ bI true = 0 by decide)]; rfl
    | false =>
      rw [if_pos (show bI false = 0 from rfl)]
      unfold muchP
      by_cases q : ct (readP P i) (2 * P.length) ≤ 3
      · rw [if_pos (show nI (ct (readP P i) (2 * P.length)) ≤ 3 from nI_le (b := 3) q (by decide))]
        have : decide (3 < ct (readP P i) (2 * P.length)) = false := by simp; omega
        rw [this]
        rfl
      · rw [if_neg (show ¬ nI (ct (readP P i) (2 * P.length)) ≤ 3 from nI_ge (a := 3) (by omega) l)]
        have : decide (3 < ct (readP P i) (2 * P.length)) = true := by simp; omega
        rw [this]
        rfl
end
-- 73.tieInto.lean.txt
section
/-! pure: threads that are tied one by one -/
def tieOK (L : List TH) (a b : Nat) : Bool := !an (fun t => joins (fl L) (fh L) t a b) L.length && decide (L.countP (atk a) < 3) && decide (L.countP (atk b) < 3)
theorem x_mayTie {N K a b : Nat} {L : List TH} {e c : Nat → Int32} (hN : 1000 ≤ N) (hW : WL K L) (hX : XL L e c) (hab : a < b) (hb : b < 14) : m_X2_mayTie N (nI L.length) e (nI (2 ^ a + 2 ^ b)) = some (if tieOK L a b then 1 else 0) := by
  obtain ⟨hE, -⟩ := XL_iff.mp hX
  have hw := hW.wt
  have l21 := hW.len21
  have p0 := Nat.two_pow_pos a
  have p00 := Nat.two_pow_pos b
  have lt : 2 ^ a + 2 ^ b < 2 ^ 14 := by
    have h1 := p2lt hab
    have h2 := p2le (show b + 1 ≤ 14 by omega)
    rw [Nat.pow_succ] at h2
    omega
  have ej : ∀ i, i < L.length → (em (fl L) (fh L) i = 2 ^ a + 2 ^ b ↔ joins (fl L) (fh L) i a b = true) := fun i hi => by
    rw [← or_bit (p2lt hab)]
    exact em_joins (hw.2 i hi).1 (by omega)
  unfold m_X2_mayTie tieOK
  rcases first_of (fun t => joins (fl L) (fh L) t a b) L.length with ⟨i, h1, h2, h3⟩ | h
  · rw [x_find hN hw hE (R := nI i) (by omega) (Or.inl ⟨i, h1, (ej i h1).mpr h2, fun j hj g => by
      have := (ej j (by omega)).mp g
      have := h3 j hj
      simp_all, rfl⟩), r_bind, if_neg (nI_pos (by omega))]
    have : an (fun t => joins (fl L) (fh L) t a b) L.length = true := (an_iff _ _).mpr ⟨i, h1, h2⟩
    rw [this]
    rfl
  · have e0 : an (fun t => joins (fl L) (fh L) t a b) L.length = false := by
      cases q : an (fun t => joins (fl L) (fh L) t a b) L.length with
      | false => rfl
      | true =>
        obtain ⟨i, h1, h2⟩ := (an_iff _ _).mp q
        have := h i h1
        simp_all
    rw [x_find hN hw hE (R := -1) (by omega) (Or.inr ⟨fun i hi g => by
      have := (ej i hi).mp g
      have := h i hi
      simp_all, rfl⟩), r_bind, if_pos (show (-1 : Int32) < 0 by decide), m_ntz (by omega) (by omega), r_bind, m_nlz (by omega) (by omega), r_bind, lb2 hab (by omega), lg2 hab]
    simp only [nm]
    rw [show (31 : Int32) = nI 31 from rfl, pk_sub (by omega), show 31 - (31 - b) = b by omega, x_isFullKnot hN hw hE (by omega), r_bind, x_isFullKnot hN hw hE (by omega), deg_L, deg_L, e0]
    by_cases q1 : L.countP (atk a) < 3
    · rw [if_neg (show ¬ 3 ≤ L.countP (atk a) by omega), if_pos rfl, r_bind]
      by_cases q2 : L.countP (atk b) < 3
      · rw [if_neg (show ¬ 3 ≤ L.countP (atk b) by omega), if_pos rfl]
        simp [q1, q2]
      · rw [if_pos (show 3 ≤ L.countP (atk b) by omega), if_neg n10]
        simp [q2]
    · rw [if_pos (show 3 ≤ L.countP (atk a) by omega), if_neg n10]
      simp [q1]
theorem tie_WL {K a b : Nat} {L : List TH} (hW : WL K L) (hab : a < b) (hb : b < K) : tieOK L a b = true ↔ WL K (L ++ [(a, b, 3)]) := by
  have hj : ∀ x ∈ L, apart x (a, b, 3) ↔ ¬ (x.1 = a ∧ x.2.1 = b) := fun x _ => Iff.rfl
  unfold tieOK
  rw [Bool.and_eq_true, Bool.and_eq_true, decide_eq_true_iff, decide_eq_true_iff]
  constructor
  · rintro ⟨⟨h1, h2⟩, h3⟩
    refine hW.app (Nat.le_refl _) hW.1 ⟨hab, hb, Nat.le_refl _⟩ (fun x hx g => ?_) (fun k hk => ?_)
    · obtain ⟨i, hi⟩ := List.mem_iff_getElem?.mp hx
      have : an (fun t => joins (fl L) (fh L) t a b) L.length = true := (an_iff _ _).mpr ⟨i, lt_of hi, by
        unfold joins fl fh
        rw [getD_some hi]
        have g1 : x.1 = a := g.1
        have g2 : x.2.1 = b := g.2
        simp [g1, g2]⟩
      rw [this] at h1
      cases h1
    · unfold atk at hk
      simp at hk
      rcases hk with g | g
      · rw [← g]; omega
      · rw [← g]; omega
  · intro h
    have cnt := h.2.2.2
    refine ⟨⟨?_, ?_⟩, ?_⟩
    · have e0 : an (fun t => joins (fl L) (fh L) t a b) L.length = false := by
        cases q : an (fun t => joins (fl L) (fh L) t a b) L.length with
        | false => rfl
        | true =>
          obtain ⟨i, h1, h2⟩ := (an_iff _ _).mp q
          obtain ⟨x, hx⟩ := some_of h1
          have hm := List.mem_of_getElem? hx
          have ho := hW.2.1 x hm
          unfold joins fl fh at h2
          rw [getD_some hx] at h2
          simp at h2
          have pw := (List.pairwise_append.mp h.2.2.1).2.2 x hm (a, b, 3) (by simp)
          have := ho.1
          exact absurd (show x.1 = a ∧ x.2.1 = b by omega) pw
      rw [e0]
      rfl
    · have := cnt a
      rw [cnt_app, if_pos (by unfold atk; simp)] at this
      omega
    · have := cnt b
      rw [cnt_app, if_pos (by unfold atk; simp)] at this
      omega
/-- the threads of the pairs -/
def prT (p : PR) : TH := (min p.1 p.2, max p.1 p.2, 3)
def nl (P : List PR) : List TH := P.map prT
theorem nl_app (P : List PR) (p : PR) : nl (P ++ [p]) = nl P ++ [prT p] := by unfold nl; simp
theorem nl_len (P : List PR) : (nl P).length = P.length := by unfold nl; simp
theorem WL.front {K : Nat} {L M : List TH} (h : WL K (L ++ M)) : WL K L := h.sub (List.sublist_append_left L M)
theorem prT_lt {p : PR} (h : p.1 ≠ p.2) : (prT p).1 < (prT p).2.1 := by
  show min p.1 p.2 < max p.1 p.2
  omega
theorem prT_or {p : PR} (h : p.1 ≠ p.2) : 2 ^ p.1 ||| 2 ^ p.2 = 2 ^ (prT p).1 + 2 ^ (prT p).2.1 := by
  show _ = 2 ^ min p.1 p.2 + 2 ^ max p.1 p.2
  rcases Nat.lt_or_ge p.1 p.2 with g | g
  · rw [Nat.min_eq_left (by omega), Nat.max_eq_right (by omega), or_bit (p2lt g)]
  · rw [Nat.min_eq_right (by omega), Nat.max_eq_left (by omega), Nat.or_comm, or_bit (p2lt (by omega))]
/-- the knots of the pairs: one more than the greatest -/
def topP : List PR → Nat
  | [] => 0
  | p :: P => max (max p.1 p.2 + 1) (topP P)
theorem topP_app (P : List PR) (p : PR) : topP (P ++ [p]) = max (topP P) (max p.1 p.2 + 1) := by
  induction P with
  | nil => show max (max p.1 p.2 + 1) 0 = max 0 _; omega
  | cons q P ih => show max (max q.1 q.2 + 1) (topP (P ++ [p])) = max (max (max q.1 q.2 + 1) (topP P)) _; rw [ih]; omega
theorem topP_le {P : List PR} (hB : BP P) : topP P ≤ 14 := by
  induction P with
  | nil => exact Nat.zero_le _
  | cons q P ih =>
    have a := hB q List.mem_cons_self
    have b := ih (fun p hp => hB p (List.mem_cons_of_mem _ hp))
    show max (max q.1 q.2 + 1) (topP P) ≤ 14
    omega
/-- a set whose greatest element is known -/
def tops (u K : Nat) : Prop := u < 2 ^ K ∧ (0 < K → 2 ^ (K - 1) ≤ u)
theorem tops_or {u K v M : Nat} (h : tops u K) (h2 : tops v M) : tops (u ||| v) (max K M) := by
  refine ⟨or_lt (Nat.lt_of_lt_of_le h.1 (p2le (by omega))) (Nat.lt_of_lt_of_le h2.1 (p2le (by omega))), fun h0 => ?_⟩
  rcases Nat.le_total K M with g | g
  · rw [Nat.max_eq_right g] at h0 ⊢
    exact Nat.le_trans (h2.2 h0) (Nat.right_le_or)
  · rw [Nat.max_eq_left g] at h0 ⊢
    exact Nat.le_trans (h.2 h0) (Nat.left_le_or)
theorem tops_p {p : PR} (h : p.1 ≠ p.2) : tops (2 ^ p.1 ||| 2 ^ p.2) (max p.1 p.2 + 1) := by
  have l := prT_lt h
  rw [prT_or h]
  have a := p2lt l
  have a0 := Nat.two_pow_pos (prT p).1
  show tops (2 ^ (prT p).1 + 2 ^ (prT p).2.1) ((prT p).2.1 + 1)
  refine ⟨by rw [Nat.pow_succ]; omega, fun _ => by rw [Nat.add_sub_cancel]; omega⟩
theorem tops_log {u K : Nat} (h : tops u K) (h0 : 0 < K) : Nat.log2 u = K - 1 ∧ 0 < u := by
  have b := h.2 h0
  have p := Nat.two_pow_pos (K - 1)
  have u0 : u ≠ 0 := by omega
  have l1 : K - 1 ≤ Nat.log2 u := (Nat.le_log2 u0).mpr b
  have l2 : Nat.log2 u < K := (Nat.log2_lt u0).mpr h.1
  omega
theorem x_addKn {N K d : Nat} (hK : K + d ≤ 14) : m_X2_addKnots N (nI K) (nI d) = some (nI (K + d)) := by
  unfold m_X2_addKnots mni
  simp only [nm]
  rw [nI_add, if_neg (show ¬ (14 : Int32) < nI (K + d) from nI_nlt (b := K + d) (a := 14) (by omega) (by omega))]
abbrev R5 : Type := Option (Int32 × Int32 × Int32 × (Nat → Int32) × (Nat → Int32))
theorem x_tieLoop {N : Nat} {P : List PR} {px : Nat → Int32} {k0 : Int32} {J : Int32 → Int32 → (Nat → Int32) → (Nat → Int32) → R5} (hN : 1000 ≤ N) (hX : XP P px) (hB : BP P) (hL : ∀ p ∈ P, p.1 ≠ p.2) (hm : P.length ≤ 15) : ∀ (R A : List PR), A ++ R = P → ∀ (u f : Nat) (e c : Nat → Int32), WL 14 (nl A) → XL (nl A) e c → tops u (topP A) → R.length < f →
    (WL 14 (nl P) ∧ ∃ u' e' c', m_X4_tieInto_L8 N px (nI P.length) k0 J f (nI A.length) (nI u) (nI A.length) e c = J (nI u') (nI P.length) e' c' ∧ XL (nl P) e' c' ∧ tops u' (topP P)) ∨ (¬ WL 14 (nl P) ∧ ∃ t' e' c', m_X4_tieInto_L8 N px (nI P.length) k0 J f (nI A.length) (nI u) (nI A.length) e c = some (0, k0, t', e', c')) := by
  intro R
  induction R with
  | nil =>
    intro A hA u f e c hW hXL hu hf
    obtain ⟨f, rfl⟩ : ∃ m, f = m + 1 := ⟨f - 1, by omega⟩
    rw [List.append_nil] at hA
    subst hA
    left
    exact ⟨hW, u, e, c, by rw [m_X4_tieInto_L8, if_pos (nI_le (Nat.le_refl _) (by omega))], hXL, hu⟩
  | cons p R ih =>
    intro A hA u f e c hW hXL hu hf
    obtain ⟨f, rfl⟩ : ∃ m, f = m + 1 := ⟨f - 1, by omega⟩
    have hp : P[A.length]? = some p := by
      rw [← hA, List.getElem?_append_right (Nat.le_refl _), Nat.sub_self]
      rfl
    have hlt := pr_lt hp
    have hmem := List.mem_of_getElem? hp
    have hne := hL p hmem
    have hb := hB p hmem
    have l := prT_lt hne
    have l14 : (prT p).2.1 < 14 := by
      show max p.1 p.2 < 14
      omega
    have at1 : m_X6_at N 21 px (nI A.length) = some (nI (2 ^ (prT p).1 + 2 ^ (prT p).2.1)) := by
      rw [x_at (by omega) (by decide), hX _ _ hp, prT_or hne]
    have hA' : (A ++ [p]) ++ R = P := by rw [List.append_assoc]; exact hA
    have may := x_mayTie hN hW hXL l l14
    rw [nl_len] at may
    have eP : nl P = nl (A ++ [p]) ++ nl R := by rw [← hA']; unfold nl; simp
    rw [m_X4_tieInto_L8, if_neg (nI_ge hlt (by omega)), at1, r_bind, may, r_bind]
    by_cases q : tieOK (nl A) (prT p).1 (prT p).2.1 = true
    · rw [if_pos q, if_neg n10, r_bind]
      obtain ⟨e', c', h1, h2⟩ := x_tie (N := N) (L := nl A) (e := e) (c := c) (by rw [nl_len]; omega) hXL (a := (prT p).1) (b := (prT p).2.1) rfl
      have ep : ((prT p).1, (prT p).2.1, 3) = prT p := rfl
      rw [nl_len, ep, ← nl_app, nl_len] at h1
      rw [ep, ← nl_app] at h2
      rw [h1, r_bind]
      have W' : WL 14 (nl (A ++ [p])) := by
        rw [nl_app]
        exact (tie_WL hW l l14).mp q
      have T' : tops (u ||| (2 ^ (prT p).1 + 2 ^ (prT p).2.1)) (topP (A ++ [p])) := by
        rw [topP_app, ← prT_or hne]
        exact tops_or hu (tops_p hne)
      have := ih (A ++ [p]) hA' (u ||| (2 ^ (prT p).1 + 2 ^ (prT p).2.1)) f e' c' W' h2 T' (by simp at hf; omega)
      have len : (A ++ [p]).length = A.length + 1 := by simp
      rw [len] at this
      simp only [nm]
      rw [r_bind, nI_1, nor, len]
      exact this
    · right
      refine ⟨fun hWP => q ((tie_WL hW l l14).mpr ?_), nI A.length, e, c, ?_⟩
      · have := hWP
        rw [eP, nl_app] at this
        exact this.front
      · rw [if_neg q, if_pos rfl]
theorem x_tieInto {N : Nat} {P : List PR} {px e c : Nat → Int32} {k0 t0 : Int32} (hN : 1000 ≤ N) (hX : XP P px) (hB : BP P) (hL : ∀ p ∈ P, p.1 ≠ p.2) (hm : P.length ≤ 15) (h0 : P ≠ []) :
    (WL 14 (nl P) ∧ ∃ e' c', m_X4_tieInto N px (nI P.length) k0 t0 e c = some (1, nI (topP P), nI P.length, e', c') ∧ XL (nl P) e' c') ∨ (¬ WL 14 (nl P) ∧ ∃ k' t' e' c', m_X4_tieInto N px (nI P.length) k0 t0 e c = some (0, k', t', e', c')) := by
  have t1 : 0 < topP P := by
    cases P with
    | nil => exact absurd rfl h0
    | cons p P => show 0 < max _ _; omega
  have t2 := topP_le hB
  have W0 : WL 14 (nl []) := ⟨Nat.le_refl _, fun x hx => (by cases hx), List.Pairwise.nil, fun k => Nat.zero_le _⟩
  have := x_tieLoop (N := N) (k0 := nI 0) (J := fun x2 t e c => Option.bind (m_J6_numberOfLeadingZeros_0f7a4 N x2) (fun r_8 => Option.bind (m_X2_addKnots N (nI 0) (32 - r_8)) (fun k => some (1, k, t, e, c)))) hN hX hB hL hm P [] rfl 0 N e c W0 (fun i x hx => by simp [nl] at hx) ⟨by decide, fun h => absurd h (by decide)⟩ (by omega)
  rcases this with ⟨hW, u', e', c', h1, h2, h3⟩ | ⟨hW, t', e', c', h1⟩
  · left
    refine ⟨hW, e', c', Eq.trans h1 ?_, h2⟩
    obtain ⟨l1, l2⟩ := tops_log h3 t1
    have l3 : u' < 16384 := Nat.lt_of_lt_of_le h3.1 (p2le (b := 14) t2)
    rw [m_nlz l3 l2, r_bind, l1, show (32 : Int32) = nI 32 from rfl, pk_sub (by omega), show 32 - (31 - (topP P - 1)) = topP P by omega, x_addKn (by omega), r_bind, Nat.zero_add]
  · right
    exact ⟨hW, _, t', e', c', h1⟩
end
-- 74.readNet.lean.txt
section
/-! pure: the net that is read -/
theorem nl_get {P : List PR} {i : Nat} (h : i < P.length) : (nl P)[i]? = some (prT (pa P i, pb P i)) := by
  unfold nl
  rw [List.getElem?_map, pr_get h]
  rfl
theorem cnt_nl {P : List PR} (hL : ∀ i, i < P.length → loopP P i = false) (c : Nat) : (nl P).countP (atk c) = ct (readP P c) (2 * P.length) := by
  rw [ct_read P.length hL]
  have := ct_take (L := nl P) (p := atk c) P.length (by rw [nl_len]; exact Nat.le_refl _)
  rw [show (nl P).take P.length = nl P by rw [← nl_len P, List.take_length]] at this
  rw [← this]
  refine ct_cong (fun i hi => ?_)
  rw [getD_some (nl_get hi)]
  unfold atk atP prT
  dsimp only
  rw [Bool.eq_iff_iff]
  simp
  omega
theorem no_loop {P : List PR} (hL : ∀ i, i < P.length → loopP P i = false) : ∀ p ∈ P, p.1 ≠ p.2 := by
  intro p hp
  obtain ⟨i, hi⟩ := List.mem_iff_getElem?.mp hp
  have h := hL i (pr_lt hi)
  have e := pr_get (pr_lt hi)
  rw [hi] at e
  have e := Option.some.inj e
  unfold loopP at h
  rw [e]
  simpa using h
theorem an_false {p : Nat → Bool} {n : Nat} : an p n = false ↔ ∀ i, i < n → p i = false := by
  constructor
  · intro h i hi
    cases q : p i with
    | false => rfl
    | true => rw [(an_iff p n).mpr ⟨i, hi, q⟩] at h; cases h
  · intro h
    cases q : an p n with
    | false => rfl
    | true =>
      obtain ⟨i, h1, h2⟩ := (an_iff p n).mp q
      rw [h i h1] at h2
      cases h2
theorem WL_nl {P : List PR} (hB : BP P) (hL : ∀ i, i < P.length → loopP P i = false) : WL 14 (nl P) ↔ an (twiceP P) P.length = false ∧ an (muchP P) 14 = false := by
  have hne := no_loop hL
  have ok : ∀ x ∈ nl P, okx 14 x := by
    intro x hx
    unfold nl at hx
    rw [List.mem_map] at hx
    obtain ⟨p, hp, rfl⟩ := hx
    have := hB p hp
    exact ⟨prT_lt (hne p hp), by show max p.1 p.2 < 14; omega, Nat.le_refl _⟩
  have pw : (nl P).Pairwise apart ↔ an (twiceP P) P.length = false := by
    rw [an_false]
    unfold nl
    rw [List.pairwise_map, List.pairwise_iff_getElem]
    have ge : ∀ i (hi : i < P.length), P[i] = (pa P i, pb P i) := fun i hi => by
      have := pr_get hi
      rw [List.getElem?_eq_getElem hi] at this
      exact Option.some.inj this
    have ap : ∀ a b c d : Nat, apart (prT (a, b)) (prT (c, d)) ↔ ¬ ((c = a ∧ d = b) ∨ (c = b ∧ d = a)) := by
      intro a b c d
      show ¬ (min a b = min c d ∧ max a b = max c d) ↔ _
      omega
    constructor
    · intro h k hk
      unfold twiceP
      rw [an_false]
      intro j hj
      have := h j k (by omega) hk hj
      rw [ge, ge, ap] at this
      unfold sameP
      simp
      omega
    · intro h j k hj hk hjk
      have t := h k hk
      unfold twiceP at t
      rw [an_false] at t
      have t := t j hjk
      unfold sameP at t
      simp at t
      rw [ge, ge, ap]
      omega
  have cn : (∀ k, (nl P).countP (atk k) ≤ 3) ↔ an (muchP P) 14 = false := by
    rw [an_false]
    constructor
    · intro h i _
      have := h i
      rw [cnt_nl hL] at this
      unfold muchP
      simp
      omega
    · intro h k
      rcases Nat.lt_or_ge k 14 with g | g
      · have := h k g
        unfold muchP at this
        rw [cnt_nl hL]
        simp at this
        omega
      · have : (nl P).countP (atk k) = 0 := List.countP_eq_zero.mpr (fun x hx hk => by
          have := ok x hx
          have a := this.1
          have b := this.2.1
          unfold atk at hk
          simp at hk
          omega)
        omega
  constructor
  · intro h
    exact ⟨pw.mp h.2.2.1, cn.mp h.2.2.2⟩
  · rintro ⟨h1, h2⟩
    exact ⟨Nat.le_refl _, ok, pw.mpr h1, cn.mpr h2⟩
theorem WL.top {P : List PR} (hW : WL 14 (nl P)) (hB : BP P) : WL (topP P) (nl P) := by
  refine ⟨topP_le hB, fun x hx => ?_, hW.2.2.1, hW.2.2.2⟩
  have ho := hW.2.1 x hx
  refine ⟨ho.1, ?_, ho.2.2⟩
  have key : ∀ Q : List PR, ∀ x ∈ nl Q, x.2.1 < topP Q := by
    intro Q
    induction Q with
    | nil => intro x hx; cases hx
    | cons q Q ih =>
      intro x hx
      have hx : x ∈ prT q :: nl Q := hx
      show x.2.1 < max (max q.1 q.2 + 1) (topP Q)
      rcases List.mem_cons.mp hx with g | g
      · rw [g]
        show max q.1 q.2 < _
        omega
      · have := ih x g
        omega
  exact key P x hx
abbrev R7 : Type := Option (Int32 × (Nat → Int32) × (Nat → Int32) × Int32 × Int32 × Int32 × (Nat → Int32))
theorem m_readLoop {N : Nat} {P : List PR} {rd past : Nat → Int32} {st at' : Int32} (hM : MP P rd) (hB : BP P) (hm : P.length ≤ 15) : ∀ (R A : List PR), A ++ R = P → ∀ (f : Nat) (s : Nat → Int32), ML (topP A) (nl A) s → R.length < f → ∃ s', m_X7_readNet_L62 N at' (nI (2 * P.length)) rd past st f (nI (2 * A.length)) s = some (nI (topP P), s', past, st, at', nI (2 * P.length), rd) ∧ ML (topP P) (nl P) s' := by
  intro R
  induction R with
  | nil =>
    intro A hA f s hS hf
    obtain ⟨f, rfl⟩ : ∃ m, f = m + 1 := ⟨f - 1, by omega⟩
    rw [List.append_nil] at hA
    subst hA
    refine ⟨s, ?_, hS⟩
    rw [m_X7_readNet_L62, if_pos (nI_le (Nat.le_refl _) (by omega)), r_0 (by decide), hS.1]
  | cons p R ih =>
    intro A hA f s hS hf
    obtain ⟨f, rfl⟩ : ∃ m, f = m + 1 := ⟨f - 1, by omega⟩
    have hp : P[A.length]? = some p := by
      rw [← hA, List.getElem?_append_right (Nat.le_refl _), Nat.sub_self]
      rfl
    have hlt := pr_lt hp
    have hb := hB p (List.mem_of_getElem? hp)
    obtain ⟨r1, r2⟩ := hM _ p hp
    have hA' : (A ++ [p]) ++ R = P := by rw [List.append_assoc]; exact hA
    have lenA := nl_len A
    have hBA : BP A := fun q hq => hB q (by rw [← hA]; exact List.mem_append_left _ hq)
    have tA := topP_le hBA
    obtain ⟨s1, h1, h2⟩ := m_adds (N := N) (a := p.1) (b := p.2) (by rw [lenA]; omega) hS (by omega) (by omega)
    have ep : nl A ++ [(min p.1 p.2, max p.1 p.2, 3)] = nl (A ++ [p]) := by rw [nl_app]; rfl
    rw [ep] at h2
    have len : (nl (A ++ [p])).length = A.length + 1 := by rw [nl_len]; simp
    have gx : (nl (A ++ [p]))[A.length]? = some (prT p) := by
      rw [nl_app, List.getElem?_append_right (by rw [lenA]; exact Nat.le_refl _), lenA, Nat.sub_self]
      rfl
    have e2 : nI (2 * A.length) + (2 : Int32) = nI (2 * (A.length + 1)) := nI_add (2 * A.length) 2
    have s11 : s1 1 = nI (A.length + 1) := by rw [h2.2.1, len]
    have s10 : s1 0 = nI (topP A) := h2.1
    have e3 : nI (A.length + 1) - 1 = nI A.length := nI_pred A.length
    have lA : (A ++ [p]).length = A.length + 1 := by simp
    have hM2 : ML (topP (A ++ [p])) (nl (A ++ [p])) (upd s1 0 (nI (topP (A ++ [p])))) := ML_knots h2
    obtain ⟨s', h3, h4⟩ := ih (A ++ [p]) hA' f _ hM2 (by simp at hf; omega)
    refine ⟨s', ?_, h4⟩
    rw [lA] at h3
    rw [m_X7_readNet_L62, if_neg (nI_ge (by omega) (by omega)), nI_1, r_ard (by omega) (by omega), r_ard (by omega) (by omega), r1, r2, h1, r_bind, r_1 (by decide), s11, e3, ml_1 (by rw [len]; omega) h2 gx, r_bind, r_0 (by decide), s10, e2]
    simp only [jn, nm]
    show (if nI (max p.1 p.2) < nI (topP A) then _ else _) = _
    by_cases q : max p.1 p.2 < topP A
    · rw [if_pos (nI_lt q (by omega)), r_0 (by decide), s10, show (0 : Int32) = nI 0 from rfl, r_awr (by omega) (by omega), nI_clamp (by omega)]
      rw [topP_app, Nat.max_eq_left (by omega)] at h3
      exact h3
    · rw [if_neg (nI_nlt (by omega) (by omega)), show (0 : Int32) = nI 0 from rfl, r_awr (by omega) (by omega), nI_clamp (by omega)]
      rw [topP_app, Nat.max_eq_right (by omega)] at h3
      show m_X7_readNet_L62 N at' (nI (2 * P.length)) rd past st f (nI (2 * (A.length + 1))) (upd s1 0 (nI (max p.1 p.2) + 1)) = _
      rw [nI_1]
      exact h3
end
