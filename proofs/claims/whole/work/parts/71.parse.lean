/-! pure: both readers give one answer -/
abbrev PR : Type := Nat × Nat
def XP (P : List PR) (px : Nat → Int32) : Prop := ∀ k p, P[k]? = some p → px k = nI (2 ^ p.1 ||| 2 ^ p.2)
def MP (P : List PR) (rd : Nat → Int32) : Prop := ∀ k p, P[k]? = some p → rd (2 * k) = nI p.1 ∧ rd (2 * k + 1) = nI p.2
def BP (P : List PR) : Prop := ∀ p ∈ P, p.1 ≤ 13 ∧ p.2 ≤ 13
theorem pr_lt {P : List PR} {i : Nat} {p : PR} (h : P[i]? = some p) : i < P.length := by
  rcases Nat.lt_or_ge i P.length with g | g
  · exact g
  · rw [List.getElem?_eq_none g] at h; cases h
theorem pr_some {P : List PR} {i : Nat} (h : i < P.length) : ∃ p, P[i]? = some p := ⟨P[i], List.getElem?_eq_getElem h⟩
theorem pr_app (P : List PR) (x : PR) (i : Nat) (y : PR) : (P ++ [x])[i]? = some y → P[i]? = some y ∨ (i = P.length ∧ x = y) := by
  intro h
  rcases Nat.lt_trichotomy i P.length with q | q | q
  · rw [List.getElem?_append_left q] at h
    exact Or.inl h
  · subst q
    rw [List.getElem?_append_right (Nat.le_refl _), Nat.sub_self] at h
    exact Or.inr ⟨rfl, Option.some.inj h⟩
  · rw [List.getElem?_append_right (by omega)] at h
    have := pr_lt h
    simp at this
    omega
theorem XP.app {P : List PR} {px : Nat → Int32} {a b : Nat} (h : XP P px) : XP (P ++ [(a, b)]) (upd px P.length (nI (2 ^ a ||| 2 ^ b))) := by
  intro k p hp
  rcases pr_app P _ k p hp with q | ⟨rfl, rfl⟩
  · rw [upd_n (by have := pr_lt q; omega)]
    exact h k p q
  · rw [upd_s]
theorem MP.app {P : List PR} {rd : Nat → Int32} {a b : Nat} (h : MP P rd) : MP (P ++ [(a, b)]) (upd (upd rd (2 * P.length) (nI a)) (2 * P.length + 1) (nI b)) := by
  intro k p hp
  rcases pr_app P _ k p hp with q | ⟨rfl, rfl⟩
  · have := pr_lt q
    rw [upd_n (by omega), upd_n (by omega), upd_n (by omega), upd_n (by omega)]
    exact h k p q
  · rw [upd_n (by omega), upd_s, upd_s]
    exact ⟨rfl, rfl⟩
theorem BP.app {P : List PR} {a b : Nat} (h : BP P) (ha : a ≤ 13) (hb : b ≤ 13) : BP (P ++ [(a, b)]) := by
  intro p hp
  rw [List.mem_append, List.mem_singleton] at hp
  rcases hp with q | q
  · exact h p q
  · rw [q]; exact ⟨ha, hb⟩
theorem rt_step {N h : Nat} {g rd : Nat → Int32} {len a e : Int32} {J : Int32 → Int32 → (Nat → Int32) → R4} : m_X7_readsThreads_L12 N g len J (h + 1) 1 a e rd = Option.bind (m_X7_takesKnot N g len a e rd) (fun r => if r.1 = 0 then some (0, r.2.1, r.2.2.1, r.2.2.2) else Option.bind (m_X7_takes N g len r.2.1 45) (fun q => if q.1 = 0 then some (0, q.2, r.2.2.1, r.2.2.2) else Option.bind (m_X7_takesKnot N g len q.2 r.2.2.1 r.2.2.2) (fun w => if w.1 = 0 then some (0, w.2.1, w.2.2.1, w.2.2.2) else Option.bind (m_X7_takes N g len w.2.1 44) (fun z => m_X7_readsThreads_L12 N g len J h z.1 z.2 w.2.2.1 w.2.2.2)))) := by
  rw [m_X7_readsThreads_L12, if_neg (by decide)]
theorem rt_end {N h : Nat} {g rd : Nat → Int32} {len a e : Int32} {J : Int32 → Int32 → (Nat → Int32) → R4} : m_X7_readsThreads_L12 N g len J (h + 1) 0 a e rd = J a e rd := by
  rw [m_X7_readsThreads_L12, if_pos rfl]
theorem n10 : ¬ (1 : Int32) = 0 := by decide
theorem text_main {N n : Nat} {g : Nat → Int32} (hn : n ≤ 60) : ∀ (d i : Nat), i + d = n → ∀ (P : List PR) (px rd : Nat → Int32) (f h : Nat), 4 * P.length ≤ i → BP P → XP P px → MP P rd → 2 * d + 8 ≤ f → d + 1 < h →
    (∃ j e' px' sz' rd', j ≤ n ∧ m_X4_read_L11 N g (nI n) (jX4 N (nI n)) f (nI i) (-1) (-1) px (nI P.length) = some (nI j, px', sz') ∧ m_X7_readsThreads_L12 N g (nI n) (jM7 (nI n)) h 1 (nI i) (nI (2 * P.length)) rd = some (0, nI j, e', rd')) ∨
    ∃ P' px' rd', P' ≠ [] ∧ 4 * P'.length ≤ n + 1 ∧ BP P' ∧ XP P' px' ∧ MP P' rd' ∧ m_X4_read_L11 N g (nI n) (jX4 N (nI n)) f (nI i) (-1) (-1) px (nI P.length) = some (-1, px', nI P'.length) ∧ m_X7_readsThreads_L12 N g (nI n) (jM7 (nI n)) h 1 (nI i) (nI (2 * P.length)) rd = some (1, nI n, nI (2 * P'.length), rd') := by
  intro d
  induction d using Nat.strongRecOn with
  | ind d ih =>
  intro i hi P px rd f h hP hB hX hM hf hh
  obtain ⟨h, rfl⟩ : ∃ m, h = m + 1 := ⟨h - 1, by omega⟩
  obtain ⟨f, rfl⟩ : ∃ m, f = m + 2 := ⟨f - 2, by omega⟩
  rcases knot (N := N) (n := n) (i := i) (e := 2 * P.length) (g := g) (px := px) (rd := rd) (J := jX4 N (nI n)) (x1 := -1) (sz := nI P.length) (by omega) hn (by omega) with ⟨a, b⟩ | ⟨j, v, h1, h2, hv, a, b, c⟩
  · left
    refine ⟨i, nI (2 * P.length), px, nI P.length, rd, by omega, ?_, ?_⟩
    · rw [show f + 2 = f + 1 + 1 from rfl, b]
      by_cases q : i = n
      · rw [if_pos q]
        unfold jX4
        rw [if_pos rfl, q]
      · rw [if_neg q]
    · rw [rt_step, a, r_bind, if_pos rfl]
  · obtain ⟨f', hf', b⟩ := b f
    rw [b]
    obtain ⟨f', rfl⟩ : ∃ m, f' = m + 1 := ⟨f' - 1, by omega⟩
    have v1 := neq_m1 (n := v) (by omega)
    by_cases q : j < n ∧ g j = 45
    · have cl : m_X4_read_L11 N g (nI n) (jX4 N (nI n)) (f' + 1) (nI j) (nI v) (-1) px (nI P.length) = m_X4_read_L11 N g (nI n) (jX4 N (nI n)) f' (nI (j + 1)) (-1) (nI v) px (nI P.length) := by
        rw [rd_no q.1 hn (c q.1), if_pos ⟨q.2, v1, rfl⟩]
      have tk := takes_yes (N := N) (c := 45) q.1 hn q.2
      rw [cl, rt_step, a, r_bind, if_neg n10, tk, r_bind, if_neg n10]
      obtain ⟨f', rfl⟩ : ∃ m, f' = m + 2 := ⟨f' - 2, by omega⟩
      rcases knot (N := N) (n := n) (i := j + 1) (e := 2 * P.length + 1) (g := g) (px := px) (rd := upd rd (2 * P.length) (nI v)) (J := jX4 N (nI n)) (x1 := nI v) (sz := nI P.length) (by omega) hn (by omega) with ⟨a2, b2⟩ | ⟨j2, w, h3, h4, hw, a2, b2, c2⟩
      · left
        refine ⟨j + 1, nI (2 * P.length + 1), px, nI P.length, upd rd (2 * P.length) (nI v), by omega, ?_, ?_⟩
        · rw [show f' + 2 = f' + 1 + 1 from rfl, b2]
          by_cases q2 : j + 1 = n
          · rw [if_pos q2]
            unfold jX4
            rw [if_neg v1, if_pos rfl, q2]
          · rw [if_neg q2]
        · rw [a2, r_bind, if_pos rfl]
      · obtain ⟨f2, hf2, b2⟩ := b2 f'
        have w1 := neq_m1 (n := w) (by omega)
        have ad := x_addPair (N := N) (px := px) (m := P.length) (a := v) (b := w) (by omega) (by omega) (by omega)
        have hX' := hX.app (a := v) (b := w)
        have hM' := hM.app (a := v) (b := w)
        have hB' := hB.app (a := v) (b := w) hv hw
        have len : (P ++ [(v, w)]).length = P.length + 1 := by simp
        rw [b2, a2, r_bind, if_neg n10]
        obtain ⟨f2, rfl⟩ : ∃ m, f2 = m + 1 := ⟨f2 - 1, by omega⟩
        by_cases q2 : j2 < n ∧ g j2 = 44
        · rw [rd_no q2.1 hn (c2 q2.1), if_neg (fun t => v1 t.2.2), if_pos ⟨q2.2, w1, v1⟩, ad, r_bind, takes_yes (N := N) (c := 44) q2.1 hn q2.2, r_bind]
          have := ih (n - (j2 + 1)) (by omega) (j2 + 1) (by omega) (P ++ [(v, w)]) _ _ f2 h (by rw [len]; omega) hB' hX' hM' (by omega) (by omega)
          rw [len] at this
          exact this
        · obtain ⟨h, rfl⟩ : ∃ m, h = m + 1 := ⟨h - 1, by omega⟩
          rw [takes_no (N := N) (c := 44) h4 hn (fun t g1 => q2 ⟨t, g1⟩), r_bind]
          by_cases q3 : j2 = n
          · right
            refine ⟨P ++ [(v, w)], _, _, by simp, by rw [len]; omega, hB', hX', hM', ?_, ?_⟩
            · rw [rd_end (by omega) (by omega)]
              unfold jX4
              rw [if_neg v1, if_neg w1, ad, r_bind, len]
            · rw [len]
              refine Eq.trans rt_end ?_
              unfold jM7
              rw [q3, if_pos rfl]
              rfl
          · left
            refine ⟨j2, nI (2 * P.length + 1 + 1), px, nI P.length, upd (upd rd (2 * P.length) (nI v)) (2 * P.length + 1) (nI w), h4, ?_, ?_⟩
            · rw [rd_no (by omega) hn (c2 (by omega)), if_neg (fun t => v1 t.2.2), if_neg (fun t => q2 ⟨by omega, t.1⟩)]
            · refine Eq.trans rt_end ?_
              unfold jM7
              rw [if_neg (fun t => q3 ((nI_eq (by omega) (by omega)).mp t))]
    · left
      refine ⟨j, nI (2 * P.length + 1), px, nI P.length, upd rd (2 * P.length) (nI v), h2, ?_, ?_⟩
      · by_cases q2 : j < n
        · rw [rd_no q2 hn (c q2), if_neg (fun t => q ⟨q2, t.1⟩), if_neg (fun t => t.2.2 rfl)]
        · have : j = n := by omega
          subst this
          rw [rd_end (Nat.le_refl _) (by omega)]
          unfold jX4
          rw [if_pos rfl]
      · rw [rt_step, a, r_bind, if_neg n10, takes_no (N := N) (c := 45) h2 hn (fun t g1 => q ⟨t, g1⟩), r_bind, if_pos rfl]
theorem text_both {N n : Nat} {g px rd : Nat → Int32} {sz a e : Int32} (hN : 1000 ≤ N) (hn : n ≤ 60) :
    (∃ j e' px' sz' rd', j ≤ n ∧ m_X4_read N g (nI n) px sz = some (nI j, px', sz') ∧ m_X7_readsThreads N g (nI n) a e rd = some (0, nI j, e', rd')) ∨
    ∃ P px' rd', P ≠ [] ∧ P.length ≤ 15 ∧ BP P ∧ XP P px' ∧ MP P rd' ∧ m_X4_read N g (nI n) px sz = some (-1, px', nI P.length) ∧ m_X7_readsThreads N g (nI n) a e rd = some (1, nI n, nI (2 * P.length), rd') := by
  have h := text_main (N := N) (g := g) hn n 0 (by omega) [] px rd N N (by simp) (fun p hp => by cases hp) (fun k p hp => by simp at hp) (fun k p hp => by simp at hp) (by omega) (by omega)
  rcases h with ⟨j, e', px', sz', rd', h1, h2, h3⟩ | ⟨P, px', rd', h1, h2, h3, h4, h5, h6, h7⟩
  · exact Or.inl ⟨j, e', px', sz', rd', h1, h2, h3⟩
  · exact Or.inr ⟨P, px', rd', h1, by omega, h3, h4, h5, h6, h7⟩
