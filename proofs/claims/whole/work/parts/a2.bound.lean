/-! pure: how many covers there can be: at most 80 -/
def dgc (T : Nat) (lo hi : Nat → Nat) (cov k : Nat) : Nat := ct (fun t => opt lo hi cov k t) T
def cw : Nat → Nat
  | 0 => 0
  | 1 => 19
  | 2 => 23
  | _ => 26
def fw (T : Nat) (lo hi : Nat → Nat) (cov k : Nat) : Nat := if cov.testBit k = true then 1 else cw (dgc T lo hi cov k)
def frk (K cov : Nat) : Nat := ct (fun k => !cov.testBit k) K
theorem cw_tab : ∀ a, a < 4 → ∀ b, b < 4 → a + b < 4 → cw a * 26 ^ b ≤ cw (a + b) * 23 ^ b := by decide
theorem cw_tab2 : ∀ a, a < 4 → ∀ b, b < 4 → a + b < 4 → 0 < b → 2 ≤ a + b → cw a * (26 ^ (b - 1) * (if a + b = 2 then 23 else 26)) ≤ cw (a + b) * (23 ^ (b - 1) * (if a + b = 2 then 19 else 23)) := by decide
section BD
variable {K T : Nat} {lo hi co : Nat → Nat}
theorem opt_more {cov t0 j t : Nat} : opt lo hi (cov ||| em lo hi t0) j t = (opt lo hi cov j t && decide (em lo hi t0 &&& em lo hi t = 0)) := by
  rw [Bool.eq_iff_iff, opt_iff, Bool.and_eq_true, opt_iff, decide_eq_true_iff, dj_or]
  exact ⟨fun ⟨a, b, c⟩ => ⟨⟨a, b⟩, c⟩, fun ⟨⟨a, b⟩, c⟩ => ⟨a, b, c⟩⟩
/-- how many threads a knot loses -/
def rls (T : Nat) (lo hi : Nat → Nat) (cov t0 j : Nat) : Nat := if (cov ||| em lo hi t0).testBit j = true then 0 else ct (fun t => opt lo hi cov j t && !decide (em lo hi t0 &&& em lo hi t = 0)) T
theorem rls_d {cov t0 j : Nat} (h : (cov ||| em lo hi t0).testBit j = false) : dgc T lo hi (cov ||| em lo hi t0) j + rls T lo hi cov t0 j = dgc T lo hi cov j := by
  unfold dgc rls
  rw [if_neg (by rw [h]; exact bff), ← ct_split (fun t => opt lo hi cov j t) (fun t => decide (em lo hi t0 &&& em lo hi t = 0))]
  congr 1
  exact ct_cong (fun t _ => opt_more)
theorem dgc_le (hw : wf K T lo hi co) (cov k : Nat) : dgc T lo hi cov k ≤ 3 := by
  refine Nat.le_trans (ct_mono (fun t _ h => ?_)) (hw.2.2.2.2 k)
  exact (opt_iff.mp h).1
theorem ct_or {p q : Nat → Bool} : ∀ {n : Nat}, (∀ i, i < n → ¬ (p i = true ∧ q i = true)) → ct (fun i => p i || q i) n = ct p n + ct q n
  | 0, _ => rfl
  | n + 1, h => by
    rw [ct, ct, ct, ct_or (fun i hi => h i (by omega))]
    have := h n (by omega)
    cases e : p n <;> cases e2 : q n
    · rfl
    · simp
      omega
    · simp
      omega
    · exact absurd ⟨e, e2⟩ this
theorem ends_of {t x y : Nat} (hxy : x ≠ y) (h1 : isat lo hi t x = true) (h2 : isat lo hi t y = true) (j : Nat) : isat lo hi t j = true ↔ j = x ∨ j = y := by
  unfold isat at *
  simp only [Bool.or_eq_true, beq_iff_eq] at *
  omega
theorem same_t (hw : wf K T lo hi co) {a b x y : Nat} (ha : a < T) (hb : b < T) (hxy : x ≠ y) (a1 : isat lo hi a x = true) (a2 : isat lo hi a y = true) (b1 : isat lo hi b x = true) (b2 : isat lo hi b y = true) : a = b := by
  have p := (hw.2.2.1 a ha).1
  have q := (hw.2.2.1 b hb).1
  refine hw.2.2.2.1 a b ha hb ?_ ?_ <;>
  · unfold isat at *
    simp only [Bool.or_eq_true, beq_iff_eq] at *
    omega
/-- the threads that two covered knots take away, but the one between them -/
theorem rls_sum (hw : wf K T lo hi co) {cov k u t0 : Nat} (ht : t0 < T) (hku : k ≠ u) (o1 : opt lo hi cov k t0 = true) (o2 : opt lo hi cov u t0 = true) : sm (rls T lo hi cov t0) K + 2 = dgc T lo hi cov k + dgc T lo hi cov u := by
  have lt : ∀ t, t < T → lo t < hi t := fun t h => (hw.2.2.1 t h).1
  have tb : ∀ t j, t < T → (em lo hi t).testBit j = isat lo hi t j := fun t j h => tb_em (lt t h) j
  obtain ⟨a1, a2⟩ := opt_iff.mp o1
  obtain ⟨b1, -⟩ := opt_iff.mp o2
  have en0 := ends_of hku a1 b1
  -- each lost thread counts once
  have e1 : sm (rls T lo hi cov t0) K = ct (fun t => (opt lo hi cov k t && !(t == t0)) || (opt lo hi cov u t && !(t == t0))) T := by
    have s1 : sm (rls T lo hi cov t0) K = sm (fun j => sm (fun t => if (!(cov ||| em lo hi t0).testBit j && (opt lo hi cov j t && !decide (em lo hi t0 &&& em lo hi t = 0))) = true then 1 else 0) T) K := by
      apply sm_cong
      intro j hj
      unfold rls
      cases q : (cov ||| em lo hi t0).testBit j with
      | true => rw [if_pos btt]; exact (sm_zero (fun t _ => rfl)).symm
      | false =>
        rw [if_neg bff, ← sm_ct]
        exact sm_cong (fun t _ => rfl)
    rw [s1, sm_swap, ← sm_ct]
    apply sm_cong
    intro t htT
    by_cases hf : cov &&& em lo hi t = 0
    · by_cases ht0 : t = t0
      · subst ht0
        rw [if_neg (by simp)]
        refine sm_zero (fun j hj => if_neg (fun z => ?_))
        simp only [Bool.and_eq_true, Bool.not_eq_true'] at z
        have := (opt_iff.mp z.2.1).1
        have z1 := z.1
        rw [Nat.testBit_or, tb t j htT, this, Bool.or_true] at z1
        cases z1
      · by_cases hk : isat lo hi t k = true ∨ isat lo hi t u = true
        · rw [if_pos (by
            rw [Bool.or_eq_true]
            rcases hk with hk | hk
            · left
              rw [opt_iff.mpr ⟨hk, hf⟩]
              simp [ht0]
            · right
              rw [opt_iff.mpr ⟨hk, hf⟩]
              simp [ht0])]
          -- the end x that is shared, and the other one
          obtain ⟨x, y, hxy, hx, hy, hx0⟩ : ∃ x y, x ≠ y ∧ isat lo hi t x = true ∧ isat lo hi t y = true ∧ isat lo hi t0 x = true := by
            have l := lt t htT
            have c1 : isat lo hi t (lo t) = true := by unfold isat; simp
            have c2 : isat lo hi t (hi t) = true := by unfold isat; simp
            have side : ∀ x, isat lo hi t x = true → isat lo hi t0 x = true → ∃ x y, x ≠ y ∧ isat lo hi t x = true ∧ isat lo hi t y = true ∧ isat lo hi t0 x = true := by
              intro x g1 g2
              by_cases w : x = lo t
              · exact ⟨x, hi t, by omega, g1, c2, g2⟩
              · exact ⟨x, lo t, w, g1, c1, g2⟩
            rcases hk with hk | hk
            · exact side k hk a1
            · exact side u hk b1
          have hy0 : isat lo hi t0 y = false := by
            cases w : isat lo hi t0 y with
            | false => rfl
            | true => exact absurd (same_t hw htT ht hxy hx hy hx0 w) ht0
          have hyK : y < K := isat_lt (lt t htT) (hw.2.2.1 t htT).2.1 hy
          have en := ends_of hxy hx hy
          have ycov : cov.testBit y = false := by
            cases w : cov.testBit y with
            | false => rfl
            | true => exact (dj_iff.mp hf y w (by rw [tb t y htT, hy])).elim
          rw [sm_one hyK (fun j hj hne => if_neg (fun z => ?_))]
          · rw [if_pos]
            rw [Nat.testBit_or, ycov, tb t0 y ht, hy0, opt_iff.mpr ⟨hy, hf⟩]
            simp only [Bool.or_false, Bool.not_false, Bool.true_and, Bool.not_eq_true', decide_eq_false_iff_not]
            exact fun w => dj_iff.mp w x (by rw [tb t0 x ht, hx0]) (by rw [tb t x htT, hx])
          · simp only [Bool.and_eq_true, Bool.not_eq_true'] at z
            have z2 := (en j).mp (opt_iff.mp z.2.1).1
            rcases z2 with z2 | z2
            · have z1 := z.1
              rw [z2, Nat.testBit_or, tb t0 x ht, hx0, Bool.or_true] at z1
              cases z1
            · exact hne z2
        · rw [if_neg (fun z => by
            rw [Bool.or_eq_true, Bool.and_eq_true, Bool.and_eq_true] at z
            rcases z with z | z
            · exact hk (Or.inl (opt_iff.mp z.1).1)
            · exact hk (Or.inr (opt_iff.mp z.1).1))]
          refine sm_zero (fun j hj => if_neg (fun z => ?_))
          simp only [Bool.and_eq_true, Bool.not_eq_true', decide_eq_false_iff_not] at z
          obtain ⟨i, g1, g2⟩ := and_ne0.mp z.2.2
          rw [tb t0 i ht] at g1
          rw [tb t i htT] at g2
          rcases (en0 i).mp g1 with w | w
          · exact hk (Or.inl (by rw [← w]; exact g2))
          · exact hk (Or.inr (by rw [← w]; exact g2))
    · rw [if_neg (fun z => by
        rw [Bool.or_eq_true, Bool.and_eq_true, Bool.and_eq_true] at z
        rcases z with z | z
        · exact hf (opt_iff.mp z.1).2
        · exact hf (opt_iff.mp z.1).2)]
      refine sm_zero (fun j hj => if_neg (fun z => ?_))
      simp only [Bool.and_eq_true] at z
      exact hf (opt_iff.mp z.2.1).2
  rw [e1, ct_or]
  · have c1 := ct_del (p := fun t => opt lo hi cov k t) ht o1
    have c2 := ct_del (p := fun t => opt lo hi cov u t) ht o2
    unfold dgc
    omega
  · intro t htT z
    simp only [Bool.and_eq_true, Bool.not_eq_true', beq_eq_false_iff_ne, ne_eq] at z
    exact z.1.2 (same_t hw htT ht hku (opt_iff.mp z.1.1).1 (opt_iff.mp z.2.1).1 a1 b1)
/-- the product, when two knots are covered by a thread between them -/
theorem prod_step {f f' s e a b : Nat → Nat} (h : ∀ j, j < K → f' j * s j * (26 ^ e j * a j) ≤ f j * (23 ^ e j * b j)) : pr f' K * pr s K * (26 ^ sm e K * pr a K) ≤ pr f K * (23 ^ sm e K * pr b K) := by
  have := pr_le h
  rw [pr_mul, pr_mul, pr_mul, pr_mul, pr_mul, pr_pow, pr_pow] at this
  exact this
def sel2 (k u x y : Nat) (j : Nat) : Nat := (if j = k then x else 1) * (if j = u then y else 1)
theorem sel2_pr {k u x y : Nat} (hk : k < K) (hu : u < K) : pr (sel2 k u x y) K = x * y := by
  show pr (fun j => (if j = k then x else 1) * (if j = u then y else 1)) K = x * y
  rw [pr_mul, pr_one hk (fun i _ h => if_neg h), pr_one hu (fun i _ h => if_neg h), if_pos rfl, if_pos rfl]
theorem step_plain (hw : wf K T lo hi co) {cov k u t0 : Nat} (ht : t0 < T) (hku : k ≠ u) (o1 : opt lo hi cov k t0 = true) (o2 : opt lo hi cov u t0 = true) : pr (fw T lo hi (cov ||| em lo hi t0)) K * (cw (dgc T lo hi cov k) * cw (dgc T lo hi cov u)) * 26 ^ sm (rls T lo hi cov t0) K ≤ pr (fw T lo hi cov) K * 23 ^ sm (rls T lo hi cov t0) K := by
  have lt : ∀ t, t < T → lo t < hi t := fun t h => (hw.2.2.1 t h).1
  obtain ⟨a1, a2⟩ := opt_iff.mp o1
  obtain ⟨b1, -⟩ := opt_iff.mp o2
  have kK : k < K := isat_lt (lt t0 ht) (hw.2.2.1 t0 ht).2.1 a1
  have uK : u < K := isat_lt (lt t0 ht) (hw.2.2.1 t0 ht).2.1 b1
  have fk : ∀ j, isat lo hi t0 j = true → cov.testBit j = false ∧ (cov ||| em lo hi t0).testBit j = true := by
    intro j hj
    have tj : (em lo hi t0).testBit j = true := by rw [tb_em (lt t0 ht), hj]
    refine ⟨?_, by rw [Nat.testBit_or, tj, Bool.or_true]⟩
    cases w : cov.testBit j with
    | false => rfl
    | true => exact (dj_iff.mp a2 j w tj).elim
  have := prod_step (K := K) (f := fw T lo hi cov) (f' := fw T lo hi (cov ||| em lo hi t0)) (s := sel2 k u (cw (dgc T lo hi cov k)) (cw (dgc T lo hi cov u))) (e := rls T lo hi cov t0) (a := fun _ => 1) (b := fun _ => 1) (by
    intro j hj
    unfold fw sel2
    rw [Nat.mul_one, Nat.mul_one]
    by_cases j1 : j = k
    · subst j1
      obtain ⟨c1, c2⟩ := fk j a1
      have : rls T lo hi cov t0 j = 0 := by unfold rls; rw [if_pos c2]
      rw [this, if_pos c2, if_neg (show ¬ cov.testBit j = true by rw [c1]; exact bff), if_pos rfl, if_neg hku]
      simp
    · by_cases j2 : j = u
      · subst j2
        obtain ⟨c1, c2⟩ := fk j b1
        have : rls T lo hi cov t0 j = 0 := by unfold rls; rw [if_pos c2]
        rw [this, if_pos c2, if_neg (show ¬ cov.testBit j = true by rw [c1]; exact bff), if_neg j1, if_pos rfl]
        simp
      · rw [if_neg j1, if_neg j2]
        simp only [Nat.mul_one]
        have ji : isat lo hi t0 j = false := by
          cases w : isat lo hi t0 j with
          | false => rfl
          | true => exact (((ends_of hku a1 b1 j).mp w).elim j1 j2).elim
        have e1 : (cov ||| em lo hi t0).testBit j = cov.testBit j := by rw [Nat.testBit_or, tb_em (lt t0 ht), ji, Bool.or_false]
        cases w : cov.testBit j with
        | true =>
          have : rls T lo hi cov t0 j = 0 := by unfold rls; rw [e1, w, if_pos btt]
          rw [e1, w, if_pos btt, this]
          simp
        | false =>
          have d := rls_d (T := T) (cov := cov) (t0 := t0) (j := j) (by rw [e1, w])
          have l3 := dgc_le hw cov j
          rw [e1, w, if_neg bff, if_neg bff, ← d]
          exact cw_tab _ (by omega) _ (by omega) (by omega))
  rw [sel2_pr kK uK, pr_all1 (fun _ _ => rfl), Nat.mul_one, Nat.mul_one] at this
  exact this
theorem step_spec (hw : wf K T lo hi co) {cov k u v t0 : Nat} (ht : t0 < T) (hku : k ≠ u) (hvk : v ≠ k) (hvu : v ≠ u) (o1 : opt lo hi cov k t0 = true) (o2 : opt lo hi cov u t0 = true) (hv : 0 < rls T lo hi cov t0 v) (hvK : v < K) (h2 : 2 ≤ dgc T lo hi cov v) : pr (fw T lo hi (cov ||| em lo hi t0)) K * (cw (dgc T lo hi cov k) * cw (dgc T lo hi cov u)) * (26 ^ (sm (rls T lo hi cov t0) K - 1) * (if dgc T lo hi cov v = 2 then 23 else 26)) ≤ pr (fw T lo hi cov) K * (23 ^ (sm (rls T lo hi cov t0) K - 1) * (if dgc T lo hi cov v = 2 then 19 else 23)) := by
  have lt : ∀ t, t < T → lo t < hi t := fun t h => (hw.2.2.1 t h).1
  obtain ⟨a1, a2⟩ := opt_iff.mp o1
  obtain ⟨b1, -⟩ := opt_iff.mp o2
  have kK : k < K := isat_lt (lt t0 ht) (hw.2.2.1 t0 ht).2.1 a1
  have uK : u < K := isat_lt (lt t0 ht) (hw.2.2.1 t0 ht).2.1 b1
  have fk : ∀ j, isat lo hi t0 j = true → cov.testBit j = false ∧ (cov ||| em lo hi t0).testBit j = true := by
    intro j hj
    have tj : (em lo hi t0).testBit j = true := by rw [tb_em (lt t0 ht), hj]
    refine ⟨?_, by rw [Nat.testBit_or, tj, Bool.or_true]⟩
    cases w : cov.testBit j with
    | false => rfl
    | true => exact (dj_iff.mp a2 j w tj).elim
  have := prod_step (K := K) (f := fw T lo hi cov) (f' := fw T lo hi (cov ||| em lo hi t0)) (s := sel2 k u (cw (dgc T lo hi cov k)) (cw (dgc T lo hi cov u))) (e := fun j => rls T lo hi cov t0 j - (if j = v then 1 else 0)) (a := fun j => if j = v then (if dgc T lo hi cov v = 2 then 23 else 26) else 1) (b := fun j => if j = v then (if dgc T lo hi cov v = 2 then 19 else 23) else 1) (by
    intro j hj
    unfold fw sel2
    by_cases j1 : j = k
    · subst j1
      obtain ⟨c1, c2⟩ := fk j a1
      have : rls T lo hi cov t0 j = 0 := by unfold rls; rw [if_pos c2]
      rw [this, if_pos c2, if_neg (show ¬ cov.testBit j = true by rw [c1]; exact bff), if_pos rfl, if_neg hku, if_neg (fun z => hvk z.symm), if_neg (fun z => hvk z.symm), if_neg (fun z => hvk z.symm)]
      simp
    · by_cases j2 : j = u
      · subst j2
        obtain ⟨c1, c2⟩ := fk j b1
        have : rls T lo hi cov t0 j = 0 := by unfold rls; rw [if_pos c2]
        rw [this, if_pos c2, if_neg (show ¬ cov.testBit j = true by rw [c1]; exact bff), if_neg j1, if_pos rfl, if_neg (fun z => hvu z.symm), if_neg (fun z => hvu z.symm), if_neg (fun z => hvu z.symm)]
        simp
      · rw [if_neg j1, if_neg j2]
        simp only [Nat.mul_one]
        have ji : isat lo hi t0 j = false := by
          cases w : isat lo hi t0 j with
          | false => rfl
          | true => exact (((ends_of hku a1 b1 j).mp w).elim j1 j2).elim
        have e1 : (cov ||| em lo hi t0).testBit j = cov.testBit j := by rw [Nat.testBit_or, tb_em (lt t0 ht), ji, Bool.or_false]
        cases w : cov.testBit j with
        | true =>
          have r0 : rls T lo hi cov t0 j = 0 := by unfold rls; rw [e1, w, if_pos btt]
          have jv : j ≠ v := fun z => by rw [z] at r0; omega
          rw [e1, w, if_pos btt, r0, if_neg jv, if_neg jv, if_neg jv]
          simp
        | false =>
          have d := rls_d (T := T) (cov := cov) (t0 := t0) (j := j) (by rw [e1, w])
          have l3 := dgc_le hw cov j
          rw [e1, w, if_neg bff, if_neg bff]
          by_cases jv : j = v
          · subst jv
            rw [if_pos rfl, if_pos rfl, if_pos rfl, ← d]
            exact cw_tab2 _ (by omega) _ (by omega) (by omega) hv (by omega)
          · rw [if_neg jv, if_neg jv, if_neg jv, Nat.mul_one, Nat.mul_one, Nat.sub_zero, ← d]
            exact cw_tab _ (by omega) _ (by omega) (by omega))
  have e2 : sm (fun j => rls T lo hi cov t0 j - (if j = v then 1 else 0)) K = sm (rls T lo hi cov t0) K - 1 := by
    have s1 : sm (fun j => (rls T lo hi cov t0 j - (if j = v then 1 else 0)) + (if j = v then 1 else 0)) K = sm (rls T lo hi cov t0) K := by
      apply sm_cong
      intro j hj
      by_cases jv : j = v
      · rw [if_pos jv, jv]
        omega
      · rw [if_neg jv]
        rfl
    rw [sm_add, sm_one (f := fun j => if j = v then 1 else 0) hvK (fun i _ h => if_neg h), if_pos rfl] at s1
    omega
  rw [sel2_pr kK uK, e2, pr_one hvK (fun i _ h => if_neg h), pr_one hvK (fun i _ h => if_neg h), if_pos rfl, if_pos rfl] at this
  exact this
end BD
