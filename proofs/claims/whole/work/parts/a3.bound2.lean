/-! pure: at most 80 covers, the rest -/
section BE
variable {K T : Nat} {lo hi co : Nat → Nat}
theorem two_ends (hw : wf K T lo hi co) {cov k t : Nat} (ht : t < T) (o : opt lo hi cov k t = true) : ∃ u, u ≠ k ∧ u < K ∧ k < K ∧ opt lo hi cov u t = true ∧ cov.testBit k = false ∧ cov.testBit u = false := by
  have l := (hw.2.2.1 t ht).1
  have h := (hw.2.2.1 t ht).2.1
  obtain ⟨a1, a2⟩ := opt_iff.mp o
  have free : ∀ j, isat lo hi t j = true → cov.testBit j = false := by
    intro j hj
    cases w : cov.testBit j with
    | false => rfl
    | true => exact (dj_iff.mp a2 j w (by rw [tb_em l, hj])).elim
  have c1 : isat lo hi t (lo t) = true := by unfold isat; simp
  have c2 : isat lo hi t (hi t) = true := by unfold isat; simp
  have kK := isat_lt l h a1
  by_cases w : k = lo t
  · exact ⟨hi t, by omega, h, kK, opt_iff.mpr ⟨c2, a2⟩, free k a1, free _ c2⟩
  · exact ⟨lo t, fun z => w z.symm, by omega, kK, opt_iff.mpr ⟨c1, a2⟩, free k a1, free _ c1⟩
theorem frk_two (hw : wf K T lo hi co) {cov k u t : Nat} (ht : t < T) (hku : u ≠ k) (hk : k < K) (hu : u < K) (o1 : opt lo hi cov k t = true) (o2 : opt lo hi cov u t = true) (f1 : cov.testBit k = false) (f2 : cov.testBit u = false) : frk K (cov ||| em lo hi t) + 2 = frk K cov := by
  have l := (hw.2.2.1 t ht).1
  have en := ends_of (fun z => hku z.symm) (opt_iff.mp o1).1 (opt_iff.mp o2).1
  have d1 := ct_del (p := fun j => !cov.testBit j) hk (by simp [f1])
  have d2 := ct_del (p := fun j => !cov.testBit j && !(j == k)) hu (by simp [f2, hku])
  have e : frk K (cov ||| em lo hi t) = ct (fun j => (!cov.testBit j && !(j == k)) && !(j == u)) K := by
    unfold frk
    apply ct_cong
    intro j hj
    rw [Nat.testBit_or, tb_em l]
    have := en j
    cases q : cov.testBit j <;> cases q2 : isat lo hi t j
    · rw [q2] at this
      have n1 : j ≠ k := fun z => absurd (this.mpr (Or.inl z)) bff
      have n2 : j ≠ u := fun z => absurd (this.mpr (Or.inr z)) bff
      simp [n1, n2]
    · rw [q2] at this
      rcases this.mp rfl with z | z <;> simp [z]
    · simp
    · simp
  unfold frk at *
  omega
/-- the bound -/
theorem cvl_bound (hw : wf K T lo hi co) : ∀ (m cov c : Nat), frk K cov = m → (cvl (2 ^ K - 1) lo hi T cov c).length * 19 ^ m ≤ pr (fw T lo hi cov) K := by
  have hlt : ∀ t, t < T → lo t < hi t := fun t h => (hw.2.2.1 t h).1
  intro m
  induction m using Nat.strongRecOn with
  | ind m ih =>
  intro cov c hm
  by_cases hall : ∃ k, k < K ∧ cov.testBit k = false
  · -- what one thread at a free knot costs
    have cut : ∀ k, k < K → cov.testBit k = false → (cvl (2 ^ K - 1) lo hi T cov c).length * 19 ^ m = sm (fun t => if opt lo hi cov k t = true then (cvl (2 ^ K - 1) lo hi T (cov ||| em lo hi t) (c ||| 2 ^ t)).length * 19 ^ m else 0) T := by
      intro k hk hc
      rw [cvl_at (all := 2 ^ K - 1) (T := T) List.length rfl (fun A B => List.length_append) hlt (by rw [tb_all]; exact decide_eq_true hk) T cov c (Nat.le_refl _) hc, ← sm_mul]
      apply sm_cong
      intro t ht
      by_cases w : opt lo hi cov k t = true
      · rw [if_pos w, if_pos w]
      · rw [if_neg w, if_neg w, Nat.zero_mul]
    have one : ∀ k t, t < T → opt lo hi cov k t = true → (cvl (2 ^ K - 1) lo hi T (cov ||| em lo hi t) (c ||| 2 ^ t)).length * 19 ^ m ≤ 361 * pr (fw T lo hi (cov ||| em lo hi t)) K := by
      intro k t ht o
      obtain ⟨u, hku, hu, hk, o2, f1, f2⟩ := two_ends hw ht o
      have e := frk_two hw ht hku hk hu o o2 f1 f2
      have := ih (frk K (cov ||| em lo hi t)) (by omega) (cov ||| em lo hi t) (c ||| 2 ^ t) rfl
      rw [show m = frk K (cov ||| em lo hi t) + 2 by omega, Nat.pow_add, ← Nat.mul_assoc]
      have := Nat.mul_le_mul_right (19 ^ 2) this
      omega
    by_cases h0 : ∃ k, k < K ∧ cov.testBit k = false ∧ dgc T lo hi cov k = 0
    · obtain ⟨k, hk, hc, hd⟩ := h0
      rw [cut k hk hc, sm_zero (fun t ht => by rw [ct_0 hd t ht, if_neg bff])]
      exact Nat.zero_le _
    · by_cases h1 : ∃ k, k < K ∧ cov.testBit k = false ∧ dgc T lo hi cov k = 1
      · obtain ⟨k, hk, hc, hd⟩ := h1
        obtain ⟨t, ht, o, hs⟩ := ct_1 hd
        rw [cut k hk hc, hs (fun t => (cvl (2 ^ K - 1) lo hi T (cov ||| em lo hi t) (c ||| 2 ^ t)).length * 19 ^ m)]
        obtain ⟨u, hku, hu, -, o2, -, f2⟩ := two_ends hw ht o
        have a := one k t ht o
        have b := step_plain hw ht (fun z => hku z.symm) o o2
        have s := rls_sum hw ht (fun z => hku z.symm) o o2
        have du := dgc_le hw cov u
        have du0 : 0 < dgc T lo hi cov u := ct_pos.mpr ⟨t, ht, o2⟩
        rw [hd] at b s
        rw [show sm (rls T lo hi cov t) K = dgc T lo hi cov u - 1 by omega] at b
        have d3 : dgc T lo hi cov u = 1 ∨ dgc T lo hi cov u = 2 ∨ dgc T lo hi cov u = 3 := by omega
        rcases d3 with d | d | d
        · rw [d] at b
          have b : _ * (19 * 19) * 1 ≤ _ * 1 := b
          omega
        · rw [d] at b
          have b : _ * (19 * 23) * 26 ≤ _ * 23 := b
          omega
        · rw [d] at b
          have b : _ * (19 * 26) * 676 ≤ _ * 529 := b
          omega
      · have two : ∀ j, j < K → cov.testBit j = false → 2 ≤ dgc T lo hi cov j := by
          intro j hj hc
          have a : dgc T lo hi cov j ≠ 0 := fun z => h0 ⟨j, hj, hc, z⟩
          have b : dgc T lo hi cov j ≠ 1 := fun z => h1 ⟨j, hj, hc, z⟩
          omega
        by_cases h2 : ∃ k, k < K ∧ cov.testBit k = false ∧ dgc T lo hi cov k = 2
        · obtain ⟨k, hk, hc, hd⟩ := h2
          obtain ⟨t1, t2, h12, ht2, o1, o2, hs⟩ := ct_2 hd
          have ht1 : t1 < T := by omega
          rw [cut k hk hc, hs (fun t => (cvl (2 ^ K - 1) lo hi T (cov ||| em lo hi t) (c ||| 2 ^ t)).length * 19 ^ m)]
          obtain ⟨u1, hku1, hu1, -, p1, -, f1⟩ := two_ends hw ht1 o1
          obtain ⟨u2, hku2, hu2, -, p2, -, f2⟩ := two_ends hw ht2 o2
          have hne : u1 ≠ u2 := by
            intro z
            rw [← z] at p2
            have := same_t hw ht1 ht2 hku1 (opt_iff.mp p1).1 (opt_iff.mp o1).1 (opt_iff.mp p2).1 (opt_iff.mp o2).1
            omega
          have a1 := one k t1 ht1 o1
          have a2 := one k t2 ht2 o2
          -- the other neighbour loses a thread
          have lose : ∀ t t' u v, t < T → t' < T → u ≠ k → v ≠ k → v ≠ u → opt lo hi cov k t = true → opt lo hi cov u t = true → opt lo hi cov k t' = true → opt lo hi cov v t' = true → cov.testBit v = false → 0 < rls T lo hi cov t v := by
            intro t t' u v ht ht' hu hv hvu q1 q2 q3 q4 fv
            have en := ends_of (fun z => hu z.symm) (opt_iff.mp q1).1 (opt_iff.mp q2).1
            unfold rls
            rw [if_neg]
            · refine ct_pos.mpr ⟨t', ht', ?_⟩
              rw [q4, Bool.true_and, Bool.not_eq_true', decide_eq_false_iff_not]
              intro z
              exact dj_iff.mp z k (by rw [tb_em (hlt t ht), (opt_iff.mp q1).1]) (by rw [tb_em (hlt t' ht'), (opt_iff.mp q3).1])
            · rw [Nat.testBit_or, fv, tb_em (hlt t ht)]
              intro z
              rcases (en v).mp z with w | w
              · exact hv w
              · exact hvu w
          have b1 := step_spec hw ht1 (fun z => hku1 z.symm) hku2 (fun z => hne z.symm) o1 p1 (lose t1 t2 u1 u2 ht1 ht2 hku1 hku2 (fun z => hne z.symm) o1 p1 o2 p2 f2) hu2 (two u2 hu2 f2)
          have b2 := step_spec hw ht2 (fun z => hku2 z.symm) hku1 hne o2 p2 (lose t2 t1 u2 u1 ht2 ht1 hku2 hku1 hne o2 p2 o1 p1 f1) hu1 (two u1 hu1 f1)
          have s1 := rls_sum hw ht1 (fun z => hku1 z.symm) o1 p1
          have s2 := rls_sum hw ht2 (fun z => hku2 z.symm) o2 p2
          have l1 := dgc_le hw cov u1
          have l2 := dgc_le hw cov u2
          have m1 := two u1 hu1 f1
          have m2 := two u2 hu2 f2
          rw [hd] at b1 b2 s1 s2
          rw [show sm (rls T lo hi cov t1) K - 1 = dgc T lo hi cov u1 - 1 by omega] at b1
          rw [show sm (rls T lo hi cov t2) K - 1 = dgc T lo hi cov u2 - 1 by omega] at b2
          have d1 : dgc T lo hi cov u1 = 2 ∨ dgc T lo hi cov u1 = 3 := by omega
          have d2 : dgc T lo hi cov u2 = 2 ∨ dgc T lo hi cov u2 = 3 := by omega
          rcases d1 with d1 | d1 <;> rcases d2 with d2 | d2 <;> rw [d1, d2] at b1 b2
          · have b1 : _ * (23 * 23) * (26 * 23) ≤ _ * (23 * 19) := b1
            have b2 : _ * (23 * 23) * (26 * 23) ≤ _ * (23 * 19) := b2
            omega
          · have b1 : _ * (23 * 23) * (26 * 26) ≤ _ * (23 * 23) := b1
            have b2 : _ * (23 * 26) * (676 * 23) ≤ _ * (529 * 19) := b2
            omega
          · have b1 : _ * (23 * 26) * (676 * 23) ≤ _ * (529 * 19) := b1
            have b2 : _ * (23 * 23) * (26 * 26) ≤ _ * (23 * 23) := b2
            omega
          · have b1 : _ * (23 * 26) * (676 * 26) ≤ _ * (529 * 23) := b1
            have b2 : _ * (23 * 26) * (676 * 26) ≤ _ * (529 * 23) := b2
            omega
        · have three : ∀ j, j < K → cov.testBit j = false → dgc T lo hi cov j = 3 := by
            intro j hj hc
            have a := two j hj hc
            have b : dgc T lo hi cov j ≠ 2 := fun z => h2 ⟨j, hj, hc, z⟩
            have := dgc_le hw cov j
            omega
          obtain ⟨k, hk, hc⟩ := hall
          have hd := three k hk hc
          rw [cut k hk hc]
          have bd := sm_bound (p := fun t => opt lo hi cov k t) (f := fun t => (cvl (2 ^ K - 1) lo hi T (cov ||| em lo hi t) (c ||| 2 ^ t)).length * 19 ^ m) (B := pr (fw T lo hi cov) K / 3) (n := T) (by
            intro t ht o
            obtain ⟨u, hku, hu, -, o2, -, f2⟩ := two_ends hw ht o
            have a := one k t ht o
            have b := step_plain hw ht (fun z => hku z.symm) o o2
            have s := rls_sum hw ht (fun z => hku z.symm) o o2
            rw [hd, three u hu f2] at b s
            rw [show sm (rls T lo hi cov t) K = 4 by omega] at b
            have b : _ * (26 * 26) * 456976 ≤ _ * 279841 := b
            show (cvl (2 ^ K - 1) lo hi T (cov ||| em lo hi t) (c ||| 2 ^ t)).length * 19 ^ m ≤ pr (fw T lo hi cov) K / 3
            omega)
          have hd' : ct (fun t => opt lo hi cov k t) T = 3 := hd
          rw [hd'] at bd
          refine Nat.le_trans bd ?_
          omega
  · have hc : ∀ k, k < K → cov.testBit k = true := by
      intro k hk
      cases w : cov.testBit k with
      | true => rfl
      | false => exact (hall ⟨k, hk, w⟩).elim
    have m0 : m = 0 := by
      rw [← hm]
      unfold frk
      have : ct (fun k => !cov.testBit k) K = ct (fun _ => false) K := ct_cong (fun k hk => by rw [hc k hk]; rfl)
      rw [this]
      exact ct_none K
    have nil : ∀ n, n ≤ T → (cvl (2 ^ K - 1) lo hi n cov c).length ≤ 1 := by
      intro n
      induction n with
      | zero =>
        intro _
        show (if cov = 2 ^ K - 1 then [c] else []).length ≤ 1
        split <;> simp
      | succ n ihn =>
        intro hn
        show (cvl (2 ^ K - 1) lo hi n cov c ++ if cov &&& em lo hi n = 0 then _ else []).length ≤ 1
        rw [if_neg, List.append_nil]
        · exact ihn (by omega)
        · intro z
          have l := hw.2.2.1 n (by omega)
          exact dj_iff.mp z (hi n) (hc _ l.2.1) (by rw [tb_em l.1]; unfold isat; simp)
    rw [m0, pr_all1 (fun k hk => by unfold fw; rw [if_pos (hc k hk)])]
    have := nil T (Nat.le_refl _)
    omega
  where ct_none : ∀ n, ct (fun _ => false) n = 0
    | 0 => rfl
    | n + 1 => by rw [ct, ct_none n]; rfl
theorem cw_le (a : Nat) : cw a ≤ 26 := by
  match a with
  | 0 => decide
  | 1 => decide
  | 2 => decide
  | n + 3 => exact Nat.le_refl 26
theorem p26 : ∀ K, K < 15 → 26 ^ K < 81 * 19 ^ K := by decide +kernel
theorem covers_80 (hw : wf K T lo hi co) : (cvl (2 ^ K - 1) lo hi T 0 0).length ≤ 80 := by
  have a := cvl_bound hw (frk K 0) 0 0 rfl
  have e : frk K 0 = K := by
    unfold frk
    have : ct (fun k => !(0 : Nat).testBit k) K = ct (fun _ => true) K := ct_cong (fun k _ => by rw [Nat.zero_testBit]; rfl)
    rw [this]
    exact ct_full K
  rw [e] at a
  have b : pr (fw T lo hi 0) K ≤ pr (fun _ => 26) K := by
    apply pr_le
    intro k hk
    unfold fw
    rw [if_neg (by rw [Nat.zero_testBit]; exact bff)]
    exact cw_le _
  have c : pr (fun _ => 26) K = 26 ^ K := pr_const K
  have d := p26 K (by have := hw.1; omega)
  have p0 : 1 ≤ 19 ^ K := Nat.one_le_pow _ _ (by decide)
  rcases Nat.lt_or_ge 80 (cvl (2 ^ K - 1) lo hi T 0 0).length with q | q
  · have := Nat.mul_le_mul_right (19 ^ K) (show 81 ≤ _ from q)
    omega
  · exact q
  where
    ct_full : ∀ n, ct (fun _ => true) n = n
      | 0 => rfl
      | n + 1 => by rw [ct, ct_full n]; rfl
    pr_const : ∀ n, pr (fun _ => 26) n = 26 ^ n
      | 0 => rfl
      | n + 1 => by rw [pr, pr_const n, Nat.pow_succ]
end BE
