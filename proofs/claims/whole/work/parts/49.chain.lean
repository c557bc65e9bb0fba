/-! pure: chains of two colours -/
def two (co : Nat → Nat) (a b : Nat) : Nat → Bool := fun t => co t == a || co t == b
theorem bs_or (p q : Nat → Bool) (n : Nat) : bs p n ||| bs q n = bs (fun i => p i || q i) n := by
  apply Nat.eq_of_testBit_eq
  intro i
  rw [Nat.testBit_or, tb_bs, tb_bs, tb_bs]
  cases decide (i < n) <;> rfl
theorem bs_lt21 (p : Nat → Bool) {T : Nat} (hT : T ≤ 21) : bs p T < 2 ^ 21 := Nat.lt_of_lt_of_le (bs_lt p T) (p2le hT)
theorem m_chainOf {N K T t b : Nat} {lo hi co : Nat → Nat} {s : Nat → Int32} (hN : 1000 ≤ N) (hw : wt T lo hi co) (hs : MN K T lo hi co s) (ht : t < T) (hb : b < 4) : ∃ C, C < 2 ^ 21 ∧ m_X7_chainOf N s (nI t) (nI b) = some (nI C) ∧ isC (clT T lo hi (two co (co t) b)) (2 ^ t) C := by
  have hT := hw.1
  have hF := cst_good (lo := lo) (hi := hi) hT (two co (co t) b)
  have ht3 := (hw.2 t ht).2.2
  have inner : ∀ (kx : Int32 → Option Int32) (S : Nat), S < 2 ^ 21 → m_X7_chainOf_L29 N s (nI b) (nI (co t)) kx N 0 (nI S) = kx (nI (cst T lo hi (two co (co t) b) S T)) := by
    intro kx S hS
    refine for_up (fun n i (acc : Nat) => m_X7_chainOf_L29 N s (nI b) (nI (co t)) kx n (nI i) (nI acc)) T (fun i => cst T lo hi (two co (co t) b) S i) _ ?_ ?_ T N 0 (by omega) (by omega)
    · intro n
      show m_X7_chainOf_L29 N s (nI b) (nI (co t)) kx (n + 1) (nI T) _ = _
      rw [m_X7_chainOf_L29, r_1 (by decide), hs.2.1, if_pos (nI_le (Nat.le_refl _) (by omega))]
    · intro n i hj
      show m_X7_chainOf_L29 N s (nI b) (nI (co t)) kx (n + 1) (nI i) (nI (cst T lo hi (two co (co t) b) S i)) = m_X7_chainOf_L29 N s (nI b) (nI (co t)) kx n (nI (i + 1)) (nI (cst T lo hi (two co (co t) b) S (i + 1)))
      obtain ⟨h1, h2, h3⟩ := hw.2 i hj
      have l := cst_lt (A := two co (co t) b) (lo := lo) (hi := hi) hT hS (show i ≤ T by omega)
      have lb := Nat.lt_of_lt_of_le l (show 2 ^ 21 ≤ 2 ^ 31 by decide)
      rw [m_X7_chainOf_L29, r_1 (by decide), hs.2.1, if_neg (nI_ge hj (by omega)), m_of2 hT hs hj, r_bind, cst]
      simp only [jn, nm]
      rw [m_touchesAny hN hw hs hj lb, nI_1, sh1 (by omega), or_zero, nor]
      simp only [r_bind]
      rw [sel]
      have e1 : (nI (co i) = nI (co t)) ↔ co i = co t := nI_eq (by omega) (by omega)
      have e2 : (nI (co i) = nI b) ↔ co i = b := nI_eq (by omega) (by omega)
      unfold two
      by_cases q1 : co i = co t
      · rw [if_neg (show ¬ (1 : Int32) = 0 by decide), if_pos (e1.mpr q1)]
        cases tany T lo hi i (cst T lo hi (fun t_1 => co t_1 == co t || co t_1 == b) S i) <;> simp [q1]
      · rw [if_neg (show ¬ (1 : Int32) = 0 by decide), if_neg (fun g => q1 (e1.mp g))]
        by_cases q2 : co i = b
        · rw [if_pos (e2.mpr q2)]
          cases tany T lo hi i (cst T lo hi (fun t_1 => co t_1 == co t || co t_1 == b) S i) <;> simp [q2]
        · rw [if_neg (fun g => q2 (e2.mp g))]
          simp [q1, q2]
  have key : ∀ (d n S : Nat), d < n → S < 2 ^ 21 → 21 ≤ pc 21 S + d → ∃ R, R < 2 ^ 21 ∧ m_X7_chainOf_L15 N s (nI b) (nI (co t)) n (nI (cst T lo hi (two co (co t) b) S T)) (nI S) = some (nI R) ∧ isC (clT T lo hi (two co (co t) b)) S R := by
    intro d
    induction d with
    | zero =>
      intro n S hn hS hp
      obtain ⟨n, rfl⟩ : ∃ m, n = m + 1 := ⟨n - 1, by omega⟩
      have q := full_cl hF hS hp
      refine ⟨S, hS, ?_, isC_self ((hF S hS).2.2.2 q)⟩
      rw [m_X7_chainOf_L15, if_pos (congrArg nI q)]
    | succ d ih =>
      intro n S hn hS hp
      obtain ⟨n, rfl⟩ : ∃ m, n = m + 1 := ⟨n - 1, by omega⟩
      obtain ⟨f1, f2, f3, f4⟩ := hF S hS
      by_cases q : cst T lo hi (two co (co t) b) S T = S
      · refine ⟨S, hS, ?_, isC_self (f4 q)⟩
        rw [m_X7_chainOf_L15, if_pos (by rw [q])]
      · obtain ⟨R, h1, h2, h3⟩ := ih n _ (by omega) f1 (by have := pc_grow f1 f2 q; omega)
        refine ⟨R, h1, ?_, isC_step hF hS h3⟩
        have f1' := Nat.lt_of_lt_of_le f1 (show 2 ^ 21 ≤ 2 ^ 31 by decide)
        rw [m_X7_chainOf_L15, if_neg (fun g => q ((nI_eq f1' (by omega)).mp g))]
        simp only [jn]
        rw [inner _ _ f1]
        exact h2
  have hS : 2 ^ t < 2 ^ 21 := p2lt (by omega)
  -- the first round begins from the empty set: one more step
  have p := Nat.two_pow_pos t
  obtain ⟨R, h1, h2, h3⟩ := key 21 (N - 1) (2 ^ t) (by omega) hS (by omega)
  refine ⟨R, h1, ?_, h3⟩
  unfold m_X7_chainOf
  simp only [nm]
  rw [m_of2 hT hs ht, r_bind, sh1 (by omega)]
  obtain ⟨n, hn⟩ : ∃ m, N = m + 1 := ⟨N - 1, by omega⟩
  rw [show N - 1 = n by omega] at h2
  have inner := inner
  rw [hn] at inner h2 ⊢
  rw [m_X7_chainOf_L15, if_neg (fun g => by have := (nI_eq0 (by omega)).mp g; omega)]
  simp only [jn]
  rw [inner _ _ hS]
  exact h2
/-- the class's chain: the threads of both colours that touch what is reached -/
theorem x_chainSet {N T t b : Nat} {lo hi co : Nat → Nat} {e c : Nat → Int32} (hN : 1000 ≤ N) (hw : wt T lo hi co) (he : XE T lo hi e) (hc : XC T co c) (ht : t < T) (hb : b < 4) {C : Nat} (h : isC (clT T lo hi (two co (co t) b)) (2 ^ t) C) : ∃ R, R < 2 ^ 14 ∧ m_X5_reached N (nI T) e (nI (em lo hi t)) (nI (bs (two co (co t) b) T)) = some (nI R) ∧ bs (two co (co t) b) T &&& bs (fun u => em lo hi u &&& R != 0) T = C := by
  have hT := hw.1
  obtain ⟨h1, h2, h3⟩ := hw.2 t ht
  have lB := bs_lt21 (two co (co t) b) hT
  obtain ⟨R, r1, r2, r3⟩ := x_reached (B := bs (two co (co t) b) T) hN hw he (em_lt h1 h2) (by omega)
  rw [clos_cong (B := two co (co t) b) (fun u hu => by rw [tb_bs, decide_eq_true hu]; rfl)] at r3
  refine ⟨R, r1, r2, ?_⟩
  have At : two co (co t) b t = true := by unfold two; simp
  have mem : ∀ u, (bs (two co (co t) b) T &&& bs (fun u => em lo hi u &&& R != 0) T).testBit u = true ↔ u < T ∧ two co (co t) b u = true ∧ ∃ k, isat lo hi u k = true ∧ R.testBit k = true := by
    intro u
    rw [Nat.testBit_and, tb_bs, tb_bs]
    constructor
    · intro g
      simp only [Bool.and_eq_true, decide_eq_true_eq] at g
      obtain ⟨⟨a1, a2⟩, -, a4⟩ := g
      rw [meet_iff (hw.2 u a1).1, Bool.or_eq_true] at a4
      refine ⟨a1, a2, ?_⟩
      rcases a4 with g | g
      · exact ⟨_, by unfold isat; simp, g⟩
      · exact ⟨_, by unfold isat; simp, g⟩
    · rintro ⟨a1, a2, k, a3, a4⟩
      simp only [Bool.and_eq_true, decide_eq_true_eq]
      refine ⟨⟨a1, a2⟩, a1, ?_⟩
      rw [meet_iff (hw.2 u a1).1, Bool.or_eq_true]
      unfold isat at a3
      simp at a3
      rcases a3 with rfl | rfl
      · exact Or.inl a4
      · exact Or.inr a4
  refine isC_one (cl := clT T lo hi (two co (co t) b)) (S := 2 ^ t) ⟨?_, ?_, ?_⟩ h
  · intro u hu
    rw [Nat.testBit_two_pow] at hu
    rw [← of_decide_eq_true hu, mem]
    refine ⟨ht, At, lo t, by unfold isat; simp, r3.1 _ ?_⟩
    rw [tb_em h1]; unfold isat; simp
  · intro u v hu hv hA hC htc
    rw [mem] at hC ⊢
    obtain ⟨-, b2, k, b3, b4⟩ := hC
    obtain ⟨j, c1, c2⟩ := tch_iff.mp htc
    refine ⟨hu, hA, j, c1, ?_⟩
    have cc := r3.2.1 v hv b2
    unfold isat at b3 c2
    simp at b3 c2
    rcases b3 with rfl | rfl <;> rcases c2 with rfl | rfl
    · exact b4
    · rw [← cc]; exact b4
    · rw [cc]; exact b4
    · exact b4
  · intro C' g1 g2 u hu
    rw [mem] at hu
    obtain ⟨u1, u2, k, u3, u4⟩ := hu
    have R'c : ∀ k, (oa (fun v => if two co (co t) b v && C'.testBit v then em lo hi v else 0) T).testBit k = true ↔ ∃ v, v < T ∧ two co (co t) b v = true ∧ C'.testBit v = true ∧ isat lo hi v k = true := by
      intro k
      rw [tb_oa, an_iff]
      constructor
      · rintro ⟨v, hv, g⟩
        cases q : two co (co t) b v && C'.testBit v with
        | false => rw [q] at g; simp at g
        | true =>
          rw [q] at g
          simp only [if_true] at g
          rw [tb_em (hw.2 v hv).1] at g
          rw [Bool.and_eq_true] at q
          exact ⟨v, hv, q.1, q.2, g⟩
      · rintro ⟨v, hv, a1, a2, a3⟩
        refine ⟨v, hv, ?_⟩
        rw [a1, a2]
        simp only [Bool.and_self, if_true]
        rw [tb_em (hw.2 v hv).1]
        exact a3
    have inR := r3.2.2 (oa (fun v => if two co (co t) b v && C'.testBit v then em lo hi v else 0) T) (fun k hk => (R'c k).mpr ⟨t, ht, At, g1 t (by rw [Nat.testBit_two_pow]; simp), by rw [← tb_em h1]; exact hk⟩) (fun v hv hA => by
      have step : ∀ k k', isat lo hi v k = true → isat lo hi v k' = true → (oa (fun v => if two co (co t) b v && C'.testBit v then em lo hi v else 0) T).testBit k = true → (oa (fun v => if two co (co t) b v && C'.testBit v then em lo hi v else 0) T).testBit k' = true := by
        intro k k' hk hk' hR
        obtain ⟨w, w1, w2, w3, w4⟩ := (R'c k).mp hR
        exact (R'c k').mpr ⟨v, hv, hA, g2 v w hv w1 hA w3 (tch_iff.mpr ⟨k, hk, w4⟩), hk'⟩
      rw [Bool.eq_iff_iff]
      exact ⟨step _ _ (by unfold isat; simp) (by unfold isat; simp), step _ _ (by unfold isat; simp) (by unfold isat; simp)⟩)
    obtain ⟨v, v1, v2, v3, v4⟩ := (R'c k).mp (inR k u4)
    exact g2 u v u1 v1 u2 v3 (tch_iff.mpr ⟨k, u3, v4⟩)
