/-! both classes: the circles that a cover leaves -/
def cir (lo hi : Nat → Nat) (A : Nat → Bool) (S : Nat) : Nat → Nat
  | 0 => S
  | i + 1 => if (A i && ((cir lo hi A S i).testBit (lo i) || (cir lo hi A S i).testBit (hi i))) = true then cir lo hi A S i ||| em lo hi i else cir lo hi A S i
theorem cir_s (lo hi : Nat → Nat) (A : Nat → Bool) (S i : Nat) : subs (cir lo hi A S i) (cir lo hi A S (i + 1)) := by
  intro k q
  rw [cir]
  split
  · rw [Nat.testBit_or, q]; rfl
  · exact q
theorem cir_sub {lo hi : Nat → Nat} {A : Nat → Bool} {S : Nat} : ∀ {i j : Nat}, i ≤ j → subs (cir lo hi A S i) (cir lo hi A S j)
  | i, 0, h => by rw [show i = 0 by omega]; exact fun _ q => q
  | i, j + 1, h => by
    rcases Nat.lt_or_ge i (j + 1) with g | g
    · exact subs_tr (cir_sub (j := j) (by omega)) (cir_s lo hi A S j)
    · rw [show i = j + 1 by omega]; exact fun _ q => q
theorem cir_lt {T : Nat} {lo hi co : Nat → Nat} {A : Nat → Bool} {S : Nat} (hw : wt T lo hi co) (hS : S < 2 ^ 14) : ∀ {i : Nat}, i ≤ T → cir lo hi A S i < 2 ^ 14
  | 0, _ => hS
  | i + 1, h => by
    have a := cir_lt (A := A) hw hS (i := i) (by omega)
    rw [cir]
    split
    · exact or_lt a (em_lt (hw.2 i (by omega)).1 (hw.2 i (by omega)).2.1)
    · exact a
theorem cir_good {T : Nat} {lo hi co : Nat → Nat} (hw : wt T lo hi co) (A : Nat → Bool) : goodF 14 (clos T lo hi A) (fun S => cir lo hi A S T) := by
  intro S hS
  refine ⟨cir_lt hw hS (Nat.le_refl T), cir_sub (i := 0) (Nat.zero_le T), ?_, ?_⟩
  · intro R' h1 h2
    have : ∀ i, i ≤ T → subs (cir lo hi A S i) R' := by
      intro i
      induction i with
      | zero => intro _; exact h1
      | succ i ih =>
        intro hi' k q
        have ih := ih (by omega)
        have hh := (hw.2 i (by omega)).1
        rw [cir] at q
        split at q
        · rename_i g
          rw [Bool.and_eq_true, Bool.or_eq_true] at g
          rw [Nat.testBit_or, Bool.or_eq_true] at q
          rcases q with q | q
          · exact ih k q
          · have c := h2 i (by omega) g.1
            have both : R'.testBit (lo i) = true ∧ R'.testBit (hi i) = true := by
              rcases g.2 with g | g
              · have := ih _ g; exact ⟨this, by rw [← c]; exact this⟩
              · have := ih _ g; exact ⟨by rw [c]; exact this, this⟩
            rw [tb_em hh] at q
            unfold isat at q
            simp at q
            rcases q with rfl | rfl
            · exact both.1
            · exact both.2
        · exact ih k q
    exact this T (Nat.le_refl T)
  · intro e t ht hA
    have e : cir lo hi A S T = S := e
    have hh := (hw.2 t ht).1
    have eq : cir lo hi A S t = S := subs_eq (by have := cir_sub (A := A) (S := S) (lo := lo) (hi := hi) (i := t) (j := T) (by omega); rw [e] at this; exact this) (cir_sub (i := 0) (Nat.zero_le t))
    have key : (S.testBit (lo t) || S.testBit (hi t)) = true → S.testBit (lo t) = true ∧ S.testBit (hi t) = true := by
      intro g
      have big : subs (cir lo hi A S (t + 1)) S := by
        have := cir_sub (A := A) (S := S) (lo := lo) (hi := hi) (i := t + 1) (j := T) (by omega)
        rw [e] at this
        exact this
      rw [cir, eq, hA, g, Bool.and_self, if_pos btt] at big
      refine ⟨big _ ?_, big _ ?_⟩
      · rw [Nat.testBit_or, tb_em hh]; unfold isat; simp
      · rw [Nat.testBit_or, tb_em hh]; unfold isat; simp
    cases q1 : S.testBit (lo t) with
    | true => rw [(key (by rw [q1]; rfl)).2]
    | false =>
      cases q2 : S.testBit (hi t) with
      | false => rfl
      | true => have := (key (by rw [q2, Bool.or_true])).1; rw [q1] at this; cases this
theorem m_circleOf {N K T k B : Nat} {lo hi co : Nat → Nat} {s : Nat → Int32} (hN : 1000 ≤ N) (hw : wt T lo hi co) (hs : MN K T lo hi co s) (hk : k < 14) (hB : B < 2 ^ 31) : ∃ R, R < 2 ^ 14 ∧ m_X7_circleOf N s (nI k) (nI B) = some (nI R) ∧ isC (clos T lo hi (fun t => !B.testBit t)) (2 ^ k) R := by
  have hT := hw.1
  have hF := cir_good hw (fun t => !B.testBit t)
  have inner : ∀ (J : Int32 → Option Int32) (S : Nat), S < 2 ^ 14 → m_X7_circleOf_L19 N s (nI B) J N 0 (nI S) = J (nI (cir lo hi (fun t => !B.testBit t) S T)) := by
    intro J S hS
    refine for_up (fun n i (acc : Nat) => m_X7_circleOf_L19 N s (nI B) J n (nI i) (nI acc)) T (fun i => cir lo hi (fun t => !B.testBit t) S i) _ ?_ ?_ T N 0 (by omega) (by omega)
    · intro n
      show m_X7_circleOf_L19 N s (nI B) J (n + 1) (nI T) _ = _
      rw [m_X7_circleOf_L19, r_1 (by decide), hs.2.1, if_pos (nI_le (Nat.le_refl _) (by omega))]
    · intro n i hj
      show m_X7_circleOf_L19 N s (nI B) J (n + 1) (nI i) (nI (cir lo hi (fun t => !B.testBit t) S i)) = m_X7_circleOf_L19 N s (nI B) J n (nI (i + 1)) (nI (if (!B.testBit i && ((cir lo hi (fun t => !B.testBit t) S i).testBit (lo i) || (cir lo hi (fun t => !B.testBit t) S i).testBit (hi i))) = true then cir lo hi (fun t => !B.testBit t) S i ||| em lo hi i else cir lo hi (fun t => !B.testBit t) S i))
      obtain ⟨h1, h2, h3⟩ := hw.2 i hj
      have l := cir_lt (A := fun t => !B.testBit t) hw hS (show i ≤ T by omega)
      generalize cir lo hi (fun t => !B.testBit t) S i = C at l ⊢
      rw [m_X7_circleOf_L19, r_1 (by decide), hs.2.1, if_neg (nI_ge hj (by omega)), m_has hB (by omega), r_bind]
      simp only [jn, nm]
      rw [m_of0 hT hs hj, m_of1 hT hs hj, nI_1]
      simp only [r_bind]
      rw [m_has (by omega) (by omega), m_has (by omega) (by omega), sh1 (by omega), sh1 (by omega), nor, nor, or_zero, ← Nat.or_assoc, em_or h1]
      simp only [r_bind]
      cases B.testBit i <;> cases C.testBit (lo i) <;> cases C.testBit (hi i) <;> rfl
  have key : ∀ (d n S : Nat), d < n → S < 2 ^ 14 → 14 ≤ pc 14 S + d → ∃ R, R < 2 ^ 14 ∧ m_X7_circleOf_L7 N s (nI B) n (nI (cir lo hi (fun t => !B.testBit t) S T)) (nI S) = some (nI R) ∧ isC (clos T lo hi (fun t => !B.testBit t)) S R := by
    intro d
    induction d with
    | zero =>
      intro n S hn hS hp
      obtain ⟨n, rfl⟩ : ∃ m, n = m + 1 := ⟨n - 1, by omega⟩
      have q := full_cl hF hS hp
      refine ⟨S, hS, ?_, isC_self ((hF S hS).2.2.2 q)⟩
      rw [m_X7_circleOf_L7, if_pos (congrArg nI q)]
    | succ d ih =>
      intro n S hn hS hp
      obtain ⟨n, rfl⟩ : ∃ m, n = m + 1 := ⟨n - 1, by omega⟩
      obtain ⟨f1, f2, f3, f4⟩ := hF S hS
      by_cases q : cir lo hi (fun t => !B.testBit t) S T = S
      · refine ⟨S, hS, ?_, isC_self (f4 q)⟩
        rw [m_X7_circleOf_L7, if_pos (by rw [q])]
      · obtain ⟨R, h1, h2, h3⟩ := ih n _ (by omega) f1 (by have := pc_grow f1 f2 q; omega)
        refine ⟨R, h1, ?_, isC_step hF hS h3⟩
        have f1' := Nat.lt_of_lt_of_le f1 (show 2 ^ 14 ≤ 2 ^ 31 by decide)
        rw [m_X7_circleOf_L7, if_neg (fun g => q ((nI_eq f1' (by omega)).mp g))]
        simp only [jn]
        rw [inner _ _ f1]
        exact h2
  have hS : 2 ^ k < 2 ^ 14 := p2lt (by omega)
  have p := Nat.two_pow_pos k
  obtain ⟨R, h1, h2, h3⟩ := key 14 (N - 1) (2 ^ k) (by omega) hS (by omega)
  refine ⟨R, h1, ?_, h3⟩
  unfold m_X7_circleOf
  simp only [nm]
  rw [sh1 (by omega)]
  obtain ⟨n, hn⟩ : ∃ m, N = m + 1 := ⟨N - 1, by omega⟩
  rw [show N - 1 = n by omega] at h2
  have inner := inner
  rw [hn] at inner h2 ⊢
  rw [m_X7_circleOf_L7, if_neg (fun g => by have := (nI_eq0 (by omega)).mp g; omega)]
  simp only [jn]
  rw [inner _ _ hS]
  exact h2
/-- what is found circle by circle: the knots seen, how many, how many odd ones, the longest -/
def cst4 (P z : Nat → Nat) : Nat → Nat × Nat × Nat × Nat
  | 0 => (0, 0, 0, 0)
  | i + 1 => if (cst4 P z i).1.testBit i = true then cst4 P z i else ((cst4 P z i).1 ||| P i, (cst4 P z i).2.1 + 1, (cst4 P z i).2.2.1 + z i % 2, max (cst4 P z i).2.2.2 (z i))
theorem cst4_le {P z : Nat → Nat} {K : Nat} (hP : ∀ k, k < K → P k < 2 ^ 14 ∧ z k ≤ 24) : ∀ i, i ≤ K → (cst4 P z i).1 < 2 ^ 14 ∧ (cst4 P z i).2.1 ≤ i ∧ (cst4 P z i).2.2.1 ≤ i ∧ (cst4 P z i).2.2.2 ≤ 24 := by
  intro i
  induction i with
  | zero => intro _; exact ⟨Nat.two_pow_pos 14, Nat.le_refl _, Nat.le_refl _, Nat.zero_le _⟩
  | succ i ih =>
    intro h
    obtain ⟨h1, h2, h3, h4⟩ := ih (by omega)
    obtain ⟨p1, p2⟩ := hP i (by omega)
    rw [cst4]
    split
    · exact ⟨h1, by omega, by omega, h4⟩
    · have := Nat.mod_lt (z i) (show 0 < 2 by decide)
      exact ⟨or_lt h1 p1, by show _ + 1 ≤ _; omega, by show _ + z i % 2 ≤ _; omega, by show max _ _ ≤ _; omega⟩
theorem mx_N {a b : Nat} (ha : a < 2 ^ 31) (hb : b < 2 ^ 31) : mxi (nI a) (nI b) = nI (max a b) := by
  unfold mxi
  by_cases q : a < b
  · rw [if_pos (nI_lt q hb), show max a b = b by omega]
  · rw [if_neg (nI_nlt (by omega) ha), show max a b = a by omega]
theorem im_2 {a : Nat} (ha : a < 2 ^ 31) : im (nI a) 2 = nI (a % 2) := pk_rem (d := 2) ha (by decide) (by decide)
theorem both_circles {N K T B : Nat} {lo hi co : Nat → Nat} {e s f : Nat → Int32} {rank : Nat} (hN : 1000 ≤ N) (hK : K ≤ 14) (hw : wt T lo hi co) (he : XE T lo hi e) (hs : MN K T lo hi co s) (hr : rank < 80) (hB : B < 2 ^ 21) (hf : f rank = nI B) : ∃ c o l, o ≤ 14 ∧ (∀ a b d, m_X0_leave N f a b d (nI K) (nI T) e (nI rank) = some (nI c, nI o, nI l)) ∧ ∀ a b d, m_X7_findCircles N s a b d (nI B) = some (nI c, nI o, nI l) := by
  have hT := hw.1
  have aK := allK hK
  have ad21 : ad (2 ^ T - 1) B < 2 ^ 31 := by
    have := p2le hT
    have := Nat.two_pow_pos T
    have : ad (2 ^ T - 1) B < 2 ^ 21 := ad_lt (by omega)
    omega
  have one : ∀ k, k < 14 → ∃ R, R < 2 ^ 14 ∧ m_X5_reached N (nI T) e (nI (2 ^ k)) (nI (ad (2 ^ T - 1) B)) = some (nI R) ∧ m_X7_circleOf N s (nI k) (nI B) = some (nI R) := by
    intro k hk
    obtain ⟨R, h1, h2, h3⟩ := x_reached hN hw he (p2lt hk) ad21
    obtain ⟨R', g1, g2, g3⟩ := m_circleOf hN hw hs hk (show B < 2 ^ 31 by omega)
    have cl : clos T lo hi (fun t => (ad (2 ^ T - 1) B).testBit t) = clos T lo hi (fun t => !B.testBit t) := clos_cong (fun t ht => by rw [tb_ad, tb_all, decide_eq_true ht]; rfl)
    rw [cl] at h3
    rw [isC_one g3 h3] at g2
    exact ⟨R, h1, h2, g2⟩
  obtain ⟨P, hP⟩ : ∃ P : Nat → Nat, ∀ k, k < K → P k < 2 ^ 14 ∧ m_X5_reached N (nI T) e (nI (2 ^ k)) (nI (ad (2 ^ T - 1) B)) = some (nI (P k)) ∧ m_X7_circleOf N s (nI k) (nI B) = some (nI (P k)) := by
    refine ⟨fun k => if h : k < K then Classical.choose (one k (by omega)) else 0, fun k hk => ?_⟩
    simp only [dif_pos hk]
    exact Classical.choose_spec (one k (by omega))
  have bd := cst4_le (P := P) (z := fun k => pop 24 (P k)) (K := K) (fun k hk => ⟨(hP k hk).1, pop_le 24 _⟩)
  refine ⟨(cst4 P (fun k => pop 24 (P k)) K).2.1, (cst4 P (fun k => pop 24 (P k)) K).2.2.1, (cst4 P (fun k => pop 24 (P k)) K).2.2.2, by have := bd K (Nat.le_refl _); omega, fun a b d => ?_, fun a b d => ?_⟩
  · unfold m_X0_leave m_X0_get
    rw [x_allThreads hT, r_bind, x_at (by omega) (by decide), r_bind, hf, r_bind]
    simp only [nm]
    rw [nandn, x_allKnots hK, r_bind]
    have e0 : ad (2 ^ K - 1) (cst4 P (fun k => pop 24 (P k)) 0).1 = 2 ^ K - 1 := by
      apply Nat.eq_of_testBit_eq
      intro i
      rw [tb_ad]
      show ((2 ^ K - 1).testBit i && !(0 : Nat).testBit i) = _
      rw [Nat.zero_testBit]
      simp
    refine Eq.trans (b := m_X0_leave_L37 N (nI K) (nI T) e (nI (ad (2 ^ T - 1) B)) N (nI 0) (nI (ad (2 ^ K - 1) (cst4 P (fun k => pop 24 (P k)) 0).1)) (nI (cst4 P (fun k => pop 24 (P k)) 0).2.1) (nI (cst4 P (fun k => pop 24 (P k)) 0).2.2.1) (nI (cst4 P (fun k => pop 24 (P k)) 0).2.2.2)) (by rw [e0]; rfl) ?_
    refine for_up (fun n i (q : Nat × Nat × Nat × Nat) => m_X0_leave_L37 N (nI K) (nI T) e (nI (ad (2 ^ T - 1) B)) n (nI i) (nI (ad (2 ^ K - 1) q.1)) (nI q.2.1) (nI q.2.2.1) (nI q.2.2.2)) K (fun i => cst4 P (fun k => pop 24 (P k)) i) _ ?_ ?_ K N 0 (by omega) (by omega)
    · intro n
      show m_X0_leave_L37 N (nI K) (nI T) e (nI (ad (2 ^ T - 1) B)) (n + 1) (nI K) _ _ _ _ = _
      rw [m_X0_leave_L37]
      show Option.bind (some (nI K)) _ = _
      rw [r_bind, if_pos (nI_le (Nat.le_refl _) (by omega))]
    · intro n i hj
      obtain ⟨b1, b2, b3, b4⟩ := bd i (by omega)
      obtain ⟨p1, p2, p3⟩ := hP i hj
      have pz := pop_le 24 (P i)
      have stepq : cst4 P (fun k => pop 24 (P k)) (i + 1) = if (cst4 P (fun k => pop 24 (P k)) i).1.testBit i = true then cst4 P (fun k => pop 24 (P k)) i else ((cst4 P (fun k => pop 24 (P k)) i).1 ||| P i, (cst4 P (fun k => pop 24 (P k)) i).2.1 + 1, (cst4 P (fun k => pop 24 (P k)) i).2.2.1 + pop 24 (P i) % 2, max (cst4 P (fun k => pop 24 (P k)) i).2.2.2 (pop 24 (P i))) := rfl
      show m_X0_leave_L37 N (nI K) (nI T) e (nI (ad (2 ^ T - 1) B)) (n + 1) (nI i) (nI (ad (2 ^ K - 1) (cst4 P (fun k => pop 24 (P k)) i).1)) (nI (cst4 P (fun k => pop 24 (P k)) i).2.1) (nI (cst4 P (fun k => pop 24 (P k)) i).2.2.1) (nI (cst4 P (fun k => pop 24 (P k)) i).2.2.2) = m_X0_leave_L37 N (nI K) (nI T) e (nI (ad (2 ^ T - 1) B)) n (nI (i + 1)) (nI (ad (2 ^ K - 1) (cst4 P (fun k => pop 24 (P k)) (i + 1)).1)) (nI (cst4 P (fun k => pop 24 (P k)) (i + 1)).2.1) (nI (cst4 P (fun k => pop 24 (P k)) (i + 1)).2.2.1) (nI (cst4 P (fun k => pop 24 (P k)) (i + 1)).2.2.2)
      rw [stepq]
      generalize cst4 P (fun k => pop 24 (P k)) i = q at b1 b2 b3 b4 ⊢
      have la : ad (2 ^ K - 1) q.1 < 2 ^ 31 := by have : ad (2 ^ K - 1) q.1 < 2 ^ 14 := ad_lt aK; omega
      rw [m_X0_leave_L37]
      show Option.bind (some (nI K)) _ = _
      rw [r_bind, if_neg (nI_ge hj (by omega)), m_holds la (by omega), r_bind, sel, tb_ad, tb_all, decide_eq_true hj, Bool.true_and, nI_1]
      cases w : q.1.testBit i with
      | true =>
        rw [if_neg (show ¬ (!true) = true by decide)]
        rw [if_pos btt, nI_1]
      | false =>
        rw [if_pos (show (!false) = true from rfl), if_neg bff, m_bit (by omega), r_bind, p2, r_bind, m_bitCount (by omega), r_bind]
        simp only [nm]
        rw [nandn, ad_ad, nI_1, and1, nI_add, mx_N (by omega) (by omega)]
  · unfold m_X7_findCircles
    refine for_up (fun n i (q : Nat × Nat × Nat × Nat) => m_X7_findCircles_L19 N s (nI B) n (nI i) (nI q.1) (nI q.2.1) (nI q.2.2.1) (nI q.2.2.2)) K (fun i => cst4 P (fun k => pop 24 (P k)) i) _ ?_ ?_ K N 0 (by omega) (by omega)
    · intro n
      show m_X7_findCircles_L19 N s (nI B) (n + 1) (nI K) _ _ _ _ = _
      rw [m_X7_findCircles_L19, r_0 (by decide), hs.1, if_pos (nI_le (Nat.le_refl _) (by omega))]
    · intro n i hj
      obtain ⟨b1, b2, b3, b4⟩ := bd i (by omega)
      obtain ⟨p1, p2, p3⟩ := hP i hj
      have pz := pop_le 24 (P i)
      have stepq : cst4 P (fun k => pop 24 (P k)) (i + 1) = if (cst4 P (fun k => pop 24 (P k)) i).1.testBit i = true then cst4 P (fun k => pop 24 (P k)) i else ((cst4 P (fun k => pop 24 (P k)) i).1 ||| P i, (cst4 P (fun k => pop 24 (P k)) i).2.1 + 1, (cst4 P (fun k => pop 24 (P k)) i).2.2.1 + pop 24 (P i) % 2, max (cst4 P (fun k => pop 24 (P k)) i).2.2.2 (pop 24 (P i))) := rfl
      show m_X7_findCircles_L19 N s (nI B) (n + 1) (nI i) (nI (cst4 P (fun k => pop 24 (P k)) i).1) (nI (cst4 P (fun k => pop 24 (P k)) i).2.1) (nI (cst4 P (fun k => pop 24 (P k)) i).2.2.1) (nI (cst4 P (fun k => pop 24 (P k)) i).2.2.2) = m_X7_findCircles_L19 N s (nI B) n (nI (i + 1)) (nI (cst4 P (fun k => pop 24 (P k)) (i + 1)).1) (nI (cst4 P (fun k => pop 24 (P k)) (i + 1)).2.1) (nI (cst4 P (fun k => pop 24 (P k)) (i + 1)).2.2.1) (nI (cst4 P (fun k => pop 24 (P k)) (i + 1)).2.2.2)
      rw [stepq]
      generalize cst4 P (fun k => pop 24 (P k)) i = q at b1 b2 b3 b4 ⊢
      rw [m_X7_findCircles_L19, r_0 (by decide), hs.1, if_neg (nI_ge hj (by omega)), m_has (by omega) (by omega), r_bind, sel, nI_1]
      cases w : q.1.testBit i with
      | true => rfl
      | false =>
        have po : m_X7_ones N (nI (P i)) = some (nI (pop 24 (P i))) := by
          have := pop_le 31 (P i)
          rw [r_ones hN (by omega) (by omega), pop_same (by omega)]
        rw [if_neg bff, if_neg bff, p3, r_bind]
        simp only [nm, jn]
        rw [po, r_bind, r_bind, r_bind, nor, nI_1, im_2 (by omega), nI_add]
        by_cases v : pop 24 (P i) ≤ q.2.2.2
        · rw [if_pos (nI_le v (by omega)), show max q.2.2.2 (pop 24 (P i)) = q.2.2.2 by omega]
        · rw [if_neg (nI_ge (by omega) (by omega)), show max q.2.2.2 (pop 24 (P i)) = pop 24 (P i) by omega]
