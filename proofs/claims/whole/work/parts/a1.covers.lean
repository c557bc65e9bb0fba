/-! pure: all covers, by the greatest thread first, and by any knot -/
def cvl (all : Nat) (lo hi : Nat → Nat) : Nat → Nat → Nat → List Nat
  | 0, cov, c => if cov = all then [c] else []
  | n + 1, cov, c => cvl all lo hi n cov c ++ (if cov &&& em lo hi n = 0 then cvl all lo hi n (cov ||| em lo hi n) (c ||| 2 ^ n) else [])
theorem dj_iff {a b : Nat} : a &&& b = 0 ↔ ∀ j, a.testBit j = true → b.testBit j = true → False := by
  constructor
  · intro h j h1 h2
    exact and_ne0.mpr ⟨j, h1, h2⟩ h
  · intro h
    rcases Nat.eq_zero_or_pos (a &&& b) with q | q
    · exact q
    · obtain ⟨j, h1, h2⟩ := and_ne0.mp (show a &&& b ≠ 0 by omega)
      exact (h j h1 h2).elim
theorem dj_or {a b c : Nat} : (a ||| b) &&& c = 0 ↔ a &&& c = 0 ∧ b &&& c = 0 := by
  rw [dj_iff, dj_iff, dj_iff]
  constructor
  · intro h
    exact ⟨fun j h1 h2 => h j (by rw [Nat.testBit_or, h1]; rfl) h2, fun j h1 h2 => h j (by rw [Nat.testBit_or, h1, Bool.or_true]) h2⟩
  · rintro ⟨h1, h2⟩ j g1 g2
    rw [Nat.testBit_or, Bool.or_eq_true] at g1
    exact g1.elim (fun g => h1 j g g2) (fun g => h2 j g g2)
theorem dj_comm {a b : Nat} : a &&& b = 0 ↔ b &&& a = 0 := by rw [Nat.and_comm]
/-- a thread that can cover a knot -/
def opt (lo hi : Nat → Nat) (cov k t : Nat) : Bool := isat lo hi t k && decide (cov &&& em lo hi t = 0)
theorem opt_iff {lo hi : Nat → Nat} {cov k t : Nat} : opt lo hi cov k t = true ↔ isat lo hi t k = true ∧ cov &&& em lo hi t = 0 := by
  unfold opt
  rw [Bool.and_eq_true, decide_eq_true_iff]
theorem if_opt {lo hi : Nat → Nat} {cov k t : Nat} (a b : Nat) (h : isat lo hi t k = true) : (if opt lo hi cov k t = true then a else b) = if cov &&& em lo hi t = 0 then a else b := by
  by_cases q : cov &&& em lo hi t = 0
  · rw [if_pos q, if_pos (opt_iff.mpr ⟨h, q⟩)]
  · rw [if_neg q, if_neg (fun z => q (opt_iff.mp z).2)]
theorem cvl_at {all T : Nat} {lo hi : Nat → Nat} (φ : List Nat → Nat) (h0 : φ [] = 0) (ha : ∀ A B, φ (A ++ B) = φ A + φ B) (hlt : ∀ t, t < T → lo t < hi t) {k : Nat} (hk : all.testBit k = true) : ∀ (n cov c : Nat), n ≤ T → cov.testBit k = false → φ (cvl all lo hi n cov c) = sm (fun t => if opt lo hi cov k t = true then φ (cvl all lo hi n (cov ||| em lo hi t) (c ||| 2 ^ t)) else 0) n := by
  have φif : ∀ (p : Prop) [Decidable p] (A : List Nat), φ (if p then A else []) = if p then φ A else 0 := by
    intro p hp A
    by_cases q : p
    · rw [if_pos q, if_pos q]
    · rw [if_neg q, if_neg q, h0]
  intro n
  induction n with
  | zero =>
    intro cov c hn hc
    show φ (if cov = all then [c] else []) = 0
    rw [if_neg (fun q => by rw [q, hk] at hc; cases hc), h0]
  | succ n ih =>
    intro cov c hn hc
    have tn := tb_em (hlt n (by omega)) k
    have e1 : φ (cvl all lo hi (n + 1) cov c) = φ (cvl all lo hi n cov c) + if cov &&& em lo hi n = 0 then φ (cvl all lo hi n (cov ||| em lo hi n) (c ||| 2 ^ n)) else 0 := by
      show φ (cvl all lo hi n cov c ++ _) = _
      rw [ha, φif]
    have e2 : ∀ t, φ (cvl all lo hi (n + 1) (cov ||| em lo hi t) (c ||| 2 ^ t)) = φ (cvl all lo hi n (cov ||| em lo hi t) (c ||| 2 ^ t)) + if (cov ||| em lo hi t) &&& em lo hi n = 0 then φ (cvl all lo hi n ((cov ||| em lo hi t) ||| em lo hi n) ((c ||| 2 ^ t) ||| 2 ^ n)) else 0 := by
      intro t
      show φ (cvl all lo hi n (cov ||| em lo hi t) (c ||| 2 ^ t) ++ _) = _
      rw [ha, φif]
    rw [e1, sm, ih cov c (by omega) hc]
    cases q : isat lo hi n k with
    | true =>
      have e3 : sm (fun t => if opt lo hi cov k t = true then φ (cvl all lo hi (n + 1) (cov ||| em lo hi t) (c ||| 2 ^ t)) else 0) n = sm (fun t => if opt lo hi cov k t = true then φ (cvl all lo hi n (cov ||| em lo hi t) (c ||| 2 ^ t)) else 0) n := by
        apply sm_cong
        intro t ht
        by_cases w : opt lo hi cov k t = true
        · rw [if_pos w, if_pos w, e2, if_neg, Nat.add_zero]
          intro z
          obtain ⟨w1, -⟩ := opt_iff.mp w
          exact dj_iff.mp z k (by rw [Nat.testBit_or, tb_em (hlt t (by omega)), w1, Bool.or_true]) (by rw [tn, q])
        · rw [if_neg w, if_neg w]
      rw [e3, if_opt _ _ q]
      congr 1
      by_cases w : cov &&& em lo hi n = 0
      · rw [if_pos w, if_pos w, e2, if_neg, Nat.add_zero]
        intro z
        exact dj_iff.mp z k (by rw [Nat.testBit_or, tn, q, Bool.or_true]) (by rw [tn, q])
      · rw [if_neg w, if_neg w]
    | false =>
      rw [if_neg (show ¬ opt lo hi cov k n = true from fun z => by have := (opt_iff.mp z).1; rw [q] at this; cases this), Nat.add_zero]
      have e3 : sm (fun t => if opt lo hi cov k t = true then φ (cvl all lo hi (n + 1) (cov ||| em lo hi t) (c ||| 2 ^ t)) else 0) n = sm (fun t => (if opt lo hi cov k t = true then φ (cvl all lo hi n (cov ||| em lo hi t) (c ||| 2 ^ t)) else 0) + if opt lo hi cov k t = true then (if (cov ||| em lo hi t) &&& em lo hi n = 0 then φ (cvl all lo hi n ((cov ||| em lo hi t) ||| em lo hi n) ((c ||| 2 ^ t) ||| 2 ^ n)) else 0) else 0) n := by
        apply sm_cong
        intro t ht
        by_cases w : opt lo hi cov k t = true
        · rw [if_pos w, if_pos w, if_pos w, e2]
        · rw [if_neg w, if_neg w, if_neg w]
      rw [e3, sm_add]
      congr 1
      by_cases w : cov &&& em lo hi n = 0
      · rw [if_pos w, ih (cov ||| em lo hi n) (c ||| 2 ^ n) (by omega) (by rw [Nat.testBit_or, hc, tn, q]; rfl)]
        apply sm_cong
        intro t ht
        have o1 : (cov ||| em lo hi n) ||| em lo hi t = (cov ||| em lo hi t) ||| em lo hi n := by
          rw [Nat.or_assoc, Nat.or_comm (em lo hi n), ← Nat.or_assoc]
        have o2 : (c ||| 2 ^ n) ||| 2 ^ t = (c ||| 2 ^ t) ||| 2 ^ n := by
          rw [Nat.or_assoc, Nat.or_comm (2 ^ n), ← Nat.or_assoc]
        rw [o1, o2]
        by_cases v : opt lo hi cov k t = true
        · obtain ⟨v1, v2⟩ := opt_iff.mp v
          rw [if_pos v]
          by_cases y : (cov ||| em lo hi t) &&& em lo hi n = 0
          · rw [if_pos y, if_pos (opt_iff.mpr ⟨v1, dj_or.mpr ⟨v2, dj_comm.mp (dj_or.mp y).2⟩⟩)]
          · rw [if_neg y, if_neg]
            intro z
            exact y (dj_or.mpr ⟨w, dj_comm.mp (dj_or.mp (opt_iff.mp z).2).2⟩)
        · rw [if_neg v, if_neg]
          intro z
          exact v (opt_iff.mpr ⟨(opt_iff.mp z).1, (dj_or.mp (opt_iff.mp z).2).1⟩)
      · rw [if_neg w]
        refine (sm_zero (fun t ht => ?_)).symm
        by_cases v : opt lo hi cov k t = true
        · rw [if_pos v, if_neg (fun z => w (dj_or.mp z).1)]
        · rw [if_neg v]
theorem cvl_nil {all : Nat} {lo hi : Nat → Nat} : ∀ (n cov c : Nat), (∃ j, all.testBit j = true ∧ cov.testBit j = false ∧ (oa (em lo hi) n).testBit j = false) → cvl all lo hi n cov c = [] := by
  intro n
  induction n with
  | zero =>
    rintro cov c ⟨j, h1, h2, -⟩
    show (if cov = all then [c] else []) = []
    rw [if_neg (fun q => by rw [q, h1] at h2; cases h2)]
  | succ n ih =>
    rintro cov c ⟨j, h1, h2, h3⟩
    rw [oa, Nat.testBit_or, Bool.or_eq_false_iff] at h3
    show cvl all lo hi n cov c ++ _ = []
    rw [ih cov c ⟨j, h1, h2, h3.1⟩, List.nil_append]
    split
    · exact ih _ _ ⟨j, h1, by rw [Nat.testBit_or, h2, h3.2]; rfl, h3.1⟩
    · rfl
/-- all that is put into a list lies in a stretch, and comes in order -/
theorem cvl_in {all : Nat} {lo hi : Nat → Nat} : ∀ (n cov q : Nat), ∀ x ∈ cvl all lo hi n cov (2 ^ n * q), 2 ^ n * q ≤ x ∧ x < 2 ^ n * (q + 1) := by
  intro n
  induction n with
  | zero =>
    intro cov q x hx
    have hx : x ∈ (if cov = all then [2 ^ 0 * q] else []) := hx
    split at hx
    · rw [List.mem_singleton] at hx
      rw [hx]
      omega
    · cases hx
  | succ n ih =>
    intro cov q x hx
    have hx : x ∈ cvl all lo hi n cov (2 ^ (n + 1) * q) ++ (if cov &&& em lo hi n = 0 then cvl all lo hi n (cov ||| em lo hi n) (2 ^ (n + 1) * q ||| 2 ^ n) else []) := hx
    have p : 2 ^ (n + 1) * q = 2 ^ n * (2 * q) := by rw [Nat.pow_succ, Nat.mul_assoc]
    have p1 : 2 ^ (n + 1) * (q + 1) = 2 ^ n * (2 * q + 2) := by rw [Nat.pow_succ, Nat.mul_assoc]; congr 1
    have p2 : 2 ^ (n + 1) * q ||| 2 ^ n = 2 ^ n * (2 * q + 1) := by
      rw [← Nat.two_pow_add_eq_or_of_lt (p2lt (Nat.lt_succ_self n)), p, Nat.mul_add, Nat.mul_one]
    have m1 := Nat.mul_le_mul_left (2 ^ n) (show 2 * q + 1 ≤ 2 * q + 2 by omega)
    have m2 := Nat.mul_le_mul_left (2 ^ n) (show 2 * q ≤ 2 * q + 1 by omega)
    rw [List.mem_append] at hx
    rw [p2] at hx
    rw [p] at hx ⊢
    rw [p1]
    rcases hx with hx | hx
    · have := ih cov (2 * q) x hx
      omega
    · split at hx
      · have := ih _ (2 * q + 1) x hx
        rw [show 2 * q + 1 + 1 = 2 * q + 2 by omega] at this
        omega
      · cases hx
theorem cvl_sorted {all : Nat} {lo hi : Nat → Nat} : ∀ (n cov q : Nat), (cvl all lo hi n cov (2 ^ n * q)).Pairwise (· ≤ ·) := by
  intro n
  induction n with
  | zero =>
    intro cov q
    show (if cov = all then [2 ^ 0 * q] else []).Pairwise (· ≤ ·)
    split
    · exact List.pairwise_singleton _ _
    · exact List.Pairwise.nil
  | succ n ih =>
    intro cov q
    have p : 2 ^ (n + 1) * q = 2 ^ n * (2 * q) := by rw [Nat.pow_succ, Nat.mul_assoc]
    have p2 : 2 ^ (n + 1) * q ||| 2 ^ n = 2 ^ n * (2 * q + 1) := by
      rw [← Nat.two_pow_add_eq_or_of_lt (p2lt (Nat.lt_succ_self n)), p, Nat.mul_add, Nat.mul_one]
    show (cvl all lo hi n cov (2 ^ (n + 1) * q) ++ (if cov &&& em lo hi n = 0 then cvl all lo hi n (cov ||| em lo hi n) (2 ^ (n + 1) * q ||| 2 ^ n) else [])).Pairwise (· ≤ ·)
    rw [p2, p]
    split
    · rw [List.pairwise_append]
      refine ⟨ih _ _, ih _ _, fun x hx y hy => ?_⟩
      have a := cvl_in n cov (2 * q) x hx
      have b := cvl_in n _ (2 * q + 1) y hy
      omega
    · rw [List.append_nil]
      exact ih _ _
