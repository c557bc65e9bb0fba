/-! pure: sums, own counts of lists -/
def sm (f : Nat → Nat) : Nat → Nat
  | 0 => 0
  | n + 1 => sm f n + f n
def cn (x : Nat) : List Nat → Nat
  | [] => 0
  | y :: l => (if y = x then 1 else 0) + cn x l
theorem cn_app (x : Nat) : ∀ (A B : List Nat), cn x (A ++ B) = cn x A + cn x B
  | [], B => by show cn x B = 0 + cn x B; omega
  | y :: A, B => by
    show (if y = x then 1 else 0) + cn x (A ++ B) = (if y = x then 1 else 0) + cn x A + cn x B
    rw [cn_app x A B]
    omega
theorem sm_cong {f g : Nat → Nat} : ∀ {n : Nat}, (∀ i, i < n → f i = g i) → sm f n = sm g n
  | 0, _ => rfl
  | n + 1, h => by rw [sm, sm, sm_cong (fun i hi => h i (by omega)), h n (by omega)]
theorem sm_add (f g : Nat → Nat) : ∀ n, sm (fun i => f i + g i) n = sm f n + sm g n
  | 0 => rfl
  | n + 1 => by rw [sm, sm, sm, sm_add f g n]; omega
theorem sm_zero {f : Nat → Nat} : ∀ {n : Nat}, (∀ i, i < n → f i = 0) → sm f n = 0
  | 0, _ => rfl
  | n + 1, h => by rw [sm, sm_zero (fun i hi => h i (by omega)), h n (by omega)]
theorem sm_le {f g : Nat → Nat} : ∀ {n : Nat}, (∀ i, i < n → f i ≤ g i) → sm f n ≤ sm g n
  | 0, _ => Nat.le_refl _
  | n + 1, h => by
    have a := sm_le (n := n) (fun i hi => h i (by omega))
    have b := h n (by omega)
    rw [sm, sm]
    omega
theorem sm_ct (p : Nat → Bool) : ∀ n, sm (fun i => if p i = true then 1 else 0) n = ct p n
  | 0 => rfl
  | n + 1 => by rw [sm, ct, sm_ct p n]
theorem sm_swap (f : Nat → Nat → Nat) (m : Nat) : ∀ n, sm (fun i => sm (f i) m) n = sm (fun j => sm (fun i => f i j) n) m
  | 0 => (sm_zero (fun _ _ => rfl)).symm
  | n + 1 => by
    rw [sm, sm_swap f m n, ← sm_add]
    rfl
theorem sm_one {f : Nat → Nat} {k : Nat} : ∀ {n : Nat}, k < n → (∀ i, i < n → i ≠ k → f i = 0) → sm f n = f k
  | 0, h, _ => by omega
  | n + 1, h, hz => by
    rw [sm]
    rcases Nat.lt_or_ge k n with q | q
    · rw [sm_one q (fun i hi => hz i (by omega)), hz n (by omega) (by omega)]
      rfl
    · have : k = n := by omega
      rw [this, sm_zero (fun i hi => hz i (by omega) (by omega)), Nat.zero_add]
theorem ct_split (p q : Nat → Bool) : ∀ n, ct (fun i => p i && q i) n + ct (fun i => p i && !q i) n = ct p n
  | 0 => rfl
  | n + 1 => by
    have := ct_split p q n
    rw [ct, ct, ct]
    cases p n <;> cases q n <;> simp <;> omega
-- products
def pr (f : Nat → Nat) : Nat → Nat
  | 0 => 1
  | n + 1 => pr f n * f n
theorem pr_mul (f g : Nat → Nat) : ∀ n, pr (fun i => f i * g i) n = pr f n * pr g n
  | 0 => rfl
  | n + 1 => by
    rw [pr, pr, pr, pr_mul f g n]
    rw [Nat.mul_assoc, Nat.mul_assoc]
    congr 1
    rw [← Nat.mul_assoc, Nat.mul_comm (pr g n) (f n), Nat.mul_assoc]
theorem pr_le {f g : Nat → Nat} : ∀ {n : Nat}, (∀ i, i < n → f i ≤ g i) → pr f n ≤ pr g n
  | 0, _ => Nat.le_refl _
  | n + 1, h => Nat.mul_le_mul (pr_le (fun i hi => h i (by omega))) (h n (by omega))
theorem pr_cong {f g : Nat → Nat} : ∀ {n : Nat}, (∀ i, i < n → f i = g i) → pr f n = pr g n
  | 0, _ => rfl
  | n + 1, h => by rw [pr, pr, pr_cong (fun i hi => h i (by omega)), h n (by omega)]
theorem pr_pow (b : Nat) (e : Nat → Nat) : ∀ n, pr (fun i => b ^ e i) n = b ^ sm e n
  | 0 => rfl
  | n + 1 => by rw [pr, sm, pr_pow b e n, Nat.pow_add]
theorem pr_all1 {f : Nat → Nat} : ∀ {n : Nat}, (∀ i, i < n → f i = 1) → pr f n = 1
  | 0, _ => rfl
  | n + 1, h => by rw [pr, pr_all1 (fun i hi => h i (by omega)), h n (by omega)]
theorem pr_one {f : Nat → Nat} {k : Nat} : ∀ {n : Nat}, k < n → (∀ i, i < n → i ≠ k → f i = 1) → pr f n = f k
  | 0, h, _ => by omega
  | n + 1, h, hz => by
    rw [pr]
    rcases Nat.lt_or_ge k n with q | q
    · rw [pr_one q (fun i hi => hz i (by omega)), hz n (by omega) (by omega), Nat.mul_one]
    · have : k = n := by omega
      rw [this, pr_all1 (fun i hi => hz i (by omega) (by omega)), Nat.one_mul]
-- one to three places
theorem ct_0 {p : Nat → Bool} : ∀ {n : Nat}, ct p n = 0 → ∀ i, i < n → p i = false
  | 0, _, i, hi => by omega
  | n + 1, h, i, hi => by
    rw [ct] at h
    cases q : p n with
    | true => rw [q, if_pos btt] at h; omega
    | false =>
      rcases Nat.lt_or_ge i n with w | w
      · exact ct_0 (by rw [q, if_neg bff] at h; omega) i w
      · rw [show i = n by omega]; exact q
theorem sm_if {p : Nat → Bool} {f : Nat → Nat} {n : Nat} (h : ∀ i, i < n → p i = false) : sm (fun i => if p i = true then f i else 0) n = 0 := sm_zero (fun i hi => by rw [h i hi, if_neg bff])
theorem ct_1 {p : Nat → Bool} : ∀ {n : Nat}, ct p n = 1 → ∃ a, a < n ∧ p a = true ∧ ∀ f : Nat → Nat, sm (fun i => if p i = true then f i else 0) n = f a
  | 0, h => by simp [ct] at h
  | n + 1, h => by
    rw [ct] at h
    cases q : p n with
    | true =>
      rw [q, if_pos btt] at h
      have h0 := ct_0 (p := p) (n := n) (by omega)
      refine ⟨n, by omega, q, fun f => ?_⟩
      rw [sm, sm_if h0, q, if_pos btt, Nat.zero_add]
    | false =>
      rw [q, if_neg bff] at h
      obtain ⟨a, h1, h2, h3⟩ := ct_1 (p := p) (n := n) (by omega)
      refine ⟨a, by omega, h2, fun f => ?_⟩
      rw [sm, h3 f, q, if_neg bff, Nat.add_zero]
theorem ct_2 {p : Nat → Bool} : ∀ {n : Nat}, ct p n = 2 → ∃ a b, a < b ∧ b < n ∧ p a = true ∧ p b = true ∧ ∀ f : Nat → Nat, sm (fun i => if p i = true then f i else 0) n = f a + f b
  | 0, h => by simp [ct] at h
  | n + 1, h => by
    rw [ct] at h
    cases q : p n with
    | true =>
      rw [q, if_pos btt] at h
      obtain ⟨a, h1, h2, h3⟩ := ct_1 (p := p) (n := n) (by omega)
      refine ⟨a, n, h1, by omega, h2, q, fun f => ?_⟩
      rw [sm, h3 f, q, if_pos btt]
    | false =>
      rw [q, if_neg bff] at h
      obtain ⟨a, b, h0, h1, h2, h3, h4⟩ := ct_2 (p := p) (n := n) (by omega)
      refine ⟨a, b, h0, by omega, h2, h3, fun f => ?_⟩
      rw [sm, h4 f, q, if_neg bff, Nat.add_zero]
theorem sm_bound {p : Nat → Bool} {f : Nat → Nat} {B : Nat} : ∀ {n : Nat}, (∀ i, i < n → p i = true → f i ≤ B) → sm (fun i => if p i = true then f i else 0) n ≤ ct p n * B
  | 0, _ => by simp [sm, ct]
  | n + 1, h => by
    have a := sm_bound (n := n) (fun i hi => h i (by omega))
    rw [sm, ct, Nat.add_mul]
    cases q : p n with
    | true =>
      rw [if_pos btt, if_pos btt, Nat.one_mul]
      have := h n (by omega) q
      omega
    | false =>
      rw [if_neg bff, if_neg bff]
      omega
theorem sm_mul (f : Nat → Nat) (c : Nat) : ∀ n, sm (fun i => f i * c) n = sm f n * c
  | 0 => by simp [sm]
  | n + 1 => by rw [sm, sm, sm_mul f c n, Nat.add_mul]
