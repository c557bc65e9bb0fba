/-! pure: the small functions of both classes over a net of T threads -/
theorem tb0 (n : Nat) : n.testBit 0 = decide (n % 2 = 1) := Nat.testBit_zero n
/-- the lowest number of a set -/
def lb : Nat → Nat → Nat
  | 0, _ => 0
  | k + 1, n => if n % 2 = 1 then 0 else lb k (n / 2) + 1
theorem lb_lt : ∀ (k n : Nat), n < 2 ^ k → 0 < n → lb k n < k
  | 0, n, h, h0 => by simp at h; omega
  | k + 1, n, h, h0 => by
    rw [lb]
    split
    · omega
    · rw [Nat.pow_succ] at h
      have := lb_lt k (n / 2) (by omega) (by omega)
      omega
theorem lb_in : ∀ (k n : Nat), n < 2 ^ k → 0 < n → n.testBit (lb k n) = true
  | 0, n, h, h0 => by simp at h; omega
  | k + 1, n, h, h0 => by
    rw [lb]
    split
    · rw [tb0]; simp; assumption
    · rw [Nat.pow_succ] at h
      rw [← Nat.testBit_div_two]
      exact lb_in k (n / 2) (by omega) (by omega)
theorem lb_no : ∀ (k n i : Nat), i < lb k n → n.testBit i = false
  | 0, n, i, h => by simp [lb] at h
  | k + 1, n, i, h => by
    rw [lb] at h
    split at h
    · omega
    · cases i with
      | zero => rw [tb0]; simp; omega
      | succ i => rw [← Nat.testBit_div_two]; exact lb_no k (n / 2) i (by omega)
theorem lb_eq {k n i : Nat} (h : n < 2 ^ k) (hi : n.testBit i = true) (hl : ∀ j, j < i → n.testBit j = false) : lb k n = i := by
  have h0 : 0 < n := by
    rcases Nat.eq_zero_or_pos n with q | q
    · subst q; simp at hi
    · exact q
  rcases Nat.lt_trichotomy (lb k n) i with q | q | q
  · have a := lb_in k n h h0; rw [hl _ q] at a; cases a
  · exact q
  · have a := lb_no k n i q; rw [hi] at a; cases a
theorem lb_ad : ∀ (k n : Nat), n < 2 ^ k → 0 < n → ad (n - 1) n = 2 ^ lb k n - 1
  | 0, n, h, h0 => by simp at h; omega
  | k + 1, n, h, h0 => by
    rw [Nat.pow_succ] at h
    rw [lb]
    split
    · rename_i e
      apply Nat.eq_of_testBit_eq
      intro i
      rw [tb_ad]
      cases i with
      | zero => rw [tb0, tb0]; simp; omega
      | succ i => rw [← Nat.testBit_div_two, ← Nat.testBit_div_two, show (n - 1) / 2 = n / 2 by omega]; simp
    · rename_i e
      have ih := lb_ad k (n / 2) (by omega) (by omega)
      have e2 : ad (n - 1) n / 2 = ad (n / 2 - 1) (n / 2) := by
        apply Nat.eq_of_testBit_eq
        intro i
        rw [Nat.testBit_div_two, tb_ad, tb_ad, ← Nat.testBit_div_two, ← Nat.testBit_div_two, show (n - 1) / 2 = n / 2 - 1 by omega]
      have e1 : ad (n - 1) n % 2 = 1 := by
        have t : (ad (n - 1) n).testBit 0 = true := by rw [tb_ad, tb0, tb0]; simp; omega
        rw [tb0] at t
        exact of_decide_eq_true t
      have p1 : 0 < 2 ^ lb k (n / 2) := Nat.two_pow_pos _
      rw [Nat.pow_succ]
      omega
theorem ntz_tab : ∀ l, l < 31 → m_J6_numberOfTrailingZeros_0f7a4 0 (nI (2 ^ l)) = some (nI l) := by decide +kernel
theorem ntz_congr {N : Nat} {a b : Int32} (h : (a ^^^ (-1)) &&& (a - 1) = (b ^^^ (-1)) &&& (b - 1)) : m_J6_numberOfTrailingZeros_0f7a4 N a = m_J6_numberOfTrailingZeros_0f7a4 0 b := by
  unfold m_J6_numberOfTrailingZeros_0f7a4
  rw [h]
theorem low_mask {n : Nat} (h : n < 2 ^ 31) (h0 : 0 < n) : (nI n ^^^ (-1)) &&& (nI n - 1) = nI (2 ^ lb 31 n - 1) := by
  have e : nI n - 1 = nI (n - 1) := by
    have := nI_pred (n - 1)
    rw [show n - 1 + 1 = n by omega] at this
    exact this
  rw [e, nandn', lb_ad 31 n h h0]
theorem lb_p2 {k l : Nat} (h : l < k) : lb k (2 ^ l) = l := lb_eq (p2lt h) (by rw [Nat.testBit_two_pow]; simp) (fun j hj => by rw [Nat.testBit_two_pow]; simp; omega)
theorem m_ntz {N n : Nat} (h : n < 2 ^ 31) (h0 : 0 < n) : m_J6_numberOfTrailingZeros_0f7a4 N (nI n) = some (nI (lb 31 n)) := by
  have hl := lb_lt 31 n h h0
  rw [ntz_congr (b := nI (2 ^ lb 31 n)) (by rw [low_mask h h0, low_mask (p2_31 hl) (Nat.two_pow_pos _), lb_p2 hl])]
  exact ntz_tab _ hl
theorem nlz_tab : ∀ a, a < 128 → ∀ b, b < 128 → 0 < 128 * a + b → m_J6_numberOfLeadingZeros_0f7a4 0 (nI (128 * a + b)) = some (nI (31 - Nat.log2 (128 * a + b))) := by decide +kernel
theorem m_nlz {N n : Nat} (h : n < 16384) (h0 : 0 < n) : m_J6_numberOfLeadingZeros_0f7a4 N (nI n) = some (nI (31 - Nat.log2 n)) := by
  have := nlz_tab (n / 128) (by omega) (n % 128) (by omega)
  rw [show 128 * (n / 128) + n % 128 = n by omega] at this
  exact this h0
theorem lb2 {a b k : Nat} (h : a < b) (hk : b < k) : lb k (2 ^ a + 2 ^ b) = a := by
  have ha := p2lt h
  have hb := p2lt hk
  have hb2 := p2le (show b + 1 ≤ k by omega)
  rw [Nat.pow_succ] at hb2
  refine lb_eq (by omega) ?_ ?_
  · rw [tb_add ha, Nat.testBit_two_pow]; simp
  · intro j hj
    rw [tb_add ha, Nat.testBit_two_pow]
    simp; omega
theorem lg2 {a b : Nat} (h : a < b) : Nat.log2 (2 ^ a + 2 ^ b) = b := by
  have ha := p2lt h
  have h1 := Nat.two_pow_pos a
  have h2 := Nat.two_pow_pos b
  exact (Nat.log2_eq_iff (by omega)).mpr ⟨by omega, by rw [Nat.pow_succ]; omega⟩
-- counts
theorem m_ones {N : Nat} : ∀ (j n x c : Nat), x < 2 ^ 31 → pop 31 x = j → j < n → m_X7_ones_L4 N n (nI x) (nI c) = some (nI (c + j)) := by
  intro j
  induction j with
  | zero =>
    intro n x c hx hp hn
    obtain ⟨n, rfl⟩ : ∃ m, n = m + 1 := ⟨n - 1, by omega⟩
    rw [m_X7_ones_L4]
    rcases Nat.eq_zero_or_pos x with q | q
    · subst q; rw [if_pos ((nI_eq0 hx).mpr rfl)]; rfl
    · have := pop_and_pred 31 x hx q; omega
  | succ j ih =>
    intro n x c hx hp hn
    obtain ⟨n, rfl⟩ : ∃ m, n = m + 1 := ⟨n - 1, by omega⟩
    have h0 : 0 < x := by
      rcases Nat.eq_zero_or_pos x with q | q
      · subst q
        have : pop 31 0 = 0 := by decide
        omega
      · exact q
    have e : nI x - 1 = nI (x - 1) := by
      have := nI_pred (x - 1)
      rw [show x - 1 + 1 = x by omega] at this
      exact this
    rw [m_X7_ones_L4, if_neg (fun q => by have := (nI_eq0 hx).mp q; omega)]
    simp only [nm]
    rw [e, nand, nI_1, ih n (x &&& (x - 1)) (c + 1) (and_lt hx) (by have := pop_and_pred 31 x hx h0; omega) (by omega)]
    rw [show c + 1 + j = c + (j + 1) by omega]
theorem r_ones {N x : Nat} (hN : 1000 ≤ N) (hx : x < 2 ^ 31) (hp : pop 31 x < 100) : m_X7_ones N (nI x) = some (nI (pop 31 x)) := by
  unfold m_X7_ones
  have := m_ones (N := N) (pop 31 x) N x 0 hx rfl (by omega)
  rw [Nat.zero_add] at this
  exact this
theorem pop_le : ∀ (k n : Nat), pop k n ≤ k
  | 0, _ => Nat.le_refl 0
  | k + 1, n => by have := pop_le k (n / 2); rw [pop]; omega
theorem m_lowest {N x : Nat} (hN : 1000 ≤ N) (hx : x < 2 ^ 31) (h0 : 0 < x) : m_X7_lowest N (nI x) = some (nI (lb 31 x)) := by
  have key : ∀ (d n i : Nat), i + d = lb 31 x → d < n → m_X7_lowest_L2 N (nI x) n (nI i) = some (nI (lb 31 x)) := by
    have hl := lb_lt 31 x hx h0
    intro d
    induction d with
    | zero =>
      intro n i hi hn
      obtain ⟨n, rfl⟩ : ∃ m, n = m + 1 := ⟨n - 1, by omega⟩
      have e : i = lb 31 x := by omega
      rw [m_X7_lowest_L2, m_has hx (by omega), e, lb_in 31 x hx h0]
      rfl
    | succ d ih =>
      intro n i hi hn
      obtain ⟨n, rfl⟩ : ∃ m, n = m + 1 := ⟨n - 1, by omega⟩
      rw [m_X7_lowest_L2, m_has hx (by omega), lb_no 31 x i (by omega)]
      show (if (0 : Int32) = 0 then m_X7_lowest_L2 N (nI x) n (nI i + 1) else some (nI i)) = _
      rw [if_pos rfl, nI_1]
      exact ih n (i + 1) (by omega) (by omega)
  have hl := lb_lt 31 x hx h0
  exact key (lb 31 x) N 0 (by omega) (by omega)
