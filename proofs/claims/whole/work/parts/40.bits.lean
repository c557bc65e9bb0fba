/-! pure: sets of small numbers as bits, their counts; the small functions of both classes on them -/
def bs (p : Nat → Bool) : Nat → Nat
  | 0 => 0
  | n + 1 => bs p n + (if p n then 2 ^ n else 0)
def ct (p : Nat → Bool) : Nat → Nat
  | 0 => 0
  | n + 1 => ct p n + (if p n then 1 else 0)
theorem bs_lt (p : Nat → Bool) : ∀ n, bs p n < 2 ^ n
  | 0 => by simp [bs]
  | n + 1 => by
    have h := bs_lt p n
    rw [bs, Nat.pow_succ]
    split <;> omega
theorem tb_add {x n i : Nat} (h : x < 2 ^ n) : (x + 2 ^ n).testBit i = (x.testBit i || decide (i = n)) := by
  have e := Nat.two_pow_add_eq_or_of_lt h 1
  rw [Nat.mul_one] at e
  rw [Nat.add_comm, e, Nat.testBit_or, Nat.testBit_two_pow]
  rw [Bool.or_comm]
  congr 1
  exact decide_eq_decide.mpr eq_comm
theorem tb_bs (p : Nat → Bool) : ∀ n i, (bs p n).testBit i = (decide (i < n) && p i)
  | 0, i => by simp [bs]
  | n + 1, i => by
    have h := bs_lt p n
    have ih := tb_bs p n i
    rw [bs]
    cases hp : p n with
    | false =>
      simp only [Bool.false_eq_true, if_false, Nat.add_zero, ih]
      rcases Nat.lt_trichotomy i n with q | q | q
      · simp [q, Nat.lt_succ_of_lt q]
      · subst q; simp [hp]
      · simp [Nat.not_lt_of_lt q, show ¬ i < n + 1 by omega]
    | true =>
      simp only [if_true]
      rw [tb_add h, ih]
      rcases Nat.lt_trichotomy i n with q | q | q
      · simp [q, Nat.lt_succ_of_lt q, show ¬ i = n by omega]
      · subst q; simp [hp]
      · simp [Nat.not_lt_of_lt q, show ¬ i < n + 1 by omega, show ¬ i = n by omega]
theorem bs_cong {p q : Nat → Bool} : ∀ {n : Nat}, (∀ i, i < n → p i = q i) → bs p n = bs q n
  | 0, _ => rfl
  | n + 1, h => by rw [bs, bs, bs_cong (fun i hi => h i (by omega)), h n (by omega)]
theorem ct_cong {p q : Nat → Bool} : ∀ {n : Nat}, (∀ i, i < n → p i = q i) → ct p n = ct q n
  | 0, _ => rfl
  | n + 1, h => by rw [ct, ct, ct_cong (fun i hi => h i (by omega)), h n (by omega)]
theorem ct_le (p : Nat → Bool) : ∀ n, ct p n ≤ n
  | 0 => Nat.le_refl 0
  | n + 1 => by have h := ct_le p n; rw [ct]; split <;> omega
theorem or_bit {x n : Nat} (h : x < 2 ^ n) : x ||| 2 ^ n = x + 2 ^ n := by
  have e := Nat.two_pow_add_eq_or_of_lt h 1
  rw [Nat.mul_one] at e
  rw [Nat.add_comm, e, Nat.or_comm]
theorem eq_bs {x n : Nat} (h : x < 2 ^ n) : x = bs (fun i => x.testBit i) n := by
  apply Nat.eq_of_testBit_eq
  intro i
  rw [tb_bs]
  rcases Nat.lt_or_ge i n with q | q
  · simp [q]
  · simp [Nat.not_lt.mpr q, Nat.testBit_lt_two_pow (Nat.lt_of_lt_of_le h (Nat.pow_le_pow_right (by decide) q))]
theorem p2lt {a b : Nat} (h : a < b) : 2 ^ a < 2 ^ b := Nat.pow_lt_pow_right (by decide) h
theorem p2le {a b : Nat} (h : a ≤ b) : 2 ^ a ≤ 2 ^ b := Nat.pow_le_pow_right (by decide) h
theorem p2_31 {j : Nat} (h : j < 31) : 2 ^ j < 2 ^ 31 := p2lt h
-- popcount
def pop : Nat → Nat → Nat
  | 0, _ => 0
  | k + 1, n => n % 2 + pop k (n / 2)
theorem pop_bs (p : Nat → Bool) : ∀ (k n : Nat), n ≤ k → pop k (bs p n) = ct p n := by
  have key : ∀ (k n : Nat) (x : Nat), x < 2 ^ n → n < k → pop k (x + 2 ^ n) = pop k x + 1 := by
    intro k
    induction k with
    | zero => intro n x _ h; omega
    | succ k ih =>
      intro n x hx hn
      cases n with
      | zero =>
        have : x = 0 := by simp at hx; exact hx
        subst this
        simp [pop]
        have z : ∀ k, pop k 0 = 0 := by
          intro k; induction k with
          | zero => rfl
          | succ k ih => simp [pop, ih]
        simp [z]
      | succ n =>
        rw [Nat.pow_succ] at hx
        have e1 : (x + 2 ^ (n + 1)) % 2 = x % 2 := by rw [Nat.pow_succ]; omega
        have e2 : (x + 2 ^ (n + 1)) / 2 = x / 2 + 2 ^ n := by rw [Nat.pow_succ]; omega
        rw [pop, pop, e1, e2, ih n (x / 2) (by omega) (by omega)]
        omega
  intro k n
  induction n with
  | zero =>
    intro _
    have z : ∀ k, pop k 0 = 0 := by
      intro k; induction k with
      | zero => rfl
      | succ k ih => simp [pop, ih]
    simp [bs, ct, z]
  | succ n ih =>
    intro h
    rw [bs, ct]
    split
    · rw [key k n _ (bs_lt p n) (by omega), ih (by omega)]
    · simp [ih (by omega)]
theorem pop_and_pred : ∀ (k n : Nat), n < 2 ^ k → 0 < n → pop k (n &&& (n - 1)) + 1 = pop k n := by
  intro k
  induction k with
  | zero => intro n h h0; simp at h; omega
  | succ k ih =>
    intro n h h0
    rw [Nat.pow_succ] at h
    rcases Nat.mod_two_eq_zero_or_one n with e | e
    · have e1 : (n &&& (n - 1)) % 2 = 0 := by
        have t : (n &&& (n - 1)).testBit 0 = false := by rw [Nat.testBit_and, Nat.testBit_zero, e]; rfl
        rw [Nat.testBit_zero] at t
        have := of_decide_eq_false t
        omega
      have e2 : (n &&& (n - 1)) / 2 = (n / 2) &&& (n / 2 - 1) := by
        apply Nat.eq_of_testBit_eq
        intro i
        rw [Nat.testBit_div_two, Nat.testBit_and, Nat.testBit_and, ← Nat.testBit_div_two, ← Nat.testBit_div_two, show (n - 1) / 2 = n / 2 - 1 by omega]
      have := ih (n / 2) (by omega) (by omega)
      rw [pop, pop, e1, e2, e]
      omega
    · have e1 : n &&& (n - 1) = n - 1 := by
        apply Nat.eq_of_testBit_eq
        intro i
        rw [Nat.testBit_and]
        cases i with
        | zero => rw [Nat.testBit_zero, Nat.testBit_zero]; simp; omega
        | succ i => rw [← Nat.testBit_div_two, ← Nat.testBit_div_two, show (n - 1) / 2 = n / 2 by omega, Bool.and_self]
      rw [e1, pop, pop, show (n - 1) / 2 = n / 2 by omega]
      omega
-- shifts and masks of small numbers
theorem sh1 {j : Nat} (h : j < 31) : sh 1 (nI j) = nI (2 ^ j) := by
  have := pk_shlN (n := 1) (nI j &&& 31) j (s_l j (by omega)) (by have := p2_31 h; omega)
  rw [Nat.one_mul] at this
  exact this
theorem sr_N {n j : Nat} (hn : n < 2 ^ 31) (hj : j < 32) : sr (nI n) (nI j) = nI (n / 2 ^ j) := pk_shrN hn _ j (s_l j hj)
theorem us_N {n j : Nat} (hn : n < 2 ^ 32) (hj : j < 32) : us (nI n) (nI j) = nI (n / 2 ^ j) := pk_ushrN hn _ j (s_u j hj)
theorem and1 (n : Nat) : nI n &&& 1 = nI (n % 2) := by
  have := fa_mask n 1
  exact this
theorem bit_0 {n j : Nat} (hn : n < 2 ^ 31) (hj : j < 32) : (sr (nI n) (nI j)) &&& 1 = if n.testBit j then 1 else 0 := by
  rw [sr_N hn hj, and1]
  have : n.testBit j = decide (n / 2 ^ j % 2 = 1) := Nat.testBit_eq_decide_div_mod_eq
  rw [this]
  rcases Nat.mod_two_eq_zero_or_one (n / 2 ^ j) with e | e <;> simp [e] <;> rfl
theorem m_holds {N n j : Nat} (hn : n < 2 ^ 31) (hj : j < 32) : m_X6_holds N (nI n) (nI j) = some (if n.testBit j then 1 else 0) := by
  unfold m_X6_holds
  rw [bit_0 hn hj]
  cases n.testBit j <;> simp
theorem m_has {N n j : Nat} (hn : n < 2 ^ 31) (hj : j < 32) : m_X7_has N (nI n) (nI j) = some (if n.testBit j then 1 else 0) := by
  unfold m_X7_has
  rw [bit_0 hn hj]
  cases n.testBit j <;> simp
theorem m_bit {N j : Nat} (h : j < 31) : m_X6_bit N (nI j) = some (nI (2 ^ j)) := by unfold m_X6_bit; rw [sh1 h]
theorem nor (a b : Nat) : nI a ||| nI b = nI (a ||| b) := fa_or a b
theorem nand (a b : Nat) : nI a &&& nI b = nI (a &&& b) := fa_and a b
theorem nor_bit {x n : Nat} (h : x < 2 ^ n) : nI x ||| nI (2 ^ n) = nI (x + 2 ^ n) := by rw [nor, or_bit h]
/-- a set without another one -/
def ad (a b : Nat) : Nat := a ^^^ (a &&& b)
theorem tb_ad (a b i : Nat) : (ad a b).testBit i = (a.testBit i && !b.testBit i) := by
  unfold ad
  rw [Nat.testBit_xor, Nat.testBit_and]
  cases a.testBit i <;> cases b.testBit i <;> rfl
theorem ad_lt {a b n : Nat} (h : a < 2 ^ n) : ad a b < 2 ^ n := by
  apply Nat.lt_pow_two_of_testBit
  intro i hi
  rw [tb_ad, Nat.testBit_lt_two_pow (Nat.lt_of_lt_of_le h (p2le hi))]
  rfl
theorem bt_nI (n i : Nat) : bt (nI n) i = (decide (i < 32) && n.testBit i) := by
  unfold bt nI
  show (BitVec.ofNat 32 n).getLsbD i = _
  rw [BitVec.getLsbD_ofNat]
theorem nandn {a b : Nat} : nI a &&& (nI b ^^^ (-1)) = nI (ad a b) := by
  apply b_ext
  intro i hi
  rw [b_and, b_xor, b_m1 i hi, bt_nI, bt_nI, bt_nI, tb_ad]
  simp [hi]
theorem nandn' {a b : Nat} : (nI b ^^^ (-1)) &&& nI a = nI (ad a b) := by
  apply b_ext
  intro i hi
  rw [b_and, b_xor, b_m1 i hi, bt_nI, bt_nI, bt_nI, tb_ad]
  simp [hi, Bool.and_comm]
theorem and_lt {a b n : Nat} (h : a < 2 ^ n) : a &&& b < 2 ^ n := Nat.lt_of_le_of_lt Nat.and_le_left h
theorem or_lt {a b n : Nat} (h : a < 2 ^ n) (h2 : b < 2 ^ n) : a ||| b < 2 ^ n := Nat.or_lt_two_pow h h2
theorem nI_eq0 {a : Nat} (h : a < 2 ^ 31) : nI a = 0 ↔ a = 0 := by
  have := nI_eq h (show 0 < 2 ^ 31 by decide)
  exact this
theorem neg1 : (-1 : Int32).toInt = -1 := by decide
-- rows of 21 ..
theorem x_at {N n i : Nat} {f : Nat → Int32} (h : i < n) (hn : n < 2 ^ 31) : m_X6_at N n f (nI i) = some (f i) := by
  unfold m_X6_at
  rw [if_neg (nI_pos (by omega)), if_neg (show ¬ Int32.ofNat n ≤ nI i from nI_ge h hn)]
  unfold ard
  rw [nI_clamp (by omega), if_neg]
  exact fun q => q.elim (fun q => nI_pos (by omega) q) (fun q => by omega)
theorem x_put {N n i : Nat} {f : Nat → Int32} {v : Int32} (h : i < n) (hn : n < 2 ^ 31) : m_X6_put N n f (nI i) v = some (upd f i v) := by
  unfold m_X6_put
  rw [if_neg (nI_pos (by omega)), if_neg (show ¬ Int32.ofNat n ≤ nI i from nI_ge h hn)]
  unfold awr nm
  rw [nI_clamp (by omega), if_neg]
  exact fun q => q.elim (fun q => nI_pos (by omega) q) (fun q => by omega)
theorem r_ard {β : Type} {f : Nat → Int32} {n i : Nat} {k : Int32 → Option β} (h : i < n) (hi : i < 2 ^ 31) : ard f n (nI i) k = k (f i) := by
  unfold ard
  rw [nI_clamp hi, if_neg]
  exact fun q => q.elim (fun q => nI_pos hi q) (fun q => by omega)
theorem r_awr {β : Type} {n i : Nat} {k : Option β} (h : i < n) (hi : i < 2 ^ 31) : awr n (nI i) k = k := by
  unfold awr
  rw [nI_clamp hi, if_neg]
  exact fun q => q.elim (fun q => nI_pos hi q) (fun q => by omega)
theorem r_bind {α β : Type} {a : α} {f : α → Option β} : Option.bind (some a) f = f a := rfl
theorem upd_s {f : Nat → Int32} {k : Nat} {x : Int32} : upd f k x k = x := pk_us
theorem upd_n {f : Nat → Int32} {k j : Nat} {x : Int32} (h : j ≠ k) : upd f k x j = f j := pk_un h
/-- a loop that counts up to T -/
theorem for_up {α β : Type} (F : Nat → Nat → α → Option β) (T : Nat) (acc : Nat → α) (res : Option β) (hend : ∀ n, F (n + 1) T (acc T) = res) (hstep : ∀ n i, i < T → F (n + 1) i (acc i) = F n (i + 1) (acc (i + 1))) : ∀ (d n i : Nat), i + d = T → d < n → F n i (acc i) = res := by
  intro d
  induction d with
  | zero =>
    intro n i hi hn
    obtain ⟨n, rfl⟩ : ∃ m, n = m + 1 := ⟨n - 1, by omega⟩
    have : i = T := by omega
    rw [this]
    exact hend n
  | succ d ih =>
    intro n i hi hn
    obtain ⟨n, rfl⟩ : ∃ m, n = m + 1 := ⟨n - 1, by omega⟩
    rw [hstep n i (by omega)]
    exact ih n (i + 1) (by omega) (by omega)
