/-! pure: Integer.bitCount of a set of at most 24 numbers is its count -/
theorem and_ch (x y p q : Nat) (hx : x < 256) (hp : p < 256) : (x + 256 * y) &&& (p + 256 * q) = (x &&& p) + 256 * (y &&& q) := by
  have e : ∀ a b, a < 256 → (a + 256 * b) = 2 ^ 8 * b + a := fun a b _ => by omega
  have h1 : x &&& p < 2 ^ 8 := and_lt (show x < 2 ^ 8 from hx)
  rw [e x y hx, e p q hp, e _ _ h1]
  apply Nat.eq_of_testBit_eq
  intro i
  rw [Nat.testBit_and, Nat.testBit_two_pow_mul_add _ (show x < 2 ^ 8 from hx), Nat.testBit_two_pow_mul_add _ (show p < 2 ^ 8 from hp), Nat.testBit_two_pow_mul_add _ h1]
  split
  · rw [Nat.testBit_and]
  · rw [Nat.testBit_and]
def k1 (a : Nat) : Nat := a - ((a / 2) &&& 85)
def k2 (a : Nat) : Nat := (k1 a &&& 51) + ((k1 a / 4) &&& 51)
def k3 (a : Nat) : Nat := (k2 a + k2 a / 16) &&& 15
theorem k1_tab : ∀ a, a < 256 → ((a / 2) &&& 85) ≤ a ∧ k1 a < 256 ∧ ((a / 2 + 128) &&& 85) = (a / 2) &&& 85 := by decide +kernel
theorem k2_tab : ∀ a, a < 256 → (k2 a < 69 ∧ k2 a % 16 ≤ 4) ∧ ∀ b, b < 4 → ((k1 a / 4 + 64 * b) &&& 51) = (k1 a / 4) &&& 51 := by decide +kernel
theorem k3_tab : ∀ a, a < 256 → k3 a = pop 8 a ∧ pop 8 a ≤ 8 ∧ ∀ b, b < 16 → ((k2 a + k2 a / 16 + 16 * b) &&& 15) = k3 a := by decide +kernel
theorem pop_ch (a b : Nat) (h : a < 256) (k : Nat) : pop (8 + k) (a + 256 * b) = pop 8 a + pop k b := by
  have s : ∀ k x, pop (k + 1) x = x % 2 + pop k (x / 2) := fun _ _ => rfl
  rw [show 8 + k = k + 1 + 1 + 1 + 1 + 1 + 1 + 1 + 1 by omega, s, s, s, s, s, s, s, s]
  rw [show pop 8 a = a % 2 + (a / 2 % 2 + (a / 2 / 2 % 2 + (a / 2 / 2 / 2 % 2 + (a / 2 / 2 / 2 / 2 % 2 + (a / 2 / 2 / 2 / 2 / 2 % 2 + (a / 2 / 2 / 2 / 2 / 2 / 2 % 2 + (a / 2 / 2 / 2 / 2 / 2 / 2 / 2 % 2 + 0))))))) from rfl]
  rw [show (a + 256 * b) / 2 / 2 / 2 / 2 / 2 / 2 / 2 / 2 = b by omega]
  omega
/-- step 1 of a number of three bytes -/
theorem bc1 (a b c : Nat) (ha : a < 256) (hb : b < 256) (hc : c < 256) : (a + 256 * (b + 256 * c)) - (((a + 256 * (b + 256 * c)) / 2) &&& 1431655765) = k1 a + 256 * (k1 b + 256 * k1 c) := by
  have e : (a + 256 * (b + 256 * c)) / 2 = (a / 2 + 128 * (b % 2)) + 256 * ((b / 2 + 128 * (c % 2)) + 256 * (c / 2 + 256 * 0)) := by omega
  rw [e, show 1431655765 = 85 + 256 * (85 + 256 * (85 + 256 * 85)) from rfl, and_ch _ _ _ _ (by omega) (by omega), and_ch _ _ _ _ (by omega) (by omega), and_ch _ _ _ _ (by omega) (by omega)]
  obtain ⟨a1, a2, a3⟩ := k1_tab a ha
  obtain ⟨b1, b2, b3⟩ := k1_tab b hb
  obtain ⟨c1, c2, c3⟩ := k1_tab c hc
  have ea : (a / 2 + 128 * (b % 2)) &&& 85 = (a / 2) &&& 85 := by
    rcases Nat.mod_two_eq_zero_or_one b with q | q <;> rw [q]
    · rfl
    · exact a3
  have eb : (b / 2 + 128 * (c % 2)) &&& 85 = (b / 2) &&& 85 := by
    rcases Nat.mod_two_eq_zero_or_one c with q | q <;> rw [q]
    · rfl
    · exact b3
  rw [ea, eb, Nat.zero_and]
  unfold k1
  omega
theorem bc2 (a b c : Nat) (ha : a < 256) (hb : b < 256) (hc : c < 256) : ((k1 a + 256 * (k1 b + 256 * k1 c)) &&& 858993459) + (((k1 a + 256 * (k1 b + 256 * k1 c)) / 4) &&& 858993459) = k2 a + 256 * (k2 b + 256 * k2 c) := by
  obtain ⟨-, a2, -⟩ := k1_tab a ha
  obtain ⟨-, b2, -⟩ := k1_tab b hb
  obtain ⟨-, c2, -⟩ := k1_tab c hc
  have e : (k1 a + 256 * (k1 b + 256 * k1 c)) / 4 = (k1 a / 4 + 64 * (k1 b % 4)) + 256 * ((k1 b / 4 + 64 * (k1 c % 4)) + 256 * (k1 c / 4 + 256 * 0)) := by omega
  rw [e, show k1 a + 256 * (k1 b + 256 * k1 c) = k1 a + 256 * (k1 b + 256 * (k1 c + 256 * 0)) by omega, show 858993459 = 51 + 256 * (51 + 256 * (51 + 256 * 51)) from rfl, and_ch _ _ _ _ (by omega) (by omega), and_ch _ _ _ _ (by omega) (by omega), and_ch _ _ _ _ (by omega) (by omega), and_ch _ _ _ _ (by omega) (by omega), and_ch _ _ _ _ (by omega) (by omega), and_ch _ _ _ _ (by omega) (by omega)]
  rw [(k2_tab a ha).2 _ (Nat.mod_lt _ (by decide)), (k2_tab b hb).2 _ (Nat.mod_lt _ (by decide)), Nat.zero_and]
  unfold k2
  omega
theorem bc3 (a b c : Nat) (ha : a < 256) (hb : b < 256) (hc : c < 256) : ((k2 a + 256 * (k2 b + 256 * k2 c)) + (k2 a + 256 * (k2 b + 256 * k2 c)) / 16) &&& 252645135 = k3 a + 256 * (k3 b + 256 * k3 c) := by
  obtain ⟨⟨a2, a4⟩, -⟩ := k2_tab a ha
  obtain ⟨⟨b2, b4⟩, -⟩ := k2_tab b hb
  obtain ⟨⟨c2, c4⟩, -⟩ := k2_tab c hc
  have e : (k2 a + 256 * (k2 b + 256 * k2 c)) + (k2 a + 256 * (k2 b + 256 * k2 c)) / 16 = (k2 a + k2 a / 16 + 16 * (k2 b % 16)) + 256 * ((k2 b + k2 b / 16 + 16 * (k2 c % 16)) + 256 * (k2 c + k2 c / 16 + 256 * 0)) := by omega
  have t := (k3_tab c hc).2.2 0 (by omega)
  rw [Nat.mul_zero, Nat.add_zero] at t
  have qb := Nat.mod_lt (k2 b) (show 0 < 16 by decide)
  have qc := Nat.mod_lt (k2 c) (show 0 < 16 by decide)
  rw [e, show 252645135 = 15 + 256 * (15 + 256 * (15 + 256 * 15)) from rfl]
  rcases Nat.lt_or_ge (k2 a + k2 a / 16 + 16 * (k2 b % 16)) 256 with ga | ga
  · rcases Nat.lt_or_ge (k2 b + k2 b / 16 + 16 * (k2 c % 16)) 256 with gb | gb
    · rw [and_ch _ _ _ _ ga (by omega), and_ch _ _ _ _ gb (by omega), and_ch _ _ _ _ (by omega) (by omega), (k3_tab a ha).2.2 _ qb, (k3_tab b hb).2.2 _ qc, t, Nat.zero_and]
      rfl
    · omega
  · omega

theorem m_bitCount {N n : Nat} (h : n < 2 ^ 24) : m_J6_bitCount_0f7a4 N (nI n) = some (nI (pop 24 n)) := by
  obtain ⟨a, b, c, ha, hb, hc, rfl⟩ : ∃ a b c, a < 256 ∧ b < 256 ∧ c < 256 ∧ n = a + 256 * (b + 256 * c) := ⟨n % 256, n / 256 % 256, n / 65536, by omega, by omega, by omega, by omega⟩
  have g1 := bc1 a b c ha hb hc
  have g2 := bc2 a b c ha hb hc
  have g3 := bc3 a b c ha hb hc
  have l1a := (k1_tab a ha).2.1
  have l1b := (k1_tab b hb).2.1
  have l1c := (k1_tab c hc).2.1
  have l2a := (k2_tab a ha).1.1
  have l2b := (k2_tab b hb).1.1
  have l2c := (k2_tab c hc).1.1
  obtain ⟨l3a, l3a2, -⟩ := k3_tab a ha
  obtain ⟨l3b, l3b2, -⟩ := k3_tab b hb
  obtain ⟨l3c, l3c2, -⟩ := k3_tab c hc
  unfold m_J6_bitCount_0f7a4
  simp only [nm]
  have e1 : nI (a + 256 * (b + 256 * c)) - (us (nI (a + 256 * (b + 256 * c))) 1 &&& 1431655765) = nI (k1 a + 256 * (k1 b + 256 * k1 c)) := by
    rw [show us (nI (a + 256 * (b + 256 * c))) 1 = nI ((a + 256 * (b + 256 * c)) / 2) from us_N (j := 1) (by omega) (by omega), show (1431655765 : Int32) = nI 1431655765 from rfl, nand, pk_sub (Nat.le_trans Nat.and_le_left (Nat.div_le_self _ _)), g1]
  have e2 : (nI (k1 a + 256 * (k1 b + 256 * k1 c)) &&& 858993459) + (us (nI (k1 a + 256 * (k1 b + 256 * k1 c))) 2 &&& 858993459) = nI (k2 a + 256 * (k2 b + 256 * k2 c)) := by
    rw [show us (nI (k1 a + 256 * (k1 b + 256 * k1 c))) 2 = nI ((k1 a + 256 * (k1 b + 256 * k1 c)) / 4) from us_N (j := 2) (by omega) (by omega), show (858993459 : Int32) = nI 858993459 from rfl, nand, nand, nI_add, g2]
  have e3 : (nI (k2 a + 256 * (k2 b + 256 * k2 c)) + us (nI (k2 a + 256 * (k2 b + 256 * k2 c))) 4) &&& 252645135 = nI (k3 a + 256 * (k3 b + 256 * k3 c)) := by
    rw [show us (nI (k2 a + 256 * (k2 b + 256 * k2 c))) 4 = nI ((k2 a + 256 * (k2 b + 256 * k2 c)) / 16) from us_N (j := 4) (by omega) (by omega), nI_add, show (252645135 : Int32) = nI 252645135 from rfl, nand, g3]
  rw [e1, e2, e3]
  rw [show us (nI (k3 a + 256 * (k3 b + 256 * k3 c))) 8 = nI ((k3 a + 256 * (k3 b + 256 * k3 c)) / 256) from us_N (j := 8) (by omega) (by omega), nI_add]
  rw [show us (nI (k3 a + 256 * (k3 b + 256 * k3 c) + (k3 a + 256 * (k3 b + 256 * k3 c)) / 256)) 16 = nI ((k3 a + 256 * (k3 b + 256 * k3 c) + (k3 a + 256 * (k3 b + 256 * k3 c)) / 256) / 65536) from us_N (j := 16) (by omega) (by omega), nI_add]
  rw [show (63 : Int32) = nI (2 ^ 6 - 1) from rfl, fa_mask]
  rw [show (24 : Nat) = 8 + (8 + 8) from rfl, pop_ch a _ ha, pop_ch b c hb, ← l3a, ← l3b, ← l3c]
  generalize k3 a = x at *
  generalize k3 b = y at *
  generalize k3 c = z at *
  have hx : x ≤ 8 := by omega
  have hy : y ≤ 8 := by omega
  have hz : z ≤ 8 := by omega
  clear g1 g2 g3 e1 e2 e3 l1a l1b l1c l2a l2b l2c l3a l3a2 l3b l3b2 l3c l3c2 h
  have q1 : (x + 256 * (y + 256 * z)) / 256 = y + 256 * z := by omega
  rw [q1]
  have q2 : (x + 256 * (y + 256 * z) + (y + 256 * z)) / 65536 = z := by omega
  rw [q2]
  have q3 : (x + 256 * (y + 256 * z) + (y + 256 * z) + z) % 64 = x + (y + z) := by omega
  rw [q3]
