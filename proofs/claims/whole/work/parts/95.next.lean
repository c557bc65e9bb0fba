/-! pure: the next set of its size, by both classes -/
theorem lb_da : ∀ (k n : Nat), n < 2 ^ k → 0 < n → ad n (n - 1) = 2 ^ lb k n
  | 0, n, h, h0 => by simp at h; omega
  | k + 1, n, h, h0 => by
    rw [Nat.pow_succ] at h
    rw [lb]
    split
    · rename_i e
      apply Nat.eq_of_testBit_eq
      intro i
      rw [tb_ad, Nat.testBit_two_pow]
      cases i with
      | zero => rw [tb0, tb0]; simp; omega
      | succ i => rw [← Nat.testBit_div_two, ← Nat.testBit_div_two, show (n - 1) / 2 = n / 2 by omega]; simp
    · rename_i e
      have ih := lb_da k (n / 2) (by omega) (by omega)
      have e2 : ad n (n - 1) / 2 = ad (n / 2) (n / 2 - 1) := by
        apply Nat.eq_of_testBit_eq
        intro i
        rw [Nat.testBit_div_two, tb_ad, tb_ad, ← Nat.testBit_div_two, ← Nat.testBit_div_two, show (n - 1) / 2 = n / 2 - 1 by omega]
      have e1 : ad n (n - 1) % 2 = 0 := by
        have t : (ad n (n - 1)).testBit 0 = false := by rw [tb_ad, tb0, tb0]; simp; omega
        rw [tb0] at t
        have := of_decide_eq_false t
        omega
      rw [Nat.pow_succ]
      omega
theorem neg_N {s : Nat} (h : s < 2 ^ 31) (h0 : 0 < s) : -(nI s) = nI (2 ^ 32 - s) := by
  apply Int32.toBitVec_inj.mp
  show -(BitVec.ofNat 32 s) = BitVec.ofNat 32 (2 ^ 32 - s)
  apply BitVec.eq_of_toNat_eq
  rw [BitVec.toNat_neg, BitVec.toNat_ofNat, BitVec.toNat_ofNat, Nat.mod_eq_of_lt (show s < 2 ^ 32 by omega)]
theorem low_of {s : Nat} (h : s < 2 ^ 31) (h0 : 0 < s) : nI s &&& -(nI s) = nI (2 ^ lb 31 s) := by
  rw [neg_N h h0, nand]
  congr 1
  rw [← lb_da 31 s h h0]
  apply Nat.eq_of_testBit_eq
  intro i
  have e : 2 ^ 32 - s = 2 ^ 32 - ((s - 1) + 1) := by omega
  rw [Nat.testBit_and, tb_ad, e, Nat.testBit_two_pow_sub_succ (show s - 1 < 2 ^ 32 by omega)]
  cases q : s.testBit i with
  | false => rfl
  | true =>
    have : i < 31 := tb_lt h q
    simp
    intro
    omega
def nx (s : Nat) : Nat := (s + 2 ^ lb 31 s) ||| ((s ^^^ (s + 2 ^ lb 31 s)) / 2 ^ (lb 31 s + 2))
theorem low_le {s : Nat} (h : s < 2 ^ 31) (h0 : 0 < s) : 2 ^ lb 31 s ≤ s := by
  have := lb_in 31 s h h0
  exact Nat.ge_two_pow_of_testBit this
theorem nx_facts {s : Nat} (h : s < 2 ^ 21) (h0 : 0 < s) : lb 31 s < 21 ∧ s + 2 ^ lb 31 s < 2 ^ 22 ∧ s ^^^ (s + 2 ^ lb 31 s) < 2 ^ 22 ∧ s < nx s ∧ nx s < 2 ^ 22 := by
  have a := low_le (show s < 2 ^ 31 by omega) h0
  have b := lb_in 31 s (by omega) h0
  have c : lb 31 s < 21 := tb_lt h b
  have d : s + 2 ^ lb 31 s < 2 ^ 22 := by omega
  have f : s ^^^ (s + 2 ^ lb 31 s) < 2 ^ 22 := Nat.xor_lt_two_pow (by omega) d
  have p : 0 < 2 ^ lb 31 s := Nat.two_pow_pos _
  refine ⟨c, d, f, ?_, or_lt d (Nat.lt_of_le_of_lt (Nat.div_le_self _ _) f)⟩
  have : s + 2 ^ lb 31 s ≤ nx s := Nat.left_le_or
  omega
theorem x_next {N s : Nat} (h : s < 2 ^ 21) (h0 : 0 < s) : m_X3_nextOfItsSize N (nI s) = some (nI (nx s)) := by
  obtain ⟨a, b, c, -, -⟩ := nx_facts h h0
  unfold m_X3_nextOfItsSize
  rw [m_ntz (by omega) h0, r_bind, m_bit (by omega), r_bind]
  simp only [nm]
  rw [nI_add, nx_xor, show nI (lb 31 s) + 2 = nI (lb 31 s + 2) from nI_add _ 2, us_N (by omega) (by omega), nor]
  rfl
theorem m_next {s : Nat} (h : s < 2 ^ 21) (h0 : 0 < s) : ¬ nI (2 ^ lb 31 s) = 0 ∧ (nI s + nI (2 ^ lb 31 s)) ||| (sr ((nI s ^^^ (nI s + nI (2 ^ lb 31 s))) / nI (2 ^ lb 31 s)) 2) = nI (nx s) := by
  obtain ⟨a, b, c, -, -⟩ := nx_facts h h0
  have p : 0 < 2 ^ lb 31 s := Nat.two_pow_pos _
  have p2 : 2 ^ lb 31 s < 2 ^ 31 := p2lt (by omega)
  refine ⟨fun q => by have := (nI_eq0 p2).mp q; omega, ?_⟩
  rw [nI_add, nx_xor, pk_div (by omega) p p2, show (2 : Int32) = nI 2 from rfl, sr_N (Nat.lt_of_le_of_lt (Nat.div_le_self _ _) (by omega)) (by decide), nor]
  unfold nx
  rw [Nat.div_div_eq_div_mul, ← Nat.pow_add]
