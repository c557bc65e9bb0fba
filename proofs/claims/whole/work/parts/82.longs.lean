/-! pure: what is used at the knots, three bits for each -/
def repU (u : Nat) (U : UC) : Prop := u < 2 ^ 42 ∧ (∀ k c, k < 14 → c < 3 → u.testBit (3 * k + c) = U k c) ∧ ∀ k c, 3 ≤ c → U k c = false
theorem lor (a b : Nat) (ha : a < 2 ^ 64) (hb : b < 2 ^ 64) : lN a ||| lN b = lN (a ||| b) := wb_or ha hb
theorem land (a b : Nat) (ha : a < 2 ^ 64) (hb : b < 2 ^ 64) : lN a &&& lN b = lN (a &&& b) := wb_and ha hb
theorem us_L {u k : Nat} (hu : u < 2 ^ 64) (hk : k < 64) : lus (lN u) (nI k) = lN (u / 2 ^ k) := wb_shr hu hk
theorem sh_L {k : Nat} (hk : k < 64) : lsh 1 (nI k) = lN (2 ^ k) := by
  have := wb_shl 1 hk
  rw [Nat.one_mul] at this
  exact this
def useM (u lo hi : Nat) : Nat := ((u / 2 ^ (3 * lo)) ||| (u / 2 ^ (3 * hi))) % 2 ^ 3
theorem useM_lt (u lo hi : Nat) : useM u lo hi < 8 := Nat.mod_lt _ (by decide)
theorem useM_tb {u lo hi c : Nat} (hc : c < 3) : (useM u lo hi).testBit c = (u.testBit (3 * lo + c) || u.testBit (3 * hi + c)) := by
  unfold useM
  rw [Nat.testBit_mod_two_pow, Nat.testBit_or, Nat.testBit_div_two_pow, Nat.testBit_div_two_pow]
  simp [hc, Nat.add_comm]
theorem useM_0 {u lo hi : Nat} : useM u lo hi = 0 ↔ ∀ c, c < 3 → u.testBit (3 * lo + c) = false ∧ u.testBit (3 * hi + c) = false := by
  constructor
  · intro h c hc
    have := useM_tb (u := u) (lo := lo) (hi := hi) hc
    rw [h, Nat.zero_testBit] at this
    have := this.symm
    rw [Bool.or_eq_false_iff] at this
    exact this
  · intro h
    apply Nat.eq_of_testBit_eq
    intro c
    rw [Nat.zero_testBit]
    rcases Nat.lt_or_ge c 3 with g | g
    · rw [useM_tb g, (h c g).1, (h c g).2]
      rfl
    · exact Nat.testBit_lt_two_pow (Nat.lt_of_lt_of_le (useM_lt u lo hi) (p2le (a := 3) g))
theorem x_usedAt {N u lo hi : Nat} (hu : u < 2 ^ 42) (h1 : lo < 14) (h2 : hi < 14) : m_X3_usedAt N (nI (3 * lo)) (nI (3 * hi)) (lN u) = some (nI (useM u lo hi)) := by
  have d1 : u / 2 ^ (3 * lo) < 2 ^ 42 := Nat.lt_of_le_of_lt (Nat.div_le_self _ _) hu
  have d2 : u / 2 ^ (3 * hi) < 2 ^ 42 := Nat.lt_of_le_of_lt (Nat.div_le_self _ _) hu
  unfold m_X3_usedAt useM
  rw [us_L (by omega) (by omega), us_L (by omega) (by omega), lor _ _ (by omega) (by omega), lN_i]
  have := fa_mask (u / 2 ^ (3 * lo) ||| u / 2 ^ (3 * hi)) 3
  rw [← this]
  rfl
def useW (lo hi c : Nat) : Nat := 2 ^ (3 * lo + c) ||| 2 ^ (3 * hi + c)
theorem useW_lt {lo hi c : Nat} (h1 : lo < 14) (h2 : hi < 14) (hc : c < 3) : useW lo hi c < 2 ^ 42 := or_lt (p2lt (by omega)) (p2lt (by omega))
theorem x_usedWith {N lo hi c : Nat} (h1 : lo < 14) (h2 : hi < 14) (hc : c < 3) : m_X3_usedWith N (nI (3 * lo)) (nI (3 * hi)) (nI c) = some (lN (useW lo hi c)) := by
  have a : 2 ^ (3 * lo + c) < 2 ^ 42 := p2lt (by omega)
  have b : 2 ^ (3 * hi + c) < 2 ^ 42 := p2lt (by omega)
  unfold m_X3_usedWith useW
  rw [nI_add, nI_add, sh_L (by omega), sh_L (by omega), lor _ _ (by omega) (by omega)]
theorem useW_tb {lo hi c k d : Nat} (hc : c < 3) (hd : d < 3) : (useW lo hi c).testBit (3 * k + d) = ((lo == k || hi == k) && d == c) := by
  unfold useW
  rw [Nat.testBit_or, Nat.testBit_two_pow, Nat.testBit_two_pow, Bool.eq_iff_iff]
  simp
  omega
theorem rep_us {u : Nat} {U : UC} {x : TH} {c : Nat} (h : repU u U) (h1 : x.1 < 14) (h2 : x.2.1 < 14) (hc : c < 3) : repU (u ||| useW x.1 x.2.1 c) (us3 U x c) := by
  refine ⟨or_lt h.1 (useW_lt h1 h2 hc), fun k d hk hd => ?_, fun k d hd => ?_⟩
  · rw [Nat.testBit_or, h.2.1 k d hk hd, useW_tb hc hd]
    rfl
  · unfold us3
    rw [h.2.2 k d hd]
    have : (d == c) = false := by simp; omega
    rw [this]
    simp
theorem rep_0 : repU 0 (fun _ _ => false) := ⟨by decide, fun k c _ _ => Nat.zero_testBit _, fun _ _ _ => rfl⟩
theorem rep_free {u : Nat} {U : UC} {x : TH} {c : Nat} (h : repU u U) (h1 : x.1 < 14) (h2 : x.2.1 < 14) (hc : c < 3) : (useM u x.1 x.2.1).testBit c = !fr3 U x c := by
  rw [useM_tb hc, h.2.1 _ _ h1 hc, h.2.1 _ _ h2 hc]
  unfold fr3
  cases U x.1 c <;> cases U x.2.1 c <;> rfl
