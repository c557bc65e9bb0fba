-- 81.colour.lean.txt
section
/-! pure: how many good paintings some threads have, beside what is used at the knots already -/
abbrev UC : Type := Nat → Nat → Bool
def s3 (f : Nat → Nat) : Nat := f 0 + f 1 + f 2
def fr3 (U : UC) (x : TH) (c : Nat) : Bool := !U x.1 c && !U x.2.1 c
def us3 (U : UC) (x : TH) (c : Nat) : UC := fun k d => U k d || (atk k x && d == c)
def cq (al : TH → Nat → Bool) : List TH → UC → Nat
  | [], _ => 1
  | x :: Q, U => s3 (fun c => if (al x c && fr3 U x c) = true then cq al Q (us3 U x c) else 0)
theorem s3_cong {f g : Nat → Nat} (h : ∀ c, c < 3 → f c = g c) : s3 f = s3 g := by
  unfold s3
  rw [h 0 (by decide), h 1 (by decide), h 2 (by decide)]
theorem s3_if (p : Prop) [Decidable p] (f : Nat → Nat) : (if p then s3 f else 0) = s3 (fun d => if p then f d else 0) := by
  by_cases q : p
  · simp [q]
  · simp [q, s3]
theorem s3_ex (F : Nat → Nat → Nat) : s3 (fun c => s3 (fun d => F c d)) = s3 (fun d => s3 (fun c => F c d)) := by
  show F 0 0 + F 0 1 + F 0 2 + (F 1 0 + F 1 1 + F 1 2) + (F 2 0 + F 2 1 + F 2 2) = F 0 0 + F 1 0 + F 2 0 + (F 0 1 + F 1 1 + F 2 1) + (F 0 2 + F 1 2 + F 2 2)
  omega
theorem s3_mul (f : Nat → Nat) (b : Nat) : s3 (fun c => f c * b) = s3 f * b := by
  unfold s3
  rw [Nat.add_mul, Nat.add_mul]
theorem us3_comm (U : UC) (x y : TH) (c d : Nat) : us3 (us3 U x c) y d = us3 (us3 U y d) x c := by
  funext k e
  unfold us3
  rw [Bool.or_assoc, Bool.or_assoc, Bool.or_comm (atk k x && e == c)]
def tchp (x y : TH) : Bool := atk y.1 x || atk y.2.1 x
theorem tchp_comm (x y : TH) : tchp x y = tchp y x := by
  unfold tchp atk
  rw [Bool.eq_iff_iff]
  simp
  omega
theorem fr3_us (U : UC) (x y : TH) (c d : Nat) : fr3 (us3 U x c) y d = (fr3 U y d && !(tchp x y && d == c)) := by
  unfold fr3 us3 tchp
  cases U y.1 d <;> cases U y.2.1 d <;> cases atk y.1 x <;> cases atk y.2.1 x <;> cases d == c <;> rfl
theorem cq_swap (al : TH → Nat → Bool) (x y : TH) (Q : List TH) (U : UC) : cq al (x :: y :: Q) U = cq al (y :: x :: Q) U := by
  have key : ∀ x y : TH, cq al (x :: y :: Q) U = s3 (fun c => s3 (fun d => if (al x c && fr3 U x c && (al y d && fr3 U y d) && !(tchp x y && d == c)) = true then cq al Q (us3 (us3 U x c) y d) else 0)) := by
    intro x y
    show s3 (fun c => if (al x c && fr3 U x c) = true then s3 (fun d => if (al y d && fr3 (us3 U x c) y d) = true then cq al Q (us3 (us3 U x c) y d) else 0) else 0) = _
    refine s3_cong (fun c _ => ?_)
    rw [s3_if]
    refine s3_cong (fun d _ => ?_)
    rw [fr3_us]
    cases al x c <;> cases fr3 U x c <;> cases al y d <;> cases fr3 U y d <;> cases tchp x y <;> cases d == c <;> rfl
  rw [key x y, key y x, s3_ex]
  refine s3_cong (fun d _ => s3_cong (fun c _ => ?_))
  rw [us3_comm, tchp_comm]
  have e : (d == c) = (c == d) := by rw [Bool.eq_iff_iff]; simp; exact eq_comm
  rw [e]
  cases al x c <;> cases fr3 U x c <;> cases al y d <;> cases fr3 U y d <;> cases tchp y x <;> cases c == d <;> rfl
theorem cq_perm (al : TH → Nat → Bool) {Q Q' : List TH} (h : Q.Perm Q') : ∀ U, cq al Q U = cq al Q' U := by
  induction h with
  | nil => intro U; rfl
  | cons x _ ih =>
    intro U
    refine s3_cong (fun c _ => ?_)
    rw [ih]
  | swap x y l => intro U; exact cq_swap al y x l U
  | trans _ _ ih1 ih2 => intro U; rw [ih1, ih2]
theorem fr3_cong {U V : UC} {x : TH} {c : Nat} (h : ∀ k, atk k x = true → U k c = V k c) : fr3 U x c = fr3 V x c := by
  unfold fr3
  rw [h x.1 (by unfold atk; simp), h x.2.1 (by unfold atk; simp)]
theorem cq_cong {al al' : TH → Nat → Bool} : ∀ {Q : List TH} {U V : UC}, (∀ x ∈ Q, ∀ k, atk k x = true → ∀ c, U k c = V k c) → (∀ x ∈ Q, ∀ c, c < 3 → al x c = al' x c) → cq al Q U = cq al' Q V
  | [], _, _, _, _ => rfl
  | x :: Q, U, V, h, ha => by
    refine s3_cong (fun c hc => ?_)
    rw [ha x List.mem_cons_self c hc, fr3_cong (fun k hk => h x List.mem_cons_self k hk c), cq_cong (al := al) (al' := al') (Q := Q) (U := us3 U x c) (V := us3 V x c) (fun y hy k hk d => by
      unfold us3
      rw [h y (List.mem_cons_of_mem _ hy) k hk d]) (fun y hy d hd => ha y (List.mem_cons_of_mem _ hy) d hd)]
theorem cq_app {al : TH → Nat → Bool} {B : List TH} : ∀ {A : List TH} {U : UC}, (∀ x ∈ A, ∀ y ∈ B, tchp x y = false) → cq al (A ++ B) U = cq al A U * cq al B U
  | [], U, _ => by
    show cq al B U = 1 * _
    rw [Nat.one_mul]
  | x :: A, U, h => by
    show s3 (fun c => if (al x c && fr3 U x c) = true then cq al (A ++ B) (us3 U x c) else 0) = s3 (fun c => if (al x c && fr3 U x c) = true then cq al A (us3 U x c) else 0) * cq al B U
    rw [← s3_mul]
    refine s3_cong (fun c _ => ?_)
    by_cases q : (al x c && fr3 U x c) = true
    · rw [if_pos q, if_pos q, cq_app (fun y hy => h y (List.mem_cons_of_mem _ hy)), cq_cong (al' := al) (Q := B) (V := U) (fun y hy k hk d => ?_) (fun _ _ _ _ => rfl)]
      have t := h x List.mem_cons_self y hy
      have n : atk k x = false := by
        unfold tchp at t
        unfold atk at t hk ⊢
        cases e : (x.1 == k || x.2.1 == k) with
        | false => rfl
        | true =>
          simp at t hk e
          omega
      unfold us3
      rw [n]
      simp
    · rw [if_neg q, if_neg q, Nat.zero_mul]
/-- two colours exchanged -/
def sw (a d : Nat) : Nat := if d = 0 then a else if d = a then 0 else d
theorem sw_sw {a d : Nat} : sw a (sw a d) = d := by
  unfold sw
  by_cases q : d = 0
  · rw [if_pos q]
    by_cases q2 : a = 0
    · rw [if_pos q2, q2, q]
    · rw [if_neg q2, if_pos rfl, q]
  · rw [if_neg q]
    by_cases q2 : d = a
    · rw [if_pos q2, if_pos rfl, q2]
    · rw [if_neg q2, if_neg q, if_neg q2]
theorem sw_eq {a d e : Nat} : (sw a e == sw a d) = (e == d) := by
  rw [Bool.eq_iff_iff]
  simp
  constructor
  · intro h
    rw [← sw_sw (a := a) (d := e), h, sw_sw]
  · intro h
    rw [h]
theorem s3_sw {a : Nat} (h : a < 3) (f : Nat → Nat) : s3 (fun d => f (sw a d)) = s3 f := by
  have : a = 0 ∨ a = 1 ∨ a = 2 := by omega
  unfold s3
  rcases this with g | g | g <;> subst g
  · rfl
  · show f 1 + f 0 + f 2 = _
    omega
  · show f 2 + f 1 + f 0 = _
    omega
theorem cq_sw {al : TH → Nat → Bool} {a : Nat} (h : a < 3) : ∀ {Q : List TH} {U : UC}, (∀ x ∈ Q, ∀ c, al x c = true) → cq al Q (fun k d => U k (sw a d)) = cq al Q U
  | [], _, _ => rfl
  | x :: Q, U, ha => by
    show s3 (fun c => if (al x c && fr3 (fun k d => U k (sw a d)) x c) = true then cq al Q (us3 (fun k d => U k (sw a d)) x c) else 0) = s3 (fun c => if (al x c && fr3 U x c) = true then cq al Q (us3 U x c) else 0)
    rw [← s3_sw h (fun c => if (al x c && fr3 U x c) = true then cq al Q (us3 U x c) else 0)]
    refine s3_cong (fun c _ => ?_)
    have e : us3 (fun k d => U k (sw a d)) x c = fun k d => us3 U x (sw a c) k (sw a d) := by
      funext k d
      unfold us3
      rw [sw_eq]
    rw [ha x List.mem_cons_self c, ha x List.mem_cons_self (sw a c), e, cq_sw h (U := us3 U x (sw a c)) (fun y hy => ha y (List.mem_cons_of_mem _ hy))]
    rfl
theorem cq_bare {al : TH → Nat → Bool} {x : TH} {Q : List TH} {U : UC} (ha : ∀ y ∈ x :: Q, ∀ c, al y c = true) (hb : ∀ y ∈ x :: Q, ∀ k, atk k y = true → ∀ c, U k c = false) : cq al (x :: Q) U = 3 * cq al Q (us3 U x 0) := by
  have e : ∀ c, c < 3 → (if (al x c && fr3 U x c) = true then cq al Q (us3 U x c) else 0) = cq al Q (us3 U x 0) := by
    intro c hc
    have f : fr3 U x c = true := by
      unfold fr3
      rw [hb x List.mem_cons_self x.1 (by unfold atk; simp), hb x List.mem_cons_self x.2.1 (by unfold atk; simp)]
      rfl
    rw [ha x List.mem_cons_self, f, if_pos (show (true && true) = true from rfl), ← cq_sw (al := al) hc (Q := Q) (U := us3 U x 0) (fun y hy => ha y (List.mem_cons_of_mem _ hy))]
    refine cq_cong (fun y hy k hk d => ?_) (fun _ _ _ _ => rfl)
    have z := hb y (List.mem_cons_of_mem _ hy) k hk
    unfold us3
    rw [z, z]
    congr 2
    have : sw c c = 0 := by
      unfold sw
      by_cases q : c = 0
      · rw [if_pos q, q]
      · rw [if_neg q, if_pos rfl]
    rw [← this, sw_eq]
  show s3 _ = _
  rw [s3_cong e]
  show cq al Q (us3 U x 0) + cq al Q (us3 U x 0) + cq al Q (us3 U x 0) = _
  omega
theorem ct_two {x : TH} {S : Nat → Bool} (o1 : x.1 < x.2.1) (o2 : x.2.1 < 14) (h1 : S x.1 = false) (h2 : S x.2.1 = false) : ct S 14 + 2 ≤ ct (fun k => S k || atk k x) 14 := by
  have a : ct S 14 < ct (fun k => S k || x.1 == k) 14 := ct_strict (i := x.1) (fun i _ hi => by rw [hi]; rfl) (by omega) h1 (by simp)
  have b : ct (fun k => S k || x.1 == k) 14 < ct (fun k => S k || atk k x) 14 := ct_strict (i := x.2.1) (fun i _ hi => by
    unfold atk
    cases q : S i with
    | true => rfl
    | false =>
      rw [q] at hi
      have hi : (x.1 == i) = true := hi
      rw [hi]
      rfl) (by omega) (by rw [h2]; simp; omega) (by unfold atk; simp)
  omega
theorem s3_p (f : Nat → Nat) (P : Nat) : s3 f * P = f 0 * P + f 1 * P + f 2 * P := by
  unfold s3
  rw [Nat.add_mul, Nat.add_mul]
/-- a bound -/
theorem cq_le {al : TH → Nat → Bool} : ∀ {Q : List TH} {U : UC} {S : Nat → Bool} {h : Nat}, (∀ x ∈ Q, x.1 < x.2.1 ∧ x.2.1 < 14) → (∀ k, S k = true → ∃ c, c < 3 ∧ U k c = true) → 14 ≤ ct S 14 + 2 * h → cq al Q U * 2 ^ h ≤ 3 ^ h * 2 ^ Q.length
  | [], U, S, h, _, _, _ => by
    show 1 * 2 ^ h ≤ 3 ^ h * 1
    rw [Nat.one_mul, Nat.mul_one]
    exact Nat.pow_le_pow_left (by decide) h
  | x :: Q, U, S, h, hok, hS, hh => by
    obtain ⟨o1, o2⟩ := hok x List.mem_cons_self
    have hok' : ∀ y ∈ Q, y.1 < y.2.1 ∧ y.2.1 < 14 := fun y hy => hok y (List.mem_cons_of_mem _ hy)
    have hS' : ∀ c, c < 3 → ∀ k, (S k || atk k x) = true → ∃ d, d < 3 ∧ us3 U x c k d = true := fun c hc k hk => by
      rw [Bool.or_eq_true] at hk
      rcases hk with g | g
      · obtain ⟨d, h1, h2⟩ := hS k g
        exact ⟨d, h1, by unfold us3; rw [h2]; rfl⟩
      · exact ⟨c, hc, by unfold us3; rw [g]; simp⟩
    have cS : ct S 14 ≤ ct (fun k => S k || atk k x) 14 := ct_mono (fun i _ hi => by rw [hi]; rfl)
    by_cases fr : S x.1 = false ∧ S x.2.1 = false
    · have c2 : ct S 14 + 2 ≤ ct (fun k => S k || atk k x) 14 := ct_two o1 o2 fr.1 fr.2
      have l14 := ct_le (fun k => S k || atk k x) 14
      obtain ⟨h, rfl⟩ : ∃ m, h = m + 1 := ⟨h - 1, by omega⟩
      have b : ∀ c, c < 3 → (if (al x c && fr3 U x c) = true then cq al Q (us3 U x c) else 0) * 2 ^ h ≤ 3 ^ h * 2 ^ Q.length := fun c hc => by
        split
        · exact cq_le hok' (hS' c hc) (by omega)
        · rw [Nat.zero_mul]; exact Nat.zero_le _
      have b0 := b 0 (by decide)
      have b1 := b 1 (by decide)
      have b2 := b 2 (by decide)
      have e1 := s3_p (fun c => if (al x c && fr3 U x c) = true then cq al Q (us3 U x c) else 0) (2 ^ h)
      have e2 := Nat.mul_mul_mul_comm (3 ^ h) 3 (2 ^ Q.length) 2
      have e3 := Nat.mul_assoc (s3 (fun c => if (al x c && fr3 U x c) = true then cq al Q (us3 U x c) else 0)) (2 ^ h) 2
      show s3 (fun c => if (al x c && fr3 U x c) = true then cq al Q (us3 U x c) else 0) * 2 ^ (h + 1) ≤ 3 ^ (h + 1) * 2 ^ (Q.length + 1)
      rw [Nat.pow_succ, Nat.pow_succ, Nat.pow_succ, e2, ← e3, e1]
      omega
    · have two : ∃ c, c < 3 ∧ fr3 U x c = false := by
        have : S x.1 = true ∨ S x.2.1 = true := by
          cases q1 : S x.1 <;> cases q2 : S x.2.1 <;> simp_all
        rcases this with g | g
        · obtain ⟨d, h1, h2⟩ := hS _ g
          exact ⟨d, h1, by unfold fr3; rw [h2]; rfl⟩
        · obtain ⟨d, h1, h2⟩ := hS _ g
          exact ⟨d, h1, by unfold fr3; rw [h2]; simp⟩
      have b : ∀ c, c < 3 → (if (al x c && fr3 U x c) = true then cq al Q (us3 U x c) else 0) * 2 ^ h ≤ 3 ^ h * 2 ^ Q.length := fun c hc => by
        split
        · exact cq_le hok' (hS' c hc) (by omega)
        · rw [Nat.zero_mul]; exact Nat.zero_le _
      have z : ∀ c, fr3 U x c = false → (if (al x c && fr3 U x c) = true then cq al Q (us3 U x c) else 0) * 2 ^ h = 0 := fun c hc => by
        rw [hc, Bool.and_false, if_neg (by decide), Nat.zero_mul]
      have b0 := b 0 (by decide)
      have b1 := b 1 (by decide)
      have b2 := b 2 (by decide)
      have e1 := s3_p (fun c => if (al x c && fr3 U x c) = true then cq al Q (us3 U x c) else 0) (2 ^ h)
      have e3 := Nat.mul_assoc (3 ^ h) (2 ^ Q.length) 2
      obtain ⟨c, hc, hz⟩ := two
      have zc := z c hz
      have c3 : c = 0 ∨ c = 1 ∨ c = 2 := by omega
      show s3 (fun c => if (al x c && fr3 U x c) = true then cq al Q (us3 U x c) else 0) * 2 ^ h ≤ 3 ^ h * 2 ^ (Q.length + 1)
      rw [Nat.pow_succ, ← e3, e1]
      rcases c3 with g | g | g <;> subst g <;> omega
end
-- 82.longs.lean.txt
section
/-! pure: what is used at the knots, three bits for each -/
def repU (u : Nat) (U : UC) : Prop := u < 2 ^ 42 ∧ (∀ k c, k < 14 → c < 3 → u.testBit (3 * k + c) = U k c) ∧ ∀ k c, 3 ≤ c → U k c = false
theorem lor (a b : Nat) (ha : a < 2 ^ 64) (hb : b < 2 ^ 64) : lN a ||| lN b = lN (a ||| b) := wb_or ha hb
theorem land (a b : Nat) (ha : a < 2 ^ 64) (hb : b < 2 ^ 64) : lN a &&& lN b = lN (a &&& b) := wb_and ha hb
theorem us_L {u k : Nat} (hu : u < 2 ^ 64) (hk : k < 64) : lus (lN u) (nI k) = lN (u / 2 ^ k) := wb_shr hu hk
theorem sh_L {k : Nat} (hk : k < 64) : lsh 1 (nI k) = lN (2 ^ k) := by
  have := wb_shl 1 hk
  rw [Nat.one_mul] at this
  exact this
def useM (u lo hi : Nat) : Nat := ((u / 2 ^ (3 * lo)) ||| (u / 2 ^ (3 * hi))) % 2 ^ 3
theorem useM_lt (u lo hi : Nat) : useM u lo hi < 8 := Nat.mod_lt _ (by decide)
theorem useM_tb {u lo hi c : Nat} (hc : c < 3) : (useM u lo hi).testBit c = (u.testBit (3 * lo + c) || u.testBit (3 * hi + c)) := by
  unfold useM
  rw [Nat.testBit_mod_two_pow, Nat.testBit_or, Nat.testBit_div_two_pow, Nat.testBit_div_two_pow]
  simp [hc, Nat.add_comm]
theorem useM_0 {u lo hi : Nat} : useM u lo hi = 0 ↔ ∀ c, c < 3 → u.testBit (3 * lo + c) = false ∧ u.testBit (3 * hi + c) = false := by
  constructor
  · intro h c hc
    have := useM_tb (u := u) (lo := lo) (hi := hi) hc
    rw [h, Nat.zero_testBit] at this
    have := this.symm
    rw [Bool.or_eq_false_iff] at this
    exact this
  · intro h
    apply Nat.eq_of_testBit_eq
    intro c
    rw [Nat.zero_testBit]
    rcases Nat.lt_or_ge c 3 with g | g
    · rw [useM_tb g, (h c g).1, (h c g).2]
      rfl
    · exact Nat.testBit_lt_two_pow (Nat.lt_of_lt_of_le (useM_lt u lo hi) (p2le (a := 3) g))
theorem x_usedAt {N u lo hi : Nat} (hu : u < 2 ^ 42) (h1 : lo < 14) (h2 : hi < 14) : m_X3_usedAt N (nI (3 * lo)) (nI (3 * hi)) (lN u) = some (nI (useM u lo hi)) := by
  have d1 : u / 2 ^ (3 * lo) < 2 ^ 42 := Nat.lt_of_le_of_lt (Nat.div_le_self _ _) hu
  have d2 : u / 2 ^ (3 * hi) < 2 ^ 42 := Nat.lt_of_le_of_lt (Nat.div_le_self _ _) hu
  unfold m_X3_usedAt useM
  rw [us_L (by omega) (by omega), us_L (by omega) (by omega), lor _ _ (by omega) (by omega), lN_i]
  have := fa_mask (u / 2 ^ (3 * lo) ||| u / 2 ^ (3 * hi)) 3
  rw [← this]
  rfl
def useW (lo hi c : Nat) : Nat := 2 ^ (3 * lo + c) ||| 2 ^ (3 * hi + c)
theorem useW_lt {lo hi c : Nat} (h1 : lo < 14) (h2 : hi < 14) (hc : c < 3) : useW lo hi c < 2 ^ 42 := or_lt (p2lt (by omega)) (p2lt (by omega))
theorem x_usedWith {N lo hi c : Nat} (h1 : lo < 14) (h2 : hi < 14) (hc : c < 3) : m_X3_usedWith N (nI (3 * lo)) (nI (3 * hi)) (nI c) = some (lN (useW lo hi c)) := by
  have a : 2 ^ (3 * lo + c) < 2 ^ 42 := p2lt (by omega)
  have b : 2 ^ (3 * hi + c) < 2 ^ 42 := p2lt (by omega)
  unfold m_X3_usedWith useW
  rw [nI_add, nI_add, sh_L (by omega), sh_L (by omega), lor _ _ (by omega) (by omega)]
theorem useW_tb {lo hi c k d : Nat} (hc : c < 3) (hd : d < 3) : (useW lo hi c).testBit (3 * k + d) = ((lo == k || hi == k) && d == c) := by
  unfold useW
  rw [Nat.testBit_or, Nat.testBit_two_pow, Nat.testBit_two_pow, Bool.eq_iff_iff]
  simp
  omega
theorem rep_us {u : Nat} {U : UC} {x : TH} {c : Nat} (h : repU u U) (h1 : x.1 < 14) (h2 : x.2.1 < 14) (hc : c < 3) : repU (u ||| useW x.1 x.2.1 c) (us3 U x c) := by
  refine ⟨or_lt h.1 (useW_lt h1 h2 hc), fun k d hk hd => ?_, fun k d hd => ?_⟩
  · rw [Nat.testBit_or, h.2.1 k d hk hd, useW_tb hc hd]
    rfl
  · unfold us3
    rw [h.2.2 k d hd]
    have : (d == c) = false := by simp; omega
    rw [this]
    simp
theorem rep_0 : repU 0 (fun _ _ => false) := ⟨by decide, fun k c _ _ => Nat.zero_testBit _, fun _ _ _ => rfl⟩
theorem rep_free {u : Nat} {U : UC} {x : TH} {c : Nat} (h : repU u U) (h1 : x.1 < 14) (h2 : x.2.1 < 14) (hc : c < 3) : (useM u x.1 x.2.1).testBit c = !fr3 U x c := by
  rw [useM_tb hc, h.2.1 _ _ h1 hc, h.2.1 _ _ h2 hc]
  unfold fr3
  cases U x.1 c <;> cases U x.2.1 c <;> rfl
end
-- 83.ways.lean.txt
section
/-! pure: the class counts the good paintings of a group -/
def allT : TH → Nat → Bool := fun _ _ => true
def thn (L : List TH) (t : Nat) : TH := L.getD t (0, 0, 0)
def PAr (L : List TH) (Z : List Nat) (b l g : Nat → Int32) : Prop := ∀ p t, Z[p]? = some t → b p = nI (2 ^ t) ∧ l p = nI (3 * (thn L t).1) ∧ g p = nI (3 * (thn L t).2.1)
def okZ (L : List TH) (Z : List Nat) : Prop := ∀ t ∈ Z, t < 21 ∧ (thn L t).1 < (thn L t).2.1 ∧ (thn L t).2.1 < 14
def qs (L : List TH) (skip : Nat) (R : List Nat) : List TH := (R.filter (fun t => !skip.testBit t)).map (thn L)
theorem qs_skip {L : List TH} {skip t : Nat} {R : List Nat} (h : skip.testBit t = true) : qs L skip (t :: R) = qs L skip R := by
  unfold qs
  rw [List.filter_cons, h]
  rfl
theorem qs_take {L : List TH} {skip t : Nat} {R : List Nat} (h : skip.testBit t = false) : qs L skip (t :: R) = thn L t :: qs L skip R := by
  unfold qs
  rw [List.filter_cons, h]
  rfl
theorem qs_app (L : List TH) (skip : Nat) (A B : List Nat) : qs L skip (A ++ B) = qs L skip A ++ qs L skip B := by
  unfold qs
  rw [List.filter_append, List.map_append]
theorem qs_mem {L : List TH} {skip : Nat} {R : List Nat} {x : TH} (h : x ∈ qs L skip R) : ∃ t ∈ R, skip.testBit t = false ∧ x = thn L t := by
  unfold qs at h
  rw [List.mem_map] at h
  obtain ⟨t, ht, rfl⟩ := h
  rw [List.mem_filter] at ht
  exact ⟨t, ht.1, by simpa using ht.2, rfl⟩
theorem qs_len (L : List TH) (skip : Nat) (R : List Nat) : (qs L skip R).length ≤ R.length := by
  unfold qs
  rw [List.length_map]
  exact List.length_filter_le _ _
theorem qs_ok {L : List TH} {skip : Nat} {R : List Nat} (h : okZ L R) : ∀ x ∈ qs L skip R, x.1 < x.2.1 ∧ x.2.1 < 14 := by
  intro x hx
  obtain ⟨t, ht, -, rfl⟩ := qs_mem hx
  exact (h t ht).2
theorem cq_b {al : TH → Nat → Bool} {Q : List TH} {U : UC} (hok : ∀ x ∈ Q, x.1 < x.2.1 ∧ x.2.1 < 14) (hl : Q.length ≤ 21) : cq al Q U < 2 ^ 30 := by
  have h := cq_le (al := al) (Q := Q) (U := U) (S := fun _ => false) (h := 7) hok (fun k hk => by cases hk) (by omega)
  have h2 := p2le hl
  have e7 : (2 : Nat) ^ 7 = 128 := by decide
  have e3 : (3 : Nat) ^ 7 = 2187 := by decide
  have e21 : (2 : Nat) ^ 21 = 2097152 := by decide
  have e30 : (2 : Nat) ^ 30 = 1073741824 := by decide
  rw [e7, e3] at h
  rw [e21] at h2
  rw [e30]
  omega
def GW (w q E : Nat) : Prop := w ≤ q ∧ (0 < q → 0 < w) ∧ (q ≤ E → w = q)
def sF (F : Nat → Nat) : Nat → Nat → Nat
  | 0, _ => 0
  | k + 1, c => F c + sF F k (c + 1)
theorem wf_loop {N u E : Nat} {U : UC} {x : TH} {q : Nat → Nat} {rec : (Nat → Int32) → (Nat → Int32) → (Nat → Int32) → Int32 → Int32 → Int64 → Int32 → Int32 → Option Int32} {b l g : Nat → Int32} {a1 a2 a5 : Int32} (hu : repU u U) (h1 : x.1 < 14) (h2 : x.2.1 < 14) (hE : 1 ≤ E) (hE2 : E < 2 ^ 31)
    (hrec : ∀ c, c < 3 → fr3 U x c = true → ∀ E', 1 ≤ E' → E' < 2 ^ 31 → ∃ w, rec b l g (a1 + 1) a2 (lN (u ||| useW x.1 x.2.1 c)) a5 (nI E') = some (nI w) ∧ GW w (q c) E') :
    ∀ k c s n, c + k = 3 → k < n → s + sF (fun c => if fr3 U x c = true then q c else 0) k c < 2 ^ 31 → ∃ w, m_X3_waysFrom_L77 N rec b l g a1 a2 (lN u) a5 (nI E) (nI (3 * x.1)) (nI (3 * x.2.1)) (nI (useM u x.1 x.2.1)) n (nI c) (nI s) = some (nI w) ∧ w ≤ s + sF (fun c => if fr3 U x c = true then q c else 0) k c ∧ (0 < s + sF (fun c => if fr3 U x c = true then q c else 0) k c → 0 < w) ∧ (s + sF (fun c => if fr3 U x c = true then q c else 0) k c ≤ E → w = s + sF (fun c => if fr3 U x c = true then q c else 0) k c) := by
  intro k
  induction k with
  | zero =>
    intro c s n hc hn hs
    obtain ⟨n, rfl⟩ : ∃ m, n = m + 1 := ⟨n - 1, by omega⟩
    have : c = 3 := by omega
    subst this
    exact ⟨s, by rw [m_X3_waysFrom_L77, if_pos (show (3 : Int32) ≤ nI 3 by decide)], by omega, id, fun _ => rfl⟩
  | succ k ih =>
    intro c s n hc hn hs
    obtain ⟨n, rfl⟩ : ∃ m, n = m + 1 := ⟨n - 1, by omega⟩
    have hc3 : c < 3 := by omega
    have eF : sF (fun c => if fr3 U x c = true then q c else 0) (k + 1) c = (if fr3 U x c = true then q c else 0) + sF (fun c => if fr3 U x c = true then q c else 0) k (c + 1) := rfl
    rw [eF] at hs ⊢
    have n3 : ¬ (3 : Int32) ≤ nI c := nI_ge (a := c) (b := 3) hc3 (by decide)
    rw [m_X3_waysFrom_L77, if_neg n3]
    by_cases q1 : E ≤ s
    · rw [if_pos (nI_le q1 (by omega))]
      exact ⟨s, rfl, by omega, fun _ => by omega, fun _ => by omega⟩
    · rw [if_neg (nI_ge (by omega) hE2), m_holds (by have := useM_lt u x.1 x.2.1; omega) (by omega), r_bind, rep_free hu h1 h2 hc3]
      cases fr : fr3 U x c with
      | false =>
        rw [fr] at hs
        have z : (if false = true then q c else 0) = 0 := rfl
        rw [z] at hs ⊢
        obtain ⟨w, g1, g2, g3, g4⟩ := ih (c + 1) s n (by omega) (by omega) (by omega)
        rw [sel, if_pos (show (!false) = true from rfl), nI_1]
        exact ⟨w, g1, by omega, fun h => g3 (by omega), fun h => by have := g4 (by omega); omega⟩
      | true =>
        rw [fr] at hs
        have z : (if true = true then q c else 0) = q c := rfl
        rw [z] at hs ⊢
        have lu : u < 2 ^ 64 := Nat.lt_of_lt_of_le hu.1 (p2le (by decide))
        have lw : useW x.1 x.2.1 c < 2 ^ 64 := Nat.lt_of_lt_of_le (useW_lt h1 h2 hc3) (p2le (by decide))
        obtain ⟨w0, r1, r2, r3, r4⟩ := hrec c hc3 fr (E - s) (by omega) (by omega)
        obtain ⟨w, g1, g2, g3, g4⟩ := ih (c + 1) (s + w0) n (by omega) (by omega) (by omega)
        rw [sel, if_neg (show ¬ (!true) = true by decide), x_usedWith h1 h2 hc3, r_bind]
        simp only [nm]
        rw [lor _ _ lu lw, pk_sub (by omega), r1, r_bind, nI_add, nI_1]
        refine ⟨w, g1, by omega, fun h => g3 ?_, fun h => ?_⟩
        · rcases Nat.eq_zero_or_pos (q c) with t | t
          · omega
          · have := r3 t
            omega
        · have := r4 (by omega)
          have := g4 (by omega)
          omega
theorem skip_iff {t skip : Nat} (ht : t < 21) (hs : skip < 2 ^ 31) : nI (2 ^ t) &&& nI skip = 0 ↔ skip.testBit t = false := by
  rw [nand, Nat.and_comm, nI_eq0 (Nat.lt_of_le_of_lt Nat.and_le_left hs), and_p2]
theorem x_waysFrom {N skip : Nat} {L : List TH} {Z B : List Nat} {b l g : Nat → Int32} (hN : 1000 ≤ N) (hP : PAr L Z b l g) (hZ : Z.length ≤ 21) (hok : okZ L Z) (hs : skip < 2 ^ 31) : ∀ (R A : List Nat), Z = A ++ R ++ B → ∀ (d u E : Nat) (U : UC), R.length < d → repU u U → 1 ≤ E → E < 2 ^ 31 → ∃ w, m_X3_waysFrom N d b l g (nI A.length) (nI (A.length + R.length)) (lN u) (nI skip) (nI E) = some (nI w) ∧ GW w (cq allT (qs L skip R) U) E := by
  intro R
  induction R with
  | nil =>
    intro A hA d u E U hd hu hE hE2
    obtain ⟨d, rfl⟩ : ∃ m, d = m + 1 := ⟨d - 1, by omega⟩
    have la : A.length ≤ 21 := by
      have := congrArg List.length hA
      simp at this
      omega
    refine ⟨1, by rw [m_X3_waysFrom, if_pos (nI_le (by simp) (by simp; omega))]; rfl, Nat.le_refl _, fun _ => by decide, fun _ => rfl⟩
  | cons t R ih =>
    intro A hA d u E U hd hu hE hE2
    obtain ⟨d, rfl⟩ : ∃ m, d = m + 1 := ⟨d - 1, by omega⟩
    have la : A.length + R.length + 1 ≤ 21 := by
      have := congrArg List.length hA
      simp at this
      omega
    have hp : Z[A.length]? = some t := by
      rw [hA, List.append_assoc, List.getElem?_append_right (Nat.le_refl _), Nat.sub_self]
      rfl
    obtain ⟨p1, p2, p3⟩ := hP _ t hp
    obtain ⟨t21, o1, o2⟩ := hok t (List.mem_of_getElem? hp)
    have hA' : Z = (A ++ [t]) ++ R ++ B := by rw [hA]; simp
    have lA : (A ++ [t]).length = A.length + 1 := by simp
    have stop : nI (A.length + (t :: R).length) = nI ((A ++ [t]).length + R.length) := by
      rw [lA, List.length_cons]
      congr 1
      omega
    have l21 : nI A.length < 21 := nI_lt (a := A.length) (b := 21) (by omega) (by decide)
    rw [m_X3_waysFrom, if_neg (nI_ge (by rw [List.length_cons]; omega) (by rw [List.length_cons]; omega)), if_pos l21, x_at (by omega) (by decide), r_bind, p1]
    cases q : skip.testBit t with
    | true =>
      rw [if_neg (fun h => by rw [skip_iff t21 hs, q] at h; cases h), qs_skip q, nI_1]
      obtain ⟨w, g1, g2⟩ := ih (A ++ [t]) hA' d u E U (by simp at hd; omega) hu hE hE2
      rw [lA, ← lA, stop] at *
      rw [lA] at g1
      rw [← lA]
      rw [lA, g1]
      exact ⟨w, rfl, g2⟩
    | false =>
      rw [if_pos ((skip_iff t21 hs).mpr q), qs_take q, x_at (by omega) (by decide), r_bind, p2, x_at (by omega) (by decide), r_bind, p3, x_usedAt hu.1 (by omega) o2, r_bind]
      have bound : cq allT (thn L t :: qs L skip R) U < 2 ^ 30 := by
        rw [← qs_take q]
        have hok2 : okZ L (t :: R) := fun v hv => hok v (by rw [hA]; exact List.mem_append_left _ (List.mem_append_right _ hv))
        exact cq_b (qs_ok hok2) (Nat.le_trans (qs_len L skip (t :: R)) (by simp; omega))
      have e3 : 0 + sF (fun c => if fr3 U (thn L t) c = true then cq allT (qs L skip R) (us3 U (thn L t) c) else 0) 3 0 = cq allT (thn L t :: qs L skip R) U := by
        show 0 + ((if fr3 U (thn L t) 0 = true then cq allT (qs L skip R) (us3 U (thn L t) 0) else 0) + ((if fr3 U (thn L t) 1 = true then cq allT (qs L skip R) (us3 U (thn L t) 1) else 0) + ((if fr3 U (thn L t) 2 = true then cq allT (qs L skip R) (us3 U (thn L t) 2) else 0) + 0))) = (if fr3 U (thn L t) 0 = true then cq allT (qs L skip R) (us3 U (thn L t) 0) else 0) + (if fr3 U (thn L t) 1 = true then cq allT (qs L skip R) (us3 U (thn L t) 1) else 0) + (if fr3 U (thn L t) 2 = true then cq allT (qs L skip R) (us3 U (thn L t) 2) else 0)
        omega
      have := wf_loop (N := N) (u := u) (E := E) (U := U) (x := thn L t) (q := fun c => cq allT (qs L skip R) (us3 U (thn L t) c)) (rec := m_X3_waysFrom N d) (b := b) (l := l) (g := g) (a1 := nI A.length) (a2 := nI (A.length + (t :: R).length)) (a5 := nI skip) hu (by omega) o2 hE hE2 (fun c hc hf E' h1 h2 => by
        obtain ⟨w, g1, g2⟩ := ih (A ++ [t]) hA' d (u ||| useW (thn L t).1 (thn L t).2.1 c) E' (us3 U (thn L t) c) (by simp at hd; omega) (rep_us hu (by omega) o2 hc) h1 h2
        rw [nI_1, stop]
        rw [lA] at g1 ⊢
        exact ⟨w, g1, g2⟩) 3 0 0 N rfl (by omega) (by rw [e3]; omega)
      rw [e3] at this
      obtain ⟨w, g1, g2, g3, g4⟩ := this
      exact ⟨w, g1, g2, g3, g4⟩
end
-- 84.group.lean.txt
section
/-! pure: groups, and the product of their numbers -/
theorem x_isBare {N skip u : Nat} {U : UC} {L : List TH} {Z B : List Nat} {b l g : Nat → Int32} (hN : 1000 ≤ N) (hP : PAr L Z b l g) (hZ : Z.length ≤ 21) (hok : okZ L Z) (hs : skip < 2 ^ 31) (hu : repU u U) : ∀ (R A : List Nat), Z = A ++ R ++ B → ∀ d, R.length < d → ∃ r, m_X3_isBare_L3 N b l g (nI (A.length + R.length)) (lN u) (nI skip) d (nI A.length) = some r ∧ (r = 0 ∨ (r = 1 ∧ ∀ x ∈ qs L skip R, ∀ k, atk k x = true → ∀ c, U k c = false)) := by
  intro R
  induction R with
  | nil =>
    intro A hA d hd
    obtain ⟨d, rfl⟩ : ∃ m, d = m + 1 := ⟨d - 1, by omega⟩
    have la : A.length ≤ 21 := by
      have := congrArg List.length hA
      simp at this
      omega
    exact ⟨1, by rw [m_X3_isBare_L3, if_pos (nI_le (by simp) (by simp; omega))], Or.inr ⟨rfl, fun x hx => by cases hx⟩⟩
  | cons t R ih =>
    intro A hA d hd
    obtain ⟨d, rfl⟩ : ∃ m, d = m + 1 := ⟨d - 1, by omega⟩
    have la : A.length + R.length + 1 ≤ 21 := by
      have := congrArg List.length hA
      simp at this
      omega
    have hp : Z[A.length]? = some t := by
      rw [hA, List.append_assoc, List.getElem?_append_right (Nat.le_refl _), Nat.sub_self]
      rfl
    obtain ⟨p1, p2, p3⟩ := hP _ t hp
    obtain ⟨t21, o1, o2⟩ := hok t (List.mem_of_getElem? hp)
    have hA' : Z = (A ++ [t]) ++ R ++ B := by rw [hA]; simp
    have lA : (A ++ [t]).length = A.length + 1 := by simp
    have stop : nI (A.length + (t :: R).length) = nI ((A ++ [t]).length + R.length) := by
      rw [lA, List.length_cons]
      congr 1
      omega
    obtain ⟨r, r1, r2⟩ := ih (A ++ [t]) hA' d (by simp at hd; omega)
    rw [← stop, lA] at r1
    rw [m_X3_isBare_L3, if_neg (nI_ge (by rw [List.length_cons]; omega) (by rw [List.length_cons]; omega)), x_at (by omega) (by decide), r_bind, p1]
    simp only [jn]
    rw [x_at (by omega) (by decide), r_bind, p2, x_at (by omega) (by decide), r_bind, p3, x_usedAt hu.1 (by omega) o2, r_bind, nI_1, r1]
    cases q : skip.testBit t with
    | true =>
      rw [if_neg (fun h => by rw [skip_iff t21 hs, q] at h; cases h), if_neg n10, qs_skip q]
      exact ⟨r, rfl, r2⟩
    | false =>
      rw [if_pos ((skip_iff t21 hs).mpr q), qs_take q]
      have e0 : (if (0 : Int32) = 0 then (if nI (useM u (thn L t).1 (thn L t).2.1) = 0 then some r else some 0) else some r) = (if nI (useM u (thn L t).1 (thn L t).2.1) = 0 then some r else some 0) := if_pos rfl
      refine ⟨if nI (useM u (thn L t).1 (thn L t).2.1) = 0 then r else 0, Eq.trans e0 (by split <;> rfl), ?_⟩
      by_cases w : useM u (thn L t).1 (thn L t).2.1 = 0
      · rw [if_pos (by rw [w]; rfl)]
        rcases r2 with r2 | ⟨r2, r3⟩
        · exact Or.inl r2
        · refine Or.inr ⟨r2, fun x hx k hk c => ?_⟩
          rcases List.mem_cons.mp hx with g1 | g1
          · rcases Nat.lt_or_ge c 3 with c3 | c3
            · have := useM_0.mp w c c3
              rw [hu.2.1 _ _ (by omega) c3, hu.2.1 _ _ o2 c3] at this
              rw [g1] at hk
              unfold atk at hk
              simp at hk
              rcases hk with hk | hk
              · rw [← hk]; exact this.1
              · rw [← hk]; exact this.2
            · exact hu.2.2 k c c3
          · exact r3 x g1 k hk c
      · rw [if_neg (fun h => w ((nI_eq0 (by have := useM_lt u (thn L t).1 (thn L t).2.1; omega)).mp h))]
        exact Or.inl rfl
theorem x_first {N skip : Nat} {L : List TH} {Z B : List Nat} {b l g : Nat → Int32} {J : Int32 → Option Int32} (hN : 1000 ≤ N) (hP : PAr L Z b l g) (hZ : Z.length ≤ 21) (hok : okZ L Z) (hs : skip < 2 ^ 31) : ∀ (R A : List Nat), Z = A ++ R ++ B → ∀ d, R.length < d → (m_X3_groupWays_L27 N b (nI (A.length + R.length)) (nI skip) J d (nI A.length) = J (nI (A.length + R.length)) ∧ qs L skip R = []) ∨ ∃ R1 t R2, R = R1 ++ t :: R2 ∧ qs L skip R1 = [] ∧ skip.testBit t = false ∧ m_X3_groupWays_L27 N b (nI (A.length + R.length)) (nI skip) J d (nI A.length) = J (nI (A.length + R1.length)) := by
  intro R
  induction R with
  | nil =>
    intro A hA d hd
    obtain ⟨d, rfl⟩ : ∃ m, d = m + 1 := ⟨d - 1, by omega⟩
    have la : A.length ≤ 21 := by
      have := congrArg List.length hA
      simp at this
      omega
    exact Or.inl ⟨by rw [m_X3_groupWays_L27, if_pos (nI_le (by simp) (by simp; omega))]; rfl, rfl⟩
  | cons t R ih =>
    intro A hA d hd
    obtain ⟨d, rfl⟩ : ∃ m, d = m + 1 := ⟨d - 1, by omega⟩
    have la : A.length + R.length + 1 ≤ 21 := by
      have := congrArg List.length hA
      simp at this
      omega
    have hp : Z[A.length]? = some t := by
      rw [hA, List.append_assoc, List.getElem?_append_right (Nat.le_refl _), Nat.sub_self]
      rfl
    obtain ⟨p1, -, -⟩ := hP _ t hp
    obtain ⟨t21, -, -⟩ := hok t (List.mem_of_getElem? hp)
    have hA' : Z = (A ++ [t]) ++ R ++ B := by rw [hA]; simp
    have lA : (A ++ [t]).length = A.length + 1 := by simp
    have st : (A ++ [t]).length + R.length = A.length + (t :: R).length := by
      rw [lA, List.length_cons]
      omega
    rw [m_X3_groupWays_L27, if_neg (nI_ge (by rw [List.length_cons]; omega) (by rw [List.length_cons]; omega)), x_at (by omega) (by decide), r_bind, p1, nI_1]
    cases q : skip.testBit t with
    | true =>
      rw [if_neg (fun h => by rw [skip_iff t21 hs, q] at h; cases h), qs_skip q]
      have := ih (A ++ [t]) hA' d (by simp at hd; omega)
      rw [st, lA] at this
      rcases this with h | ⟨R1, v, R2, h1, h2, h3, h4⟩
      · exact Or.inl h
      · refine Or.inr ⟨t :: R1, v, R2, by rw [h1]; rfl, by rw [qs_skip q]; exact h2, h3, ?_⟩
        rw [h4, List.length_cons, show A.length + 1 + R1.length = A.length + (R1.length + 1) by omega]
    | false =>
      rw [if_pos ((skip_iff t21 hs).mpr q)]
      exact Or.inr ⟨[], t, R, rfl, rfl, q, by simp⟩
theorem x_groupWays {N skip u E : Nat} {U : UC} {L : List TH} {Z A R B : List Nat} {b l g : Nat → Int32} (hN : 1000 ≤ N) (hP : PAr L Z b l g) (hZ : Z.length ≤ 21) (hok : okZ L Z) (hs : skip < 2 ^ 31) (hu : repU u U) (hA : Z = A ++ R ++ B) (hE : 1 ≤ E) (hE2 : E < 2 ^ 31) : ∃ w, m_X3_groupWays N b l g (nI A.length) (nI (A.length + R.length)) (lN u) (nI skip) (nI E) = some (nI w) ∧ GW w (cq allT (qs L skip R) U) E := by
  have la : A.length + R.length ≤ 21 := by
    have := congrArg List.length hA
    simp at this
    omega
  obtain ⟨r, r1, r2⟩ := x_isBare hN hP hZ hok hs hu R A hA N (by omega)
  unfold m_X3_groupWays m_X3_isBare
  rw [r1, r_bind]
  rcases r2 with r2 | ⟨r2, r3⟩
  · rw [if_pos r2]
    obtain ⟨w, g1, g2⟩ := x_waysFrom hN hP hZ hok hs R A hA 24 u E U (by omega) hu hE hE2
    rw [g1]
    exact ⟨w, rfl, g2⟩
  · rw [if_neg (by rw [r2]; exact n10)]
    simp only [jn]
    rcases x_first (J := fun x7 => if x7 < nI (A.length + R.length) then Option.bind (m_X6_at N 21 l x7) (fun r_4 => Option.bind (m_X6_at N 21 g x7) (fun r_6 => Option.bind (m_X3_usedWith N r_4 r_6 0) (fun r_8 => nm (lN u ||| r_8) (fun (v8_10 : Int64) => Option.bind (m_X3_waysFrom N 24 b l g (x7 + 1) (nI (A.length + R.length)) v8_10 (nI skip) (nI E)) (fun r_11 => some (3 * r_11)))))) else some 1) hN hP hZ hok hs R A hA N (by omega) with ⟨h1, h2⟩ | ⟨R1, t, R2, h1, h2, h3, h4⟩
    · refine ⟨1, Eq.trans h1 ?_, ?_⟩
      · rw [if_neg (nI_nlt (Nat.le_refl _) (by omega))]
        rfl
      · rw [h2]
        exact ⟨Nat.le_refl _, fun _ => by decide, fun _ => rfl⟩
    · have lR : R.length = R1.length + R2.length + 1 := by rw [h1]; simp; omega
      have hA2 : Z = (A ++ R1 ++ [t]) ++ R2 ++ B := by rw [hA, h1]; simp
      have hp : Z[A.length + R1.length]? = some t := by
        rw [hA2, List.append_assoc, List.append_assoc (A ++ R1), List.getElem?_append_right (by simp), List.length_append, Nat.sub_self]
        rfl
      obtain ⟨p1, p2, p3⟩ := hP _ t hp
      obtain ⟨t21, o1, o2⟩ := hok t (List.mem_of_getElem? hp)
      have eq : qs L skip R = thn L t :: qs L skip R2 := by rw [h1, qs_app, h2, qs_take h3]; rfl
      have l2 : (A ++ R1 ++ [t]).length = A.length + R1.length + 1 := by simp; omega
      have lu : u < 2 ^ 64 := Nat.lt_of_lt_of_le hu.1 (p2le (by decide))
      have lw : useW (thn L t).1 (thn L t).2.1 0 < 2 ^ 64 := Nat.lt_of_lt_of_le (useW_lt (by omega) o2 (by decide)) (p2le (by decide))
      obtain ⟨w, g1, g2, g3, g4⟩ := x_waysFrom hN hP hZ hok hs R2 (A ++ R1 ++ [t]) hA2 24 (u ||| useW (thn L t).1 (thn L t).2.1 0) E (us3 U (thn L t) 0) (by omega) (rep_us hu (by omega) o2 (by decide)) hE hE2
      rw [l2, show A.length + R1.length + 1 + R2.length = A.length + R.length by omega] at g1
      have bare := cq_bare (al := allT) (x := thn L t) (Q := qs L skip R2) (U := U) (fun _ _ _ => rfl) (by rw [← eq]; exact r3)
      refine ⟨3 * w, Eq.trans h4 ?_, ?_⟩
      · rw [if_pos (nI_lt (by omega) (by omega)), x_at (by omega) (by decide), r_bind, p2, x_at (by omega) (by decide), r_bind, p3, show (0 : Int32) = nI 0 from rfl, x_usedWith (by omega) o2 (by decide), r_bind]
        simp only [nm]
        rw [lor _ _ lu lw, nI_1, g1, r_bind, show (3 : Int32) = nI 3 from rfl, pk_mul]
      · rw [eq, bare]
        exact ⟨by omega, fun h => by have := g3 (by omega); omega, fun h => by have := g4 (by omega); omega⟩
theorem GW.mul {w1 q1 w2 q2 E : Nat} (h1 : GW w1 q1 E) (h2 : GW w2 q2 E) : GW (w1 * w2) (q1 * q2) E := by
  refine ⟨Nat.mul_le_mul h1.1 h2.1, fun h => ?_, fun h => ?_⟩
  · have a : 0 < q1 := Nat.pos_of_mul_pos_right h
    have b : 0 < q2 := Nat.pos_of_mul_pos_left h
    exact Nat.mul_pos (h1.2.1 a) (h2.2.1 b)
  · rcases Nat.eq_zero_or_pos q1 with a | a
    · have : w1 = 0 := by have := h1.1; omega
      rw [this, a, Nat.zero_mul, Nat.zero_mul]
    · rcases Nat.eq_zero_or_pos q2 with b | b
      · have : w2 = 0 := by have := h2.1; omega
        rw [this, b, Nat.mul_zero, Nat.mul_zero]
      · have e1 : q1 ≤ q1 * q2 := Nat.le_mul_of_pos_right q1 b
        have e2 : q2 ≤ q1 * q2 := Nat.le_mul_of_pos_left q2 a
        rw [h1.2.2 (by omega), h2.2.2 (by omega)]
def gdis (L : List TH) (a b : List Nat) : Prop := ∀ t ∈ a, ∀ v ∈ b, tchp (thn L t) (thn L v) = false
theorem x_ways {N skip u E : Nat} {U : UC} {L : List TH} {G : List (List Nat)} {b l g st : Nat → Int32} (hN : 1000 ≤ N) (hP : PAr L G.flatten b l g) (hZ : G.flatten.length ≤ 21) (hG : G.length ≤ 21) (hok : okZ L G.flatten) (hs : skip < 2 ^ 31) (hu : repU u U) (hE : 1 ≤ E) (hE2 : E < 2 ^ 31) (hst : ∀ i, i < G.length → st i = nI (G.take (i + 1)).flatten.length) (hd : G.Pairwise (gdis L)) : ∃ w, m_X3_ways N b l g st (nI G.length) (lN u) (nI skip) (nI E) = some (nI w) ∧ GW w (cq allT (qs L skip G.flatten) U) E ∧ w < 2 ^ 30 := by
  have key : ∀ (G2 G1 : List (List Nat)), G1 ++ G2 = G → ∀ (pr f : Nat), GW pr (cq allT (qs L skip G1.flatten) U) E → G2.length < f → ∃ w, m_X3_ways_L9 N b l g st (nI G.length) (lN u) (nI skip) (nI E) f (nI G1.length) (nI G1.flatten.length) (nI pr) = some (nI w) ∧ GW w (cq allT (qs L skip G.flatten) U) E := by
    intro G2
    induction G2 with
    | nil =>
      intro G1 h1 pr f hp hf
      obtain ⟨f, rfl⟩ : ∃ m, f = m + 1 := ⟨f - 1, by omega⟩
      rw [List.append_nil] at h1
      subst h1
      exact ⟨pr, by rw [m_X3_ways_L9, if_pos (nI_le (Nat.le_refl _) (by omega))], hp⟩
    | cons r G2 ih =>
      intro G1 h1 pr f hp hf
      obtain ⟨f, rfl⟩ : ∃ m, f = m + 1 := ⟨f - 1, by omega⟩
      have lG : G1.length + (G2.length + 1) = G.length := by rw [← h1]; simp
      have flat : G.flatten = G1.flatten ++ r ++ G2.flatten := by rw [← h1]; simp
      have lf : G1.flatten.length + r.length ≤ 21 := by
        have := congrArg List.length flat
        simp only [List.length_append] at this
        omega
      have tk : G.take (G1.length + 1) = G1 ++ [r] := by
        rw [← h1, List.take_append, List.take_of_length_le (by omega), show G1.length + 1 - G1.length = 1 by omega]
        rfl
      have okL : ∀ R : List Nat, (∀ v ∈ R, v ∈ G.flatten) → okZ L R := fun R h v hv => hok v (h v hv)
      have prb : pr < 2 ^ 30 := by
        have ok1 := qs_ok (skip := skip) (okL G1.flatten (fun v hv => by rw [flat]; exact List.mem_append_left _ (List.mem_append_left _ hv)))
        have := cq_b (al := allT) (U := U) ok1 (Nat.le_trans (qs_len _ _ _) (by omega))
        have := hp.1
        omega
      have split : cq allT (qs L skip G.flatten) U = cq allT (qs L skip (G1.flatten ++ r)) U * cq allT (qs L skip G2.flatten) U := by
        rw [flat, qs_app]
        refine cq_app (fun x hx y hy => ?_)
        obtain ⟨t, ht, -, rfl⟩ := qs_mem hx
        obtain ⟨v, hv, -, rfl⟩ := qs_mem hy
        obtain ⟨c, hc, hvc⟩ := List.mem_flatten.mp hv
        rw [← h1, show G1 ++ r :: G2 = (G1 ++ [r]) ++ G2 by simp, List.pairwise_append] at hd
        rcases List.mem_append.mp ht with h | h
        · obtain ⟨a, ha, hta⟩ := List.mem_flatten.mp h
          exact hd.2.2 a (List.mem_append_left _ ha) c hc t hta v hvc
        · exact hd.2.2 r (by simp) c hc t h v hvc
      have split2 : cq allT (qs L skip (G1.flatten ++ r)) U = cq allT (qs L skip G1.flatten) U * cq allT (qs L skip r) U := by
        rw [qs_app]
        refine cq_app (fun x hx y hy => ?_)
        obtain ⟨t, ht, -, rfl⟩ := qs_mem hx
        obtain ⟨v, hv, -, rfl⟩ := qs_mem hy
        obtain ⟨a, ha, hta⟩ := List.mem_flatten.mp ht
        rw [← h1, List.pairwise_append] at hd
        exact hd.2.2 a ha r (by simp) t hta v hv
      rw [m_X3_ways_L9, if_neg (nI_ge (by omega) (by omega))]
      by_cases q : pr = 0
      · rw [if_pos (by rw [q]; exact nI_le (a := 0) (b := 0) (Nat.le_refl _) (by decide))]
        have z : cq allT (qs L skip G1.flatten) U = 0 := by
          rcases Nat.eq_zero_or_pos (cq allT (qs L skip G1.flatten) U) with h | h
          · exact h
          · have := hp.2.1 h; omega
        refine ⟨pr, rfl, ?_⟩
        rw [split, split2, z, Nat.zero_mul, Nat.zero_mul, q]
        exact ⟨Nat.le_refl _, fun h => h, fun _ => rfl⟩
      · rw [if_neg (nI_le0 (by omega) (by omega)), x_at (by omega) (by decide), r_bind, hst _ (by omega), tk]
        have el : (G1 ++ [r]).flatten.length = G1.flatten.length + r.length := by simp
        obtain ⟨w, g1, g2⟩ := x_groupWays (E := E) hN hP hZ hok hs hu flat hE hE2
        have := ih (G1 ++ [r]) (by rw [← h1]; simp) (pr * w) f (by
          rw [show (G1 ++ [r]).flatten = G1.flatten ++ r by simp, split2]
          exact hp.mul g2) (by simp at hf; omega)
        rw [el] at this ⊢
        rw [g1, r_bind]
        simp only [nm]
        rw [pk_mul, nI_1]
        rw [show (G1 ++ [r]).length = G1.length + 1 by simp] at this
        exact this
  obtain ⟨w, g1, g2⟩ := key G [] rfl 1 N ⟨Nat.le_refl _, fun _ => by decide, fun _ => rfl⟩ (by omega)
  refine ⟨w, g1, g2, ?_⟩
  have := cq_b (al := allT) (U := U) (qs_ok (skip := skip) hok) (Nat.le_trans (qs_len _ _ _) hZ)
  have := g2.1
  omega
end
