/-! pure: how many good paintings some threads have, beside what is used at the knots already -/
abbrev UC : Type := Nat → Nat → Bool
def s3 (f : Nat → Nat) : Nat := f 0 + f 1 + f 2
def fr3 (U : UC) (x : TH) (c : Nat) : Bool := !U x.1 c && !U x.2.1 c
def us3 (U : UC) (x : TH) (c : Nat) : UC := fun k d => U k d || (atk k x && d == c)
def cq (al : TH → Nat → Bool) : List TH → UC → Nat
  | [], _ => 1
  | x :: Q, U => s3 (fun c => if (al x c && fr3 U x c) = true then cq al Q (us3 U x c) else 0)
theorem s3_cong {f g : Nat → Nat} (h : ∀ c, c < 3 → f c = g c) : s3 f = s3 g := by
  unfold s3
  rw [h 0 (by decide), h 1 (by decide), h 2 (by decide)]
theorem s3_if (p : Prop) [Decidable p] (f : Nat → Nat) : (if p then s3 f else 0) = s3 (fun d => if p then f d else 0) := by
  by_cases q : p
  · simp [q]
  · simp [q, s3]
theorem s3_ex (F : Nat → Nat → Nat) : s3 (fun c => s3 (fun d => F c d)) = s3 (fun d => s3 (fun c => F c d)) := by
  show F 0 0 + F 0 1 + F 0 2 + (F 1 0 + F 1 1 + F 1 2) + (F 2 0 + F 2 1 + F 2 2) = F 0 0 + F 1 0 + F 2 0 + (F 0 1 + F 1 1 + F 2 1) + (F 0 2 + F 1 2 + F 2 2)
  omega
theorem s3_mul (f : Nat → Nat) (b : Nat) : s3 (fun c => f c * b) = s3 f * b := by
  unfold s3
  rw [Nat.add_mul, Nat.add_mul]
theorem us3_comm (U : UC) (x y : TH) (c d : Nat) : us3 (us3 U x c) y d = us3 (us3 U y d) x c := by
  funext k e
  unfold us3
  rw [Bool.or_assoc, Bool.or_assoc, Bool.or_comm (atk k x && e == c)]
def tchp (x y : TH) : Bool := atk y.1 x || atk y.2.1 x
theorem tchp_comm (x y : TH) : tchp x y = tchp y x := by
  unfold tchp atk
  rw [Bool.eq_iff_iff]
  simp
  omega
theorem fr3_us (U : UC) (x y : TH) (c d : Nat) : fr3 (us3 U x c) y d = (fr3 U y d && !(tchp x y && d == c)) := by
  unfold fr3 us3 tchp
  cases U y.1 d <;> cases U y.2.1 d <;> cases atk y.1 x <;> cases atk y.2.1 x <;> cases d == c <;> rfl
theorem cq_swap (al : TH → Nat → Bool) (x y : TH) (Q : List TH) (U : UC) : cq al (x :: y :: Q) U = cq al (y :: x :: Q) U := by
  have key : ∀ x y : TH, cq al (x :: y :: Q) U = s3 (fun c => s3 (fun d => if (al x c && fr3 U x c && (al y d && fr3 U y d) && !(tchp x y && d == c)) = true then cq al Q (us3 (us3 U x c) y d) else 0)) := by
    intro x y
    show s3 (fun c => if (al x c && fr3 U x c) = true then s3 (fun d => if (al y d && fr3 (us3 U x c) y d) = true then cq al Q (us3 (us3 U x c) y d) else 0) else 0) = _
    refine s3_cong (fun c _ => ?_)
    rw [s3_if]
    refine s3_cong (fun d _ => ?_)
    rw [fr3_us]
    cases al x c <;> cases fr3 U x c <;> cases al y d <;> cases fr3 U y d <;> cases tchp x y <;> cases d == c <;> rfl
  rw [key x y, key y x, s3_ex]
  refine s3_cong (fun d _ => s3_cong (fun c _ => ?_))
  rw [us3_comm, tchp_comm]
  have e : (d == c) = (c == d) := by rw [Bool.eq_iff_iff]; simp; exact eq_comm
  rw [e]
  cases al x c <;> cases fr3 U x c <;> cases al y d <;> cases fr3 U y d <;> cases tchp y x <;> cases c == d <;> rfl
theorem cq_perm (al : TH → Nat → Bool) {Q Q' : List TH} (h : Q.Perm Q') : ∀ U, cq al Q U = cq al Q' U := by
  induction h with
  | nil => intro U; rfl
  | cons x _ ih =>
    intro U
    refine s3_cong (fun c _ => ?_)
    rw [ih]
  | swap x y l => intro U; exact cq_swap al y x l U
  | trans _ _ ih1 ih2 => intro U; rw [ih1, ih2]
theorem fr3_cong {U V : UC} {x : TH} {c : Nat} (h : ∀ k, atk k x = true → U k c = V k c) : fr3 U x c = fr3 V x c := by
  unfold fr3
  rw [h x.1 (by unfold atk; simp), h x.2.1 (by unfold atk; simp)]
theorem cq_cong {al al' : TH → Nat → Bool} : ∀ {Q : List TH} {U V : UC}, (∀ x ∈ Q, ∀ k, atk k x = true → ∀ c, U k c = V k c) → (∀ x ∈ Q, ∀ c, c < 3 → al x c = al' x c) → cq al Q U = cq al' Q V
  | [], _, _, _, _ => rfl
  | x :: Q, U, V, h, ha => by
    refine s3_cong (fun c hc => ?_)
    rw [ha x List.mem_cons_self c hc, fr3_cong (fun k hk => h x List.mem_cons_self k hk c), cq_cong (al := al) (al' := al') (Q := Q) (U := us3 U x c) (V := us3 V x c) (fun y hy k hk d => by
      unfold us3
      rw [h y (List.mem_cons_of_mem _ hy) k hk d]) (fun y hy d hd => ha y (List.mem_cons_of_mem _ hy) d hd)]
theorem cq_app {al : TH → Nat → Bool} {B : List TH} : ∀ {A : List TH} {U : UC}, (∀ x ∈ A, ∀ y ∈ B, tchp x y = false) → cq al (A ++ B) U = cq al A U * cq al B U
  | [], U, _ => by
    show cq al B U = 1 * _
    rw [Nat.one_mul]
  | x :: A, U, h => by
    show s3 (fun c => if (al x c && fr3 U x c) = true then cq al (A ++ B) (us3 U x c) else 0) = s3 (fun c => if (al x c && fr3 U x c) = true then cq al A (us3 U x c) else 0) * cq al B U
    rw [← s3_mul]
    refine s3_cong (fun c _ => ?_)
    by_cases q : (al x c && fr3 U x c) = true
    · rw [if_pos q, if_pos q, cq_app (fun y hy => h y (List.mem_cons_of_mem _ hy)), cq_cong (al' := al) (Q := B) (V := U) (fun y hy k hk d => ?_) (fun _ _ _ _ => rfl)]
      have t := h x List.mem_cons_self y hy
      have n : atk k x = false := by
        unfold tchp at t
        unfold atk at t hk ⊢
        cases e : (x.1 == k || x.2.1 == k) with
        | false => rfl
        | true =>
          simp at t hk e
          omega
      unfold us3
      rw [n]
      simp
    · rw [if_neg q, if_neg q, Nat.zero_mul]
/-- two colours exchanged -/
def sw (a d : Nat) : Nat := if d = 0 then a else if d = a then 0 else d
theorem sw_sw {a d : Nat} : sw a (sw a d) = d := by
  unfold sw
  by_cases q : d = 0
  · rw [if_pos q]
    by_cases q2 : a = 0
    · rw [if_pos q2, q2, q]
    · rw [if_neg q2, if_pos rfl, q]
  · rw [if_neg q]
    by_cases q2 : d = a
    · rw [if_pos q2, if_pos rfl, q2]
    · rw [if_neg q2, if_neg q, if_neg q2]
theorem sw_eq {a d e : Nat} : (sw a e == sw a d) = (e == d) := by
  rw [Bool.eq_iff_iff]
  simp
  constructor
  · intro h
    rw [← sw_sw (a := a) (d := e), h, sw_sw]
  · intro h
    rw [h]
theorem s3_sw {a : Nat} (h : a < 3) (f : Nat → Nat) : s3 (fun d => f (sw a d)) = s3 f := by
  have : a = 0 ∨ a = 1 ∨ a = 2 := by omega
  unfold s3
  rcases this with g | g | g <;> subst g
  · rfl
  · show f 1 + f 0 + f 2 = _
    omega
  · show f 2 + f 1 + f 0 = _
    omega
theorem cq_sw {al : TH → Nat → Bool} {a : Nat} (h : a < 3) : ∀ {Q : List TH} {U : UC}, (∀ x ∈ Q, ∀ c, al x c = true) → cq al Q (fun k d => U k (sw a d)) = cq al Q U
  | [], _, _ => rfl
  | x :: Q, U, ha => by
    show s3 (fun c => if (al x c && fr3 (fun k d => U k (sw a d)) x c) = true then cq al Q (us3 (fun k d => U k (sw a d)) x c) else 0) = s3 (fun c => if (al x c && fr3 U x c) = true then cq al Q (us3 U x c) else 0)
    rw [← s3_sw h (fun c => if (al x c && fr3 U x c) = true then cq al Q (us3 U x c) else 0)]
    refine s3_cong (fun c _ => ?_)
    have e : us3 (fun k d => U k (sw a d)) x c = fun k d => us3 U x (sw a c) k (sw a d) := by
      funext k d
      unfold us3
      rw [sw_eq]
    rw [ha x List.mem_cons_self c, ha x List.mem_cons_self (sw a c), e, cq_sw h (U := us3 U x (sw a c)) (fun y hy => ha y (List.mem_cons_of_mem _ hy))]
    rfl
theorem cq_bare {al : TH → Nat → Bool} {x : TH} {Q : List TH} {U : UC} (ha : ∀ y ∈ x :: Q, ∀ c, al y c = true) (hb : ∀ y ∈ x :: Q, ∀ k, atk k y = true → ∀ c, U k c = false) : cq al (x :: Q) U = 3 * cq al Q (us3 U x 0) := by
  have e : ∀ c, c < 3 → (if (al x c && fr3 U x c) = true then cq al Q (us3 U x c) else 0) = cq al Q (us3 U x 0) := by
    intro c hc
    have f : fr3 U x c = true := by
      unfold fr3
      rw [hb x List.mem_cons_self x.1 (by unfold atk; simp), hb x List.mem_cons_self x.2.1 (by unfold atk; simp)]
      rfl
    rw [ha x List.mem_cons_self, f, if_pos (show (true && true) = true from rfl), ← cq_sw (al := al) hc (Q := Q) (U := us3 U x 0) (fun y hy => ha y (List.mem_cons_of_mem _ hy))]
    refine cq_cong (fun y hy k hk d => ?_) (fun _ _ _ _ => rfl)
    have z := hb y (List.mem_cons_of_mem _ hy) k hk
    unfold us3
    rw [z, z]
    congr 2
    have : sw c c = 0 := by
      unfold sw
      by_cases q : c = 0
      · rw [if_pos q, q]
      · rw [if_neg q, if_pos rfl]
    rw [← this, sw_eq]
  show s3 _ = _
  rw [s3_cong e]
  show cq al Q (us3 U x 0) + cq al Q (us3 U x 0) + cq al Q (us3 U x 0) = _
  omega
theorem ct_two {x : TH} {S : Nat → Bool} (o1 : x.1 < x.2.1) (o2 : x.2.1 < 14) (h1 : S x.1 = false) (h2 : S x.2.1 = false) : ct S 14 + 2 ≤ ct (fun k => S k || atk k x) 14 := by
  have a : ct S 14 < ct (fun k => S k || x.1 == k) 14 := ct_strict (i := x.1) (fun i _ hi => by rw [hi]; rfl) (by omega) h1 (by simp)
  have b : ct (fun k => S k || x.1 == k) 14 < ct (fun k => S k || atk k x) 14 := ct_strict (i := x.2.1) (fun i _ hi => by
    unfold atk
    cases q : S i with
    | true => rfl
    | false =>
      rw [q] at hi
      have hi : (x.1 == i) = true := hi
      rw [hi]
      rfl) (by omega) (by rw [h2]; simp; omega) (by unfold atk; simp)
  omega
theorem s3_p (f : Nat → Nat) (P : Nat) : s3 f * P = f 0 * P + f 1 * P + f 2 * P := by
  unfold s3
  rw [Nat.add_mul, Nat.add_mul]
/-- a bound -/
theorem cq_le {al : TH → Nat → Bool} : ∀ {Q : List TH} {U : UC} {S : Nat → Bool} {h : Nat}, (∀ x ∈ Q, x.1 < x.2.1 ∧ x.2.1 < 14) → (∀ k, S k = true → ∃ c, c < 3 ∧ U k c = true) → 14 ≤ ct S 14 + 2 * h → cq al Q U * 2 ^ h ≤ 3 ^ h * 2 ^ Q.length
  | [], U, S, h, _, _, _ => by
    show 1 * 2 ^ h ≤ 3 ^ h * 1
    rw [Nat.one_mul, Nat.mul_one]
    exact Nat.pow_le_pow_left (by decide) h
  | x :: Q, U, S, h, hok, hS, hh => by
    obtain ⟨o1, o2⟩ := hok x List.mem_cons_self
    have hok' : ∀ y ∈ Q, y.1 < y.2.1 ∧ y.2.1 < 14 := fun y hy => hok y (List.mem_cons_of_mem _ hy)
    have hS' : ∀ c, c < 3 → ∀ k, (S k || atk k x) = true → ∃ d, d < 3 ∧ us3 U x c k d = true := fun c hc k hk => by
      rw [Bool.or_eq_true] at hk
      rcases hk with g | g
      · obtain ⟨d, h1, h2⟩ := hS k g
        exact ⟨d, h1, by unfold us3; rw [h2]; rfl⟩
      · exact ⟨c, hc, by unfold us3; rw [g]; simp⟩
    have cS : ct S 14 ≤ ct (fun k => S k || atk k x) 14 := ct_mono (fun i _ hi => by rw [hi]; rfl)
    by_cases fr : S x.1 = false ∧ S x.2.1 = false
    · have c2 : ct S 14 + 2 ≤ ct (fun k => S k || atk k x) 14 := ct_two o1 o2 fr.1 fr.2
      have l14 := ct_le (fun k => S k || atk k x) 14
      obtain ⟨h, rfl⟩ : ∃ m, h = m + 1 := ⟨h - 1, by omega⟩
      have b : ∀ c, c < 3 → (if (al x c && fr3 U x c) = true then cq al Q (us3 U x c) else 0) * 2 ^ h ≤ 3 ^ h * 2 ^ Q.length := fun c hc => by
        split
        · exact cq_le hok' (hS' c hc) (by omega)
        · rw [Nat.zero_mul]; exact Nat.zero_le _
      have b0 := b 0 (by decide)
      have b1 := b 1 (by decide)
      have b2 := b 2 (by decide)
      have e1 := s3_p (fun c => if (al x c && fr3 U x c) = true then cq al Q (us3 U x c) else 0) (2 ^ h)
      have e2 := Nat.mul_mul_mul_comm (3 ^ h) 3 (2 ^ Q.length) 2
      have e3 := Nat.mul_assoc (s3 (fun c => if (al x c && fr3 U x c) = true then cq al Q (us3 U x c) else 0)) (2 ^ h) 2
      show s3 (fun c => if (al x c && fr3 U x c) = true then cq al Q (us3 U x c) else 0) * 2 ^ (h + 1) ≤ 3 ^ (h + 1) * 2 ^ (Q.length + 1)
      rw [Nat.pow_succ, Nat.pow_succ, Nat.pow_succ, e2, ← e3, e1]
      omega
    · have two : ∃ c, c < 3 ∧ fr3 U x c = false := by
        have : S x.1 = true ∨ S x.2.1 = true := by
          cases q1 : S x.1 <;> cases q2 : S x.2.1 <;> simp_all
        rcases this with g | g
        · obtain ⟨d, h1, h2⟩ := hS _ g
          exact ⟨d, h1, by unfold fr3; rw [h2]; rfl⟩
        · obtain ⟨d, h1, h2⟩ := hS _ g
          exact ⟨d, h1, by unfold fr3; rw [h2]; simp⟩
      have b : ∀ c, c < 3 → (if (al x c && fr3 U x c) = true then cq al Q (us3 U x c) else 0) * 2 ^ h ≤ 3 ^ h * 2 ^ Q.length := fun c hc => by
        split
        · exact cq_le hok' (hS' c hc) (by omega)
        · rw [Nat.zero_mul]; exact Nat.zero_le _
      have z : ∀ c, fr3 U x c = false → (if (al x c && fr3 U x c) = true then cq al Q (us3 U x c) else 0) * 2 ^ h = 0 := fun c hc => by
        rw [hc, Bool.and_false, if_neg (by decide), Nat.zero_mul]
      have b0 := b 0 (by decide)
      have b1 := b 1 (by decide)
      have b2 := b 2 (by decide)
      have e1 := s3_p (fun c => if (al x c && fr3 U x c) = true then cq al Q (us3 U x c) else 0) (2 ^ h)
      have e3 := Nat.mul_assoc (3 ^ h) (2 ^ Q.length) 2
      obtain ⟨c, hc, hz⟩ := two
      have zc := z c hz
      have c3 : c = 0 ∨ c = 1 ∨ c = 2 := by omega
      show s3 (fun c => if (al x c && fr3 U x c) = true then cq al Q (us3 U x c) else 0) * 2 ^ h ≤ 3 ^ h * 2 ^ (Q.length + 1)
      rw [Nat.pow_succ, ← e3, e1]
      rcases c3 with g | g | g <;> subst g <;> omega
