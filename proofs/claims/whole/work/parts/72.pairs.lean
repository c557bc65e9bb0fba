/-! pure: the pairs that were read, and the net that they make -/
theorem for_find {β : Type} (F : Nat → Nat → Option β) (p : Nat → Bool) (m : Nat) (A B : Option β) (hend : ∀ n, F (n + 1) m = B) (hyes : ∀ n i, i < m → p i = true → F (n + 1) i = A) (hno : ∀ n i, i < m → p i = false → F (n + 1) i = F n (i + 1)) (n : Nat) (hn : m < n) : F n 0 = if an p m then A else B := by
  have key : ∀ d i n, i + d = m → d < n → (∀ k, k < i → p k = false) → F n i = if an p m then A else B := by
    intro d
    induction d with
    | zero =>
      intro i n hi hn hp
      obtain ⟨n, rfl⟩ : ∃ k, n = k + 1 := ⟨n - 1, by omega⟩
      have e : i = m := by omega
      subst e
      have : ¬ an p i = true := fun g => by
        obtain ⟨k, h1, h2⟩ := (an_iff p i).mp g
        rw [hp k h1] at h2
        cases h2
      rw [hend, if_neg this]
    | succ d ih =>
      intro i n hi hn hp
      obtain ⟨n, rfl⟩ : ∃ k, n = k + 1 := ⟨n - 1, by omega⟩
      by_cases q : p i = true
      · rw [hyes n i (by omega) q, if_pos ((an_iff p m).mpr ⟨i, by omega, q⟩)]
      · have q' : p i = false := by simpa using q
        rw [hno n i (by omega) q']
        refine ih (i + 1) n (by omega) (by omega) (fun k hk => ?_)
        rcases Nat.lt_or_ge k i with g | g
        · exact hp k g
        · rw [show k = i by omega]; exact q'
  exact key m 0 n (by omega) hn (fun k hk => absurd hk (Nat.not_lt_zero k))
def pa (P : List PR) (i : Nat) : Nat := (P.getD i (0, 0)).1
def pb (P : List PR) (i : Nat) : Nat := (P.getD i (0, 0)).2
theorem pr_get {P : List PR} {i : Nat} (h : i < P.length) : P[i]? = some (pa P i, pb P i) := by
  obtain ⟨p, hp⟩ := pr_some h
  have : P.getD i (0, 0) = p := by rw [List.getD_eq_getElem?_getD, hp]; rfl
  unfold pa pb
  rw [hp, this]
theorem XP.fn {P : List PR} {px : Nat → Int32} (h : XP P px) {i : Nat} (hi : i < P.length) : px i = nI (2 ^ pa P i ||| 2 ^ pb P i) := h i _ (pr_get hi)
theorem MP.fn {P : List PR} {rd : Nat → Int32} (h : MP P rd) {i : Nat} (hi : i < P.length) : rd (2 * i) = nI (pa P i) ∧ rd (2 * i + 1) = nI (pb P i) := h i _ (pr_get hi)
theorem BP.fn {P : List PR} (h : BP P) {i : Nat} (hi : i < P.length) : pa P i ≤ 13 ∧ pb P i ≤ 13 := h _ (List.mem_of_getElem? (pr_get hi))
/-- a knot tied to itself -/
def loopP (P : List PR) (i : Nat) : Bool := pa P i == pb P i
theorem pop_p2 {a : Nat} (h : a < 14) : pop 24 (2 ^ a ||| 2 ^ a) = 1 := by
  have key : ∀ a, a < 14 → pop 24 (2 ^ a ||| 2 ^ a) = 1 := by decide +kernel
  exact key a h
theorem pop_2 {a b : Nat} (h : a < 14) (h2 : b < 14) (hab : a ≠ b) : pop 24 (2 ^ a ||| 2 ^ b) = 2 := by
  have key : ∀ a, a < 14 → ∀ b, b < 14 → a ≠ b → pop 24 (2 ^ a ||| 2 ^ b) = 2 := by decide +kernel
  exact key a h b h2 hab
theorem x_ties {N : Nat} {P : List PR} {px : Nat → Int32} (hN : 1000 ≤ N) (hX : XP P px) (hB : BP P) (hm : P.length ≤ 15) : m_X4_tiesAKnotToItself N px (nI P.length) = some (if an (loopP P) P.length then 1 else 0) := by
  have st : ∀ n i, i < P.length → m_X4_tiesAKnotToItself_L2 N px (nI P.length) (n + 1) (nI i) = if loopP P i then some 1 else m_X4_tiesAKnotToItself_L2 N px (nI P.length) n (nI (i + 1)) := by
    intro n i hi
    obtain ⟨ha, hb⟩ := hB.fn hi
    have l : 2 ^ pa P i ||| 2 ^ pb P i < 2 ^ 24 := or_lt (p2lt (by omega)) (p2lt (by omega))
    rw [m_X4_tiesAKnotToItself_L2, if_neg (nI_ge hi (by omega)), x_at (by omega) (by decide), r_bind, hX.fn hi, m_bitCount l, r_bind, nI_1]
    unfold loopP
    by_cases q : pa P i = pb P i
    · rw [q, pop_p2 (by omega), if_pos (show nI 1 = 1 from rfl), if_pos (by simp)]
    · rw [pop_2 (by omega) (by omega) q, if_neg (show ¬ nI 2 = 1 by decide), if_neg (by simpa using q)]
  have := for_find (fun n i => m_X4_tiesAKnotToItself_L2 N px (nI P.length) n (nI i)) (loopP P) P.length (some 1) (some 0) (fun n => by
    show m_X4_tiesAKnotToItself_L2 N px (nI P.length) (n + 1) (nI P.length) = _
    rw [m_X4_tiesAKnotToItself_L2, if_pos (nI_le (Nat.le_refl _) (by omega))]) (fun n i hi hp => by
    show m_X4_tiesAKnotToItself_L2 N px (nI P.length) (n + 1) (nI i) = _
    rw [st n i hi, if_pos hp]) (fun n i hi hp => by
    show m_X4_tiesAKnotToItself_L2 N px (nI P.length) (n + 1) (nI i) = m_X4_tiesAKnotToItself_L2 N px (nI P.length) n (nI (i + 1))
    rw [st n i hi, hp]
    rfl) N (by omega)
  unfold m_X4_tiesAKnotToItself
  refine Eq.trans this ?_
  cases an (loopP P) P.length <;> rfl
def bI (b : Bool) : Int32 := if b then 1 else 0
theorem zbb {β : Type} (b : Bool) {k : Option β} : zb (bI b) k = k := zb01 b
theorem m_isLoop {N : Nat} {P : List PR} {rd : Nat → Int32} (hN : 1000 ≤ N) (hM : MP P rd) (hB : BP P) (hm : P.length ≤ 15) : m_X7_isLoop N (nI (2 * P.length)) rd = some (bI (an (loopP P) P.length)) := by
  unfold m_X7_isLoop
  refine for_up (fun n i (acc : Int32) => m_X7_isLoop_L4 N (nI (2 * P.length)) rd n (nI (2 * i)) acc) P.length (fun i => bI (an (loopP P) i)) _ ?_ ?_ P.length N 0 (by omega) (by omega)
  · intro n
    show m_X7_isLoop_L4 N (nI (2 * P.length)) rd (n + 1) (nI (2 * P.length)) (bI (an (loopP P) P.length)) = _
    rw [m_X7_isLoop_L4, if_pos (nI_le (Nat.le_refl _) (by omega)), zbb]
  · intro n i hi
    obtain ⟨ha, hb⟩ := hB.fn hi
    obtain ⟨r1, r2⟩ := hM.fn hi
    show m_X7_isLoop_L4 N (nI (2 * P.length)) rd (n + 1) (nI (2 * i)) (bI (an (loopP P) i)) = m_X7_isLoop_L4 N (nI (2 * P.length)) rd n (nI (2 * (i + 1))) (bI (an (loopP P) i || loopP P i))
    have e2 : nI (2 * i) + (2 : Int32) = nI (2 * (i + 1)) := nI_add (2 * i) 2
    rw [m_X7_isLoop_L4, if_neg (nI_ge (by omega) (by omega)), e2, nI_1, r_ard (by omega) (by omega), r_ard (by omega) (by omega), r1, r2]
    cases an (loopP P) i with
    | true => rw [if_neg (show ¬ bI true = 0 by decide)]; rfl
    | false =>
      rw [if_pos (show bI false = 0 from rfl)]
      unfold loopP
      by_cases q : pa P i = pb P i
      · rw [if_pos (by rw [q]), q]; simp [bI]
      · rw [if_neg (fun g => q ((nI_eq (by omega) (by omega)).mp g))]
        have : (pa P i == pb P i) = false := by simpa using q
        rw [this]
        rfl
/-- two threads between the same knots -/
def sameP (P : List PR) (k j : Nat) : Bool := (pa P k == pa P j && pb P k == pb P j) || (pa P k == pb P j && pb P k == pa P j)
def twiceP (P : List PR) (k : Nat) : Bool := an (sameP P k) k
theorem ite4 {α : Type} {A B C D : Prop} [Decidable A] [Decidable B] [Decidable C] [Decidable D] (x y : α) : (if A then (if B then x else if C then (if D then x else y) else y) else if C then (if D then x else y) else y) = if (A ∧ B) ∨ (C ∧ D) then x else y := by
  by_cases a : A <;> by_cases b : B <;> by_cases c : C <;> by_cases d : D <;> simp [a, b, c, d]
theorem m_twice1 {N k : Nat} {P : List PR} {rd : Nat → Int32} {J : Int32 → Option Int32} {c : Bool} (hN : 1000 ≤ N) (hM : MP P rd) (hB : BP P) (hm : P.length ≤ 15) (hk : k < P.length) : m_X7_isTwice_L14 N rd (nI (2 * k)) J N 0 (bI c) = J (bI (c || twiceP P k)) := by
  have e0 : bI c = bI (c || an (sameP P k) 0) := by simp [an]
  rw [e0]
  refine for_up (fun n j (acc : Int32) => m_X7_isTwice_L14 N rd (nI (2 * k)) J n (nI (2 * j)) acc) k (fun j => bI (c || an (sameP P k) j)) _ ?_ ?_ k N 0 (by omega) (by omega)
  · intro n
    show m_X7_isTwice_L14 N rd (nI (2 * k)) J (n + 1) (nI (2 * k)) (bI (c || an (sameP P k) k)) = _
    rw [m_X7_isTwice_L14, if_pos (nI_le (Nat.le_refl _) (by omega))]
    rfl
  · intro n j hj
    obtain ⟨ha, hb⟩ := hB.fn hk
    obtain ⟨ha2, hb2⟩ := hB.fn (i := j) (by omega)
    obtain ⟨r1, r2⟩ := hM.fn hk
    obtain ⟨r3, r4⟩ := hM.fn (i := j) (by omega)
    show m_X7_isTwice_L14 N rd (nI (2 * k)) J (n + 1) (nI (2 * j)) (bI (c || an (sameP P k) j)) = m_X7_isTwice_L14 N rd (nI (2 * k)) J n (nI (2 * (j + 1))) (bI (c || (an (sameP P k) j || sameP P k j)))
    have e2 : nI (2 * j) + (2 : Int32) = nI (2 * (j + 1)) := nI_add (2 * j) 2
    rw [← Bool.or_assoc, m_X7_isTwice_L14, if_neg (nI_ge (by omega) (by omega)), e2]
    cases c || an (sameP P k) j with
    | true => rw [if_neg (show ¬ bI true = 0 by decide)]; rfl
    | false =>
      rw [if_pos (show bI false = 0 from rfl)]
      simp only [jn]
      rw [nI_1, nI_1]
      have a1 : ∀ {β : Type} {K : Int32 → Option β}, ard rd 32 (nI (2 * k)) K = K (nI (pa P k)) := fun {β K} => by rw [r_ard (by omega) (by omega), r1]
      have a2 : ∀ {β : Type} {K : Int32 → Option β}, ard rd 32 (nI (2 * k + 1)) K = K (nI (pb P k)) := fun {β K} => by rw [r_ard (by omega) (by omega), r2]
      have a3 : ∀ {β : Type} {K : Int32 → Option β}, ard rd 32 (nI (2 * j)) K = K (nI (pa P j)) := fun {β K} => by rw [r_ard (by omega) (by omega), r3]
      have a4 : ∀ {β : Type} {K : Int32 → Option β}, ard rd 32 (nI (2 * j + 1)) K = K (nI (pb P j)) := fun {β K} => by rw [r_ard (by omega) (by omega), r4]
      simp only [a1, a2, a3, a4]
      have c1 : nI (pa P k) = nI (pa P j) ↔ pa P k = pa P j := nI_eq (by omega) (by omega)
      have c2 : nI (pb P k) = nI (pb P j) ↔ pb P k = pb P j := nI_eq (by omega) (by omega)
      have c3 : nI (pa P k) = nI (pb P j) ↔ pa P k = pb P j := nI_eq (by omega) (by omega)
      have c4 : nI (pb P k) = nI (pa P j) ↔ pb P k = pa P j := nI_eq (by omega) (by omega)
      simp only [c1, c2, c3, c4]
      rw [ite4]
      by_cases q : (pa P k = pa P j ∧ pb P k = pb P j) ∨ (pa P k = pb P j ∧ pb P k = pa P j)
      · rw [if_pos q]
        have : sameP P k j = true := by
          unfold sameP
          simpa using q
        rw [this]
        rfl
      · rw [if_neg q]
        have : sameP P k j = false := by
          cases w : sameP P k j with
          | false => rfl
          | true =>
            unfold sameP at w
            exact absurd (by simpa using w) q
        rw [this]
        rfl
theorem m_isTwice {N : Nat} {P : List PR} {rd : Nat → Int32} (hN : 1000 ≤ N) (hM : MP P rd) (hB : BP P) (hm : P.length ≤ 15) : m_X7_isTwice N (nI (2 * P.length)) rd = some (bI (an (twiceP P) P.length)) := by
  unfold m_X7_isTwice
  refine for_up (fun n i (acc : Int32) => m_X7_isTwice_L4 N (nI (2 * P.length)) rd n (nI (2 * i)) acc) P.length (fun i => bI (an (twiceP P) i)) _ ?_ ?_ P.length N 0 (by omega) (by omega)
  · intro n
    show m_X7_isTwice_L4 N (nI (2 * P.length)) rd (n + 1) (nI (2 * P.length)) (bI (an (twiceP P) P.length)) = _
    rw [m_X7_isTwice_L4, if_pos (nI_le (Nat.le_refl _) (by omega)), zbb]
  · intro n i hi
    show m_X7_isTwice_L4 N (nI (2 * P.length)) rd (n + 1) (nI (2 * i)) (bI (an (twiceP P) i)) = m_X7_isTwice_L4 N (nI (2 * P.length)) rd n (nI (2 * (i + 1))) (bI (an (twiceP P) i || twiceP P i))
    have e2 : nI (2 * i) + (2 : Int32) = nI (2 * (i + 1)) := nI_add (2 * i) 2
    rw [m_X7_isTwice_L4, if_neg (nI_ge (by omega) (by omega)), e2]
    simp only [jn]
    rw [m_twice1 hN hM hB hm hi]
/-- how often a knot is read -/
def readP (P : List PR) (c k : Nat) : Bool := (if k % 2 = 0 then pa P (k / 2) else pb P (k / 2)) == c
def atP (P : List PR) (c i : Nat) : Bool := pa P i == c || pb P i == c
theorem ct_read {P : List PR} {c : Nat} : ∀ m, (∀ i, i < m → loopP P i = false) → ct (readP P c) (2 * m) = ct (atP P c) m
  | 0, _ => rfl
  | m + 1, h => by
    have ih := ct_read (P := P) (c := c) m (fun i hi => h i (by omega))
    have l := h m (by omega)
    rw [show 2 * (m + 1) = 2 * m + 1 + 1 by omega, ct_s, ct_s, ct_s, ih]
    unfold readP atP
    unfold loopP at l
    have e1 : 2 * m % 2 = 0 := by omega
    have e2 : ¬ (2 * m + 1) % 2 = 0 := by omega
    rw [if_pos e1, if_neg e2, show 2 * m / 2 = m by omega, show (2 * m + 1) / 2 = m by omega]
    have l' : pa P m ≠ pb P m := by simpa using l
    by_cases q1 : pa P m = c <;> by_cases q2 : pb P m = c
    · omega
    · simp [q1, q2]
    · simp [q1, q2]
    · simp [q1, q2]
theorem m_timesRead {N c : Nat} {P : List PR} {rd : Nat → Int32} (hN : 1000 ≤ N) (hM : MP P rd) (hB : BP P) (hm : P.length ≤ 15) (hc : c < 14) : m_X7_timesRead N (nI (2 * P.length)) rd (nI c) = some (nI (ct (readP P c) (2 * P.length))) := by
  unfold m_X7_timesRead
  refine for_up (fun n i (acc : Int32) => m_X7_timesRead_L4 N (nI (2 * P.length)) rd (nI c) n (nI i) acc) (2 * P.length) (fun i => nI (ct (readP P c) i)) _ ?_ ?_ (2 * P.length) N 0 (by omega) (by omega)
  · intro n
    show m_X7_timesRead_L4 N (nI (2 * P.length)) rd (nI c) (n + 1) (nI (2 * P.length)) (nI (ct (readP P c) (2 * P.length))) = _
    rw [m_X7_timesRead_L4, if_pos (nI_le (Nat.le_refl _) (by omega))]
  · intro n i hi
    show m_X7_timesRead_L4 N (nI (2 * P.length)) rd (nI c) (n + 1) (nI i) (nI (ct (readP P c) i)) = m_X7_timesRead_L4 N (nI (2 * P.length)) rd (nI c) n (nI (i + 1)) (nI (ct (readP P c) i + (if readP P c i then 1 else 0)))
    have val : rd i = nI (if i % 2 = 0 then pa P (i / 2) else pb P (i / 2)) := by
      obtain ⟨r1, r2⟩ := hM.fn (i := i / 2) (by omega)
      by_cases q : i % 2 = 0
      · rw [if_pos q, ← r1, show 2 * (i / 2) = i by omega]
      · rw [if_neg q, ← r2, show 2 * (i / 2) + 1 = i by omega]
    obtain ⟨ha, hb⟩ := hB.fn (i := i / 2) (by omega)
    have lt : (if i % 2 = 0 then pa P (i / 2) else pb P (i / 2)) < 2 ^ 31 := by split <;> omega
    rw [m_X7_timesRead_L4, if_neg (nI_ge hi (by omega)), r_ard (by omega) (by omega), val, nI_1, nI_1]
    simp only [nm]
    unfold readP
    by_cases q : (if i % 2 = 0 then pa P (i / 2) else pb P (i / 2)) = c
    · rw [if_pos (by rw [q]), if_pos (by simpa using q)]
    · rw [if_neg (fun g => q ((nI_eq lt (by omega)).mp g)), if_neg (by simpa using q), show (nI (ct (fun k => (if k % 2 = 0 then pa P (k / 2) else pb P (k / 2)) == c) i) : Int32) + 0 = nI (ct (fun k => (if k % 2 = 0 then pa P (k / 2) else pb P (k / 2)) == c) i) from nI_add _ 0]
      rfl
def muchP (P : List PR) (c : Nat) : Bool := decide (3 < ct (readP P c) (2 * P.length))
theorem m_isTooMuch {N : Nat} {P : List PR} {rd : Nat → Int32} (hN : 1000 ≤ N) (hM : MP P rd) (hB : BP P) (hm : P.length ≤ 15) : m_X7_isTooMuch N (nI (2 * P.length)) rd = some (bI (an (muchP P) 14)) := by
  unfold m_X7_isTooMuch
  refine for_up (fun n i (acc : Int32) => m_X7_isTooMuch_L4 N (nI (2 * P.length)) rd n (nI i) acc) 14 (fun i => bI (an (muchP P) i)) _ ?_ ?_ 14 N 0 (by omega) (by omega)
  · intro n
    show m_X7_isTooMuch_L4 N (nI (2 * P.length)) rd (n + 1) (nI 14) (bI (an (muchP P) 14)) = _
    rw [m_X7_isTooMuch_L4, if_pos (show (14 : Int32) ≤ nI 14 from nI_le (a := 14) (b := 14) (Nat.le_refl _) (by omega)), zbb]
  · intro n i hi
    show m_X7_isTooMuch_L4 N (nI (2 * P.length)) rd (n + 1) (nI i) (bI (an (muchP P) i)) = m_X7_isTooMuch_L4 N (nI (2 * P.length)) rd n (nI (i + 1)) (bI (an (muchP P) i || muchP P i))
    have l : ct (readP P i) (2 * P.length) < 2 ^ 31 := by have := ct_le (readP P i) (2 * P.length); omega
    rw [m_X7_isTooMuch_L4, if_neg (show ¬ (14 : Int32) ≤ nI i from nI_ge (a := i) (b := 14) hi (by omega)), nI_1, m_timesRead hN hM hB hm hi, r_bind]
    cases an (muchP P) i with
    | true => rw [if_neg (show ¬ bI true = 0 by decide)]; rfl
    | false =>
      rw [if_pos (show bI false = 0 from rfl)]
      unfold muchP
      by_cases q : ct (readP P i) (2 * P.length) ≤ 3
      · rw [if_pos (show nI (ct (readP P i) (2 * P.length)) ≤ 3 from nI_le (b := 3) q (by decide))]
        have : decide (3 < ct (readP P i) (2 * P.length)) = false := by simp; omega
        rw [this]
        rfl
      · rw [if_neg (show ¬ nI (ct (readP P i) (2 * P.length)) ≤ 3 from nI_ge (a := 3) (by omega) l)]
        have : decide (3 < ct (readP P i) (2 * P.length)) = true := by simp; omega
        rw [this]
        rfl
