/-! pure: neighbours, wrong knots, full nets, the thread between two knots: both classes answer alike -/
theorem sel {α : Type} (b : Bool) (A B : α) : (if (if b = true then (1 : Int32) else 0) = 0 then A else B) = (if b = true then B else A) := by cases b <;> rfl
theorem sel1 {α : Type} (b : Bool) (A B : α) : (if (if b = true then (1 : Int32) else 0) = 1 then A else B) = (if b = true then A else B) := by cases b <;> rfl
theorem nI3 {a : Nat} (h : a < 2 ^ 31) : nI a = 3 ↔ a = 3 := nI_eq (b := 3) h (by decide)
/-- a knot's neighbours -/
def nb (T : Nat) (lo hi : Nat → Nat) (k : Nat) : Nat := ad (oa (fun t => if isat lo hi t k then em lo hi t else 0) T) (2 ^ k)
theorem nb_lt {T k : Nat} {lo hi co : Nat → Nat} (hw : wt T lo hi co) : nb T lo hi k < 2 ^ 14 := by
  refine ad_lt (oa_lt (fun i hj => ?_))
  show (if isat lo hi i k then em lo hi i else 0) < _
  split
  · exact em_lt (hw.2 i hj).1 (hw.2 i hj).2.1
  · exact Nat.two_pow_pos _
theorem tb_nb {T k j : Nat} {lo hi co : Nat → Nat} (hw : wt T lo hi co) : (nb T lo hi k).testBit j = true ↔ j ≠ k ∧ ∃ t, t < T ∧ isat lo hi t k = true ∧ isat lo hi t j = true := by
  unfold nb
  rw [tb_ad, tb_oa, Bool.and_eq_true, an_iff, Nat.testBit_two_pow]
  constructor
  · rintro ⟨⟨t, ht, h⟩, h2⟩
    refine ⟨by simp at h2; exact fun q => h2 q.symm, t, ht, ?_⟩
    cases q : isat lo hi t k with
    | false => rw [q] at h; simp at h
    | true => rw [q] at h; simp at h; rw [tb_em (hw.2 t ht).1] at h; exact ⟨rfl, h⟩
  · rintro ⟨h2, t, ht, h, h3⟩
    refine ⟨⟨t, ht, ?_⟩, by simp; exact fun q => h2 q.symm⟩
    rw [h]; simp; rw [tb_em (hw.2 t ht).1]; exact h3
theorem x_neighbours {N T k : Nat} {lo hi co : Nat → Nat} {e : Nat → Int32} (hN : 1000 ≤ N) (hw : wt T lo hi co) (he : XE T lo hi e) (hk : k < 31) : m_X2_neighbours N (nI T) e (nI k) = some (nI (nb T lo hi k)) := by
  have hT := hw.1
  unfold m_X2_neighbours
  simp only [jn]
  refine for_up (fun n i (acc : Nat) => m_X2_neighbours_L4 N (nI T) e (nI k) (fun x => Option.bind (m_X6_bit N (nI k)) (fun r => some (x &&& (r ^^^ (-1))))) n (nI i) (nI acc)) T (fun i => oa (fun t => if isat lo hi t k then em lo hi t else 0) i) _ ?_ ?_ T N 0 (by omega) (by omega)
  · intro n
    show m_X2_neighbours_L4 N (nI T) e (nI k) _ (n + 1) (nI T) _ = _
    rw [m_X2_neighbours_L4, if_pos (nI_le (Nat.le_refl _) (by omega)), m_bit hk, r_bind, nandn]
    rfl
  · intro n i hj
    show m_X2_neighbours_L4 N (nI T) e (nI k) _ (n + 1) (nI i) _ = m_X2_neighbours_L4 N (nI T) e (nI k) _ n (nI (i + 1)) _
    obtain ⟨h1, h2, -⟩ := hw.2 i hj
    rw [m_X2_neighbours_L4, if_neg (nI_ge hj (by omega)), x_ends hT he hj, r_bind, m_holds (em_lt h1 (by omega)) (by omega), r_bind, tb_em h1, oa]
    simp only [nm]
    cases q : isat lo hi i k with
    | false => rw [sel, if_neg (by decide), nI_1]; simp
    | true => rw [sel, if_pos rfl, r_bind, nor, nI_1]; simp
theorem m_neighbours {N K T k : Nat} {lo hi co : Nat → Nat} {s : Nat → Int32} (hN : 1000 ≤ N) (hw : wt T lo hi co) (hs : MN K T lo hi co s) (hk : k < 31) : m_X7_neighbours N s (nI k) = some (nI (nb T lo hi k)) := by
  have hT := hw.1
  have e : nb T lo hi k = oa (fun t => if isat lo hi t k then 2 ^ acr lo hi t k else 0) T := by
    apply Nat.eq_of_testBit_eq
    intro j
    rw [Bool.eq_iff_iff, tb_nb hw, tb_oa, an_iff]
    constructor
    · rintro ⟨h, t, ht, h2, h3⟩
      refine ⟨t, ht, ?_⟩
      rw [h2]; simp; rw [Nat.testBit_two_pow]
      unfold acr; unfold isat at h2 h3
      simp at h2 h3 ⊢
      split <;> omega
    · rintro ⟨t, ht, h⟩
      obtain ⟨h1, h2, -⟩ := hw.2 t ht
      cases q : isat lo hi t k with
      | false => rw [q] at h; simp at h
      | true =>
        rw [q] at h; simp at h; rw [Nat.testBit_two_pow] at h
        have h := of_decide_eq_true h
        unfold acr at h
        unfold isat at q
        simp at q
        refine ⟨?_, t, ht, ?_, ?_⟩
        · split at h <;> omega
        · unfold isat; simp; exact q
        · unfold isat; simp; split at h <;> omega
  rw [e]
  unfold m_X7_neighbours
  refine for_up (fun n i (acc : Nat) => m_X7_neighbours_L4 N s (nI k) n (nI i) (nI acc)) T (fun i => oa (fun t => if isat lo hi t k then 2 ^ acr lo hi t k else 0) i) _ ?_ ?_ T N 0 (by omega) (by omega)
  · intro n
    show m_X7_neighbours_L4 N s (nI k) (n + 1) (nI T) _ = _
    rw [m_X7_neighbours_L4, r_1 (by decide), hs.2.1, if_pos (nI_le (Nat.le_refl _) (by omega))]
  · intro n i hj
    show m_X7_neighbours_L4 N s (nI k) (n + 1) (nI i) _ = m_X7_neighbours_L4 N s (nI k) n (nI (i + 1)) _
    obtain ⟨h1, h2, -⟩ := hw.2 i hj
    rw [m_X7_neighbours_L4, r_1 (by decide), hs.2.1, if_neg (nI_ge hj (by omega)), m_isAt hw hs hj (by omega), r_bind, oa]
    simp only [nm]
    cases q : isat lo hi i k with
    | false => rw [sel, if_neg (by decide), or_zero, nI_1]; simp
    | true =>
      have : acr lo hi i k < 31 := by unfold acr; split <;> omega
      rw [sel, if_pos rfl, m_across hw hs hj (by omega), r_bind, sh1 this, nor, nI_1]; simp
-- wrong knots
/-- the colours that the threads before i have at a knot; whether two of them are the same -/
def seenC (lo hi co : Nat → Nat) (k : Nat) : Nat → Nat := oa (fun t => if isat lo hi t k && (co t != 3) then 2 ^ co t else 0)
def wr1 (lo hi co : Nat → Nat) (k : Nat) : Nat → Bool := an (fun t => isat lo hi t k && (co t != 3) && (seenC lo hi co k t).testBit (co t))
theorem seenC_lt {T k : Nat} {lo hi co : Nat → Nat} (hw : wt T lo hi co) {i : Nat} (h : i ≤ T) : seenC lo hi co k i < 2 ^ 4 := by
  refine oa_lt (fun j hj => ?_)
  show (if isat lo hi j k && (co j != 3) then 2 ^ co j else 0) < _
  split
  · exact p2lt (by have := (hw.2 j (by omega)).2.2; omega)
  · exact Nat.two_pow_pos _
theorem x_isWrong {N T k : Nat} {lo hi co : Nat → Nat} {e c : Nat → Int32} (hN : 1000 ≤ N) (hw : wt T lo hi co) (he : XE T lo hi e) (hc : XC T co c) (hk : k < 31) : m_X2_isWrong N (nI T) e c (nI k) = some (if wr1 lo hi co k T then 1 else 0) := by
  have hT := hw.1
  have key : ∀ (d n i : Nat), i + d = T → d < n → wr1 lo hi co k i = false → m_X2_isWrong_L4 N (nI T) e c (nI k) n (nI i) (nI (seenC lo hi co k i)) = some (if wr1 lo hi co k T then 1 else 0) := by
    intro d
    induction d with
    | zero =>
      intro n i hi' hn hf
      obtain ⟨n, rfl⟩ : ∃ m, n = m + 1 := ⟨n - 1, by omega⟩
      have : i = T := by omega
      subst this
      rw [m_X2_isWrong_L4, if_pos (nI_le (Nat.le_refl _) (by omega)), hf]; rfl
    | succ d ih =>
      intro n i hi' hn hf
      obtain ⟨n, rfl⟩ : ∃ m, n = m + 1 := ⟨n - 1, by omega⟩
      have hj : i < T := by omega
      obtain ⟨h1, h2, h3⟩ := hw.2 i hj
      have l := seenC_lt (k := k) hw (show i ≤ T by omega)
      have stepS : seenC lo hi co k (i + 1) = seenC lo hi co k i ||| (if isat lo hi i k && (co i != 3) then 2 ^ co i else 0) := rfl
      have stepW : wr1 lo hi co k (i + 1) = (wr1 lo hi co k i || (isat lo hi i k && (co i != 3) && (seenC lo hi co k i).testBit (co i))) := rfl
      rw [m_X2_isWrong_L4, if_neg (nI_ge hj (by omega)), x_colour hT hc hj, r_bind, x_ends hT he hj, r_bind, m_holds (em_lt h1 (by omega)) (by omega), r_bind, tb_em h1]
      simp only [nm]
      cases q : isat lo hi i k with
      | false =>
        rw [sel, if_neg (by decide), nI_1]
        rw [q] at stepS stepW
        rw [Bool.false_and, if_neg (by decide), Nat.or_zero] at stepS
        rw [← stepS]
        exact ih n (i + 1) (by omega) (by omega) (by rw [stepW, hf]; rfl)
      | true =>
        rw [sel, if_pos rfl]
        by_cases q3 : co i = 3
        · rw [if_pos (by rw [q3]; rfl), nI_1]
          rw [q, q3] at stepS stepW
          rw [show (true && (3 != 3 : Bool)) = false from rfl, if_neg (by decide), Nat.or_zero] at stepS
          rw [← stepS]
          exact ih n (i + 1) (by omega) (by omega) (by rw [stepW, hf]; rfl)
        · have b3 : (co i != 3) = true := by simp [q3]
          rw [if_neg (fun g => q3 ((nI3 (by omega)).mp g)), m_holds (by omega) (by omega), r_bind]
          rw [q, b3] at stepS stepW
          cases q4 : (seenC lo hi co k i).testBit (co i) with
          | false =>
            rw [sel, if_neg (by decide), m_bit (by omega), r_bind, nor, nI_1]
            rw [show (true && true) = true from rfl, if_pos rfl] at stepS
            rw [← stepS]
            exact ih n (i + 1) (by omega) (by omega) (by rw [stepW, hf, q4]; rfl)
          | true =>
            rw [sel, if_pos rfl]
            have : wr1 lo hi co k T = true := by
              refine (an_iff _ _).mpr ⟨i, hj, ?_⟩
              rw [q, b3, q4]; rfl
            rw [this]; rfl
  exact key T N 0 (by omega) (by omega) rfl
theorem b01 (b : Bool) : ((if b then 1 else 0 : Int32) = 0) ↔ b = false := by cases b <;> simp
theorem zb01 {β : Type} (b : Bool) {k : Option β} : zb (if b then 1 else 0) k = k := by
  unfold zb
  cases b <;> simp
theorem m_isWrong {N K T k : Nat} {lo hi co : Nat → Nat} {s : Nat → Int32} (hN : 1000 ≤ N) (hw : wt T lo hi co) (hs : MN K T lo hi co s) (hk : k < 31) : m_X7_isWrong N s (nI k) = some (if wr1 lo hi co k T then 1 else 0) := by
  have hT := hw.1
  unfold m_X7_isWrong
  refine for_up (fun n i (acc : Bool × Nat) => m_X7_isWrong_L7 N s (nI k) n (nI i) (if acc.1 then 1 else 0) (nI acc.2)) T (fun i => (wr1 lo hi co k i, seenC lo hi co k i)) _ ?_ ?_ T N 0 (by omega) (by omega)
  · intro n
    show m_X7_isWrong_L7 N s (nI k) (n + 1) (nI T) (if wr1 lo hi co k T then 1 else 0) _ = _
    rw [m_X7_isWrong_L7, r_1 (by decide), hs.2.1, if_pos (nI_le (Nat.le_refl _) (by omega)), zb01]
  · intro n i hj
    show m_X7_isWrong_L7 N s (nI k) (n + 1) (nI i) (if wr1 lo hi co k i then 1 else 0) (nI (seenC lo hi co k i)) = m_X7_isWrong_L7 N s (nI k) n (nI (i + 1)) (if wr1 lo hi co k (i + 1) then 1 else 0) (nI (seenC lo hi co k (i + 1)))
    obtain ⟨h1, h2, h3⟩ := hw.2 i hj
    have l := seenC_lt (k := k) hw (show i ≤ T by omega)
    have stepS : seenC lo hi co k (i + 1) = seenC lo hi co k i ||| (if isat lo hi i k && (co i != 3) then 2 ^ co i else 0) := rfl
    have stepW : wr1 lo hi co k (i + 1) = (wr1 lo hi co k i || (isat lo hi i k && (co i != 3) && (seenC lo hi co k i).testBit (co i))) := rfl
    rw [m_X7_isWrong_L7, r_1 (by decide), hs.2.1, if_neg (nI_ge hj (by omega)), m_isAt hw hs hj (by omega), r_bind, m_of2 hT hs hj, stepS, stepW]
    simp only [nm, jn]
    cases q : isat lo hi i k with
    | false => rw [sel, if_neg (by decide), nI_1]; simp
    | true =>
      rw [sel, if_pos rfl, r_bind]
      by_cases q3 : co i = 3
      · rw [if_pos (by rw [q3]; rfl), nI_1, q3]; simp
      · have b3 : (co i != 3) = true := by simp [q3]
        rw [if_neg (fun g => q3 ((nI3 (by omega)).mp g)), b3]
        simp only [r_bind]
        rw [m_has (by omega) (by omega), r_bind, sh1 (by omega), nor, nI_1]
        cases q5 : wr1 lo hi co k i <;> cases q4 : (seenC lo hi co k i).testBit (co i) <;> simp
