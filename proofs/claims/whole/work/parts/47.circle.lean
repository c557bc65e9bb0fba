/-! pure: shortest circles, bridges, parts, chains: both classes answer alike -/
theorem x_allThreads {N T : Nat} (hT : T ≤ 21) : m_X2_allThreads N (nI T) = some (nI (2 ^ T - 1)) := by
  unfold m_X2_allThreads
  have p := Nat.two_pow_pos T
  rw [m_bit (by omega), r_bind, show (1 : Int32) = nI 1 from rfl, pk_sub (by omega)]
theorem x_allKnots {N K : Nat} (hK : K ≤ 14) : m_X2_allKnots N (nI K) = some (nI (2 ^ K - 1)) := by
  unfold m_X2_allKnots
  have p := Nat.two_pow_pos K
  rw [m_bit (by omega), r_bind, show (1 : Int32) = nI 1 from rfl, pk_sub (by omega)]
theorem tb_all (n i : Nat) : (2 ^ n - 1).testBit i = decide (i < n) := Nat.testBit_two_pow_sub_one n i
theorem sp_cong {T : Nat} {lo hi : Nat → Nat} {A B : Nat → Bool} {S : Nat} (h : ∀ t, t < T → A t = B t) : sp T lo hi A S = sp T lo hi B S := by
  unfold sp
  congr 1
  have : ∀ n, n ≤ T → oa (fun t => if A t && (em lo hi t &&& S != 0) then em lo hi t else 0) n = oa (fun t => if B t && (em lo hi t &&& S != 0) then em lo hi t else 0) n := by
    intro n
    induction n with
    | zero => intro _; rfl
    | succ n ih => intro hn; rw [oa, oa, ih (by omega), h n (by omega)]
  exact this T (Nat.le_refl T)
/-- the threads but one -/
def but (t : Nat) : Nat → Bool := fun i => !(i == t)
/-- both ways round a thread: the answers of the two classes, c = 0 where there is no circle -/
theorem both_round {N K T t : Nat} {lo hi co : Nat → Nat} {e s : Nat → Int32} (hN : 1000 ≤ N) (hw : wt T lo hi co) (he : XE T lo hi e) (hs : MN K T lo hi co s) (ht : t < T) : ∃ c, c ≤ 14 ∧ m_X5_circleThrough N (nI T) e (nI t) = some (nI c) ∧ m_X7_round N s (nI t) = some (if c = 0 then -5 else nI c) := by
  have hT := hw.1
  have hF := sp_good hw (but t)
  obtain ⟨h1, h2, h3⟩ := hw.2 t ht
  have hA : ∀ i, i < T → (but t i = false ↔ nI i = nI t) := by
    intro i hi'
    rw [nI_eq (by omega) (by omega)]
    unfold but
    simp
  have hB : ad (2 ^ T - 1) (2 ^ t) < 2 ^ 21 := ad_lt (by have := Nat.two_pow_pos T; have := p2le (a := T) (b := 21) (by omega); omega)
  have hBA : ∀ i, i < T → (ad (2 ^ T - 1) (2 ^ t)).testBit i = but t i := by
    intro i hi'
    rw [tb_ad, tb_all, Nat.testBit_two_pow]
    unfold but
    rw [decide_eq_true hi', Bool.true_and]
    congr 1
    rw [Bool.eq_iff_iff]
    simp
    exact eq_comm
  have xs : ∀ S, S < 2 ^ 14 → m_X5_spread N (nI T) e (nI S) (nI (ad (2 ^ T - 1) (2 ^ t))) = some (nI (sp T lo hi (but t) S)) := fun S hS => by
    rw [x_spread hN hw he hS (by omega), sp_cong hBA]
  have ms : ∀ S, S < 2 ^ 14 → m_X7_reach N s (nI S) (nI t) = some (nI (sp T lo hi (but t) S)) := fun S hS => m_reach hN hw hs hS hA
  have gl : ∀ S, S < 2 ^ 14 → ((nI S &&& nI (2 ^ hi t)) = 0 ↔ S.testBit (hi t) = false) := by
    intro S hS
    rw [nand, nI_eq0 (Nat.lt_of_le_of_lt Nat.and_le_left (by omega)), and_p2]
  -- a set that grows no more
  have stuck : ∀ (d n j S : Nat), j + d = 14 → d < n → S < 2 ^ 14 → S.testBit (hi t) = false → sp T lo hi (but t) S = S → m_X5_circleThrough_L34 N (nI T) e (nI (ad (2 ^ T - 1) (2 ^ t))) (nI (2 ^ hi t)) n (nI j) (nI S) = some 0 := by
    intro d
    induction d with
    | zero =>
      intro n j S hj hn hS hg hq
      obtain ⟨n, rfl⟩ : ∃ m, n = m + 1 := ⟨n - 1, by omega⟩
      rw [m_X5_circleThrough_L34, if_pos (show (14 : Int32) ≤ nI j from nI_le (a := 14) (by omega) (by omega))]
    | succ d ih =>
      intro n j S hj hn hS hg hq
      obtain ⟨n, rfl⟩ : ∃ m, n = m + 1 := ⟨n - 1, by omega⟩
      rw [m_X5_circleThrough_L34, if_neg (show ¬ (14 : Int32) ≤ nI j from nI_ge (b := 14) (by omega) (by omega)), xs S hS, r_bind, hq, if_pos ((gl S hS).mpr hg), nI_1]
      exact ih n (j + 1) S (by omega) (by omega) hS hg hq
  have key : ∀ (d n n2 j S : Nat), 1 ≤ j → j + d = 14 → d < n → d < n2 → S < 2 ^ 14 → 14 ≤ pc 14 S + d → S.testBit (hi t) = false → ∃ c, c ≤ 14 ∧ m_X5_circleThrough_L34 N (nI T) e (nI (ad (2 ^ T - 1) (2 ^ t))) (nI (2 ^ hi t)) n (nI j) (nI S) = some (nI c) ∧ m_X7_round_L11 N s (nI t) n2 (nI j) (nI S) = some (if c = 0 then -5 else nI c) := by
    intro d
    induction d with
    | zero =>
      intro n n2 j S hj1 hj hn hn2 hS hp hg
      have := ct_all (p := fun i => S.testBit i) (n := 14) hp (hi t) h2
      rw [hg] at this
      cases this
    | succ d ih =>
      intro n n2 j S hj1 hj hn hn2 hS hp hg
      obtain ⟨n, rfl⟩ : ∃ m, n = m + 1 := ⟨n - 1, by omega⟩
      obtain ⟨n2, rfl⟩ : ∃ m, n2 = m + 1 := ⟨n2 - 1, by omega⟩
      obtain ⟨f1, f2, f3, f4⟩ := hF S hS
      have stepM : m_X7_round_L11 N s (nI t) (n2 + 1) (nI j) (nI S) = if nI (sp T lo hi (but t) S) = nI S then some (-5) else m_X7_round_L11 N s (nI t) n2 (nI (j + 1)) (nI (sp T lo hi (but t) S)) := by
        rw [m_X7_round_L11, m_of1 hT hs ht, r_bind, m_has (by omega) (by omega), r_bind, sel, hg, ms S hS, r_bind, nI_1]
        rfl
      rw [stepM]
      by_cases q : sp T lo hi (but t) S = S
      · rw [if_pos (by rw [q])]
        exact ⟨0, by omega, stuck (d + 1) (n + 1) j S hj (by omega) hS hg q, rfl⟩
      · rw [if_neg (fun g => q ((nI_eq (by omega) (by omega)).mp g))]
        rw [m_X5_circleThrough_L34, if_neg (show ¬ (14 : Int32) ≤ nI j from nI_ge (b := 14) (by omega) (by omega)), xs S hS, r_bind, nI_1]
        cases g2 : (sp T lo hi (but t) S).testBit (hi t) with
        | false =>
          rw [if_pos ((gl _ f1).mpr g2)]
          exact ih n n2 (j + 1) _ (by omega) (by omega) (by omega) (by omega) f1 (by have := pc_grow f1 f2 q; omega) g2
        | true =>
          rw [if_neg (fun g => by rw [(gl _ f1).mp g] at g2; cases g2)]
          refine ⟨j + 1, by omega, rfl, ?_⟩
          obtain ⟨n2, rfl⟩ : ∃ m, n2 = m + 1 := ⟨n2 - 1, by omega⟩
          rw [m_X7_round_L11, m_of1 hT hs ht, r_bind, m_has (by omega) (by omega), r_bind, sel, g2, if_pos rfl, if_neg (by omega)]
  have hS0 : 2 ^ lo t < 2 ^ 14 := p2lt (by omega)
  have hp0 : 1 ≤ pc 14 (2 ^ lo t) := by
    have : 0 < pc 14 (2 ^ lo t) := ct_pos.mpr ⟨lo t, by omega, by rw [Nat.testBit_two_pow]; simp⟩
    omega
  obtain ⟨c, c1, c2, c3⟩ := key 13 N N 1 (2 ^ lo t) (by omega) (by omega) (by omega) (by omega) hS0 (by omega) (by rw [Nat.testBit_two_pow]; simp; omega)
  refine ⟨c, c1, ?_, ?_⟩
  · unfold m_X5_circleThrough
    simp only [nm]
    rw [x_allThreads hT, r_bind, m_bit (by omega), r_bind, nandn, x_greater hw he ht, r_bind, m_bit (by omega), r_bind, x_lesser hw he ht, r_bind, m_bit (by omega), r_bind]
    exact c2
  · unfold m_X7_round
    simp only [nm]
    rw [m_of0 hT hs ht, r_bind, sh1 (by omega)]
    exact c3
/-- the length of the shortest circle through a thread, 0 without one -/
theorem rounds {N K T : Nat} {lo hi co : Nat → Nat} {e s : Nat → Int32} (hN : 1000 ≤ N) (hw : wt T lo hi co) (he : XE T lo hi e) (hs : MN K T lo hi co s) : ∃ cf : Nat → Nat, ∀ t, t < T → cf t ≤ 14 ∧ m_X5_circleThrough N (nI T) e (nI t) = some (nI (cf t)) ∧ m_X7_round N s (nI t) = some (if cf t = 0 then -5 else nI (cf t)) := by
  refine ⟨fun t => if h : t < T then Classical.choose (both_round hN hw he hs h) else 0, fun t ht => ?_⟩
  simp only [dif_pos ht]
  exact Classical.choose_spec (both_round hN hw he hs ht)
/-- the least so far -/
def least (B : Nat) (cf : Nat → Nat) : Nat → Nat
  | 0 => 0
  | i + 1 => if B.testBit i && (cf i != 0) then (if least B cf i = 0 then cf i else if least B cf i ≤ cf i then least B cf i else cf i) else least B cf i
theorem neg5 : (-5 : Int32) < 0 := by decide
theorem both_shortest {N K T B : Nat} {lo hi co : Nat → Nat} {e s : Nat → Int32} (hN : 1000 ≤ N) (hw : wt T lo hi co) (he : XE T lo hi e) (hs : MN K T lo hi co s) (hB : B < 2 ^ 31) : ∃ c, c ≤ 14 ∧ m_X5_shortestCircle N (nI T) e (nI B) = some (nI c) ∧ m_X7_shortest N s (nI B) = some (if c = 0 then -5 else nI c) := by
  have hT := hw.1
  obtain ⟨cf, hc⟩ := rounds hN hw he hs
  have l : ∀ i, i ≤ T → least B cf i ≤ 14 := by
    intro i
    induction i with
    | zero => intro _; exact Nat.zero_le _
    | succ i ih =>
      intro hi'
      have a := ih (by omega)
      have b := (hc i (by omega)).1
      rw [least]
      split
      · split
        · exact b
        · split <;> omega
      · exact a
  refine ⟨least B cf T, l T (Nat.le_refl T), ?_, ?_⟩
  · unfold m_X5_shortestCircle
    refine for_up (fun n i (acc : Nat) => m_X5_shortestCircle_L4 N (nI T) e (nI B) n (nI i) (nI acc)) T (fun i => least B cf i) _ ?_ ?_ T N 0 (by omega) (by omega)
    · intro n
      show m_X5_shortestCircle_L4 N (nI T) e (nI B) (n + 1) (nI T) _ = _
      rw [m_X5_shortestCircle_L4, m_X2_threads, r_bind, if_pos (nI_le (Nat.le_refl _) (by omega))]
    · intro n i hj
      show m_X5_shortestCircle_L4 N (nI T) e (nI B) (n + 1) (nI i) _ = m_X5_shortestCircle_L4 N (nI T) e (nI B) n (nI (i + 1)) _
      obtain ⟨c1, c2, -⟩ := hc i hj
      have a := l i (by omega)
      rw [m_X5_shortestCircle_L4, m_X2_threads, r_bind, if_neg (nI_ge hj (by omega)), m_holds hB (by omega), r_bind, sel, c2, r_bind, nI_1, least]
      cases q : B.testBit i with
      | false => simp
      | true =>
        rw [if_pos rfl]
        by_cases z : cf i = 0
        · rw [if_pos ((nI_eq0 (by omega)).mpr z)]; simp [z]
        · rw [if_neg (fun g => z ((nI_eq0 (by omega)).mp g))]
          have bz : (cf i != 0) = true := by simp [z]
          rw [bz, Bool.and_self, if_pos rfl]
          by_cases z2 : least B cf i = 0
          · rw [if_pos ((nI_eq0 (by omega)).mpr z2), if_pos z2]
          · rw [if_neg (fun g => z2 ((nI_eq0 (by omega)).mp g)), if_neg z2]
            by_cases z3 : least B cf i ≤ cf i
            · rw [if_pos (nI_le z3 (by omega)), if_pos z3]
            · rw [if_neg (nI_ge (by omega) (by omega)), if_neg z3]
  · unfold m_X7_shortest
    refine for_up (fun n i (acc : Nat) => m_X7_shortest_L5 N s (nI B) n (nI i) (if acc = 0 then -5 else nI acc)) T (fun i => least B cf i) _ ?_ ?_ T N 0 (by omega) (by omega)
    · intro n
      show m_X7_shortest_L5 N s (nI B) (n + 1) (nI T) _ = _
      rw [m_X7_shortest_L5, r_1 (by decide), hs.2.1, if_pos (nI_le (Nat.le_refl _) (by omega))]
    · intro n i hj
      show m_X7_shortest_L5 N s (nI B) (n + 1) (nI i) _ = m_X7_shortest_L5 N s (nI B) n (nI (i + 1)) _
      obtain ⟨c1, -, c2⟩ := hc i hj
      have a := l i (by omega)
      rw [m_X7_shortest_L5, r_1 (by decide), hs.2.1, if_neg (nI_ge hj (by omega)), m_has hB (by omega), r_bind, least]
      simp only [jn]
      rw [c2, r_bind, sel, nI_1]
      have n5 : (-5 : Int32) ≤ 0 := by decide
      cases q : B.testBit i with
      | false =>
        rw [if_neg (by decide), if_pos n5]
        simp
      | true =>
        rw [if_pos rfl]
        by_cases z : cf i = 0
        · rw [if_pos z, if_pos n5]; simp [z]
        · have bz : (cf i != 0) = true := by simp [z]
          rw [if_neg z, if_neg (show ¬ nI (cf i) ≤ 0 from nI_nle (by omega) (by omega)), bz, Bool.and_self, if_pos rfl]
          by_cases z2 : least B cf i = 0
          · rw [if_pos z2, if_pos neg5, if_pos z2, if_neg z]
          · rw [if_neg z2, if_neg (nI_pos (by omega)), if_neg z2]
            by_cases z3 : least B cf i ≤ cf i
            · rw [if_pos (nI_le z3 (by omega)), if_pos z3, if_neg z2]
            · rw [if_neg (nI_ge (by omega) (by omega)), if_neg z3, if_neg z]
theorem both_bridges {N K T : Nat} {lo hi co : Nat → Nat} {e s : Nat → Int32} (hN : 1000 ≤ N) (hw : wt T lo hi co) (he : XE T lo hi e) (hs : MN K T lo hi co s) : ∃ r, m_X5_bridges N (nI T) e = some r ∧ m_X7_bridges N s = some r := by
  have hT := hw.1
  obtain ⟨cf, hc⟩ := rounds hN hw he hs
  refine ⟨nI (ct (fun t => cf t == 0) T), ?_, ?_⟩
  · unfold m_X5_bridges
    refine for_up (fun n i (acc : Nat) => m_X5_bridges_L4 N (nI T) e n (nI i) (nI acc)) T (fun i => ct (fun t => cf t == 0) i) _ ?_ ?_ T N 0 (by omega) (by omega)
    · intro n
      show m_X5_bridges_L4 N (nI T) e (n + 1) (nI T) _ = _
      rw [m_X5_bridges_L4, m_X2_threads, r_bind, if_pos (nI_le (Nat.le_refl _) (by omega))]
    · intro n i hj
      show m_X5_bridges_L4 N (nI T) e (n + 1) (nI i) _ = m_X5_bridges_L4 N (nI T) e n (nI (i + 1)) _
      obtain ⟨c1, c2, -⟩ := hc i hj
      rw [m_X5_bridges_L4, m_X2_threads, r_bind, if_neg (nI_ge hj (by omega)), c2, r_bind, nI_1, nI_1, ct]
      by_cases z : cf i = 0
      · rw [if_pos ((nI_eq0 (by omega)).mpr z), if_pos (by simp [z])]
      · rw [if_neg (fun g => z ((nI_eq0 (by omega)).mp g)), if_neg (by simp [z])]; rfl
  · unfold m_X7_bridges
    refine for_up (fun n i (acc : Nat) => m_X7_bridges_L4 N s n (nI i) (nI acc)) T (fun i => ct (fun t => cf t == 0) i) _ ?_ ?_ T N 0 (by omega) (by omega)
    · intro n
      show m_X7_bridges_L4 N s (n + 1) (nI T) _ = _
      rw [m_X7_bridges_L4, r_1 (by decide), hs.2.1, if_pos (nI_le (Nat.le_refl _) (by omega))]
    · intro n i hj
      show m_X7_bridges_L4 N s (n + 1) (nI i) _ = m_X7_bridges_L4 N s n (nI (i + 1)) _
      obtain ⟨c1, -, c2⟩ := hc i hj
      rw [m_X7_bridges_L4, r_1 (by decide), hs.2.1, if_neg (nI_ge hj (by omega)), c2, r_bind, ct]
      simp only [nm]
      rw [nI_1, nI_1]
      by_cases z : cf i = 0
      · rw [if_pos z, if_pos rfl, if_pos (by simp [z])]
      · have ne : ¬ nI (cf i) = -5 := fun g => by
          have := congrArg Int32.toInt g
          rw [nI_toInt (by omega), show (-5 : Int32).toInt = -5 from by decide] at this
          omega
        rw [if_neg z, if_neg ne, if_neg (by simp [z])]
        show m_X7_bridges_L4 N s n (nI (i + 1)) (nI _ + nI 0) = _
        rw [nI_add]
