/-! pure: what can be reached; circles, bridges, parts: both classes answer alike -/
def clos (T : Nat) (lo hi : Nat → Nat) (A : Nat → Bool) (R : Nat) : Prop := ∀ t, t < T → A t = true → R.testBit (lo t) = R.testBit (hi t)
def subs (R S : Nat) : Prop := ∀ i, R.testBit i = true → S.testBit i = true
def isR (T : Nat) (lo hi : Nat → Nat) (A : Nat → Bool) (S R : Nat) : Prop := subs S R ∧ clos T lo hi A R ∧ ∀ R', subs S R' → clos T lo hi A R' → subs R R'
theorem subs_eq {R S : Nat} (h : subs R S) (h2 : subs S R) : R = S := Nat.eq_of_testBit_eq (fun i => by rw [Bool.eq_iff_iff]; exact ⟨h i, h2 i⟩)
theorem subs_tr {R S U : Nat} (h : subs R S) (h2 : subs S U) : subs R U := fun i q => h2 i (h i q)
theorem isR_one {T : Nat} {lo hi : Nat → Nat} {A : Nat → Bool} {S R R' : Nat} (h : isR T lo hi A S R) (h2 : isR T lo hi A S R') : R = R' := subs_eq (h.2.2 _ h2.1 h2.2.1) (h2.2.2 _ h.1 h.2.1)
def pc (n S : Nat) : Nat := ct (fun i => S.testBit i) n
theorem pc_le (n S : Nat) : pc n S ≤ n := ct_le _ n
theorem ct_mono {p q : Nat → Bool} : ∀ {n : Nat}, (∀ i, i < n → p i = true → q i = true) → ct p n ≤ ct q n
  | 0, _ => Nat.le_refl 0
  | n + 1, h => by
    have := ct_mono (n := n) (fun i hi => h i (by omega))
    rw [ct, ct]
    by_cases g : p n = true
    · rw [if_pos g, if_pos (h n (by omega) g)]; omega
    · rw [if_neg g]; omega
theorem ct_strict {p q : Nat → Bool} {i : Nat} : ∀ {n : Nat}, (∀ i, i < n → p i = true → q i = true) → i < n → p i = false → q i = true → ct p n < ct q n
  | 0, _, hi, _, _ => absurd hi (Nat.not_lt_zero i)
  | n + 1, h, hi, h1, h2 => by
    rw [ct, ct]
    rcases Nat.lt_or_ge i n with g | g
    · have := ct_strict (n := n) (fun j hj => h j (by omega)) g h1 h2
      by_cases g : p n = true
      · rw [if_pos g, if_pos (h n (by omega) g)]; omega
      · rw [if_neg g]; omega
    · have e : i = n := by omega
      subst e
      have := ct_mono (p := p) (q := q) (n := i) (fun j hj => h j (by omega))
      rw [h1, h2]; simp; omega
theorem ct_all {p : Nat → Bool} : ∀ {n : Nat}, n ≤ ct p n → ∀ i, i < n → p i = true
  | 0, _, i, hi => absurd hi (Nat.not_lt_zero i)
  | n + 1, h, i, hi => by
    have l := ct_le p n
    rw [ct] at h
    by_cases g : p n = true
    · rw [if_pos g] at h
      rcases Nat.lt_or_ge i n with q | q
      · exact ct_all (by omega) i q
      · rw [show i = n by omega]; exact g
    · rw [if_neg g] at h; omega
theorem pc_grow {n S S' : Nat} (h' : S' < 2 ^ n) (h : subs S S') (hne : S' ≠ S) : pc n S < pc n S' := by
  have : ∃ i, S.testBit i = false ∧ S'.testBit i = true := by
    apply Classical.byContradiction
    intro q
    apply hne
    refine subs_eq (fun i hi => ?_) h
    cases g : S.testBit i with
    | true => rfl
    | false => exact absurd ⟨i, g, hi⟩ q
  obtain ⟨i, h1, h2⟩ := this
  have hi : i < n := by
    rcases Nat.lt_or_ge i n with q | q
    · exact q
    · rw [Nat.testBit_lt_two_pow (Nat.lt_of_lt_of_le h' (p2le q))] at h2; cases h2
  exact ct_strict (fun i _ => h i) hi h1 h2
/-- a function that comes nearer to what is closed -/
def goodF (n : Nat) (cl : Nat → Prop) (F : Nat → Nat) : Prop := ∀ S, S < 2 ^ n → F S < 2 ^ n ∧ subs S (F S) ∧ (∀ R', subs S R' → cl R' → subs (F S) R') ∧ (F S = S → cl S)
def isC (cl : Nat → Prop) (S R : Nat) : Prop := subs S R ∧ cl R ∧ ∀ R', subs S R' → cl R' → subs R R'
theorem isC_one {cl : Nat → Prop} {S R R' : Nat} (h : isC cl S R) (h2 : isC cl S R') : R = R' := subs_eq (h.2.2 _ h2.1 h2.2.1) (h2.2.2 _ h.1 h.2.1)
theorem isC_self {cl : Nat → Prop} {S : Nat} (h : cl S) : isC cl S S := ⟨fun _ q => q, h, fun _ q _ => q⟩
theorem isC_step {n : Nat} {cl : Nat → Prop} {F : Nat → Nat} (hF : goodF n cl F) {S R : Nat} (hS : S < 2 ^ n) (h : isC cl (F S) R) : isC cl S R := ⟨subs_tr (hF S hS).2.1 h.1, h.2.1, fun R' h1 h2 => h.2.2 R' ((hF S hS).2.2.1 R' h1 h2) h2⟩
theorem full_cl {n : Nat} {cl : Nat → Prop} {F : Nat → Nat} (hF : goodF n cl F) {S : Nat} (hS : S < 2 ^ n) (h : n ≤ pc n S) : F S = S := by
  refine subs_eq (fun i hi => ?_) (hF S hS).2.1
  have : i < n := by
    rcases Nat.lt_or_ge i n with q | q
    · exact q
    · rw [Nat.testBit_lt_two_pow (Nat.lt_of_lt_of_le (hF S hS).1 (p2le q))] at hi; cases hi
  exact ct_all h i this
/-- one step: the threads that touch the set bring their ends -/
def sp (T : Nat) (lo hi : Nat → Nat) (A : Nat → Bool) (S : Nat) : Nat := S ||| oa (fun t => if A t && (em lo hi t &&& S != 0) then em lo hi t else 0) T
theorem meet_iff {lo hi : Nat → Nat} {t S : Nat} (h : lo t < hi t) : (em lo hi t &&& S != 0) = (S.testBit (lo t) || S.testBit (hi t)) := by
  rw [Bool.eq_iff_iff, Bool.or_eq_true]
  constructor
  · intro g
    apply Classical.byContradiction
    intro q
    simp only [not_or, Bool.not_eq_true] at q
    have : em lo hi t &&& S = 0 := by
      apply Nat.eq_of_testBit_eq
      intro i
      rw [Nat.testBit_and, tb_em h, Nat.zero_testBit]
      unfold isat
      cases c : (lo t == i || hi t == i) with
      | false => rfl
      | true =>
        simp at c
        rcases c with rfl | rfl
        · simp [q.1]
        · simp [q.2]
    rw [this] at g
    cases g
  · intro g
    simp only [bne_iff_ne, ne_eq]
    intro z
    rcases g with g | g
    · have := Nat.testBit_and (em lo hi t) S (lo t)
      rw [z, g, tb_em h] at this
      unfold isat at this
      simp at this
    · have := Nat.testBit_and (em lo hi t) S (hi t)
      rw [z, g, tb_em h] at this
      unfold isat at this
      simp at this
theorem sp_good {T : Nat} {lo hi co : Nat → Nat} (hw : wt T lo hi co) (A : Nat → Bool) : goodF 14 (clos T lo hi A) (sp T lo hi A) := by
  intro S hS
  refine ⟨or_lt hS (oa_lt (fun i hj => ?_)), fun i q => by unfold sp; rw [Nat.testBit_or, q]; rfl, ?_, ?_⟩
  · show (if A i && (em lo hi i &&& S != 0) then em lo hi i else 0) < _
    split
    · exact em_lt (hw.2 i hj).1 (hw.2 i hj).2.1
    · exact Nat.two_pow_pos _
  · intro R' h1 h2 i q
    unfold sp at q
    rw [Nat.testBit_or, Bool.or_eq_true, tb_oa, an_iff] at q
    rcases q with q | ⟨t, ht, q⟩
    · exact h1 i q
    · have hh := (hw.2 t ht).1
      cases g : A t && (em lo hi t &&& S != 0) with
      | false => rw [g] at q; simp at q
      | true =>
        rw [g] at q
        simp only [if_true] at q
        rw [Bool.and_eq_true, meet_iff hh, Bool.or_eq_true] at g
        rw [tb_em hh] at q
        have c := h2 t ht g.1
        have both : R'.testBit (lo t) = true ∧ R'.testBit (hi t) = true := by
          rcases g.2 with g | g
          · have := h1 _ g; exact ⟨this, by rw [← c]; exact this⟩
          · have := h1 _ g; exact ⟨by rw [c]; exact this, this⟩
        unfold isat at q
        simp at q
        rcases q with rfl | rfl
        · exact both.1
        · exact both.2
  · intro e t ht hA
    have hh := (hw.2 t ht).1
    have key : ∀ k, isat lo hi t k = true → (em lo hi t &&& S != 0) = true → S.testBit k = true := by
      intro k hk hm
      rw [← e]
      unfold sp
      rw [Nat.testBit_or, Bool.or_eq_true, tb_oa, an_iff]
      refine Or.inr ⟨t, ht, ?_⟩
      rw [hA, hm]
      simp only [Bool.and_self, if_true]
      rw [tb_em hh]
      exact hk
    have il : isat lo hi t (lo t) = true := by unfold isat; simp
    have ih : isat lo hi t (hi t) = true := by unfold isat; simp
    cases q1 : S.testBit (lo t) with
    | true => exact (key _ ih (by rw [meet_iff hh, q1]; rfl)).symm
    | false =>
      cases q2 : S.testBit (hi t) with
      | false => rfl
      | true => rw [key _ il (by rw [meet_iff hh, q2, Bool.or_true])] at q1; cases q1
theorem x_spread {N T S B : Nat} {lo hi co : Nat → Nat} {e : Nat → Int32} (hN : 1000 ≤ N) (hw : wt T lo hi co) (he : XE T lo hi e) (hS : S < 2 ^ 14) (hB : B < 2 ^ 31) : m_X5_spread N (nI T) e (nI S) (nI B) = some (nI (sp T lo hi (fun t => B.testBit t) S)) := by
  have hT := hw.1
  unfold m_X5_spread
  refine Eq.trans (b := m_X5_spread_L5 N (nI T) e (nI S) (nI B) N (nI 0) (nI (S ||| 0))) (by rw [Nat.or_zero]; rfl) ?_
  refine for_up (fun n i (acc : Nat) => m_X5_spread_L5 N (nI T) e (nI S) (nI B) n (nI i) (nI acc)) T (fun i => S ||| oa (fun t => if B.testBit t && (em lo hi t &&& S != 0) then em lo hi t else 0) i) _ ?_ ?_ T N 0 (by omega) (by omega)
  · intro n
    show m_X5_spread_L5 N (nI T) e (nI S) (nI B) (n + 1) (nI T) _ = _
    rw [m_X5_spread_L5, m_X2_threads, r_bind, if_pos (nI_le (Nat.le_refl _) (by omega))]
    rfl
  · intro n i hj
    show m_X5_spread_L5 N (nI T) e (nI S) (nI B) (n + 1) (nI i) _ = m_X5_spread_L5 N (nI T) e (nI S) (nI B) n (nI (i + 1)) _
    have l : em lo hi i &&& S < 2 ^ 31 := Nat.lt_of_le_of_lt Nat.and_le_right (by omega)
    rw [m_X5_spread_L5, m_X2_threads, r_bind, if_neg (nI_ge hj (by omega)), m_holds hB (by omega), r_bind, sel, x_ends hT he hj, oa, nI_1]
    simp only [nm, r_bind]
    cases q : B.testBit i with
    | false => simp
    | true =>
      rw [if_pos rfl, nand, nor]
      by_cases z : em lo hi i &&& S = 0
      · rw [if_pos ((nI_eq0 l).mpr z)]; simp [z]
      · rw [if_neg (fun g => z ((nI_eq0 l).mp g)), ← Nat.or_assoc]; simp [z]
theorem m_reach {N K T S : Nat} {lo hi co : Nat → Nat} {s : Nat → Int32} {w : Int32} {A : Nat → Bool} (hN : 1000 ≤ N) (hw : wt T lo hi co) (hs : MN K T lo hi co s) (hS : S < 2 ^ 14) (hA : ∀ t, t < T → (A t = false ↔ nI t = w)) : m_X7_reach N s (nI S) w = some (nI (sp T lo hi A S)) := by
  have hT := hw.1
  unfold m_X7_reach
  refine Eq.trans (b := m_X7_reach_L5 N s (nI S) w N (nI 0) (nI (S ||| 0))) (by rw [Nat.or_zero]; rfl) ?_
  refine for_up (fun n i (acc : Nat) => m_X7_reach_L5 N s (nI S) w n (nI i) (nI acc)) T (fun i => S ||| oa (fun t => if A t && (em lo hi t &&& S != 0) then em lo hi t else 0) i) _ ?_ ?_ T N 0 (by omega) (by omega)
  · intro n
    show m_X7_reach_L5 N s (nI S) w (n + 1) (nI T) _ = _
    rw [m_X7_reach_L5, r_1 (by decide), hs.2.1, if_pos (nI_le (Nat.le_refl _) (by omega))]
    rfl
  · intro n i hj
    show m_X7_reach_L5 N s (nI S) w (n + 1) (nI i) _ = m_X7_reach_L5 N s (nI S) w n (nI (i + 1)) _
    obtain ⟨h1, h2, h3⟩ := hw.2 i hj
    rw [m_X7_reach_L5, r_1 (by decide), hs.2.1, if_neg (nI_ge hj (by omega)), oa]
    simp only [jn, nm]
    rw [m_of0 hT hs hj, m_of1 hT hs hj]
    simp only [r_bind]
    rw [m_has (by omega) (by omega), m_has (by omega) (by omega)]
    simp only [r_bind]
    rw [sh1 (by omega), sh1 (by omega), nor, nor, nI_1, or_zero, sel, sel]
    have eo : 2 ^ lo i ||| 2 ^ hi i = em lo hi i := or_bit (p2lt h1)
    rw [eo, meet_iff h1]
    cases q : A i with
    | false => rw [if_pos ((hA i hj).mp q)]; simp
    | true =>
      rw [if_neg (fun g => by rw [(hA i hj).mpr g] at q; cases q)]
      cases q1 : S.testBit (lo i) <;> cases q2 : S.testBit (hi i) <;> simp [Nat.or_assoc]
theorem x_reached {N T S B : Nat} {lo hi co : Nat → Nat} {e : Nat → Int32} (hN : 1000 ≤ N) (hw : wt T lo hi co) (he : XE T lo hi e) (hS : S < 2 ^ 14) (hB : B < 2 ^ 31) : ∃ R, R < 2 ^ 14 ∧ m_X5_reached N (nI T) e (nI S) (nI B) = some (nI R) ∧ isC (clos T lo hi (fun t => B.testBit t)) S R := by
  have hF := sp_good hw (fun t => B.testBit t)
  have key : ∀ (d n i S : Nat), i + d = 14 → d < n → S < 2 ^ 14 → 14 ≤ pc 14 S + d → ∃ R, R < 2 ^ 14 ∧ m_X5_reached_L5 N (nI T) e (nI B) n (nI i) (nI S) = some (nI R) ∧ isC (clos T lo hi (fun t => B.testBit t)) S R := by
    intro d
    induction d with
    | zero =>
      intro n i S hi' hn hS hp
      obtain ⟨n, rfl⟩ : ∃ m, n = m + 1 := ⟨n - 1, by omega⟩
      refine ⟨S, hS, ?_, isC_self ((hF S hS).2.2.2 (full_cl hF hS hp))⟩
      rw [m_X5_reached_L5, if_pos (show (14 : Int32) ≤ nI i from nI_le (a := 14) (by omega) (by omega))]
    | succ d ih =>
      intro n i S hi' hn hS hp
      obtain ⟨n, rfl⟩ : ∃ m, n = m + 1 := ⟨n - 1, by omega⟩
      obtain ⟨f1, f2, f3, f4⟩ := hF S hS
      rw [m_X5_reached_L5, if_neg (show ¬ (14 : Int32) ≤ nI i from nI_ge (b := 14) (by omega) (by omega)), x_spread hN hw he hS hB, r_bind, nI_1]
      by_cases q : sp T lo hi (fun t => B.testBit t) S = S
      · rw [if_pos (by rw [q])]
        exact ⟨S, hS, rfl, isC_self (f4 q)⟩
      · rw [if_neg (fun g => q ((nI_eq (by omega) (by omega)).mp g))]
        obtain ⟨R, h1, h2, h3⟩ := ih n (i + 1) _ (by omega) (by omega) f1 (by have := pc_grow f1 f2 q; omega)
        exact ⟨R, h1, h2, isC_step hF hS h3⟩
  exact key 14 N 0 S (by omega) (by omega) hS (by omega)
theorem m_partOf {N K T k : Nat} {lo hi co : Nat → Nat} {s : Nat → Int32} (hN : 1000 ≤ N) (hw : wt T lo hi co) (hs : MN K T lo hi co s) (hk : k < 14) : ∃ R, R < 2 ^ 14 ∧ m_X7_partOf N s (nI k) = some (nI R) ∧ isC (clos T lo hi (fun _ => true)) (2 ^ k) R := by
  have hF := sp_good hw (fun _ => true)
  have hT := hw.1
  have hA : ∀ t, t < T → ((fun _ : Nat => true) t = false ↔ nI t = -5) := by
    intro t ht
    constructor
    · intro g; cases g
    · intro g
      have := congrArg Int32.toInt g
      rw [nI_toInt (by omega), show (-5 : Int32).toInt = -5 from by decide] at this
      omega
  have key : ∀ (d n S : Nat), d < n → S < 2 ^ 14 → 14 ≤ pc 14 S + d → ∃ R, R < 2 ^ 14 ∧ m_X7_partOf_L12 N s n (nI (sp T lo hi (fun _ => true) S)) (nI S) = some (nI R) ∧ isC (clos T lo hi (fun _ => true)) S R := by
    intro d
    induction d with
    | zero =>
      intro n S hn hS hp
      obtain ⟨n, rfl⟩ : ∃ m, n = m + 1 := ⟨n - 1, by omega⟩
      have q := full_cl hF hS hp
      refine ⟨S, hS, ?_, isC_self ((hF S hS).2.2.2 q)⟩
      rw [m_X7_partOf_L12, if_pos (by rw [q])]
    | succ d ih =>
      intro n S hn hS hp
      obtain ⟨n, rfl⟩ : ∃ m, n = m + 1 := ⟨n - 1, by omega⟩
      obtain ⟨f1, f2, f3, f4⟩ := hF S hS
      by_cases q : sp T lo hi (fun _ => true) S = S
      · refine ⟨S, hS, ?_, isC_self (f4 q)⟩
        rw [m_X7_partOf_L12, if_pos (by rw [q])]
      · obtain ⟨R, h1, h2, h3⟩ := ih n _ (by omega) f1 (by have := pc_grow f1 f2 q; omega)
        refine ⟨R, h1, ?_, isC_step hF hS h3⟩
        rw [m_X7_partOf_L12, if_neg (fun g => q ((nI_eq (by omega) (by omega)).mp g)), m_reach hN hw hs f1 hA, r_bind]
        exact h2
  have hS : 2 ^ k < 2 ^ 14 := p2lt hk
  obtain ⟨R, h1, h2, h3⟩ := key 14 N (2 ^ k) (by omega) hS (by omega)
  refine ⟨R, h1, ?_, h3⟩
  unfold m_X7_partOf
  simp only [nm]
  rw [sh1 (by omega), m_reach hN hw hs hS hA, r_bind]
  exact h2
