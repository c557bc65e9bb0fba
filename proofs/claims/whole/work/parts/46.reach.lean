-- 46.reach.lean.txt
section
/-! pure: what can be reached; circles, bridges, parts: both classes answer alike -/
def clos (T : Nat) (lo hi : Nat → Nat) (A : Nat → Bool) (R : Nat) : Prop := ∀ t, t < T → A t = true → R.testBit (lo t) = R.testBit (hi t)
def subs (R S : Nat) : Prop := ∀ i, R.testBit i = true → S.testBit i = true
def isR (T : Nat) (lo hi : Nat → Nat) (A : Nat → Bool) (S R : Nat) : Prop := subs S R ∧ clos T lo hi A R ∧ ∀ R', subs S R' → clos T lo hi A R' → subs R R'
theorem subs_eq {R S : Nat} (h : subs R S) (h2 : subs S R) : R = S := Nat.eq_of_testBit_eq (fun i => by rw [Bool.eq_iff_iff]; exact ⟨h i, h2 i⟩)
theorem subs_tr {R S U : Nat} (h : subs R S) (h2 : subs S U) : subs R U := fun i q => h2 i (h i q)
theorem isR_one {T : Nat} {lo hi : Nat → Nat} {A : Nat → Bool} {S R R' : Nat} (h : isR T lo hi A S R) (h2 : isR T lo hi A S R') : R = R' := subs_eq (h.2.2 _ h2.1 h2.2.1) (h2.2.2 _ h.1 h.2.1)
def pc (n S : Nat) : Nat := ct (fun i => S.testBit i) n
theorem pc_le (n S : Nat) : pc n S ≤ n := ct_le _ n
theorem ct_mono {p q : Nat → Bool} : ∀ {n : Nat}, (∀ i, i < n → p i = true → q i = true) → ct p n ≤ ct q n
  | 0, _ => Nat.le_refl 0
  | n + 1, h => by
    have := ct_mono (n := n) (fun i hi => h i (by omega))
    rw [ct, ct]
    by_cases g : p n = true
    · rw [if_pos g, if_pos (h n (by omega) g)]; omega
    · rw [if_neg g]; omega
theorem ct_strict {p q : Nat → Bool} {i : Nat} : ∀ {n : Nat}, (∀ i, i < n → p i = true → q i = true) → i < n → p i = false → q i = true → ct p n < ct q n
  | 0, _, hi, _, _ => absurd hi (Nat.not_lt_zero i)
  | n + 1, h, hi, h1, h2 => by
    rw [ct, ct]
    rcases Nat.lt_or_ge i n with g | g
    · have := ct_strict (n := n) (fun j hj => h j (by omega)) g h1 h2
      by_cases g : p n = true
      · rw [if_pos g, if_pos (h n (by omega) g)]; omega
      · rw [if_neg g]; omega
    · have e : i = n := by omega
      subst e
      have := ct_mono (p := p) (q := q) (n := i) (fun j hj => h j (by omega))
      rw [h1, h2]; simp; omega
theorem ct_all {p : Nat → Bool} : ∀ {n : Nat}, n ≤ ct p n → ∀ i, i < n → p i = true
  | 0, _, i, hi => absurd hi (Nat.not_lt_zero i)
  | n + 1, h, i, hi => by
    have l := ct_le p n
    rw [ct] at h
    by_cases g : p n = true
    · rw [if_pos g] at h
      rcases Nat.lt_or_ge i n with q | q
      · exact ct_all (by omega) i q
      · rw [show i = n by omega]; exact g
    · rw [if_neg g] at h; omega
theorem pc_grow {n S S' : Nat} (h' : S' < 2 ^ n) (h : subs S S') (hne : S' ≠ S) : pc n S < pc n S' := by
  have : ∃ i, S.testBit i = false ∧ S'.testBit i = true := by
    apply Classical.byContradiction
    intro q
    apply hne
    refine subs_eq (fun i hi => ?_) h
    cases g : S.testBit i with
    | true => rfl
    | false => exact absurd ⟨i, g, hi⟩ q
  obtain ⟨i, h1, h2⟩ := this
  have hi : i < n := by
    rcases Nat.lt_or_ge i n with q | q
    · exact q
    · rw [Nat.testBit_lt_two_pow (Nat.lt_of_lt_of_le h' (p2le q))] at h2; cases h2
  exact ct_strict (fun i _ => h i) hi h1 h2
/-- a function that comes nearer to what is closed -/
def goodF (n : Nat) (cl : Nat → Prop) (F : Nat → Nat) : Prop := ∀ S, S < 2 ^ n → F S < 2 ^ n ∧ subs S (F S) ∧ (∀ R', subs S R' → cl R' → subs (F S) R') ∧ (F S = S → cl S)
def isC (cl : Nat → Prop) (S R : Nat) : Prop := subs S R ∧ cl R ∧ ∀ R', subs S R' → cl R' → subs R R'
theorem isC_one {cl : Nat → Prop} {S R R' : Nat} (h : isC cl S R) (h2 : isC cl S R') : R = R' := subs_eq (h.2.2 _ h2.1 h2.2.1) (h2.2.2 _ h.1 h.2.1)
theorem isC_self {cl : Nat → Prop} {S : Nat} (h : cl S) : isC cl S S := ⟨fun _ q => q, h, fun _ q _ => q⟩
theorem isC_step {n : Nat} {cl : Nat → Prop} {F : Nat → Nat} (hF : goodF n cl F) {S R : Nat} (hS : S < 2 ^ n) (h : isC cl (F S) R) : isC cl S R := ⟨subs_tr (hF S hS).2.1 h.1, h.2.1, fun R' h1 h2 => h.2.2 R' ((hF S hS).2.2.1 R' h1 h2) h2⟩
theorem full_cl {n : Nat} {cl : Nat → Prop} {F : Nat → Nat} (hF : goodF n cl F) {S : Nat} (hS : S < 2 ^ n) (h : n ≤ pc n S) : F S = S := by
  refine subs_eq (fun i hi => ?_) (hF S hS).2.1
  have : i < n := by
    rcases Nat.lt_or_ge i n with q | q
    · exact q
    · rw [Nat.testBit_lt_two_pow (Nat.lt_of_lt_of_le (hF S hS).1 (p2le q))] at hi; cases hi
  exact ct_all h i this
/-- one step: the threads that touch the set bring their ends -/
def sp (T : Nat) (lo hi : Nat → Nat) (A : Nat → Bool) (S : Nat) : Nat := S ||| oa (fun t => if A t && (em lo hi t &&& S != 0) then em lo hi t else 0) T
theorem meet_iff {lo hi : Nat → Nat} {t S : Nat} (h : lo t < hi t) : (em lo hi t &&& S != 0) = (S.testBit (lo t) || S.testBit (hi t)) := by
  rw [Bool.eq_iff_iff, Bool.or_eq_true]
  constructor
  · intro g
    apply Classical.byContradiction
    intro q
    simp only [not_or, Bool.not_eq_true] at q
    have : em lo hi t &&& S = 0 := by
      apply Nat.eq_of_testBit_eq
      intro i
      rw [Nat.testBit_and, tb_em h, Nat.zero_testBit]
      unfold isat
      cases c : (lo t == i || hi t == i) with
      | false => rfl
      | true =>
        simp at c
        rcases c with rfl | rfl
        · simp [q.1]
        · simp [q.2]
    rw [this] at g
    cases g
  · intro g
    simp only [bne_iff_ne, ne_eq]
    intro z
    rcases g with g | g
    · have := Nat.testBit_and (em lo hi t) S (lo t)
      rw [z, g, tb_em h] at this
      unfold isat at this
      simp at this
    · have := Nat.testBit_and (em lo hi t) S (hi t)
      rw [z, g, tb_em h] at this
      unfold isat at this
      simp at this
theorem sp_good {T : Nat} {lo hi co : Nat → Nat} (hw : wt T lo hi co) (A : Nat → Bool) : goodF 14 (clos T lo hi A) (sp T lo hi A) := by
  intro S hS
  refine ⟨or_lt hS (oa_lt (fun i hj => ?_)), fun i q => by unfold sp; rw [Nat.testBit_or, q]; rfl, ?_, ?_⟩
  · show (if A i && (em lo hi i &&& S != 0) then em lo hi i else 0) < _
    split
    · exact em_lt (hw.2 i hj).1 (hw.2 i hj).2.1
    · exact Nat.two_pow_pos _
  · intro R' h1 h2 i q
    unfold sp at q
    rw [Nat.testBit_or, Bool.or_eq_true, tb_oa, an_iff] at q
    rcases q with q | ⟨t, ht, q⟩
    · exact h1 i q
    · have hh := (hw.2 t ht).1
      cases g : A t && (em lo hi t &&& S != 0) with
      | false => rw [g] at q; simp at q
      | true =>
        rw [g] at q
        simp only [if_true] at q
        rw [Bool.and_eq_true, meet_iff hh, Bool.or_eq_true] at g
        rw [tb_em hh] at q
        have c := h2 t ht g.1
        have both : R'.testBit (lo t) = true ∧ R'.testBit (hi t) = true := by
          rcases g.2 with g | g
          · have := h1 _ g; exact ⟨this, by rw [← c]; exact this⟩
          · have := h1 _ g; exact ⟨by rw [c]; exact this, this⟩
        unfold isat at q
        simp at q
        rcases q with rfl | rfl
        · exact both.1
        · exact both.2
  · intro e t ht hA
    have hh := (hw.2 t ht).1
    have key : ∀ k, isat lo hi t k = true → (em lo hi t &&& S != 0) = true → S.testBit k = true := by
      intro k hk hm
      rw [← e]
      unfold sp
      rw [Nat.testBit_or, Bool.or_eq_true, tb_oa, an_iff]
      refine Or.inr ⟨t, ht, ?_⟩
      rw [hA, hm]
      simp only [Bool.and_self, if_true]
      rw [tb_em hh]
      exact hk
    have il : isat lo hi t (lo t) = true := by unfold isat; simp
    have ih : isat lo hi t (hi t) = true := by unfold isat; simp
    cases q1 : S.testBit (lo t) with
    | true => exact (key _ ih (by rw [meet_iff hh, q1]; rfl)).symm
    | false =>
      cases q2 : S.testBit (hi t) with
      | false => rfl
      | true => rw [key _ il (by rw [meet_iff hh, q2, Bool.or_true])] at q1; cases q1
theorem x_spread {N T S B : Nat} {lo hi co : Nat → Nat} {e : Nat → Int32} (hN : 1000 ≤ N) (hw : wt T lo hi co) (he : XE T lo hi e) (hS : S < 2 ^ 14) (hB : B < 2 ^ 31) : m_X5_spread N (nI T) e (nI S) (nI B) = some (nI (sp T lo hi (fun t => B.testBit t) S)) := by
  have hT := hw.1
  unfold m_X5_spread
  refine Eq.trans (b := m_X5_spread_L5 N (nI T) e (nI S) (nI B) N (nI 0) (nI (S ||| 0))) (by rw [Nat.or_zero]; rfl) ?_
  refine for_up (fun n i (acc : Nat) => m_X5_spread_L5 N (nI T) e (nI S) (nI B) n (nI i) (nI acc)) T (fun i => S ||| oa (fun t => if B.testBit t && (em lo hi t &&& S != 0) then em lo hi t else 0) i) _ ?_ ?_ T N 0 (by omega) (by omega)
  · intro n
    show m_X5_spread_L5 N (nI T) e (nI S) (nI B) (n + 1) (nI T) _ = _
    rw [m_X5_spread_L5, m_X2_threads, r_bind, if_pos (nI_le (Nat.le_refl _) (by omega))]
    rfl
  · intro n i hj
    show m_X5_spread_L5 N (nI T) e (nI S) (nI B) (n + 1) (nI i) _ = m_X5_spread_L5 N (nI T) e (nI S) (nI B) n (nI (i + 1)) _
    have l : em lo hi i &&& S < 2 ^ 31 := Nat.lt_of_le_of_lt Nat.and_le_right (by omega)
    rw [m_X5_spread_L5, m_X2_threads, r_bind, if_neg (nI_ge hj (by omega)), m_holds hB (by omega), r_bind, sel, x_ends hT he hj, oa, nI_1]
    simp only [nm, r_bind]
    cases q : B.testBit i with
    | false => simp
    | true =>
      rw [if_pos rfl, nand, nor]
      by_cases z : em lo hi i &&& S = 0
      · rw [if_pos ((nI_eq0 l).mpr z)]; simp [z]
      · rw [if_neg (fun g => z ((nI_eq0 l).mp g)), ← Nat.or_assoc]; simp [z]
theorem m_reach {N K T S : Nat} {lo hi co : Nat → Nat} {s : Nat → Int32} {w : Int32} {A : Nat → Bool} (hN : 1000 ≤ N) (hw : wt T lo hi co) (hs : MN K T lo hi co s) (hS : S < 2 ^ 14) (hA : ∀ t, t < T → (A t = false ↔ nI t = w)) : m_X7_reach N s (nI S) w = some (nI (sp T lo hi A S)) := by
  have hT := hw.1
  unfold m_X7_reach
  refine Eq.trans (b := m_X7_reach_L5 N s (nI S) w N (nI 0) (nI (S ||| 0))) (by rw [Nat.or_zero]; rfl) ?_
  refine for_up (fun n i (acc : Nat) => m_X7_reach_L5 N s (nI S) w n (nI i) (nI acc)) T (fun i => S ||| oa (fun t => if A t && (em lo hi t &&& S != 0) then em lo hi t else 0) i) _ ?_ ?_ T N 0 (by omega) (by omega)
  · intro n
    show m_X7_reach_L5 N s (nI S) w (n + 1) (nI T) _ = _
    rw [m_X7_reach_L5, r_1 (by decide), hs.2.1, if_pos (nI_le (Nat.le_refl _) (by omega))]
    rfl
  · intro n i hj
    show m_X7_reach_L5 N s (nI S) w (n + 1) (nI i) _ = m_X7_reach_L5 N s (nI S) w n (nI (i + 1)) _
    obtain ⟨h1, h2, h3⟩ := hw.2 i hj
    rw [m_X7_reach_L5, r_1 (by decide), hs.2.1, if_neg (nI_ge hj (by omega)), oa]
    simp only [jn, nm]
    rw [m_of0 hT hs hj, m_of1 hT hs hj]
    simp only [r_bind]
    rw [m_has (by omega) (by omega), m_has (by omega) (by omega)]
    simp only [r_bind]
    rw [sh1 (by omega), sh1 (by omega), nor, nor, nI_1, or_zero, sel, sel]
    have eo : 2 ^ lo i ||| 2 ^ hi i = em lo hi i := or_bit (p2lt h1)
    rw [eo, meet_iff h1]
    cases q : A i with
    | false => rw [if_pos ((hA i hj).mp q)]; simp
    | true =>
      rw [if_neg (fun g => by rw [(hA i hj).mpr g] at q; cases q)]
      cases q1 : S.testBit (lo i) <;> cases q2 : S.testBit (hi i) <;> simp [Nat.or_assoc]
theorem x_reached {N T S B : Nat} {lo hi co : Nat → Nat} {e : Nat → Int32} (hN : 1000 ≤ N) (hw : wt T lo hi co) (he : XE T lo hi e) (hS : S < 2 ^ 14) (hB : B < 2 ^ 31) : ∃ R, R < 2 ^ 14 ∧ m_X5_reached N (nI T) e (nI S) (nI B) = some (nI R) ∧ isC (clos T lo hi (fun t => B.testBit t)) S R := by
  have hF := sp_good hw (fun t => B.testBit t)
  have key : ∀ (d n i S : Nat), i + d = 14 → d < n → S < 2 ^ 14 → 14 ≤ pc 14 S + d → ∃ R, R < 2 ^ 14 ∧ m_X5_reached_L5 N (nI T) e (nI B) n (nI i) (nI S) = some (nI R) ∧ isC (clos T lo hi (fun t => B.testBit t)) S R := by
    intro d
    induction d with
    | zero =>
      intro n i S hi' hn hS hp
      obtain ⟨n, rfl⟩ : ∃ m, n = m + 1 := ⟨n - 1, by omega⟩
      refine ⟨S, hS, ?_, isC_self ((hF S hS).2.2.2 (full_cl hF hS hp))⟩
      rw [m_X5_reached_L5, if_pos (show (14 : Int32) ≤ nI i from nI_le (a := 14) (by omega) (by omega))]
    | succ d ih =>
      intro n i S hi' hn hS hp
      obtain ⟨n, rfl⟩ : ∃ m, n = m + 1 := ⟨n - 1, by omega⟩
      obtain ⟨f1, f2, f3, f4⟩ := hF S hS
      rw [m_X5_reached_L5, if_neg (show ¬ (14 : Int32) ≤ nI i from nI_ge (b := 14) (by omega) (by omega)), x_spread hN hw he hS hB, r_bind, nI_1]
      by_cases q : sp T lo hi (fun t => B.testBit t) S = S
      · rw [if_pos (by rw [q])]
        exact ⟨S, hS, rfl, isC_self (f4 q)⟩
      · rw [if_neg (fun g => q ((nI_eq (by omega) (by omega)).mp g))]
        obtain ⟨R, h1, h2, h3⟩ := ih n (i + 1) _ (by omega) (by omega) f1 (by have := pc_grow f1 f2 q; omega)
        exact ⟨R, h1, h2, isC_step hF hS h3⟩
  exact key 14 N 0 S (by omega) (by omega) hS (by omega)
theorem m_partOf {N K T k : Nat} {lo hi co : Nat → Nat} {s : Nat → Int32} (hN : 1000 ≤ N) (hw : wt T lo hi co) (hs : MN K T lo hi co s) (hk : k < 14) : ∃ R, R < 2 ^ 14 ∧ m_X7_partOf N s (nI k) = some (nI R) ∧ isC (clos T lo hi (fun _ => true)) (2 ^ k) R := by
  have hF := sp_good hw (fun _ => true)
  have hT := hw.1
  have hA : ∀ t, t < T → ((fun _ : Nat => true) t = false ↔ nI t = -5) := by
    intro t ht
    constructor
    · intro g; cases g
    · intro g
      have := congrArg Int32.toInt g
      rw [nI_toInt (by omega), show (-5 : Int32).toInt = -5 from by decide] at this
      omega
  have key : ∀ (d n S : Nat), d < n → S < 2 ^ 14 → 14 ≤ pc 14 S + d → ∃ R, R < 2 ^ 14 ∧ m_X7_partOf_L12 N s n (nI (sp T lo hi (fun _ => true) S)) (nI S) = some (nI R) ∧ isC (clos T lo hi (fun _ => true)) S R := by
    intro d
    induction d with
    | zero =>
      intro n S hn hS hp
      obtain ⟨n, rfl⟩ : ∃ m, n = m + 1 := ⟨n - 1, by omega⟩
      have q := full_cl hF hS hp
      refine ⟨S, hS, ?_, isC_self ((hF S hS).2.2.2 q)⟩
      rw [m_X7_partOf_L12, if_pos (by rw [q])]
    | succ d ih =>
      intro n S hn hS hp
      obtain ⟨n, rfl⟩ : ∃ m, n = m + 1 := ⟨n - 1, by omega⟩
      obtain ⟨f1, f2, f3, f4⟩ := hF S hS
      by_cases q : sp T lo hi (fun _ => true) S = S
      · refine ⟨S, hS, ?_, isC_self (f4 q)⟩
        rw [m_X7_partOf_L12, if_pos (by rw [q])]
      · obtain ⟨R, h1, h2, h3⟩ := ih n _ (by omega) f1 (by have := pc_grow f1 f2 q; omega)
        refine ⟨R, h1, ?_, isC_step hF hS h3⟩
        rw [m_X7_partOf_L12, if_neg (fun g => q ((nI_eq (by omega) (by omega)).mp g)), m_reach hN hw hs f1 hA, r_bind]
        exact h2
  have hS : 2 ^ k < 2 ^ 14 := p2lt hk
  obtain ⟨R, h1, h2, h3⟩ := key 14 N (2 ^ k) (by omega) hS (by omega)
  refine ⟨R, h1, ?_, h3⟩
  unfold m_X7_partOf
  simp only [nm]
  rw [sh1 (by omega), m_reach hN hw hs hS hA, r_bind]
  exact h2
end
-- 47.circle.lean.txt
section
/-! pure: shortest circles, bridges, parts, chains: both classes answer alike -/
theorem x_allThreads {N T : Nat} (hT : T ≤ 21) : m_X2_allThreads N (nI T) = some (nI (2 ^ T - 1)) := by
  unfold m_X2_allThreads
  have p := Nat.two_pow_pos T
  rw [m_bit (by omega), r_bind, show (1 : Int32) = nI 1 from rfl, pk_sub (by omega)]
theorem x_allKnots {N K : Nat} (hK : K ≤ 14) : m_X2_allKnots N (nI K) = some (nI (2 ^ K - 1)) := by
  unfold m_X2_allKnots
  have p := Nat.two_pow_pos K
  rw [m_bit (by omega), r_bind, show (1 : Int32) = nI 1 from rfl, pk_sub (by omega)]
theorem tb_all (n i : Nat) : (2 ^ n - 1).testBit i = decide (i < n) := Nat.testBit_two_pow_sub_one n i
theorem sp_cong {T : Nat} {lo hi : Nat → Nat} {A B : Nat → Bool} {S : Nat} (h : ∀ t, t < T → A t = B t) : sp T lo hi A S = sp T lo hi B S := by
  unfold sp
  congr 1
  have : ∀ n, n ≤ T → oa (fun t => if A t && (em lo hi t &&& S != 0) then em lo hi t else 0) n = oa (fun t => if B t && (em lo hi t &&& S != 0) then em lo hi t else 0) n := by
    intro n
    induction n with
    | zero => intro _; rfl
    | succ n ih => intro hn; rw [oa, oa, ih (by omega), h n (by omega)]
  exact this T (Nat.le_refl T)
/-- the threads but one -/
def but (t : Nat) : Nat → Bool := fun i => !(i == t)
/-- both ways round a thread: the answers of the two classes, c = 0 where there is no circle -/
theorem both_round {N K T t : Nat} {lo hi co : Nat → Nat} {e s : Nat → Int32} (hN : 1000 ≤ N) (hw : wt T lo hi co) (he : XE T lo hi e) (hs : MN K T lo hi co s) (ht : t < T) : ∃ c, c ≤ 14 ∧ m_X5_circleThrough N (nI T) e (nI t) = some (nI c) ∧ m_X7_round N s (nI t) = some (if c = 0 then -5 else nI c) := by
  have hT := hw.1
  have hF := sp_good hw (but t)
  obtain ⟨h1, h2, h3⟩ := hw.2 t ht
  have hA : ∀ i, i < T → (but t i = false ↔ nI i = nI t) := by
    intro i hi'
    rw [nI_eq (by omega) (by omega)]
    unfold but
    simp
  have hB : ad (2 ^ T - 1) (2 ^ t) < 2 ^ 21 := ad_lt (by have := Nat.two_pow_pos T; have := p2le (a := T) (b := 21) (by omega); omega)
  have hBA : ∀ i, i < T → (ad (2 ^ T - 1) (2 ^ t)).testBit i = but t i := by
    intro i hi'
    rw [tb_ad, tb_all, Nat.testBit_two_pow]
    unfold but
    rw [decide_eq_true hi', Bool.true_and]
    congr 1
    rw [Bool.eq_iff_iff]
    simp
    exact eq_comm
  have xs : ∀ S, S < 2 ^ 14 → m_X5_spread N (nI T) e (nI S) (nI (ad (2 ^ T - 1) (2 ^ t))) = some (nI (sp T lo hi (but t) S)) := fun S hS => by
    rw [x_spread hN hw he hS (by omega), sp_cong hBA]
  have ms : ∀ S, S < 2 ^ 14 → m_X7_reach N s (nI S) (nI t) = some (nI (sp T lo hi (but t) S)) := fun S hS => m_reach hN hw hs hS hA
  have gl : ∀ S, S < 2 ^ 14 → ((nI S &&& nI (2 ^ hi t)) = 0 ↔ S.testBit (hi t) = false) := by
    intro S hS
    rw [nand, nI_eq0 (Nat.lt_of_le_of_lt Nat.and_le_left (by omega)), and_p2]
  -- a set that grows no more
  have stuck : ∀ (d n j S : Nat), j + d = 14 → d < n → S < 2 ^ 14 → S.testBit (hi t) = false → sp T lo hi (but t) S = S → m_X5_circleThrough_L34 N (nI T) e (nI (ad (2 ^ T - 1) (2 ^ t))) (nI (2 ^ hi t)) n (nI j) (nI S) = some 0 := by
    intro d
    induction d with
    | zero =>
      intro n j S hj hn hS hg hq
      obtain ⟨n, rfl⟩ : ∃ m, n = m + 1 := ⟨n - 1, by omega⟩
      rw [m_X5_circleThrough_L34, if_pos (show (14 : Int32) ≤ nI j from nI_le (a := 14) (by omega) (by omega))]
    | succ d ih =>
      intro n j S hj hn hS hg hq
      obtain ⟨n, rfl⟩ : ∃ m, n = m + 1 := ⟨n - 1, by omega⟩
      rw [m_X5_circleThrough_L34, if_neg (show ¬ (14 : Int32) ≤ nI j from nI_ge (b := 14) (by omega) (by omega)), xs S hS, r_bind, hq, if_pos ((gl S hS).mpr hg), nI_1]
      exact ih n (j + 1) S (by omega) (by omega) hS hg hq
  have key : ∀ (d n n2 j S : Nat), 1 ≤ j → j + d = 14 → d < n → d < n2 → S < 2 ^ 14 → 14 ≤ pc 14 S + d → S.testBit (hi t) = false → ∃ c, c ≤ 14 ∧ m_X5_circleThrough_L34 N (nI T) e (nI (ad (2 ^ T - 1) (2 ^ t))) (nI (2 ^ hi t)) n (nI j) (nI S) = some (nI c) ∧ m_X7_round_L11 N s (nI t) n2 (nI j) (nI S) = some (if c = 0 then -5 else nI c) := by
    intro d
    induction d with
    | zero =>
      intro n n2 j S hj1 hj hn hn2 hS hp hg
      have := ct_all (p := fun i => S.testBit i) (n := 14) hp (hi t) h2
      rw [hg] at this
      cases this
    | succ d ih =>
      intro n n2 j S hj1 hj hn hn2 hS hp hg
      obtain ⟨n, rfl⟩ : ∃ m, n = m + 1 := ⟨n - 1, by omega⟩
      obtain ⟨n2, rfl⟩ : ∃ m, n2 = m + 1 := ⟨n2 - 1, by omega⟩
      obtain ⟨f1, f2, f3, f4⟩ := hF S hS
      have stepM : m_X7_round_L11 N s (nI t) (n2 + 1) (nI j) (nI S) = if nI (sp T lo hi (but t) S) = nI S then some (-5) else m_X7_round_L11 N s (nI t) n2 (nI (j + 1)) (nI (sp T lo hi (but t) S)) := by
        rw [m_X7_round_L11, m_of1 hT hs ht, r_bind, m_has (by omega) (by omega), r_bind, sel, hg, ms S hS, r_bind, nI_1]
        rfl
      rw [stepM]
      by_cases q : sp T lo hi (but t) S = S
      · rw [if_pos (by rw [q])]
        exact ⟨0, by omega, stuck (d + 1) (n + 1) j S hj (by omega) hS hg q, rfl⟩
      · rw [if_neg (fun g => q ((nI_eq (by omega) (by omega)).mp g))]
        rw [m_X5_circleThrough_L34, if_neg (show ¬ (14 : Int32) ≤ nI j from nI_ge (b := 14) (by omega) (by omega)), xs S hS, r_bind, nI_1]
        cases g2 : (sp T lo hi (but t) S).testBit (hi t) with
        | false =>
          rw [if_pos ((gl _ f1).mpr g2)]
          exact ih n n2 (j + 1) _ (by omega) (by omega) (by omega) (by omega) f1 (by have := pc_grow f1 f2 q; omega) g2
        | true =>
          rw [if_neg (fun g => by rw [(gl _ f1).mp g] at g2; cases g2)]
          refine ⟨j + 1, by omega, rfl, ?_⟩
          obtain ⟨n2, rfl⟩ : ∃ m, n2 = m + 1 := ⟨n2 - 1, by omega⟩
          rw [m_X7_round_L11, m_of1 hT hs ht, r_bind, m_has (by omega) (by omega), r_bind, sel, g2, if_pos rfl, if_neg (by omega)]
  have hS0 : 2 ^ lo t < 2 ^ 14 := p2lt (by omega)
  have hp0 : 1 ≤ pc 14 (2 ^ lo t) := by
    have : 0 < pc 14 (2 ^ lo t) := ct_pos.mpr ⟨lo t, by omega, by rw [Nat.testBit_two_pow]; simp⟩
    omega
  obtain ⟨c, c1, c2, c3⟩ := key 13 N N 1 (2 ^ lo t) (by omega) (by omega) (by omega) (by omega) hS0 (by omega) (by rw [Nat.testBit_two_pow]; simp; omega)
  refine ⟨c, c1, ?_, ?_⟩
  · unfold m_X5_circleThrough
    simp only [nm]
    rw [x_allThreads hT, r_bind, m_bit (by omega), r_bind, nandn, x_greater hw he ht, r_bind, m_bit (by omega), r_bind, x_lesser hw he ht, r_bind, m_bit (by omega), r_bind]
    exact c2
  · unfold m_X7_round
    simp only [nm]
    rw [m_of0 hT hs ht, r_bind, sh1 (by omega)]
    exact c3
/-- the length of the shortest circle through a thread, 0 without one -/
theorem rounds {N K T : Nat} {lo hi co : Nat → Nat} {e s : Nat → Int32} (hN : 1000 ≤ N) (hw : wt T lo hi co) (he : XE T lo hi e) (hs : MN K T lo hi co s) : ∃ cf : Nat → Nat, ∀ t, t < T → cf t ≤ 14 ∧ m_X5_circleThrough N (nI T) e (nI t) = some (nI (cf t)) ∧ m_X7_round N s (nI t) = some (if cf t = 0 then -5 else nI (cf t)) := by
  refine ⟨fun t => if h : t < T then Classical.choose (both_round hN hw he hs h) else 0, fun t ht => ?_⟩
  simp only [dif_pos ht]
  exact Classical.choose_spec (both_round hN hw he hs ht)
/-- the least so far -/
def least (B : Nat) (cf : Nat → Nat) : Nat → Nat
  | 0 => 0
  | i + 1 => if B.testBit i && (cf i != 0) then (if least B cf i = 0 then cf i else if least B cf i ≤ cf i then least B cf i else cf i) else least B cf i
theorem neg5 : (-5 : Int32) < 0 := by decide
theorem both_shortest {N K T B : Nat} {lo hi co : Nat → Nat} {e s : Nat → Int32} (hN : 1000 ≤ N) (hw : wt T lo hi co) (he : XE T lo hi e) (hs : MN K T lo hi co s) (hB : B < 2 ^ 31) : ∃ c, c ≤ 14 ∧ m_X5_shortestCircle N (nI T) e (nI B) = some (nI c) ∧ m_X7_shortest N s (nI B) = some (if c = 0 then -5 else nI c) := by
  have hT := hw.1
  obtain ⟨cf, hc⟩ := rounds hN hw he hs
  have l : ∀ i, i ≤ T → least B cf i ≤ 14 := by
    intro i
    induction i with
    | zero => intro _; exact Nat.zero_le _
    | succ i ih =>
      intro hi'
      have a := ih (by omega)
      have b := (hc i (by omega)).1
      rw [least]
      split
      · split
        · exact b
        · split <;> omega
      · exact a
  refine ⟨least B cf T, l T (Nat.le_refl T), ?_, ?_⟩
  · unfold m_X5_shortestCircle
    refine for_up (fun n i (acc : Nat) => m_X5_shortestCircle_L4 N (nI T) e (nI B) n (nI i) (nI acc)) T (fun i => least B cf i) _ ?_ ?_ T N 0 (by omega) (by omega)
    · intro n
      show m_X5_shortestCircle_L4 N (nI T) e (nI B) (n + 1) (nI T) _ = _
      rw [m_X5_shortestCircle_L4, m_X2_threads, r_bind, if_pos (nI_le (Nat.le_refl _) (by omega))]
    · intro n i hj
      show m_X5_shortestCircle_L4 N (nI T) e (nI B) (n + 1) (nI i) _ = m_X5_shortestCircle_L4 N (nI T) e (nI B) n (nI (i + 1)) _
      obtain ⟨c1, c2, -⟩ := hc i hj
      have a := l i (by omega)
      rw [m_X5_shortestCircle_L4, m_X2_threads, r_bind, if_neg (nI_ge hj (by omega)), m_holds hB (by omega), r_bind, sel, c2, r_bind, nI_1, least]
      cases q : B.testBit i with
      | false => simp
      | true =>
        rw [if_pos rfl]
        by_cases z : cf i = 0
        · rw [if_pos ((nI_eq0 (by omega)).mpr z)]; simp [z]
        · rw [if_neg (fun g => z ((nI_eq0 (by omega)).mp g))]
          have bz : (cf i != 0) = true := by simp [z]
          rw [bz, Bool.and_self, if_pos rfl]
          by_cases z2 : least B cf i = 0
          · rw [if_pos ((nI_eq0 (by omega)).mpr z2), if_pos z2]
          · rw [if_neg (fun g => z2 ((nI_eq0 (by omega)).mp g)), if_neg z2]
            by_cases z3 : least B cf i ≤ cf i
            · rw [if_pos (nI_le z3 (by omega)), if_pos z3]
            · rw [if_neg (nI_ge (by omega) (by omega)), if_neg z3]
  · unfold m_X7_shortest
    refine for_up (fun n i (acc : Nat) => m_X7_shortest_L5 N s (nI B) n (nI i) (if acc = 0 then -5 else nI acc)) T (fun i => least B cf i) _ ?_ ?_ T N 0 (by omega) (by omega)
    · intro n
      show m_X7_shortest_L5 N s (nI B) (n + 1) (nI T) _ = _
      rw [m_X7_shortest_L5, r_1 (by decide), hs.2.1, if_pos (nI_le (Nat.le_refl _) (by omega))]
    · intro n i hj
      show m_X7_shortest_L5 N s (nI B) (n + 1) (nI i) _ = m_X7_shortest_L5 N s (nI B) n (nI (i + 1)) _
      obtain ⟨c1, -, c2⟩ := hc i hj
      have a := l i (by omega)
      rw [m_X7_shortest_L5, r_1 (by decide), hs.2.1, if_neg (nI_ge hj (by omega)), m_has hB (by omega), r_bind, least]
      simp only [jn]
      rw [c2, r_bind, sel, nI_1]
      have n5 : (-5 : Int32) ≤ 0 := by decide
      cases q : B.testBit i with
      | false =>
        rw [if_neg (by decide), if_pos n5]
        simp
      | true =>
        rw [if_pos rfl]
        by_cases z : cf i = 0
        · rw [if_pos z, if_pos n5]; simp [z]
        · have bz : (cf i != 0) = true := by simp [z]
          rw [if_neg z, if_neg (show ¬ nI (cf i) ≤ 0 from nI_nle (by omega) (by omega)), bz, Bool.and_self, if_pos rfl]
          by_cases z2 : least B cf i = 0
          · rw [if_pos z2, if_pos neg5, if_pos z2, if_neg z]
          · rw [if_neg z2, if_neg (nI_pos (by omega)), if_neg z2]
            by_cases z3 : least B cf i ≤ cf i
            · rw [if_pos (nI_le z3 (by omega)), if_pos z3, if_neg z2]
            · rw [if_neg (nI_ge (by omega) (by omega)), if_neg z3, if_neg z]
theorem both_bridges {N K T : Nat} {lo hi co : Nat → Nat} {e s : Nat → Int32} (hN : 1000 ≤ N) (hw : wt T lo hi co) (he : XE T lo hi e) (hs : MN K T lo hi co s) : ∃ r, m_X5_bridges N (nI T) e = some r ∧ m_X7_bridges N s = some r := by
  have hT := hw.1
  obtain ⟨cf, hc⟩ := rounds hN hw he hs
  refine ⟨nI (ct (fun t => cf t == 0) T), ?_, ?_⟩
  · unfold m_X5_bridges
    refine for_up (fun n i (acc : Nat) => m_X5_bridges_L4 N (nI T) e n (nI i) (nI acc)) T (fun i => ct (fun t => cf t == 0) i) _ ?_ ?_ T N 0 (by omega) (by omega)
    · intro n
      show m_X5_bridges_L4 N (nI T) e (n + 1) (nI T) _ = _
      rw [m_X5_bridges_L4, m_X2_threads, r_bind, if_pos (nI_le (Nat.le_refl _) (by omega))]
    · intro n i hj
      show m_X5_bridges_L4 N (nI T) e (n + 1) (nI i) _ = m_X5_bridges_L4 N (nI T) e n (nI (i + 1)) _
      obtain ⟨c1, c2, -⟩ := hc i hj
      rw [m_X5_bridges_L4, m_X2_threads, r_bind, if_neg (nI_ge hj (by omega)), c2, r_bind, nI_1, nI_1, ct]
      by_cases z : cf i = 0
      · rw [if_pos ((nI_eq0 (by omega)).mpr z), if_pos (by simp [z])]
      · rw [if_neg (fun g => z ((nI_eq0 (by omega)).mp g)), if_neg (by simp [z])]; rfl
  · unfold m_X7_bridges
    refine for_up (fun n i (acc : Nat) => m_X7_bridges_L4 N s n (nI i) (nI acc)) T (fun i => ct (fun t => cf t == 0) i) _ ?_ ?_ T N 0 (by omega) (by omega)
    · intro n
      show m_X7_bridges_L4 N s (n + 1) (nI T) _ = _
      rw [m_X7_bridges_L4, r_1 (by decide), hs.2.1, if_pos (nI_le (Nat.le_refl _) (by omega))]
    · intro n i hj
      show m_X7_bridges_L4 N s (n + 1) (nI i) _ = m_X7_bridges_L4 N s n (nI (i + 1)) _
      obtain ⟨c1, -, c2⟩ := hc i hj
      rw [m_X7_bridges_L4, r_1 (by decide), hs.2.1, if_neg (nI_ge hj (by omega)), c2, r_bind, ct]
      simp only [nm]
      rw [nI_1, nI_1]
      by_cases z : cf i = 0
      · rw [if_pos z, if_pos rfl, if_pos (by simp [z])]
      · have ne : ¬ nI (cf i) = -5 := fun g => by
          have := congrArg Int32.toInt g
          rw [nI_toInt (by omega), show (-5 : Int32).toInt = -5 from by decide] at this
          omega
        rw [if_neg z, if_neg ne, if_neg (by simp [z])]
        show m_X7_bridges_L4 N s n (nI (i + 1)) (nI _ + nI 0) = _
        rw [nI_add]
end
-- 48.parts.lean.txt
section
/-! pure: parts and chains: both classes answer alike -/
theorem clos_cong {T : Nat} {lo hi : Nat → Nat} {A B : Nat → Bool} (h : ∀ t, t < T → A t = B t) : clos T lo hi A = clos T lo hi B := by
  funext R
  unfold clos
  exact propext ⟨fun g t ht hb => g t ht (by rw [h t ht]; exact hb), fun g t ht hb => g t ht (by rw [← h t ht]; exact hb)⟩
/-- the closed sets to begin with each knot: by both classes -/
theorem both_part {N K T k : Nat} {lo hi co : Nat → Nat} {e s : Nat → Int32} (hN : 1000 ≤ N) (hw : wt T lo hi co) (he : XE T lo hi e) (hs : MN K T lo hi co s) (hk : k < 14) : ∃ R, R < 2 ^ 14 ∧ m_X5_reached N (nI T) e (nI (2 ^ k)) (nI (2 ^ T - 1)) = some (nI R) ∧ m_X7_partOf N s (nI k) = some (nI R) ∧ isC (clos T lo hi (fun _ => true)) (2 ^ k) R := by
  have hT := hw.1
  have p := Nat.two_pow_pos T
  have p2 := p2le (a := T) (b := 21) (by omega)
  obtain ⟨R, h1, h2, h3⟩ := m_partOf hN hw hs hk
  obtain ⟨R', g1, g2, g3⟩ := x_reached (B := 2 ^ T - 1) hN hw he (p2lt hk) (by omega)
  rw [clos_cong (B := fun _ => true) (fun t ht => by rw [tb_all]; exact decide_eq_true ht)] at g3
  rw [isC_one g3 h3] at g2
  exact ⟨R, h1, g2, h2, h3⟩
/-- the union of what is closed to begin with the numbers below i -/
def un (P : Nat → Nat) : Nat → Nat := oa P
theorem un_cl {T : Nat} {lo hi : Nat → Nat} {A : Nat → Bool} {P : Nat → Nat} : ∀ {n : Nat}, (∀ k, k < n → clos T lo hi A (P k)) → clos T lo hi A (oa P n)
  | 0, _ => fun t _ _ => by simp [oa]
  | n + 1, h => fun t ht ha => by
    rw [oa, Nat.testBit_or, Nat.testBit_or, un_cl (n := n) (fun k hk => h k (by omega)) t ht ha, h n (by omega) t ht ha]
theorem or_sub {a b : Nat} (h : subs b a) : a ||| b = a := subs_eq (fun i q => by rw [Nat.testBit_or, Bool.or_eq_true] at q; exact q.elim id (h i)) (fun i q => by rw [Nat.testBit_or, q]; rfl)
theorem ad_ad (a b c : Nat) : ad (ad a b) c = ad a (b ||| c) := by
  apply Nat.eq_of_testBit_eq
  intro i
  rw [tb_ad, tb_ad, tb_ad, Nat.testBit_or]
  cases a.testBit i <;> cases b.testBit i <;> cases c.testBit i <;> rfl
theorem both_parts {N K T : Nat} {lo hi co : Nat → Nat} {e s : Nat → Int32} (hN : 1000 ≤ N) (hw : wt T lo hi co) (he : XE T lo hi e) (hs : MN K T lo hi co s) (hK : K ≤ 14) : ∃ r, m_X5_parts N (nI K) (nI T) e = some r ∧ m_X7_parts N s = some r := by
  have hT := hw.1
  have pK := Nat.two_pow_pos K
  have pK2 := p2le (a := K) (b := 14) hK
  obtain ⟨P, hP⟩ : ∃ P : Nat → Nat, ∀ k, k < K → P k < 2 ^ 14 ∧ m_X5_reached N (nI T) e (nI (2 ^ k)) (nI (2 ^ T - 1)) = some (nI (P k)) ∧ m_X7_partOf N s (nI k) = some (nI (P k)) ∧ isC (clos T lo hi (fun _ => true)) (2 ^ k) (P k) := by
    refine ⟨fun k => if h : k < K then Classical.choose (both_part hN hw he hs (show k < 14 by omega)) else 0, fun k hk => ?_⟩
    simp only [dif_pos hk]
    exact Classical.choose_spec (both_part hN hw he hs (show k < 14 by omega))
  have ul : ∀ i, i ≤ K → oa P i < 2 ^ 14 := fun i hi' => oa_lt (fun j hj => (hP j (by omega)).1)
  have uc : ∀ i, i ≤ K → clos T lo hi (fun _ => true) (oa P i) := fun i hi' => un_cl (fun j hj => (hP j (by omega)).2.2.2.2.1)
  refine ⟨nI (ct (fun k => !(oa P k).testBit k) K), ?_, ?_⟩
  · unfold m_X5_parts
    rw [x_allKnots hK, r_bind]
    have e0 : ad (2 ^ K - 1) (oa P 0) = 2 ^ K - 1 := by
      apply Nat.eq_of_testBit_eq
      intro i
      rw [tb_ad, oa, Nat.zero_testBit]
      simp
    refine Eq.trans (b := m_X5_parts_L9 N (nI K) (nI T) e N (nI 0) (nI 0) (nI (ad (2 ^ K - 1) (oa P 0)))) (by rw [e0]; rfl) ?_
    refine for_up (fun n i (acc : Nat × Nat) => m_X5_parts_L9 N (nI K) (nI T) e n (nI i) (nI acc.1) (nI acc.2)) K (fun i => (ct (fun k => !(oa P k).testBit k) i, ad (2 ^ K - 1) (oa P i))) _ ?_ ?_ K N 0 (by omega) (by omega)
    · intro n
      show m_X5_parts_L9 N (nI K) (nI T) e (n + 1) (nI K) _ _ = _
      rw [m_X5_parts_L9, m_X2_knots, r_bind, if_pos (nI_le (Nat.le_refl _) (by omega))]
    · intro n i hj
      show m_X5_parts_L9 N (nI K) (nI T) e (n + 1) (nI i) (nI (ct (fun k => !(oa P k).testBit k) i)) (nI (ad (2 ^ K - 1) (oa P i))) = m_X5_parts_L9 N (nI K) (nI T) e n (nI (i + 1)) (nI (ct (fun k => !(oa P k).testBit k) (i + 1))) (nI (ad (2 ^ K - 1) (oa P (i + 1))))
      obtain ⟨h1, h2, h3, h4⟩ := hP i hj
      have la : ad (2 ^ K - 1) (oa P i) < 2 ^ 31 := by have : ad (2 ^ K - 1) (oa P i) < 2 ^ 14 := ad_lt (by omega); omega
      rw [m_X5_parts_L9, m_X2_knots, r_bind, if_neg (nI_ge hj (by omega)), m_holds la (by omega), r_bind, sel, tb_ad, tb_all, decide_eq_true hj, Bool.true_and, ct, oa]
      simp only [nm]
      rw [m_bit (by omega), r_bind, x_allThreads hT, r_bind, h2, r_bind, nandn, ad_ad, nI_1, nI_1]
      cases q : (oa P i).testBit i with
      | false => rfl
      | true =>
        have : subs (P i) (oa P i) := h4.2.2 _ (fun j hj' => by rw [Nat.testBit_two_pow] at hj'; rw [← of_decide_eq_true hj']; exact q) (uc i (by omega))
        rw [or_sub this]
        rfl
  · unfold m_X7_parts
    refine for_up (fun n i (acc : Nat × Nat) => m_X7_parts_L6 N s n (nI i) (nI acc.2) (nI acc.1)) K (fun i => (ct (fun k => !(oa P k).testBit k) i, oa P i)) _ ?_ ?_ K N 0 (by omega) (by omega)
    · intro n
      show m_X7_parts_L6 N s (n + 1) (nI K) _ _ = _
      rw [m_X7_parts_L6, r_0 (by decide), hs.1, if_pos (nI_le (Nat.le_refl _) (by omega))]
    · intro n i hj
      show m_X7_parts_L6 N s (n + 1) (nI i) (nI (oa P i)) (nI (ct (fun k => !(oa P k).testBit k) i)) = m_X7_parts_L6 N s n (nI (i + 1)) (nI (oa P (i + 1))) (nI (ct (fun k => !(oa P k).testBit k) (i + 1)))
      obtain ⟨h1, h2, h3, h4⟩ := hP i hj
      have := ul i (by omega)
      rw [m_X7_parts_L6, r_0 (by decide), hs.1, if_neg (nI_ge hj (by omega)), m_has (by omega) (by omega), r_bind, ct, oa]
      simp only [jn, nm]
      rw [sel, h3, nI_1]
      simp only [r_bind]
      rw [nor]
      cases q : (oa P i).testBit i with
      | false => rw [if_neg (by decide), nI_1]; rfl
      | true =>
        rw [if_pos rfl]
        show m_X7_parts_L6 N s n (nI (i + 1)) _ (nI _ + nI 0) = _
        rw [nI_add]
        rfl
-- chains
def tch (lo hi : Nat → Nat) (t u : Nat) : Bool := isat lo hi t (lo u) || isat lo hi t (hi u)
theorem tch_iff {lo hi : Nat → Nat} {t u : Nat} : tch lo hi t u = true ↔ ∃ k, isat lo hi t k = true ∧ isat lo hi u k = true := by
  unfold tch
  rw [Bool.or_eq_true]
  constructor
  · rintro (h | h)
    · exact ⟨_, h, by unfold isat; simp⟩
    · exact ⟨_, h, by unfold isat; simp⟩
  · rintro ⟨k, h1, h2⟩
    unfold isat at h2
    simp at h2
    rcases h2 with rfl | rfl
    · exact Or.inl h1
    · exact Or.inr h1
def clT (T : Nat) (lo hi : Nat → Nat) (A : Nat → Bool) (C : Nat) : Prop := ∀ t u, t < T → u < T → A t = true → C.testBit u = true → tch lo hi t u = true → C.testBit t = true
def tany (T : Nat) (lo hi : Nat → Nat) (t S : Nat) : Bool := an (fun u => S.testBit u && tch lo hi u t) T
/-- one round of a chain: thread by thread -/
def cst (T : Nat) (lo hi : Nat → Nat) (A : Nat → Bool) (S : Nat) : Nat → Nat
  | 0 => S
  | i + 1 => cst T lo hi A S i ||| (if A i && tany T lo hi i (cst T lo hi A S i) then 2 ^ i else 0)
theorem tch_comm {lo hi : Nat → Nat} {t u : Nat} : tch lo hi t u = tch lo hi u t := by
  rw [Bool.eq_iff_iff, tch_iff, tch_iff]
  exact ⟨fun ⟨k, a, b⟩ => ⟨k, b, a⟩, fun ⟨k, a, b⟩ => ⟨k, b, a⟩⟩
theorem cst_sub {T : Nat} {lo hi : Nat → Nat} {A : Nat → Bool} {S : Nat} : ∀ {i j : Nat}, i ≤ j → subs (cst T lo hi A S i) (cst T lo hi A S j)
  | i, 0, h => by rw [show i = 0 by omega]; exact fun _ q => q
  | i, j + 1, h => by
    rcases Nat.lt_or_ge i (j + 1) with g | g
    · refine subs_tr (cst_sub (j := j) (by omega)) (fun k q => ?_)
      rw [cst, Nat.testBit_or, q]; rfl
    · rw [show i = j + 1 by omega]; exact fun _ q => q
theorem cst_lt {T : Nat} {lo hi : Nat → Nat} {A : Nat → Bool} {S : Nat} (hT : T ≤ 21) (hS : S < 2 ^ 21) : ∀ {i : Nat}, i ≤ T → cst T lo hi A S i < 2 ^ 21
  | 0, _ => hS
  | i + 1, h => by
    rw [cst]
    refine or_lt (cst_lt hT hS (by omega)) ?_
    split
    · exact p2lt (by omega)
    · exact Nat.two_pow_pos _
theorem cst_good {T : Nat} {lo hi : Nat → Nat} (hT : T ≤ 21) (A : Nat → Bool) : goodF 21 (clT T lo hi A) (fun S => cst T lo hi A S T) := by
  intro S hS
  refine ⟨cst_lt hT hS (Nat.le_refl T), cst_sub (i := 0) (Nat.zero_le T), ?_, ?_⟩
  · intro R' h1 h2
    have : ∀ i, i ≤ T → subs (cst T lo hi A S i) R' := by
      intro i
      induction i with
      | zero => intro _; exact h1
      | succ i ih =>
        intro hi' k q
        rw [cst, Nat.testBit_or, Bool.or_eq_true] at q
        rcases q with q | q
        · exact ih (by omega) k q
        · cases g : A i && tany T lo hi i (cst T lo hi A S i) with
          | false => rw [g] at q; simp at q
          | true =>
            rw [g] at q
            simp only [if_true] at q
            rw [Nat.testBit_two_pow] at q
            rw [← of_decide_eq_true q]
            rw [Bool.and_eq_true] at g
            obtain ⟨u, hu, g2⟩ := (an_iff _ _).mp g.2
            rw [Bool.and_eq_true] at g2
            exact h2 i u (by omega) hu g.1 (ih (by omega) u g2.1) (by rw [tch_comm]; exact g2.2)
    exact this T (Nat.le_refl T)
  · intro e t u ht hu hA hC htc
    have e : cst T lo hi A S T = S := e
    have eq : cst T lo hi A S t = S := subs_eq (by have := cst_sub (A := A) (S := S) (lo := lo) (hi := hi) (T := T) (i := t) (j := T) (by omega); rw [e] at this; exact this) (cst_sub (i := 0) (Nat.zero_le t))
    rw [← e]
    refine cst_sub (i := t + 1) (by omega) t ?_
    rw [cst, eq, Nat.testBit_or]
    have : tany T lo hi t S = true := (an_iff _ _).mpr ⟨u, hu, by rw [hC, tch_comm, htc]; rfl⟩
    rw [hA, this]
    simp
theorem m_touch {N K T t u : Nat} {lo hi co : Nat → Nat} {s : Nat → Int32} (hw : wt T lo hi co) (hs : MN K T lo hi co s) (h : t < T) (hu : u < T) : m_X7_touch N s (nI t) (nI u) = some (if tch lo hi t u then 1 else 0) := by
  have hT := hw.1
  obtain ⟨h1, h2, -⟩ := hw.2 u hu
  unfold m_X7_touch tch
  rw [m_of0 hT hs hu, r_bind, m_isAt hw hs h (by omega), r_bind, sel, m_of1 hT hs hu, r_bind, m_isAt hw hs h (by omega), r_bind, sel]
  cases isat lo hi t (lo u) <;> cases isat lo hi t (hi u) <;> rfl
theorem m_touchesAny {N K T t S : Nat} {lo hi co : Nat → Nat} {s : Nat → Int32} (hN : 1000 ≤ N) (hw : wt T lo hi co) (hs : MN K T lo hi co s) (h : t < T) (hS : S < 2 ^ 31) : m_X7_touchesAny N s (nI t) (nI S) = some (if tany T lo hi t S then 1 else 0) := by
  have hT := hw.1
  unfold m_X7_touchesAny tany
  refine for_up (fun n i (acc : Bool) => m_X7_touchesAny_L5 N s (nI t) (nI S) n (nI i) (if acc then 1 else 0)) T (fun i => an (fun u => S.testBit u && tch lo hi u t) i) _ ?_ ?_ T N 0 (by omega) (by omega)
  · intro n
    show m_X7_touchesAny_L5 N s (nI t) (nI S) (n + 1) (nI T) (if an (fun u => S.testBit u && tch lo hi u t) T then 1 else 0) = _
    rw [m_X7_touchesAny_L5, r_1 (by decide), hs.2.1, if_pos (nI_le (Nat.le_refl _) (by omega)), zb01]
  · intro n i hj
    show m_X7_touchesAny_L5 N s (nI t) (nI S) (n + 1) (nI i) (if an (fun u => S.testBit u && tch lo hi u t) i then 1 else 0) = m_X7_touchesAny_L5 N s (nI t) (nI S) n (nI (i + 1)) (if an (fun u => S.testBit u && tch lo hi u t) (i + 1) then 1 else 0)
    rw [m_X7_touchesAny_L5, r_1 (by decide), hs.2.1, if_neg (nI_ge hj (by omega)), sel, m_has hS (by omega), r_bind, sel, m_touch hw hs hj h, r_bind, sel, nI_1, an]
    cases an (fun u => S.testBit u && tch lo hi u t) i <;> cases S.testBit i <;> cases tch lo hi i t <;> rfl
end
-- 49.chain.lean.txt
section
/-! pure: chains of two colours -/
def two (co : Nat → Nat) (a b : Nat) : Nat → Bool := fun t => co t == a || co t == b
theorem bs_or (p q : Nat → Bool) (n : Nat) : bs p n ||| bs q n = bs (fun i => p i || q i) n := by
  apply Nat.eq_of_testBit_eq
  intro i
  rw [Nat.testBit_or, tb_bs, tb_bs, tb_bs]
  cases decide (i < n) <;> rfl
theorem bs_lt21 (p : Nat → Bool) {T : Nat} (hT : T ≤ 21) : bs p T < 2 ^ 21 := Nat.lt_of_lt_of_le (bs_lt p T) (p2le hT)
theorem m_chainOf {N K T t b : Nat} {lo hi co : Nat → Nat} {s : Nat → Int32} (hN : 1000 ≤ N) (hw : wt T lo hi co) (hs : MN K T lo hi co s) (ht : t < T) (hb : b < 4) : ∃ C, C < 2 ^ 21 ∧ m_X7_chainOf N s (nI t) (nI b) = some (nI C) ∧ isC (clT T lo hi (two co (co t) b)) (2 ^ t) C := by
  have hT := hw.1
  have hF := cst_good (lo := lo) (hi := hi) hT (two co (co t) b)
  have ht3 := (hw.2 t ht).2.2
  have inner : ∀ (kx : Int32 → Option Int32) (S : Nat), S < 2 ^ 21 → m_X7_chainOf_L29 N s (nI b) (nI (co t)) kx N 0 (nI S) = kx (nI (cst T lo hi (two co (co t) b) S T)) := by
    intro kx S hS
    refine for_up (fun n i (acc : Nat) => m_X7_chainOf_L29 N s (nI b) (nI (co t)) kx n (nI i) (nI acc)) T (fun i => cst T lo hi (two co (co t) b) S i) _ ?_ ?_ T N 0 (by omega) (by omega)
    · intro n
      show m_X7_chainOf_L29 N s (nI b) (nI (co t)) kx (n + 1) (nI T) _ = _
      rw [m_X7_chainOf_L29, r_1 (by decide), hs.2.1, if_pos (nI_le (Nat.le_refl _) (by omega))]
    · intro n i hj
      show m_X7_chainOf_L29 N s (nI b) (nI (co t)) kx (n + 1) (nI i) (nI (cst T lo hi (two co (co t) b) S i)) = m_X7_chainOf_L29 N s (nI b) (nI (co t)) kx n (nI (i + 1)) (nI (cst T lo hi (two co (co t) b) S (i + 1)))
      obtain ⟨h1, h2, h3⟩ := hw.2 i hj
      have l := cst_lt (A := two co (co t) b) (lo := lo) (hi := hi) hT hS (show i ≤ T by omega)
      have lb := Nat.lt_of_lt_of_le l (show 2 ^ 21 ≤ 2 ^ 31 by decide)
      rw [m_X7_chainOf_L29, r_1 (by decide), hs.2.1, if_neg (nI_ge hj (by omega)), m_of2 hT hs hj, r_bind, cst]
      simp only [jn, nm]
      rw [m_touchesAny hN hw hs hj lb, nI_1, sh1 (by omega), or_zero, nor]
      simp only [r_bind]
      rw [sel]
      have e1 : (nI (co i) = nI (co t)) ↔ co i = co t := nI_eq (by omega) (by omega)
      have e2 : (nI (co i) = nI b) ↔ co i = b := nI_eq (by omega) (by omega)
      unfold two
      by_cases q1 : co i = co t
      · rw [if_neg (show ¬ (1 : Int32) = 0 by decide), if_pos (e1.mpr q1)]
        cases tany T lo hi i (cst T lo hi (fun t_1 => co t_1 == co t || co t_1 == b) S i) <;> simp [q1]
      · rw [if_neg (show ¬ (1 : Int32) = 0 by decide), if_neg (fun g => q1 (e1.mp g))]
        by_cases q2 : co i = b
        · rw [if_pos (e2.mpr q2)]
          cases tany T lo hi i (cst T lo hi (fun t_1 => co t_1 == co t || co t_1 == b) S i) <;> simp [q2]
        · rw [if_neg (fun g => q2 (e2.mp g))]
          simp [q1, q2]
  have key : ∀ (d n S : Nat), d < n → S < 2 ^ 21 → 21 ≤ pc 21 S + d → ∃ R, R < 2 ^ 21 ∧ m_X7_chainOf_L15 N s (nI b) (nI (co t)) n (nI (cst T lo hi (two co (co t) b) S T)) (nI S) = some (nI R) ∧ isC (clT T lo hi (two co (co t) b)) S R := by
    intro d
    induction d with
    | zero =>
      intro n S hn hS hp
      obtain ⟨n, rfl⟩ : ∃ m, n = m + 1 := ⟨n - 1, by omega⟩
      have q := full_cl hF hS hp
      refine ⟨S, hS, ?_, isC_self ((hF S hS).2.2.2 q)⟩
      rw [m_X7_chainOf_L15, if_pos (congrArg nI q)]
    | succ d ih =>
      intro n S hn hS hp
      obtain ⟨n, rfl⟩ : ∃ m, n = m + 1 := ⟨n - 1, by omega⟩
      obtain ⟨f1, f2, f3, f4⟩ := hF S hS
      by_cases q : cst T lo hi (two co (co t) b) S T = S
      · refine ⟨S, hS, ?_, isC_self (f4 q)⟩
        rw [m_X7_chainOf_L15, if_pos (by rw [q])]
      · obtain ⟨R, h1, h2, h3⟩ := ih n _ (by omega) f1 (by have := pc_grow f1 f2 q; omega)
        refine ⟨R, h1, ?_, isC_step hF hS h3⟩
        have f1' := Nat.lt_of_lt_of_le f1 (show 2 ^ 21 ≤ 2 ^ 31 by decide)
        rw [m_X7_chainOf_L15, if_neg (fun g => q ((nI_eq f1' (by omega)).mp g))]
        simp only [jn]
        rw [inner _ _ f1]
        exact h2
  have hS : 2 ^ t < 2 ^ 21 := p2lt (by omega)
  -- the first round begins from the empty set: one more step
  have p := Nat.two_pow_pos t
  obtain ⟨R, h1, h2, h3⟩ := key 21 (N - 1) (2 ^ t) (by omega) hS (by omega)
  refine ⟨R, h1, ?_, h3⟩
  unfold m_X7_chainOf
  simp only [nm]
  rw [m_of2 hT hs ht, r_bind, sh1 (by omega)]
  obtain ⟨n, hn⟩ : ∃ m, N = m + 1 := ⟨N - 1, by omega⟩
  rw [show N - 1 = n by omega] at h2
  have inner := inner
  rw [hn] at inner h2 ⊢
  rw [m_X7_chainOf_L15, if_neg (fun g => by have := (nI_eq0 (by omega)).mp g; omega)]
  simp only [jn]
  rw [inner _ _ hS]
  exact h2
/-- the class's chain: the threads of both colours that touch what is reached -/
theorem x_chainSet {N T t b : Nat} {lo hi co : Nat → Nat} {e c : Nat → Int32} (hN : 1000 ≤ N) (hw : wt T lo hi co) (he : XE T lo hi e) (hc : XC T co c) (ht : t < T) (hb : b < 4) {C : Nat} (h : isC (clT T lo hi (two co (co t) b)) (2 ^ t) C) : ∃ R, R < 2 ^ 14 ∧ m_X5_reached N (nI T) e (nI (em lo hi t)) (nI (bs (two co (co t) b) T)) = some (nI R) ∧ bs (two co (co t) b) T &&& bs (fun u => em lo hi u &&& R != 0) T = C := by
  have hT := hw.1
  obtain ⟨h1, h2, h3⟩ := hw.2 t ht
  have lB := bs_lt21 (two co (co t) b) hT
  obtain ⟨R, r1, r2, r3⟩ := x_reached (B := bs (two co (co t) b) T) hN hw he (em_lt h1 h2) (by omega)
  rw [clos_cong (B := two co (co t) b) (fun u hu => by rw [tb_bs, decide_eq_true hu]; rfl)] at r3
  refine ⟨R, r1, r2, ?_⟩
  have At : two co (co t) b t = true := by unfold two; simp
  have mem : ∀ u, (bs (two co (co t) b) T &&& bs (fun u => em lo hi u &&& R != 0) T).testBit u = true ↔ u < T ∧ two co (co t) b u = true ∧ ∃ k, isat lo hi u k = true ∧ R.testBit k = true := by
    intro u
    rw [Nat.testBit_and, tb_bs, tb_bs]
    constructor
    · intro g
      simp only [Bool.and_eq_true, decide_eq_true_eq] at g
      obtain ⟨⟨a1, a2⟩, -, a4⟩ := g
      rw [meet_iff (hw.2 u a1).1, Bool.or_eq_true] at a4
      refine ⟨a1, a2, ?_⟩
      rcases a4 with g | g
      · exact ⟨_, by unfold isat; simp, g⟩
      · exact ⟨_, by unfold isat; simp, g⟩
    · rintro ⟨a1, a2, k, a3, a4⟩
      simp only [Bool.and_eq_true, decide_eq_true_eq]
      refine ⟨⟨a1, a2⟩, a1, ?_⟩
      rw [meet_iff (hw.2 u a1).1, Bool.or_eq_true]
      unfold isat at a3
      simp at a3
      rcases a3 with rfl | rfl
      · exact Or.inl a4
      · exact Or.inr a4
  refine isC_one (cl := clT T lo hi (two co (co t) b)) (S := 2 ^ t) ⟨?_, ?_, ?_⟩ h
  · intro u hu
    rw [Nat.testBit_two_pow] at hu
    rw [← of_decide_eq_true hu, mem]
    refine ⟨ht, At, lo t, by unfold isat; simp, r3.1 _ ?_⟩
    rw [tb_em h1]; unfold isat; simp
  · intro u v hu hv hA hC htc
    rw [mem] at hC ⊢
    obtain ⟨-, b2, k, b3, b4⟩ := hC
    obtain ⟨j, c1, c2⟩ := tch_iff.mp htc
    refine ⟨hu, hA, j, c1, ?_⟩
    have cc := r3.2.1 v hv b2
    unfold isat at b3 c2
    simp at b3 c2
    rcases b3 with rfl | rfl <;> rcases c2 with rfl | rfl
    · exact b4
    · rw [← cc]; exact b4
    · rw [cc]; exact b4
    · exact b4
  · intro C' g1 g2 u hu
    rw [mem] at hu
    obtain ⟨u1, u2, k, u3, u4⟩ := hu
    have R'c : ∀ k, (oa (fun v => if two co (co t) b v && C'.testBit v then em lo hi v else 0) T).testBit k = true ↔ ∃ v, v < T ∧ two co (co t) b v = true ∧ C'.testBit v = true ∧ isat lo hi v k = true := by
      intro k
      rw [tb_oa, an_iff]
      constructor
      · rintro ⟨v, hv, g⟩
        cases q : two co (co t) b v && C'.testBit v with
        | false => rw [q] at g; simp at g
        | true =>
          rw [q] at g
          simp only [if_true] at g
          rw [tb_em (hw.2 v hv).1] at g
          rw [Bool.and_eq_true] at q
          exact ⟨v, hv, q.1, q.2, g⟩
      · rintro ⟨v, hv, a1, a2, a3⟩
        refine ⟨v, hv, ?_⟩
        rw [a1, a2]
        simp only [Bool.and_self, if_true]
        rw [tb_em (hw.2 v hv).1]
        exact a3
    have inR := r3.2.2 (oa (fun v => if two co (co t) b v && C'.testBit v then em lo hi v else 0) T) (fun k hk => (R'c k).mpr ⟨t, ht, At, g1 t (by rw [Nat.testBit_two_pow]; simp), by rw [← tb_em h1]; exact hk⟩) (fun v hv hA => by
      have step : ∀ k k', isat lo hi v k = true → isat lo hi v k' = true → (oa (fun v => if two co (co t) b v && C'.testBit v then em lo hi v else 0) T).testBit k = true → (oa (fun v => if two co (co t) b v && C'.testBit v then em lo hi v else 0) T).testBit k' = true := by
        intro k k' hk hk' hR
        obtain ⟨w, w1, w2, w3, w4⟩ := (R'c k).mp hR
        exact (R'c k').mpr ⟨v, hv, hA, g2 v w hv w1 hA w3 (tch_iff.mpr ⟨k, hk, w4⟩), hk'⟩
      rw [Bool.eq_iff_iff]
      exact ⟨step _ _ (by unfold isat; simp) (by unfold isat; simp), step _ _ (by unfold isat; simp) (by unfold isat; simp)⟩)
    obtain ⟨v, v1, v2, v3, v4⟩ := (R'c k).mp (inR k u4)
    exact g2 u v u1 v1 u2 v3 (tch_iff.mpr ⟨k, u3, v4⟩)
end
-- 50.history.lean.txt
section
/-! pure: copies, the history, the snapshot -/
abbrev AN : Type := Nat × Nat × (Nat → Nat) × (Nat → Nat) × (Nat → Nat)
def WA (A : AN) : Prop := wf A.1 A.2.1 A.2.2.1 A.2.2.2.1 A.2.2.2.2
def XA (A : AN) (k t : Int32) (e c : Nat → Int32) : Prop := k = nI A.1 ∧ t = nI A.2.1 ∧ XE A.2.1 A.2.2.1 A.2.2.2.1 e ∧ XC A.2.1 A.2.2.2.2 c
def MA (A : AN) (s : Nat → Int32) : Prop := MN A.1 A.2.1 A.2.2.1 A.2.2.2.1 A.2.2.2.2 s
def pu (f g : Nat → Int32) (a n : Nat) : Nat → Int32 := fun k => if a ≤ k ∧ k < a + n then g (k - a) else f k
theorem pu_0 (f g : Nat → Int32) (a : Nat) : pu f g a 0 = f := by
  funext k
  unfold pu
  rw [if_neg (by omega)]
theorem pu_s (f g : Nat → Int32) (a n : Nat) : upd (pu f g a n) (a + n) (g n) = pu f g a (n + 1) := by
  funext k
  by_cases h : k = a + n
  · subst h
    rw [upd_s]
    unfold pu
    rw [if_pos (by omega), show a + n - a = n by omega]
  · rw [upd_n h]
    unfold pu
    by_cases q : a ≤ k ∧ k < a + n
    · rw [if_pos q, if_pos (by omega)]
    · rw [if_neg q, if_neg (by omega)]
theorem MA.cong {A : AN} {s s' : Nat → Int32} (hT : A.2.1 ≤ 21) (h : MA A s) (e : ∀ i, i < 65 → s' i = s i) : MA A s' := by
  refine ⟨by rw [e 0 (by omega)]; exact h.1, by rw [e 1 (by omega)]; exact h.2.1, fun i hi => ?_⟩
  rw [e _ (by omega), e _ (by omega), e _ (by omega)]
  exact h.2.2 i hi
theorem x_copy {N : Nat} {A : AN} {k t ok ot : Int32} {e c oe oc : Nat → Int32} (hN : 1000 ≤ N) (hT : A.2.1 ≤ 21) (h : XA A ok ot oe oc) : ∃ e' c', m_X2_copyFrom N k t e c ok ot oe oc = some (ok, ot, e', c') ∧ XA A ok ot e' c' := by
  obtain ⟨K, T, lo, hi, co⟩ := A
  obtain ⟨rfl, rfl, he, hc⟩ := h
  have hT : T ≤ 21 := hT
  refine ⟨pu e oe 0 T, pu c oc 0 T, ?_, rfl, rfl, fun i hi' => ?_, fun i hi' => ?_⟩
  · unfold m_X2_copyFrom
    refine Eq.trans (b := m_X2_copyFrom_L18 N (nI K) (nI T) oe oc N (nI 0) (pu e oe 0 0) (pu c oc 0 0)) (by rw [pu_0, pu_0]; rfl) ?_
    refine for_up (fun n i (acc : (Nat → Int32) × (Nat → Int32)) => m_X2_copyFrom_L18 N (nI K) (nI T) oe oc n (nI i) acc.1 acc.2) T (fun i => (pu e oe 0 i, pu c oc 0 i)) _ ?_ ?_ T N 0 (by omega) (by omega)
    · intro n
      show m_X2_copyFrom_L18 N (nI K) (nI T) oe oc (n + 1) (nI T) _ _ = _
      rw [m_X2_copyFrom_L18, if_pos (nI_le (Nat.le_refl _) (by omega))]
    · intro n i hj
      show m_X2_copyFrom_L18 N (nI K) (nI T) oe oc (n + 1) (nI i) _ _ = m_X2_copyFrom_L18 N (nI K) (nI T) oe oc n (nI (i + 1)) _ _
      rw [m_X2_copyFrom_L18, if_neg (nI_ge hj (by omega)), x_ends hT he hj, r_bind, x_put (by omega) (by decide), r_bind, x_colour hT hc hj, r_bind, x_put (by omega) (by decide), r_bind, nI_1]
      have a := pu_s e oe 0 i
      have b := pu_s c oc 0 i
      rw [Nat.zero_add] at a b
      rw [← a, ← b, he i hj, hc i hj]
  · show pu e oe 0 T i = _
    unfold pu
    rw [if_pos (by exact ⟨Nat.zero_le _, by rw [Nat.zero_add]; exact hi'⟩)]
    exact he i hi'
  · show pu c oc 0 T i = _
    unfold pu
    rw [if_pos (by exact ⟨Nat.zero_le _, by rw [Nat.zero_add]; exact hi'⟩)]
    exact hc i hi'
def XH (Hs : List AN) (z k0 t0 : Int32) (e0 c0 : Nat → Int32) (k1 t1 : Int32) (e1 c1 : Nat → Int32) (k2 t2 : Int32) (e2 c2 : Nat → Int32) (k3 t3 : Int32) (e3 c3 : Nat → Int32) : Prop :=
  z = nI Hs.length ∧ Hs.length ≤ 4 ∧ (∀ A, Hs[0]? = some A → XA A k0 t0 e0 c0) ∧ (∀ A, Hs[1]? = some A → XA A k1 t1 e1 c1) ∧ (∀ A, Hs[2]? = some A → XA A k2 t2 e2 c2) ∧ ∀ A, Hs[3]? = some A → XA A k3 t3 e3 c3
def MH (Hs : List AN) (past : Nat → Int32) (z : Int32) : Prop := z = nI Hs.length ∧ Hs.length ≤ 4 ∧ ∀ j A, Hs[j]? = some A → MA A (fun i => past (65 * j + i))
def WH (Hs : List AN) : Prop := ∀ A ∈ Hs, WA A
def hpush (Hs : List AN) (A : AN) : List AN := (if Hs.length = 4 then Hs.drop 1 else Hs) ++ [A]
theorem WA.T {A : AN} (h : WA A) : A.2.1 ≤ 21 := h.2.1
theorem hpush_len {Hs : List AN} {A : AN} (h : Hs.length ≤ 4) : (hpush Hs A).length ≤ 4 := by
  unfold hpush
  split <;> simp <;> omega
theorem WH.push {Hs : List AN} {A : AN} (h : WH Hs) (hA : WA A) : WH (hpush Hs A) := by
  intro B hB
  unfold hpush at hB
  rw [List.mem_append] at hB
  rcases hB with hB | hB
  · split at hB
    · exact h B (List.mem_of_mem_drop hB)
    · exact h B hB
  · rw [List.mem_singleton] at hB
    rw [hB]; exact hA
theorem at_push {Hs : List AN} {A B : AN} {j : Nat} (h4 : Hs.length ≤ 4) (h : (hpush Hs A)[j]? = some B) : (j + 1 = (hpush Hs A).length ∧ B = A) ∨ (Hs.length = 4 ∧ j < 3 ∧ Hs[j + 1]? = some B) ∨ (Hs.length < 4 ∧ j < Hs.length ∧ Hs[j]? = some B) := by
  unfold hpush at h ⊢
  by_cases q : Hs.length = 4
  · rw [if_pos q] at h ⊢
    by_cases g : j < 3
    · rw [List.getElem?_append_left (by simp; omega), List.getElem?_drop] at h
      exact Or.inr (Or.inl ⟨q, g, by rw [Nat.add_comm]; exact h⟩)
    · rw [List.getElem?_append_right (by simp; omega)] at h
      have : j - (Hs.drop 1).length = 0 := by
        rcases Nat.eq_zero_or_pos (j - (Hs.drop 1).length) with z | z
        · exact z
        · rw [List.getElem?_eq_none (by simp at z ⊢; omega)] at h; cases h
      rw [this] at h
      simp at h this
      exact Or.inl ⟨by simp; omega, h.symm⟩
  · rw [if_neg q] at h ⊢
    by_cases g : j < Hs.length
    · rw [List.getElem?_append_left g] at h
      exact Or.inr (Or.inr ⟨by omega, g, h⟩)
    · rw [List.getElem?_append_right (by omega)] at h
      have : j - Hs.length = 0 := by
        rcases Nat.eq_zero_or_pos (j - Hs.length) with z | z
        · exact z
        · rw [List.getElem?_eq_none (by simp; omega)] at h; cases h
      rw [this] at h
      simp at h
      exact Or.inl ⟨by simp; omega, h.symm⟩
theorem m_records {N : Nat} {Hs : List AN} {A : AN} {s past : Nat → Int32} {z : Int32} (hN : 1000 ≤ N) (hH : MH Hs past z) (hW : WH Hs) (hA : MA A s) (hWA : WA A) : ∃ past', m_X7_records N s past z = some (past', nI (hpush Hs A).length) ∧ MH (hpush Hs A) past' (nI (hpush Hs A).length) := by
  obtain ⟨rfl, h4, hP⟩ := hH
  -- the last step: s goes to the row st
  have put : ∀ (p : Nat → Int32) (st : Nat) (J : (Nat → Int32) → Option ((Nat → Int32) × Int32)), st ≤ 3 → m_X7_records_L50 N s (nI st) J N 0 p = J (pu p s (65 * st) 65) := by
    intro p st J hst
    refine Eq.trans (b := m_X7_records_L50 N s (nI st) J N (nI 0) (pu p s (65 * st) 0)) (by rw [pu_0]; rfl) ?_
    refine for_up (fun n i (acc : Nat → Int32) => m_X7_records_L50 N s (nI st) J n (nI i) acc) 65 (fun i => pu p s (65 * st) i) _ ?_ ?_ 65 N 0 (by omega) (by omega)
    · intro n
      show m_X7_records_L50 N s (nI st) J (n + 1) (nI 65) _ = _
      rw [m_X7_records_L50, if_pos (show (65 : Int32) ≤ nI 65 by decide)]
    · intro n i hj
      show m_X7_records_L50 N s (nI st) J (n + 1) (nI i) _ = m_X7_records_L50 N s (nI st) J n (nI (i + 1)) _
      have e : (65 : Int32) * nI st + nI i = nI (65 * st + i) := by
        show nI 65 * nI st + nI i = _
        rw [pk_mul, nI_add]
      rw [m_X7_records_L50, if_neg (show ¬ (65 : Int32) ≤ nI i from nI_ge (b := 65) hj (by omega)), r_ard hj (by omega), e, r_awr (by omega) (by omega), nI_clamp (by omega), nI_1]
      simp only [nm]
      rw [pu_s]
  have shift : ∀ (J : (Nat → Int32) → Option ((Nat → Int32) × Int32)), m_X7_records_L10 N J N 0 past = J (pu past (fun k => past (k + 65)) 0 195) := by
    intro J
    refine Eq.trans (b := m_X7_records_L10 N J N (nI 0) (pu past (fun k => past (k + 65)) 0 0)) (by rw [pu_0]; rfl) ?_
    refine for_up (fun n i (acc : Nat → Int32) => m_X7_records_L10 N J n (nI i) acc) 195 (fun i => pu past (fun k => past (k + 65)) 0 i) _ ?_ ?_ 195 N 0 (by omega) (by omega)
    · intro n
      show m_X7_records_L10 N J (n + 1) (nI 195) _ = _
      rw [m_X7_records_L10, if_pos (show (195 : Int32) ≤ nI 195 by decide)]
    · intro n i hj
      show m_X7_records_L10 N J (n + 1) (nI i) _ = m_X7_records_L10 N J n (nI (i + 1)) _
      have e : nI i + (65 : Int32) = nI (i + 65) := nI_add i 65
      rw [m_X7_records_L10, if_neg (show ¬ (195 : Int32) ≤ nI i from nI_ge (b := 195) hj (by omega)), e, r_ard (by omega) (by omega), r_awr (by omega) (by omega), nI_clamp (by omega), nI_1]
      simp only [nm]
      have a := pu_s past (fun k => past (k + 65)) 0 i
      rw [Nat.zero_add] at a
      rw [← a]
      congr 2
      unfold pu
      rw [if_neg (by omega)]
  unfold m_X7_records
  simp only [jn, nm]
  by_cases q : Hs.length = 4
  · have l : (hpush Hs A).length = 4 := by unfold hpush; rw [if_pos q]; simp; omega
    refine ⟨pu (pu past (fun k => past (k + 65)) 0 195) s (65 * 3) 65, ?_, rfl, by rw [l]; omega, ?_⟩
    · rw [if_pos (by rw [q]; rfl), shift, q]
      rw [show nI 4 - 1 = nI 3 from rfl, put _ 3 _ (by omega), l]
      rfl
    · intro j B hB
      have hTB : B.2.1 ≤ 21 := (WH.push hW hWA B (List.mem_of_getElem? hB)).T
      rcases at_push h4 hB with ⟨e1, rfl⟩ | ⟨-, e2, e3⟩ | ⟨e1, -, -⟩
      · have : j = 3 := by omega
        subst this
        refine hA.cong hTB (fun i hi => ?_)
        unfold pu
        rw [if_pos (by omega), show 65 * 3 + i - 65 * 3 = i by omega]
      · refine (hP (j + 1) B e3).cong hTB (fun i hi => ?_)
        unfold pu
        rw [if_neg (by omega), if_pos (by omega)]
        show past (65 * j + i - 0 + 65) = past (65 * (j + 1) + i)
        rw [show 65 * j + i - 0 + 65 = 65 * (j + 1) + i by omega]
      · omega
  · have l : (hpush Hs A).length = Hs.length + 1 := by unfold hpush; rw [if_neg q]; simp
    refine ⟨pu past s (65 * Hs.length) 65, ?_, rfl, by rw [l]; omega, ?_⟩
    · rw [if_neg (show ¬ nI Hs.length = 4 from fun g => q ((nI_eq (b := 4) (by omega) (by omega)).mp g)), put _ _ _ (by omega), nI_1, l]
    · intro j B hB
      have hTB : B.2.1 ≤ 21 := (WH.push hW hWA B (List.mem_of_getElem? hB)).T
      rcases at_push h4 hB with ⟨e1, rfl⟩ | ⟨e1, -, -⟩ | ⟨-, e2, e3⟩
      · have : j = Hs.length := by omega
        subst this
        refine hA.cong hTB (fun i hi => ?_)
        unfold pu
        rw [if_pos (by omega), show 65 * Hs.length + i - 65 * Hs.length = i by omega]
      · omega
      · refine (hP j B e3).cong hTB (fun i hi => ?_)
        unfold pu
        rw [if_neg (by omega)]

theorem x_dropOldest {N : Nat} {Hs : List AN} {z k0 t0 k1 t1 k2 t2 k3 t3 : Int32} {e0 c0 e1 c1 e2 c2 e3 c3 : Nat → Int32} (hN : 1000 ≤ N) (hW : WH Hs) (h : XH Hs z k0 t0 e0 c0 k1 t1 e1 c1 k2 t2 e2 c2 k3 t3 e3 c3) (h4 : Hs.length = 4) : ∃ a0 b0 d0 f0 a1 b1 d1 f1 a2 b2 d2 f2, m_X1_dropOldest N z k0 t0 e0 c0 k1 t1 e1 c1 k2 t2 e2 c2 k3 t3 e3 c3 = some (3, a0, b0, d0, f0, a1, b1, d1, f1, a2, b2, d2, f2, k3, t3, e3, c3) ∧ XH (Hs.drop 1) 3 a0 b0 d0 f0 a1 b1 d1 f1 a2 b2 d2 f2 k3 t3 e3 c3 := by
  obtain ⟨hz, -, h0, h1, h2, h3⟩ := h
  have g : ∀ j, j < 4 → ∃ A, Hs[j]? = some A ∧ A.2.1 ≤ 21 := fun j hj => ⟨Hs[j]'(by omega), List.getElem?_eq_getElem (by omega), (hW _ (List.getElem_mem (by omega))).T⟩
  obtain ⟨A1, g1, w1⟩ := g 1 (by omega)
  obtain ⟨A2, g2, w2⟩ := g 2 (by omega)
  obtain ⟨A3, g3, w3⟩ := g 3 (by omega)
  obtain ⟨d0, f0, y0, x0⟩ := x_copy (k := k0) (t := t0) (e := e0) (c := c0) hN w1 (h1 A1 g1)
  obtain ⟨d1, f1, y1, x1⟩ := x_copy (k := k1) (t := t1) (e := e1) (c := c1) hN w2 (h2 A2 g2)
  obtain ⟨d2, f2, y2, x2⟩ := x_copy (k := k2) (t := t2) (e := e2) (c := c2) hN w3 (h3 A3 g3)
  refine ⟨k1, t1, d0, f0, k2, t2, d1, f1, k3, t3, d2, f2, ?_, ?_⟩
  · unfold m_X1_dropOldest
    simp only [nm]
    rw [y0, r_bind, y1, r_bind, y2, r_bind, hz, h4]
    rfl
  · have q : ∀ j, (Hs.drop 1)[j]? = Hs[j + 1]? := fun j => by rw [List.getElem?_drop, Nat.add_comm]
    refine ⟨by rw [List.length_drop, h4]; rfl, by rw [List.length_drop, h4]; decide, fun A hA => ?_, fun A hA => ?_, fun A hA => ?_, fun A hA => ?_⟩
    · rw [q, g1] at hA; cases hA; exact x0
    · rw [q, g2] at hA; cases hA; exact x1
    · rw [q, g3] at hA; cases hA; exact x2
    · rw [q, List.getElem?_eq_none (by omega)] at hA; cases hA
theorem x_push {N : Nat} {Hs : List AN} {A : AN} {z k0 t0 k1 t1 k2 t2 k3 t3 k t : Int32} {e0 c0 e1 c1 e2 c2 e3 c3 e c : Nat → Int32} (hN : 1000 ≤ N) (hW : WH Hs) (hWA : WA A) (h : XH Hs z k0 t0 e0 c0 k1 t1 e1 c1 k2 t2 e2 c2 k3 t3 e3 c3) (hA : XA A k t e c) : ∃ a0 b0 d0 f0 a1 b1 d1 f1 a2 b2 d2 f2 a3 b3 d3 f3, m_X1_push N z k0 t0 e0 c0 k1 t1 e1 c1 k2 t2 e2 c2 k3 t3 e3 c3 k t e c = some (nI (hpush Hs A).length, a0, b0, d0, f0, a1, b1, d1, f1, a2, b2, d2, f2, a3, b3, d3, f3) ∧ XH (hpush Hs A) (nI (hpush Hs A).length) a0 b0 d0 f0 a1 b1 d1 f1 a2 b2 d2 f2 a3 b3 d3 f3 := by
  by_cases q : Hs.length = 4
  · obtain ⟨a0, b0, d0, f0, a1, b1, d1, f1, a2, b2, d2, f2, y, -, -, x0, x1, x2, x3⟩ := x_dropOldest hN hW h q
    obtain ⟨d, f, y2, x⟩ := x_copy (k := k3) (t := t3) (e := e3) (c := c3) hN hWA.T hA
    have l : (hpush Hs A).length = 4 := by unfold hpush; rw [if_pos q]; simp; omega
    refine ⟨a0, b0, d0, f0, a1, b1, d1, f1, a2, b2, d2, f2, k, t, d, f, ?_, rfl, by rw [l]; exact Nat.le_refl 4, ?_⟩
    · unfold m_X1_push
      rw [if_neg (show ¬ z < 4 by rw [h.1, q]; decide), y, r_bind, l]
      simp [jn, nm, y2]
      decide
    · have ee : hpush Hs A = Hs.drop 1 ++ [A] := by unfold hpush; rw [if_pos q]
      have ap : ∀ j, j < 3 → (hpush Hs A)[j]? = (Hs.drop 1)[j]? := fun j hj => by rw [ee, List.getElem?_append_left (by simp; omega)]
      refine ⟨fun B hB => x0 B (by rw [← ap 0 (by omega)]; exact hB), fun B hB => x1 B (by rw [← ap 1 (by omega)]; exact hB), fun B hB => x2 B (by rw [← ap 2 (by omega)]; exact hB), fun B hB => ?_⟩
      rw [ee, List.getElem?_append_right (by simp; omega), show 3 - (Hs.drop 1).length = 0 by simp; omega] at hB
      cases hB
      exact x
  · obtain ⟨hz, h4, x0, x1, x2, x3⟩ := h
    have l : (hpush Hs A).length = Hs.length + 1 := by unfold hpush; rw [if_neg q]; simp
    have ee : hpush Hs A = Hs ++ [A] := by unfold hpush; rw [if_neg q]
    have lt : Hs.length = 0 ∨ Hs.length = 1 ∨ Hs.length = 2 ∨ Hs.length = 3 := by omega
    have ap : ∀ j, j < Hs.length → (hpush Hs A)[j]? = Hs[j]? := fun j hj => by rw [ee, List.getElem?_append_left hj]
    have la : (hpush Hs A)[Hs.length]? = some A := by rw [ee, List.getElem?_append_right (Nat.le_refl _), Nat.sub_self]; rfl
    have no : ∀ j, Hs.length < j → (hpush Hs A)[j]? = none := fun j hj => List.getElem?_eq_none (by omega)
    rcases lt with g | g | g | g
    · obtain ⟨d, f, y2, x⟩ := x_copy (k := k0) (t := t0) (e := e0) (c := c0) hN hWA.T hA
      rw [g] at la no ap l
      refine ⟨k, t, d, f, k1, t1, e1, c1, k2, t2, e2, c2, k3, t3, e3, c3, ?_, rfl, by omega, fun B hB => ?_, fun B hB => ?_, fun B hB => ?_, fun B hB => ?_⟩
      · unfold m_X1_push; rw [hz, g, l, if_pos (show nI 0 < 4 by decide), if_neg (show ¬ nI 0 < 0 by decide), if_pos (show nI 0 < 4 by decide), if_pos (show nI 0 = 0 by decide), y2, r_bind]; rfl
      · rw [la] at hB; cases hB; exact x
      · rw [no 1 (by omega)] at hB; cases hB
      · rw [no 2 (by omega)] at hB; cases hB
      · rw [no 3 (by omega)] at hB; cases hB
    · obtain ⟨d, f, y2, x⟩ := x_copy (k := k1) (t := t1) (e := e1) (c := c1) hN hWA.T hA
      rw [g] at la no ap l
      refine ⟨k0, t0, e0, c0, k, t, d, f, k2, t2, e2, c2, k3, t3, e3, c3, ?_, rfl, by omega, fun B hB => ?_, fun B hB => ?_, fun B hB => ?_, fun B hB => ?_⟩
      · unfold m_X1_push; rw [hz, g, l, if_pos (show nI 1 < 4 by decide), if_neg (show ¬ nI 1 < 0 by decide), if_pos (show nI 1 < 4 by decide), if_neg (show ¬ nI 1 = 0 by decide), if_pos (show nI 1 = 1 by decide), y2, r_bind]; rfl
      · rw [ap 0 (by omega)] at hB; exact x0 B hB
      · rw [la] at hB; cases hB; exact x
      · rw [no 2 (by omega)] at hB; cases hB
      · rw [no 3 (by omega)] at hB; cases hB
    · obtain ⟨d, f, y2, x⟩ := x_copy (k := k2) (t := t2) (e := e2) (c := c2) hN hWA.T hA
      rw [g] at la no ap l
      refine ⟨k0, t0, e0, c0, k1, t1, e1, c1, k, t, d, f, k3, t3, e3, c3, ?_, rfl, by omega, fun B hB => ?_, fun B hB => ?_, fun B hB => ?_, fun B hB => ?_⟩
      · unfold m_X1_push; rw [hz, g, l, if_pos (show nI 2 < 4 by decide), if_neg (show ¬ nI 2 < 0 by decide), if_pos (show nI 2 < 4 by decide), if_neg (show ¬ nI 2 = 0 by decide), if_neg (show ¬ nI 2 = 1 by decide), if_pos (show nI 2 = 2 by decide), y2, r_bind]; rfl
      · rw [ap 0 (by omega)] at hB; exact x0 B hB
      · rw [ap 1 (by omega)] at hB; exact x1 B hB
      · rw [la] at hB; cases hB; exact x
      · rw [no 3 (by omega)] at hB; cases hB
    · obtain ⟨d, f, y2, x⟩ := x_copy (k := k3) (t := t3) (e := e3) (c := c3) hN hWA.T hA
      rw [g] at la no ap l
      refine ⟨k0, t0, e0, c0, k1, t1, e1, c1, k2, t2, e2, c2, k, t, d, f, ?_, rfl, by omega, fun B hB => ?_, fun B hB => ?_, fun B hB => ?_, fun B hB => ?_⟩
      · unfold m_X1_push; rw [hz, g, l, if_pos (show nI 3 < 4 by decide), if_neg (show ¬ nI 3 < 0 by decide), if_pos (show nI 3 < 4 by decide), if_neg (show ¬ nI 3 = 0 by decide), if_neg (show ¬ nI 3 = 1 by decide), if_neg (show ¬ nI 3 = 2 by decide), if_pos (show nI 3 = 3 by decide), y2, r_bind]; rfl
      · rw [ap 0 (by omega)] at hB; exact x0 B hB
      · rw [ap 1 (by omega)] at hB; exact x1 B hB
      · rw [ap 2 (by omega)] at hB; exact x2 B hB
      · rw [la] at hB; cases hB; exact x
end
