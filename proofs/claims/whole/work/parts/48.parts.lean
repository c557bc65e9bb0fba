/-! pure: parts and chains: both classes answer alike -/
theorem clos_cong {T : Nat} {lo hi : Nat → Nat} {A B : Nat → Bool} (h : ∀ t, t < T → A t = B t) : clos T lo hi A = clos T lo hi B := by
  funext R
  unfold clos
  exact propext ⟨fun g t ht hb => g t ht (by rw [h t ht]; exact hb), fun g t ht hb => g t ht (by rw [← h t ht]; exact hb)⟩
/-- the closed sets to begin with each knot: by both classes -/
theorem both_part {N K T k : Nat} {lo hi co : Nat → Nat} {e s : Nat → Int32} (hN : 1000 ≤ N) (hw : wt T lo hi co) (he : XE T lo hi e) (hs : MN K T lo hi co s) (hk : k < 14) : ∃ R, R < 2 ^ 14 ∧ m_X5_reached N (nI T) e (nI (2 ^ k)) (nI (2 ^ T - 1)) = some (nI R) ∧ m_X7_partOf N s (nI k) = some (nI R) ∧ isC (clos T lo hi (fun _ => true)) (2 ^ k) R := by
  have hT := hw.1
  have p := Nat.two_pow_pos T
  have p2 := p2le (a := T) (b := 21) (by omega)
  obtain ⟨R, h1, h2, h3⟩ := m_partOf hN hw hs hk
  obtain ⟨R', g1, g2, g3⟩ := x_reached (B := 2 ^ T - 1) hN hw he (p2lt hk) (by omega)
  rw [clos_cong (B := fun _ => true) (fun t ht => by rw [tb_all]; exact decide_eq_true ht)] at g3
  rw [isC_one g3 h3] at g2
  exact ⟨R, h1, g2, h2, h3⟩
/-- the union of what is closed to begin with the numbers below i -/
def un (P : Nat → Nat) : Nat → Nat := oa P
theorem un_cl {T : Nat} {lo hi : Nat → Nat} {A : Nat → Bool} {P : Nat → Nat} : ∀ {n : Nat}, (∀ k, k < n → clos T lo hi A (P k)) → clos T lo hi A (oa P n)
  | 0, _ => fun t _ _ => by simp [oa]
  | n + 1, h => fun t ht ha => by
    rw [oa, Nat.testBit_or, Nat.testBit_or, un_cl (n := n) (fun k hk => h k (by omega)) t ht ha, h n (by omega) t ht ha]
theorem or_sub {a b : Nat} (h : subs b a) : a ||| b = a := subs_eq (fun i q => by rw [Nat.testBit_or, Bool.or_eq_true] at q; exact q.elim id (h i)) (fun i q => by rw [Nat.testBit_or, q]; rfl)
theorem ad_ad (a b c : Nat) : ad (ad a b) c = ad a (b ||| c) := by
  apply Nat.eq_of_testBit_eq
  intro i
  rw [tb_ad, tb_ad, tb_ad, Nat.testBit_or]
  cases a.testBit i <;> cases b.testBit i <;> cases c.testBit i <;> rfl
theorem both_parts {N K T : Nat} {lo hi co : Nat → Nat} {e s : Nat → Int32} (hN : 1000 ≤ N) (hw : wt T lo hi co) (he : XE T lo hi e) (hs : MN K T lo hi co s) (hK : K ≤ 14) : ∃ r, m_X5_parts N (nI K) (nI T) e = some r ∧ m_X7_parts N s = some r := by
  have hT := hw.1
  have pK := Nat.two_pow_pos K
  have pK2 := p2le (a := K) (b := 14) hK
  obtain ⟨P, hP⟩ : ∃ P : Nat → Nat, ∀ k, k < K → P k < 2 ^ 14 ∧ m_X5_reached N (nI T) e (nI (2 ^ k)) (nI (2 ^ T - 1)) = some (nI (P k)) ∧ m_X7_partOf N s (nI k) = some (nI (P k)) ∧ isC (clos T lo hi (fun _ => true)) (2 ^ k) (P k) := by
    refine ⟨fun k => if h : k < K then Classical.choose (both_part hN hw he hs (show k < 14 by omega)) else 0, fun k hk => ?_⟩
    simp only [dif_pos hk]
    exact Classical.choose_spec (both_part hN hw he hs (show k < 14 by omega))
  have ul : ∀ i, i ≤ K → oa P i < 2 ^ 14 := fun i hi' => oa_lt (fun j hj => (hP j (by omega)).1)
  have uc : ∀ i, i ≤ K → clos T lo hi (fun _ => true) (oa P i) := fun i hi' => un_cl (fun j hj => (hP j (by omega)).2.2.2.2.1)
  refine ⟨nI (ct (fun k => !(oa P k).testBit k) K), ?_, ?_⟩
  · unfold m_X5_parts
    rw [x_allKnots hK, r_bind]
    have e0 : ad (2 ^ K - 1) (oa P 0) = 2 ^ K - 1 := by
      apply Nat.eq_of_testBit_eq
      intro i
      rw [tb_ad, oa, Nat.zero_testBit]
      simp
    refine Eq.trans (b := m_X5_parts_L9 N (nI K) (nI T) e N (nI 0) (nI 0) (nI (ad (2 ^ K - 1) (oa P 0)))) (by rw [e0]; rfl) ?_
    refine for_up (fun n i (acc : Nat × Nat) => m_X5_parts_L9 N (nI K) (nI T) e n (nI i) (nI acc.1) (nI acc.2)) K (fun i => (ct (fun k => !(oa P k).testBit k) i, ad (2 ^ K - 1) (oa P i))) _ ?_ ?_ K N 0 (by omega) (by omega)
    · intro n
      show m_X5_parts_L9 N (nI K) (nI T) e (n + 1) (nI K) _ _ = _
      rw [m_X5_parts_L9, m_X2_knots, r_bind, if_pos (nI_le (Nat.le_refl _) (by omega))]
    · intro n i hj
      show m_X5_parts_L9 N (nI K) (nI T) e (n + 1) (nI i) (nI (ct (fun k => !(oa P k).testBit k) i)) (nI (ad (2 ^ K - 1) (oa P i))) = m_X5_parts_L9 N (nI K) (nI T) e n (nI (i + 1)) (nI (ct (fun k => !(oa P k).testBit k) (i + 1))) (nI (ad (2 ^ K - 1) (oa P (i + 1))))
      obtain ⟨h1, h2, h3, h4⟩ := hP i hj
      have la : ad (2 ^ K - 1) (oa P i) < 2 ^ 31 := by have : ad (2 ^ K - 1) (oa P i) < 2 ^ 14 := ad_lt (by omega); omega
      rw [m_X5_parts_L9, m_X2_knots, r_bind, if_neg (nI_ge hj (by omega)), m_holds la (by omega), r_bind, sel, tb_ad, tb_all, decide_eq_true hj, Bool.true_and, ct, oa]
      simp only [nm]
      rw [m_bit (by omega), r_bind, x_allThreads hT, r_bind, h2, r_bind, nandn, ad_ad, nI_1, nI_1]
      cases q : (oa P i).testBit i with
      | false => rfl
      | true =>
        have : subs (P i) (oa P i) := h4.2.2 _ (fun j hj' => by rw [Nat.testBit_two_pow] at hj'; rw [← of_decide_eq_true hj']; exact q) (uc i (by omega))
        rw [or_sub this]
        rfl
  · unfold m_X7_parts
    refine for_up (fun n i (acc : Nat × Nat) => m_X7_parts_L6 N s n (nI i) (nI acc.2) (nI acc.1)) K (fun i => (ct (fun k => !(oa P k).testBit k) i, oa P i)) _ ?_ ?_ K N 0 (by omega) (by omega)
    · intro n
      show m_X7_parts_L6 N s (n + 1) (nI K) _ _ = _
      rw [m_X7_parts_L6, r_0 (by decide), hs.1, if_pos (nI_le (Nat.le_refl _) (by omega))]
    · intro n i hj
      show m_X7_parts_L6 N s (n + 1) (nI i) (nI (oa P i)) (nI (ct (fun k => !(oa P k).testBit k) i)) = m_X7_parts_L6 N s n (nI (i + 1)) (nI (oa P (i + 1))) (nI (ct (fun k => !(oa P k).testBit k) (i + 1)))
      obtain ⟨h1, h2, h3, h4⟩ := hP i hj
      have := ul i (by omega)
      rw [m_X7_parts_L6, r_0 (by decide), hs.1, if_neg (nI_ge hj (by omega)), m_has (by omega) (by omega), r_bind, ct, oa]
      simp only [jn, nm]
      rw [sel, h3, nI_1]
      simp only [r_bind]
      rw [nor]
      cases q : (oa P i).testBit i with
      | false => rw [if_neg (by decide), nI_1]; rfl
      | true =>
        rw [if_pos rfl]
        show m_X7_parts_L6 N s n (nI (i + 1)) _ (nI _ + nI 0) = _
        rw [nI_add]
        rfl
-- chains
def tch (lo hi : Nat → Nat) (t u : Nat) : Bool := isat lo hi t (lo u) || isat lo hi t (hi u)
theorem tch_iff {lo hi : Nat → Nat} {t u : Nat} : tch lo hi t u = true ↔ ∃ k, isat lo hi t k = true ∧ isat lo hi u k = true := by
  unfold tch
  rw [Bool.or_eq_true]
  constructor
  · rintro (h | h)
    · exact ⟨_, h, by unfold isat; simp⟩
    · exact ⟨_, h, by unfold isat; simp⟩
  · rintro ⟨k, h1, h2⟩
    unfold isat at h2
    simp at h2
    rcases h2 with rfl | rfl
    · exact Or.inl h1
    · exact Or.inr h1
def clT (T : Nat) (lo hi : Nat → Nat) (A : Nat → Bool) (C : Nat) : Prop := ∀ t u, t < T → u < T → A t = true → C.testBit u = true → tch lo hi t u = true → C.testBit t = true
def tany (T : Nat) (lo hi : Nat → Nat) (t S : Nat) : Bool := an (fun u => S.testBit u && tch lo hi u t) T
/-- one round of a chain: thread by thread -/
def cst (T : Nat) (lo hi : Nat → Nat) (A : Nat → Bool) (S : Nat) : Nat → Nat
  | 0 => S
  | i + 1 => cst T lo hi A S i ||| (if A i && tany T lo hi i (cst T lo hi A S i) then 2 ^ i else 0)
theorem tch_comm {lo hi : Nat → Nat} {t u : Nat} : tch lo hi t u = tch lo hi u t := by
  rw [Bool.eq_iff_iff, tch_iff, tch_iff]
  exact ⟨fun ⟨k, a, b⟩ => ⟨k, b, a⟩, fun ⟨k, a, b⟩ => ⟨k, b, a⟩⟩
theorem cst_sub {T : Nat} {lo hi : Nat → Nat} {A : Nat → Bool} {S : Nat} : ∀ {i j : Nat}, i ≤ j → subs (cst T lo hi A S i) (cst T lo hi A S j)
  | i, 0, h => by rw [show i = 0 by omega]; exact fun _ q => q
  | i, j + 1, h => by
    rcases Nat.lt_or_ge i (j + 1) with g | g
    · refine subs_tr (cst_sub (j := j) (by omega)) (fun k q => ?_)
      rw [cst, Nat.testBit_or, q]; rfl
    · rw [show i = j + 1 by omega]; exact fun _ q => q
theorem cst_lt {T : Nat} {lo hi : Nat → Nat} {A : Nat → Bool} {S : Nat} (hT : T ≤ 21) (hS : S < 2 ^ 21) : ∀ {i : Nat}, i ≤ T → cst T lo hi A S i < 2 ^ 21
  | 0, _ => hS
  | i + 1, h => by
    rw [cst]
    refine or_lt (cst_lt hT hS (by omega)) ?_
    split
    · exact p2lt (by omega)
    · exact Nat.two_pow_pos _
theorem cst_good {T : Nat} {lo hi : Nat → Nat} (hT : T ≤ 21) (A : Nat → Bool) : goodF 21 (clT T lo hi A) (fun S => cst T lo hi A S T) := by
  intro S hS
  refine ⟨cst_lt hT hS (Nat.le_refl T), cst_sub (i := 0) (Nat.zero_le T), ?_, ?_⟩
  · intro R' h1 h2
    have : ∀ i, i ≤ T → subs (cst T lo hi A S i) R' := by
      intro i
      induction i with
      | zero => intro _; exact h1
      | succ i ih =>
        intro hi' k q
        rw [cst, Nat.testBit_or, Bool.or_eq_true] at q
        rcases q with q | q
        · exact ih (by omega) k q
        · cases g : A i && tany T lo hi i (cst T lo hi A S i) with
          | false => rw [g] at q; simp at q
          | true =>
            rw [g] at q
            simp only [if_true] at q
            rw [Nat.testBit_two_pow] at q
            rw [← of_decide_eq_true q]
            rw [Bool.and_eq_true] at g
            obtain ⟨u, hu, g2⟩ := (an_iff _ _).mp g.2
            rw [Bool.and_eq_true] at g2
            exact h2 i u (by omega) hu g.1 (ih (by omega) u g2.1) (by rw [tch_comm]; exact g2.2)
    exact this T (Nat.le_refl T)
  · intro e t u ht hu hA hC htc
    have e : cst T lo hi A S T = S := e
    have eq : cst T lo hi A S t = S := subs_eq (by have := cst_sub (A := A) (S := S) (lo := lo) (hi := hi) (T := T) (i := t) (j := T) (by omega); rw [e] at this; exact this) (cst_sub (i := 0) (Nat.zero_le t))
    rw [← e]
    refine cst_sub (i := t + 1) (by omega) t ?_
    rw [cst, eq, Nat.testBit_or]
    have : tany T lo hi t S = true := (an_iff _ _).mpr ⟨u, hu, by rw [hC, tch_comm, htc]; rfl⟩
    rw [hA, this]
    simp
theorem m_touch {N K T t u : Nat} {lo hi co : Nat → Nat} {s : Nat → Int32} (hw : wt T lo hi co) (hs : MN K T lo hi co s) (h : t < T) (hu : u < T) : m_X7_touch N s (nI t) (nI u) = some (if tch lo hi t u then 1 else 0) := by
  have hT := hw.1
  obtain ⟨h1, h2, -⟩ := hw.2 u hu
  unfold m_X7_touch tch
  rw [m_of0 hT hs hu, r_bind, m_isAt hw hs h (by omega), r_bind, sel, m_of1 hT hs hu, r_bind, m_isAt hw hs h (by omega), r_bind, sel]
  cases isat lo hi t (lo u) <;> cases isat lo hi t (hi u) <;> rfl
theorem m_touchesAny {N K T t S : Nat} {lo hi co : Nat → Nat} {s : Nat → Int32} (hN : 1000 ≤ N) (hw : wt T lo hi co) (hs : MN K T lo hi co s) (h : t < T) (hS : S < 2 ^ 31) : m_X7_touchesAny N s (nI t) (nI S) = some (if tany T lo hi t S then 1 else 0) := by
  have hT := hw.1
  unfold m_X7_touchesAny tany
  refine for_up (fun n i (acc : Bool) => m_X7_touchesAny_L5 N s (nI t) (nI S) n (nI i) (if acc then 1 else 0)) T (fun i => an (fun u => S.testBit u && tch lo hi u t) i) _ ?_ ?_ T N 0 (by omega) (by omega)
  · intro n
    show m_X7_touchesAny_L5 N s (nI t) (nI S) (n + 1) (nI T) (if an (fun u => S.testBit u && tch lo hi u t) T then 1 else 0) = _
    rw [m_X7_touchesAny_L5, r_1 (by decide), hs.2.1, if_pos (nI_le (Nat.le_refl _) (by omega)), zb01]
  · intro n i hj
    show m_X7_touchesAny_L5 N s (nI t) (nI S) (n + 1) (nI i) (if an (fun u => S.testBit u && tch lo hi u t) i then 1 else 0) = m_X7_touchesAny_L5 N s (nI t) (nI S) n (nI (i + 1)) (if an (fun u => S.testBit u && tch lo hi u t) (i + 1) then 1 else 0)
    rw [m_X7_touchesAny_L5, r_1 (by decide), hs.2.1, if_neg (nI_ge hj (by omega)), sel, m_has hS (by omega), r_bind, sel, m_touch hw hs hj h, r_bind, sel, nI_1, an]
    cases an (fun u => S.testBit u && tch lo hi u t) i <;> cases S.testBit i <;> cases tch lo hi i t <;> rfl
