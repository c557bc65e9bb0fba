/-! pure: the reference's small functions over the same nets -/
theorem ix3 (t w : Nat) : (2 + (3 * nI t)) + nI w = nI (2 + 3 * t + w) := by
  show (nI 2 + (nI 3 * nI t)) + nI w = _
  rw [pk_mul, nI_add, nI_add]
theorem m_of {N t w : Nat} {s : Nat → Int32} (h : t ≤ 20) (hw : w ≤ 2) : m_X7_of N s (nI t) (nI w) = some (s (2 + 3 * t + w)) := by
  unfold m_X7_of
  rw [ix3, r_ard (by omega) (by omega)]
theorem m_of0 {N K T t : Nat} {lo hi co : Nat → Nat} {s : Nat → Int32} (hT : T ≤ 21) (hs : MN K T lo hi co s) (h : t < T) : m_X7_of N s (nI t) 0 = some (nI (lo t)) := by
  have := m_of (N := N) (s := s) (t := t) (w := 0) (by omega) (by omega)
  rw [show 2 + 3 * t + 0 = 2 + 3 * t from rfl, (hs.2.2 t h).1] at this
  exact this
theorem m_of1 {N K T t : Nat} {lo hi co : Nat → Nat} {s : Nat → Int32} (hT : T ≤ 21) (hs : MN K T lo hi co s) (h : t < T) : m_X7_of N s (nI t) 1 = some (nI (hi t)) := by
  have := m_of (N := N) (s := s) (t := t) (w := 1) (by omega) (by omega)
  rw [(hs.2.2 t h).2.1] at this
  exact this
theorem m_of2 {N K T t : Nat} {lo hi co : Nat → Nat} {s : Nat → Int32} (hT : T ≤ 21) (hs : MN K T lo hi co s) (h : t < T) : m_X7_of N s (nI t) 2 = some (nI (co t)) := by
  have := m_of (N := N) (s := s) (t := t) (w := 2) (by omega) (by omega)
  rw [(hs.2.2 t h).2.2] at this
  exact this
theorem r_0 {β : Type} {f : Nat → Int32} {n : Nat} {k : Int32 → Option β} (h : 0 < n) : ard f n 0 k = k (f 0) := r_ard (i := 0) h (by decide)
theorem r_1 {β : Type} {f : Nat → Int32} {n : Nat} {k : Int32 → Option β} (h : 1 < n) : ard f n 1 k = k (f 1) := r_ard (i := 1) h (by decide)
theorem m_isAt {N K T t k : Nat} {lo hi co : Nat → Nat} {s : Nat → Int32} (hw : wt T lo hi co) (hs : MN K T lo hi co s) (h : t < T) (hk : k < 2 ^ 31) : m_X7_isAt N s (nI t) (nI k) = some (if isat lo hi t k then 1 else 0) := by
  obtain ⟨h1, h2, -⟩ := hw.2 t h
  unfold m_X7_isAt isat
  rw [m_of0 hw.1 hs h, r_bind, m_of1 hw.1 hs h]
  by_cases q : lo t = k
  · rw [if_pos (by rw [q])]; simp [q]
  · rw [if_neg (fun g => q ((nI_eq (by omega) hk).mp g)), r_bind]
    by_cases q2 : hi t = k
    · rw [if_pos (by rw [q2])]; simp [q2]
    · rw [if_neg (fun g => q2 ((nI_eq (by omega) hk).mp g))]; simp [q, q2]
theorem m_across {N K T t k : Nat} {lo hi co : Nat → Nat} {s : Nat → Int32} (hw : wt T lo hi co) (hs : MN K T lo hi co s) (h : t < T) (hk : k < 2 ^ 31) : m_X7_across N s (nI t) (nI k) = some (nI (acr lo hi t k)) := by
  obtain ⟨h1, h2, -⟩ := hw.2 t h
  unfold m_X7_across acr
  rw [m_of0 hw.1 hs h, r_bind, m_of1 hw.1 hs h]
  by_cases q : lo t = k
  · rw [if_pos (by rw [q]), r_bind, if_pos q]
  · rw [if_neg (fun g => q ((nI_eq (by omega) hk).mp g)), r_bind, if_neg q]
theorem or_zero (x : Nat) : nI x ||| 0 = nI x := by
  have := nor x 0
  rw [Nat.or_zero] at this
  exact this
theorem m_threadsOf {N K T k : Nat} {lo hi co : Nat → Nat} {s : Nat → Int32} (hN : 1000 ≤ N) (hw : wt T lo hi co) (hs : MN K T lo hi co s) (hk : k < 2 ^ 31) : m_X7_threadsOf N s (nI k) = some (nI (bs (fun t => isat lo hi t k) T)) := by
  have hT := hw.1
  unfold m_X7_threadsOf
  refine for_up (fun n i (acc : Nat) => m_X7_threadsOf_L4 N s (nI k) n (nI i) (nI acc)) T (fun i => bs (fun t => isat lo hi t k) i) _ ?_ ?_ T N 0 (by omega) (by omega)
  · intro n
    show m_X7_threadsOf_L4 N s (nI k) (n + 1) (nI T) _ = _
    rw [m_X7_threadsOf_L4, r_1 (by decide), hs.2.1, if_pos (nI_le (Nat.le_refl _) (by omega))]
  · intro n i hj
    show m_X7_threadsOf_L4 N s (nI k) (n + 1) (nI i) _ = m_X7_threadsOf_L4 N s (nI k) n (nI (i + 1)) _
    rw [m_X7_threadsOf_L4, r_1 (by decide), hs.2.1, if_neg (nI_ge hj (by omega)), m_isAt hw hs hj hk, r_bind, bs]
    simp only [nm]
    cases q : isat lo hi i k with
    | false => simp only [Bool.false_eq_true, if_false, if_true, or_zero, nI_1, Nat.add_zero]
    | true =>
      rw [if_pos rfl, if_neg (by decide), if_pos rfl, sh1 (by omega), nor_bit (bs_lt _ _), nI_1]
theorem m_degree {N K T k : Nat} {lo hi co : Nat → Nat} {s : Nat → Int32} (hN : 1000 ≤ N) (hw : wt T lo hi co) (hs : MN K T lo hi co s) (hk : k < 2 ^ 31) : m_X7_degree N s (nI k) = some (nI (deg T lo hi k)) := by
  unfold m_X7_degree
  have l := bs_lt (fun t => isat lo hi t k) T
  have l2 : 2 ^ T ≤ 2 ^ 24 := p2le (by have := hw.1; omega)
  have c := ct_le (fun t => isat lo hi t k) T
  have e := pop_bs (fun t => isat lo hi t k) 31 T (by have := hw.1; omega)
  rw [m_threadsOf hN hw hs hk, r_bind, r_ones hN (by omega) (by have := hw.1; omega), r_bind, e]
  rfl
theorem m_isThread {N K T : Nat} {lo hi co : Nat → Nat} {s : Nat → Int32} {t : Int32} (hT : T ≤ 21) (hs : MN K T lo hi co s) : m_X7_isThread N s t = some (if ∃ i, i < T ∧ t = nI i then 1 else 0) := by
  unfold m_X7_isThread m_X7_in
  rw [r_1 (by decide), hs.2.1]
  rcases pk_ix t (show T < 2 ^ 31 by omega) with h | h | ⟨j, hj, rfl⟩
  · rw [if_pos h, r_bind, if_neg]
    · rfl
    · rintro ⟨i, hi, rfl⟩
      exact nI_pos (n := i) (by omega) h
  · have e : nI T - 1 < t := by
      rw [Int32.lt_iff_toInt_lt]
      have h := Int32.le_iff_toInt_le.mp h
      have e : (nI T - 1).toInt = (T : Int) - 1 := pk_sub_toInt (a := T) (b := 1) (by omega) (by omega)
      rw [nI_toInt (by omega)] at h
      omega
    have e2 : ¬ t < 0 := by
      intro g
      have h := Int32.le_iff_toInt_le.mp h
      have g := Int32.lt_iff_toInt_lt.mp g
      rw [nI_toInt (by omega)] at h
      have : (0 : Int32).toInt = 0 := rfl
      omega
    rw [if_neg e2, if_pos e, r_bind, if_neg]
    · rfl
    · rintro ⟨i, hi, rfl⟩
      exact nI_ge hi (by omega) h
  · have e : ¬ nI T - 1 < nI j := by
      intro g
      have g := Int32.lt_iff_toInt_lt.mp g
      have e : (nI T - 1).toInt = (T : Int) - 1 := pk_sub_toInt (a := T) (b := 1) (by omega) (by omega)
      rw [nI_toInt (by omega)] at g
      omega
    rw [if_neg (nI_pos (by omega)), if_neg e, r_bind, if_pos ⟨j, hj, rfl⟩]
    rfl
theorem m_isKnot {N K T : Nat} {lo hi co : Nat → Nat} {s : Nat → Int32} {t : Int32} (hK : K ≤ 14) (hs : MN K T lo hi co s) : m_X7_isKnot N s t = some (if ∃ i, i < K ∧ t = nI i then 1 else 0) := by
  have h2 : MN T K (fun _ => 0) (fun _ => 0) (fun _ => 0) (fun i => if i = 0 then s 1 else if i = 1 then s 0 else nI 0) := by
    refine ⟨?_, ?_, ?_⟩
    · exact hs.2.1
    · exact hs.1
    · intro i _
      refine ⟨?_, ?_, ?_⟩ <;> (show (if _ then _ else if _ then _ else _) = _) <;> rw [if_neg (by omega), if_neg (by omega)]
  have := m_isThread (N := N) (t := t) (show K ≤ 21 by omega) h2
  unfold m_X7_isThread at this
  unfold m_X7_isKnot
  rw [r_1 (by decide)] at this
  rw [r_0 (by decide)]
  exact this
theorem x_find {N T a : Nat} {lo hi co : Nat → Nat} {e : Nat → Int32} {R : Int32} (hN : 1000 ≤ N) (hw : wt T lo hi co) (he : XE T lo hi e) (ha : a < 2 ^ 31) (h : (∃ i, i < T ∧ em lo hi i = a ∧ (∀ j, j < i → em lo hi j ≠ a) ∧ R = nI i) ∨ ((∀ i, i < T → em lo hi i ≠ a) ∧ R = -1)) : m_X2_find N (nI T) e (nI a) = some R := by
  have hT := hw.1
  have lt : ∀ i, i < T → em lo hi i < 2 ^ 31 := fun i hi' => em_lt (hw.2 i hi').1 (by have := (hw.2 i hi').2.1; omega)
  unfold m_X2_find
  rcases h with ⟨m, hm, e1, e2, rfl⟩ | ⟨e1, rfl⟩
  · refine for_up (fun n i (_ : Unit) => m_X2_find_L2 N (nI T) e (nI a) n (nI i)) m (fun _ => ()) _ ?_ ?_ m N 0 (by omega) (by omega)
    · intro n
      show m_X2_find_L2 N (nI T) e (nI a) (n + 1) (nI m) = _
      rw [m_X2_find_L2, if_neg (nI_ge hm (by omega)), x_ends hT he hm, r_bind, if_pos (by rw [e1])]
    · intro n i hj
      show m_X2_find_L2 N (nI T) e (nI a) (n + 1) (nI i) = m_X2_find_L2 N (nI T) e (nI a) n (nI (i + 1))
      rw [m_X2_find_L2, if_neg (nI_ge (show i < T by omega) (by omega)), x_ends hT he (by omega), r_bind, if_neg (fun g => e2 i hj ((nI_eq (lt i (by omega)) ha).mp g)), nI_1]
  · refine for_up (fun n i (_ : Unit) => m_X2_find_L2 N (nI T) e (nI a) n (nI i)) T (fun _ => ()) _ ?_ ?_ T N 0 (by omega) (by omega)
    · intro n
      show m_X2_find_L2 N (nI T) e (nI a) (n + 1) (nI T) = _
      rw [m_X2_find_L2, if_pos (nI_le (Nat.le_refl _) (by omega))]
    · intro n i hj
      show m_X2_find_L2 N (nI T) e (nI a) (n + 1) (nI i) = m_X2_find_L2 N (nI T) e (nI a) n (nI (i + 1))
      rw [m_X2_find_L2, if_neg (nI_ge hj (by omega)), x_ends hT he hj, r_bind, if_neg (fun g => e1 i hj ((nI_eq (lt i hj) ha).mp g)), nI_1]
/-- the thread between two knots -/
def joins (lo hi : Nat → Nat) (t a b : Nat) : Bool := (lo t == a && hi t == b) || (lo t == b && hi t == a)
theorem m_between {N K T a b : Nat} {lo hi co : Nat → Nat} {s : Nat → Int32} {R : Int32} (hN : 1000 ≤ N) (hw : wt T lo hi co) (hs : MN K T lo hi co s) (ha : a < 2 ^ 31) (hb : b < 2 ^ 31) (h : (∃ i, i < T ∧ joins lo hi i a b = true ∧ (∀ j, j < i → joins lo hi j a b = false) ∧ R = nI i) ∨ ((∀ i, i < T → joins lo hi i a b = false) ∧ R = -5)) : m_X7_threadBetween N s (nI a) (nI b) = some R := by
  have hT := hw.1
  have step : ∀ n i, i < T → joins lo hi i a b = false → m_X7_threadBetween_L2 N s (nI a) (nI b) (n + 1) (nI i) = m_X7_threadBetween_L2 N s (nI a) (nI b) n (nI (i + 1)) := by
    intro n i hj hf
    obtain ⟨h1, h2, -⟩ := hw.2 i hj
    rw [m_X7_threadBetween_L2, r_1 (by decide), hs.2.1, if_neg (nI_ge hj (by omega)), m_isAt hw hs hj ha, r_bind, m_isAt hw hs hj hb, nI_1]
    by_cases q : a = b
    · rw [if_pos (by rw [q])]
    · rw [if_neg (fun g => q ((nI_eq ha hb).mp g))]
      cases qa : isat lo hi i a with
      | false => simp
      | true =>
        cases qb : isat lo hi i b with
        | false => simp [r_bind]
        | true =>
          exfalso
          unfold isat at qa qb
          unfold joins at hf
          simp at qa qb hf
          omega
  unfold m_X7_threadBetween
  rcases h with ⟨m, hm, e1, e2, rfl⟩ | ⟨e1, rfl⟩
  · refine for_up (fun n i (_ : Unit) => m_X7_threadBetween_L2 N s (nI a) (nI b) n (nI i)) m (fun _ => ()) _ ?_ ?_ m N 0 (by omega) (by omega)
    · intro n
      show m_X7_threadBetween_L2 N s (nI a) (nI b) (n + 1) (nI m) = _
      obtain ⟨h1, h2, -⟩ := hw.2 m hm
      have q : a ≠ b := by unfold joins at e1; simp at e1; omega
      have qa : isat lo hi m a = true := by unfold joins at e1; unfold isat; simp at e1 ⊢; omega
      have qb : isat lo hi m b = true := by unfold joins at e1; unfold isat; simp at e1 ⊢; omega
      rw [m_X7_threadBetween_L2, r_1 (by decide), hs.2.1, if_neg (nI_ge hm (by omega)), m_isAt hw hs hm ha, r_bind, m_isAt hw hs hm hb, if_neg (fun g => q ((nI_eq ha hb).mp g)), qa, qb]
      rfl
    · intro n i hj
      exact step n i (by omega) (e2 i hj)
  · refine for_up (fun n i (_ : Unit) => m_X7_threadBetween_L2 N s (nI a) (nI b) n (nI i)) T (fun _ => ()) _ ?_ ?_ T N 0 (by omega) (by omega)
    · intro n
      show m_X7_threadBetween_L2 N s (nI a) (nI b) (n + 1) (nI T) = _
      rw [m_X7_threadBetween_L2, r_1 (by decide), hs.2.1, if_pos (nI_le (Nat.le_refl _) (by omega))]
    · intro n i hj
      exact step n i hj (e1 i hj)
theorem em_joins {lo hi : Nat → Nat} {t a b : Nat} (h : lo t < hi t) (hab : a ≠ b) : em lo hi t = 2 ^ a ||| 2 ^ b ↔ joins lo hi t a b = true := by
  have key : ∀ k, (2 ^ a ||| 2 ^ b).testBit k = (a == k || b == k) := by
    intro k
    rw [Nat.testBit_or, Nat.testBit_two_pow, Nat.testBit_two_pow]
    rfl
  constructor
  · intro g
    have f : ∀ k, isat lo hi t k = (a == k || b == k) := fun k => by rw [← tb_em h, g, key]
    have f1 := f a
    have f2 := f b
    have f3 := f (lo t)
    have f4 := f (hi t)
    unfold isat at f1 f2 f3 f4
    unfold joins
    simp at f1 f2 f3 f4 ⊢
    omega
  · intro g
    apply Nat.eq_of_testBit_eq
    intro k
    rw [tb_em h, key]
    unfold joins at g
    unfold isat
    simp at g
    rcases g with ⟨rfl, rfl⟩ | ⟨rfl, rfl⟩
    · rfl
    · rw [Bool.or_comm]
/-- the first thread of a kind -/
theorem first_of (p : Nat → Bool) : ∀ T, (∃ i, i < T ∧ p i = true ∧ ∀ j, j < i → p j = false) ∨ ∀ i, i < T → p i = false
  | 0 => Or.inr (fun i h => absurd h (Nat.not_lt_zero i))
  | T + 1 => by
    rcases first_of p T with ⟨i, h1, h2⟩ | h
    · exact Or.inl ⟨i, by omega, h2⟩
    · cases q : p T with
      | true => exact Or.inl ⟨T, by omega, q, h⟩
      | false =>
        refine Or.inr (fun i hi => ?_)
        rcases Nat.lt_or_ge i T with g | g
        · exact h i g
        · rw [show i = T by omega]; exact q
