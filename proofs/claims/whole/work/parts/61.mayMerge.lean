-- whether a triangle may be merged
def ouS (S : Nat) (lo hi : Nat → Nat) (t : Nat) : Nat := ad (em lo hi t) S
def snS (S : Nat) (lo hi : Nat → Nat) : Nat → Nat := oa (fun t => if ouS S lo hi t = em lo hi t then 0 else ouS S lo hi t)
def clash (S : Nat) (lo hi : Nat → Nat) : Nat → Bool := an (fun t => !(ouS S lo hi t == em lo hi t) && !(snS S lo hi t &&& ouS S lo hi t == 0))
theorem ouS_lt {S t : Nat} {lo hi : Nat → Nat} (h : lo t < hi t) (h2 : hi t < 14) : ouS S lo hi t < 2 ^ 14 := by
  unfold ouS ad
  exact Nat.xor_lt_two_pow (em_lt h h2) (Nat.lt_of_le_of_lt Nat.and_le_left (em_lt h h2))
theorem x_mayMerge {N T S : Nat} {lo hi co : Nat → Nat} {e : Nat → Int32} (hN : 1000 ≤ N) (hw : wt T lo hi co) (he : XE T lo hi e) (hS : S < 2 ^ 31) : m_X2_mayMerge N (nI T) e (nI S) = some (if clash S lo hi T then 0 else 1) := by
  have hT := hw.1
  have ol : ∀ i, i < T → ouS S lo hi i < 2 ^ 14 := fun i hi' => ouS_lt (hw.2 i hi').1 (hw.2 i hi').2.1
  have sl : ∀ i, i ≤ T → snS S lo hi i < 2 ^ 14 := fun i hi' => oa_lt (fun j hj => by
    split
    · exact Nat.two_pow_pos _
    · exact ol j (by omega))
  have key : ∀ (d n i : Nat), i + d = T → d < n → clash S lo hi i = false → m_X2_mayMerge_L4 N (nI T) e (nI S) n (nI i) (nI (snS S lo hi i)) = some (if clash S lo hi T then 0 else 1) := by
    intro d
    induction d with
    | zero =>
      intro n i hi' hn hf
      obtain ⟨n, rfl⟩ : ∃ m, n = m + 1 := ⟨n - 1, by omega⟩
      have : i = T := by omega
      subst this
      rw [m_X2_mayMerge_L4, if_pos (nI_le (Nat.le_refl _) (by omega)), hf]
      rfl
    | succ d ih =>
      intro n i hi' hn hf
      obtain ⟨n, rfl⟩ : ∃ m, n = m + 1 := ⟨n - 1, by omega⟩
      have hj : i < T := by omega
      obtain ⟨h1, h2, h3⟩ := hw.2 i hj
      have o1 := ol i hj
      have s1 := sl i (by omega)
      have e1 := em_lt h1 h2
      have stepS : snS S lo hi (i + 1) = snS S lo hi i ||| (if ouS S lo hi i = em lo hi i then 0 else ouS S lo hi i) := rfl
      have stepC : clash S lo hi (i + 1) = (clash S lo hi i || (!(ouS S lo hi i == em lo hi i) && !(snS S lo hi i &&& ouS S lo hi i == 0))) := rfl
      have nx := ih n (i + 1) (by omega) (by omega)
      rw [m_X2_mayMerge_L4, if_neg (nI_ge hj (by omega)), x_ends hT he hj, r_bind]
      simp only [nm]
      rw [r_bind, nandn, nI_1]
      show (if nI (ouS S lo hi i) = nI (em lo hi i) then _ else _) = _
      by_cases q : ouS S lo hi i = em lo hi i
      · rw [if_pos (by rw [q])]
        rw [if_pos q, Nat.or_zero] at stepS
        rw [← stepS]
        refine nx ?_
        rw [stepC, hf, q]
        simp
      · rw [if_neg (fun w => q ((nI_eq (by omega) (by omega)).mp w))]
        rw [if_neg q] at stepS
        show (if nI (snS S lo hi i) &&& nI (ouS S lo hi i) = 0 then _ else _) = _
        rw [nand]
        have al : snS S lo hi i &&& ouS S lo hi i < 2 ^ 31 := Nat.lt_of_le_of_lt Nat.and_le_left (by omega)
        by_cases q2 : snS S lo hi i &&& ouS S lo hi i = 0
        · rw [if_pos ((nI_eq0 al).mpr q2)]
          show m_X2_mayMerge_L4 N (nI T) e (nI S) n (nI (i + 1)) (nI (snS S lo hi i) ||| nI (ouS S lo hi i)) = _
          rw [nor, ← stepS]
          refine nx ?_
          rw [stepC, hf, q2]
          simp
        · rw [if_neg (fun w => q2 ((nI_eq0 al).mp w))]
          have : clash S lo hi T = true := (an_iff _ _).mpr ⟨i, hj, by simp [q, q2]⟩
          rw [this]
          rfl
  exact key T N 0 (by omega) (by omega) rfl
theorem tb_ouS {S t j : Nat} {lo hi : Nat → Nat} (h : lo t < hi t) : (ouS S lo hi t).testBit j = (isat lo hi t j && !S.testBit j) := by
  unfold ouS
  rw [tb_ad, tb_em h]
theorem ouS_same {S t : Nat} {lo hi : Nat → Nat} (h : lo t < hi t) : ouS S lo hi t = em lo hi t ↔ ∀ j, isat lo hi t j = true → S.testBit j = false := by
  constructor
  · intro q j hj
    have := congrArg (fun n => n.testBit j) q
    simp only [tb_ouS h, tb_em h] at this
    rw [hj] at this
    simpa using this
  · intro q
    apply Nat.eq_of_testBit_eq
    intro j
    rw [tb_ouS h, tb_em h]
    cases w : isat lo hi t j with
    | false => rfl
    | true => rw [q j w]; rfl
theorem and_ne0 {a b : Nat} : a &&& b ≠ 0 ↔ ∃ j, a.testBit j = true ∧ b.testBit j = true := by
  constructor
  · intro h
    apply Classical.byContradiction
    intro g
    apply h
    apply Nat.eq_of_testBit_eq
    intro j
    rw [Nat.testBit_and, Nat.zero_testBit]
    cases w : a.testBit j with
    | false => rfl
    | true =>
      cases w2 : b.testBit j with
      | false => rfl
      | true => exact absurd ⟨j, w, w2⟩ g
  · rintro ⟨j, h1, h2⟩ g
    have := congrArg (fun n => n.testBit j) g
    simp only [Nat.testBit_and, h1, h2, Nat.zero_testBit] at this
    cases this
/-- two threads that leave the set S meet outside -/
def meetS (T S : Nat) (lo hi : Nat → Nat) (u t : Nat) : Prop := u < T ∧ t < T ∧ u ≠ t ∧ ∃ j c d, isat lo hi u j = true ∧ isat lo hi t j = true ∧ S.testBit j = false ∧ isat lo hi u c = true ∧ S.testBit c = true ∧ isat lo hi t d = true ∧ S.testBit d = true
theorem clash_iff {T S : Nat} {lo hi co : Nat → Nat} (hw : wt T lo hi co) : clash S lo hi T = true ↔ ∃ u t, meetS T S lo hi u t := by
  have sb : ∀ t j, t ≤ T → ((snS S lo hi t).testBit j = true ↔ ∃ u, u < t ∧ ouS S lo hi u ≠ em lo hi u ∧ (ouS S lo hi u).testBit j = true) := fun t j ht => by
    unfold snS
    rw [tb_oa, an_iff]
    constructor
    · rintro ⟨u, h1, h2⟩
      by_cases q : ouS S lo hi u = em lo hi u
      · rw [if_pos q, Nat.zero_testBit] at h2; cases h2
      · rw [if_neg q] at h2; exact ⟨u, h1, q, h2⟩
    · rintro ⟨u, h1, q, h2⟩
      exact ⟨u, h1, by rw [if_neg q]; exact h2⟩
  have lv : ∀ t, t < T → (ouS S lo hi t ≠ em lo hi t ↔ ∃ c, isat lo hi t c = true ∧ S.testBit c = true) := fun t ht => by
    rw [Ne, ouS_same (hw.2 t ht).1]
    constructor
    · intro h
      apply Classical.byContradiction
      intro g
      apply h
      intro j hj
      cases w : S.testBit j with
      | false => rfl
      | true => exact absurd ⟨j, hj, w⟩ g
    · rintro ⟨c, h1, h2⟩ h
      rw [h c h1] at h2
      cases h2
  unfold clash
  rw [an_iff]
  constructor
  · rintro ⟨t, ht, h⟩
    simp only [Bool.and_eq_true, Bool.not_eq_true', beq_eq_false_iff_ne] at h
    obtain ⟨h1, h2⟩ := h
    obtain ⟨j, h3, h4⟩ := and_ne0.mp h2
    obtain ⟨u, hu, h5, h6⟩ := (sb t j (by omega)).mp h3
    rw [tb_ouS (hw.2 t ht).1, Bool.and_eq_true] at h4
    rw [tb_ouS (hw.2 u (by omega)).1, Bool.and_eq_true] at h6
    obtain ⟨c, g1, g2⟩ := (lv u (by omega)).mp h5
    obtain ⟨d, g3, g4⟩ := (lv t ht).mp h1
    exact ⟨u, t, by omega, ht, by omega, j, c, d, h6.1, h4.1, by simpa using h4.2, g1, g2, g3, g4⟩
  · rintro ⟨u, t, h⟩
    have go : ∀ u t, u < t → meetS T S lo hi u t → ∃ i, i < T ∧ (!(ouS S lo hi i == em lo hi i) && !(snS S lo hi i &&& ouS S lo hi i == 0)) = true := by
      rintro u t hut ⟨hu, ht, -, j, c, d, h1, h2, h3, g1, g2, g3, g4⟩
      refine ⟨t, ht, ?_⟩
      have a := (lv t ht).mpr ⟨d, g3, g4⟩
      have b : snS S lo hi t &&& ouS S lo hi t ≠ 0 := and_ne0.mpr ⟨j, (sb t j (by omega)).mpr ⟨u, hut, (lv u hu).mpr ⟨c, g1, g2⟩, by rw [tb_ouS (hw.2 u hu).1, h1, h3]; rfl⟩, by rw [tb_ouS (hw.2 t ht).1, h2, h3]; rfl⟩
      simp [a, b]
    rcases Nat.lt_or_gt_of_ne h.2.2.1 with q | q
    · exact go u t q h
    · obtain ⟨hu, ht, hne, j, c, d, h1, h2, h3, g1, g2, g3, g4⟩ := h
      exact go t u q ⟨ht, hu, fun w => hne w.symm, j, d, c, h2, h1, h3, g3, g4, g1, g2⟩
theorem tri_S {k a b j : Nat} (hab : a < b) : ((2 ^ a + 2 ^ b) ||| 2 ^ k).testBit j = (j == k || j == a || j == b) := by
  rw [Nat.testBit_or, t2 hab, Nat.testBit_two_pow, Bool.eq_iff_iff]
  simp
  omega
theorem isat_L {L : List TH} {t j : Nat} {x : TH} (h : L[t]? = some x) : isat (fl L) (fh L) t j = atk j x := by
  unfold isat fl fh atk
  rw [getD_some h]
theorem atk_oth {c : Nat} {x : TH} (h : atk c x = true) : atk (oth c x) x = true := by
  unfold atk at h ⊢
  unfold oth
  split <;> simp
theorem oth_is {K c j : Nat} {x : TH} (ho : okx K x) (h : atk c x = true) (hj : atk j x = true) (hne : j ≠ c) : oth c x = j := by
  have := ho.1
  unfold atk at h hj
  simp at h hj
  unfold oth
  split <;> omega
theorem clash_tri {K k a b tk ta tb : Nat} {L : List TH} {xk xa xb : TH} (h : Tri K L k a b tk ta tb xk xa xb) : clash ((2 ^ a + 2 ^ b) ||| 2 ^ k) (fl L) (fh L) L.length = true ↔ (oth a xa = oth b xb ∨ oth a xa = oth k xk ∨ oth b xb = oth k xk) := by
  obtain ⟨hW, ⟨hk, hab, hb, hak, hbk⟩, -, lk, la, lb'⟩ := h
  have ok : ∀ {u : Nat} {y : TH}, L[u]? = some y → okx K y := fun {u y} hy => hW.2.1 y (List.mem_of_getElem? hy)
  rw [clash_iff hW.wt]
  have who : ∀ u y c j, L[u]? = some y → atk c y = true → atk j y = true → (c = k ∨ c = a ∨ c = b) → ¬ (j = k ∨ j = a ∨ j = b) → (u = tk ∧ j = oth k xk) ∨ (u = ta ∧ j = oth a xa) ∨ (u = tb ∧ j = oth b xb) := by
    intro u y c j hy hc hj hin hout
    have e := oth_is (ok hy) hc hj (by omega)
    rcases hin with rfl | rfl | rfl
    · have := lk.2.2.2.2 u y hy hc
      rw [e] at this
      have : u = tk := by omega
      subst this
      rw [lk.1] at hy
      cases hy
      exact Or.inl ⟨rfl, e.symm⟩
    · have := la.2.2.2.2 u y hy hc
      rw [e] at this
      have : u = ta := by omega
      subst this
      rw [la.1] at hy
      cases hy
      exact Or.inr (Or.inl ⟨rfl, e.symm⟩)
    · have := lb'.2.2.2.2 u y hy hc
      rw [e] at this
      have : u = tb := by omega
      subst this
      rw [lb'.1] at hy
      cases hy
      exact Or.inr (Or.inr ⟨rfl, e.symm⟩)
  have tS : ∀ j, ((2 ^ a + 2 ^ b) ||| 2 ^ k).testBit j = true ↔ (j = k ∨ j = a ∨ j = b) := fun j => by
    rw [tri_S hab]
    simp
    omega
  have tF : ∀ j, ((2 ^ a + 2 ^ b) ||| 2 ^ k).testBit j = false ↔ ¬ (j = k ∨ j = a ∨ j = b) := fun j => by
    rw [← tS]
    simp
  constructor
  · rintro ⟨u, t, hu, ht, hne, j, c, d, h1, h2, h3, g1, g2, g3, g4⟩
    obtain ⟨y, hy⟩ := some_of hu
    obtain ⟨z, hz⟩ := some_of ht
    rw [isat_L hy] at h1 g1
    rw [isat_L hz] at h2 g3
    have a1 := who u y c j hy g1 h1 ((tS c).mp g2) ((tF j).mp h3)
    have a2 := who t z d j hz g3 h2 ((tS d).mp g4) ((tF j).mp h3)
    omega
  · have pr : ∀ c d e t x c' d' e' t' x', leads L c d e t x → leads L c' d' e' t' x' → c ≠ c' → (c' = d ∨ c' = e) → (c = k ∨ c = a ∨ c = b) → (c' = k ∨ c' = a ∨ c' = b) → ¬ (oth c x = k ∨ oth c x = a ∨ oth c x = b) → oth c x = oth c' x' → ∃ u t, meetS L.length ((2 ^ a + 2 ^ b) ||| 2 ^ k) (fl L) (fh L) u t := by
      intro c d e t x c' d' e' t' x' l1 l2 hne hin i1 i2 hout he
      refine ⟨t, t', lt_of l1.1, lt_of l2.1, fun w => ?_, oth c x, c, c', ?_, ?_, (tF _).mpr hout, ?_, (tS c).mpr i1, ?_, (tS c').mpr i2⟩
      · subst w
        have w2 := l2.1
        rw [l1.1] at w2
        cases w2
        have := oth_is (ok l1.1) l1.2.1 l2.2.1 (fun w => hne w.symm)
        have a1 := l1.2.2.1
        have a2 := l1.2.2.2.1
        omega
      · rw [isat_L l1.1]; exact atk_oth l1.2.1
      · rw [isat_L l2.1, he]; exact atk_oth l2.2.1
      · rw [isat_L l1.1]; exact l1.2.1
      · rw [isat_L l2.1]; exact l2.2.1
    have nk := oth_ne (k := k) (ok lk.1)
    have na := oth_ne (k := a) (ok la.1)
    have nb' := oth_ne (k := b) (ok lb'.1)
    have := lk.2.2.1
    have := lk.2.2.2.1
    have := la.2.2.1
    have := la.2.2.2.1
    have := lb'.2.2.1
    have := lb'.2.2.2.1
    rintro (g | g | g)
    · exact pr _ _ _ _ _ _ _ _ _ _ la lb' (by omega) (by omega) (by omega) (by omega) (by omega) g
    · exact pr _ _ _ _ _ _ _ _ _ _ la lk (by omega) (by omega) (by omega) (by omega) (by omega) g
    · exact pr _ _ _ _ _ _ _ _ _ _ lb' lk (by omega) (by omega) (by omega) (by omega) (by omega) g
