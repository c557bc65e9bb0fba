-- 60.triangle.lean.txt
section
-- a knot of three threads in a triangle
theorem ks1_of {p : TH → Bool} : ∀ {L : List TH}, L.countP p = 1 → ∃ (t : Nat) (x : TH), L[t]? = some x ∧ p x = true ∧ ∀ i y, L[i]? = some y → p y = true → i = t
  | [], h => by simp at h
  | z :: L, h => by
    rw [List.countP_cons] at h
    by_cases q : p z = true
    · rw [if_pos q] at h
      have h0 : L.countP p = 0 := by omega
      rw [List.countP_eq_zero] at h0
      refine ⟨0, z, rfl, q, fun i y hy hp => ?_⟩
      cases i with
      | zero => rfl
      | succ i => exact absurd hp (h0 y (List.mem_of_getElem? (by simpa using hy)))
    · rw [if_neg q] at h
      obtain ⟨t, x, h1, h2, h3⟩ := ks1_of (L := L) (by omega)
      refine ⟨t + 1, x, by simpa using h1, h2, fun i y hy hp => ?_⟩
      cases i with
      | zero =>
        simp at hy
        subst hy
        exact absurd hp q
      | succ i => rw [h3 i y (by simpa using hy) hp]
theorem cnt_pos {p : TH → Bool} {L : List TH} (h : ∃ x ∈ L, p x = true) : 0 < L.countP p := by
  obtain ⟨x, hm, hx⟩ := h
  refine Nat.pos_of_ne_zero (fun g => ?_)
  rw [List.countP_eq_zero] at g
  exact g x hm hx
def lnk (c d : Nat) (x : TH) : Bool := atk c x && (oth c x == d)
theorem lnk_iff {K c d : Nat} {x : TH} (h : okx K x) : lnk c d x = true ↔ (x.1 = c ∧ x.2.1 = d) ∨ (x.1 = d ∧ x.2.1 = c) := by
  have := h.1
  unfold lnk atk oth
  by_cases q : x.1 = c
  · rw [if_pos q]
    simp
    omega
  · rw [if_neg q]
    simp
    omega
theorem lnk_one {K c d : Nat} {L : List TH} (hW : WL K L) : L.countP (lnk c d) ≤ 1 := by
  have key : ∀ M : List TH, M.Pairwise apart → (∀ x ∈ M, okx K x) → M.countP (lnk c d) ≤ 1 := by
    intro M
    induction M with
    | nil => intro _ _; simp
    | cons z M ih =>
      intro hp hok
      rw [List.pairwise_cons] at hp
      rw [List.countP_cons]
      have h1 := ih hp.2 (fun x hx => hok x (List.mem_cons_of_mem _ hx))
      by_cases q : lnk c d z = true
      · have : M.countP (lnk c d) = 0 := List.countP_eq_zero.mpr (fun y hy g => by
          have oz := hok z List.mem_cons_self
          have oy := hok y (List.mem_cons_of_mem _ hy)
          have a := (lnk_iff oz).mp q
          have b := (lnk_iff oy).mp g
          have a1 := oz.1
          have b1 := oy.1
          exact hp.1 y hy (by omega))
        rw [if_pos q]
        omega
      · rw [if_neg q]
        omega
  exact key L hW.2.2.1 hW.2.1
theorem cnt3 {c d e : Nat} (hne : d ≠ e) : ∀ L : List TH, L.countP (atk c) = L.countP (lnk c d) + L.countP (lnk c e) + L.countP (fun x => atk c x && !(oth c x == d) && !(oth c x == e))
  | [] => rfl
  | z :: L => by
    rw [List.countP_cons, List.countP_cons, List.countP_cons, List.countP_cons, cnt3 hne L]
    unfold lnk
    cases atk c z with
    | false => simp
    | true =>
      by_cases q : oth c z = d
      · rw [q]
        simp [hne, Ne.symm hne]
        omega
      · by_cases q2 : oth c z = e
        · rw [q2]
          simp [hne, Ne.symm hne]
          omega
        · have e1 : (oth c z == d) = false := by simp [q]
          have e2 : (oth c z == e) = false := by simp [q2]
          rw [e1, e2]
          simp
          omega
def leads (L : List TH) (c d e t : Nat) (x : TH) : Prop := L[t]? = some x ∧ atk c x = true ∧ oth c x ≠ d ∧ oth c x ≠ e ∧ ∀ i y, L[i]? = some y → atk c y = true → oth c y = d ∨ oth c y = e ∨ i = t
theorem corner {K c d e : Nat} {L : List TH} (hW : WL K L) (h3 : L.countP (atk c) = 3) (hd : ∃ x ∈ L, lnk c d x = true) (he : ∃ x ∈ L, lnk c e x = true) (hne : d ≠ e) : ∃ t x, leads L c d e t x := by
  have a : 0 < L.countP (lnk c d) := cnt_pos hd
  have b : 0 < L.countP (lnk c e) := cnt_pos he
  have a1 := lnk_one (c := c) (d := d) hW
  have b1 := lnk_one (c := c) (d := e) hW
  have s := cnt3 (c := c) hne L
  obtain ⟨t, x, h1, h2, h4⟩ := ks1_of (p := fun x => atk c x && !(oth c x == d) && !(oth c x == e)) (L := L) (by omega)
  simp at h2
  refine ⟨t, x, h1, h2.1.1, h2.1.2, h2.2, fun i y hy hp => ?_⟩
  by_cases q : oth c y = d
  · exact Or.inl q
  · by_cases q2 : oth c y = e
    · exact Or.inr (Or.inl q2)
    · exact Or.inr (Or.inr (h4 i y hy (by simp [hp, q, q2])))
theorem leads.swp {L : List TH} {c d e t : Nat} {x : TH} (h : leads L c d e t x) : leads L c e d t x := ⟨h.1, h.2.1, h.2.2.2.1, h.2.2.1, fun i y hy hp => by have := h.2.2.2.2 i y hy hp; omega⟩
def Tri (K : Nat) (L : List TH) (k a b tk ta tb : Nat) (xk xa xb : TH) : Prop := WL K L ∧ (k < K ∧ a < b ∧ b < K ∧ a ≠ k ∧ b ≠ k) ∧ ((∃ x ∈ L, lnk k a x = true) ∧ (∃ x ∈ L, lnk k b x = true) ∧ (∃ x ∈ L, lnk a b x = true)) ∧ leads L k a b tk xk ∧ leads L a k b ta xa ∧ leads L b k a tb xb
theorem lnk_comm {K c d : Nat} {x : TH} (h : okx K x) : lnk c d x = lnk d c x := by
  rw [Bool.eq_iff_iff, lnk_iff h, lnk_iff h]
  omega
theorem fij_some {K : Nat} {g : Nat → Nat → Bool} : ∀ (d i : Nat) {p : Nat × Nat}, i + d = K → fij K g d i = some p → p.1 < p.2 ∧ p.2 < K ∧ g p.1 p.2 = true := by
  have fs : ∀ (h : Nat → Bool) (d j : Nat) {r : Nat}, fj h d j = some r → j ≤ r ∧ r < j + d ∧ h r = true := by
    intro h d
    induction d with
    | zero => intro j r q; cases q
    | succ d ih =>
      intro j r q
      unfold fj at q
      by_cases w : h j = true
      · rw [if_pos w] at q
        cases q
        exact ⟨Nat.le_refl _, by omega, w⟩
      · rw [if_neg w] at q
        have := ih (j + 1) q
        exact ⟨by omega, by omega, this.2.2⟩
  intro d
  induction d with
  | zero => intro i p _ q; cases q
  | succ d ih =>
    intro i p hi q
    unfold fij at q
    cases w : fj (g i) (K - (i + 1)) (i + 1) with
    | none => rw [w] at q; exact ih (i + 1) (by omega) q
    | some j =>
      rw [w] at q
      cases q
      have := fs (g i) _ _ w
      exact ⟨by show i < j; omega, by show j < K; omega, this.2.2⟩
theorem tri_of {K k : Nat} {L : List TH} (hW : WL K L) (hk : k < K) : crn K L.length (fl L) (fh L) k = 0 ∨ ∃ a b tk ta tb xk xa xb, crn K L.length (fl L) (fh L) k = 2 ^ a + 2 ^ b ∧ Tri K L k a b tk ta tb xk xa xb := by
  unfold crn
  by_cases q : deg L.length (fl L) (fh L) k = 3
  · rw [if_pos q]
    cases w : fij K (gd L.length (fl L) (fh L) k) K 0 with
    | none => exact Or.inl rfl
    | some p =>
      obtain ⟨h1, h2, h3⟩ := fij_some K 0 (by omega) w
      obtain ⟨a, b⟩ := p
      unfold gd at h3
      simp only [Bool.and_eq_true, beq_iff_eq] at h3
      obtain ⟨⟨⟨⟨na, nb'⟩, nj⟩, da⟩, db⟩ := h3
      have ln : ∀ j, (nb L.length (fl L) (fh L) k).testBit j = true → j ≠ k ∧ ∃ x ∈ L, lnk k j x = true := fun j hj => by
        obtain ⟨g1, t, g2, g3, g4⟩ := (tb_nb hW.wt).mp hj
        obtain ⟨x, hx⟩ := some_of g2
        have hm := List.mem_of_getElem? hx
        refine ⟨g1, x, hm, (lnk_iff (hW.2.1 x hm)).mpr ?_⟩
        unfold isat fl fh at g3 g4
        rw [getD_some hx] at g3 g4
        simp at g3 g4
        omega
      obtain ⟨nk, la⟩ := ln a na
      obtain ⟨nk2, lb'⟩ := ln b nb'
      have lj : ∃ x ∈ L, lnk a b x = true := by
        obtain ⟨t, g1, g2⟩ := (an_iff _ _).mp nj
        obtain ⟨x, hx⟩ := some_of g1
        have hm := List.mem_of_getElem? hx
        refine ⟨x, hm, (lnk_iff (hW.2.1 x hm)).mpr ?_⟩
        unfold joins fl fh at g2
        rw [getD_some hx] at g2
        simp at g2
        omega
      have cm : ∀ c d, (∃ x ∈ L, lnk c d x = true) → ∃ x ∈ L, lnk d c x = true := fun c d ⟨x, hm, hx⟩ => ⟨x, hm, by rw [lnk_comm (hW.2.1 x hm)]; exact hx⟩
      rw [deg_L] at q da db
      have h1 : a < b := h1
      have h2 : b < K := h2
      obtain ⟨tk, xk, ok⟩ := corner hW q la lb' (by omega)
      obtain ⟨ta, xa, oa'⟩ := corner hW da (cm _ _ la) lj (by omega)
      obtain ⟨tb, xb, ob⟩ := corner hW db (cm _ _ lb') (cm _ _ lj) (by omega)
      exact Or.inr ⟨a, b, tk, ta, tb, xk, xa, xb, rfl, hW, ⟨hk, h1, h2, nk, nk2⟩, ⟨la, lb', lj⟩, ok, oa', ob⟩
  · rw [if_neg q]
    exact Or.inl rfl
-- the knot beyond
theorem beyond_set {K c d e t S : Nat} {L : List TH} {x : TH} (hW : WL K L) (h : leads L c d e t x) (hS : ∀ j, S.testBit j = (j == c || j == d || j == e)) : ad (nb L.length (fl L) (fh L) c) S = 2 ^ oth c x := by
  obtain ⟨h1, h2, h3, h4, h5⟩ := h
  have hm := List.mem_of_getElem? h1
  have ho := hW.2.1 x hm
  apply Nat.eq_of_testBit_eq
  intro j
  rw [tb_ad, hS, Nat.testBit_two_pow, Bool.eq_iff_iff, Bool.and_eq_true, tb_nb hW.wt]
  constructor
  · rintro ⟨⟨g1, u, g2, g3, g4⟩, g5⟩
    obtain ⟨y, hy⟩ := some_of g2
    have hoy := hW.2.1 y (List.mem_of_getElem? hy)
    unfold isat fl fh at g3 g4
    rw [getD_some hy] at g3 g4
    have e1 := h5 u y hy g3
    have e2 : oth c y = j := by
      have := hoy.1
      simp at g3 g4
      unfold oth
      split <;> omega
    simp at g5
    rw [e2] at e1
    have : u = t := by omega
    subst this
    rw [h1] at hy
    cases hy
    simp [e2]
  · intro g
    simp at g
    subst g
    refine ⟨⟨oth_ne ho, t, lt_of h1, ?_, ?_⟩, ?_⟩
    · unfold isat fl fh
      rw [getD_some h1]
      exact h2
    · unfold isat fl fh
      rw [getD_some h1]
      unfold atk at h2
      simp at h2 ⊢
      unfold oth
      split <;> omega
    · have := oth_ne (k := c) ho
      simp [this, h3, h4]
theorem m_beyond {N K c d e t S : Nat} {L : List TH} {x : TH} {s : Nat → Int32} (hN : 1000 ≤ N) (hW : WL K L) (hM : ML K L s) (hc : c < 14) (h : leads L c d e t x) (hS : ∀ j, S.testBit j = (j == c || j == d || j == e)) : m_X7_beyond N s (nI c) (nI S) = some (nI (oth c x)) := by
  have ho := hW.2.1 x (List.mem_of_getElem? h.1)
  have := oth_lt (k := c) ho
  have hK := hW.1
  unfold m_X7_beyond
  rw [m_neighbours hN hW.wt (ML_iff.mp hM) (by omega), r_bind, nandn, beyond_set hW h hS, m_lowest hN (p2lt (by omega)) (Nat.two_pow_pos _), r_bind, lb_p2 (by omega)]
end
-- 61.mayMerge.lean.txt
section
-- whether a triangle may be merged
def ouS (S : Nat) (lo hi : Nat → Nat) (t : Nat) : Nat := ad (em lo hi t) S
def snS (S : Nat) (lo hi : Nat → Nat) : Nat → Nat := oa (fun t => if ouS S lo hi t = em lo hi t then 0 else ouS S lo hi t)
def clash (S : Nat) (lo hi : Nat → Nat) : Nat → Bool := an (fun t => !(ouS S lo hi t == em lo hi t) && !(snS S lo hi t &&& ouS S lo hi t == 0))
theorem ouS_lt {S t : Nat} {lo hi : Nat → Nat} (h : lo t < hi t) (h2 : hi t < 14) : ouS S lo hi t < 2 ^ 14 := by
  unfold ouS ad
  exact Nat.xor_lt_two_pow (em_lt h h2) (Nat.lt_of_le_of_lt Nat.and_le_left (em_lt h h2))
theorem x_mayMerge {N T S : Nat} {lo hi co : Nat → Nat} {e : Nat → Int32} (hN : 1000 ≤ N) (hw : wt T lo hi co) (he : XE T lo hi e) (hS : S < 2 ^ 31) : m_X2_mayMerge N (nI T) e (nI S) = some (if clash S lo hi T then 0 else 1) := by
  have hT := hw.1
  have ol : ∀ i, i < T → ouS S lo hi i < 2 ^ 14 := fun i hi' => ouS_lt (hw.2 i hi').1 (hw.2 i hi').2.1
  have sl : ∀ i, i ≤ T → snS S lo hi i < 2 ^ 14 := fun i hi' => oa_lt (fun j hj => by
    split
    · exact Nat.two_pow_pos _
    · exact ol j (by omega))
  have key : ∀ (d n i : Nat), i + d = T → d < n → clash S lo hi i = false → m_X2_mayMerge_L4 N (nI T) e (nI S) n (nI i) (nI (snS S lo hi i)) = some (if clash S lo hi T then 0 else 1) := by
    intro d
    induction d with
    | zero =>
      intro n i hi' hn hf
      obtain ⟨n, rfl⟩ : ∃ m, n = m + 1 := ⟨n - 1, by omega⟩
      have : i = T := by omega
      subst this
      rw [m_X2_mayMerge_L4, if_pos (nI_le (Nat.le_refl _) (by omega)), hf]
      rfl
    | succ d ih =>
      intro n i hi' hn hf
      obtain ⟨n, rfl⟩ : ∃ m, n = m + 1 := ⟨n - 1, by omega⟩
      have hj : i < T := by omega
      obtain ⟨h1, h2, h3⟩ := hw.2 i hj
      have o1 := ol i hj
      have s1 := sl i (by omega)
      have e1 := em_lt h1 h2
      have stepS : snS S lo hi (i + 1) = snS S lo hi i ||| (if ouS S lo hi i = em lo hi i then 0 else ouS S lo hi i) := rfl
      have stepC : clash S lo hi (i + 1) = (clash S lo hi i || (!(ouS S lo hi i == em lo hi i) && !(snS S lo hi i &&& ouS S lo hi i == 0))) := rfl
      have nx := ih n (i + 1) (by omega) (by omega)
      rw [m_X2_mayMerge_L4, if_neg (nI_ge hj (by omega)), x_ends hT he hj, r_bind]
      simp only [nm]
      rw [r_bind, nandn, nI_1]
      show (if nI (ouS S lo hi i) = nI (em lo hi i) then _ else _) = _
      by_cases q : ouS S lo hi i = em lo hi i
      · rw [if_pos (by rw [q])]
        rw [if_pos q, Nat.or_zero] at stepS
        rw [← stepS]
        refine nx ?_
        rw [stepC, hf, q]
        simp
      · rw [if_neg (fun w => q ((nI_eq (by omega) (by omega)).mp w))]
        rw [if_neg q] at stepS
        show (if nI (snS S lo hi i) &&& nI (ouS S lo hi i) = 0 then _ else _) = _
        rw [nand]
        have al : snS S lo hi i &&& ouS S lo hi i < 2 ^ 31 := Nat.lt_of_le_of_lt Nat.and_le_left (by omega)
        by_cases q2 : snS S lo hi i &&& ouS S lo hi i = 0
        · rw [if_pos ((nI_eq0 al).mpr q2)]
          show m_X2_mayMerge_L4 N (nI T) e (nI S) n (nI (i + 1)) (nI (snS S lo hi i) ||| nI (ouS S lo hi i)) = _
          rw [nor, ← stepS]
          refine nx ?_
          rw [stepC, hf, q2]
          simp
        · rw [if_neg (fun w => q2 ((nI_eq0 al).mp w))]
          have : clash S lo hi T = true := (an_iff _ _).mpr ⟨i, hj, by simp [q, q2]⟩
          rw [this]
          rfl
  exact key T N 0 (by omega) (by omega) rfl
theorem tb_ouS {S t j : Nat} {lo hi : Nat → Nat} (h : lo t < hi t) : (ouS S lo hi t).testBit j = (isat lo hi t j && !S.testBit j) := by
  unfold ouS
  rw [tb_ad, tb_em h]
theorem ouS_same {S t : Nat} {lo hi : Nat → Nat} (h : lo t < hi t) : ouS S lo hi t = em lo hi t ↔ ∀ j, isat lo hi t j = true → S.testBit j = false := by
  constructor
  · intro q j hj
    have := congrArg (fun n => n.testBit j) q
    simp only [tb_ouS h, tb_em h] at this
    rw [hj] at this
    simpa using this
  · intro q
    apply Nat.eq_of_testBit_eq
    intro j
    rw [tb_ouS h, tb_em h]
    cases w : isat lo hi t j with
    | false => rfl
    | true => rw [q j w]; rfl
theorem and_ne0 {a b : Nat} : a &&& b ≠ 0 ↔ ∃ j, a.testBit j = true ∧ b.testBit j = true := by
  constructor
  · intro h
    apply Classical.byContradiction
    intro g
    apply h
    apply Nat.eq_of_testBit_eq
    intro j
    rw [Nat.testBit_and, Nat.zero_testBit]
    cases w : a.testBit j with
    | false => rfl
    | true =>
      cases w2 : b.testBit j with
      | false => rfl
      | true => exact absurd ⟨j, w, w2⟩ g
  · rintro ⟨j, h1, h2⟩ g
    have := congrArg (fun n => n.testBit j) g
    simp only [Nat.testBit_and, h1, h2, Nat.zero_testBit] at this
    cases this
/-- two threads that leave the set S meet outside -/
def meetS (T S : Nat) (lo hi : Nat → Nat) (u t : Nat) : Prop := u < T ∧ t < T ∧ u ≠ t ∧ ∃ j c d, isat lo hi u j = true ∧ isat lo hi t j = true ∧ S.testBit j = false ∧ isat lo hi u c = true ∧ S.testBit c = true ∧ isat lo hi t d = true ∧ S.testBit d = true
theorem clash_iff {T S : Nat} {lo hi co : Nat → Nat} (hw : wt T lo hi co) : clash S lo hi T = true ↔ ∃ u t, meetS T S lo hi u t := by
  have sb : ∀ t j, t ≤ T → ((snS S lo hi t).testBit j = true ↔ ∃ u, u < t ∧ ouS S lo hi u ≠ em lo hi u ∧ (ouS S lo hi u).testBit j = true) := fun t j ht => by
    unfold snS
    rw [tb_oa, an_iff]
    constructor
    · rintro ⟨u, h1, h2⟩
      by_cases q : ouS S lo hi u = em lo hi u
      · rw [if_pos q, Nat.zero_testBit] at h2; cases h2
      · rw [if_neg q] at h2; exact ⟨u, h1, q, h2⟩
    · rintro ⟨u, h1, q, h2⟩
      exact ⟨u, h1, by rw [if_neg q]; exact h2⟩
  have lv : ∀ t, t < T → (ouS S lo hi t ≠ em lo hi t ↔ ∃ c, isat lo hi t c = true ∧ S.testBit c = true) := fun t ht => by
    rw [Ne, ouS_same (hw.2 t ht).1]
    constructor
    · intro h
      apply Classical.byContradiction
      intro g
      apply h
      intro j hj
      cases w : S.testBit j with
      | false => rfl
      | true => exact absurd ⟨j, hj, w⟩ g
    · rintro ⟨c, h1, h2⟩ h
      rw [h c h1] at h2
      cases h2
  unfold clash
  rw [an_iff]
  constructor
  · rintro ⟨t, ht, h⟩
    simp only [Bool.and_eq_true, Bool.not_eq_true', beq_eq_false_iff_ne] at h
    obtain ⟨h1, h2⟩ := h
    obtain ⟨j, h3, h4⟩ := and_ne0.mp h2
    obtain ⟨u, hu, h5, h6⟩ := (sb t j (by omega)).mp h3
    rw [tb_ouS (hw.2 t ht).1, Bool.and_eq_true] at h4
    rw [tb_ouS (hw.2 u (by omega)).1, Bool.and_eq_true] at h6
    obtain ⟨c, g1, g2⟩ := (lv u (by omega)).mp h5
    obtain ⟨d, g3, g4⟩ := (lv t ht).mp h1
    exact ⟨u, t, by omega, ht, by omega, j, c, d, h6.1, h4.1, by simpa using h4.2, g1, g2, g3, g4⟩
  · rintro ⟨u, t, h⟩
    have go : ∀ u t, u < t → meetS T S lo hi u t → ∃ i, i < T ∧ (!(ouS S lo hi i == em lo hi i) && !(snS S lo hi i &&& ouS S lo hi i == 0)) = true := by
      rintro u t hut ⟨hu, ht, -, j, c, d, h1, h2, h3, g1, g2, g3, g4⟩
      refine ⟨t, ht, ?_⟩
      have a := (lv t ht).mpr ⟨d, g3, g4⟩
      have b : snS S lo hi t &&& ouS S lo hi t ≠ 0 := and_ne0.mpr ⟨j, (sb t j (by omega)).mpr ⟨u, hut, (lv u hu).mpr ⟨c, g1, g2⟩, by rw [tb_ouS (hw.2 u hu).1, h1, h3]; rfl⟩, by rw [tb_ouS (hw.2 t ht).1, h2, h3]; rfl⟩
      simp [a, b]
    rcases Nat.lt_or_gt_of_ne h.2.2.1 with q | q
    · exact go u t q h
    · obtain ⟨hu, ht, hne, j, c, d, h1, h2, h3, g1, g2, g3, g4⟩ := h
      exact go t u q ⟨ht, hu, fun w => hne w.symm, j, d, c, h2, h1, h3, g3, g4, g1, g2⟩
theorem tri_S {k a b j : Nat} (hab : a < b) : ((2 ^ a + 2 ^ b) ||| 2 ^ k).testBit j = (j == k || j == a || j == b) := by
  rw [Nat.testBit_or, t2 hab, Nat.testBit_two_pow, Bool.eq_iff_iff]
  simp
  omega
theorem isat_L {L : List TH} {t j : Nat} {x : TH} (h : L[t]? = some x) : isat (fl L) (fh L) t j = atk j x := by
  unfold isat fl fh atk
  rw [getD_some h]
theorem atk_oth {c : Nat} {x : TH} (h : atk c x = true) : atk (oth c x) x = true := by
  unfold atk at h ⊢
  unfold oth
  split <;> simp
theorem oth_is {K c j : Nat} {x : TH} (ho : okx K x) (h : atk c x = true) (hj : atk j x = true) (hne : j ≠ c) : oth c x = j := by
  have := ho.1
  unfold atk at h hj
  simp at h hj
  unfold oth
  split <;> omega
theorem clash_tri {K k a b tk ta tb : Nat} {L : List TH} {xk xa xb : TH} (h : Tri K L k a b tk ta tb xk xa xb) : clash ((2 ^ a + 2 ^ b) ||| 2 ^ k) (fl L) (fh L) L.length = true ↔ (oth a xa = oth b xb ∨ oth a xa = oth k xk ∨ oth b xb = oth k xk) := by
  obtain ⟨hW, ⟨hk, hab, hb, hak, hbk⟩, -, lk, la, lb'⟩ := h
  have ok : ∀ {u : Nat} {y : TH}, L[u]? = some y → okx K y := fun {u y} hy => hW.2.1 y (List.mem_of_getElem? hy)
  rw [clash_iff hW.wt]
  have who : ∀ u y c j, L[u]? = some y → atk c y = true → atk j y = true → (c = k ∨ c = a ∨ c = b) → ¬ (j = k ∨ j = a ∨ j = b) → (u = tk ∧ j = oth k xk) ∨ (u = ta ∧ j = oth a xa) ∨ (u = tb ∧ j = oth b xb) := by
    intro u y c j hy hc hj hin hout
    have e := oth_is (ok hy) hc hj (by omega)
    rcases hin with rfl | rfl | rfl
    · have := lk.2.2.2.2 u y hy hc
      rw [e] at this
      have : u = tk := by omega
      subst this
      rw [lk.1] at hy
      cases hy
      exact Or.inl ⟨rfl, e.symm⟩
    · have := la.2.2.2.2 u y hy hc
      rw [e] at this
      have : u = ta := by omega
      subst this
      rw [la.1] at hy
      cases hy
      exact Or.inr (Or.inl ⟨rfl, e.symm⟩)
    · have := lb'.2.2.2.2 u y hy hc
      rw [e] at this
      have : u = tb := by omega
      subst this
      rw [lb'.1] at hy
      cases hy
      exact Or.inr (Or.inr ⟨rfl, e.symm⟩)
  have tS : ∀ j, ((2 ^ a + 2 ^ b) ||| 2 ^ k).testBit j = true ↔ (j = k ∨ j = a ∨ j = b) := fun j => by
    rw [tri_S hab]
    simp
    omega
  have tF : ∀ j, ((2 ^ a + 2 ^ b) ||| 2 ^ k).testBit j = false ↔ ¬ (j = k ∨ j = a ∨ j = b) := fun j => by
    rw [← tS]
    simp
  constructor
  · rintro ⟨u, t, hu, ht, hne, j, c, d, h1, h2, h3, g1, g2, g3, g4⟩
    obtain ⟨y, hy⟩ := some_of hu
    obtain ⟨z, hz⟩ := some_of ht
    rw [isat_L hy] at h1 g1
    rw [isat_L hz] at h2 g3
    have a1 := who u y c j hy g1 h1 ((tS c).mp g2) ((tF j).mp h3)
    have a2 := who t z d j hz g3 h2 ((tS d).mp g4) ((tF j).mp h3)
    omega
  · have pr : ∀ c d e t x c' d' e' t' x', leads L c d e t x → leads L c' d' e' t' x' → c ≠ c' → (c' = d ∨ c' = e) → (c = k ∨ c = a ∨ c = b) → (c' = k ∨ c' = a ∨ c' = b) → ¬ (oth c x = k ∨ oth c x = a ∨ oth c x = b) → oth c x = oth c' x' → ∃ u t, meetS L.length ((2 ^ a + 2 ^ b) ||| 2 ^ k) (fl L) (fh L) u t := by
      intro c d e t x c' d' e' t' x' l1 l2 hne hin i1 i2 hout he
      refine ⟨t, t', lt_of l1.1, lt_of l2.1, fun w => ?_, oth c x, c, c', ?_, ?_, (tF _).mpr hout, ?_, (tS c).mpr i1, ?_, (tS c').mpr i2⟩
      · subst w
        have w2 := l2.1
        rw [l1.1] at w2
        cases w2
        have := oth_is (ok l1.1) l1.2.1 l2.2.1 (fun w => hne w.symm)
        have a1 := l1.2.2.1
        have a2 := l1.2.2.2.1
        omega
      · rw [isat_L l1.1]; exact atk_oth l1.2.1
      · rw [isat_L l2.1, he]; exact atk_oth l2.2.1
      · rw [isat_L l1.1]; exact l1.2.1
      · rw [isat_L l2.1]; exact l2.2.1
    have nk := oth_ne (k := k) (ok lk.1)
    have na := oth_ne (k := a) (ok la.1)
    have nb' := oth_ne (k := b) (ok lb'.1)
    have := lk.2.2.1
    have := lk.2.2.2.1
    have := la.2.2.1
    have := la.2.2.2.1
    have := lb'.2.2.1
    have := lb'.2.2.2.1
    rintro (g | g | g)
    · exact pr _ _ _ _ _ _ _ _ _ _ la lb' (by omega) (by omega) (by omega) (by omega) (by omega) g
    · exact pr _ _ _ _ _ _ _ _ _ _ la lk (by omega) (by omega) (by omega) (by omega) (by omega) g
    · exact pr _ _ _ _ _ _ _ _ _ _ lb' lk (by omega) (by omega) (by omega) (by omega) (by omega) g
end
-- 62.merge.lean.txt
section
-- the triangle goes into its knot
def mpx (f : TH → TH) (i : Nat) (L : List TH) : List TH := L.mapIdx (fun j x => if j < i then f x else x)
theorem mpx_at (f : TH → TH) (i : Nat) (L : List TH) (j : Nat) : (mpx f i L)[j]? = (L[j]?).map (fun x => if j < i then f x else x) := List.getElem?_mapIdx
theorem mpx_len (f : TH → TH) (i : Nat) (L : List TH) : (mpx f i L).length = L.length := List.length_mapIdx
theorem mpx_0 (f : TH → TH) (L : List TH) : mpx f 0 L = L := by
  apply List.ext_getElem?
  intro j
  rw [mpx_at]
  cases L[j]? <;> simp
theorem mpx_all (f : TH → TH) (L : List TH) : mpx f L.length L = L.map f := by
  apply List.ext_getElem?
  intro j
  rw [mpx_at, List.getElem?_map]
  cases h : L[j]? with
  | none => rfl
  | some x =>
    simp only [Option.map_some]
    rw [if_pos (lt_of h)]
theorem mpx_i {f : TH → TH} {i : Nat} {L : List TH} {x : TH} (h : L[i]? = some x) : (mpx f i L)[i]? = some x := by
  rw [mpx_at, h]
  simp
theorem mpx_set {f : TH → TH} {i : Nat} {L : List TH} {x : TH} (h : L[i]? = some x) : (mpx f i L).set i (f x) = mpx f (i + 1) L := by
  apply List.ext_getElem?
  intro j
  rw [mpx_at, List.getElem?_set, mpx_at, mpx_len]
  by_cases q : i = j
  · subst q
    rw [if_pos rfl, if_pos (lt_of h), h]
    simp
  · rw [if_neg q]
    cases L[j]? with
    | none => rfl
    | some y =>
      simp only [Option.map_some]
      by_cases g : j < i
      · rw [if_pos g, if_pos (by omega)]
      · rw [if_neg g, if_neg (by omega)]
theorem mpx_same {f : TH → TH} {i : Nat} {L : List TH} {x : TH} (h : L[i]? = some x) (e : f x = x) : mpx f (i + 1) L = mpx f i L := by
  rw [← mpx_set h, e]
  apply List.ext_getElem?
  intro j
  rw [List.getElem?_set]
  by_cases q : i = j
  · subst q
    rw [if_pos rfl, mpx_len, if_pos (lt_of h), mpx_i h]
  · rw [if_neg q]
def tr (k a b j : Nat) : Bool := j == k || j == a || j == b
def ldx (k a b : Nat) (x : TH) : TH := if tr k a b x.1 = tr k a b x.2.1 then x else (min (if tr k a b x.1 then x.2.1 else x.1) k, max (if tr k a b x.1 then x.2.1 else x.1) k, x.2.2)
theorem ad_tri {k a b : Nat} {x : TH} (hab : a < b) (hx : x.1 < x.2.1) : ad (2 ^ x.1 + 2 ^ x.2.1) ((2 ^ a + 2 ^ b) ||| 2 ^ k) = (if tr k a b x.1 then (if tr k a b x.2.1 then 0 else 2 ^ x.2.1) else (if tr k a b x.2.1 then 2 ^ x.1 else 2 ^ x.1 + 2 ^ x.2.1)) := by
  apply Nat.eq_of_testBit_eq
  intro j
  rw [tb_ad, t2 hx, tri_S hab]
  unfold tr
  by_cases e1 : x.1 = j
  · subst e1
    cases h1 : (x.1 == k || x.1 == a || x.1 == b) <;> cases h2 : (x.2.1 == k || x.2.1 == a || x.2.1 == b) <;> simp [Nat.testBit_two_pow, t2 hx] <;> omega
  · by_cases e2 : x.2.1 = j
    · subst e2
      cases h1 : (x.1 == k || x.1 == a || x.1 == b) <;> cases h2 : (x.2.1 == k || x.2.1 == a || x.2.1 == b) <;> simp [Nat.testBit_two_pow, t2 hx] <;> omega
    · have f1 : (x.1 == j) = false := by simp [e1]
      have f2 : (x.2.1 == j) = false := by simp [e2]
      rw [f1, f2]
      cases h1 : (x.1 == k || x.1 == a || x.1 == b) <;> cases h2 : (x.2.1 == k || x.2.1 == a || x.2.1 == b) <;> simp [Nat.testBit_two_pow, t2 hx, e1, e2]
theorem two_mm {f k : Nat} (h : f ≠ k) : 2 ^ f ||| 2 ^ k = 2 ^ min f k + 2 ^ max f k := by
  rcases Nat.lt_or_gt_of_ne h with q | q
  · rw [Nat.min_eq_left (by omega), Nat.max_eq_right (by omega), or_bit (p2lt q)]
  · rw [Nat.min_eq_right (by omega), Nat.max_eq_left (by omega), Nat.or_comm, or_bit (p2lt q)]
theorem ldx_ok {K k a b : Nat} {x : TH} (ho : okx K x) (hk : k < K) : okx K (ldx k a b x) := by
  obtain ⟨o1, o2, o3⟩ := ho
  unfold ldx
  split
  · exact ⟨o1, o2, o3⟩
  · rename_i h
    cases q : tr k a b x.1 with
    | true =>
      rw [q] at h
      have : x.2.1 ≠ k := fun w => h (by rw [w]; unfold tr; simp)
      rw [if_pos rfl]
      exact ⟨by show min x.2.1 k < max x.2.1 k; omega, by show max x.2.1 k < K; omega, o3⟩
    | false =>
      have : x.1 ≠ k := fun w => by rw [w] at q; unfold tr at q; simp at q
      rw [if_neg (by decide)]
      exact ⟨by show min x.1 k < max x.1 k; omega, by show max x.1 k < K; omega, o3⟩
theorem bff : ¬ (false = true) := by decide
theorem btt : true = true := rfl
theorem x_lead {N K k a b : Nat} {L : List TH} {e c : Nat → Int32} {J : (Nat → Int32) → Option (Int32 × Int32 × (Nat → Int32) × (Nat → Int32))} (hN : 1000 ≤ N) (hW : WL K L) (hk : k < K) (hab : a < b) (hb : b < K) (hX : XL L e c) : ∃ e', m_X2_merge_L2 N (nI L.length) (nI k) (nI (2 ^ a + 2 ^ b)) J N 0 e = J e' ∧ XL (L.map (ldx k a b)) e' c := by
  have hK := hW.1
  have h21 := hW.len21
  have := for_inv (fun n i (e : Nat → Int32) => m_X2_merge_L2 N (nI L.length) (nI k) (nI (2 ^ a + 2 ^ b)) J n (nI i) e) (fun i e => XL (mpx (ldx k a b) i L) e c) L.length (fun e => J e) (fun n e hP => by
      show m_X2_merge_L2 N (nI L.length) (nI k) (nI (2 ^ a + 2 ^ b)) J (n + 1) (nI L.length) e = _
      rw [m_X2_merge_L2, if_pos (nI_le (Nat.le_refl _) (by omega))]) (fun n i e hi hP => by
      show ∃ e', m_X2_merge_L2 N (nI L.length) (nI k) (nI (2 ^ a + 2 ^ b)) J (n + 1) (nI i) e = m_X2_merge_L2 N (nI L.length) (nI k) (nI (2 ^ a + 2 ^ b)) J n (nI (i + 1)) e' ∧ _
      obtain ⟨x, hx⟩ := some_of hi
      obtain ⟨o1, o2, o3⟩ := hW.2.1 x (List.mem_of_getElem? hx)
      have lE : 2 ^ x.1 + 2 ^ x.2.1 < 2 ^ 14 := em_lt (lo := fun _ => x.1) (hi := fun _ => x.2.1) (t := 0) o1 (by omega)
      have hend : m_X2_ends N e (nI i) = some (nI (2 ^ x.1 + 2 ^ x.2.1)) := by
        unfold m_X2_ends
        rw [x_at (by omega) (by decide), r_bind, (hP i x (mpx_i hx)).1]
      have v := ad_tri (k := k) hab o1
      have p1 := Nat.two_pow_pos x.1
      have p2 := Nat.two_pow_pos x.2.1
      rw [m_X2_merge_L2, if_neg (nI_ge hi (by omega)), hend, r_bind, m_bit (by omega), r_bind]
      simp only [nm]
      rw [nandn, nandn, ad_ad, v, r_bind, r_bind, nI_1]
      cases q1 : tr k a b x.1 <;> cases q2 : tr k a b x.2.1
      · have sm : ldx k a b x = x := by unfold ldx; rw [q1, q2, if_pos rfl]
        refine ⟨e, ?_, by show XL (mpx (ldx k a b) (i + 1) L) e c; rw [mpx_same hx sm]; exact hP⟩
        rw [if_neg bff, if_neg bff, if_neg (fun w => absurd ((nI_eq0 (by omega)).mp w) (by omega)), if_pos rfl]
      · have sm : ldx k a b x = (min x.1 k, max x.1 k, x.2.2) := by unfold ldx; rw [q1, q2, if_neg (by decide), if_neg (by decide)]
        have hne : x.1 ≠ k := fun w => by rw [w] at q1; unfold tr at q1; simp at q1
        have s1 := XL_set (y := ldx k a b x) (v := nI (2 ^ (ldx k a b x).1 + 2 ^ (ldx k a b x).2.1)) hP (t := i) (by rw [mpx_len]; exact hi) rfl (fun y hy => by rw [mpx_i hx] at hy; cases hy; rw [sm])
        rw [mpx_set hx] at s1
        refine ⟨_, ?_, s1⟩
        have l2 := p2le (a := x.1) (b := 13) (by omega)
        rw [if_neg bff, if_pos btt, if_neg (fun w => absurd ((nI_eq0 (by omega)).mp w) (by omega)), if_neg (fun w => absurd ((nI_eq (by omega) (by omega)).mp w) (by omega)), nor, two_mm hne, x_put (by omega) (by decide), r_bind, sm]
      · have sm : ldx k a b x = (min x.2.1 k, max x.2.1 k, x.2.2) := by unfold ldx; rw [q1, q2, if_neg (by decide), if_pos rfl]
        have hne : x.2.1 ≠ k := fun w => by rw [w] at q2; unfold tr at q2; simp at q2
        have s1 := XL_set (y := ldx k a b x) (v := nI (2 ^ (ldx k a b x).1 + 2 ^ (ldx k a b x).2.1)) hP (t := i) (by rw [mpx_len]; exact hi) rfl (fun y hy => by rw [mpx_i hx] at hy; cases hy; rw [sm])
        rw [mpx_set hx] at s1
        refine ⟨_, ?_, s1⟩
        rw [if_pos btt, if_neg bff, if_neg (fun w => absurd ((nI_eq0 (by omega)).mp w) (by omega)), if_neg (fun w => absurd ((nI_eq (by omega) (by omega)).mp w) (by omega)), nor, two_mm hne, x_put (by omega) (by decide), r_bind, sm]
      · have sm : ldx k a b x = x := by unfold ldx; rw [q1, q2, if_pos rfl]
        refine ⟨e, ?_, by show XL (mpx (ldx k a b) (i + 1) L) e c; rw [mpx_same hx sm]; exact hP⟩
        rw [if_pos btt, if_pos btt, if_pos (show nI 0 = 0 by rfl)]) L.length N 0 e (by omega) (by omega) (by rw [mpx_0]; exact hX)
  obtain ⟨e', h1, h2⟩ := this
  rw [mpx_all] at h1
  exact ⟨e', h2, h1⟩
def drp (k : Nat) (L : List TH) : List TH := (L.filter (fun x => !atk k x)).map (rnx k)
theorem drp_ok {K k : Nat} {L : List TH} (hok : ∀ x ∈ L, okx K x) (hk : k < K) : ∀ x ∈ drp k L, okx (K - 1) x := by
  intro y hy
  unfold drp at hy
  rw [List.mem_map] at hy
  obtain ⟨x, hx, rfl⟩ := hy
  rw [List.mem_filter] at hx
  obtain ⟨o1, o2, o3⟩ := hok x hx.1
  have hn := hx.2
  unfold atk at hn
  simp at hn
  refine ⟨rn_lt o1 hn.1 hn.2, ?_, o3⟩
  show rn k x.2.1 < K - 1
  unfold rn
  split <;> omega
theorem drp_len (k : Nat) (L : List TH) : (drp k L).length ≤ L.length := by
  unfold drp
  rw [List.length_map]
  exact List.length_filter_le _ _
theorem x_merge {N K k a b : Nat} {L : List TH} {e c : Nat → Int32} (hN : 1000 ≤ N) (hW : WL K L) (hk : k < K) (hab : a < b) (hb : b < K) (hX : XL L e c) : ∃ e' c', m_X2_merge N (nI K) (nI L.length) e c (nI k) (nI (2 ^ a + 2 ^ b)) = some (nI (K - 1 - 1), nI (drp a (drp b (L.map (ldx k a b)))).length, e', c') ∧ XL (drp a (drp b (L.map (ldx k a b)))) e' c' := by
  have hK := hW.1
  have h21 := hW.len21
  have p1 := p2lt hab
  have p2 := p2le (show b ≤ 13 by omega)
  have p3 := Nat.two_pow_pos a
  have okm : ∀ x ∈ L.map (ldx k a b), okx K x := fun y hy => by
    rw [List.mem_map] at hy
    obtain ⟨x, hx, rfl⟩ := hy
    exact ldx_ok (hW.2.1 x hx) hk
  obtain ⟨e1, g1, g2⟩ := x_lead (J := fun (f_ends_1 : Nat → Int32) => (Option.bind (m_J6_numberOfLeadingZeros_0f7a4 N (nI (2 ^ a + 2 ^ b))) (fun r_2 => Option.bind (m_X2_dropKnot N (nI K) (nI L.length) f_ends_1 c (31 - r_2)) (fun (f_knots_4, f_threads_5, f_ends_6, f_colours_7) => Option.bind (m_J6_numberOfTrailingZeros_0f7a4 N (nI (2 ^ a + 2 ^ b))) (fun r_9 => Option.bind (m_X2_dropKnot N f_knots_4 f_threads_5 f_ends_6 f_colours_7 r_9) (fun (f_knots_11, f_threads_12, f_ends_13, f_colours_14) => some (f_knots_11, f_threads_12, f_ends_13, f_colours_14))))))) hN hW hk hab hb hX
  obtain ⟨e2, c2, d1, d2⟩ := x_dropKnot0 (k := b) hN hK (by rw [List.length_map]; exact h21) okm hb g2
  obtain ⟨e3, c3, d3, d4⟩ := x_dropKnot0 (K := K - 1) (k := a) (L := drp b (L.map (ldx k a b))) hN (by omega) (Nat.le_trans (drp_len _ _) (by rw [List.length_map]; exact h21)) (drp_ok okm hb) (by omega) d2
  refine ⟨e3, c3, ?_, d4⟩
  unfold m_X2_merge jn
  refine g1.trans ?_
  rw [m_nlz (by omega) (by omega), r_bind, lg2 hab, show (31 : Int32) - nI (31 - b) = nI b by rw [show (31 : Int32) = nI 31 from rfl, pk_sub (by omega), show 31 - (31 - b) = b by omega]]
  rw [List.length_map] at d1
  rw [d1, r_bind]
  dsimp only
  rw [m_ntz (by omega) (by omega), r_bind, lb2 hab (by omega)]
  refine (congrArg (fun z => Option.bind z _) d3).trans ?_
  rfl
end
-- 63.shrinkM.lean.txt
section
-- the reference's way of shrinking
theorem lnk_joins {K c d i : Nat} {P : List TH} {x : TH} (ho : okx K x) (h : P[i]? = some x) : joins (fl P) (fh P) i c d = lnk c d x := by
  rw [Bool.eq_iff_iff, lnk_iff ho]
  unfold joins fl fh
  rw [getD_some h]
  simp
theorem m_betw_L {N K i c d : Nat} {P : List TH} {s : Nat → Int32} {y : TH} (hN : 1000 ≤ N) (h21 : P.length ≤ 21) (hK : K ≤ 14) (hok : ∀ x ∈ P, okx K x) (hM : ML K P s) (hc : c < 14) (hd : d < 14) (hi : P[i]? = some y) (hy : lnk c d y = true) (hu : ∀ j z, P[j]? = some z → lnk c d z = true → j = i) : m_X7_threadBetween N s (nI c) (nI d) = some (nI i) := by
  have ok : ∀ {u : Nat} {z : TH}, P[u]? = some z → okx K z := fun {u z} hz => hok z (List.mem_of_getElem? hz)
  refine m_between hN (ok_wt h21 hK hok) (ML_iff.mp hM) (by omega) (by omega) (Or.inl ⟨i, lt_of hi, by rw [lnk_joins (ok hi) hi]; exact hy, fun j hj => ?_, rfl⟩)
  obtain ⟨z, hz⟩ := some_of (L := P) (i := j) (by have := lt_of hi; omega)
  rw [lnk_joins (ok hz) hz]
  cases q : lnk c d z with
  | false => rfl
  | true =>
    have := hu j z hz q
    omega
theorem erase_one {p : TH → Bool} : ∀ {P : List TH} {i : Nat} {y : TH}, P[i]? = some y → p y = true → (∀ j z, P[j]? = some z → p z = true → j = i) → P.eraseIdx i = P.filter (fun x => !p x)
  | [], i, y, h, _, _ => by simp at h
  | z :: P, 0, y, h, hy, hu => by
    simp at h
    subst h
    have f : P.filter (fun x => !p x) = P := List.filter_eq_self.mpr (fun x hx => by
      obtain ⟨j, hj⟩ := List.mem_iff_getElem?.mp hx
      cases q : p x with
      | false => rfl
      | true =>
        have := hu (j + 1) x (by simpa using hj) q
        omega)
    rw [List.filter_cons, hy]
    simp only [Bool.not_true, if_neg (show ¬ false = true by decide)]
    rw [f]
    rfl
  | z :: P, i + 1, y, h, hy, hu => by
    have hz : p z = false := by
      cases q : p z with
      | false => rfl
      | true =>
        have := hu 0 z rfl q
        omega
    have ih := erase_one (p := p) (P := P) (i := i) (y := y) (by simpa using h) hy (fun j w hj hw => by have := hu (j + 1) w (by simpa using hj) hw; omega)
    rw [List.filter_cons, hz]
    simp only [Bool.not_false, if_pos (show true = true from rfl)]
    rw [← ih]
    rfl
theorem m_leadsTo {N K t c f k : Nat} {P : List TH} {s : Nat → Int32} {x : TH} (hN : 1000 ≤ N) (h21 : P.length ≤ 21) (hK : K ≤ 14) (hok : ∀ x ∈ P, okx K x) (hM : ML K P s) (hc : c < 14) (hf : f < 14) (hk : k < 14) (hi : P[t]? = some x) (hy : lnk c f x = true) (hu : ∀ j z, P[j]? = some z → lnk c f z = true → j = t) : ∃ s', m_X7_leadsTo N s (nI c) (nI f) (nI k) = some s' ∧ ML K (P.set t (min f k, max f k, x.2.2)) s' := by
  have ht := lt_of hi
  refine ⟨p3 s t (nI (min f k)) (nI (max f k)) (nI x.2.2), ?_, ML_set (y := (min f k, max f k, x.2.2)) hM ht⟩
  unfold m_X7_leadsTo
  rw [m_betw_L hN h21 hK hok hM hc hf hi hy hu, r_bind, ml_2 h21 hM hi, r_bind, m_put (by omega) (by omega) (by omega), r_bind]
/-- one inner thread goes -/
theorem m_inner {N K c d : Nat} {P : List TH} {s : Nat → Int32} (hN : 1000 ≤ N) (h21 : P.length ≤ 21) (hK : K ≤ 14) (hok : ∀ x ∈ P, okx K x) (hM : ML K P s) (hc : c < 14) (hd : d < 14) (he : ∃ (t : Nat) (x : TH), P[t]? = some x ∧ lnk c d x = true ∧ ∀ j z, P[j]? = some z → lnk c d z = true → j = t) : ∃ r s', m_X7_threadBetween N s (nI c) (nI d) = some r ∧ m_X7_dropThread N s r = some s' ∧ ML K (P.filter (fun x => !lnk c d x)) s' := by
  obtain ⟨t, x, h1, h2, h3⟩ := he
  obtain ⟨s', g1, g2⟩ := m_dropThread hN h21 hM (lt_of h1)
  rw [erase_one h1 h2 h3] at g2
  exact ⟨nI t, s', m_betw_L hN h21 hK hok hM hc hd h1 h2 h3, g1, g2⟩
end
-- 64.triList.lean.txt
section
-- the list that is left of a triangle
theorem ldx_c {K k a b c : Nat} {x : TH} (ho : okx K x) (hc : atk c x = true) (hin : tr k a b c = true) (hout : tr k a b (oth c x) = false) : ldx k a b x = (min (oth c x) k, max (oth c x) k, x.2.2) := by
  unfold atk at hc
  simp at hc
  unfold ldx
  unfold oth at hout ⊢
  by_cases q : x.1 = c
  · rw [if_pos q] at hout ⊢
    rw [q, hin, hout, if_neg (by decide), if_pos rfl]
  · have q2 : x.2.1 = c := by omega
    rw [if_neg q] at hout ⊢
    rw [q2, hin, hout, if_neg (by decide), if_neg (by decide)]
theorem ldx_k {K k a b : Nat} {x : TH} (ho : okx K x) (hc : atk k x = true) (hout : tr k a b (oth k x) = false) : ldx k a b x = x := by
  rw [ldx_c ho hc (by unfold tr; simp) hout]
  have o1 := ho.1
  unfold atk at hc
  simp at hc
  unfold oth
  by_cases q : x.1 = k
  · rw [if_pos q, Nat.min_eq_right (by omega), Nat.max_eq_left (by omega), ← q]
  · have q2 : x.2.1 = k := by omega
    rw [if_neg q, Nat.min_eq_left (by omega), Nat.max_eq_right (by omega), ← q2]
theorem tr_out {k a b j : Nat} : tr k a b j = false ↔ j ≠ k ∧ j ≠ a ∧ j ≠ b := by
  unfold tr
  simp
  omega
theorem tr_in {k a b j : Nat} : tr k a b j = true ↔ j = k ∨ j = a ∨ j = b := by
  unfold tr
  simp
  omega
/-- a thread stays, or is one of the three that leave -/
theorem leaves {K k a b tk ta tb i : Nat} {L : List TH} {xk xa xb x : TH} (h : Tri K L k a b tk ta tb xk xa xb) (hx : L[i]? = some x) : tr k a b x.1 = tr k a b x.2.1 ∨ (i = tk ∧ x = xk) ∨ (i = ta ∧ x = xa) ∨ (i = tb ∧ x = xb) := by
  obtain ⟨hW, ⟨hk, hab, hb, hak, hbk⟩, -, lk, la, lb'⟩ := h
  have ho := hW.2.1 x (List.mem_of_getElem? hx)
  have go : ∀ c, atk c x = true → tr k a b c = true → tr k a b (oth c x) = false → (i = tk ∧ x = xk) ∨ (i = ta ∧ x = xa) ∨ (i = tb ∧ x = xb) := by
    intro c hc hin hout
    rw [tr_out] at hout
    rw [tr_in] at hin
    rcases hin with rfl | rfl | rfl
    · have := lk.2.2.2.2 i x hx hc
      have e : i = tk := by omega
      subst e
      have w := lk.1
      rw [hx] at w
      cases w
      exact Or.inl ⟨rfl, rfl⟩
    · have := la.2.2.2.2 i x hx hc
      have e : i = ta := by omega
      subst e
      have w := la.1
      rw [hx] at w
      cases w
      exact Or.inr (Or.inl ⟨rfl, rfl⟩)
    · have := lb'.2.2.2.2 i x hx hc
      have e : i = tb := by omega
      subst e
      have w := lb'.1
      rw [hx] at w
      cases w
      exact Or.inr (Or.inr ⟨rfl, rfl⟩)
  have o1 := ho.1
  cases q1 : tr k a b x.1 with
  | true =>
    cases q2 : tr k a b x.2.1 with
    | true => exact Or.inl rfl
    | false => exact Or.inr (go x.1 (by unfold atk; simp) q1 (by unfold oth; rw [if_pos rfl]; exact q2))
  | false =>
    cases q2 : tr k a b x.2.1 with
    | true => exact Or.inr (go x.2.1 (by unfold atk; simp) q2 (by unfold oth; rw [if_neg (by omega)]; exact q1))
    | false => exact Or.inl rfl
theorem lead_set {K k a b tk ta tb : Nat} {L : List TH} {xk xa xb : TH} (h : Tri K L k a b tk ta tb xk xa xb) (hne : ta ≠ tb) : (L.set ta (min (oth a xa) k, max (oth a xa) k, xa.2.2)).set tb (min (oth b xb) k, max (oth b xb) k, xb.2.2) = L.map (ldx k a b) := by
  have h0 := h
  obtain ⟨hW, ⟨hk, hab, hb, hak, hbk⟩, -, lk, la, lb'⟩ := h
  have ok : ∀ {u : Nat} {y : TH}, L[u]? = some y → okx K y := fun {u y} hy => hW.2.1 y (List.mem_of_getElem? hy)
  have na := oth_ne (k := a) (ok la.1)
  have nb' := oth_ne (k := b) (ok lb'.1)
  have nk := oth_ne (k := k) (ok lk.1)
  have ea := ldx_c (k := k) (a := a) (b := b) (ok la.1) la.2.1 (tr_in.mpr (by omega)) (tr_out.mpr ⟨la.2.2.1, na, la.2.2.2.1⟩)
  have eb := ldx_c (k := k) (a := a) (b := b) (ok lb'.1) lb'.2.1 (tr_in.mpr (by omega)) (tr_out.mpr ⟨lb'.2.2.1, lb'.2.2.2.1, nb'⟩)
  have ek := ldx_k (k := k) (a := a) (b := b) (ok lk.1) lk.2.1 (tr_out.mpr ⟨nk, lk.2.2.1, lk.2.2.2.1⟩)
  rw [← ea, ← eb]
  apply List.ext_getElem?
  intro j
  rw [List.getElem?_map, List.getElem?_set, List.length_set, List.getElem?_set]
  by_cases q : tb = j
  · subst q
    rw [if_pos rfl, if_pos (lt_of lb'.1), lb'.1]
    rfl
  · rw [if_neg q]
    by_cases q2 : ta = j
    · subst q2
      rw [if_pos rfl, if_pos (lt_of la.1), la.1]
      rfl
    · rw [if_neg q2]
      cases hx : L[j]? with
      | none => rfl
      | some x =>
        have : ldx k a b x = x := by
          rcases leaves h0 hx with g | ⟨g1, rfl⟩ | ⟨g1, -⟩ | ⟨g1, -⟩
          · unfold ldx
            rw [if_pos g]
          · exact ek
          · exact absurd g1.symm q2
          · exact absurd g1.symm q
        rw [Option.map_some, this]
end
-- 65.merged.lean.txt
section
-- what the merged list is
theorem kind {K k a b tk ta tb i : Nat} {L : List TH} {xk xa xb x : TH} (h : Tri K L k a b tk ta tb xk xa xb) (hx : L[i]? = some x) : (ldx k a b x = x ∧ tr k a b x.1 = true ∧ tr k a b x.2.1 = true) ∨ (ldx k a b x = x ∧ tr k a b x.1 = false ∧ tr k a b x.2.1 = false) ∨ ∃ f, tr k a b f = false ∧ tr k a b x.1 ≠ tr k a b x.2.1 ∧ (x.1 = f ∨ x.2.1 = f) ∧ ldx k a b x = (min f k, max f k, x.2.2) ∧ ((i = tk ∧ f = oth k xk) ∨ (i = ta ∧ f = oth a xa) ∨ (i = tb ∧ f = oth b xb)) := by
  have h0 := h
  obtain ⟨hW, ⟨hk, hab, hb, hak, hbk⟩, -, lk, la, lb'⟩ := h
  have ok : ∀ {u : Nat} {y : TH}, L[u]? = some y → okx K y := fun {u y} hy => hW.2.1 y (List.mem_of_getElem? hy)
  have fin : ∀ c, atk c x = true → tr k a b c = true → tr k a b (oth c x) = false → tr k a b x.1 ≠ tr k a b x.2.1 ∧ (x.1 = oth c x ∨ x.2.1 = oth c x) := by
    intro c hc h1 h2
    unfold atk at hc
    simp at hc
    unfold oth at h2 ⊢
    by_cases q : x.1 = c
    · rw [if_pos q] at h2 ⊢
      exact ⟨by rw [q, h1, h2]; decide, Or.inr rfl⟩
    · rw [if_neg q] at h2 ⊢
      have q2 : x.2.1 = c := by omega
      exact ⟨by rw [q2, h1, h2]; decide, Or.inl rfl⟩
  rcases leaves h0 hx with g | ⟨g1, rfl⟩ | ⟨g1, rfl⟩ | ⟨g1, rfl⟩
  · have e : ldx k a b x = x := by unfold ldx; rw [if_pos g]
    cases q : tr k a b x.1 with
    | true => exact Or.inl ⟨e, rfl, by rw [← g, q]⟩
    | false => exact Or.inr (Or.inl ⟨e, rfl, by rw [← g, q]⟩)
  · have o := tr_out.mpr ⟨oth_ne (k := k) (ok hx), lk.2.2.1, lk.2.2.2.1⟩
    have f := fin k lk.2.1 (tr_in.mpr (by omega)) o
    exact Or.inr (Or.inr ⟨oth k x, o, f.1, f.2, ldx_c (ok hx) lk.2.1 (tr_in.mpr (by omega)) o, Or.inl ⟨g1, rfl⟩⟩)
  · have o := tr_out.mpr ⟨la.2.2.1, oth_ne (k := a) (ok hx), la.2.2.2.1⟩
    have f := fin a la.2.1 (tr_in.mpr (by omega)) o
    exact Or.inr (Or.inr ⟨oth a x, o, f.1, f.2, ldx_c (ok hx) la.2.1 (tr_in.mpr (by omega)) o, Or.inr (Or.inl ⟨g1, rfl⟩)⟩)
  · have o := tr_out.mpr ⟨lb'.2.2.1, lb'.2.2.2.1, oth_ne (k := b) (ok hx)⟩
    have f := fin b lb'.2.1 (tr_in.mpr (by omega)) o
    exact Or.inr (Or.inr ⟨oth b x, o, f.1, f.2, ldx_c (ok hx) lb'.2.1 (tr_in.mpr (by omega)) o, Or.inr (Or.inr ⟨g1, rfl⟩)⟩)
/-- inside the triangle: what a thread of the led list is at -/
theorem led_at {K k a b tk ta tb i : Nat} {L : List TH} {xk xa xb x : TH} (h : Tri K L k a b tk ta tb xk xa xb) (hx : L[i]? = some x) : (lnk k a (ldx k a b x) || lnk k b (ldx k a b x) || lnk a b (ldx k a b x)) = (atk a (ldx k a b x) || atk b (ldx k a b x)) := by
  have k0 := kind h hx
  obtain ⟨hW, ⟨hk, hab, hb, hak, hbk⟩, -⟩ := h
  have ho := hW.2.1 x (List.mem_of_getElem? hx)
  have hl := ldx_ok (a := a) (b := b) ho hk
  have o1 := ho.1
  rw [Bool.eq_iff_iff, Bool.or_eq_true, Bool.or_eq_true, lnk_iff hl, lnk_iff hl, lnk_iff hl, Bool.or_eq_true]
  have e : ∀ j y, atk j y = true ↔ y.1 = j ∨ y.2.1 = j := fun j y => by unfold atk; simp
  rw [e, e]
  rcases k0 with ⟨g, g1, g2⟩ | ⟨g, g1, g2⟩ | ⟨f, g1, -, -, g, -⟩
  · rw [tr_in] at g1 g2
    rw [g]
    omega
  · rw [tr_out] at g1 g2
    rw [g]
    omega
  · rw [tr_out] at g1
    rw [g]
    dsimp only
    omega
theorem led_lnk {K k a b tk ta tb i c d : Nat} {L : List TH} {xk xa xb x : TH} (h : Tri K L k a b tk ta tb xk xa xb) (hx : L[i]? = some x) (hc : tr k a b c = true) (hd : tr k a b d = true) (hne : c ≠ d) : lnk c d (ldx k a b x) = lnk c d x := by
  have k0 := kind h hx
  obtain ⟨hW, ⟨hk, hab, hb, hak, hbk⟩, -⟩ := h
  have ho := hW.2.1 x (List.mem_of_getElem? hx)
  have hl := ldx_ok (a := a) (b := b) ho hk
  have o1 := ho.1
  rcases k0 with ⟨g, -, -⟩ | ⟨g, -, -⟩ | ⟨f, g1, -, g3, g, -⟩
  · rw [g]
  · rw [g]
  · rw [Bool.eq_iff_iff, lnk_iff hl, lnk_iff ho, g]
    have hcf : c ≠ f := fun w => by rw [w, g1] at hc; cases hc
    have hdf : d ≠ f := fun w => by rw [w, g1] at hd; cases hd
    simp only
    omega
theorem led_cnt {K k a b tk ta tb c d : Nat} {L : List TH} {xk xa xb : TH} (h : Tri K L k a b tk ta tb xk xa xb) (hc : tr k a b c = true) (hd : tr k a b d = true) (hne : c ≠ d) (he : ∃ x ∈ L, lnk c d x = true) : (L.map (ldx k a b)).countP (lnk c d) = 1 := by
  rw [List.countP_map]
  have : L.countP (lnk c d ∘ ldx k a b) = L.countP (lnk c d) := by
    apply List.countP_congr
    intro x hx
    obtain ⟨i, hi⟩ := List.mem_iff_getElem?.mp hx
    show lnk c d (ldx k a b x) = true ↔ _
    rw [led_lnk h hi hc hd hne]
  rw [this]
  have a1 := lnk_one (c := c) (d := d) h.1
  have b1 := cnt_pos he
  omega
end
-- 66.left.lean.txt
section
-- the merged list is well made
theorem kcnt_le {p q : TH → Bool} : ∀ {L : List TH}, (∀ x ∈ L, p x = true → q x = true) → L.countP p ≤ L.countP q
  | [], _ => Nat.le_refl _
  | z :: L, h => by
    rw [List.countP_cons, List.countP_cons]
    have ih := kcnt_le (L := L) (fun x hx => h x (List.mem_cons_of_mem _ hx))
    have h0 := h z List.mem_cons_self
    cases q1 : p z with
    | false => simp only [if_neg (show ¬ false = true by decide)]; omega
    | true => rw [h0 q1]; omega
theorem cnt_or3 {p q1 q2 q3 : TH → Bool} : ∀ {L : List TH}, (∀ x ∈ L, p x = true → q1 x = true ∨ q2 x = true ∨ q3 x = true) → L.countP p ≤ L.countP q1 + L.countP q2 + L.countP q3
  | [], _ => by simp
  | z :: L, h => by
    rw [List.countP_cons, List.countP_cons, List.countP_cons, List.countP_cons]
    have ih := cnt_or3 (L := L) (fun x hx => h x (List.mem_cons_of_mem _ hx))
    have h0 := h z List.mem_cons_self
    cases w : p z with
    | false => simp only [if_neg (show ¬ false = true by decide)]; omega
    | true =>
      rcases h0 w with g | g | g
      · rw [g]; simp only [if_pos (show true = true from rfl)]; omega
      · rw [g]; simp only [if_pos (show true = true from rfl)]; omega
      · rw [g]; simp only [if_pos (show true = true from rfl)]; omega
theorem uniq1 {p : TH → Bool} : ∀ {L : List TH} {t : Nat}, (∀ i x, L[i]? = some x → p x = true → i = t) → L.countP p ≤ 1
  | [], _, _ => by simp
  | z :: L, t, h => by
    rw [List.countP_cons]
    cases w : p z with
    | false =>
      have ih := uniq1 (p := p) (L := L) (t := t - 1) (fun i x hx hp => by have := h (i + 1) x (by simpa using hx) hp; omega)
      simp only [if_neg (show ¬ false = true by decide)]
      omega
    | true =>
      have t0 := h 0 z rfl w
      have : L.countP p = 0 := List.countP_eq_zero.mpr (fun y hy g => by
        obtain ⟨j, hj⟩ := List.mem_iff_getElem?.mp hy
        have := h (j + 1) y (by simpa using hj) g
        omega)
      rw [if_pos btt]
      omega
def left (k a b : Nat) (L : List TH) : List TH := (L.map (ldx k a b)).filter (fun y => !(atk a y || atk b y))
theorem left_mem {k a b : Nat} {L : List TH} {y : TH} (hy : y ∈ left k a b L) : ∃ (i : Nat) (x : TH), L[i]? = some x ∧ y = ldx k a b x ∧ atk a y = false ∧ atk b y = false := by
  unfold left at hy
  rw [List.mem_filter, List.mem_map] at hy
  obtain ⟨⟨x, hx, rfl⟩, h2⟩ := hy
  obtain ⟨i, hi⟩ := List.mem_iff_getElem?.mp hx
  simp at h2
  exact ⟨i, x, hi, rfl, h2.1, h2.2⟩
theorem led_apart {K k a b tk ta tb : Nat} {L : List TH} {xk xa xb : TH} (h : Tri K L k a b tk ta tb xk xa xb) (hn : ¬ (oth a xa = oth b xb ∨ oth a xa = oth k xk ∨ oth b xb = oth k xk)) : (L.map (ldx k a b)).Pairwise apart := by
  rw [List.pairwise_map, List.pairwise_iff_getElem]
  intro i j hi hj hij
  have ex : L[i]? = some L[i] := List.getElem?_eq_getElem hi
  have ey : L[j]? = some L[j] := List.getElem?_eq_getElem hj
  have ap := List.pairwise_iff_getElem.mp h.1.2.2.1 i j hi hj hij
  have kx := kind h ex
  have ky := kind h ey
  have ox := (h.1.2.1 _ (List.mem_of_getElem? ex)).1
  have oy := (h.1.2.1 _ (List.mem_of_getElem? ey)).1
  generalize L[i] = x at *
  generalize L[j] = y at *
  unfold apart at ap ⊢
  rcases kx with ⟨g, g1, g2⟩ | ⟨g, g1, g2⟩ | ⟨f, g1, g2, g3, g, gi⟩ <;> rcases ky with ⟨u, u1, u2⟩ | ⟨u, u1, u2⟩ | ⟨v, u1, u2, u3, u, ui⟩ <;> rw [g, u] <;> first | exact ap | skip
  · simp only
    rw [tr_in] at g1 g2
    rw [tr_out] at u1
    omega
  · simp only
    rw [tr_out] at g1 g2
    omega
  · simp only
    rw [tr_in] at u1 u2
    rw [tr_out] at g1
    omega
  · simp only
    rw [tr_out] at u1 u2
    omega
  · simp only
    rw [tr_out] at g1 u1
    omega
theorem left_WL {K k a b tk ta tb : Nat} {L : List TH} {xk xa xb : TH} (h : Tri K L k a b tk ta tb xk xa xb) (hn : ¬ (oth a xa = oth b xb ∨ oth a xa = oth k xk ∨ oth b xb = oth k xk)) : WL K (left k a b L) := by
  have h0 := h
  obtain ⟨hW, ⟨hk, hab, hb, hak, hbk⟩, -, lk, la, lb'⟩ := h
  refine ⟨hW.1, fun y hy => ?_, (led_apart h0 hn).sublist List.filter_sublist, fun c => ?_⟩
  · obtain ⟨i, x, hx, rfl, -, -⟩ := left_mem hy
    exact ldx_ok (hW.2.1 x (List.mem_of_getElem? hx)) hk
  · by_cases q : c = a ∨ c = b
    · have : (left k a b L).countP (atk c) = 0 := List.countP_eq_zero.mpr (fun y hy g => by
        obtain ⟨i, x, hx, -, e1, e2⟩ := left_mem hy
        rcases q with rfl | rfl
        · rw [e1] at g; cases g
        · rw [e2] at g; cases g)
      omega
    · unfold left
      rw [List.countP_filter, List.countP_map]
      by_cases q2 : c = k
      · subst q2
        refine Nat.le_trans (cnt_or3 (q1 := fun x => decide (x = xk)) (q2 := fun x => decide (x = xa)) (q3 := fun x => decide (x = xb)) (fun x hx hp => ?_)) ?_
        · obtain ⟨i, hi⟩ := List.mem_iff_getElem?.mp hx
          have hp : (atk c (ldx c a b x) && !(atk a (ldx c a b x) || atk b (ldx c a b x))) = true := hp
          simp only [Bool.and_eq_true] at hp
          have la' := led_at h0 hi
          rcases leaves h0 hi with g | ⟨-, rfl⟩ | ⟨-, rfl⟩ | ⟨-, rfl⟩
          · exfalso
            have e : ldx c a b x = x := by unfold ldx; rw [if_pos g]
            rw [e] at hp
            have ho := hW.2.1 x hx
            have hc := hp.1
            have hno := hp.2
            have o1 := ho.1
            unfold atk at hc hno
            simp at hc hno
            rw [Bool.eq_iff_iff, tr_in, tr_in] at g
            omega
          · exact Or.inl (by simp)
          · exact Or.inr (Or.inl (by simp))
          · exact Or.inr (Or.inr (by simp))
        · have u1 : L.countP (fun x => decide (x = xk)) ≤ 1 := uniq1 (t := tk) (fun i x hx hp => by
            have : x = xk := by simpa using hp
            subst this
            have := lk.2.2.2.2 i _ hx lk.2.1
            have := lk.2.2.1
            have := lk.2.2.2.1
            omega)
          have u2 : L.countP (fun x => decide (x = xa)) ≤ 1 := uniq1 (t := ta) (fun i x hx hp => by
            have : x = xa := by simpa using hp
            subst this
            have := la.2.2.2.2 i _ hx la.2.1
            have := la.2.2.1
            have := la.2.2.2.1
            omega)
          have u3 : L.countP (fun x => decide (x = xb)) ≤ 1 := uniq1 (t := tb) (fun i x hx hp => by
            have : x = xb := by simpa using hp
            subst this
            have := lb'.2.2.2.2 i _ hx lb'.2.1
            have := lb'.2.2.1
            have := lb'.2.2.2.1
            omega)
          omega
      · refine Nat.le_trans (kcnt_le (q := atk c) (fun x hx hp => ?_)) (hW.2.2.2 c)
        obtain ⟨i, hi⟩ := List.mem_iff_getElem?.mp hx
        have hp : (atk c (ldx k a b x) && !(atk a (ldx k a b x) || atk b (ldx k a b x))) = true := hp
        simp only [Bool.and_eq_true] at hp
        have hc := hp.1
        rcases kind h0 hi with ⟨g, -, -⟩ | ⟨g, -, -⟩ | ⟨f, g1, -, g3, g, -⟩
        · rw [g] at hc; exact hc
        · rw [g] at hc; exact hc
        · rw [g] at hc
          unfold atk at hc ⊢
          simp at hc ⊢
          omega
end
-- 67.shrunk.lean.txt
section
-- shrinking: both ways to one list
theorem filt_cnt {p q : TH → Bool} {P : List TH} (h : P.countP p = 1) (hpq : ∀ y ∈ P, p y = true → q y = true) : (P.filter q).countP p = 1 := by
  rw [List.countP_filter, ← h]
  apply List.countP_congr
  intro y hy
  simp
  exact fun w => hpq y hy w
theorem drp_self {k : Nat} {Q : List TH} (h : ∀ x ∈ Q, atk k x = false) : drp k Q = Q.map (rnx k) := by
  unfold drp
  rw [List.filter_eq_self.mpr (fun x hx => by rw [h x hx]; rfl)]
theorem rn_a {a b v : Nat} (hab : a < b) (hv : v ≠ b) : (rn b v == a) = (v == a) := by
  unfold rn
  rw [Bool.eq_iff_iff, beq_iff_eq, beq_iff_eq]
  split <;> omega
theorem atk_rnx {a b : Nat} {y : TH} (hab : a < b) (hy : atk b y = false) : atk a (rnx b y) = atk a y := by
  unfold atk at hy
  simp at hy
  unfold atk rnx
  rw [rn_a hab hy.1, rn_a hab hy.2]
theorem left_no {k a b : Nat} {L : List TH} : (∀ x ∈ left k a b L, atk b x = false) ∧ ∀ x ∈ left k a b L, atk a x = false := ⟨fun y hy => by obtain ⟨-, -, -, -, -, h⟩ := left_mem hy; exact h, fun y hy => by obtain ⟨-, -, -, -, h, -⟩ := left_mem hy; exact h⟩
theorem left_no2 {k a b : Nat} {L : List TH} (hab : a < b) : ∀ x ∈ (left k a b L).map (rnx b), atk a x = false := by
  intro y hy
  rw [List.mem_map] at hy
  obtain ⟨x, hx, rfl⟩ := hy
  rw [atk_rnx hab (left_no.1 x hx)]
  exact left_no.2 x hx
def shrunk (k a b : Nat) (L : List TH) : List TH := ((left k a b L).map (rnx b)).map (rnx a)
theorem shrunk_drp {k a b : Nat} {L : List TH} (hab : a < b) : drp a (drp b (left k a b L)) = shrunk k a b L := by
  rw [drp_self left_no.1, drp_self (left_no2 hab)]
  rfl
theorem drp_shrunk {k a b : Nat} {L : List TH} (hab : a < b) : drp a (drp b (L.map (ldx k a b))) = shrunk k a b L := by
  unfold shrunk
  have e : left k a b L = ((L.map (ldx k a b)).filter (fun x => !atk b x)).filter ((fun x => !atk a x) ∘ rnx b) := by
    unfold left
    rw [List.filter_filter]
    apply List.filter_congr
    intro y _
    cases q : atk b y with
    | true => simp
    | false => simp [atk_rnx hab q]
  rw [e]
  unfold drp
  rw [List.filter_map]
theorem shrunk_WL {K k a b tk ta tb : Nat} {L : List TH} {xk xa xb : TH} (h : Tri K L k a b tk ta tb xk xa xb) (hn : ¬ (oth a xa = oth b xb ∨ oth a xa = oth k xk ∨ oth b xb = oth k xk)) : WL (K - 1 - 1) (shrunk k a b L) := by
  have h1 := h.2.1
  rw [← shrunk_drp h1.2.1]
  exact ((left_WL h hn).drop h1.2.2.1).drop (by omega)
theorem left_three {K k a b tk ta tb : Nat} {L : List TH} {xk xa xb : TH} (h : Tri K L k a b tk ta tb xk xa xb) : (((L.map (ldx k a b)).filter (fun x => !lnk k a x)).filter (fun x => !lnk k b x)).filter (fun x => !lnk a b x) = left k a b L := by
  unfold left
  rw [List.filter_filter, List.filter_filter]
  apply List.filter_congr
  intro y hy
  rw [List.mem_map] at hy
  obtain ⟨x, hx, rfl⟩ := hy
  obtain ⟨i, hi⟩ := List.mem_iff_getElem?.mp hx
  rw [← led_at h hi]
  cases lnk k a (ldx k a b x) <;> cases lnk k b (ldx k a b x) <;> cases lnk a b (ldx k a b x) <;> rfl
theorem m_three {N K k a b tk ta tb : Nat} {L : List TH} {xk xa xb : TH} {s : Nat → Int32} (hN : 1000 ≤ N) (h : Tri K L k a b tk ta tb xk xa xb) (hM : ML K (L.map (ldx k a b)) s) : ∃ r1 s1 r2 s2 r3 s3 s4 s5, m_X7_threadBetween N s (nI k) (nI a) = some r1 ∧ m_X7_dropThread N s r1 = some s1 ∧ m_X7_threadBetween N s1 (nI k) (nI b) = some r2 ∧ m_X7_dropThread N s1 r2 = some s2 ∧ m_X7_threadBetween N s2 (nI a) (nI b) = some r3 ∧ m_X7_dropThread N s2 r3 = some s3 ∧ m_X7_dropKnot N s3 (nI b) = some s4 ∧ m_X7_dropKnot N s4 (nI a) = some s5 ∧ ML (K - 1 - 1) (shrunk k a b L) s5 := by
  obtain ⟨hW, ⟨hk, hab, hb, hak, hbk⟩, ⟨i1, i2, i3⟩, -⟩ := id h
  have hK := hW.1
  have h21 := hW.len21
  have c1 := led_cnt (c := k) (d := a) h (tr_in.mpr (by omega)) (tr_in.mpr (by omega)) (by omega) i1
  have c2 := led_cnt (c := k) (d := b) h (tr_in.mpr (by omega)) (tr_in.mpr (by omega)) (by omega) i2
  have c3 := led_cnt (c := a) (d := b) h (tr_in.mpr (by omega)) (tr_in.mpr (by omega)) (by omega) i3
  have okP : ∀ x ∈ L.map (ldx k a b), okx K x := fun y hy => by
    rw [List.mem_map] at hy
    obtain ⟨x, hx, rfl⟩ := hy
    exact ldx_ok (hW.2.1 x hx) hk
  have lP : (L.map (ldx k a b)).length ≤ 21 := by rw [List.length_map]; exact h21
  have t3 := left_three h
  generalize hP : L.map (ldx k a b) = P at *
  have other : ∀ c d c' d', (c ≠ c' ∨ d ≠ d') → (c ≠ d' ∨ d ≠ c') → ∀ y ∈ P, lnk c d y = true → (!lnk c' d' y) = true := by
    intro c d c' d' n1 n2 y hy hl
    cases q : lnk c' d' y with
    | false => rfl
    | true =>
      rw [lnk_iff (okP y hy)] at hl q
      omega
  have f2 := filt_cnt c2 (other k b k a (by omega) (by omega))
  have f3 := filt_cnt c3 (other a b k a (by omega) (by omega))
  have f4 := filt_cnt f3 (fun y hy => other a b k b (by omega) (by omega) y (List.mem_filter.mp hy).1)
  obtain ⟨r1, s1, g1, g2, g3⟩ := m_inner hN lP hK okP hM (show k < 14 by omega) (show a < 14 by omega) (ks1_of c1)
  have okA : ∀ x ∈ P.filter (fun x => !lnk k a x), okx K x := fun x hx => okP x (List.mem_filter.mp hx).1
  have lA : (P.filter (fun x => !lnk k a x)).length ≤ 21 := Nat.le_trans (List.length_filter_le _ _) lP
  obtain ⟨r2, s2, g4, g5, g6⟩ := m_inner hN lA hK okA g3 (show k < 14 by omega) (show b < 14 by omega) (ks1_of f2)
  have okB : ∀ x ∈ (P.filter (fun x => !lnk k a x)).filter (fun x => !lnk k b x), okx K x := fun x hx => okA x (List.mem_filter.mp hx).1
  have lB : ((P.filter (fun x => !lnk k a x)).filter (fun x => !lnk k b x)).length ≤ 21 := Nat.le_trans (List.length_filter_le _ _) lA
  obtain ⟨r3, s3, g7, g8, g9⟩ := m_inner hN lB hK okB g6 (show a < 14 by omega) (show b < 14 by omega) (ks1_of f4)
  have okC : ∀ x ∈ ((P.filter (fun x => !lnk k a x)).filter (fun x => !lnk k b x)).filter (fun x => !lnk a b x), okx K x := fun x hx => okB x (List.mem_filter.mp hx).1
  have lC : (((P.filter (fun x => !lnk k a x)).filter (fun x => !lnk k b x)).filter (fun x => !lnk a b x)).length ≤ 21 := Nat.le_trans (List.length_filter_le _ _) lB
  rw [t3] at okC lC g9
  obtain ⟨s4, g10, g11⟩ := m_dropKnot hN lC okC hK hb left_no.1 g9
  have okD : ∀ x ∈ (left k a b L).map (rnx b), okx (K - 1) x := by
    rw [← drp_self left_no.1]
    exact drp_ok okC hb
  obtain ⟨s5, g12, g13⟩ := m_dropKnot (K := K - 1) (k := a) hN (by rw [List.length_map]; exact lC) okD (by omega) (by omega) (left_no2 hab) g11
  exact ⟨r1, s1, r2, s2, r3, s3, s4, s5, g1, g2, g4, g5, g7, g8, g10, g12, g13⟩
end
