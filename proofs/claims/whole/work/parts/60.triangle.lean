-- a knot of three threads in a triangle
theorem ks1_of {p : TH → Bool} : ∀ {L : List TH}, L.countP p = 1 → ∃ (t : Nat) (x : TH), L[t]? = some x ∧ p x = true ∧ ∀ i y, L[i]? = some y → p y = true → i = t
  | [], h => by simp at h
  | z :: L, h => by
    rw [List.countP_cons] at h
    by_cases q : p z = true
    · rw [if_pos q] at h
      have h0 : L.countP p = 0 := by omega
      rw [List.countP_eq_zero] at h0
      refine ⟨0, z, rfl, q, fun i y hy hp => ?_⟩
      cases i with
      | zero => rfl
      | succ i => exact absurd hp (h0 y (List.mem_of_getElem? (by simpa using hy)))
    · rw [if_neg q] at h
      obtain ⟨t, x, h1, h2, h3⟩ := ks1_of (L := L) (by omega)
      refine ⟨t + 1, x, by simpa using h1, h2, fun i y hy hp => ?_⟩
      cases i with
      | zero =>
        simp at hy
        subst hy
        exact absurd hp q
      | succ i => rw [h3 i y (by simpa using hy) hp]
theorem cnt_pos {p : TH → Bool} {L : List TH} (h : ∃ x ∈ L, p x = true) : 0 < L.countP p := by
  obtain ⟨x, hm, hx⟩ := h
  refine Nat.pos_of_ne_zero (fun g => ?_)
  rw [List.countP_eq_zero] at g
  exact g x hm hx
def lnk (c d : Nat) (x : TH) : Bool := atk c x && (oth c x == d)
theorem lnk_iff {K c d : Nat} {x : TH} (h : okx K x) : lnk c d x = true ↔ (x.1 = c ∧ x.2.1 = d) ∨ (x.1 = d ∧ x.2.1 = c) := by
  have := h.1
  unfold lnk atk oth
  by_cases q : x.1 = c
  · rw [if_pos q]
    simp
    omega
  · rw [if_neg q]
    simp
    omega
theorem lnk_one {K c d : Nat} {L : List TH} (hW : WL K L) : L.countP (lnk c d) ≤ 1 := by
  have key : ∀ M : List TH, M.Pairwise apart → (∀ x ∈ M, okx K x) → M.countP (lnk c d) ≤ 1 := by
    intro M
    induction M with
    | nil => intro _ _; simp
    | cons z M ih =>
      intro hp hok
      rw [List.pairwise_cons] at hp
      rw [List.countP_cons]
      have h1 := ih hp.2 (fun x hx => hok x (List.mem_cons_of_mem _ hx))
      by_cases q : lnk c d z = true
      · have : M.countP (lnk c d) = 0 := List.countP_eq_zero.mpr (fun y hy g => by
          have oz := hok z List.mem_cons_self
          have oy := hok y (List.mem_cons_of_mem _ hy)
          have a := (lnk_iff oz).mp q
          have b := (lnk_iff oy).mp g
          have a1 := oz.1
          have b1 := oy.1
          exact hp.1 y hy (by omega))
        rw [if_pos q]
        omega
      · rw [if_neg q]
        omega
  exact key L hW.2.2.1 hW.2.1
theorem cnt3 {c d e : Nat} (hne : d ≠ e) : ∀ L : List TH, L.countP (atk c) = L.countP (lnk c d) + L.countP (lnk c e) + L.countP (fun x => atk c x && !(oth c x == d) && !(oth c x == e))
  | [] => rfl
  | z :: L => by
    rw [List.countP_cons, List.countP_cons, List.countP_cons, List.countP_cons, cnt3 hne L]
    unfold lnk
    cases atk c z with
    | false => simp
    | true =>
      by_cases q : oth c z = d
      · rw [q]
        simp [hne, Ne.symm hne]
        omega
      · by_cases q2 : oth c z = e
        · rw [q2]
          simp [hne, Ne.symm hne]
          omega
        · have e1 : (oth c z == d) = false := by simp [q]
          have e2 : (oth c z == e) = false := by simp [q2]
          rw [e1, e2]
          simp
          omega
def leads (L : List TH) (c d e t : Nat) (x : TH) : Prop := L[t]? = some x ∧ atk c x = true ∧ oth c x ≠ d ∧ oth c x ≠ e ∧ ∀ i y, L[i]? = some y → atk c y = true → oth c y = d ∨ oth c y = e ∨ i = t
theorem corner {K c d e : Nat} {L : List TH} (hW : WL K L) (h3 : L.countP (atk c) = 3) (hd : ∃ x ∈ L, lnk c d x = true) (he : ∃ x ∈ L, lnk c e x = true) (hne : d ≠ e) : ∃ t x, leads L c d e t x := by
  have a : 0 < L.countP (lnk c d) := cnt_pos hd
  have b : 0 < L.countP (lnk c e) := cnt_pos he
  have a1 := lnk_one (c := c) (d := d) hW
  have b1 := lnk_one (c := c) (d := e) hW
  have s := cnt3 (c := c) hne L
  obtain ⟨t, x, h1, h2, h4⟩ := ks1_of (p := fun x => atk c x && !(oth c x == d) && !(oth c x == e)) (L := L) (by omega)
  simp at h2
  refine ⟨t, x, h1, h2.1.1, h2.1.2, h2.2, fun i y hy hp => ?_⟩
  by_cases q : oth c y = d
  · exact Or.inl q
  · by_cases q2 : oth c y = e
    · exact Or.inr (Or.inl q2)
    · exact Or.inr (Or.inr (h4 i y hy (by simp [hp, q, q2])))
theorem leads.swp {L : List TH} {c d e t : Nat} {x : TH} (h : leads L c d e t x) : leads L c e d t x := ⟨h.1, h.2.1, h.2.2.2.1, h.2.2.1, fun i y hy hp => by have := h.2.2.2.2 i y hy hp; omega⟩
def Tri (K : Nat) (L : List TH) (k a b tk ta tb : Nat) (xk xa xb : TH) : Prop := WL K L ∧ (k < K ∧ a < b ∧ b < K ∧ a ≠ k ∧ b ≠ k) ∧ ((∃ x ∈ L, lnk k a x = true) ∧ (∃ x ∈ L, lnk k b x = true) ∧ (∃ x ∈ L, lnk a b x = true)) ∧ leads L k a b tk xk ∧ leads L a k b ta xa ∧ leads L b k a tb xb
theorem lnk_comm {K c d : Nat} {x : TH} (h : okx K x) : lnk c d x = lnk d c x := by
  rw [Bool.eq_iff_iff, lnk_iff h, lnk_iff h]
  omega
theorem fij_some {K : Nat} {g : Nat → Nat → Bool} : ∀ (d i : Nat) {p : Nat × Nat}, i + d = K → fij K g d i = some p → p.1 < p.2 ∧ p.2 < K ∧ g p.1 p.2 = true := by
  have fs : ∀ (h : Nat → Bool) (d j : Nat) {r : Nat}, fj h d j = some r → j ≤ r ∧ r < j + d ∧ h r = true := by
    intro h d
    induction d with
    | zero => intro j r q; cases q
    | succ d ih =>
      intro j r q
      unfold fj at q
      by_cases w : h j = true
      · rw [if_pos w] at q
        cases q
        exact ⟨Nat.le_refl _, by omega, w⟩
      · rw [if_neg w] at q
        have := ih (j + 1) q
        exact ⟨by omega, by omega, this.2.2⟩
  intro d
  induction d with
  | zero => intro i p _ q; cases q
  | succ d ih =>
    intro i p hi q
    unfold fij at q
    cases w : fj (g i) (K - (i + 1)) (i + 1) with
    | none => rw [w] at q; exact ih (i + 1) (by omega) q
    | some j =>
      rw [w] at q
      cases q
      have := fs (g i) _ _ w
      exact ⟨by show i < j; omega, by show j < K; omega, this.2.2⟩
theorem tri_of {K k : Nat} {L : List TH} (hW : WL K L) (hk : k < K) : crn K L.length (fl L) (fh L) k = 0 ∨ ∃ a b tk ta tb xk xa xb, crn K L.length (fl L) (fh L) k = 2 ^ a + 2 ^ b ∧ Tri K L k a b tk ta tb xk xa xb := by
  unfold crn
  by_cases q : deg L.length (fl L) (fh L) k = 3
  · rw [if_pos q]
    cases w : fij K (gd L.length (fl L) (fh L) k) K 0 with
    | none => exact Or.inl rfl
    | some p =>
      obtain ⟨h1, h2, h3⟩ := fij_some K 0 (by omega) w
      obtain ⟨a, b⟩ := p
      unfold gd at h3
      simp only [Bool.and_eq_true, beq_iff_eq] at h3
      obtain ⟨⟨⟨⟨na, nb'⟩, nj⟩, da⟩, db⟩ := h3
      have ln : ∀ j, (nb L.length (fl L) (fh L) k).testBit j = true → j ≠ k ∧ ∃ x ∈ L, lnk k j x = true := fun j hj => by
        obtain ⟨g1, t, g2, g3, g4⟩ := (tb_nb hW.wt).mp hj
        obtain ⟨x, hx⟩ := some_of g2
        have hm := List.mem_of_getElem? hx
        refine ⟨g1, x, hm, (lnk_iff (hW.2.1 x hm)).mpr ?_⟩
        unfold isat fl fh at g3 g4
        rw [getD_some hx] at g3 g4
        simp at g3 g4
        omega
      obtain ⟨nk, la⟩ := ln a na
      obtain ⟨nk2, lb'⟩ := ln b nb'
      have lj : ∃ x ∈ L, lnk a b x = true := by
        obtain ⟨t, g1, g2⟩ := (an_iff _ _).mp nj
        obtain ⟨x, hx⟩ := some_of g1
        have hm := List.mem_of_getElem? hx
        refine ⟨x, hm, (lnk_iff (hW.2.1 x hm)).mpr ?_⟩
        unfold joins fl fh at g2
        rw [getD_some hx] at g2
        simp at g2
        omega
      have cm : ∀ c d, (∃ x ∈ L, lnk c d x = true) → ∃ x ∈ L, lnk d c x = true := fun c d ⟨x, hm, hx⟩ => ⟨x, hm, by rw [lnk_comm (hW.2.1 x hm)]; exact hx⟩
      rw [deg_L] at q da db
      have h1 : a < b := h1
      have h2 : b < K := h2
      obtain ⟨tk, xk, ok⟩ := corner hW q la lb' (by omega)
      obtain ⟨ta, xa, oa'⟩ := corner hW da (cm _ _ la) lj (by omega)
      obtain ⟨tb, xb, ob⟩ := corner hW db (cm _ _ lb') (cm _ _ lj) (by omega)
      exact Or.inr ⟨a, b, tk, ta, tb, xk, xa, xb, rfl, hW, ⟨hk, h1, h2, nk, nk2⟩, ⟨la, lb', lj⟩, ok, oa', ob⟩
  · rw [if_neg q]
    exact Or.inl rfl
-- the knot beyond
theorem beyond_set {K c d e t S : Nat} {L : List TH} {x : TH} (hW : WL K L) (h : leads L c d e t x) (hS : ∀ j, S.testBit j = (j == c || j == d || j == e)) : ad (nb L.length (fl L) (fh L) c) S = 2 ^ oth c x := by
  obtain ⟨h1, h2, h3, h4, h5⟩ := h
  have hm := List.mem_of_getElem? h1
  have ho := hW.2.1 x hm
  apply Nat.eq_of_testBit_eq
  intro j
  rw [tb_ad, hS, Nat.testBit_two_pow, Bool.eq_iff_iff, Bool.and_eq_true, tb_nb hW.wt]
  constructor
  · rintro ⟨⟨g1, u, g2, g3, g4⟩, g5⟩
    obtain ⟨y, hy⟩ := some_of g2
    have hoy := hW.2.1 y (List.mem_of_getElem? hy)
    unfold isat fl fh at g3 g4
    rw [getD_some hy] at g3 g4
    have e1 := h5 u y hy g3
    have e2 : oth c y = j := by
      have := hoy.1
      simp at g3 g4
      unfold oth
      split <;> omega
    simp at g5
    rw [e2] at e1
    have : u = t := by omega
    subst this
    rw [h1] at hy
    cases hy
    simp [e2]
  · intro g
    simp at g
    subst g
    refine ⟨⟨oth_ne ho, t, lt_of h1, ?_, ?_⟩, ?_⟩
    · unfold isat fl fh
      rw [getD_some h1]
      exact h2
    · unfold isat fl fh
      rw [getD_some h1]
      unfold atk at h2
      simp at h2 ⊢
      unfold oth
      split <;> omega
    · have := oth_ne (k := c) ho
      simp [this, h3, h4]
theorem m_beyond {N K c d e t S : Nat} {L : List TH} {x : TH} {s : Nat → Int32} (hN : 1000 ≤ N) (hW : WL K L) (hM : ML K L s) (hc : c < 14) (h : leads L c d e t x) (hS : ∀ j, S.testBit j = (j == c || j == d || j == e)) : m_X7_beyond N s (nI c) (nI S) = some (nI (oth c x)) := by
  have ho := hW.2.1 x (List.mem_of_getElem? h.1)
  have := oth_lt (k := c) ho
  have hK := hW.1
  unfold m_X7_beyond
  rw [m_neighbours hN hW.wt (ML_iff.mp hM) (by omega), r_bind, nandn, beyond_set hW h hS, m_lowest hN (p2lt (by omega)) (Nat.two_pow_pos _), r_bind, lb_p2 (by omega)]
