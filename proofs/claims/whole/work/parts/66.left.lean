-- the merged list is well made
theorem kcnt_le {p q : TH → Bool} : ∀ {L : List TH}, (∀ x ∈ L, p x = true → q x = true) → L.countP p ≤ L.countP q
  | [], _ => Nat.le_refl _
  | z :: L, h => by
    rw [List.countP_cons, List.countP_cons]
    have ih := kcnt_le (L := L) (fun x hx => h x (List.mem_cons_of_mem _ hx))
    have h0 := h z List.mem_cons_self
    cases q1 : p z with
    | false => simp only [if_neg (show ¬ false = true by decide)]; omega
    | true => rw [h0 q1]; omega
theorem cnt_or3 {p q1 q2 q3 : TH → Bool} : ∀ {L : List TH}, (∀ x ∈ L, p x = true → q1 x = true ∨ q2 x = true ∨ q3 x = true) → L.countP p ≤ L.countP q1 + L.countP q2 + L.countP q3
  | [], _ => by simp
  | z :: L, h => by
    rw [List.countP_cons, List.countP_cons, List.countP_cons, List.countP_cons]
    have ih := cnt_or3 (L := L) (fun x hx => h x (List.mem_cons_of_mem _ hx))
    have h0 := h z List.mem_cons_self
    cases w : p z with
    | false => simp only [if_neg (show ¬ false = true by decide)]; omega
    | true =>
      rcases h0 w with g | g | g
      · rw [g]; simp only [if_pos (show true = true from rfl)]; omega
      · rw [g]; simp only [if_pos (show true = true from rfl)]; omega
      · rw [g]; simp only [if_pos (show true = true from rfl)]; omega
theorem uniq1 {p : TH → Bool} : ∀ {L : List TH} {t : Nat}, (∀ i x, L[i]? = some x → p x = true → i = t) → L.countP p ≤ 1
  | [], _, _ => by simp
  | z :: L, t, h => by
    rw [List.countP_cons]
    cases w : p z with
    | false =>
      have ih := uniq1 (p := p) (L := L) (t := t - 1) (fun i x hx hp => by have := h (i + 1) x (by simpa using hx) hp; omega)
      simp only [if_neg (show ¬ false = true by decide)]
      omega
    | true =>
      have t0 := h 0 z rfl w
      have : L.countP p = 0 := List.countP_eq_zero.mpr (fun y hy g => by
        obtain ⟨j, hj⟩ := List.mem_iff_getElem?.mp hy
        have := h (j + 1) y (by simpa using hj) g
        omega)
      rw [if_pos btt]
      omega
def left (k a b : Nat) (L : List TH) : List TH := (L.map (ldx k a b)).filter (fun y => !(atk a y || atk b y))
theorem left_mem {k a b : Nat} {L : List TH} {y : TH} (hy : y ∈ left k a b L) : ∃ (i : Nat) (x : TH), L[i]? = some x ∧ y = ldx k a b x ∧ atk a y = false ∧ atk b y = false := by
  unfold left at hy
  rw [List.mem_filter, List.mem_map] at hy
  obtain ⟨⟨x, hx, rfl⟩, h2⟩ := hy
  obtain ⟨i, hi⟩ := List.mem_iff_getElem?.mp hx
  simp at h2
  exact ⟨i, x, hi, rfl, h2.1, h2.2⟩
theorem led_apart {K k a b tk ta tb : Nat} {L : List TH} {xk xa xb : TH} (h : Tri K L k a b tk ta tb xk xa xb) (hn : ¬ (oth a xa = oth b xb ∨ oth a xa = oth k xk ∨ oth b xb = oth k xk)) : (L.map (ldx k a b)).Pairwise apart := by
  rw [List.pairwise_map, List.pairwise_iff_getElem]
  intro i j hi hj hij
  have ex : L[i]? = some L[i] := List.getElem?_eq_getElem hi
  have ey : L[j]? = some L[j] := List.getElem?_eq_getElem hj
  have ap := List.pairwise_iff_getElem.mp h.1.2.2.1 i j hi hj hij
  have kx := kind h ex
  have ky := kind h ey
  have ox := (h.1.2.1 _ (List.mem_of_getElem? ex)).1
  have oy := (h.1.2.1 _ (List.mem_of_getElem? ey)).1
  generalize L[i] = x at *
  generalize L[j] = y at *
  unfold apart at ap ⊢
  rcases kx with ⟨g, g1, g2⟩ | ⟨g, g1, g2⟩ | ⟨f, g1, g2, g3, g, gi⟩ <;> rcases ky with ⟨u, u1, u2⟩ | ⟨u, u1, u2⟩ | ⟨v, u1, u2, u3, u, ui⟩ <;> rw [g, u] <;> first | exact ap | skip
  · simp only
    rw [tr_in] at g1 g2
    rw [tr_out] at u1
    omega
  · simp only
    rw [tr_out] at g1 g2
    omega
  · simp only
    rw [tr_in] at u1 u2
    rw [tr_out] at g1
    omega
  · simp only
    rw [tr_out] at u1 u2
    omega
  · simp only
    rw [tr_out] at g1 u1
    omega
theorem left_WL {K k a b tk ta tb : Nat} {L : List TH} {xk xa xb : TH} (h : Tri K L k a b tk ta tb xk xa xb) (hn : ¬ (oth a xa = oth b xb ∨ oth a xa = oth k xk ∨ oth b xb = oth k xk)) : WL K (left k a b L) := by
  have h0 := h
  obtain ⟨hW, ⟨hk, hab, hb, hak, hbk⟩, -, lk, la, lb'⟩ := h
  refine ⟨hW.1, fun y hy => ?_, (led_apart h0 hn).sublist List.filter_sublist, fun c => ?_⟩
  · obtain ⟨i, x, hx, rfl, -, -⟩ := left_mem hy
    exact ldx_ok (hW.2.1 x (List.mem_of_getElem? hx)) hk
  · by_cases q : c = a ∨ c = b
    · have : (left k a b L).countP (atk c) = 0 := List.countP_eq_zero.mpr (fun y hy g => by
        obtain ⟨i, x, hx, -, e1, e2⟩ := left_mem hy
        rcases q with rfl | rfl
        · rw [e1] at g; cases g
        · rw [e2] at g; cases g)
      omega
    · unfold left
      rw [List.countP_filter, List.countP_map]
      by_cases q2 : c = k
      · subst q2
        refine Nat.le_trans (cnt_or3 (q1 := fun x => decide (x = xk)) (q2 := fun x => decide (x = xa)) (q3 := fun x => decide (x = xb)) (fun x hx hp => ?_)) ?_
        · obtain ⟨i, hi⟩ := List.mem_iff_getElem?.mp hx
          have hp : (atk c (ldx c a b x) && !(atk a (ldx c a b x) || atk b (ldx c a b x))) = true := hp
          simp only [Bool.and_eq_true] at hp
          have la' := led_at h0 hi
          rcases leaves h0 hi with g | ⟨-, rfl⟩ | ⟨-, rfl⟩ | ⟨-, rfl⟩
          · exfalso
            have e : ldx c a b x = x := by unfold ldx; rw [if_pos g]
            rw [e] at hp
            have ho := hW.2.1 x hx
            have hc := hp.1
            have hno := hp.2
            have o1 := ho.1
            unfold atk at hc hno
            simp at hc hno
            rw [Bool.eq_iff_iff, tr_in, tr_in] at g
            omega
          · exact Or.inl (by simp)
          · exact Or.inr (Or.inl (by simp))
          · exact Or.inr (Or.inr (by simp))
        · have u1 : L.countP (fun x => decide (x = xk)) ≤ 1 := uniq1 (t := tk) (fun i x hx hp => by
            have : x = xk := by simpa using hp
            subst this
            have := lk.2.2.2.2 i _ hx lk.2.1
            have := lk.2.2.1
            have := lk.2.2.2.1
            omega)
          have u2 : L.countP (fun x => decide (x = xa)) ≤ 1 := uniq1 (t := ta) (fun i x hx hp => by
            have : x = xa := by simpa using hp
            subst this
            have := la.2.2.2.2 i _ hx la.2.1
            have := la.2.2.1
            have := la.2.2.2.1
            omega)
          have u3 : L.countP (fun x => decide (x = xb)) ≤ 1 := uniq1 (t := tb) (fun i x hx hp => by
            have : x = xb := by simpa using hp
            subst this
            have := lb'.2.2.2.2 i _ hx lb'.2.1
            have := lb'.2.2.1
            have := lb'.2.2.2.1
            omega)
          omega
      · refine Nat.le_trans (kcnt_le (q := atk c) (fun x hx hp => ?_)) (hW.2.2.2 c)
        obtain ⟨i, hi⟩ := List.mem_iff_getElem?.mp hx
        have hp : (atk c (ldx k a b x) && !(atk a (ldx k a b x) || atk b (ldx k a b x))) = true := hp
        simp only [Bool.and_eq_true] at hp
        have hc := hp.1
        rcases kind h0 hi with ⟨g, -, -⟩ | ⟨g, -, -⟩ | ⟨f, g1, -, g3, g, -⟩
        · rw [g] at hc; exact hc
        · rw [g] at hc; exact hc
        · rw [g] at hc
          unfold atk at hc ⊢
          simp at hc ⊢
          omega
