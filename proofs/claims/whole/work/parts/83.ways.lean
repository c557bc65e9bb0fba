/-! pure: the class counts the good paintings of a group -/
def allT : TH → Nat → Bool := fun _ _ => true
def thn (L : List TH) (t : Nat) : TH := L.getD t (0, 0, 0)
def PAr (L : List TH) (Z : List Nat) (b l g : Nat → Int32) : Prop := ∀ p t, Z[p]? = some t → b p = nI (2 ^ t) ∧ l p = nI (3 * (thn L t).1) ∧ g p = nI (3 * (thn L t).2.1)
def okZ (L : List TH) (Z : List Nat) : Prop := ∀ t ∈ Z, t < 21 ∧ (thn L t).1 < (thn L t).2.1 ∧ (thn L t).2.1 < 14
def qs (L : List TH) (skip : Nat) (R : List Nat) : List TH := (R.filter (fun t => !skip.testBit t)).map (thn L)
theorem qs_skip {L : List TH} {skip t : Nat} {R : List Nat} (h : skip.testBit t = true) : qs L skip (t :: R) = qs L skip R := by
  unfold qs
  rw [List.filter_cons, h]
  rfl
theorem qs_take {L : List TH} {skip t : Nat} {R : List Nat} (h : skip.testBit t = false) : qs L skip (t :: R) = thn L t :: qs L skip R := by
  unfold qs
  rw [List.filter_cons, h]
  rfl
theorem qs_app (L : List TH) (skip : Nat) (A B : List Nat) : qs L skip (A ++ B) = qs L skip A ++ qs L skip B := by
  unfold qs
  rw [List.filter_append, List.map_append]
theorem qs_mem {L : List TH} {skip : Nat} {R : List Nat} {x : TH} (h : x ∈ qs L skip R) : ∃ t ∈ R, skip.testBit t = false ∧ x = thn L t := by
  unfold qs at h
  rw [List.mem_map] at h
  obtain ⟨t, ht, rfl⟩ := h
  rw [List.mem_filter] at ht
  exact ⟨t, ht.1, by simpa using ht.2, rfl⟩
theorem qs_len (L : List TH) (skip : Nat) (R : List Nat) : (qs L skip R).length ≤ R.length := by
  unfold qs
  rw [List.length_map]
  exact List.length_filter_le _ _
theorem qs_ok {L : List TH} {skip : Nat} {R : List Nat} (h : okZ L R) : ∀ x ∈ qs L skip R, x.1 < x.2.1 ∧ x.2.1 < 14 := by
  intro x hx
  obtain ⟨t, ht, -, rfl⟩ := qs_mem hx
  exact (h t ht).2
theorem cq_b {al : TH → Nat → Bool} {Q : List TH} {U : UC} (hok : ∀ x ∈ Q, x.1 < x.2.1 ∧ x.2.1 < 14) (hl : Q.length ≤ 21) : cq al Q U < 2 ^ 30 := by
  have h := cq_le (al := al) (Q := Q) (U := U) (S := fun _ => false) (h := 7) hok (fun k hk => by cases hk) (by omega)
  have h2 := p2le hl
  have e7 : (2 : Nat) ^ 7 = 128 := by decide
  have e3 : (3 : Nat) ^ 7 = 2187 := by decide
  have e21 : (2 : Nat) ^ 21 = 2097152 := by decide
  have e30 : (2 : Nat) ^ 30 = 1073741824 := by decide
  rw [e7, e3] at h
  rw [e21] at h2
  rw [e30]
  omega
def GW (w q E : Nat) : Prop := w ≤ q ∧ (0 < q → 0 < w) ∧ (q ≤ E → w = q)
def sF (F : Nat → Nat) : Nat → Nat → Nat
  | 0, _ => 0
  | k + 1, c => F c + sF F k (c + 1)
theorem wf_loop {N u E : Nat} {U : UC} {x : TH} {q : Nat → Nat} {rec : (Nat → Int32) → (Nat → Int32) → (Nat → Int32) → Int32 → Int32 → Int64 → Int32 → Int32 → Option Int32} {b l g : Nat → Int32} {a1 a2 a5 : Int32} (hu : repU u U) (h1 : x.1 < 14) (h2 : x.2.1 < 14) (hE : 1 ≤ E) (hE2 : E < 2 ^ 31)
    (hrec : ∀ c, c < 3 → fr3 U x c = true → ∀ E', 1 ≤ E' → E' < 2 ^ 31 → ∃ w, rec b l g (a1 + 1) a2 (lN (u ||| useW x.1 x.2.1 c)) a5 (nI E') = some (nI w) ∧ GW w (q c) E') :
    ∀ k c s n, c + k = 3 → k < n → s + sF (fun c => if fr3 U x c = true then q c else 0) k c < 2 ^ 31 → ∃ w, m_X3_waysFrom_L77 N rec b l g a1 a2 (lN u) a5 (nI E) (nI (3 * x.1)) (nI (3 * x.2.1)) (nI (useM u x.1 x.2.1)) n (nI c) (nI s) = some (nI w) ∧ w ≤ s + sF (fun c => if fr3 U x c = true then q c else 0) k c ∧ (0 < s + sF (fun c => if fr3 U x c = true then q c else 0) k c → 0 < w) ∧ (s + sF (fun c => if fr3 U x c = true then q c else 0) k c ≤ E → w = s + sF (fun c => if fr3 U x c = true then q c else 0) k c) := by
  intro k
  induction k with
  | zero =>
    intro c s n hc hn hs
    obtain ⟨n, rfl⟩ : ∃ m, n = m + 1 := ⟨n - 1, by omega⟩
    have : c = 3 := by omega
    subst this
    exact ⟨s, by rw [m_X3_waysFrom_L77, if_pos (show (3 : Int32) ≤ nI 3 by decide)], by omega, id, fun _ => rfl⟩
  | succ k ih =>
    intro c s n hc hn hs
    obtain ⟨n, rfl⟩ : ∃ m, n = m + 1 := ⟨n - 1, by omega⟩
    have hc3 : c < 3 := by omega
    have eF : sF (fun c => if fr3 U x c = true then q c else 0) (k + 1) c = (if fr3 U x c = true then q c else 0) + sF (fun c => if fr3 U x c = true then q c else 0) k (c + 1) := rfl
    rw [eF] at hs ⊢
    have n3 : ¬ (3 : Int32) ≤ nI c := nI_ge (a := c) (b := 3) hc3 (by decide)
    rw [m_X3_waysFrom_L77, if_neg n3]
    by_cases q1 : E ≤ s
    · rw [if_pos (nI_le q1 (by omega))]
      exact ⟨s, rfl, by omega, fun _ => by omega, fun _ => by omega⟩
    · rw [if_neg (nI_ge (by omega) hE2), m_holds (by have := useM_lt u x.1 x.2.1; omega) (by omega), r_bind, rep_free hu h1 h2 hc3]
      cases fr : fr3 U x c with
      | false =>
        rw [fr] at hs
        have z : (if false = true then q c else 0) = 0 := rfl
        rw [z] at hs ⊢
        obtain ⟨w, g1, g2, g3, g4⟩ := ih (c + 1) s n (by omega) (by omega) (by omega)
        rw [sel, if_pos (show (!false) = true from rfl), nI_1]
        exact ⟨w, g1, by omega, fun h => g3 (by omega), fun h => by have := g4 (by omega); omega⟩
      | true =>
        rw [fr] at hs
        have z : (if true = true then q c else 0) = q c := rfl
        rw [z] at hs ⊢
        have lu : u < 2 ^ 64 := Nat.lt_of_lt_of_le hu.1 (p2le (by decide))
        have lw : useW x.1 x.2.1 c < 2 ^ 64 := Nat.lt_of_lt_of_le (useW_lt h1 h2 hc3) (p2le (by decide))
        obtain ⟨w0, r1, r2, r3, r4⟩ := hrec c hc3 fr (E - s) (by omega) (by omega)
        obtain ⟨w, g1, g2, g3, g4⟩ := ih (c + 1) (s + w0) n (by omega) (by omega) (by omega)
        rw [sel, if_neg (show ¬ (!true) = true by decide), x_usedWith h1 h2 hc3, r_bind]
        simp only [nm]
        rw [lor _ _ lu lw, pk_sub (by omega), r1, r_bind, nI_add, nI_1]
        refine ⟨w, g1, by omega, fun h => g3 ?_, fun h => ?_⟩
        · rcases Nat.eq_zero_or_pos (q c) with t | t
          · omega
          · have := r3 t
            omega
        · have := r4 (by omega)
          have := g4 (by omega)
          omega
theorem skip_iff {t skip : Nat} (ht : t < 21) (hs : skip < 2 ^ 31) : nI (2 ^ t) &&& nI skip = 0 ↔ skip.testBit t = false := by
  rw [nand, Nat.and_comm, nI_eq0 (Nat.lt_of_le_of_lt Nat.and_le_left hs), and_p2]
theorem x_waysFrom {N skip : Nat} {L : List TH} {Z B : List Nat} {b l g : Nat → Int32} (hN : 1000 ≤ N) (hP : PAr L Z b l g) (hZ : Z.length ≤ 21) (hok : okZ L Z) (hs : skip < 2 ^ 31) : ∀ (R A : List Nat), Z = A ++ R ++ B → ∀ (d u E : Nat) (U : UC), R.length < d → repU u U → 1 ≤ E → E < 2 ^ 31 → ∃ w, m_X3_waysFrom N d b l g (nI A.length) (nI (A.length + R.length)) (lN u) (nI skip) (nI E) = some (nI w) ∧ GW w (cq allT (qs L skip R) U) E := by
  intro R
  induction R with
  | nil =>
    intro A hA d u E U hd hu hE hE2
    obtain ⟨d, rfl⟩ : ∃ m, d = m + 1 := ⟨d - 1, by omega⟩
    have la : A.length ≤ 21 := by
      have := congrArg List.length hA
      simp at this
      omega
    refine ⟨1, by rw [m_X3_waysFrom, if_pos (nI_le (by simp) (by simp; omega))]; rfl, Nat.le_refl _, fun _ => by decide, fun _ => rfl⟩
  | cons t R ih =>
    intro A hA d u E U hd hu hE hE2
    obtain ⟨d, rfl⟩ : ∃ m, d = m + 1 := ⟨d - 1, by omega⟩
    have la : A.length + R.length + 1 ≤ 21 := by
      have := congrArg List.length hA
      simp at this
      omega
    have hp : Z[A.length]? = some t := by
      rw [hA, List.append_assoc, List.getElem?_append_right (Nat.le_refl _), Nat.sub_self]
      rfl
    obtain ⟨p1, p2, p3⟩ := hP _ t hp
    obtain ⟨t21, o1, o2⟩ := hok t (List.mem_of_getElem? hp)
    have hA' : Z = (A ++ [t]) ++ R ++ B := by rw [hA]; simp
    have lA : (A ++ [t]).length = A.length + 1 := by simp
    have stop : nI (A.length + (t :: R).length) = nI ((A ++ [t]).length + R.length) := by
      rw [lA, List.length_cons]
      congr 1
      omega
    have l21 : nI A.length < 21 := nI_lt (a := A.length) (b := 21) (by omega) (by decide)
    rw [m_X3_waysFrom, if_neg (nI_ge (by rw [List.length_cons]; omega) (by rw [List.length_cons]; omega)), if_pos l21, x_at (by omega) (by decide), r_bind, p1]
    cases q : skip.testBit t with
    | true =>
      rw [if_neg (fun h => by rw [skip_iff t21 hs, q] at h; cases h), qs_skip q, nI_1]
      obtain ⟨w, g1, g2⟩ := ih (A ++ [t]) hA' d u E U (by simp at hd; omega) hu hE hE2
      rw [lA, ← lA, stop] at *
      rw [lA] at g1
      rw [← lA]
      rw [lA, g1]
      exact ⟨w, rfl, g2⟩
    | false =>
      rw [if_pos ((skip_iff t21 hs).mpr q), qs_take q, x_at (by omega) (by decide), r_bind, p2, x_at (by omega) (by decide), r_bind, p3, x_usedAt hu.1 (by omega) o2, r_bind]
      have bound : cq allT (thn L t :: qs L skip R) U < 2 ^ 30 := by
        rw [← qs_take q]
        have hok2 : okZ L (t :: R) := fun v hv => hok v (by rw [hA]; exact List.mem_append_left _ (List.mem_append_right _ hv))
        exact cq_b (qs_ok hok2) (Nat.le_trans (qs_len L skip (t :: R)) (by simp; omega))
      have e3 : 0 + sF (fun c => if fr3 U (thn L t) c = true then cq allT (qs L skip R) (us3 U (thn L t) c) else 0) 3 0 = cq allT (thn L t :: qs L skip R) U := by
        show 0 + ((if fr3 U (thn L t) 0 = true then cq allT (qs L skip R) (us3 U (thn L t) 0) else 0) + ((if fr3 U (thn L t) 1 = true then cq allT (qs L skip R) (us3 U (thn L t) 1) else 0) + ((if fr3 U (thn L t) 2 = true then cq allT (qs L skip R) (us3 U (thn L t) 2) else 0) + 0))) = (if fr3 U (thn L t) 0 = true then cq allT (qs L skip R) (us3 U (thn L t) 0) else 0) + (if fr3 U (thn L t) 1 = true then cq allT (qs L skip R) (us3 U (thn L t) 1) else 0) + (if fr3 U (thn L t) 2 = true then cq allT (qs L skip R) (us3 U (thn L t) 2) else 0)
        omega
      have := wf_loop (N := N) (u := u) (E := E) (U := U) (x := thn L t) (q := fun c => cq allT (qs L skip R) (us3 U (thn L t) c)) (rec := m_X3_waysFrom N d) (b := b) (l := l) (g := g) (a1 := nI A.length) (a2 := nI (A.length + (t :: R).length)) (a5 := nI skip) hu (by omega) o2 hE hE2 (fun c hc hf E' h1 h2 => by
        obtain ⟨w, g1, g2⟩ := ih (A ++ [t]) hA' d (u ||| useW (thn L t).1 (thn L t).2.1 c) E' (us3 U (thn L t) c) (by simp at hd; omega) (rep_us hu (by omega) o2 hc) h1 h2
        rw [nI_1, stop]
        rw [lA] at g1 ⊢
        exact ⟨w, g1, g2⟩) 3 0 0 N rfl (by omega) (by rw [e3]; omega)
      rw [e3] at this
      obtain ⟨w, g1, g2, g3, g4⟩ := this
      exact ⟨w, g1, g2, g3, g4⟩
