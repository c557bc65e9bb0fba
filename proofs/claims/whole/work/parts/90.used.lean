/-! pure: threads that keep their colours come first -/
def opn (keep : Bool) (x : TH) : Bool := !keep || x.2.2 == 3
def colT (L : List TH) (keep : Bool) (R : List Nat) : List TH := (R.filter (fun t => !opn keep (thn L t))).map (thn L)
def barT (L : List TH) (keep : Bool) (R : List Nat) : List TH := (R.filter (fun t => opn keep (thn L t))).map (thn L)
def okC : List TH → UC → Bool
  | [], _ => true
  | x :: C, U => fr3 U x x.2.2 && okC C (us3 U x x.2.2)
def adU : List TH → UC → UC
  | [], U => U
  | x :: C, U => adU C (us3 U x x.2.2)
theorem s3_only {F : Nat → Nat} {v : Nat} (p : Nat → Bool) (h : v < 3) : s3 (fun c => if ((v == c) && p c) = true then F c else 0) = if p v = true then F v else 0 := by
  have : v = 0 ∨ v = 1 ∨ v = 2 := by omega
  unfold s3
  rcases this with g | g | g <;> subst g <;> simp
theorem cq_col {keep : Bool} {Q : List TH} : ∀ {C : List TH} {U : UC}, (∀ x ∈ C, opn keep x = false ∧ x.2.2 < 3) → cq (alK keep) (C ++ Q) U = if okC C U = true then cq (alK keep) Q (adU C U) else 0
  | [], U, _ => by
    rw [show okC [] U = true from rfl, if_pos btt]
    rfl
  | x :: C, U, h => by
    obtain ⟨h1, h2⟩ := h x List.mem_cons_self
    have e : ∀ c, alK keep x c = (x.2.2 == c) := fun c => by
      unfold opn at h1
      unfold alK
      rw [h1]
      rfl
    show s3 (fun c => if (alK keep x c && fr3 U x c) = true then cq (alK keep) (C ++ Q) (us3 U x c) else 0) = _
    have := s3_only (F := fun c => cq (alK keep) (C ++ Q) (us3 U x c)) (fun c => fr3 U x c) h2
    have e2 : s3 (fun c => if (alK keep x c && fr3 U x c) = true then cq (alK keep) (C ++ Q) (us3 U x c) else 0) = s3 (fun c => if ((x.2.2 == c) && fr3 U x c) = true then cq (alK keep) (C ++ Q) (us3 U x c) else 0) := s3_cong (fun c _ => by rw [e c])
    rw [e2, this, cq_col (fun y hy => h y (List.mem_cons_of_mem _ hy))]
    show _ = if (fr3 U x x.2.2 && okC C (us3 U x x.2.2)) = true then cq (alK keep) Q (adU C (us3 U x x.2.2)) else 0
    cases fr3 U x x.2.2 with
    | false => rw [if_neg bff, Bool.false_and, if_neg bff]
    | true => rw [if_pos btt, Bool.true_and]
theorem qs_all (L : List TH) (R : List Nat) : qs L 0 R = R.map (thn L) := by
  unfold qs
  congr 1
  rw [List.filter_eq_self]
  intro t _
  rw [Nat.zero_testBit]
  rfl
theorem qs_split (L : List TH) (keep : Bool) (R : List Nat) : (qs L 0 R).Perm (colT L keep R ++ barT L keep R) := by
  rw [qs_all]
  unfold colT barT
  rw [← List.map_append]
  refine List.Perm.map _ (List.Perm.symm ?_)
  have := List.filter_append_perm (fun t => !opn keep (thn L t)) R
  simpa using this
theorem colT_in {L : List TH} {keep : Bool} {R : List Nat} (h3 : ∀ t ∈ R, (thn L t).2.2 ≤ 3) : ∀ x ∈ colT L keep R, opn keep x = false ∧ x.2.2 < 3 := by
  intro x hx
  unfold colT at hx
  rw [List.mem_map] at hx
  obtain ⟨t, ht, rfl⟩ := hx
  rw [List.mem_filter] at ht
  have h := h3 t ht.1
  have o : opn keep (thn L t) = false := by simpa using ht.2
  refine ⟨o, ?_⟩
  unfold opn at o
  rw [Bool.or_eq_false_iff] at o
  have := o.2
  simp at this
  omega
theorem bare_al {L : List TH} {keep : Bool} {R : List Nat} {U : UC} : cq (alK keep) (barT L keep R) U = cq allT (barT L keep R) U := by
  refine cq_cong (fun _ _ _ _ _ => rfl) (fun x hx c _ => ?_)
  unfold barT at hx
  rw [List.mem_map] at hx
  obtain ⟨t, ht, rfl⟩ := hx
  rw [List.mem_filter] at ht
  have o := ht.2
  unfold opn at o
  unfold alK allT
  rw [o]
  rfl
theorem cq_keep {L : List TH} {keep : Bool} {R : List Nat} {U : UC} (h3 : ∀ t ∈ R, (thn L t).2.2 ≤ 3) : cq (alK keep) (qs L 0 R) U = if okC (colT L keep R) U = true then cq allT (barT L keep R) (adU (colT L keep R) U) else 0 := by
  rw [cq_perm _ (qs_split L keep R), cq_col (colT_in h3), bare_al]
theorem adU_us {x : TH} {c : Nat} : ∀ {C : List TH} {U : UC}, us3 (adU C U) x c = adU C (us3 U x c)
  | [], _ => rfl
  | y :: C, U => by
    show us3 (adU C (us3 U y y.2.2)) x c = adU C (us3 (us3 U x c) y y.2.2)
    rw [adU_us, us3_comm]
/-- what tells whether a bare thread may have a colour: the reference's way and the class's -/
theorem cond_eq {L : List TH} {keep : Bool} {R : List Nat} {U : UC} {x : TH} {c : Nat} (h3 : ∀ t ∈ R, (thn L t).2.2 ≤ 3) (hc : c < 3) (hx : opn keep x = true) (hk : okC (colT L keep R) U = true) : ((alK keep x c && fr3 U x c) && decide (0 < cq (alK keep) (qs L 0 R) (us3 U x c))) = (fr3 (adU (colT L keep R) U) x c && decide (0 < cq allT (barT L keep R) (us3 (adU (colT L keep R) U) x c))) := by
  have ha : alK keep x c = true := by
    unfold opn at hx
    unfold alK
    rw [hx]
    rfl
  rw [ha, Bool.true_and]
  cases keep with
  | false =>
    have e : colT L false R = [] := by
      unfold colT opn
      simp
    have e2 : ∀ V, cq (alK false) (qs L 0 R) V = cq allT (barT L false R) V := fun V => by
      rw [cq_keep h3, e]
      rfl
    rw [e, e2]
    rfl
  | true =>
    have hx' : ∀ y ∈ [((x.1, x.2.1, c) : TH)], opn true y = false ∧ y.2.2 < 3 := fun y hy => by
      rw [List.mem_singleton] at hy
      rw [hy]
      refine ⟨?_, hc⟩
      show (c == 3) = false
      simp
      omega
    have l : cq (alK true) ((x.1, x.2.1, c) :: qs L 0 R) U = if fr3 U x c = true then cq (alK true) (qs L 0 R) (us3 U x c) else 0 := by
      have := cq_col (keep := true) (Q := qs L 0 R) (C := [(x.1, x.2.1, c)]) (U := U) hx'
      refine Eq.trans this ?_
      show (if (fr3 U x c && true) = true then _ else _) = _
      rw [Bool.and_true]
      rfl
    have r : cq (alK true) ((x.1, x.2.1, c) :: qs L 0 R) U = if fr3 (adU (colT L true R) U) x c = true then cq allT (barT L true R) (us3 (adU (colT L true R) U) x c) else 0 := by
      have p : ((x.1, x.2.1, c) :: qs L 0 R).Perm (colT L true R ++ ((x.1, x.2.1, c) :: barT L true R)) := ((qs_split L true R).cons _).trans List.perm_middle.symm
      rw [cq_perm _ p, cq_col (colT_in h3), if_pos hk]
      have := cq_col (keep := true) (Q := barT L true R) (C := [(x.1, x.2.1, c)]) (U := adU (colT L true R) U) hx'
      refine Eq.trans this ?_
      show (if (fr3 (adU (colT L true R) U) x c && true) = true then cq (alK true) (barT L true R) (us3 (adU (colT L true R) U) x c) else _) = _
      rw [Bool.and_true, bare_al]
    rw [r] at l
    cases f1 : fr3 U x c <;> cases f2 : fr3 (adU (colT L true R) U) x c
    · rfl
    · rw [f1, f2, if_pos btt, if_neg bff] at l
      rw [l]
      rfl
    · rw [f1, f2, if_pos btt, if_neg bff] at l
      rw [← l]
      rfl
    · rw [f1, f2, if_pos btt, if_pos btt] at l
      rw [l]
theorem useW_and {u lo hi c : Nat} : u &&& useW lo hi c = 0 ↔ u.testBit (3 * lo + c) = false ∧ u.testBit (3 * hi + c) = false := by
  unfold useW
  constructor
  · intro h
    have a := Nat.testBit_and u (2 ^ (3 * lo + c) ||| 2 ^ (3 * hi + c)) (3 * lo + c)
    have b := Nat.testBit_and u (2 ^ (3 * lo + c) ||| 2 ^ (3 * hi + c)) (3 * hi + c)
    rw [h, Nat.zero_testBit, Nat.testBit_or, Nat.testBit_two_pow, Nat.testBit_two_pow] at a b
    simp at a b
    exact ⟨a, b⟩
  · rintro ⟨h1, h2⟩
    apply Nat.eq_of_testBit_eq
    intro i
    rw [Nat.testBit_and, Nat.testBit_or, Nat.testBit_two_pow, Nat.testBit_two_pow, Nat.zero_testBit]
    by_cases q1 : 3 * lo + c = i
    · rw [← q1, h1]; rfl
    · by_cases q2 : 3 * hi + c = i
      · rw [← q2, h2]; rfl
      · simp [q1, q2]
theorem used_free {u c : Nat} {U : UC} {x : TH} (h : repU u U) (h1 : x.1 < 14) (h2 : x.2.1 < 14) (hc : c < 3) : lg_cmp (lN u &&& lN (useW x.1 x.2.1 c)) 0 = 0 ↔ fr3 U x c = true := by
  have lu : u < 2 ^ 63 := Nat.lt_of_lt_of_le h.1 (p2le (by decide))
  have lw : useW x.1 x.2.1 c < 2 ^ 63 := Nat.lt_of_lt_of_le (useW_lt h1 h2 hc) (p2le (by decide))
  rw [lg_cmp_eq, land _ _ (by omega) (by omega), show (0 : Int64) = lN 0 from rfl, pk_lEQ (Nat.lt_of_le_of_lt Nat.and_le_left lu) (by decide), useW_and, h.2.1 _ _ h1 hc, h.2.1 _ _ h2 hc]
  unfold fr3
  cases U x.1 c <;> cases U x.2.1 c <;> simp
theorem x_usedBy {N t c T : Nat} {lo hi co : Nat → Nat} (hw : wt T lo hi co) (ht : t < T) (hc : c < 3) : m_X3_usedBy N (nI (em lo hi t)) (nI c) = some (lN (useW (lo t) (hi t) c)) := by
  obtain ⟨h1, h2, -⟩ := hw.2 t ht
  have a := em_lt (n := 31) h1 (by omega)
  have b := em_lt (n := 14) h1 h2
  unfold m_X3_usedBy
  rw [m_ntz a em_pos, r_bind, m_nlz (by omega) em_pos, r_bind]
  unfold em
  rw [lb2 h1 (by omega), lg2 h1]
  simp only [nm]
  rw [show (31 : Int32) = nI 31 from rfl, pk_sub (by omega), show 31 - (31 - hi t) = hi t by omega, show (3 : Int32) = nI 3 from rfl, pk_mul, pk_mul, x_usedWith (by omega) h2 hc, r_bind]
theorem neg1L {u : Nat} (h : u < 2 ^ 42) : ¬ lg_cmp (lN u) (-1) = 0 := by
  rw [lg_cmp_eq]
  intro e
  have := pk_lT (n := u) (by omega)
  rw [e] at this
  have z : (-1 : Int64).toInt = -1 := by decide
  omega
theorem x_usedColours {N K : Nat} {L : List TH} {e c : Nat → Int32} (hW : WL K L) (hX : XL L e c) : ∀ (d t n u : Nat) (U : UC), t + d = L.length → d < n → repU u U → (okC (colT L true (rgf d t)) U = true ∧ ∃ u', m_X3_usedColours_L4 N (nI L.length) e c n (nI t) (lN u) = some (lN u') ∧ repU u' (adU (colT L true (rgf d t)) U)) ∨ (okC (colT L true (rgf d t)) U = false ∧ m_X3_usedColours_L4 N (nI L.length) e c n (nI t) (lN u) = some (-1)) := by
  have h21 := hW.len21
  have hw := hW.wt
  obtain ⟨hE, hC⟩ := XL_iff.mp hX
  intro d
  induction d with
  | zero =>
    intro t n u U ht hn hu
    obtain ⟨n, rfl⟩ : ∃ m, n = m + 1 := ⟨n - 1, by omega⟩
    have : t = L.length := by omega
    subst this
    refine Or.inl ⟨rfl, u, ?_, hu⟩
    rw [m_X3_usedColours_L4]
    unfold m_X2_threads
    rw [r_bind, if_pos (nI_le (Nat.le_refl _) (by omega))]
  | succ d ih =>
    intro t n u U ht hn hu
    obtain ⟨n, rfl⟩ : ∃ m, n = m + 1 := ⟨n - 1, by omega⟩
    have htl : t < L.length := by omega
    obtain ⟨w1, w2, w3⟩ := hw.2 t htl
    have er : rgf (d + 1) t = t :: rgf d (t + 1) := rfl
    rw [er, m_X3_usedColours_L4]
    unfold m_X2_threads
    rw [r_bind, if_neg (nI_ge htl (by omega)), x_colour h21 hC htl, r_bind, nI_1]
    by_cases q : fc L t = 3
    · have eo : opn true (thn L t) = true := by
        show (fc L t == 3) = true
        simp [q]
      have ec : colT L true (t :: rgf d (t + 1)) = colT L true (rgf d (t + 1)) := by
        unfold colT
        rw [List.filter_cons, eo]
        rfl
      rw [if_pos (by rw [q]; rfl), ec]
      exact ih (t + 1) n u U (by omega) (by omega) hu
    · have eo : opn true (thn L t) = false := by
        show (fc L t == 3) = false
        simp [q]
      have ec : colT L true (t :: rgf d (t + 1)) = thn L t :: colT L true (rgf d (t + 1)) := by
        unfold colT
        rw [List.filter_cons, eo]
        rfl
      have ef : (thn L t).2.2 = fc L t := rfl
      have hfr := used_free (x := thn L t) (c := fc L t) hu (show (thn L t).1 < 14 from by show fl L t < 14; omega) (show (thn L t).2.1 < 14 from w2) (by omega)
      have hrep := rep_us (x := thn L t) (c := fc L t) hu (show (thn L t).1 < 14 from by show fl L t < 14; omega) (show (thn L t).2.1 < 14 from w2) (by omega)
      have lu : u < 2 ^ 64 := Nat.lt_of_lt_of_le hu.1 (p2le (by decide))
      have lw : useW (thn L t).1 (thn L t).2.1 (fc L t) < 2 ^ 64 := Nat.lt_of_lt_of_le (useW_lt (show (thn L t).1 < 14 from by show fl L t < 14; omega) (show (thn L t).2.1 < 14 from w2) (by omega)) (p2le (by decide))
      rw [if_neg (fun g => q ((nI3 (by omega)).mp g)), x_ends h21 hE htl, r_bind, r_bind, x_usedBy hw htl (by omega), r_bind, ec]
      show ((fr3 U (thn L t) (fc L t) && okC (colT L true (rgf d (t + 1))) (us3 U (thn L t) (fc L t))) = true ∧ ∃ u', (if lg_cmp (lN u &&& lN (useW (thn L t).1 (thn L t).2.1 (fc L t))) 0 = 0 then m_X3_usedColours_L4 N (nI L.length) e c n (nI (t + 1)) (lN u ||| lN (useW (thn L t).1 (thn L t).2.1 (fc L t))) else some (-1)) = some (lN u') ∧ repU u' (adU (colT L true (rgf d (t + 1))) (us3 U (thn L t) (fc L t)))) ∨ ((fr3 U (thn L t) (fc L t) && okC (colT L true (rgf d (t + 1))) (us3 U (thn L t) (fc L t))) = false ∧ (if lg_cmp (lN u &&& lN (useW (thn L t).1 (thn L t).2.1 (fc L t))) 0 = 0 then m_X3_usedColours_L4 N (nI L.length) e c n (nI (t + 1)) (lN u ||| lN (useW (thn L t).1 (thn L t).2.1 (fc L t))) else some (-1)) = some (-1))
      cases fr : fr3 U (thn L t) (fc L t) with
      | true =>
        rw [if_pos (hfr.mpr fr), Bool.true_and, lor _ _ lu lw]
        exact ih (t + 1) n _ _ (by omega) (by omega) hrep
      | false =>
        rw [if_neg (fun g => by rw [hfr.mp g] at fr; cases fr), Bool.false_and]
        exact Or.inr ⟨rfl, rfl⟩
