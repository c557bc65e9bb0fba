/-! pure: the class finds the first good painting -/
theorem x_lowest {N K fx u d t : Nat} {V : UC} {L : List TH} {G : List (List Nat)} {b l g st : Nat → Int32} {keep : Bool} (hN : 1000 ≤ N) (hW : WL K L) (h : ARr L (opm L keep) G b l g st) (hfx : fx < 2 ^ 31) (hf : ∀ i, i < L.length → opn keep (thn L i) = true → fx.testBit i = decide (i < t + 1)) (htd : t + 1 + d = L.length) (hu : repU u V) : m_X3_lowestColour N b l g st (nI G.length) (nI (em (fl L) (fh L) t)) (lN u) (nI fx) = some (nI (gcl (fun c => fr3 V (thn L t) c && decide (0 < cq allT (barT L keep (rgf d (t + 1))) (us3 V (thn L t) c))))) := by
  have htl : t < L.length := by omega
  obtain ⟨o1, o2, o3⟩ := thn_ok hW htl
  have lu : u < 2 ^ 64 := Nat.lt_of_lt_of_le hu.1 (p2le (by decide))
  have st1 : ∀ c n, c < 2 → m_X3_lowestColour_L3 N b l g st (nI G.length) (nI (em (fl L) (fh L) t)) (lN u) (nI fx) (n + 1) (nI c) = if (fr3 V (thn L t) c && decide (0 < cq allT (barT L keep (rgf d (t + 1))) (us3 V (thn L t) c))) = true then some (nI c) else m_X3_lowestColour_L3 N b l g st (nI G.length) (nI (em (fl L) (fh L) t)) (lN u) (nI fx) n (nI (c + 1)) := by
    intro c n hc
    have lw : useW (thn L t).1 (thn L t).2.1 c < 2 ^ 64 := Nat.lt_of_lt_of_le (useW_lt (by omega) o2 (by omega)) (p2le (by decide))
    have hfr := used_free (x := thn L t) (c := c) hu (by omega) o2 (by omega)
    have ub : m_X3_usedBy N (nI (em (fl L) (fh L) t)) (nI c) = some (lN (useW (thn L t).1 (thn L t).2.1 c)) := x_usedBy hW.wt htl (by omega)
    rw [m_X3_lowestColour_L3, if_neg (show ¬ (2 : Int32) ≤ nI c from nI_ge (a := c) (b := 2) hc (by decide)), ub, r_bind, nI_1]
    cases fr : fr3 V (thn L t) c with
    | false => rw [if_neg (fun w => by rw [hfr.mp w] at fr; cases fr), Bool.false_and, if_neg bff]
    | true =>
      obtain ⟨w, g1, g2, g3⟩ := x_oracle (fx := fx) (t := t + 1) (d := d) (E := 1) hN hW h hfx hf htd (rep_us hu (by omega) o2 (show c < 3 by omega)) (by decide) (by decide)
      rw [if_pos (hfr.mpr fr), lor _ _ lu lw, Bool.true_and]
      show Option.bind (m_X3_ways N b l g st (nI G.length) (lN (u ||| useW (thn L t).1 (thn L t).2.1 c)) (nI fx) (nI 1)) _ = _
      rw [g1, r_bind]
      by_cases q : 0 < cq allT (barT L keep (rgf d (t + 1))) (us3 V (thn L t) c)
      · have := g2.2.1 q
        rw [if_neg (nI_le0 this (by omega)), if_pos (by simpa using q)]
      · have : w = 0 := by have := g2.1; omega
        rw [this, if_pos (show nI 0 ≤ 0 from nI_le (a := 0) (b := 0) (Nat.le_refl _) (by decide)), if_neg (by simpa using q)]
  obtain ⟨n, rfl⟩ : ∃ m, N = m + 3 := ⟨N - 3, by omega⟩
  unfold m_X3_lowestColour gcl
  refine Eq.trans (st1 0 (n + 2) (by decide)) ?_
  split
  · rfl
  · refine Eq.trans (st1 1 (n + 1) (by decide)) ?_
    split
    · rfl
    · rw [m_X3_lowestColour_L3, if_pos (show (2 : Int32) ≤ nI (1 + 1) by decide)]
      rfl
abbrev F9 : Type := Option (Int32 × (Nat → Int32) × (Nat → Int32) × (Nat → Int32) × Int32 × (Nat → Int32) × Int32 × (Nat → Int32) × (Nat → Int32))
theorem s3_pos {p : Nat → Bool} {q : Nat → Nat} (h : 0 < s3 (fun c => if p c = true then q c else 0)) : ∃ c, c < 3 ∧ p c = true ∧ 0 < q c := by
  unfold s3 at h
  by_cases h0 : p 0 = true ∧ 0 < q 0
  · exact ⟨0, by decide, h0⟩
  · by_cases h1 : p 1 = true ∧ 0 < q 1
    · exact ⟨1, by decide, h1⟩
    · by_cases h2 : p 2 = true ∧ 0 < q 2
      · exact ⟨2, by decide, h2⟩
      · exfalso
        have z : ∀ c, ¬ (p c = true ∧ 0 < q c) → (if p c = true then q c else 0) = 0 := fun c hc => by
          by_cases w : p c = true
          · rw [if_pos w]
            have : ¬ 0 < q c := fun x => hc ⟨w, x⟩
            omega
          · rw [if_neg w]
        have a := z 0 h0
        have b := z 1 h1
        have d := z 2 h2
        dsimp only at h
        omega
theorem gcl_in {p : Nat → Bool} (h : ∃ c, c < 3 ∧ p c = true) : gcl p < 3 ∧ p (gcl p) = true := by
  obtain ⟨c, h1, h2⟩ := h
  unfold gcl
  by_cases a : p 0 = true
  · rw [if_pos a]
    exact ⟨by decide, a⟩
  · rw [if_neg a]
    by_cases b : p 1 = true
    · rw [if_pos b]
      exact ⟨by decide, b⟩
    · rw [if_neg b]
      refine ⟨by decide, ?_⟩
      have : c = 0 ∨ c = 1 ∨ c = 2 := by omega
      rcases this with g | g | g
      · rw [g] at h2; exact absurd h2 a
      · rw [g] at h2; exact absurd h2 b
      · rw [g] at h2; exact h2
theorem gcl_one {p : Nat → Bool} {v : Nat} (hv : v < 3) (h : p v = true) (hn : ∀ c, c ≠ v → p c = false) : gcl p = v := by
  have a := (gcl_in ⟨v, hv, h⟩).2
  by_cases q : gcl p = v
  · exact q
  · rw [hn _ q] at a
    cases a
theorem x_findLoop {N K : Nat} {L : List TH} {G : List (List Nat)} {e c b l g st bes : Nat → Int32} {p0 : Int32} {keep : Bool} (hN : 1000 ≤ N) (hW : WL K L) (hX : XL L e c) (h : ARr L (opm L keep) G b l g st) : ∀ (d t n u fx : Nat) (U : UC) (f : Nat → Int32), t + d = L.length → d < n → repU u (adU (colT L keep (rgf d t)) U) → okC (colT L keep (rgf d t)) U = true → 0 < cq (alK keep) (qs L 0 (rgf d t)) U → fx < 2 ^ 21 → (∀ i, i < L.length → opn keep (thn L i) = true → fx.testBit i = decide (i < t)) → ∃ f', m_X3_findFirst_L66 N (nI L.length) e c (nI (opm L keep)) b l g p0 st (nI G.length) bes n (nI t) (nI fx) (lN u) f = some (1, b, l, g, p0, st, nI G.length, bes, f') ∧ (∀ i, i < t → f' i = f i) ∧ ∀ i v, (gx (alK keep) (qs L 0 (rgf d t)) U)[i]? = some v → f' (t + i) = nI v := by
  have h21 := hW.len21
  have hw := hW.wt
  obtain ⟨hE, hC⟩ := XL_iff.mp hX
  have ol : opm L keep < 2 ^ 31 := Nat.lt_of_lt_of_le (opm_lt L keep) (p2le (by omega))
  intro d
  induction d with
  | zero =>
    intro t n u fx U f ht hn hu hk hq hx hf
    obtain ⟨n, rfl⟩ : ∃ m, n = m + 1 := ⟨n - 1, by omega⟩
    have : t = L.length := by omega
    subst this
    refine ⟨f, ?_, fun _ _ => rfl, fun i v hv => ?_⟩
    · rw [m_X3_findFirst_L66]
      unfold m_X2_threads
      rw [r_bind, if_pos (nI_le (Nat.le_refl _) (by omega))]
    · have : gx (alK keep) (qs L 0 (rgf 0 L.length)) U = [] := rfl
      rw [this] at hv
      simp at hv
  | succ d ih =>
    intro t n u fx U f ht hn hu hk hq hx hf
    obtain ⟨n, rfl⟩ : ∃ m, n = m + 1 := ⟨n - 1, by omega⟩
    have htl : t < L.length := by omega
    obtain ⟨o1, o2, o3⟩ := thn_ok hW htl
    have er : rgf (d + 1) t = t :: rgf d (t + 1) := rfl
    have eq0 : qs L 0 (t :: rgf d (t + 1)) = thn L t :: qs L 0 (rgf d (t + 1)) := qs_take (Nat.zero_testBit t)
    have c3 := col3 (d := d) (t := t + 1) hW (by omega)
    rw [er, eq0] at hq
    rw [er] at hu hk
    rw [er, eq0]
    have pos : 0 < s3 (fun c => if (alK keep (thn L t) c && fr3 U (thn L t) c) = true then cq (alK keep) (qs L 0 (rgf d (t + 1))) (us3 U (thn L t) c) else 0) := hq
    obtain ⟨c0, k1, k2, k3⟩ := s3_pos pos
    have gin := gcl_in (p := fun c => (alK keep (thn L t) c && fr3 U (thn L t) c) && decide (0 < cq (alK keep) (qs L 0 (rgf d (t + 1))) (us3 U (thn L t) c))) ⟨c0, k1, by rw [k2]; simpa using k3⟩
    have el : gx (alK keep) (thn L t :: qs L 0 (rgf d (t + 1))) U = gcl (fun c => (alK keep (thn L t) c && fr3 U (thn L t) c) && decide (0 < cq (alK keep) (qs L 0 (rgf d (t + 1))) (us3 U (thn L t) c))) :: gx (alK keep) (qs L 0 (rgf d (t + 1))) (us3 U (thn L t) (gcl (fun c => (alK keep (thn L t) c && fr3 U (thn L t) c) && decide (0 < cq (alK keep) (qs L 0 (rgf d (t + 1))) (us3 U (thn L t) c))))) := rfl
    rw [el]
    generalize hv : gcl (fun c => (alK keep (thn L t) c && fr3 U (thn L t) c) && decide (0 < cq (alK keep) (qs L 0 (rgf d (t + 1))) (us3 U (thn L t) c))) = v at gin ⊢
    obtain ⟨v3, gin⟩ := gin
    rw [Bool.and_eq_true, Bool.and_eq_true] at gin
    obtain ⟨⟨ga, gf⟩, gq⟩ := gin
    have gq : 0 < cq (alK keep) (qs L 0 (rgf d (t + 1))) (us3 U (thn L t) v) := by simpa using gq
    have fin : ∀ f' : Nat → Int32, (∀ i, i < t + 1 → f' i = upd f t (nI v) i) → (∀ i w, (gx (alK keep) (qs L 0 (rgf d (t + 1))) (us3 U (thn L t) v))[i]? = some w → f' (t + 1 + i) = nI w) → (∀ i, i < t → f' i = f i) ∧ ∀ i w, (v :: gx (alK keep) (qs L 0 (rgf d (t + 1))) (us3 U (thn L t) v))[i]? = some w → f' (t + i) = nI w := by
      intro f' a1 a2
      refine ⟨fun i hi => by rw [a1 i (by omega), upd_n (by omega)], fun i w hw => ?_⟩
      cases i with
      | zero =>
        simp at hw
        rw [Nat.add_zero, a1 t (by omega), upd_s, hw]
      | succ i =>
        rw [show t + (i + 1) = t + 1 + i by omega]
        exact a2 i w (by simpa using hw)
    rw [m_X3_findFirst_L66]
    unfold m_X2_threads
    rw [r_bind, if_neg (nI_ge htl (by omega)), x_colour h21 hC htl, r_bind, m_holds ol (by omega), r_bind, opm_tb htl, nI_1]
    simp only [jn]
    rw [sel]
    cases ho : opn keep (thn L t) with
    | false =>
      have ec : colT L keep (t :: rgf d (t + 1)) = thn L t :: colT L keep (rgf d (t + 1)) := by
        unfold colT
        rw [List.filter_cons, ho]
        rfl
      rw [ec] at hu hk
      have hk' : (fr3 U (thn L t) (thn L t).2.2 && okC (colT L keep (rgf d (t + 1))) (us3 U (thn L t) (thn L t).2.2)) = true := hk
      rw [Bool.and_eq_true] at hk'
      have ev : v = (thn L t).2.2 := by
        unfold opn at ho
        unfold alK at ga
        rw [ho] at ga
        simp at ga
        omega
      rw [if_neg bff, x_put (by omega) (by decide), r_bind, show nI (fc L t) = nI v from by rw [ev]; rfl]
      rw [ev] at gq
      obtain ⟨f', h1, h2, h3⟩ := ih (t + 1) n u fx (us3 U (thn L t) (thn L t).2.2) (upd f t (nI v)) (by omega) (by omega) hu hk'.2 gq hx (fun i hi hoi => by
        rw [hf i hi hoi]
        by_cases w : i = t
        · rw [w, ho] at hoi; cases hoi
        · congr 1
          exact propext ⟨fun _ => by omega, fun _ => by omega⟩)
      rw [← ev] at h3
      obtain ⟨m1, m2⟩ := fin f' h2 h3
      exact ⟨f', h1, m1, m2⟩
    | true =>
      have ec : colT L keep (t :: rgf d (t + 1)) = colT L keep (rgf d (t + 1)) := by
        unfold colT
        rw [List.filter_cons, ho]
        rfl
      rw [ec] at hu hk
      have lw : useW (thn L t).1 (thn L t).2.1 v < 2 ^ 64 := Nat.lt_of_lt_of_le (useW_lt (by omega) o2 v3) (p2le (by decide))
      have lu : u < 2 ^ 64 := Nat.lt_of_lt_of_le hu.1 (p2le (by decide))
      have hx' : fx ||| 2 ^ t < 2 ^ 21 := or_lt hx (p2lt (by omega))
      have hf' : ∀ i, i < L.length → opn keep (thn L i) = true → (fx ||| 2 ^ t).testBit i = decide (i < t + 1) := fun i hi hoi => by
        rw [tb_ins, hf i hi hoi, Bool.eq_iff_iff]
        simp
        omega
      have low := x_lowest (fx := fx ||| 2 ^ t) (t := t) (d := d) hN hW h (by omega) hf' (by omega) hu
      have ce : (fun c => fr3 (adU (colT L keep (rgf d (t + 1))) U) (thn L t) c && decide (0 < cq allT (barT L keep (rgf d (t + 1))) (us3 (adU (colT L keep (rgf d (t + 1))) U) (thn L t) c))) 0 = (fun c => (alK keep (thn L t) c && fr3 U (thn L t) c) && decide (0 < cq (alK keep) (qs L 0 (rgf d (t + 1))) (us3 U (thn L t) c))) 0 := (cond_eq c3 (by decide) ho hk).symm
      have ce1 : (fun c => fr3 (adU (colT L keep (rgf d (t + 1))) U) (thn L t) c && decide (0 < cq allT (barT L keep (rgf d (t + 1))) (us3 (adU (colT L keep (rgf d (t + 1))) U) (thn L t) c))) 1 = (fun c => (alK keep (thn L t) c && fr3 U (thn L t) c) && decide (0 < cq (alK keep) (qs L 0 (rgf d (t + 1))) (us3 U (thn L t) c))) 1 := (cond_eq c3 (by decide) ho hk).symm
      have gg : gcl (fun c => fr3 (adU (colT L keep (rgf d (t + 1))) U) (thn L t) c && decide (0 < cq allT (barT L keep (rgf d (t + 1))) (us3 (adU (colT L keep (rgf d (t + 1))) U) (thn L t) c))) = v := by
        rw [← hv]
        unfold gcl
        rw [ce, ce1]
      rw [gg] at low
      have hk2 : okC (colT L keep (rgf d (t + 1))) (us3 U (thn L t) v) = true := by
        have := cq_keep (keep := keep) (U := us3 U (thn L t) v) c3
        cases w : okC (colT L keep (rgf d (t + 1))) (us3 U (thn L t) v) with
        | true => rfl
        | false =>
          rw [w, if_neg bff] at this
          omega
      have hu2 : repU (u ||| useW (thn L t).1 (thn L t).2.1 v) (adU (colT L keep (rgf d (t + 1))) (us3 U (thn L t) v)) := by
        rw [← adU_us]
        exact rep_us hu (by omega) o2 v3
      have ub : m_X3_usedBy N (nI (em (fl L) (fh L) t)) (nI v) = some (lN (useW (thn L t).1 (thn L t).2.1 v)) := x_usedBy hw htl v3
      rw [if_pos btt, m_bit (by omega), r_bind]
      simp only [nm]
      rw [nor, x_ends h21 hE htl, r_bind, low, r_bind, r_bind, ub, r_bind, lor _ _ lu lw, x_put (by omega) (by decide), r_bind]
      obtain ⟨f', h1, h2, h3⟩ := ih (t + 1) n _ (fx ||| 2 ^ t) (us3 U (thn L t) v) (upd f t (nI v)) (by omega) (by omega) hu2 hk2 gq hx' hf'
      obtain ⟨m1, m2⟩ := fin f' h2 h3
      exact ⟨f', h1, m1, m2⟩
theorem x_findFirst {N K : Nat} {L : List TH} {e c b l g st bes f : Nat → Int32} {p0 gr0 : Int32} {keep : Bool} (hN : 1000 ≤ N) (hW : WL K L) (hX : XL L e c) : ∃ b' l' g' p' st' gr' bes' f', m_X3_findFirst N b l g p0 st gr0 bes f (nI L.length) e c (bI keep) = some (if 0 < cntA L keep then 1 else 0, b', l', g', p', st', gr', bes', f') ∧ (0 < cntA L keep → ∀ i v, (gx (alK keep) (qs L 0 (rgf L.length 0)) U0)[i]? = some v → f' i = nI v) := by
  have h21 := hW.len21
  have c3 := col3 (d := L.length) (t := 0) hW (by omega)
  have ck := cq_keep (keep := keep) (U := U0) c3
  unfold m_X3_findFirst
  unfold jn
  rcases x_begin (N := N) (keep := keep) (J := fun (y_1 : Int64) => ((if (lg_cmp y_1 (-1)) = 0 then some (0, b, l, g, p0, st, gr0, bes, f) else (fun J39 => (if bI keep = 0 then Option.bind (m_X2_allThreads N (nI L.length)) (fun r_40 => (J39 r_40)) else Option.bind (m_X2_coloured N (nI L.length) c 3) (fun r_42 => (J39 r_42)))) (fun (y_2 : Int32) => (Option.bind (m_X3_arrange N b l g p0 st gr0 bes (nI L.length) e y_2) (fun (f_bits_3, f_lesser_4, f_greater_5, f_placed_6, f_stops_7, f_groups_8, f_beside_9) => Option.bind (m_X3_ways N f_bits_3 f_lesser_4 f_greater_5 f_stops_7 f_groups_8 y_1 0 1) (fun r_11 => (if r_11 = 0 then some (0, f_bits_3, f_lesser_4, f_greater_5, f_placed_6, f_stops_7, f_groups_8, f_beside_9, f) else (m_X3_findFirst_L66 N (nI L.length) e c y_2 f_bits_3 f_lesser_4 f_greater_5 f_placed_6 f_stops_7 f_groups_8 f_beside_9 N 0 0 y_1 f)))) : F9))) : F9)) hN hW hX with ⟨h1, u, h2, h3⟩ | ⟨h1, h2⟩
  · rw [h1, if_pos btt] at ck
    obtain ⟨G, b', l', g', st', bes', a1, a2⟩ := x_arrange (N := N) (b := b) (l := l) (g := g) (st := st) (bes := bes) (p0 := p0) (gr0 := gr0) hN hW hX (opm_lt L keep)
    obtain ⟨w, g1, g2, g3⟩ := x_oracle (fx := 0) (t := 0) (d := L.length) (E := 1) hN hW a2 (by decide) (fun i _ _ => by rw [Nat.zero_testBit]; simp) (by omega) h2 (by decide) (by decide)
    have e1 : cntA L keep = cq allT (barT L keep (rgf L.length 0)) (adU (colT L keep (rgf L.length 0)) U0) := ck
    rw [← e1] at g2
    have fin : m_X3_findFirst_L66 N (nI L.length) e c (nI (opm L keep)) b' l' g' (nI G.flatten.length) st' (nI G.length) bes' N 0 0 (lN u) f = m_X3_findFirst_L66 N (nI L.length) e c (nI (opm L keep)) b' l' g' (nI G.flatten.length) st' (nI G.length) bes' N (nI 0) (nI 0) (lN u) f := rfl
    by_cases q : 0 < cntA L keep
    · obtain ⟨f', k1, -, k3⟩ := x_findLoop (p0 := nI G.flatten.length) (bes := bes') hN hW hX a2 L.length 0 N u 0 U0 f (by omega) (by omega) h2 h1 q (by decide) (fun i _ _ => by rw [Nat.zero_testBit]; simp)
      refine ⟨b', l', g', nI G.flatten.length, st', nI G.length, bes', f', Eq.trans h3 ?_, fun _ i v hv => by rw [← k3 i v hv, Nat.zero_add]⟩
      rw [if_neg (neg1L h2.1)]
      refine Eq.trans (x_open hN hW hX) ?_
      rw [a1, r_bind]
      show Option.bind (m_X3_ways N b' l' g' st' (nI G.length) (lN u) (nI 0) (nI 1)) _ = _
      have := g2.2.1 q
      rw [g1, r_bind, if_neg (fun z => by have := (nI_eq0 (by omega)).mp z; omega), if_pos q, fin, k1]
    · refine ⟨b', l', g', nI G.flatten.length, st', nI G.length, bes', f, Eq.trans h3 ?_, fun h => absurd h q⟩
      rw [if_neg (neg1L h2.1)]
      refine Eq.trans (x_open hN hW hX) ?_
      rw [a1, r_bind]
      show Option.bind (m_X3_ways N b' l' g' st' (nI G.length) (lN u) (nI 0) (nI 1)) _ = _
      have : w = 0 := by have := g2.1; omega
      rw [g1, r_bind, this, if_pos (show nI 0 = 0 from rfl), if_neg q]
  · rw [h1, if_neg bff] at ck
    have e1 : cntA L keep = 0 := ck
    refine ⟨b, l, g, p0, st, gr0, bes, f, Eq.trans h2 ?_, fun h => by omega⟩
    rw [if_pos (by decide), e1]
    rfl
