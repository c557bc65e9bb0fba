/-! pure: how many good paintings there are, and the first one -/
def U0 : UC := fun _ _ => false
theorem rgf_mem {i : Nat} : ∀ {d t : Nat}, i ∈ rgf d t ↔ t ≤ i ∧ i < t + d
  | 0, t => by
    show i ∈ [] ↔ _
    simp
  | d + 1, t => by
    show i ∈ t :: rgf d (t + 1) ↔ _
    rw [List.mem_cons, rgf_mem (d := d) (t := t + 1)]
    omega
theorem rgf_nodup : ∀ {d t : Nat}, (rgf d t).Nodup
  | 0, _ => List.nodup_nil
  | d + 1, t => by
    show (t :: rgf d (t + 1)).Nodup
    rw [List.nodup_cons]
    refine ⟨fun h => ?_, rgf_nodup⟩
    have := (rgf_mem.mp h).1
    omega
theorem rgf_len : ∀ {d t : Nat}, (rgf d t).length = d
  | 0, _ => rfl
  | d + 1, t => by
    show (rgf d (t + 1)).length + 1 = d + 1
    rw [rgf_len]
theorem thn_ok {K : Nat} {L : List TH} {t : Nat} (hW : WL K L) (ht : t < L.length) : (thn L t).1 < (thn L t).2.1 ∧ (thn L t).2.1 < 14 ∧ (thn L t).2.2 ≤ 3 := by
  have := hW.wt.2 t ht
  exact this
theorem col3 {K : Nat} {L : List TH} {d t : Nat} (hW : WL K L) (h : t + d ≤ L.length) : ∀ i ∈ rgf d t, (thn L i).2.2 ≤ 3 := fun i hi => (thn_ok hW (by have := rgf_mem.mp hi; omega)).2.2
def opm (L : List TH) (keep : Bool) : Nat := if keep = true then bs (fun t => fc L t == 3) L.length else 2 ^ L.length - 1
theorem opm_lt (L : List TH) (keep : Bool) : opm L keep < 2 ^ L.length := by
  unfold opm
  split
  · exact bs_lt _ _
  · have := Nat.two_pow_pos L.length
    omega
theorem opm_tb {L : List TH} {keep : Bool} {i : Nat} (h : i < L.length) : (opm L keep).testBit i = opn keep (thn L i) := by
  unfold opm
  cases keep with
  | true =>
    rw [if_pos btt, tb_bs]
    simp only [h, decide_true, Bool.true_and]
    rfl
  | false =>
    rw [if_neg bff, Nat.testBit_two_pow_sub_one]
    simp only [h, decide_true]
    rfl
theorem grp_bar {L : List TH} {G : List (List Nat)} {fx d t : Nat} {keep : Bool} (hG : G.flatten.Nodup) (hm : ∀ i, (opm L keep).testBit i = true ↔ i ∈ G.flatten) (hf : ∀ i, i < L.length → opn keep (thn L i) = true → fx.testBit i = decide (i < t)) (htd : t + d = L.length) : (qs L fx G.flatten).Perm (barT L keep (rgf d t)) := by
  unfold qs barT
  refine List.Perm.map _ ?_
  rw [List.perm_ext_iff_of_nodup (hG.filter _) (rgf_nodup.filter _)]
  intro i
  rw [List.mem_filter, List.mem_filter, ← hm i, rgf_mem]
  constructor
  · rintro ⟨h1, h2⟩
    have il := tb_lt (opm_lt L keep) h1
    rw [opm_tb il] at h1
    rw [hf i il h1] at h2
    simp at h2
    exact ⟨⟨h2, by omega⟩, h1⟩
  · rintro ⟨⟨h1, h2⟩, h3⟩
    have il : i < L.length := by omega
    rw [opm_tb il]
    refine ⟨h3, ?_⟩
    rw [hf i il h3]
    simp
    exact h1
theorem ARr.ok {K : Nat} {L : List TH} {G : List (List Nat)} {b l g st : Nat → Int32} {keep : Bool} (hW : WL K L) (h : ARr L (opm L keep) G b l g st) : okZ L G.flatten := by
  intro t ht
  have il := tb_lt (opm_lt L keep) ((h.2.2.2.2.2.2 t).mpr ht)
  have h21 := hW.len21
  have := thn_ok hW il
  exact ⟨by omega, this.1, this.2.1⟩
/-- the class's oracle -/
theorem x_oracle {N K fx u E d t : Nat} {U : UC} {L : List TH} {G : List (List Nat)} {b l g st : Nat → Int32} {keep : Bool} (hN : 1000 ≤ N) (hW : WL K L) (h : ARr L (opm L keep) G b l g st) (hfx : fx < 2 ^ 31) (hf : ∀ i, i < L.length → opn keep (thn L i) = true → fx.testBit i = decide (i < t)) (htd : t + d = L.length) (hu : repU u U) (hE : 1 ≤ E) (hE2 : E < 2 ^ 31) : ∃ w, m_X3_ways N b l g st (nI G.length) (lN u) (nI fx) (nI E) = some (nI w) ∧ GW w (cq allT (barT L keep (rgf d t)) U) E ∧ w < 2 ^ 30 := by
  have hok := h.ok hW
  obtain ⟨h1, h2, h3, h4, h5, h6, h7⟩ := h
  obtain ⟨w, g1, g2, g3⟩ := x_ways (E := E) hN h1 h2 h3 hok hfx hu hE hE2 h4 h5
  rw [cq_perm _ (grp_bar h6 h7 hf htd)] at g2
  exact ⟨w, g1, g2, g3⟩
theorem x_open {N K : Nat} {L : List TH} {e c : Nat → Int32} {β : Type} {J : Int32 → Option β} {keep : Bool} (hN : 1000 ≤ N) (hW : WL K L) (hX : XL L e c) : (if bI keep = 0 then Option.bind (m_X2_allThreads N (nI L.length)) (fun r => J r) else Option.bind (m_X2_coloured N (nI L.length) c 3) (fun r => J r)) = J (nI (opm L keep)) := by
  obtain ⟨hE, hC⟩ := XL_iff.mp hX
  unfold opm
  cases keep with
  | false => rw [if_pos (show bI false = 0 from rfl), x_allThreads hW.len21, r_bind, if_neg bff]
  | true => rw [if_neg (show ¬ bI true = 0 by decide), show (3 : Int32) = nI 3 from rfl, x_coloured hN hW.len21 hC (by decide) (fun i hi => (hW.wt.2 i hi).2.2), r_bind, if_pos btt]
theorem x_begin {N K : Nat} {L : List TH} {e c : Nat → Int32} {β : Type} {J : Int64 → Option β} {keep : Bool} (hN : 1000 ≤ N) (hW : WL K L) (hX : XL L e c) : (okC (colT L keep (rgf L.length 0)) U0 = true ∧ ∃ u, repU u (adU (colT L keep (rgf L.length 0)) U0) ∧ (if bI keep = 0 then J 0 else Option.bind (m_X3_usedColours N (nI L.length) e c) (fun r => J r)) = J (lN u)) ∨ (okC (colT L keep (rgf L.length 0)) U0 = false ∧ (if bI keep = 0 then J 0 else Option.bind (m_X3_usedColours N (nI L.length) e c) (fun r => J r)) = J (-1)) := by
  have h21 := hW.len21
  cases keep with
  | false =>
    have e : colT L false (rgf L.length 0) = [] := by
      unfold colT opn
      simp
    rw [e]
    exact Or.inl ⟨rfl, 0, rep_0, by rw [if_pos (show bI false = 0 from rfl)]; rfl⟩
  | true =>
    rw [if_neg (show ¬ bI true = 0 by decide)]
    rcases x_usedColours (N := N) hW hX L.length 0 N 0 U0 (by omega) (by omega) rep_0 with ⟨h1, u, h2, h3⟩ | ⟨h1, h2⟩
    · exact Or.inl ⟨h1, u, h3, by show Option.bind (m_X3_usedColours_L4 N (nI L.length) e c N (nI 0) (lN 0)) (fun r => J r) = _; rw [h2, r_bind]⟩
    · exact Or.inr ⟨h1, by show Option.bind (m_X3_usedColours_L4 N (nI L.length) e c N (nI 0) (lN 0)) (fun r => J r) = _; rw [h2, r_bind]⟩
def cntA (L : List TH) (keep : Bool) : Nat := cq (alK keep) (qs L 0 (rgf L.length 0)) U0
theorem cntA_lt {K : Nat} {L : List TH} (hW : WL K L) (keep : Bool) : cntA L keep < 2 ^ 30 := by
  have h21 := hW.len21
  refine cq_b (qs_ok (fun t ht => ?_)) (Nat.le_trans (qs_len _ _ _) (by rw [rgf_len]; exact h21))
  have il : t < L.length := by have := rgf_mem.mp ht; omega
  have := thn_ok hW il
  exact ⟨by omega, this.1, this.2.1⟩
theorem x_howMany {N K : Nat} {L : List TH} {e c b l g st bes : Nat → Int32} {p0 gr0 : Int32} {keep : Bool} (hN : 1000 ≤ N) (hW : WL K L) (hX : XL L e c) : ∃ b' l' g' p' st' gr' bes', m_X3_howMany N b l g p0 st gr0 bes (nI L.length) e c (bI keep) = some (nI (cntA L keep), b', l', g', p', st', gr', bes') := by
  have c3 := col3 (d := L.length) (t := 0) hW (by omega)
  have ck := cq_keep (keep := keep) (U := U0) c3
  unfold m_X3_howMany
  unfold jn
  rcases x_begin (N := N) (keep := keep) (J := fun (y_1 : Int64) => ((if (lg_cmp y_1 (-1)) = 0 then some (0, b, l, g, p0, st, gr0, bes) else (fun J41 => (if bI keep = 0 then Option.bind (m_X2_allThreads N (nI L.length)) (fun r_13 => (J41 r_13)) else Option.bind (m_X2_coloured N (nI L.length) c 3) (fun r_15 => (J41 r_15)))) (fun (y_2 : Int32) => (Option.bind (m_X3_arrange N b l g p0 st gr0 bes (nI L.length) e y_2) (fun (f_bits_3, f_lesser_4, f_greater_5, f_placed_6, f_stops_7, f_groups_8, f_beside_9) => Option.bind (m_X3_ways N f_bits_3 f_lesser_4 f_greater_5 f_stops_7 f_groups_8 y_1 0 2147483647) (fun r_11 => some (r_11, f_bits_3, f_lesser_4, f_greater_5, f_placed_6, f_stops_7, f_groups_8, f_beside_9))) : Option (Int32 × (Nat → Int32) × (Nat → Int32) × (Nat → Int32) × Int32 × (Nat → Int32) × Int32 × (Nat → Int32))))) : Option (Int32 × (Nat → Int32) × (Nat → Int32) × (Nat → Int32) × Int32 × (Nat → Int32) × Int32 × (Nat → Int32)))) hN hW hX with ⟨h1, u, h2, h3⟩ | ⟨h1, h2⟩
  · rw [h1, if_pos btt] at ck
    obtain ⟨G, b', l', g', st', bes', a1, a2⟩ := x_arrange (N := N) (b := b) (l := l) (g := g) (st := st) (bes := bes) (p0 := p0) (gr0 := gr0) hN hW hX (opm_lt L keep)
    obtain ⟨w, g1, g2, g3⟩ := x_oracle (fx := 0) (t := 0) (d := L.length) (E := 2147483647) hN hW a2 (by decide) (fun i _ _ => by rw [Nat.zero_testBit]; simp) (by omega) h2 (by decide) (by decide)
    refine ⟨b', l', g', nI G.flatten.length, st', nI G.length, bes', Eq.trans h3 ?_⟩
    rw [if_neg (neg1L h2.1)]
    refine Eq.trans (x_open hN hW hX) ?_
    rw [a1, r_bind]
    show Option.bind (m_X3_ways N b' l' g' st' (nI G.length) (lN u) (nI 0) (nI 2147483647)) _ = _
    rw [g1, r_bind]
    have bd := cntA_lt hW keep
    have e1 : cntA L keep = cq allT (barT L keep (rgf L.length 0)) (adU (colT L keep (rgf L.length 0)) U0) := ck
    rw [g2.2.2 (by rw [← e1]; omega), e1]
  · rw [h1, if_neg bff] at ck
    refine ⟨b, l, g, p0, st, gr0, bes, Eq.trans h2 ?_⟩
    rw [if_pos (by decide)]
    have e1 : cntA L keep = 0 := ck
    rw [e1]
    rfl
theorem x_isPaintable {N K : Nat} {L : List TH} {e c b l g st bes : Nat → Int32} {p0 gr0 : Int32} (hN : 1000 ≤ N) (hW : WL K L) (hX : XL L e c) : ∃ b' l' g' p' st' gr' bes', m_X3_isPaintable N b l g p0 st gr0 bes (nI L.length) e = some (if 0 < cntA L false then 1 else 0, b', l', g', p', st', gr', bes') := by
  have c3 := col3 (d := L.length) (t := 0) hW (by omega)
  have ck := cq_keep (keep := false) (U := U0) c3
  have e0 : colT L false (rgf L.length 0) = [] := by
    unfold colT opn
    simp
  rw [e0] at ck
  have e1 : cntA L false = cq allT (barT L false (rgf L.length 0)) U0 := ck
  obtain ⟨G, b', l', g', st', bes', a1, a2⟩ := x_arrange (N := N) (b := b) (l := l) (g := g) (st := st) (bes := bes) (p0 := p0) (gr0 := gr0) hN hW hX (opm_lt L false)
  obtain ⟨w, g1, g2, g3⟩ := x_oracle (fx := 0) (t := 0) (d := L.length) (E := 1) hN hW a2 (by decide) (fun i _ _ => by rw [Nat.zero_testBit]; simp) (by omega) rep_0 (by decide) (by decide)
  refine ⟨b', l', g', nI G.flatten.length, st', nI G.length, bes', ?_⟩
  unfold m_X3_isPaintable
  rw [x_allThreads hW.len21, r_bind]
  have eo : opm L false = 2 ^ L.length - 1 := by unfold opm; rw [if_neg bff]
  rw [← eo, a1, r_bind]
  show Option.bind (m_X3_ways N b' l' g' st' (nI G.length) (lN 0) (nI 0) (nI 1)) _ = _
  have g2' : GW w (cntA L false) 1 := by rw [e1]; exact g2
  rw [g1, r_bind]
  by_cases q : 0 < cntA L false
  · have := g2'.2.1 q
    rw [if_neg (nI_le0 this (by omega)), if_pos q]
  · have : w = 0 := by have := g2'.1; omega
    rw [this, if_pos (show nI 0 ≤ 0 from nI_le (a := 0) (b := 0) (Nat.le_refl _) (by decide)), if_neg q]
