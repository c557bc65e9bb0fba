/-! pure: the reference looks for one good painting -/
section DB
variable {N K skip : Nat} {L : List TH} {s : Nat → Int32} {keep : Bool}
/-- where the search for one ends, from a thread on -/
def EndB (N : Nat) (s : Nat → Int32) (keep : Bool) (skip T : Nat) (L : List TH) (d t used q : Nat) (U : UC) (tries first : Nat → Int32) : Prop :=
  (q = 0 ∧ ∃ tries', (∀ i, i < t → tries' i = tries i) ∧ ∀ m, m_X7_paints_L13 N s (bI keep) (nI skip) (bI true) (m + used) (nI t) (nI 0) tries first = m_X7_paints_L13 N s (bI keep) (nI skip) (bI true) m (nI t + -1) (nI 0) tries' first) ∨
  (0 < q ∧ ∃ tries' first', (∀ m, m_X7_paints_L13 N s (bI keep) (nI skip) (bI true) (m + used) (nI t) (nI 0) tries first = some (nI 1, tries', first')) ∧ (skip = 0 → (∀ i, i < t → first' i = tries i) ∧ ∀ i c, (gx (alK keep) (qs L 0 (rgf d t)) U)[i]? = some c → first' (t + i) = nI c))
theorem dfsB (hN : 1000 ≤ N) (hW : WL K L) (hM : ML K L s) (hs : skip < 2 ^ 31) : ∀ (d t : Nat) (U : UC) (tries first : Nat → Int32), t + d = L.length → TRr L tries t U → tries t = -1 → ∃ used, used ≤ 5 ^ (d + 1) ∧ EndB N s keep skip L.length L d t used (cq (alK keep) (qs L skip (rgf d t)) U) U tries first := by
  have h21 := hW.len21
  intro d
  induction d with
  | zero =>
    intro t U tries first ht hT hv
    have : t = L.length := by omega
    subst this
    obtain ⟨f, h1, h2⟩ := p_leaf (keep := keep) (skip := skip) (one := true) (tries := tries) (first := first) (n := 0) hN h21 hM (Or.inr rfl) (by decide)
    refine ⟨2, by decide, Or.inr ⟨by show 0 < 1; decide, tries, f, fun m => ?_, fun _ => ⟨h2 rfl, fun i c hc => ?_⟩⟩⟩
    · rw [show m + 2 = (m + 1) + 1 by omega, h1, p_enough (by decide) (by decide)]
    · have : gx (alK keep) (qs L 0 (rgf 0 L.length)) U = [] := rfl
      rw [this] at hc
      simp at hc
  | succ d ih =>
    intro t U tries first ht hT hv
    obtain ⟨b1, b2, b3⟩ := p5 d
    have er : rgf (d + 1) t = t :: rgf d (t + 1) := rfl
    unfold EndB
    rw [er]
    cases hb : skip.testBit t with
    | true =>
      rw [qs_skip hb]
      have nx := m_nextSkip (N := N) (s := s) (keep := keep) (tries := tries) (t := t) (by omega) hs hb
      rw [hv, if_neg (by decide)] at nx
      have T1 : TRr L (upd (upd tries t (nI 4)) (t + 1) (-1)) (t + 1) U := hT.skip.agree (fun i hi => by rw [upd_n (by omega)])
      obtain ⟨u1, g1, g2⟩ := ih (t + 1) U _ first (by omega) T1 upd_s
      rcases g2 with ⟨g2, tr1, g3, g4⟩ | ⟨g2, tr1, f1, g3, -⟩
      · have v1 : tr1 t = nI 4 := by rw [g3 t (by omega), upd_n (by omega), upd_s]
        have nx2 := m_nextSkip (N := N) (s := s) (keep := keep) (tries := tr1) (t := t) (by omega) hs hb
        rw [v1, if_pos (show (0 : Int32) ≤ nI 4 by decide)] at nx2
        refine ⟨u1 + 2, by omega, Or.inl ⟨g2, upd tr1 t (nI 3), fun i hi => ?_, fun m => ?_⟩⟩
        · rw [upd_n (by omega), g3 i (by omega), upd_n (by omega), upd_n (by omega)]
        · rw [show m + (u1 + 2) = (m + 1 + u1) + 1 by omega, p_step (c' := 4) h21 hM (by omega) (Or.inr rfl) nx (by omega), if_neg (by decide), g4, back1, p_step (c' := 3) h21 hM (by omega) (Or.inr rfl) nx2 (by omega), if_pos rfl]
      · refine ⟨u1 + 1, by omega, Or.inr ⟨g2, tr1, f1, fun m => ?_, fun h0 => ?_⟩⟩
        · rw [show m + (u1 + 1) = (m + u1) + 1 by omega, p_step (c' := 4) h21 hM (by omega) (Or.inr rfl) nx (by omega), if_neg (by decide), g3]
        · rw [h0, Nat.zero_testBit] at hb
          cases hb
    | false =>
      rw [qs_take hb]
      have q0 : qs L 0 (t :: rgf d (t + 1)) = thn L t :: qs L 0 (rgf d (t + 1)) := qs_take (Nat.zero_testBit t)
      rw [q0]
      have inner : ∀ (k c : Nat) (tries : Nat → Int32), c + k = 3 → TRr L tries t U → tries t + 1 = nI c → ∃ used, used ≤ k * (5 ^ (d + 1) + 1) + 1 ∧
          ((sF (fun c => if goodC keep U (thn L t) c = true then cq (alK keep) (qs L skip (rgf d (t + 1))) (us3 U (thn L t) c) else 0) k c = 0 ∧ ∃ tries', (∀ i, i < t → tries' i = tries i) ∧ ∀ m, m_X7_paints_L13 N s (bI keep) (nI skip) (bI true) (m + used) (nI t) (nI 0) tries first = m_X7_paints_L13 N s (bI keep) (nI skip) (bI true) m (nI t + -1) (nI 0) tries' first) ∨
          (0 < sF (fun c => if goodC keep U (thn L t) c = true then cq (alK keep) (qs L skip (rgf d (t + 1))) (us3 U (thn L t) c) else 0) k c ∧ ∃ tries' first', (∀ m, m_X7_paints_L13 N s (bI keep) (nI skip) (bI true) (m + used) (nI t) (nI 0) tries first = some (nI 1, tries', first')) ∧ (skip = 0 → (∀ i, i < t → first' i = tries i) ∧ ∃ c1, c1 < 3 ∧ c ≤ c1 ∧ goodC keep U (thn L t) c1 = true ∧ 0 < cq (alK keep) (qs L 0 (rgf d (t + 1))) (us3 U (thn L t) c1) ∧ (∀ e, c ≤ e → e < c1 → ¬ (goodC keep U (thn L t) e = true ∧ 0 < cq (alK keep) (qs L 0 (rgf d (t + 1))) (us3 U (thn L t) e))) ∧ first' t = nI c1 ∧ ∀ i c2, (gx (alK keep) (qs L 0 (rgf d (t + 1))) (us3 U (thn L t) c1))[i]? = some c2 → first' (t + 1 + i) = nI c2))) := by
        intro k
        induction k using Nat.strongRecOn with
        | ind k ihk =>
        intro c tries hc hT hv
        have nx := m_nextAt (keep := keep) hN hW hM (by omega) hT hs hb hv hc
        obtain ⟨a1, a2, a3, a4, a5⟩ := sF_nx (p := goodC keep U (thn L t)) (q := fun c => cq (alK keep) (qs L skip (rgf d (t + 1))) (us3 U (thn L t) c)) k c hc
        by_cases w : nxc (goodC keep U (thn L t)) k c = 3
        · refine ⟨1, by omega, Or.inl ⟨a4 w, upd tries t (nI 3), fun i hi => by rw [upd_n (by omega)], fun m => ?_⟩⟩
          rw [p_step h21 hM (by omega) (Or.inr rfl) nx (by omega), if_pos w]
        · obtain ⟨a6, a7⟩ := a5 (by omega)
          rw [a7]
          have T1 : TRr L (upd (upd tries t (nI (nxc (goodC keep U (thn L t)) k c))) (t + 1) (-1)) (t + 1) (us3 U (thn L t) (nxc (goodC keep U (thn L t)) k c)) := (hT.take (by omega)).agree (fun i hi => by rw [upd_n (by omega)])
          obtain ⟨u1, g1, g2⟩ := ih (t + 1) _ _ first (by omega) T1 upd_s
          have kk : 3 - (nxc (goodC keep U (thn L t)) k c + 1) + 1 ≤ k := by omega
          have km := Nat.mul_le_mul_right (5 ^ (d + 1) + 1) kk
          rw [Nat.add_mul, Nat.one_mul] at km
          rcases g2 with ⟨g2, tr1, g3, g4⟩ | ⟨g2, tr1, f1, g3, g4⟩
          · have v1 : tr1 t = nI (nxc (goodC keep U (thn L t)) k c) := by rw [g3 t (by omega), upd_n (by omega), upd_s]
            have agr : ∀ i, i < t → tr1 i = tries i := fun i hi => by rw [g3 i (by omega), upd_n (by omega), upd_n (by omega)]
            obtain ⟨u2, k1, k2⟩ := ihk (3 - (nxc (goodC keep U (thn L t)) k c + 1)) (by omega) (nxc (goodC keep U (thn L t)) k c + 1) tr1 (by omega) (hT.agree agr) (by rw [v1, nI_1])
            refine ⟨u2 + u1 + 1, by omega, ?_⟩
            rw [g2, Nat.zero_add]
            have stp : ∀ m, m_X7_paints_L13 N s (bI keep) (nI skip) (bI true) (m + (u2 + u1 + 1)) (nI t) (nI 0) tries first = m_X7_paints_L13 N s (bI keep) (nI skip) (bI true) (m + u2) (nI t) (nI 0) tr1 first := fun m => by
              rw [show m + (u2 + u1 + 1) = (m + u2 + u1) + 1 by omega, p_step h21 hM (by omega) (Or.inr rfl) nx (by omega), if_neg w, g4, back1]
            rcases k2 with ⟨k2, tr2, k3, k4⟩ | ⟨k2, tr2, f2, k3, k4⟩
            · exact Or.inl ⟨k2, tr2, fun i hi => by rw [k3 i hi, agr i hi], fun m => by rw [stp, k4]⟩
            · refine Or.inr ⟨k2, tr2, f2, fun m => by rw [stp, k3], fun h0 => ?_⟩
              obtain ⟨l1, c1, l2, l3, l4, l5, l6, l7⟩ := k4 h0
              refine ⟨fun i hi => by rw [l1 i hi, agr i hi], c1, l2, by omega, l4, l5, fun e e1 e2 => ?_, l7⟩
              rcases Nat.lt_trichotomy e (nxc (goodC keep U (thn L t)) k c) with z | z | z
              · rw [a3 e e1 z]
                exact fun y => bff y.1
              · rw [z]
                rw [h0] at g2
                exact fun y => by have := y.2; omega
              · exact l6 e (by omega) e2
          · refine ⟨u1 + 1, by omega, Or.inr ⟨by omega, tr1, f1, fun m => ?_, fun h0 => ?_⟩⟩
            · rw [show m + (u1 + 1) = (m + u1) + 1 by omega, p_step h21 hM (by omega) (Or.inr rfl) nx (by omega), if_neg w, g3]
            · obtain ⟨l1, l2⟩ := g4 h0
              rw [h0] at g2
              refine ⟨fun i hi => by rw [l1 i (by omega), upd_n (by omega), upd_n (by omega)], nxc (goodC keep U (thn L t)) k c, by omega, a1, a6, g2, fun e e1 e2 => ?_, ?_, l2⟩
              · rw [a3 e e1 e2]
                exact fun y => bff y.1
              · rw [l1 t (by omega), upd_n (by omega), upd_s]
      have e3 : sF (fun c => if goodC keep U (thn L t) c = true then cq (alK keep) (qs L skip (rgf d (t + 1))) (us3 U (thn L t) c) else 0) 3 0 = cq (alK keep) (thn L t :: qs L skip (rgf d (t + 1))) U := by
        show (if goodC keep U (thn L t) 0 = true then cq (alK keep) (qs L skip (rgf d (t + 1))) (us3 U (thn L t) 0) else 0) + ((if goodC keep U (thn L t) 1 = true then cq (alK keep) (qs L skip (rgf d (t + 1))) (us3 U (thn L t) 1) else 0) + ((if goodC keep U (thn L t) 2 = true then cq (alK keep) (qs L skip (rgf d (t + 1))) (us3 U (thn L t) 2) else 0) + 0)) = (if goodC keep U (thn L t) 0 = true then cq (alK keep) (qs L skip (rgf d (t + 1))) (us3 U (thn L t) 0) else 0) + (if goodC keep U (thn L t) 1 = true then cq (alK keep) (qs L skip (rgf d (t + 1))) (us3 U (thn L t) 1) else 0) + (if goodC keep U (thn L t) 2 = true then cq (alK keep) (qs L skip (rgf d (t + 1))) (us3 U (thn L t) 2) else 0)
        omega
      obtain ⟨u, g1, g2⟩ := inner 3 0 tries rfl hT (by rw [hv]; rfl)
      rw [e3] at g2
      refine ⟨u, by omega, ?_⟩
      rcases g2 with g2 | ⟨g2, tr, f, g3, g4⟩
      · exact Or.inl g2
      · refine Or.inr ⟨g2, tr, f, g3, fun h0 => ?_⟩
        obtain ⟨l1, c1, l2, l3, l4, l5, l6, l7, l8⟩ := g4 h0
        refine ⟨l1, fun i c hc => ?_⟩
        have eg : gcl (fun c => (alK keep (thn L t) c && fr3 U (thn L t) c) && decide (0 < cq (alK keep) (qs L 0 (rgf d (t + 1))) (us3 U (thn L t) c))) = c1 := by
          have yes : ∀ c, goodC keep U (thn L t) c = true ∧ 0 < cq (alK keep) (qs L 0 (rgf d (t + 1))) (us3 U (thn L t) c) ↔ ((alK keep (thn L t) c && fr3 U (thn L t) c) && decide (0 < cq (alK keep) (qs L 0 (rgf d (t + 1))) (us3 U (thn L t) c))) = true := fun c => by
            unfold goodC
            rw [Bool.and_eq_true (alK keep (thn L t) c && fr3 U (thn L t) c), decide_eq_true_iff]
          unfold gcl
          have y1 := (yes c1).mp ⟨l4, l5⟩
          have n0 : 0 < c1 → ¬ _ := fun h => fun z => l6 0 (Nat.le_refl _) h ((yes 0).mpr z)
          have n1 : 1 < c1 → ¬ _ := fun h => fun z => l6 1 (by omega) h ((yes 1).mpr z)
          have c3 : c1 = 0 ∨ c1 = 1 ∨ c1 = 2 := by omega
          rcases c3 with z | z | z
          · rw [z] at y1
            rw [if_pos y1, z]
          · rw [z] at y1
            rw [if_neg (n0 (by omega)), if_pos y1, z]
          · rw [if_neg (n0 (by omega)), if_neg (n1 (by omega)), z]
        have el : gx (alK keep) (thn L t :: qs L 0 (rgf d (t + 1))) U = c1 :: gx (alK keep) (qs L 0 (rgf d (t + 1))) (us3 U (thn L t) c1) := by
          show gcl _ :: gx _ _ (us3 U (thn L t) (gcl _)) = _
          rw [eg]
        rw [el] at hc
        cases i with
        | zero =>
          simp at hc
          rw [Nat.add_zero, l7, hc]
        | succ i =>
          rw [show t + (i + 1) = t + 1 + i by omega]
          exact l8 i c (by simpa using hc)
end DB
