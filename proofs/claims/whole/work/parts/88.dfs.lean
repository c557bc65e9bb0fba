/-! pure: the reference's way through all tries -/
def rgf : Nat → Nat → List Nat
  | 0, _ => []
  | d + 1, t => t :: rgf d (t + 1)
def gcl (p : Nat → Bool) : Nat := if p 0 = true then 0 else if p 1 = true then 1 else 2
/-- the first good painting, as it is looked for -/
def gx (al : TH → Nat → Bool) : List TH → UC → List Nat
  | [], _ => []
  | x :: Q, U => gcl (fun c => (al x c && fr3 U x c) && decide (0 < cq al Q (us3 U x c))) :: gx al Q (us3 U x (gcl (fun c => (al x c && fr3 U x c) && decide (0 < cq al Q (us3 U x c)))))
theorem sF_nx {p : Nat → Bool} {q : Nat → Nat} : ∀ k c, c + k = 3 → c ≤ nxc p k c ∧ nxc p k c ≤ 3 ∧ (∀ e, c ≤ e → e < nxc p k c → p e = false) ∧ (nxc p k c = 3 → sF (fun c => if p c = true then q c else 0) k c = 0) ∧ (nxc p k c < 3 → p (nxc p k c) = true ∧ sF (fun c => if p c = true then q c else 0) k c = q (nxc p k c) + sF (fun c => if p c = true then q c else 0) (3 - (nxc p k c + 1)) (nxc p k c + 1)) := by
  intro k
  induction k with
  | zero =>
    intro c hc
    have e : nxc p 0 c = c := rfl
    rw [e]
    exact ⟨Nat.le_refl _, by omega, fun _ _ _ => by omega, fun _ => rfl, fun h => by omega⟩
  | succ k ih =>
    intro c hc
    have e : nxc p (k + 1) c = if p c = true then c else nxc p k (c + 1) := rfl
    have eF : sF (fun c => if p c = true then q c else 0) (k + 1) c = (if p c = true then q c else 0) + sF (fun c => if p c = true then q c else 0) k (c + 1) := rfl
    rw [e, eF]
    cases w : p c with
    | true =>
      rw [if_pos btt, if_pos btt]
      refine ⟨Nat.le_refl _, by omega, fun _ _ _ => by omega, fun h => by omega, fun _ => ⟨w, ?_⟩⟩
      rw [show 3 - (c + 1) = k by omega]
    | false =>
      rw [if_neg bff, if_neg bff]
      obtain ⟨h1, h2, h3, h4, h5⟩ := ih (c + 1) (by omega)
      refine ⟨by omega, h2, fun e' g1 g2 => ?_, fun h => by rw [h4 h], fun h => ⟨(h5 h).1, by rw [(h5 h).2]; omega⟩⟩
      rcases Nat.lt_or_ge c e' with g | g
      · exact h3 e' g g2
      · rw [show e' = c by omega]; exact w
section DF
variable {N K skip : Nat} {L : List TH} {s : Nat → Int32} {keep one : Bool}
theorem p_step {t n m c' : Nat} {tries first : Nat → Int32} (h21 : L.length ≤ 21) (hM : ML K L s) (ht : t < L.length) (h1 : one = false ∨ n = 0) (hnext : m_X7_nextAt N s tries (nI t) (bI keep) (nI skip) = some (nI c')) (hc : c' ≤ 4) : m_X7_paints_L13 N s (bI keep) (nI skip) (bI one) (m + 1) (nI t) (nI n) tries first = if c' = 3 then m_X7_paints_L13 N s (bI keep) (nI skip) (bI one) m (nI t + -1) (nI n) (upd tries t (nI 3)) first else m_X7_paints_L13 N s (bI keep) (nI skip) (bI one) m (nI (t + 1)) (nI n) (upd (upd tries t (nI c')) (t + 1) (-1)) first := by
  have pick : ∀ A B : Option (Int32 × (Nat → Int32) × (Nat → Int32)), (if bI one = 0 then A else if 0 < nI n then B else A) = A := by
    intro A B
    rcases h1 with h1 | h1
    · rw [h1, if_pos (show bI false = 0 from rfl)]
    · rw [h1, if_neg (show ¬ (0 : Int32) < nI 0 by decide)]
      split <;> rfl
  rw [m_X7_paints_L13, if_neg (nI_pos (by omega))]
  simp only [jn]
  rw [pick, r_1 (by decide), hM.2.1, if_neg (fun w => by have := (nI_eq (by omega) (by omega)).mp w; omega), hnext, r_bind, r_awr (by omega) (by omega), nI_clamp (by omega)]
  simp only [nm]
  rw [r_ard (by omega) (by omega), upd_s]
  by_cases q : c' = 3
  · rw [if_pos q, q, if_pos (show nI 3 = 3 from rfl)]
  · rw [if_neg q, if_neg (fun w => q ((nI3 (by omega)).mp w)), nI_1, r_awr (by omega) (by omega), nI_clamp (by omega)]
theorem p_leaf {n : Nat} {tries first : Nat → Int32} (hN : 1000 ≤ N) (h21 : L.length ≤ 21) (hM : ML K L s) (h1 : one = false ∨ n = 0) (hn : n < 2 ^ 31) : ∃ first', (∀ m, m_X7_paints_L13 N s (bI keep) (nI skip) (bI one) (m + 1) (nI L.length) (nI n) tries first = m_X7_paints_L13 N s (bI keep) (nI skip) (bI one) m (nI L.length + -1) (nI (n + 1)) tries first') ∧ (n = 0 → ∀ i, i < L.length → first' i = tries i) := by
  have pick : ∀ A B : Option (Int32 × (Nat → Int32) × (Nat → Int32)), (if bI one = 0 then A else if 0 < nI n then B else A) = A := by
    intro A B
    rcases h1 with h1 | h1
    · rw [h1, if_pos (show bI false = 0 from rfl)]
    · rw [h1, if_neg (show ¬ (0 : Int32) < nI 0 by decide)]
      split <;> rfl
  obtain ⟨f0, g1, g2, g3⟩ := m_lays (tries := tries) (first := first) hN h21 hM (if nI n = 0 then 1 else 0)
  refine ⟨f0, fun m => ?_, fun h => g3 (by rw [h, if_pos (show nI 0 = 0 from rfl)]; decide)⟩
  rw [m_X7_paints_L13, if_neg (nI_pos (by omega))]
  simp only [jn]
  rw [pick, r_1 (by decide), hM.2.1, if_pos rfl]
  by_cases q : n = 0
  · rw [q] at g1 ⊢
    rw [if_pos (show nI 0 = 0 from rfl)] at g1 ⊢
    rw [g1, r_bind, nI_1]
  · rw [if_neg (fun w => q ((nI_eq0 hn).mp w))] at g1 ⊢
    rw [g1, r_bind, nI_1]
theorem p_neg {n m : Nat} {x : Int32} {tries first : Nat → Int32} (hx : x < 0) : m_X7_paints_L13 N s (bI keep) (nI skip) (bI one) (m + 1) x (nI n) tries first = some (nI n, tries, first) := by
  rw [m_X7_paints_L13, if_pos hx]
theorem p_enough {n m : Nat} {x : Int32} {tries first : Nat → Int32} (h0 : 0 < n) (hn : n < 2 ^ 31) : m_X7_paints_L13 N s (bI keep) (nI skip) (bI true) (m + 1) x (nI n) tries first = some (nI n, tries, first) := by
  rw [m_X7_paints_L13]
  by_cases q : x < 0
  · rw [if_pos q]
  · rw [if_neg q]
    simp only [jn]
    rw [if_neg (show ¬ bI true = 0 by decide), if_pos (show (0 : Int32) < nI n from nI_lt (a := 0) h0 hn)]
theorem p5 (d : Nat) : 25 ≤ 5 ^ (d + 2) ∧ 5 ≤ 5 ^ (d + 1) ∧ 5 ^ (d + 2) = 5 * 5 ^ (d + 1) := by
  have a := Nat.pow_le_pow_right (show 0 < 5 by decide) (show 1 ≤ d + 1 by omega)
  have b := Nat.pow_le_pow_right (show 0 < 5 by decide) (show 2 ≤ d + 2 by omega)
  refine ⟨b, a, ?_⟩
  rw [Nat.pow_succ, Nat.mul_comm]
theorem back1 (t : Nat) : nI (t + 1) + (-1) = nI t := by
  have : ∀ x : Int32, x + (-1) = x - 1 := fun x => by
    rw [Int32.sub_eq_add_neg]
  rw [this]
  exact nI_pred t
theorem dfsA (hN : 1000 ≤ N) (hW : WL K L) (hM : ML K L s) (hs : skip < 2 ^ 31) : ∀ (d t : Nat) (U : UC) (tries first : Nat → Int32) (n : Nat), t + d = L.length → TRr L tries t U → tries t = -1 → n + cq (alK keep) (qs L skip (rgf d t)) U < 2 ^ 31 → ∃ (used : Nat) (tries' first' : Nat → Int32), used ≤ 5 ^ (d + 1) ∧ (∀ i, i < t → tries' i = tries i) ∧ ∀ m, m_X7_paints_L13 N s (bI keep) (nI skip) (bI false) (m + used) (nI t) (nI n) tries first = m_X7_paints_L13 N s (bI keep) (nI skip) (bI false) m (nI t + -1) (nI (n + cq (alK keep) (qs L skip (rgf d t)) U)) tries' first' := by
  have h21 := hW.len21
  intro d
  induction d with
  | zero =>
    intro t U tries first n ht hT hv hn
    have : t = L.length := by omega
    subst this
    have e1 : cq (alK keep) (qs L skip (rgf 0 L.length)) U = 1 := rfl
    rw [e1] at hn ⊢
    obtain ⟨f, h1, -⟩ := p_leaf (keep := keep) (skip := skip) (one := false) (tries := tries) (first := first) (n := n) hN h21 hM (Or.inl rfl) (by omega)
    exact ⟨1, tries, f, by decide, fun _ _ => rfl, h1⟩
  | succ d ih =>
    intro t U tries first n ht hT hv hn
    obtain ⟨b1, b2, b3⟩ := p5 d
    have er : rgf (d + 1) t = t :: rgf d (t + 1) := rfl
    rw [er] at hn ⊢
    cases hb : skip.testBit t with
    | true =>
      rw [qs_skip hb] at hn ⊢
      have nx := m_nextSkip (N := N) (s := s) (keep := keep) (tries := tries) (t := t) (by omega) hs hb
      rw [hv, if_neg (by decide)] at nx
      have T1 : TRr L (upd (upd tries t (nI 4)) (t + 1) (-1)) (t + 1) U := hT.skip.agree (fun i hi => by rw [upd_n (by omega)])
      obtain ⟨u1, tr1, f1, g1, g2, g3⟩ := ih (t + 1) U _ first n (by omega) T1 upd_s hn
      have v1 : tr1 t = nI 4 := by rw [g2 t (by omega), upd_n (by omega), upd_s]
      have nx2 := m_nextSkip (N := N) (s := s) (keep := keep) (tries := tr1) (t := t) (by omega) hs hb
      rw [v1, if_pos (show (0 : Int32) ≤ nI 4 by decide)] at nx2
      refine ⟨u1 + 2, upd tr1 t (nI 3), f1, by omega, fun i hi => ?_, fun m => ?_⟩
      · rw [upd_n (by omega), g2 i (by omega), upd_n (by omega), upd_n (by omega)]
      · rw [show m + (u1 + 2) = (m + 1 + u1) + 1 by omega, p_step (c' := 4) h21 hM (by omega) (Or.inl rfl) nx (by omega), if_neg (by decide), g3, back1, p_step (c' := 3) h21 hM (by omega) (Or.inl rfl) nx2 (by omega), if_pos rfl]
    | false =>
      rw [qs_take hb] at hn ⊢
      have inner : ∀ (k c : Nat) (tries first : Nat → Int32) (n : Nat), c + k = 3 → TRr L tries t U → tries t + 1 = nI c → n + sF (fun c => if goodC keep U (thn L t) c = true then cq (alK keep) (qs L skip (rgf d (t + 1))) (us3 U (thn L t) c) else 0) k c < 2 ^ 31 → ∃ (used : Nat) (tries' first' : Nat → Int32), used ≤ k * (5 ^ (d + 1) + 1) + 1 ∧ (∀ i, i < t → tries' i = tries i) ∧ ∀ m, m_X7_paints_L13 N s (bI keep) (nI skip) (bI false) (m + used) (nI t) (nI n) tries first = m_X7_paints_L13 N s (bI keep) (nI skip) (bI false) m (nI t + -1) (nI (n + sF (fun c => if goodC keep U (thn L t) c = true then cq (alK keep) (qs L skip (rgf d (t + 1))) (us3 U (thn L t) c) else 0) k c)) tries' first' := by
        intro k
        induction k using Nat.strongRecOn with
        | ind k ihk =>
        intro c tries first n hc hT hv hn
        have nx := m_nextAt (keep := keep) hN hW hM (by omega) hT hs hb hv hc
        obtain ⟨a1, a2, -, a4, a5⟩ := sF_nx (p := goodC keep U (thn L t)) (q := fun c => cq (alK keep) (qs L skip (rgf d (t + 1))) (us3 U (thn L t) c)) k c hc
        by_cases w : nxc (goodC keep U (thn L t)) k c = 3
        · refine ⟨1, upd tries t (nI 3), first, by omega, fun i hi => by rw [upd_n (by omega)], fun m => ?_⟩
          rw [p_step h21 hM (by omega) (Or.inl rfl) nx (by omega), if_pos w, a4 w]
          rfl
        · obtain ⟨a6, a7⟩ := a5 (by omega)
          rw [a7] at hn ⊢
          have T1 : TRr L (upd (upd tries t (nI (nxc (goodC keep U (thn L t)) k c))) (t + 1) (-1)) (t + 1) (us3 U (thn L t) (nxc (goodC keep U (thn L t)) k c)) := (hT.take (by omega)).agree (fun i hi => by rw [upd_n (by omega)])
          obtain ⟨u1, tr1, f1, g1, g2, g3⟩ := ih (t + 1) _ _ first n (by omega) T1 upd_s (by omega)
          have v1 : tr1 t = nI (nxc (goodC keep U (thn L t)) k c) := by rw [g2 t (by omega), upd_n (by omega), upd_s]
          have agr : ∀ i, i < t → tr1 i = tries i := fun i hi => by rw [g2 i (by omega), upd_n (by omega), upd_n (by omega)]
          obtain ⟨u2, tr2, f2, k1, k2, k3⟩ := ihk (3 - (nxc (goodC keep U (thn L t)) k c + 1)) (by omega) (nxc (goodC keep U (thn L t)) k c + 1) tr1 f1 (n + cq (alK keep) (qs L skip (rgf d (t + 1))) (us3 U (thn L t) (nxc (goodC keep U (thn L t)) k c))) (by omega) (hT.agree agr) (by rw [v1, nI_1]) (by omega)
          have kk : 3 - (nxc (goodC keep U (thn L t)) k c + 1) + 1 ≤ k := by omega
          have km := Nat.mul_le_mul_right (5 ^ (d + 1) + 1) kk
          rw [Nat.add_mul, Nat.one_mul] at km
          refine ⟨u2 + u1 + 1, tr2, f2, by omega, fun i hi => by rw [k2 i hi, agr i hi], fun m => ?_⟩
          rw [show m + (u2 + u1 + 1) = (m + u2 + u1) + 1 by omega, p_step h21 hM (by omega) (Or.inl rfl) nx (by omega), if_neg w, g3, back1, k3, Nat.add_assoc n]
      have e3 : sF (fun c => if goodC keep U (thn L t) c = true then cq (alK keep) (qs L skip (rgf d (t + 1))) (us3 U (thn L t) c) else 0) 3 0 = cq (alK keep) (thn L t :: qs L skip (rgf d (t + 1))) U := by
        show (if goodC keep U (thn L t) 0 = true then cq (alK keep) (qs L skip (rgf d (t + 1))) (us3 U (thn L t) 0) else 0) + ((if goodC keep U (thn L t) 1 = true then cq (alK keep) (qs L skip (rgf d (t + 1))) (us3 U (thn L t) 1) else 0) + ((if goodC keep U (thn L t) 2 = true then cq (alK keep) (qs L skip (rgf d (t + 1))) (us3 U (thn L t) 2) else 0) + 0)) = (if goodC keep U (thn L t) 0 = true then cq (alK keep) (qs L skip (rgf d (t + 1))) (us3 U (thn L t) 0) else 0) + (if goodC keep U (thn L t) 1 = true then cq (alK keep) (qs L skip (rgf d (t + 1))) (us3 U (thn L t) 1) else 0) + (if goodC keep U (thn L t) 2 = true then cq (alK keep) (qs L skip (rgf d (t + 1))) (us3 U (thn L t) 2) else 0)
        omega
      have := inner 3 0 tries first n rfl hT (by rw [hv]; rfl) (by rw [e3]; exact hn)
      rw [e3] at this
      obtain ⟨u, tr, f, g1, g2, g3⟩ := this
      exact ⟨u, tr, f, by omega, g2, g3⟩
end DF
