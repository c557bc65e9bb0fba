-- 88.dfs.lean.txt
section
/-! pure: the reference's way through all tries -/
def rgf : Nat → Nat → List Nat
  | 0, _ => []
  | d + 1, t => t :: rgf d (t + 1)
def gcl (p : Nat → Bool) : Nat := if p 0 = true then 0 else if p 1 = true then 1 else 2
/-- the first good painting, as it is looked for -/
def gx (al : TH → Nat → Bool) : List TH → UC → List Nat
  | [], _ => []
  | x :: Q, U => gcl (fun c => (al x c && fr3 U x c) && decide (0 < cq al Q (us3 U x c))) :: gx al Q (us3 U x (gcl (fun c => (al x c && fr3 U x c) && decide (0 < cq al Q (us3 U x c)))))
theorem sF_nx {p : Nat → Bool} {q : Nat → Nat} : ∀ k c, c + k = 3 → c ≤ nxc p k c ∧ nxc p k c ≤ 3 ∧ (∀ e, c ≤ e → e < nxc p k c → p e = false) ∧ (nxc p k c = 3 → sF (fun c => if p c = true then q c else 0) k c = 0) ∧ (nxc p k c < 3 → p (nxc p k c) = true ∧ sF (fun c => if p c = true then q c else 0) k c = q (nxc p k c) + sF (fun c => if p c = true then q c else 0) (3 - (nxc p k c + 1)) (nxc p k c + 1)) := by
  intro k
  induction k with
  | zero =>
    intro c hc
    have e : nxc p 0 c = c := rfl
    rw [e]
    exact ⟨Nat.le_refl _, by omega, fun _ _ _ => by omega, fun _ => rfl, fun h => by omega⟩
  | succ k ih =>
    intro c hc
    have e : nxc p (k + 1) c = if p c = true then c else nxc p k (c + 1) := rfl
    have eF : sF (fun c => if p c = true then q c else 0) (k + 1) c = (if p c = true then q c else 0) + sF (fun c => if p c = true then q c else 0) k (c + 1) := rfl
    rw [e, eF]
    cases w : p c with
    | true =>
      rw [if_pos btt, if_pos btt]
      refine ⟨Nat.le_refl _, by omega, fun _ _ _ => by omega, fun h => by omega, fun _ => ⟨w, ?_⟩⟩
      rw [show 3 - (c + 1) = k by omega]
    | false =>
      rw [if_neg bff, if_neg bff]
      obtain ⟨h1, h2, h3, h4, h5⟩ := ih (c + 1) (by omega)
      refine ⟨by omega, h2, fun e' g1 g2 => ?_, fun h => by rw [h4 h], fun h => ⟨(h5 h).1, by rw [(h5 h).2]; omega⟩⟩
      rcases Nat.lt_or_ge c e' with g | g
      · exact h3 e' g g2
      · rw [show e' = c by omega]; exact w
section DF
variable {N K skip : Nat} {L : List TH} {s : Nat → Int32} {keep one : Bool}
theorem p_step {t n m c' : Nat} {tries first : Nat → Int32} (h21 : L.length ≤ 21) (hM : ML K L s) (ht : t < L.length) (h1 : one = false ∨ n = 0) (hnext : m_X7_nextAt N s tries (nI t) (bI keep) (nI skip) = some (nI c')) (hc : c' ≤ 4) : m_X7_paints_L13 N s (bI keep) (nI skip) (bI one) (m + 1) (nI t) (nI n) tries first = if c' = 3 then m_X7_paints_L13 N s (bI keep) (nI skip) (bI one) m (nI t + -1) (nI n) (upd tries t (nI 3)) first else m_X7_paints_L13 N s (bI keep) (nI skip) (bI one) m (nI (t + 1)) (nI n) (upd (upd tries t (nI c')) (t + 1) (-1)) first := by
  have pick : ∀ A B : Option (Int32 × (Nat → Int32) × (Nat → Int32)), (if bI one = 0 then A else if 0 < nI n then B else A) = A := by
    intro A B
    rcases h1 with h1 | h1
    · rw [h1, if_pos (show bI false = 0 from rfl)]
    · rw [h1, if_neg (show ¬ (0 : Int32) < nI 0 by decide)]
      split <;> rfl
  rw [m_X7_paints_L13, if_neg (nI_pos (by omega))]
  simp only [jn]
  rw [pick, r_1 (by decide), hM.2.1, if_neg (fun w => by have := (nI_eq (by omega) (by omega)).mp w; omega), hnext, r_bind, r_awr (by omega) (by omega), nI_clamp (by omega)]
  simp only [nm]
  rw [r_ard (by omega) (by omega), upd_s]
  by_cases q : c' = 3
  · rw [if_pos q, q, if_pos (show nI 3 = 3 from rfl)]
  · rw [if_neg q, if_neg (fun w => q ((nI3 (by omega)).mp w)), nI_1, r_awr (by omega) (by omega), nI_clamp (by omega)]
theorem p_leaf {n : Nat} {tries first : Nat → Int32} (hN : 1000 ≤ N) (h21 : L.length ≤ 21) (hM : ML K L s) (h1 : one = false ∨ n = 0) (hn : n < 2 ^ 31) : ∃ first', (∀ m, m_X7_paints_L13 N s (bI keep) (nI skip) (bI one) (m + 1) (nI L.length) (nI n) tries first = m_X7_paints_L13 N s (bI keep) (nI skip) (bI one) m (nI L.length + -1) (nI (n + 1)) tries first') ∧ (n = 0 → ∀ i, i < L.length → first' i = tries i) := by
  have pick : ∀ A B : Option (Int32 × (Nat → Int32) × (Nat → Int32)), (if bI one = 0 then A else if 0 < nI n then B else A) = A := by
    intro A B
    rcases h1 with h1 | h1
    · rw [h1, if_pos (show bI false = 0 from rfl)]
    · rw [h1, if_neg (show ¬ (0 : Int32) < nI 0 by decide)]
      split <;> rfl
  obtain ⟨f0, g1, g2, g3⟩ := m_lays (tries := tries) (first := first) hN h21 hM (if nI n = 0 then 1 else 0)
  refine ⟨f0, fun m => ?_, fun h => g3 (by rw [h, if_pos (show nI 0 = 0 from rfl)]; decide)⟩
  rw [m_X7_paints_L13, if_neg (nI_pos (by omega))]
  simp only [jn]
  rw [pick, r_1 (by decide), hM.2.1, if_pos rfl]
  by_cases q : n = 0
  · rw [q] at g1 ⊢
    rw [if_pos (show nI 0 = 0 from rfl)] at g1 ⊢
    rw [g1, r_bind, nI_1]
  · rw [if_neg (fun w => q ((nI_eq0 hn).mp w))] at g1 ⊢
    rw [g1, r_bind, nI_1]
theorem p_neg {n m : Nat} {x : Int32} {tries first : Nat → Int32} (hx : x < 0) : m_X7_paints_L13 N s (bI keep) (nI skip) (bI one) (m + 1) x (nI n) tries first = some (nI n, tries, first) := by
  rw [m_X7_paints_L13, if_pos hx]
theorem p_enough {n m : Nat} {x : Int32} {tries first : Nat → Int32} (h0 : 0 < n) (hn : n < 2 ^ 31) : m_X7_paints_L13 N s (bI keep) (nI skip) (bI true) (m + 1) x (nI n) tries first = some (nI n, tries, first) := by
  rw [m_X7_paints_L13]
  by_cases q : x < 0
  · rw [if_pos q]
  · rw [if_neg q]
    simp only [jn]
    rw [if_neg (show ¬ bI true = 0 by decide), if_pos (show (0 : Int32) < nI n from nI_lt (a := 0) h0 hn)]
theorem p5 (d : Nat) : 25 ≤ 5 ^ (d + 2) ∧ 5 ≤ 5 ^ (d + 1) ∧ 5 ^ (d + 2) = 5 * 5 ^ (d + 1) := by
  have a := Nat.pow_le_pow_right (show 0 < 5 by decide) (show 1 ≤ d + 1 by omega)
  have b := Nat.pow_le_pow_right (show 0 < 5 by decide) (show 2 ≤ d + 2 by omega)
  refine ⟨b, a, ?_⟩
  rw [Nat.pow_succ, Nat.mul_comm]
theorem back1 (t : Nat) : nI (t + 1) + (-1) = nI t := by
  have : ∀ x : Int32, x + (-1) = x - 1 := fun x => by
    rw [Int32.sub_eq_add_neg]
  rw [this]
  exact nI_pred t
theorem dfsA (hN : 1000 ≤ N) (hW : WL K L) (hM : ML K L s) (hs : skip < 2 ^ 31) : ∀ (d t : Nat) (U : UC) (tries first : Nat → Int32) (n : Nat), t + d = L.length → TRr L tries t U → tries t = -1 → n + cq (alK keep) (qs L skip (rgf d t)) U < 2 ^ 31 → ∃ (used : Nat) (tries' first' : Nat → Int32), used ≤ 5 ^ (d + 1) ∧ (∀ i, i < t → tries' i = tries i) ∧ ∀ m, m_X7_paints_L13 N s (bI keep) (nI skip) (bI false) (m + used) (nI t) (nI n) tries first = m_X7_paints_L13 N s (bI keep) (nI skip) (bI false) m (nI t + -1) (nI (n + cq (alK keep) (qs L skip (rgf d t)) U)) tries' first' := by
  have h21 := hW.len21
  intro d
  induction d with
  | zero =>
    intro t U tries first n ht hT hv hn
    have : t = L.length := by omega
    subst this
    have e1 : cq (alK keep) (qs L skip (rgf 0 L.length)) U = 1 := rfl
    rw [e1] at hn ⊢
    obtain ⟨f, h1, -⟩ := p_leaf (keep := keep) (skip := skip) (one := false) (tries := tries) (first := first) (n := n) hN h21 hM (Or.inl rfl) (by omega)
    exact ⟨1, tries, f, by decide, fun _ _ => rfl, h1⟩
  | succ d ih =>
    intro t U tries first n ht hT hv hn
    obtain ⟨b1, b2, b3⟩ := p5 d
    have er : rgf (d + 1) t = t :: rgf d (t + 1) := rfl
    rw [er] at hn ⊢
    cases hb : skip.testBit t with
    | true =>
      rw [qs_skip hb] at hn ⊢
      have nx := m_nextSkip (N := N) (s := s) (keep := keep) (tries := tries) (t := t) (by omega) hs hb
      rw [hv, if_neg (by decide)] at nx
      have T1 : TRr L (upd (upd tries t (nI 4)) (t + 1) (-1)) (t + 1) U := hT.skip.agree (fun i hi => by rw [upd_n (by omega)])
      obtain ⟨u1, tr1, f1, g1, g2, g3⟩ := ih (t + 1) U _ first n (by omega) T1 upd_s hn
      have v1 : tr1 t = nI 4 := by rw [g2 t (by omega), upd_n (by omega), upd_s]
      have nx2 := m_nextSkip (N := N) (s := s) (keep := keep) (tries := tr1) (t := t) (by omega) hs hb
      rw [v1, if_pos (show (0 : Int32) ≤ nI 4 by decide)] at nx2
      refine ⟨u1 + 2, upd tr1 t (nI 3), f1, by omega, fun i hi => ?_, fun m => ?_⟩
      · rw [upd_n (by omega), g2 i (by omega), upd_n (by omega), upd_n (by omega)]
      · rw [show m + (u1 + 2) = (m + 1 + u1) + 1 by omega, p_step (c' := 4) h21 hM (by omega) (Or.inl rfl) nx (by omega), if_neg (by decide), g3, back1, p_step (c' := 3) h21 hM (by omega) (Or.inl rfl) nx2 (by omega), if_pos rfl]
    | false =>
      rw [qs_take hb] at hn ⊢
      have inner : ∀ (k c : Nat) (tries first : Nat → Int32) (n : Nat), c + k = 3 → TRr L tries t U → tries t + 1 = nI c → n + sF (fun c => if goodC keep U (thn L t) c = true then cq (alK keep) (qs L skip (rgf d (t + 1))) (us3 U (thn L t) c) else 0) k c < 2 ^ 31 → ∃ (used : Nat) (tries' first' : Nat → Int32), used ≤ k * (5 ^ (d + 1) + 1) + 1 ∧ (∀ i, i < t → tries' i = tries i) ∧ ∀ m, m_X7_paints_L13 N s (bI keep) (nI skip) (bI false) (m + used) (nI t) (nI n) tries first = m_X7_paints_L13 N s (bI keep) (nI skip) (bI false) m (nI t + -1) (nI (n + sF (fun c => if goodC keep U (thn L t) c = true then cq (alK keep) (qs L skip (rgf d (t + 1))) (us3 U (thn L t) c) else 0) k c)) tries' first' := by
        intro k
        induction k using Nat.strongRecOn with
        | ind k ihk =>
        intro c tries first n hc hT hv hn
        have nx := m_nextAt (keep := keep) hN hW hM (by omega) hT hs hb hv hc
        obtain ⟨a1, a2, -, a4, a5⟩ := sF_nx (p := goodC keep U (thn L t)) (q := fun c => cq (alK keep) (qs L skip (rgf d (t + 1))) (us3 U (thn L t) c)) k c hc
        by_cases w : nxc (goodC keep U (thn L t)) k c = 3
        · refine ⟨1, upd tries t (nI 3), first, by omega, fun i hi => by rw [upd_n (by omega)], fun m => ?_⟩
          rw [p_step h21 hM (by omega) (Or.inl rfl) nx (by omega), if_pos w, a4 w]
          rfl
        · obtain ⟨a6, a7⟩ := a5 (by omega)
          rw [a7] at hn ⊢
          have T1 : TRr L (upd (upd tries t (nI (nxc (goodC keep U (thn L t)) k c))) (t + 1) (-1)) (t + 1) (us3 U (thn L t) (nxc (goodC keep U (thn L t)) k c)) := (hT.take (by omega)).agree (fun i hi => by rw [upd_n (by omega)])
          obtain ⟨u1, tr1, f1, g1, g2, g3⟩ := ih (t + 1) _ _ first n (by omega) T1 upd_s (by omega)
          have v1 : tr1 t = nI (nxc (goodC keep U (thn L t)) k c) := by rw [g2 t (by omega), upd_n (by omega), upd_s]
          have agr : ∀ i, i < t → tr1 i = tries i := fun i hi => by rw [g2 i (by omega), upd_n (by omega), upd_n (by omega)]
          obtain ⟨u2, tr2, f2, k1, k2, k3⟩ := ihk (3 - (nxc (goodC keep U (thn L t)) k c + 1)) (by omega) (nxc (goodC keep U (thn L t)) k c + 1) tr1 f1 (n + cq (alK keep) (qs L skip (rgf d (t + 1))) (us3 U (thn L t) (nxc (goodC keep U (thn L t)) k c))) (by omega) (hT.agree agr) (by rw [v1, nI_1]) (by omega)
          have kk : 3 - (nxc (goodC keep U (thn L t)) k c + 1) + 1 ≤ k := by omega
          have km := Nat.mul_le_mul_right (5 ^ (d + 1) + 1) kk
          rw [Nat.add_mul, Nat.one_mul] at km
          refine ⟨u2 + u1 + 1, tr2, f2, by omega, fun i hi => by rw [k2 i hi, agr i hi], fun m => ?_⟩
          rw [show m + (u2 + u1 + 1) = (m + u2 + u1) + 1 by omega, p_step h21 hM (by omega) (Or.inl rfl) nx (by omega), if_neg w, g3, back1, k3, Nat.add_assoc n]
      have e3 : sF (fun c => if goodC keep U (thn L t) c = true then cq (alK keep) (qs L skip (rgf d (t + 1))) (us3 U (thn L t) c) else 0) 3 0 = cq (alK keep) (thn L t :: qs L skip (rgf d (t + 1))) U := by
        show (if goodC keep U (thn L t) 0 = true then cq (alK keep) (qs L skip (rgf d (t + 1))) (us3 U (thn L t) 0) else 0) + ((if goodC keep U (thn L t) 1 = true then cq (alK keep) (qs L skip (rgf d (t + 1))) (us3 U (thn L t) 1) else 0) + ((if goodC keep U (thn L t) 2 = true then cq (alK keep) (qs L skip (rgf d (t + 1))) (us3 U (thn L t) 2) else 0) + 0)) = (if goodC keep U (thn L t) 0 = true then cq (alK keep) (qs L skip (rgf d (t + 1))) (us3 U (thn L t) 0) else 0) + (if goodC keep U (thn L t) 1 = true then cq (alK keep) (qs L skip (rgf d (t + 1))) (us3 U (thn L t) 1) else 0) + (if goodC keep U (thn L t) 2 = true then cq (alK keep) (qs L skip (rgf d (t + 1))) (us3 U (thn L t) 2) else 0)
        omega
      have := inner 3 0 tries first n rfl hT (by rw [hv]; rfl) (by rw [e3]; exact hn)
      rw [e3] at this
      obtain ⟨u, tr, f, g1, g2, g3⟩ := this
      exact ⟨u, tr, f, by omega, g2, g3⟩
end DF
end
-- 89.dfsB.lean.txt
section
/-! pure: the reference looks for one good painting -/
section DB
variable {N K skip : Nat} {L : List TH} {s : Nat → Int32} {keep : Bool}
/-- where the search for one ends, from a thread on -/
def EndB (N : Nat) (s : Nat → Int32) (keep : Bool) (skip T : Nat) (L : List TH) (d t used q : Nat) (U : UC) (tries first : Nat → Int32) : Prop :=
  (q = 0 ∧ ∃ tries', (∀ i, i < t → tries' i = tries i) ∧ ∀ m, m_X7_paints_L13 N s (bI keep) (nI skip) (bI true) (m + used) (nI t) (nI 0) tries first = m_X7_paints_L13 N s (bI keep) (nI skip) (bI true) m (nI t + -1) (nI 0) tries' first) ∨
  (0 < q ∧ ∃ tries' first', (∀ m, m_X7_paints_L13 N s (bI keep) (nI skip) (bI true) (m + used) (nI t) (nI 0) tries first = some (nI 1, tries', first')) ∧ (skip = 0 → (∀ i, i < t → first' i = tries i) ∧ ∀ i c, (gx (alK keep) (qs L 0 (rgf d t)) U)[i]? = some c → first' (t + i) = nI c))
theorem dfsB (hN : 1000 ≤ N) (hW : WL K L) (hM : ML K L s) (hs : skip < 2 ^ 31) : ∀ (d t : Nat) (U : UC) (tries first : Nat → Int32), t + d = L.length → TRr L tries t U → tries t = -1 → ∃ used, used ≤ 5 ^ (d + 1) ∧ EndB N s keep skip L.length L d t used (cq (alK keep) (qs L skip (rgf d t)) U) U tries first := by
  have h21 := hW.len21
  intro d
  induction d with
  | zero =>
    intro t U tries first ht hT hv
    have : t = L.length := by omega
    subst this
    obtain ⟨f, h1, h2⟩ := p_leaf (keep := keep) (skip := skip) (one := true) (tries := tries) (first := first) (n := 0) hN h21 hM (Or.inr rfl) (by decide)
    refine ⟨2, by decide, Or.inr ⟨by show 0 < 1; decide, tries, f, fun m => ?_, fun _ => ⟨h2 rfl, fun i c hc => ?_⟩⟩⟩
    · rw [show m + 2 = (m + 1) + 1 by omega, h1, p_enough (by decide) (by decide)]
    · have : gx (alK keep) (qs L 0 (rgf 0 L.length)) U = [] := rfl
      rw [this] at hc
      simp at hc
  | succ d ih =>
    intro t U tries first ht hT hv
    obtain ⟨b1, b2, b3⟩ := p5 d
    have er : rgf (d + 1) t = t :: rgf d (t + 1) := rfl
    unfold EndB
    rw [er]
    cases hb : skip.testBit t with
    | true =>
      rw [qs_skip hb]
      have nx := m_nextSkip (N := N) (s := s) (keep := keep) (tries := tries) (t := t) (by omega) hs hb
      rw [hv, if_neg (by decide)] at nx
      have T1 : TRr L (upd (upd tries t (nI 4)) (t + 1) (-1)) (t + 1) U := hT.skip.agree (fun i hi => by rw [upd_n (by omega)])
      obtain ⟨u1, g1, g2⟩ := ih (t + 1) U _ first (by omega) T1 upd_s
      rcases g2 with ⟨g2, tr1, g3, g4⟩ | ⟨g2, tr1, f1, g3, -⟩
      · have v1 : tr1 t = nI 4 := by rw [g3 t (by omega), upd_n (by omega), upd_s]
        have nx2 := m_nextSkip (N := N) (s := s) (keep := keep) (tries := tr1) (t := t) (by omega) hs hb
        rw [v1, if_pos (show (0 : Int32) ≤ nI 4 by decide)] at nx2
        refine ⟨u1 + 2, by omega, Or.inl ⟨g2, upd tr1 t (nI 3), fun i hi => ?_, fun m => ?_⟩⟩
        · rw [upd_n (by omega), g3 i (by omega), upd_n (by omega), upd_n (by omega)]
        · rw [show m + (u1 + 2) = (m + 1 + u1) + 1 by omega, p_step (c' := 4) h21 hM (by omega) (Or.inr rfl) nx (by omega), if_neg (by decide), g4, back1, p_step (c' := 3) h21 hM (by omega) (Or.inr rfl) nx2 (by omega), if_pos rfl]
      · refine ⟨u1 + 1, by omega, Or.inr ⟨g2, tr1, f1, fun m => ?_, fun h0 => ?_⟩⟩
        · rw [show m + (u1 + 1) = (m + u1) + 1 by omega, p_step (c' := 4) h21 hM (by omega) (Or.inr rfl) nx (by omega), if_neg (by decide), g3]
        · rw [h0, Nat.zero_testBit] at hb
          cases hb
    | false =>
      rw [qs_take hb]
      have q0 : qs L 0 (t :: rgf d (t + 1)) = thn L t :: qs L 0 (rgf d (t + 1)) := qs_take (Nat.zero_testBit t)
      rw [q0]
      have inner : ∀ (k c : Nat) (tries : Nat → Int32), c + k = 3 → TRr L tries t U → tries t + 1 = nI c → ∃ used, used ≤ k * (5 ^ (d + 1) + 1) + 1 ∧
          ((sF (fun c => if goodC keep U (thn L t) c = true then cq (alK keep) (qs L skip (rgf d (t + 1))) (us3 U (thn L t) c) else 0) k c = 0 ∧ ∃ tries', (∀ i, i < t → tries' i = tries i) ∧ ∀ m, m_X7_paints_L13 N s (bI keep) (nI skip) (bI true) (m + used) (nI t) (nI 0) tries first = m_X7_paints_L13 N s (bI keep) (nI skip) (bI true) m (nI t + -1) (nI 0) tries' first) ∨
          (0 < sF (fun c => if goodC keep U (thn L t) c = true then cq (alK keep) (qs L skip (rgf d (t + 1))) (us3 U (thn L t) c) else 0) k c ∧ ∃ tries' first', (∀ m, m_X7_paints_L13 N s (bI keep) (nI skip) (bI true) (m + used) (nI t) (nI 0) tries first = some (nI 1, tries', first')) ∧ (skip = 0 → (∀ i, i < t → first' i = tries i) ∧ ∃ c1, c1 < 3 ∧ c ≤ c1 ∧ goodC keep U (thn L t) c1 = true ∧ 0 < cq (alK keep) (qs L 0 (rgf d (t + 1))) (us3 U (thn L t) c1) ∧ (∀ e, c ≤ e → e < c1 → ¬ (goodC keep U (thn L t) e = true ∧ 0 < cq (alK keep) (qs L 0 (rgf d (t + 1))) (us3 U (thn L t) e))) ∧ first' t = nI c1 ∧ ∀ i c2, (gx (alK keep) (qs L 0 (rgf d (t + 1))) (us3 U (thn L t) c1))[i]? = some c2 → first' (t + 1 + i) = nI c2))) := by
        intro k
        induction k using Nat.strongRecOn with
        | ind k ihk =>
        intro c tries hc hT hv
        have nx := m_nextAt (keep := keep) hN hW hM (by omega) hT hs hb hv hc
        obtain ⟨a1, a2, a3, a4, a5⟩ := sF_nx (p := goodC keep U (thn L t)) (q := fun c => cq (alK keep) (qs L skip (rgf d (t + 1))) (us3 U (thn L t) c)) k c hc
        by_cases w : nxc (goodC keep U (thn L t)) k c = 3
        · refine ⟨1, by omega, Or.inl ⟨a4 w, upd tries t (nI 3), fun i hi => by rw [upd_n (by omega)], fun m => ?_⟩⟩
          rw [p_step h21 hM (by omega) (Or.inr rfl) nx (by omega), if_pos w]
        · obtain ⟨a6, a7⟩ := a5 (by omega)
          rw [a7]
          have T1 : TRr L (upd (upd tries t (nI (nxc (goodC keep U (thn L t)) k c))) (t + 1) (-1)) (t + 1) (us3 U (thn L t) (nxc (goodC keep U (thn L t)) k c)) := (hT.take (by omega)).agree (fun i hi => by rw [upd_n (by omega)])
          obtain ⟨u1, g1, g2⟩ := ih (t + 1) _ _ first (by omega) T1 upd_s
          have kk : 3 - (nxc (goodC keep U (thn L t)) k c + 1) + 1 ≤ k := by omega
          have km := Nat.mul_le_mul_right (5 ^ (d + 1) + 1) kk
          rw [Nat.add_mul, Nat.one_mul] at km
          rcases g2 with ⟨g2, tr1, g3, g4⟩ | ⟨g2, tr1, f1, g3, g4⟩
          · have v1 : tr1 t = nI (nxc (goodC keep U (thn L t)) k c) := by rw [g3 t (by omega), upd_n (by omega), upd_s]
            have agr : ∀ i, i < t → tr1 i = tries i := fun i hi => by rw [g3 i (by omega), upd_n (by omega), upd_n (by omega)]
            obtain ⟨u2, k1, k2⟩ := ihk (3 - (nxc (goodC keep U (thn L t)) k c + 1)) (by omega) (nxc (goodC keep U (thn L t)) k c + 1) tr1 (by omega) (hT.agree agr) (by rw [v1, nI_1])
            refine ⟨u2 + u1 + 1, by omega, ?_⟩
            rw [g2, Nat.zero_add]
            have stp : ∀ m, m_X7_paints_L13 N s (bI keep) (nI skip) (bI true) (m + (u2 + u1 + 1)) (nI t) (nI 0) tries first = m_X7_paints_L13 N s (bI keep) (nI skip) (bI true) (m + u2) (nI t) (nI 0) tr1 first := fun m => by
              rw [show m + (u2 + u1 + 1) = (m + u2 + u1) + 1 by omega, p_step h21 hM (by omega) (Or.inr rfl) nx (by omega), if_neg w, g4, back1]
            rcases k2 with ⟨k2, tr2, k3, k4⟩ | ⟨k2, tr2, f2, k3, k4⟩
            · exact Or.inl ⟨k2, tr2, fun i hi => by rw [k3 i hi, agr i hi], fun m => by rw [stp, k4]⟩
            · refine Or.inr ⟨k2, tr2, f2, fun m => by rw [stp, k3], fun h0 => ?_⟩
              obtain ⟨l1, c1, l2, l3, l4, l5, l6, l7⟩ := k4 h0
              refine ⟨fun i hi => by rw [l1 i hi, agr i hi], c1, l2, by omega, l4, l5, fun e e1 e2 => ?_, l7⟩
              rcases Nat.lt_trichotomy e (nxc (goodC keep U (thn L t)) k c) with z | z | z
              · rw [a3 e e1 z]
                exact fun y => bff y.1
              · rw [z]
                rw [h0] at g2
                exact fun y => by have := y.2; omega
              · exact l6 e (by omega) e2
          · refine ⟨u1 + 1, by omega, Or.inr ⟨by omega, tr1, f1, fun m => ?_, fun h0 => ?_⟩⟩
            · rw [show m + (u1 + 1) = (m + u1) + 1 by omega, p_step h21 hM (by omega) (Or.inr rfl) nx (by omega), if_neg w, g3]
            · obtain ⟨l1, l2⟩ := g4 h0
              rw [h0] at g2
              refine ⟨fun i hi => by rw [l1 i (by omega), upd_n (by omega), upd_n (by omega)], nxc (goodC keep U (thn L t)) k c, by omega, a1, a6, g2, fun e e1 e2 => ?_, ?_, l2⟩
              · rw [a3 e e1 e2]
                exact fun y => bff y.1
              · rw [l1 t (by omega), upd_n (by omega), upd_s]
      have e3 : sF (fun c => if goodC keep U (thn L t) c = true then cq (alK keep) (qs L skip (rgf d (t + 1))) (us3 U (thn L t) c) else 0) 3 0 = cq (alK keep) (thn L t :: qs L skip (rgf d (t + 1))) U := by
        show (if goodC keep U (thn L t) 0 = true then cq (alK keep) (qs L skip (rgf d (t + 1))) (us3 U (thn L t) 0) else 0) + ((if goodC keep U (thn L t) 1 = true then cq (alK keep) (qs L skip (rgf d (t + 1))) (us3 U (thn L t) 1) else 0) + ((if goodC keep U (thn L t) 2 = true then cq (alK keep) (qs L skip (rgf d (t + 1))) (us3 U (thn L t) 2) else 0) + 0)) = (if goodC keep U (thn L t) 0 = true then cq (alK keep) (qs L skip (rgf d (t + 1))) (us3 U (thn L t) 0) else 0) + (if goodC keep U (thn L t) 1 = true then cq (alK keep) (qs L skip (rgf d (t + 1))) (us3 U (thn L t) 1) else 0) + (if goodC keep U (thn L t) 2 = true then cq (alK keep) (qs L skip (rgf d (t + 1))) (us3 U (thn L t) 2) else 0)
        omega
      obtain ⟨u, g1, g2⟩ := inner 3 0 tries rfl hT (by rw [hv]; rfl)
      rw [e3] at g2
      refine ⟨u, by omega, ?_⟩
      rcases g2 with g2 | ⟨g2, tr, f, g3, g4⟩
      · exact Or.inl g2
      · refine Or.inr ⟨g2, tr, f, g3, fun h0 => ?_⟩
        obtain ⟨l1, c1, l2, l3, l4, l5, l6, l7, l8⟩ := g4 h0
        refine ⟨l1, fun i c hc => ?_⟩
        have eg : gcl (fun c => (alK keep (thn L t) c && fr3 U (thn L t) c) && decide (0 < cq (alK keep) (qs L 0 (rgf d (t + 1))) (us3 U (thn L t) c))) = c1 := by
          have yes : ∀ c, goodC keep U (thn L t) c = true ∧ 0 < cq (alK keep) (qs L 0 (rgf d (t + 1))) (us3 U (thn L t) c) ↔ ((alK keep (thn L t) c && fr3 U (thn L t) c) && decide (0 < cq (alK keep) (qs L 0 (rgf d (t + 1))) (us3 U (thn L t) c))) = true := fun c => by
            unfold goodC
            rw [Bool.and_eq_true (alK keep (thn L t) c && fr3 U (thn L t) c), decide_eq_true_iff]
          unfold gcl
          have y1 := (yes c1).mp ⟨l4, l5⟩
          have n0 : 0 < c1 → ¬ _ := fun h => fun z => l6 0 (Nat.le_refl _) h ((yes 0).mpr z)
          have n1 : 1 < c1 → ¬ _ := fun h => fun z => l6 1 (by omega) h ((yes 1).mpr z)
          have c3 : c1 = 0 ∨ c1 = 1 ∨ c1 = 2 := by omega
          rcases c3 with z | z | z
          · rw [z] at y1
            rw [if_pos y1, z]
          · rw [z] at y1
            rw [if_neg (n0 (by omega)), if_pos y1, z]
          · rw [if_neg (n0 (by omega)), if_neg (n1 (by omega)), z]
        have el : gx (alK keep) (thn L t :: qs L 0 (rgf d (t + 1))) U = c1 :: gx (alK keep) (qs L 0 (rgf d (t + 1))) (us3 U (thn L t) c1) := by
          show gcl _ :: gx _ _ (us3 U (thn L t) (gcl _)) = _
          rw [eg]
        rw [el] at hc
        cases i with
        | zero =>
          simp at hc
          rw [Nat.add_zero, l7, hc]
        | succ i =>
          rw [show t + (i + 1) = t + 1 + i by omega]
          exact l8 i c (by simpa using hc)
end DB
end
-- 90.used.lean.txt
section
/-! pure: threads that keep their colours come first -/
def opn (keep : Bool) (x : TH) : Bool := !keep || x.2.2 == 3
def colT (L : List TH) (keep : Bool) (R : List Nat) : List TH := (R.filter (fun t => !opn keep (thn L t))).map (thn L)
def barT (L : List TH) (keep : Bool) (R : List Nat) : List TH := (R.filter (fun t => opn keep (thn L t))).map (thn L)
def okC : List TH → UC → Bool
  | [], _ => true
  | x :: C, U => fr3 U x x.2.2 && okC C (us3 U x x.2.2)
def adU : List TH → UC → UC
  | [], U => U
  | x :: C, U => adU C (us3 U x x.2.2)
theorem s3_only {F : Nat → Nat} {v : Nat} (p : Nat → Bool) (h : v < 3) : s3 (fun c => if ((v == c) && p c) = true then F c else 0) = if p v = true then F v else 0 := by
  have : v = 0 ∨ v = 1 ∨ v = 2 := by omega
  unfold s3
  rcases this with g | g | g <;> subst g <;> simp
theorem cq_col {keep : Bool} {Q : List TH} : ∀ {C : List TH} {U : UC}, (∀ x ∈ C, opn keep x = false ∧ x.2.2 < 3) → cq (alK keep) (C ++ Q) U = if okC C U = true then cq (alK keep) Q (adU C U) else 0
  | [], U, _ => by
    rw [show okC [] U = true from rfl, if_pos btt]
    rfl
  | x :: C, U, h => by
    obtain ⟨h1, h2⟩ := h x List.mem_cons_self
    have e : ∀ c, alK keep x c = (x.2.2 == c) := fun c => by
      unfold opn at h1
      unfold alK
      rw [h1]
      rfl
    show s3 (fun c => if (alK keep x c && fr3 U x c) = true then cq (alK keep) (C ++ Q) (us3 U x c) else 0) = _
    have := s3_only (F := fun c => cq (alK keep) (C ++ Q) (us3 U x c)) (fun c => fr3 U x c) h2
    have e2 : s3 (fun c => if (alK keep x c && fr3 U x c) = true then cq (alK keep) (C ++ Q) (us3 U x c) else 0) = s3 (fun c => if ((x.2.2 == c) && fr3 U x c) = true then cq (alK keep) (C ++ Q) (us3 U x c) else 0) := s3_cong (fun c _ => by rw [e c])
    rw [e2, this, cq_col (fun y hy => h y (List.mem_cons_of_mem _ hy))]
    show _ = if (fr3 U x x.2.2 && okC C (us3 U x x.2.2)) = true then cq (alK keep) Q (adU C (us3 U x x.2.2)) else 0
    cases fr3 U x x.2.2 with
    | false => rw [if_neg bff, Bool.false_and, if_neg bff]
    | true => rw [if_pos btt, Bool.true_and]
theorem qs_all (L : List TH) (R : List Nat) : qs L 0 R = R.map (thn L) := by
  unfold qs
  congr 1
  rw [List.filter_eq_self]
  intro t _
  rw [Nat.zero_testBit]
  rfl
theorem qs_split (L : List TH) (keep : Bool) (R : List Nat) : (qs L 0 R).Perm (colT L keep R ++ barT L keep R) := by
  rw [qs_all]
  unfold colT barT
  rw [← List.map_append]
  refine List.Perm.map _ (List.Perm.symm ?_)
  have := List.filter_append_perm (fun t => !opn keep (thn L t)) R
  simpa using this
theorem colT_in {L : List TH} {keep : Bool} {R : List Nat} (h3 : ∀ t ∈ R, (thn L t).2.2 ≤ 3) : ∀ x ∈ colT L keep R, opn keep x = false ∧ x.2.2 < 3 := by
  intro x hx
  unfold colT at hx
  rw [List.mem_map] at hx
  obtain ⟨t, ht, rfl⟩ := hx
  rw [List.mem_filter] at ht
  have h := h3 t ht.1
  have o : opn keep (thn L t) = false := by simpa using ht.2
  refine ⟨o, ?_⟩
  unfold opn at o
  rw [Bool.or_eq_false_iff] at o
  have := o.2
  simp at this
  omega
theorem bare_al {L : List TH} {keep : Bool} {R : List Nat} {U : UC} : cq (alK keep) (barT L keep R) U = cq allT (barT L keep R) U := by
  refine cq_cong (fun _ _ _ _ _ => rfl) (fun x hx c _ => ?_)
  unfold barT at hx
  rw [List.mem_map] at hx
  obtain ⟨t, ht, rfl⟩ := hx
  rw [List.mem_filter] at ht
  have o := ht.2
  unfold opn at o
  unfold alK allT
  rw [o]
  rfl
theorem cq_keep {L : List TH} {keep : Bool} {R : List Nat} {U : UC} (h3 : ∀ t ∈ R, (thn L t).2.2 ≤ 3) : cq (alK keep) (qs L 0 R) U = if okC (colT L keep R) U = true then cq allT (barT L keep R) (adU (colT L keep R) U) else 0 := by
  rw [cq_perm _ (qs_split L keep R), cq_col (colT_in h3), bare_al]
theorem adU_us {x : TH} {c : Nat} : ∀ {C : List TH} {U : UC}, us3 (adU C U) x c = adU C (us3 U x c)
  | [], _ => rfl
  | y :: C, U => by
    show us3 (adU C (us3 U y y.2.2)) x c = adU C (us3 (us3 U x c) y y.2.2)
    rw [adU_us, us3_comm]
/-- what tells whether a bare thread may have a colour: the reference's way and the class's -/
theorem cond_eq {L : List TH} {keep : Bool} {R : List Nat} {U : UC} {x : TH} {c : Nat} (h3 : ∀ t ∈ R, (thn L t).2.2 ≤ 3) (hc : c < 3) (hx : opn keep x = true) (hk : okC (colT L keep R) U = true) : ((alK keep x c && fr3 U x c) && decide (0 < cq (alK keep) (qs L 0 R) (us3 U x c))) = (fr3 (adU (colT L keep R) U) x c && decide (0 < cq allT (barT L keep R) (us3 (adU (colT L keep R) U) x c))) := by
  have ha : alK keep x c = true := by
    unfold opn at hx
    unfold alK
    rw [hx]
    rfl
  rw [ha, Bool.true_and]
  cases keep with
  | false =>
    have e : colT L false R = [] := by
      unfold colT opn
      simp
    have e2 : ∀ V, cq (alK false) (qs L 0 R) V = cq allT (barT L false R) V := fun V => by
      rw [cq_keep h3, e]
      rfl
    rw [e, e2]
    rfl
  | true =>
    have hx' : ∀ y ∈ [((x.1, x.2.1, c) : TH)], opn true y = false ∧ y.2.2 < 3 := fun y hy => by
      rw [List.mem_singleton] at hy
      rw [hy]
      refine ⟨?_, hc⟩
      show (c == 3) = false
      simp
      omega
    have l : cq (alK true) ((x.1, x.2.1, c) :: qs L 0 R) U = if fr3 U x c = true then cq (alK true) (qs L 0 R) (us3 U x c) else 0 := by
      have := cq_col (keep := true) (Q := qs L 0 R) (C := [(x.1, x.2.1, c)]) (U := U) hx'
      refine Eq.trans this ?_
      show (if (fr3 U x c && true) = true then _ else _) = _
      rw [Bool.and_true]
      rfl
    have r : cq (alK true) ((x.1, x.2.1, c) :: qs L 0 R) U = if fr3 (adU (colT L true R) U) x c = true then cq allT (barT L true R) (us3 (adU (colT L true R) U) x c) else 0 := by
      have p : ((x.1, x.2.1, c) :: qs L 0 R).Perm (colT L true R ++ ((x.1, x.2.1, c) :: barT L true R)) := ((qs_split L true R).cons _).trans List.perm_middle.symm
      rw [cq_perm _ p, cq_col (colT_in h3), if_pos hk]
      have := cq_col (keep := true) (Q := barT L true R) (C := [(x.1, x.2.1, c)]) (U := adU (colT L true R) U) hx'
      refine Eq.trans this ?_
      show (if (fr3 (adU (colT L true R) U) x c && true) = true then cq (alK true) (barT L true R) (us3 (adU (colT L true R) U) x c) else _) = _
      rw [Bool.and_true, bare_al]
    rw [r] at l
    cases f1 : fr3 U x c <;> cases f2 : fr3 (adU (colT L true R) U) x c
    · rfl
    · rw [f1, f2, if_pos btt, if_neg bff] at l
      rw [l]
      rfl
    · rw [f1, f2, if_pos btt, if_neg bff] at l
      rw [← l]
      rfl
    · rw [f1, f2, if_pos btt, if_pos btt] at l
      rw [l]
theorem useW_and {u lo hi c : Nat} : u &&& useW lo hi c = 0 ↔ u.testBit (3 * lo + c) = false ∧ u.testBit (3 * hi + c) = false := by
  unfold useW
  constructor
  · intro h
    have a := Nat.testBit_and u (2 ^ (3 * lo + c) ||| 2 ^ (3 * hi + c)) (3 * lo + c)
    have b := Nat.testBit_and u (2 ^ (3 * lo + c) ||| 2 ^ (3 * hi + c)) (3 * hi + c)
    rw [h, Nat.zero_testBit, Nat.testBit_or, Nat.testBit_two_pow, Nat.testBit_two_pow] at a b
    simp at a b
    exact ⟨a, b⟩
  · rintro ⟨h1, h2⟩
    apply Nat.eq_of_testBit_eq
    intro i
    rw [Nat.testBit_and, Nat.testBit_or, Nat.testBit_two_pow, Nat.testBit_two_pow, Nat.zero_testBit]
    by_cases q1 : 3 * lo + c = i
    · rw [← q1, h1]; rfl
    · by_cases q2 : 3 * hi + c = i
      · rw [← q2, h2]; rfl
      · simp [q1, q2]
theorem used_free {u c : Nat} {U : UC} {x : TH} (h : repU u U) (h1 : x.1 < 14) (h2 : x.2.1 < 14) (hc : c < 3) : lg_cmp (lN u &&& lN (useW x.1 x.2.1 c)) 0 = 0 ↔ fr3 U x c = true := by
  have lu : u < 2 ^ 63 := Nat.lt_of_lt_of_le h.1 (p2le (by decide))
  have lw : useW x.1 x.2.1 c < 2 ^ 63 := Nat.lt_of_lt_of_le (useW_lt h1 h2 hc) (p2le (by decide))
  rw [lg_cmp_eq, land _ _ (by omega) (by omega), show (0 : Int64) = lN 0 from rfl, pk_lEQ (Nat.lt_of_le_of_lt Nat.and_le_left lu) (by decide), useW_and, h.2.1 _ _ h1 hc, h.2.1 _ _ h2 hc]
  unfold fr3
  cases U x.1 c <;> cases U x.2.1 c <;> simp
theorem x_usedBy {N t c T : Nat} {lo hi co : Nat → Nat} (hw : wt T lo hi co) (ht : t < T) (hc : c < 3) : m_X3_usedBy N (nI (em lo hi t)) (nI c) = some (lN (useW (lo t) (hi t) c)) := by
  obtain ⟨h1, h2, -⟩ := hw.2 t ht
  have a := em_lt (n := 31) h1 (by omega)
  have b := em_lt (n := 14) h1 h2
  unfold m_X3_usedBy
  rw [m_ntz a em_pos, r_bind, m_nlz (by omega) em_pos, r_bind]
  unfold em
  rw [lb2 h1 (by omega), lg2 h1]
  simp only [nm]
  rw [show (31 : Int32) = nI 31 from rfl, pk_sub (by omega), show 31 - (31 - hi t) = hi t by omega, show (3 : Int32) = nI 3 from rfl, pk_mul, pk_mul, x_usedWith (by omega) h2 hc, r_bind]
theorem neg1L {u : Nat} (h : u < 2 ^ 42) : ¬ lg_cmp (lN u) (-1) = 0 := by
  rw [lg_cmp_eq]
  intro e
  have := pk_lT (n := u) (by omega)
  rw [e] at this
  have z : (-1 : Int64).toInt = -1 := by decide
  omega
theorem x_usedColours {N K : Nat} {L : List TH} {e c : Nat → Int32} (hW : WL K L) (hX : XL L e c) : ∀ (d t n u : Nat) (U : UC), t + d = L.length → d < n → repU u U → (okC (colT L true (rgf d t)) U = true ∧ ∃ u', m_X3_usedColours_L4 N (nI L.length) e c n (nI t) (lN u) = some (lN u') ∧ repU u' (adU (colT L true (rgf d t)) U)) ∨ (okC (colT L true (rgf d t)) U = false ∧ m_X3_usedColours_L4 N (nI L.length) e c n (nI t) (lN u) = some (-1)) := by
  have h21 := hW.len21
  have hw := hW.wt
  obtain ⟨hE, hC⟩ := XL_iff.mp hX
  intro d
  induction d with
  | zero =>
    intro t n u U ht hn hu
    obtain ⟨n, rfl⟩ : ∃ m, n = m + 1 := ⟨n - 1, by omega⟩
    have : t = L.length := by omega
    subst this
    refine Or.inl ⟨rfl, u, ?_, hu⟩
    rw [m_X3_usedColours_L4]
    unfold m_X2_threads
    rw [r_bind, if_pos (nI_le (Nat.le_refl _) (by omega))]
  | succ d ih =>
    intro t n u U ht hn hu
    obtain ⟨n, rfl⟩ : ∃ m, n = m + 1 := ⟨n - 1, by omega⟩
    have htl : t < L.length := by omega
    obtain ⟨w1, w2, w3⟩ := hw.2 t htl
    have er : rgf (d + 1) t = t :: rgf d (t + 1) := rfl
    rw [er, m_X3_usedColours_L4]
    unfold m_X2_threads
    rw [r_bind, if_neg (nI_ge htl (by omega)), x_colour h21 hC htl, r_bind, nI_1]
    by_cases q : fc L t = 3
    · have eo : opn true (thn L t) = true := by
        show (fc L t == 3) = true
        simp [q]
      have ec : colT L true (t :: rgf d (t + 1)) = colT L true (rgf d (t + 1)) := by
        unfold colT
        rw [List.filter_cons, eo]
        rfl
      rw [if_pos (by rw [q]; rfl), ec]
      exact ih (t + 1) n u U (by omega) (by omega) hu
    · have eo : opn true (thn L t) = false := by
        show (fc L t == 3) = false
        simp [q]
      have ec : colT L true (t :: rgf d (t + 1)) = thn L t :: colT L true (rgf d (t + 1)) := by
        unfold colT
        rw [List.filter_cons, eo]
        rfl
      have ef : (thn L t).2.2 = fc L t := rfl
      have hfr := used_free (x := thn L t) (c := fc L t) hu (show (thn L t).1 < 14 from by show fl L t < 14; omega) (show (thn L t).2.1 < 14 from w2) (by omega)
      have hrep := rep_us (x := thn L t) (c := fc L t) hu (show (thn L t).1 < 14 from by show fl L t < 14; omega) (show (thn L t).2.1 < 14 from w2) (by omega)
      have lu : u < 2 ^ 64 := Nat.lt_of_lt_of_le hu.1 (p2le (by decide))
      have lw : useW (thn L t).1 (thn L t).2.1 (fc L t) < 2 ^ 64 := Nat.lt_of_lt_of_le (useW_lt (show (thn L t).1 < 14 from by show fl L t < 14; omega) (show (thn L t).2.1 < 14 from w2) (by omega)) (p2le (by decide))
      rw [if_neg (fun g => q ((nI3 (by omega)).mp g)), x_ends h21 hE htl, r_bind, r_bind, x_usedBy hw htl (by omega), r_bind, ec]
      show ((fr3 U (thn L t) (fc L t) && okC (colT L true (rgf d (t + 1))) (us3 U (thn L t) (fc L t))) = true ∧ ∃ u', (if lg_cmp (lN u &&& lN (useW (thn L t).1 (thn L t).2.1 (fc L t))) 0 = 0 then m_X3_usedColours_L4 N (nI L.length) e c n (nI (t + 1)) (lN u ||| lN (useW (thn L t).1 (thn L t).2.1 (fc L t))) else some (-1)) = some (lN u') ∧ repU u' (adU (colT L true (rgf d (t + 1))) (us3 U (thn L t) (fc L t)))) ∨ ((fr3 U (thn L t) (fc L t) && okC (colT L true (rgf d (t + 1))) (us3 U (thn L t) (fc L t))) = false ∧ (if lg_cmp (lN u &&& lN (useW (thn L t).1 (thn L t).2.1 (fc L t))) 0 = 0 then m_X3_usedColours_L4 N (nI L.length) e c n (nI (t + 1)) (lN u ||| lN (useW (thn L t).1 (thn L t).2.1 (fc L t))) else some (-1)) = some (-1))
      cases fr : fr3 U (thn L t) (fc L t) with
      | true =>
        rw [if_pos (hfr.mpr fr), Bool.true_and, lor _ _ lu lw]
        exact ih (t + 1) n _ _ (by omega) (by omega) hrep
      | false =>
        rw [if_neg (fun g => by rw [hfr.mp g] at fr; cases fr), Bool.false_and]
        exact Or.inr ⟨rfl, rfl⟩
end
-- 91.find.lean.txt
section
/-! pure: how many good paintings there are, and the first one -/
def U0 : UC := fun _ _ => false
theorem rgf_mem {i : Nat} : ∀ {d t : Nat}, i ∈ rgf d t ↔ t ≤ i ∧ i < t + d
  | 0, t => by
    show i ∈ [] ↔ _
    simp
  | d + 1, t => by
    show i ∈ t :: rgf d (t + 1) ↔ _
    rw [List.mem_cons, rgf_mem (d := d) (t := t + 1)]
    omega
theorem rgf_nodup : ∀ {d t : Nat}, (rgf d t).Nodup
  | 0, _ => List.nodup_nil
  | d + 1, t => by
    show (t :: rgf d (t + 1)).Nodup
    rw [List.nodup_cons]
    refine ⟨fun h => ?_, rgf_nodup⟩
    have := (rgf_mem.mp h).1
    omega
theorem rgf_len : ∀ {d t : Nat}, (rgf d t).length = d
  | 0, _ => rfl
  | d + 1, t => by
    show (rgf d (t + 1)).length + 1 = d + 1
    rw [rgf_len]
theorem thn_ok {K : Nat} {L : List TH} {t : Nat} (hW : WL K L) (ht : t < L.length) : (thn L t).1 < (thn L t).2.1 ∧ (thn L t).2.1 < 14 ∧ (thn L t).2.2 ≤ 3 := by
  have := hW.wt.2 t ht
  exact this
theorem col3 {K : Nat} {L : List TH} {d t : Nat} (hW : WL K L) (h : t + d ≤ L.length) : ∀ i ∈ rgf d t, (thn L i).2.2 ≤ 3 := fun i hi => (thn_ok hW (by have := rgf_mem.mp hi; omega)).2.2
def opm (L : List TH) (keep : Bool) : Nat := if keep = true then bs (fun t => fc L t == 3) L.length else 2 ^ L.length - 1
theorem opm_lt (L : List TH) (keep : Bool) : opm L keep < 2 ^ L.length := by
  unfold opm
  split
  · exact bs_lt _ _
  · have := Nat.two_pow_pos L.length
    omega
theorem opm_tb {L : List TH} {keep : Bool} {i : Nat} (h : i < L.length) : (opm L keep).testBit i = opn keep (thn L i) := by
  unfold opm
  cases keep with
  | true =>
    rw [if_pos btt, tb_bs]
    simp only [h, decide_true, Bool.true_and]
    rfl
  | false =>
    rw [if_neg bff, Nat.testBit_two_pow_sub_one]
    simp only [h, decide_true]
    rfl
theorem grp_bar {L : List TH} {G : List (List Nat)} {fx d t : Nat} {keep : Bool} (hG : G.flatten.Nodup) (hm : ∀ i, (opm L keep).testBit i = true ↔ i ∈ G.flatten) (hf : ∀ i, i < L.length → opn keep (thn L i) = true → fx.testBit i = decide (i < t)) (htd : t + d = L.length) : (qs L fx G.flatten).Perm (barT L keep (rgf d t)) := by
  unfold qs barT
  refine List.Perm.map _ ?_
  rw [List.perm_ext_iff_of_nodup (hG.filter _) (rgf_nodup.filter _)]
  intro i
  rw [List.mem_filter, List.mem_filter, ← hm i, rgf_mem]
  constructor
  · rintro ⟨h1, h2⟩
    have il := tb_lt (opm_lt L keep) h1
    rw [opm_tb il] at h1
    rw [hf i il h1] at h2
    simp at h2
    exact ⟨⟨h2, by omega⟩, h1⟩
  · rintro ⟨⟨h1, h2⟩, h3⟩
    have il : i < L.length := by omega
    rw [opm_tb il]
    refine ⟨h3, ?_⟩
    rw [hf i il h3]
    simp
    exact h1
theorem ARr.ok {K : Nat} {L : List TH} {G : List (List Nat)} {b l g st : Nat → Int32} {keep : Bool} (hW : WL K L) (h : ARr L (opm L keep) G b l g st) : okZ L G.flatten := by
  intro t ht
  have il := tb_lt (opm_lt L keep) ((h.2.2.2.2.2.2 t).mpr ht)
  have h21 := hW.len21
  have := thn_ok hW il
  exact ⟨by omega, this.1, this.2.1⟩
/-- the class's oracle -/
theorem x_oracle {N K fx u E d t : Nat} {U : UC} {L : List TH} {G : List (List Nat)} {b l g st : Nat → Int32} {keep : Bool} (hN : 1000 ≤ N) (hW : WL K L) (h : ARr L (opm L keep) G b l g st) (hfx : fx < 2 ^ 31) (hf : ∀ i, i < L.length → opn keep (thn L i) = true → fx.testBit i = decide (i < t)) (htd : t + d = L.length) (hu : repU u U) (hE : 1 ≤ E) (hE2 : E < 2 ^ 31) : ∃ w, m_X3_ways N b l g st (nI G.length) (lN u) (nI fx) (nI E) = some (nI w) ∧ GW w (cq allT (barT L keep (rgf d t)) U) E ∧ w < 2 ^ 30 := by
  have hok := h.ok hW
  obtain ⟨h1, h2, h3, h4, h5, h6, h7⟩ := h
  obtain ⟨w, g1, g2, g3⟩ := x_ways (E := E) hN h1 h2 h3 hok hfx hu hE hE2 h4 h5
  rw [cq_perm _ (grp_bar h6 h7 hf htd)] at g2
  exact ⟨w, g1, g2, g3⟩
theorem x_open {N K : Nat} {L : List TH} {e c : Nat → Int32} {β : Type} {J : Int32 → Option β} {keep : Bool} (hN : 1000 ≤ N) (hW : WL K L) (hX : XL L e c) : (if bI keep = 0 then Option.bind (m_X2_allThreads N (nI L.length)) (fun r => J r) else Option.bind (m_X2_coloured N (nI L.length) c 3) (fun r => J r)) = J (nI (opm L keep)) := by
  obtain ⟨hE, hC⟩ := XL_iff.mp hX
  unfold opm
  cases keep with
  | false => rw [if_pos (show bI false = 0 from rfl), x_allThreads hW.len21, r_bind, if_neg bff]
  | true => rw [if_neg (show ¬ bI true = 0 by decide), show (3 : Int32) = nI 3 from rfl, x_coloured hN hW.len21 hC (by decide) (fun i hi => (hW.wt.2 i hi).2.2), r_bind, if_pos btt]
theorem x_begin {N K : Nat} {L : List TH} {e c : Nat → Int32} {β : Type} {J : Int64 → Option β} {keep : Bool} (hN : 1000 ≤ N) (hW : WL K L) (hX : XL L e c) : (okC (colT L keep (rgf L.length 0)) U0 = true ∧ ∃ u, repU u (adU (colT L keep (rgf L.length 0)) U0) ∧ (if bI keep = 0 then J 0 else Option.bind (m_X3_usedColours N (nI L.length) e c) (fun r => J r)) = J (lN u)) ∨ (okC (colT L keep (rgf L.length 0)) U0 = false ∧ (if bI keep = 0 then J 0 else Option.bind (m_X3_usedColours N (nI L.length) e c) (fun r => J r)) = J (-1)) := by
  have h21 := hW.len21
  cases keep with
  | false =>
    have e : colT L false (rgf L.length 0) = [] := by
      unfold colT opn
      simp
    rw [e]
    exact Or.inl ⟨rfl, 0, rep_0, by rw [if_pos (show bI false = 0 from rfl)]; rfl⟩
  | true =>
    rw [if_neg (show ¬ bI true = 0 by decide)]
    rcases x_usedColours (N := N) hW hX L.length 0 N 0 U0 (by omega) (by omega) rep_0 with ⟨h1, u, h2, h3⟩ | ⟨h1, h2⟩
    · exact Or.inl ⟨h1, u, h3, by show Option.bind (m_X3_usedColours_L4 N (nI L.length) e c N (nI 0) (lN 0)) (fun r => J r) = _; rw [h2, r_bind]⟩
    · exact Or.inr ⟨h1, by show Option.bind (m_X3_usedColours_L4 N (nI L.length) e c N (nI 0) (lN 0)) (fun r => J r) = _; rw [h2, r_bind]⟩
def cntA (L : List TH) (keep : Bool) : Nat := cq (alK keep) (qs L 0 (rgf L.length 0)) U0
theorem cntA_lt {K : Nat} {L : List TH} (hW : WL K L) (keep : Bool) : cntA L keep < 2 ^ 30 := by
  have h21 := hW.len21
  refine cq_b (qs_ok (fun t ht => ?_)) (Nat.le_trans (qs_len _ _ _) (by rw [rgf_len]; exact h21))
  have il : t < L.length := by have := rgf_mem.mp ht; omega
  have := thn_ok hW il
  exact ⟨by omega, this.1, this.2.1⟩
theorem x_howMany {N K : Nat} {L : List TH} {e c b l g st bes : Nat → Int32} {p0 gr0 : Int32} {keep : Bool} (hN : 1000 ≤ N) (hW : WL K L) (hX : XL L e c) : ∃ b' l' g' p' st' gr' bes', m_X3_howMany N b l g p0 st gr0 bes (nI L.length) e c (bI keep) = some (nI (cntA L keep), b', l', g', p', st', gr', bes') := by
  have c3 := col3 (d := L.length) (t := 0) hW (by omega)
  have ck := cq_keep (keep := keep) (U := U0) c3
  unfold m_X3_howMany
  unfold jn
  rcases x_begin (N := N) (keep := keep) (J := fun (y_1 : Int64) => ((if (lg_cmp y_1 (-1)) = 0 then some (0, b, l, g, p0, st, gr0, bes) else (fun J41 => (if bI keep = 0 then Option.bind (m_X2_allThreads N (nI L.length)) (fun r_13 => (J41 r_13)) else Option.bind (m_X2_coloured N (nI L.length) c 3) (fun r_15 => (J41 r_15)))) (fun (y_2 : Int32) => (Option.bind (m_X3_arrange N b l g p0 st gr0 bes (nI L.length) e y_2) (fun (f_bits_3, f_lesser_4, f_greater_5, f_placed_6, f_stops_7, f_groups_8, f_beside_9) => Option.bind (m_X3_ways N f_bits_3 f_lesser_4 f_greater_5 f_stops_7 f_groups_8 y_1 0 2147483647) (fun r_11 => some (r_11, f_bits_3, f_lesser_4, f_greater_5, f_placed_6, f_stops_7, f_groups_8, f_beside_9))) : Option (Int32 × (Nat → Int32) × (Nat → Int32) × (Nat → Int32) × Int32 × (Nat → Int32) × Int32 × (Nat → Int32))))) : Option (Int32 × (Nat → Int32) × (Nat → Int32) × (Nat → Int32) × Int32 × (Nat → Int32) × Int32 × (Nat → Int32)))) hN hW hX with ⟨h1, u, h2, h3⟩ | ⟨h1, h2⟩
  · rw [h1, if_pos btt] at ck
    obtain ⟨G, b', l', g', st', bes', a1, a2⟩ := x_arrange (N := N) (b := b) (l := l) (g := g) (st := st) (bes := bes) (p0 := p0) (gr0 := gr0) hN hW hX (opm_lt L keep)
    obtain ⟨w, g1, g2, g3⟩ := x_oracle (fx := 0) (t := 0) (d := L.length) (E := 2147483647) hN hW a2 (by decide) (fun i _ _ => by rw [Nat.zero_testBit]; simp) (by omega) h2 (by decide) (by decide)
    refine ⟨b', l', g', nI G.flatten.length, st', nI G.length, bes', Eq.trans h3 ?_⟩
    rw [if_neg (neg1L h2.1)]
    refine Eq.trans (x_open hN hW hX) ?_
    rw [a1, r_bind]
    show Option.bind (m_X3_ways N b' l' g' st' (nI G.length) (lN u) (nI 0) (nI 2147483647)) _ = _
    rw [g1, r_bind]
    have bd := cntA_lt hW keep
    have e1 : cntA L keep = cq allT (barT L keep (rgf L.length 0)) (adU (colT L keep (rgf L.length 0)) U0) := ck
    rw [g2.2.2 (by rw [← e1]; omega), e1]
  · rw [h1, if_neg bff] at ck
    refine ⟨b, l, g, p0, st, gr0, bes, Eq.trans h2 ?_⟩
    rw [if_pos (by decide)]
    have e1 : cntA L keep = 0 := ck
    rw [e1]
    rfl
theorem x_isPaintable {N K : Nat} {L : List TH} {e c b l g st bes : Nat → Int32} {p0 gr0 : Int32} (hN : 1000 ≤ N) (hW : WL K L) (hX : XL L e c) : ∃ b' l' g' p' st' gr' bes', m_X3_isPaintable N b l g p0 st gr0 bes (nI L.length) e = some (if 0 < cntA L false then 1 else 0, b', l', g', p', st', gr', bes') := by
  have c3 := col3 (d := L.length) (t := 0) hW (by omega)
  have ck := cq_keep (keep := false) (U := U0) c3
  have e0 : colT L false (rgf L.length 0) = [] := by
    unfold colT opn
    simp
  rw [e0] at ck
  have e1 : cntA L false = cq allT (barT L false (rgf L.length 0)) U0 := ck
  obtain ⟨G, b', l', g', st', bes', a1, a2⟩ := x_arrange (N := N) (b := b) (l := l) (g := g) (st := st) (bes := bes) (p0 := p0) (gr0 := gr0) hN hW hX (opm_lt L false)
  obtain ⟨w, g1, g2, g3⟩ := x_oracle (fx := 0) (t := 0) (d := L.length) (E := 1) hN hW a2 (by decide) (fun i _ _ => by rw [Nat.zero_testBit]; simp) (by omega) rep_0 (by decide) (by decide)
  refine ⟨b', l', g', nI G.flatten.length, st', nI G.length, bes', ?_⟩
  unfold m_X3_isPaintable
  rw [x_allThreads hW.len21, r_bind]
  have eo : opm L false = 2 ^ L.length - 1 := by unfold opm; rw [if_neg bff]
  rw [← eo, a1, r_bind]
  show Option.bind (m_X3_ways N b' l' g' st' (nI G.length) (lN 0) (nI 0) (nI 1)) _ = _
  have g2' : GW w (cntA L false) 1 := by rw [e1]; exact g2
  rw [g1, r_bind]
  by_cases q : 0 < cntA L false
  · have := g2'.2.1 q
    rw [if_neg (nI_le0 this (by omega)), if_pos q]
  · have : w = 0 := by have := g2'.1; omega
    rw [this, if_pos (show nI 0 ≤ 0 from nI_le (a := 0) (b := 0) (Nat.le_refl _) (by decide)), if_neg q]
end
-- 92.findFirst.lean.txt
section
/-! pure: the class finds the first good painting -/
theorem x_lowest {N K fx u d t : Nat} {V : UC} {L : List TH} {G : List (List Nat)} {b l g st : Nat → Int32} {keep : Bool} (hN : 1000 ≤ N) (hW : WL K L) (h : ARr L (opm L keep) G b l g st) (hfx : fx < 2 ^ 31) (hf : ∀ i, i < L.length → opn keep (thn L i) = true → fx.testBit i = decide (i < t + 1)) (htd : t + 1 + d = L.length) (hu : repU u V) : m_X3_lowestColour N b l g st (nI G.length) (nI (em (fl L) (fh L) t)) (lN u) (nI fx) = some (nI (gcl (fun c => fr3 V (thn L t) c && decide (0 < cq allT (barT L keep (rgf d (t + 1))) (us3 V (thn L t) c))))) := by
  have htl : t < L.length := by omega
  obtain ⟨o1, o2, o3⟩ := thn_ok hW htl
  have lu : u < 2 ^ 64 := Nat.lt_of_lt_of_le hu.1 (p2le (by decide))
  have st1 : ∀ c n, c < 2 → m_X3_lowestColour_L3 N b l g st (nI G.length) (nI (em (fl L) (fh L) t)) (lN u) (nI fx) (n + 1) (nI c) = if (fr3 V (thn L t) c && decide (0 < cq allT (barT L keep (rgf d (t + 1))) (us3 V (thn L t) c))) = true then some (nI c) else m_X3_lowestColour_L3 N b l g st (nI G.length) (nI (em (fl L) (fh L) t)) (lN u) (nI fx) n (nI (c + 1)) := by
    intro c n hc
    have lw : useW (thn L t).1 (thn L t).2.1 c < 2 ^ 64 := Nat.lt_of_lt_of_le (useW_lt (by omega) o2 (by omega)) (p2le (by decide))
    have hfr := used_free (x := thn L t) (c := c) hu (by omega) o2 (by omega)
    have ub : m_X3_usedBy N (nI (em (fl L) (fh L) t)) (nI c) = some (lN (useW (thn L t).1 (thn L t).2.1 c)) := x_usedBy hW.wt htl (by omega)
    rw [m_X3_lowestColour_L3, if_neg (show ¬ (2 : Int32) ≤ nI c from nI_ge (a := c) (b := 2) hc (by decide)), ub, r_bind, nI_1]
    cases fr : fr3 V (thn L t) c with
    | false => rw [if_neg (fun w => by rw [hfr.mp w] at fr; cases fr), Bool.false_and, if_neg bff]
    | true =>
      obtain ⟨w, g1, g2, g3⟩ := x_oracle (fx := fx) (t := t + 1) (d := d) (E := 1) hN hW h hfx hf htd (rep_us hu (by omega) o2 (show c < 3 by omega)) (by decide) (by decide)
      rw [if_pos (hfr.mpr fr), lor _ _ lu lw, Bool.true_and]
      show Option.bind (m_X3_ways N b l g st (nI G.length) (lN (u ||| useW (thn L t).1 (thn L t).2.1 c)) (nI fx) (nI 1)) _ = _
      rw [g1, r_bind]
      by_cases q : 0 < cq allT (barT L keep (rgf d (t + 1))) (us3 V (thn L t) c)
      · have := g2.2.1 q
        rw [if_neg (nI_le0 this (by omega)), if_pos (by simpa using q)]
      · have : w = 0 := by have := g2.1; omega
        rw [this, if_pos (show nI 0 ≤ 0 from nI_le (a := 0) (b := 0) (Nat.le_refl _) (by decide)), if_neg (by simpa using q)]
  obtain ⟨n, rfl⟩ : ∃ m, N = m + 3 := ⟨N - 3, by omega⟩
  unfold m_X3_lowestColour gcl
  refine Eq.trans (st1 0 (n + 2) (by decide)) ?_
  split
  · rfl
  · refine Eq.trans (st1 1 (n + 1) (by decide)) ?_
    split
    · rfl
    · rw [m_X3_lowestColour_L3, if_pos (show (2 : Int32) ≤ nI (1 + 1) by decide)]
      rfl
abbrev F9 : Type := Option (Int32 × (Nat → Int32) × (Nat → Int32) × (Nat → Int32) × Int32 × (Nat → Int32) × Int32 × (Nat → Int32) × (Nat → Int32))
theorem s3_pos {p : Nat → Bool} {q : Nat → Nat} (h : 0 < s3 (fun c => if p c = true then q c else 0)) : ∃ c, c < 3 ∧ p c = true ∧ 0 < q c := by
  unfold s3 at h
  by_cases h0 : p 0 = true ∧ 0 < q 0
  · exact ⟨0, by decide, h0⟩
  · by_cases h1 : p 1 = true ∧ 0 < q 1
    · exact ⟨1, by decide, h1⟩
    · by_cases h2 : p 2 = true ∧ 0 < q 2
      · exact ⟨2, by decide, h2⟩
      · exfalso
        have z : ∀ c, ¬ (p c = true ∧ 0 < q c) → (if p c = true then q c else 0) = 0 := fun c hc => by
          by_cases w : p c = true
          · rw [if_pos w]
            have : ¬ 0 < q c := fun x => hc ⟨w, x⟩
            omega
          · rw [if_neg w]
        have a := z 0 h0
        have b := z 1 h1
        have d := z 2 h2
        dsimp only at h
        omega
theorem gcl_in {p : Nat → Bool} (h : ∃ c, c < 3 ∧ p c = true) : gcl p < 3 ∧ p (gcl p) = true := by
  obtain ⟨c, h1, h2⟩ := h
  unfold gcl
  by_cases a : p 0 = true
  · rw [if_pos a]
    exact ⟨by decide, a⟩
  · rw [if_neg a]
    by_cases b : p 1 = true
    · rw [if_pos b]
      exact ⟨by decide, b⟩
    · rw [if_neg b]
      refine ⟨by decide, ?_⟩
      have : c = 0 ∨ c = 1 ∨ c = 2 := by omega
      rcases this with g | g | g
      · rw [g] at h2; exact absurd h2 a
      · rw [g] at h2; exact absurd h2 b
      · rw [g] at h2; exact h2
theorem gcl_one {p : Nat → Bool} {v : Nat} (hv : v < 3) (h : p v = true) (hn : ∀ c, c ≠ v → p c = false) : gcl p = v := by
  have a := (gcl_in ⟨v, hv, h⟩).2
  by_cases q : gcl p = v
  · exact q
  · rw [hn _ q] at a
    cases a
theorem x_findLoop {N K : Nat} {L : List TH} {G : List (List Nat)} {e c b l g st bes : Nat → Int32} {p0 : Int32} {keep : Bool} (hN : 1000 ≤ N) (hW : WL K L) (hX : XL L e c) (h : ARr L (opm L keep) G b l g st) : ∀ (d t n u fx : Nat) (U : UC) (f : Nat → Int32), t + d = L.length → d < n → repU u (adU (colT L keep (rgf d t)) U) → okC (colT L keep (rgf d t)) U = true → 0 < cq (alK keep) (qs L 0 (rgf d t)) U → fx < 2 ^ 21 → (∀ i, i < L.length → opn keep (thn L i) = true → fx.testBit i = decide (i < t)) → ∃ f', m_X3_findFirst_L66 N (nI L.length) e c (nI (opm L keep)) b l g p0 st (nI G.length) bes n (nI t) (nI fx) (lN u) f = some (1, b, l, g, p0, st, nI G.length, bes, f') ∧ (∀ i, i < t → f' i = f i) ∧ ∀ i v, (gx (alK keep) (qs L 0 (rgf d t)) U)[i]? = some v → f' (t + i) = nI v := by
  have h21 := hW.len21
  have hw := hW.wt
  obtain ⟨hE, hC⟩ := XL_iff.mp hX
  have ol : opm L keep < 2 ^ 31 := Nat.lt_of_lt_of_le (opm_lt L keep) (p2le (by omega))
  intro d
  induction d with
  | zero =>
    intro t n u fx U f ht hn hu hk hq hx hf
    obtain ⟨n, rfl⟩ : ∃ m, n = m + 1 := ⟨n - 1, by omega⟩
    have : t = L.length := by omega
    subst this
    refine ⟨f, ?_, fun _ _ => rfl, fun i v hv => ?_⟩
    · rw [m_X3_findFirst_L66]
      unfold m_X2_threads
      rw [r_bind, if_pos (nI_le (Nat.le_refl _) (by omega))]
    · have : gx (alK keep) (qs L 0 (rgf 0 L.length)) U = [] := rfl
      rw [this] at hv
      simp at hv
  | succ d ih =>
    intro t n u fx U f ht hn hu hk hq hx hf
    obtain ⟨n, rfl⟩ : ∃ m, n = m + 1 := ⟨n - 1, by omega⟩
    have htl : t < L.length := by omega
    obtain ⟨o1, o2, o3⟩ := thn_ok hW htl
    have er : rgf (d + 1) t = t :: rgf d (t + 1) := rfl
    have eq0 : qs L 0 (t :: rgf d (t + 1)) = thn L t :: qs L 0 (rgf d (t + 1)) := qs_take (Nat.zero_testBit t)
    have c3 := col3 (d := d) (t := t + 1) hW (by omega)
    rw [er, eq0] at hq
    rw [er] at hu hk
    rw [er, eq0]
    have pos : 0 < s3 (fun c => if (alK keep (thn L t) c && fr3 U (thn L t) c) = true then cq (alK keep) (qs L 0 (rgf d (t + 1))) (us3 U (thn L t) c) else 0) := hq
    obtain ⟨c0, k1, k2, k3⟩ := s3_pos pos
    have gin := gcl_in (p := fun c => (alK keep (thn L t) c && fr3 U (thn L t) c) && decide (0 < cq (alK keep) (qs L 0 (rgf d (t + 1))) (us3 U (thn L t) c))) ⟨c0, k1, by rw [k2]; simpa using k3⟩
    have el : gx (alK keep) (thn L t :: qs L 0 (rgf d (t + 1))) U = gcl (fun c => (alK keep (thn L t) c && fr3 U (thn L t) c) && decide (0 < cq (alK keep) (qs L 0 (rgf d (t + 1))) (us3 U (thn L t) c))) :: gx (alK keep) (qs L 0 (rgf d (t + 1))) (us3 U (thn L t) (gcl (fun c => (alK keep (thn L t) c && fr3 U (thn L t) c) && decide (0 < cq (alK keep) (qs L 0 (rgf d (t + 1))) (us3 U (thn L t) c))))) := rfl
    rw [el]
    generalize hv : gcl (fun c => (alK keep (thn L t) c && fr3 U (thn L t) c) && decide (0 < cq (alK keep) (qs L 0 (rgf d (t + 1))) (us3 U (thn L t) c))) = v at gin ⊢
    obtain ⟨v3, gin⟩ := gin
    rw [Bool.and_eq_true, Bool.and_eq_true] at gin
    obtain ⟨⟨ga, gf⟩, gq⟩ := gin
    have gq : 0 < cq (alK keep) (qs L 0 (rgf d (t + 1))) (us3 U (thn L t) v) := by simpa using gq
    have fin : ∀ f' : Nat → Int32, (∀ i, i < t + 1 → f' i = upd f t (nI v) i) → (∀ i w, (gx (alK keep) (qs L 0 (rgf d (t + 1))) (us3 U (thn L t) v))[i]? = some w → f' (t + 1 + i) = nI w) → (∀ i, i < t → f' i = f i) ∧ ∀ i w, (v :: gx (alK keep) (qs L 0 (rgf d (t + 1))) (us3 U (thn L t) v))[i]? = some w → f' (t + i) = nI w := by
      intro f' a1 a2
      refine ⟨fun i hi => by rw [a1 i (by omega), upd_n (by omega)], fun i w hw => ?_⟩
      cases i with
      | zero =>
        simp at hw
        rw [Nat.add_zero, a1 t (by omega), upd_s, hw]
      | succ i =>
        rw [show t + (i + 1) = t + 1 + i by omega]
        exact a2 i w (by simpa using hw)
    rw [m_X3_findFirst_L66]
    unfold m_X2_threads
    rw [r_bind, if_neg (nI_ge htl (by omega)), x_colour h21 hC htl, r_bind, m_holds ol (by omega), r_bind, opm_tb htl, nI_1]
    simp only [jn]
    rw [sel]
    cases ho : opn keep (thn L t) with
    | false =>
      have ec : colT L keep (t :: rgf d (t + 1)) = thn L t :: colT L keep (rgf d (t + 1)) := by
        unfold colT
        rw [List.filter_cons, ho]
        rfl
      rw [ec] at hu hk
      have hk' : (fr3 U (thn L t) (thn L t).2.2 && okC (colT L keep (rgf d (t + 1))) (us3 U (thn L t) (thn L t).2.2)) = true := hk
      rw [Bool.and_eq_true] at hk'
      have ev : v = (thn L t).2.2 := by
        unfold opn at ho
        unfold alK at ga
        rw [ho] at ga
        simp at ga
        omega
      rw [if_neg bff, x_put (by omega) (by decide), r_bind, show nI (fc L t) = nI v from by rw [ev]; rfl]
      rw [ev] at gq
      obtain ⟨f', h1, h2, h3⟩ := ih (t + 1) n u fx (us3 U (thn L t) (thn L t).2.2) (upd f t (nI v)) (by omega) (by omega) hu hk'.2 gq hx (fun i hi hoi => by
        rw [hf i hi hoi]
        by_cases w : i = t
        · rw [w, ho] at hoi; cases hoi
        · congr 1
          exact propext ⟨fun _ => by omega, fun _ => by omega⟩)
      rw [← ev] at h3
      obtain ⟨m1, m2⟩ := fin f' h2 h3
      exact ⟨f', h1, m1, m2⟩
    | true =>
      have ec : colT L keep (t :: rgf d (t + 1)) = colT L keep (rgf d (t + 1)) := by
        unfold colT
        rw [List.filter_cons, ho]
        rfl
      rw [ec] at hu hk
      have lw : useW (thn L t).1 (thn L t).2.1 v < 2 ^ 64 := Nat.lt_of_lt_of_le (useW_lt (by omega) o2 v3) (p2le (by decide))
      have lu : u < 2 ^ 64 := Nat.lt_of_lt_of_le hu.1 (p2le (by decide))
      have hx' : fx ||| 2 ^ t < 2 ^ 21 := or_lt hx (p2lt (by omega))
      have hf' : ∀ i, i < L.length → opn keep (thn L i) = true → (fx ||| 2 ^ t).testBit i = decide (i < t + 1) := fun i hi hoi => by
        rw [tb_ins, hf i hi hoi, Bool.eq_iff_iff]
        simp
        omega
      have low := x_lowest (fx := fx ||| 2 ^ t) (t := t) (d := d) hN hW h (by omega) hf' (by omega) hu
      have ce : (fun c => fr3 (adU (colT L keep (rgf d (t + 1))) U) (thn L t) c && decide (0 < cq allT (barT L keep (rgf d (t + 1))) (us3 (adU (colT L keep (rgf d (t + 1))) U) (thn L t) c))) 0 = (fun c => (alK keep (thn L t) c && fr3 U (thn L t) c) && decide (0 < cq (alK keep) (qs L 0 (rgf d (t + 1))) (us3 U (thn L t) c))) 0 := (cond_eq c3 (by decide) ho hk).symm
      have ce1 : (fun c => fr3 (adU (colT L keep (rgf d (t + 1))) U) (thn L t) c && decide (0 < cq allT (barT L keep (rgf d (t + 1))) (us3 (adU (colT L keep (rgf d (t + 1))) U) (thn L t) c))) 1 = (fun c => (alK keep (thn L t) c && fr3 U (thn L t) c) && decide (0 < cq (alK keep) (qs L 0 (rgf d (t + 1))) (us3 U (thn L t) c))) 1 := (cond_eq c3 (by decide) ho hk).symm
      have gg : gcl (fun c => fr3 (adU (colT L keep (rgf d (t + 1))) U) (thn L t) c && decide (0 < cq allT (barT L keep (rgf d (t + 1))) (us3 (adU (colT L keep (rgf d (t + 1))) U) (thn L t) c))) = v := by
        rw [← hv]
        unfold gcl
        rw [ce, ce1]
      rw [gg] at low
      have hk2 : okC (colT L keep (rgf d (t + 1))) (us3 U (thn L t) v) = true := by
        have := cq_keep (keep := keep) (U := us3 U (thn L t) v) c3
        cases w : okC (colT L keep (rgf d (t + 1))) (us3 U (thn L t) v) with
        | true => rfl
        | false =>
          rw [w, if_neg bff] at this
          omega
      have hu2 : repU (u ||| useW (thn L t).1 (thn L t).2.1 v) (adU (colT L keep (rgf d (t + 1))) (us3 U (thn L t) v)) := by
        rw [← adU_us]
        exact rep_us hu (by omega) o2 v3
      have ub : m_X3_usedBy N (nI (em (fl L) (fh L) t)) (nI v) = some (lN (useW (thn L t).1 (thn L t).2.1 v)) := x_usedBy hw htl v3
      rw [if_pos btt, m_bit (by omega), r_bind]
      simp only [nm]
      rw [nor, x_ends h21 hE htl, r_bind, low, r_bind, r_bind, ub, r_bind, lor _ _ lu lw, x_put (by omega) (by decide), r_bind]
      obtain ⟨f', h1, h2, h3⟩ := ih (t + 1) n _ (fx ||| 2 ^ t) (us3 U (thn L t) v) (upd f t (nI v)) (by omega) (by omega) hu2 hk2 gq hx' hf'
      obtain ⟨m1, m2⟩ := fin f' h2 h3
      exact ⟨f', h1, m1, m2⟩
theorem x_findFirst {N K : Nat} {L : List TH} {e c b l g st bes f : Nat → Int32} {p0 gr0 : Int32} {keep : Bool} (hN : 1000 ≤ N) (hW : WL K L) (hX : XL L e c) : ∃ b' l' g' p' st' gr' bes' f', m_X3_findFirst N b l g p0 st gr0 bes f (nI L.length) e c (bI keep) = some (if 0 < cntA L keep then 1 else 0, b', l', g', p', st', gr', bes', f') ∧ (0 < cntA L keep → ∀ i v, (gx (alK keep) (qs L 0 (rgf L.length 0)) U0)[i]? = some v → f' i = nI v) := by
  have h21 := hW.len21
  have c3 := col3 (d := L.length) (t := 0) hW (by omega)
  have ck := cq_keep (keep := keep) (U := U0) c3
  unfold m_X3_findFirst
  unfold jn
  rcases x_begin (N := N) (keep := keep) (J := fun (y_1 : Int64) => ((if (lg_cmp y_1 (-1)) = 0 then some (0, b, l, g, p0, st, gr0, bes, f) else (fun J39 => (if bI keep = 0 then Option.bind (m_X2_allThreads N (nI L.length)) (fun r_40 => (J39 r_40)) else Option.bind (m_X2_coloured N (nI L.length) c 3) (fun r_42 => (J39 r_42)))) (fun (y_2 : Int32) => (Option.bind (m_X3_arrange N b l g p0 st gr0 bes (nI L.length) e y_2) (fun (f_bits_3, f_lesser_4, f_greater_5, f_placed_6, f_stops_7, f_groups_8, f_beside_9) => Option.bind (m_X3_ways N f_bits_3 f_lesser_4 f_greater_5 f_stops_7 f_groups_8 y_1 0 1) (fun r_11 => (if r_11 = 0 then some (0, f_bits_3, f_lesser_4, f_greater_5, f_placed_6, f_stops_7, f_groups_8, f_beside_9, f) else (m_X3_findFirst_L66 N (nI L.length) e c y_2 f_bits_3 f_lesser_4 f_greater_5 f_placed_6 f_stops_7 f_groups_8 f_beside_9 N 0 0 y_1 f)))) : F9))) : F9)) hN hW hX with ⟨h1, u, h2, h3⟩ | ⟨h1, h2⟩
  · rw [h1, if_pos btt] at ck
    obtain ⟨G, b', l', g', st', bes', a1, a2⟩ := x_arrange (N := N) (b := b) (l := l) (g := g) (st := st) (bes := bes) (p0 := p0) (gr0 := gr0) hN hW hX (opm_lt L keep)
    obtain ⟨w, g1, g2, g3⟩ := x_oracle (fx := 0) (t := 0) (d := L.length) (E := 1) hN hW a2 (by decide) (fun i _ _ => by rw [Nat.zero_testBit]; simp) (by omega) h2 (by decide) (by decide)
    have e1 : cntA L keep = cq allT (barT L keep (rgf L.length 0)) (adU (colT L keep (rgf L.length 0)) U0) := ck
    rw [← e1] at g2
    have fin : m_X3_findFirst_L66 N (nI L.length) e c (nI (opm L keep)) b' l' g' (nI G.flatten.length) st' (nI G.length) bes' N 0 0 (lN u) f = m_X3_findFirst_L66 N (nI L.length) e c (nI (opm L keep)) b' l' g' (nI G.flatten.length) st' (nI G.length) bes' N (nI 0) (nI 0) (lN u) f := rfl
    by_cases q : 0 < cntA L keep
    · obtain ⟨f', k1, -, k3⟩ := x_findLoop (p0 := nI G.flatten.length) (bes := bes') hN hW hX a2 L.length 0 N u 0 U0 f (by omega) (by omega) h2 h1 q (by decide) (fun i _ _ => by rw [Nat.zero_testBit]; simp)
      refine ⟨b', l', g', nI G.flatten.length, st', nI G.length, bes', f', Eq.trans h3 ?_, fun _ i v hv => by rw [← k3 i v hv, Nat.zero_add]⟩
      rw [if_neg (neg1L h2.1)]
      refine Eq.trans (x_open hN hW hX) ?_
      rw [a1, r_bind]
      show Option.bind (m_X3_ways N b' l' g' st' (nI G.length) (lN u) (nI 0) (nI 1)) _ = _
      have := g2.2.1 q
      rw [g1, r_bind, if_neg (fun z => by have := (nI_eq0 (by omega)).mp z; omega), if_pos q, fin, k1]
    · refine ⟨b', l', g', nI G.flatten.length, st', nI G.length, bes', f, Eq.trans h3 ?_, fun h => absurd h q⟩
      rw [if_neg (neg1L h2.1)]
      refine Eq.trans (x_open hN hW hX) ?_
      rw [a1, r_bind]
      show Option.bind (m_X3_ways N b' l' g' st' (nI G.length) (lN u) (nI 0) (nI 1)) _ = _
      have : w = 0 := by have := g2.1; omega
      rw [g1, r_bind, this, if_pos (show nI 0 = 0 from rfl), if_neg q]
  · rw [h1, if_neg bff] at ck
    have e1 : cntA L keep = 0 := ck
    refine ⟨b, l, g, p0, st, gr0, bes, f, Eq.trans h2 ?_, fun h => by omega⟩
    rw [if_pos (by decide), e1]
    rfl
end
