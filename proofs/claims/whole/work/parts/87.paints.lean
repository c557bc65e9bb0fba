/-! pure: the reference goes through the good paintings -/
def alK (keep : Bool) (x : TH) (c : Nat) : Bool := !keep || x.2.2 == 3 || x.2.2 == c
/-- what the tries ahead of a thread use -/
def TRr (L : List TH) (tries : Nat → Int32) (t : Nat) (U : UC) : Prop := ∀ k d, d < 3 → (U k d = true ↔ ∃ i, i < t ∧ tries i = nI d ∧ atk k (thn L i) = true)
theorem TRr.agree {L : List TH} {a b : Nat → Int32} {t : Nat} {U : UC} (h : TRr L a t U) (e : ∀ i, i < t → b i = a i) : TRr L b t U := by
  intro k d hd
  rw [h k d hd]
  constructor
  · rintro ⟨i, h1, h2, h3⟩
    exact ⟨i, h1, by rw [e i h1]; exact h2, h3⟩
  · rintro ⟨i, h1, h2, h3⟩
    exact ⟨i, h1, by rw [← e i h1]; exact h2, h3⟩
theorem TRr.take {L : List TH} {a : Nat → Int32} {t c : Nat} {U : UC} (h : TRr L a t U) (hc : c < 3) : TRr L (upd a t (nI c)) (t + 1) (us3 U (thn L t) c) := by
  intro k d hd
  unfold us3
  rw [Bool.or_eq_true, h k d hd, Bool.and_eq_true]
  constructor
  · rintro (⟨i, h1, h2, h3⟩ | ⟨h1, h2⟩)
    · exact ⟨i, by omega, by rw [upd_n (by omega)]; exact h2, h3⟩
    · exact ⟨t, by omega, by rw [upd_s]; simp at h2; rw [h2], h1⟩
  · rintro ⟨i, h1, h2, h3⟩
    by_cases q : i = t
    · subst q
      rw [upd_s] at h2
      have := (nI_eq (by omega) (by omega)).mp h2
      exact Or.inr ⟨h3, by simp; omega⟩
    · rw [upd_n q] at h2
      exact Or.inl ⟨i, by omega, h2, h3⟩
theorem TRr.skip {L : List TH} {a : Nat → Int32} {t : Nat} {U : UC} (h : TRr L a t U) : TRr L (upd a t (nI 4)) (t + 1) U := by
  intro k d hd
  rw [h k d hd]
  constructor
  · rintro ⟨i, h1, h2, h3⟩
    exact ⟨i, by omega, by rw [upd_n (by omega)]; exact h2, h3⟩
  · rintro ⟨i, h1, h2, h3⟩
    by_cases q : i = t
    · subst q
      rw [upd_s] at h2
      have := (nI_eq (a := 4) (b := d) (by omega) (by omega)).mp h2
      omega
    · rw [upd_n q] at h2
      exact ⟨i, by omega, h2, h3⟩
section PM
variable {N K skip t c : Nat} {L : List TH} {s tries first : Nat → Int32} {U : UC} {keep : Bool}
theorem m_may (hN : 1000 ≤ N) (hW : WL K L) (hM : ML K L s) (ht : t < L.length) (hc : c < 3) (hT : TRr L tries t U) : m_X7_may N s tries (nI t) (nI c) = some (if fr3 U (thn L t) c then 1 else 0) := by
  have h21 := hW.len21
  have ms := ML_iff.mp hM
  have st : ∀ n i, i < t → m_X7_may_L2 N s tries (nI t) (nI c) (n + 1) (nI i) = if ((tries i == nI c) && tchp (thn L i) (thn L t)) = true then some 0 else m_X7_may_L2 N s tries (nI t) (nI c) n (nI (i + 1)) := by
    intro n i hi
    rw [m_X7_may_L2, if_neg (nI_ge hi (by omega)), r_ard (by omega) (by omega), nI_1]
    by_cases q : tries i = nI c
    · have b : (tries i == nI c) = true := by simpa using q
      rw [if_pos q, m_touch hW.wt ms (by omega) ht, r_bind, sel, b]
      rfl
    · have b : (tries i == nI c) = false := by simpa using q
      rw [if_neg q, b]
      rfl
  have := for_find (fun n i => m_X7_may_L2 N s tries (nI t) (nI c) n (nI i)) (fun i => (tries i == nI c) && tchp (thn L i) (thn L t)) t (some 0) (some 1) (fun n => by
    show m_X7_may_L2 N s tries (nI t) (nI c) (n + 1) (nI t) = _
    rw [m_X7_may_L2, if_pos (nI_le (Nat.le_refl _) (by omega))]) (fun n i hi hp => by
    show m_X7_may_L2 N s tries (nI t) (nI c) (n + 1) (nI i) = _
    rw [st n i hi, if_pos hp]) (fun n i hi hp => by
    show m_X7_may_L2 N s tries (nI t) (nI c) (n + 1) (nI i) = m_X7_may_L2 N s tries (nI t) (nI c) n (nI (i + 1))
    rw [st n i hi, hp]
    rfl) N (by omega)
  unfold m_X7_may
  refine Eq.trans this ?_
  have e : an (fun i => (tries i == nI c) && tchp (thn L i) (thn L t)) t = !fr3 U (thn L t) c := by
    rw [Bool.eq_iff_iff, an_iff]
    have h1 := hT (thn L t).1 c hc
    have h2 := hT (thn L t).2.1 c hc
    unfold fr3
    constructor
    · rintro ⟨i, g1, g2⟩
      rw [Bool.and_eq_true] at g2
      obtain ⟨g2, g3⟩ := g2
      have g2 : tries i = nI c := by simpa using g2
      unfold tchp at g3
      rw [Bool.or_eq_true] at g3
      rcases g3 with g3 | g3
      · rw [h1.mpr ⟨i, g1, g2, g3⟩]; rfl
      · rw [h2.mpr ⟨i, g1, g2, g3⟩]; simp
    · intro g
      have : U (thn L t).1 c = true ∨ U (thn L t).2.1 c = true := by
        cases q1 : U (thn L t).1 c <;> cases q2 : U (thn L t).2.1 c <;> simp_all
      rcases this with q | q
      · obtain ⟨i, g1, g2, g3⟩ := h1.mp q
        exact ⟨i, g1, by unfold tchp; rw [g3, g2]; simp⟩
      · obtain ⟨i, g1, g2, g3⟩ := h2.mp q
        exact ⟨i, g1, by unfold tchp; rw [g3, g2]; simp⟩
  rw [e]
  cases fr3 U (thn L t) c <;> rfl
def nxc (p : Nat → Bool) : Nat → Nat → Nat
  | 0, c => c
  | k + 1, c => if p c = true then c else nxc p k (c + 1)
def goodC (keep : Bool) (U : UC) (x : TH) (c : Nat) : Bool := alK keep x c && fr3 U x c
theorem m_next1 {y : Int32} (hN : 1000 ≤ N) (hW : WL K L) (hM : ML K L s) (ht : t < L.length) (hT : TRr L tries t U) (hy : y = if keep = true then nI (thn L t).2.2 else 3) (h3 : (thn L t).2.2 ≤ 3) : ∀ k c n, c + k = 3 → k < n → m_X7_nextAt_L49 N s tries (nI t) y n (nI c) = some (nI (nxc (goodC keep U (thn L t)) k c)) := by
  intro k
  induction k with
  | zero =>
    intro c n hc hn
    obtain ⟨n, rfl⟩ : ∃ m, n = m + 1 := ⟨n - 1, by omega⟩
    have : c = 3 := by omega
    subst this
    rw [m_X7_nextAt_L49, if_pos (show (3 : Int32) ≤ nI 3 by decide)]
    rfl
  | succ k ih =>
    intro c n hc hn
    obtain ⟨n, rfl⟩ : ∃ m, n = m + 1 := ⟨n - 1, by omega⟩
    have hc3 : c < 3 := by omega
    have ih' := ih (c + 1) n (by omega) (by omega)
    rw [m_X7_nextAt_L49, if_neg (show ¬ (3 : Int32) ≤ nI c from nI_ge (a := c) (b := 3) hc3 (by decide)), m_may hN hW hM ht hc3 hT, r_bind, sel, nI_1, ih']
    have eg : nxc (goodC keep U (thn L t)) (k + 1) c = if goodC keep U (thn L t) c = true then c else nxc (goodC keep U (thn L t)) k (c + 1) := rfl
    rw [eg]
    have ea : goodC keep U (thn L t) c = (alK keep (thn L t) c && fr3 U (thn L t) c) := rfl
    rw [ea]
    cases fr : fr3 U (thn L t) c with
    | false => rw [if_neg bff, Bool.and_false, if_neg bff]
    | true =>
      rw [if_pos btt, Bool.and_true, hy]
      unfold alK
      cases keep with
      | false =>
        rw [if_neg bff, if_pos rfl]
        rfl
      | true =>
        rw [if_pos btt]
        by_cases q : (thn L t).2.2 = 3
        · rw [if_pos ((nI3 (by omega)).mpr q), q]
          rfl
        · rw [if_neg (fun w => q ((nI3 (by omega)).mp w))]
          by_cases q2 : (thn L t).2.2 = c
          · rw [if_pos (by rw [q2]), if_pos (by simp [q2])]
          · rw [if_neg (fun w => q2 ((nI_eq (by omega) (by omega)).mp w)), if_neg (by simp [q, q2])]
theorem m_nextAt {k : Nat} (hN : 1000 ≤ N) (hW : WL K L) (hM : ML K L s) (ht : t < L.length) (hT : TRr L tries t U) (hs : skip < 2 ^ 31) (hb : skip.testBit t = false) (hv : tries t + 1 = nI c) (hc : c + k = 3) : m_X7_nextAt N s tries (nI t) (bI keep) (nI skip) = some (nI (nxc (goodC keep U (thn L t)) k c)) := by
  have h21 := hW.len21
  obtain ⟨x, hx⟩ := some_of ht
  have ho := hW.2.1 x (List.mem_of_getElem? hx)
  have ex : thn L t = x := getD_some hx
  have key := fun y hy => m_next1 (N := N) (keep := keep) (y := y) hN hW hM ht hT hy (by rw [ex]; exact ho.2.2) k c N hc (by omega)
  unfold m_X7_nextAt
  rw [m_has hs (by omega), r_bind, sel, hb, if_neg bff]
  simp only [jn, nm]
  rw [r_ard (by omega) (by omega), hv]
  cases keep with
  | false =>
    rw [if_pos (show bI false = 0 from rfl)]
    exact key 3 rfl
  | true =>
    rw [if_neg (show ¬ bI true = 0 by decide), ml_2 h21 hM hx, r_bind, r_ard (by omega) (by omega), hv]
    exact key _ (by rw [if_pos btt, ex])
theorem m_nextSkip (ht : t < 22) (hs : skip < 2 ^ 31) (hb : skip.testBit t = true) : m_X7_nextAt N s tries (nI t) (bI keep) (nI skip) = some (if 0 ≤ tries t then 3 else 4) := by
  unfold m_X7_nextAt
  rw [m_has hs (by omega), r_bind, sel, hb, if_pos btt, r_ard (by omega) (by omega)]
  split <;> rfl
theorem m_lays (hN : 1000 ≤ N) (h21 : L.length ≤ 21) (hM : ML K L s) (y : Int32) : ∃ first', m_X7_laysAside N s tries first y = some first' ∧ (y = 0 → first' = first) ∧ (y ≠ 0 → ∀ i, i < L.length → first' i = tries i) := by
  by_cases q : y = 0
  · refine ⟨first, ?_, fun _ => rfl, fun h => absurd q h⟩
    unfold m_X7_laysAside
    obtain ⟨n, rfl⟩ : ∃ m, N = m + 1 := ⟨N - 1, by omega⟩
    rw [m_X7_laysAside_L2, r_1 (by decide), if_pos q]
    split <;> rfl
  · have := for_inv (fun n i (f : Nat → Int32) => m_X7_laysAside_L2 N s tries y n (nI i) f) (fun i f => ∀ j, j < i → f j = tries j) L.length (fun f => some f) (fun n f hP => by
      show m_X7_laysAside_L2 N s tries y (n + 1) (nI L.length) f = _
      rw [m_X7_laysAside_L2, r_1 (by decide), hM.2.1, if_pos (nI_le (Nat.le_refl _) (by omega))]) (fun n i f hi hP => by
      show ∃ f', m_X7_laysAside_L2 N s tries y (n + 1) (nI i) f = m_X7_laysAside_L2 N s tries y n (nI (i + 1)) f' ∧ _
      refine ⟨upd f i (tries i), ?_, fun j hj => ?_⟩
      · rw [m_X7_laysAside_L2, r_1 (by decide), hM.2.1, if_neg (nI_ge hi (by omega)), if_neg q, r_ard (by omega) (by omega), r_awr (by omega) (by omega), nI_clamp (by omega), nI_1]
        rfl
      · by_cases w : j = i
        · rw [w, upd_s]
        · rw [upd_n w]
          exact hP j (by omega)) L.length N 0 first (by omega) (by omega) (fun j hj => absurd hj (Nat.not_lt_zero j))
    obtain ⟨f', h1, h2⟩ := this
    exact ⟨f', h2, fun h => absurd h q, fun _ => h1⟩
end PM
