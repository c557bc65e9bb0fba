/-! the reference lists all covers -/
def cnf (x : Nat) (f : Nat → Nat) (n : Nat) : Nat := sm (fun i => if f i = x then 1 else 0) n
/-- n sets in a row, in order -/
def SRr (n : Nat) (f : Nat → Nat) (sets : Nat → Int32) : Prop := (∀ i, i < n → sets i = nI (f i) ∧ f i < 2 ^ 21) ∧ ∀ i j, i < j → j < n → f i ≤ f j
def insf (k v : Nat) (f : Nat → Nat) : Nat → Nat := fun i => if i < k then f i else if i = k then v else f (i - 1)
theorem insf_cnt (x k v : Nat) (f : Nat → Nat) : ∀ d, cnf x (insf k v f) (k + d + 1) = cnf x f (k + d) + if v = x then 1 else 0 := by
  intro d
  induction d with
  | zero =>
    show sm _ k + (if insf k v f k = x then 1 else 0) = sm _ k + _
    have e1 : insf k v f k = v := by unfold insf; rw [if_neg (by omega), if_pos rfl]
    rw [e1]
    congr 1
    apply sm_cong
    intro i hi
    have : insf k v f i = f i := by unfold insf; rw [if_pos hi]
    rw [this]
  | succ d ih =>
    show cnf x (insf k v f) (k + d + 1) + (if insf k v f (k + d + 1) = x then 1 else 0) = (cnf x f (k + d) + (if f (k + d) = x then 1 else 0)) + _
    have e1 : insf k v f (k + d + 1) = f (k + d) := by unfold insf; rw [if_neg (by omega), if_neg (by omega)]; congr 1
    rw [ih, e1]
    omega
section CM
variable {N K : Nat} {L : List TH} {s : Nat → Int32}
theorem m_stores {n v : Nat} {f : Nat → Nat} {sets : Nat → Int32} (hN : 1000 ≤ N) (h : SRr n f sets) (hn : n < 256) (hv : v < 2 ^ 21) : ∃ f' sets', m_X7_storesCover N (nI n) sets (nI v) = some (nI (n + 1), sets') ∧ SRr (n + 1) f' sets' ∧ ∀ x, cnf x f' (n + 1) = cnf x f n + if v = x then 1 else 0 := by
  obtain ⟨h1, h2⟩ := h
  have loop : ∀ (k m : Nat) (g : Nat → Int32), k ≤ n → k < m → (∀ i, i < k → g i = nI (f i)) → (∀ i, k ≤ i → i < n → g (i + 1) = nI (f i) ∧ v < f i) → ∃ k' g', k' ≤ n ∧ (∀ i, i < k' → g' i = nI (f i) ∧ f i ≤ v) ∧ (∀ i, k' ≤ i → i < n → g' (i + 1) = nI (f i) ∧ v < f i) ∧ ∀ J : Int32 → (Nat → Int32) → Option (Int32 × (Nat → Int32)), m_X7_storesCover_L5 N (nI v) J m (nI k) g = J (nI k') g' := by
    intro k
    induction k with
    | zero =>
      intro m g hk hm g1 g2
      obtain ⟨m, rfl⟩ : ∃ x, m = x + 1 := ⟨m - 1, by omega⟩
      refine ⟨0, g, by omega, fun i hi => absurd hi (Nat.not_lt_zero i), g2, fun J => ?_⟩
      rw [m_X7_storesCover_L5, if_pos (show nI 0 ≤ 0 by decide)]
    | succ k ih =>
      intro m g hk hm g1 g2
      obtain ⟨m, rfl⟩ : ∃ x, m = x + 1 := ⟨m - 1, by omega⟩
      have gk := g1 k (by omega)
      have fk := (h1 k (by omega)).2
      by_cases q : f k ≤ v
      · refine ⟨k + 1, g, hk, fun i hi => ⟨g1 i hi, ?_⟩, g2, fun J => ?_⟩
        · rcases Nat.lt_or_ge i k with w | w
          · exact Nat.le_trans (h2 i k w (by omega)) q
          · rw [show i = k by omega]; exact q
        · rw [m_X7_storesCover_L5, if_neg (nI_le0 (by omega) (by omega)), nI_pred, r_ard (by omega) (by omega), gk, if_pos (nI_le q (by omega))]
      · obtain ⟨k', g', a1, a2, a3, a4⟩ := ih m (upd g (k + 1) (nI (f k))) (by omega) (by omega) (fun i hi => by rw [upd_n (by omega)]; exact g1 i (by omega)) (fun i hi hin => by
          rcases Nat.lt_or_ge k i with w | w
          · rw [upd_n (by omega)]
            exact g2 i (by omega) hin
          · rw [show i = k by omega, upd_s]
            exact ⟨rfl, by omega⟩)
        refine ⟨k', g', a1, a2, a3, fun J => ?_⟩
        rw [m_X7_storesCover_L5, if_neg (nI_le0 (by omega) (by omega)), nI_pred, r_ard (by omega) (by omega), gk, if_neg (nI_ge (by omega) (by omega)), r_ard (by omega) (by omega), gk, r_awr (by omega) (by omega), nI_clamp (by omega)]
        simp only [nm]
        rw [back1]
        exact a4 J
  obtain ⟨k', g', a1, a2, a3, a4⟩ := loop n N sets (Nat.le_refl _) (by omega) (fun i hi => (h1 i hi).1) (fun i h1 h2 => by omega)
  refine ⟨insf k' v f, upd g' k' (nI v), ?_, ⟨fun i hi => ?_, fun i j hij hj => ?_⟩, fun x => ?_⟩
  · unfold m_X7_storesCover
    simp only [jn]
    rw [a4, r_awr (by omega) (by omega), nI_clamp (by omega)]
    simp only [nm]
    rw [nI_1]
  · unfold insf
    rcases Nat.lt_trichotomy i k' with q | q | q
    · rw [upd_n (by omega), if_pos q]
      exact ⟨(a2 i q).1, (h1 i (by omega)).2⟩
    · rw [q, upd_s, if_neg (by omega), if_pos rfl]
      exact ⟨rfl, hv⟩
    · rw [upd_n (by omega), if_neg (by omega), if_neg (by omega)]
      have := a3 (i - 1) (by omega) (by omega)
      rw [show i - 1 + 1 = i by omega] at this
      exact ⟨this.1, (h1 (i - 1) (by omega)).2⟩
  · unfold insf
    rcases Nat.lt_trichotomy i k' with q | q | q
    · rw [if_pos q]
      rcases Nat.lt_trichotomy j k' with w | w | w
      · rw [if_pos w]; exact h2 i j hij (by omega)
      · rw [if_neg (by omega), if_pos w]; exact (a2 i q).2
      · rw [if_neg (by omega), if_neg (by omega)]
        have := a2 i q
        have := a3 (j - 1) (by omega) (by omega)
        omega
    · rw [if_neg (by omega), if_pos q, if_neg (by omega), if_neg (by omega)]
      have := a3 (j - 1) (by omega) (by omega)
      omega
    · rw [if_neg (by omega), if_neg (by omega), if_neg (by omega), if_neg (by omega)]
      exact h2 (i - 1) (j - 1) (by omega) (by omega)
  · have := insf_cnt x k' v f (n - k')
    rw [show k' + (n - k') = n by omega] at this
    exact this
/-- sums from a place on -/
def sG (f : Nat → Nat) : Nat → Nat → Nat
  | 0, _ => 0
  | d + 1, p => f p + sG f d (p + 1)
theorem sG_sm (f : Nat → Nat) : ∀ d p, sm f p + sG f d p = sm f (p + d)
  | 0, p => rfl
  | d + 1, p => by
    have := sG_sm f d (p + 1)
    rw [show p + (d + 1) = p + 1 + d by omega, ← this, sG, sm]
    omega
theorem nx_first {p : Nat → Bool} : ∀ d i, i ≤ nxc p d i ∧ nxc p d i ≤ i + d ∧ (nxc p d i < i + d → p (nxc p d i) = true) ∧ (∀ f : Nat → Nat, (∀ j, p j = false → f j = 0) → (nxc p d i = i + d → sG f d i = 0) ∧ (nxc p d i < i + d → sG f d i = f (nxc p d i) + sG f (i + d - (nxc p d i + 1)) (nxc p d i + 1))) := by
  intro d
  induction d with
  | zero =>
    intro i
    have e : nxc p 0 i = i := rfl
    rw [e]
    exact ⟨Nat.le_refl _, Nat.le_refl _, fun h => by omega, fun f _ => ⟨fun _ => rfl, fun h => by omega⟩⟩
  | succ d ih =>
    intro i
    have e : nxc p (d + 1) i = if p i = true then i else nxc p d (i + 1) := rfl
    rw [e]
    cases w : p i with
    | true =>
      rw [if_pos btt]
      refine ⟨Nat.le_refl _, by omega, fun _ => w, fun f _ => ⟨fun h => by omega, fun _ => ?_⟩⟩
      rw [show i + (d + 1) - (i + 1) = d by omega]
      rfl
    | false =>
      rw [if_neg bff]
      obtain ⟨h1, h2, h3, h4⟩ := ih (i + 1)
      refine ⟨by omega, by omega, fun h => h3 (by omega), fun f hf => ?_⟩
      obtain ⟨h5, h6⟩ := h4 f hf
      have e2 : sG f (d + 1) i = sG f d (i + 1) := by
        show f i + sG f d (i + 1) = _
        rw [hf i w, Nat.zero_add]
      rw [e2]
      refine ⟨fun h => h5 (by omega), fun h => ?_⟩
      rw [h6 (by omega), show i + 1 + d = i + (d + 1) by omega]
theorem m_pick (hN : 1000 ≤ N) (hW : WL K L) (hM : ML K L s) {cov k p : Nat} {x : Int32} (hk : k < 14) (hc : cov < 2 ^ 14) (hck : cov.testBit k = false) (hx : x + 1 = nI p) (hp : p ≤ L.length) : m_X7_nextPick N s x (nI k) (nI cov) = some (nI (nxc (opt (fl L) (fh L) cov k) (L.length - p) p)) := by
  have h21 := hW.len21
  have hS := ML_iff.mp hM
  unfold m_X7_nextPick
  simp only [nm]
  rw [hx]
  have go : ∀ d p n, p + d = L.length → d < n → m_X7_nextPick_L5 N s (nI k) (nI cov) n (nI p) = some (nI (nxc (opt (fl L) (fh L) cov k) d p)) := by
    intro d
    induction d with
    | zero =>
      intro p n h1 h2
      obtain ⟨n, rfl⟩ : ∃ m, n = m + 1 := ⟨n - 1, by omega⟩
      rw [m_X7_nextPick_L5, r_1 (by decide), hM.2.1, if_pos (nI_le (by omega) (by omega))]
      rfl
    | succ d ih =>
      intro p n h1 h2
      obtain ⟨n, rfl⟩ : ∃ m, n = m + 1 := ⟨n - 1, by omega⟩
      have hp : p < L.length := by omega
      have w := hW.wa.2.2.1 p hp
      have w1 : fl L p < fh L p := w.1
      have w2 : fh L p < K := w.2.1
      have hK := hW.1
      have e : nxc (opt (fl L) (fh L) cov k) (d + 1) p = if opt (fl L) (fh L) cov k p = true then p else nxc (opt (fl L) (fh L) cov k) d (p + 1) := rfl
      have ih := ih (p + 1) n (by omega) (by omega)
      rw [m_X7_nextPick_L5, r_1 (by decide), hM.2.1, if_neg (nI_ge hp (by omega)), m_isAt hW.wt hS hp (by omega), r_bind, sel, nI_1, e]
      cases q : isat (fl L) (fh L) p k with
      | false =>
        rw [if_neg bff, if_neg (fun z => by have := (opt_iff.mp z).1; rw [q] at this; cases this)]
        exact ih
      | true =>
        rw [if_pos btt, m_across hW.wt hS hp (by omega), r_bind]
        have al : acr (fl L) (fh L) p k < 14 := by
          unfold acr
          split <;> omega
        rw [m_has (by omega) (by omega), r_bind, sel]
        have key : opt (fl L) (fh L) cov k p = !cov.testBit (acr (fl L) (fh L) p k) := by
          rw [Bool.eq_iff_iff, opt_iff, Bool.not_eq_true', dj_iff]
          unfold isat at q
          simp only [Bool.or_eq_true, beq_iff_eq] at q
          constructor
          · rintro ⟨-, h⟩
            cases z : cov.testBit (acr (fl L) (fh L) p k) with
            | false => rfl
            | true =>
              refine (h _ z ?_).elim
              rw [tb_em w1]
              unfold acr isat
              split <;> simp
          · intro h
            refine ⟨by unfold isat; simp only [Bool.or_eq_true, beq_iff_eq]; exact q, fun j g1 g2 => ?_⟩
            rw [tb_em w1] at g2
            unfold isat at g2
            simp only [Bool.or_eq_true, beq_iff_eq] at g2
            unfold acr at h
            by_cases z : j = k
            · rw [z, hck] at g1
              cases g1
            · have : j = (if fl L p = k then fh L p else fl L p) := by
                split <;> omega
              rw [← this, g1] at h
              cases h
        rw [key]
        cases cov.testBit (acr (fl L) (fh L) p k) with
        | true => rw [if_pos btt]; exact ih
        | false => rw [if_neg bff]; rfl
  exact go (L.length - p) p N (by omega) (by omega)
end CM
