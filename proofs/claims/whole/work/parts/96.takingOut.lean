/-! both classes: takingOut -/
def okS (L : List TH) (set : Nat) : Bool := decide (0 < cq (alK false) (qs L set (rgf L.length 0)) U0)
def fnd (good : Nat → Bool) (B : Nat) : Nat → Nat → Option Nat
  | 0, _ => none
  | n + 1, s => if s < B then (if good s = true then some s else fnd good B n (nx s)) else none
theorem x_test {N K skip : Nat} {L : List TH} {G : List (List Nat)} {b l g st : Nat → Int32} (hN : 1000 ≤ N) (hW : WL K L) (h : ARr L (2 ^ L.length - 1) G b l g st) (hs : skip < 2 ^ 31) : ∃ w, m_X3_ways N b l g st (nI G.length) 0 (nI skip) 1 = some (nI w) ∧ w < 2 ^ 30 ∧ (0 < w ↔ okS L skip = true) := by
  have eo : opm L false = 2 ^ L.length - 1 := by unfold opm; rw [if_neg bff]
  rw [← eo] at h
  have hok := h.ok hW
  obtain ⟨h1, h2, h3, h4, h5, h6, h7⟩ := h
  obtain ⟨w, g1, g2, g3⟩ := x_ways (E := 1) hN h1 h2 h3 hok hs rep_0 (by decide) (by decide) h4 h5
  refine ⟨w, g1, g3, ?_⟩
  have pm : (qs L skip G.flatten).Perm (qs L skip (rgf L.length 0)) := by
    unfold qs
    refine List.Perm.map _ (List.Perm.filter _ ?_)
    rw [List.perm_ext_iff_of_nodup h6 rgf_nodup]
    intro i
    rw [← h7 i, eo, tb_all, rgf_mem]
    simp
  have ec : cq allT (qs L skip G.flatten) U0 = cq (alK false) (qs L skip (rgf L.length 0)) U0 := by
    rw [cq_perm _ pm]
    exact cq_cong (fun _ _ _ _ _ => rfl) (fun _ _ _ _ => rfl)
  have g2' : GW w (cq (alK false) (qs L skip (rgf L.length 0)) U0) 1 := by rw [← ec]; exact g2
  unfold okS
  rw [decide_eq_true_iff]
  exact ⟨fun q => Nat.lt_of_lt_of_le q g2'.1, g2'.2.1⟩
section TO
abbrev R8 : Type := Option (Int32 × (Nat → Int32) × (Nat → Int32) × (Nat → Int32) × Int32 × (Nat → Int32) × Int32 × (Nat → Int32))
variable {N K : Nat} {L : List TH} {G : List (List Nat)} {b l g st bes s : Nat → Int32} {p : Int32}
theorem all_lt {T s : Nat} (hT : T ≤ 21) (h : s < 2 ^ 31) : nI (2 ^ T - 1) < nI s ↔ 2 ^ T ≤ s := by
  have a := p2le hT
  have p0 : 0 < 2 ^ T := Nat.two_pow_pos T
  rw [nI_ltI (by omega) h]
  omega
theorem x_inner (hN : NB ≤ N) (hW : WL K L) (h : ARr L (2 ^ L.length - 1) G b l g st) {J : R8} : ∀ (d s t n : Nat), 2 ^ L.length ≤ s + d → d < n → t ≤ s → 0 < s → s < 2 ^ 22 → m_X3_firstLeastSet_L32 N (nI (2 ^ L.length - 1)) b l g p st (nI G.length) bes J J n (nI t) (nI s) = match fnd (okS L) (2 ^ L.length) d s with | some r => some (nI r, b, l, g, p, st, nI G.length, bes) | none => J := by
  have h21 := hW.len21
  have a := p2le h21
  intro d
  induction d with
  | zero =>
    intro s t n hd hn ht h0 hs
    obtain ⟨n, rfl⟩ : ∃ m, n = m + 1 := ⟨n - 1, by omega⟩
    rw [m_X3_firstLeastSet_L32]
    by_cases q : (2097152 : Int32) ≤ nI t
    · rw [if_pos q]; rfl
    · rw [if_neg q, if_pos ((all_lt h21 (by omega)).mpr (by omega))]; rfl
  | succ d ih =>
    intro s t n hd hn ht h0 hs
    obtain ⟨n, rfl⟩ : ∃ m, n = m + 1 := ⟨n - 1, by omega⟩
    rw [m_X3_firstLeastSet_L32]
    by_cases q : s < 2 ^ L.length
    · have ef : fnd (okS L) (2 ^ L.length) (d + 1) s = if okS L s = true then some s else fnd (okS L) (2 ^ L.length) d (nx s) := by
        show (if s < 2 ^ L.length then _ else _) = _
        rw [if_pos q]
      obtain ⟨w, g1, g2, g3⟩ := x_test (N := N) (skip := s) (NB_le hN) hW h (by omega)
      rw [ef, if_neg (show ¬ (2097152 : Int32) ≤ nI t from nI_ge (b := 2097152) (by omega) (by decide)), if_neg (fun z => by have := (all_lt h21 (by omega)).mp z; omega), g1, r_bind]
      obtain ⟨-, -, -, f1, f2⟩ := nx_facts (show s < 2 ^ 21 by omega) h0
      by_cases qw : 0 < w
      · rw [if_neg (nI_le0 qw (by omega)), if_pos (g3.mp qw)]
      · have w0 : w = 0 := by omega
        rw [w0, if_pos (show nI 0 ≤ 0 from nI_le (a := 0) (b := 0) (Nat.le_refl _) (by decide)), if_neg (fun z => by have := (nI_eq0 (by omega)).mp z; omega), x_next (by omega) h0, r_bind, nI_1, if_neg (fun z => qw (g3.mpr z))]
        exact ih (nx s) (t + 1) n (by omega) (by omega) (by omega) (by omega) f2
    · have ef : fnd (okS L) (2 ^ L.length) (d + 1) s = none := by
        show (if s < 2 ^ L.length then _ else _) = _
        rw [if_neg q]
      rw [ef]
      by_cases q : (2097152 : Int32) ≤ nI t
      · rw [if_pos q]
      · rw [if_neg q, if_pos ((all_lt h21 (by omega)).mpr (by omega))]
theorem m_enoughL (hN : NB ≤ N) (hW : WL K L) (hM : ML K L s) : ∀ (d v n : Nat) (tries first : Nat → Int32), 2 ^ L.length ≤ v + d → d < n → 0 < v → v < 2 ^ 22 → ∃ tries' first', m_X7_enough_L6 N s n (nI v) tries first = some (match fnd (okS L) (2 ^ L.length) d v with | some r => nI r | none => -5, tries', first') := by
  have h21 := hW.len21
  have a := p2le h21
  have hs1 : s 1 = nI L.length := hM.2.1
  intro d
  induction d with
  | zero =>
    intro v n tries first hd hn h0 hs
    obtain ⟨n, rfl⟩ : ∃ m, n = m + 1 := ⟨n - 1, by omega⟩
    refine ⟨tries, first, ?_⟩
    rw [m_X7_enough_L6, r_1 (by decide), hs1, sh1 (by omega), if_pos (nI_le (by omega) (by omega))]
    rfl
  | succ d ih =>
    intro v n tries first hd hn h0 hs
    obtain ⟨n, rfl⟩ : ∃ m, n = m + 1 := ⟨n - 1, by omega⟩
    by_cases q : v < 2 ^ L.length
    · have ef : fnd (okS L) (2 ^ L.length) (d + 1) v = if okS L v = true then some v else fnd (okS L) (2 ^ L.length) d (nx v) := by
        show (if v < 2 ^ L.length then _ else _) = _
        rw [if_pos q]
      obtain ⟨t', f', h3, -⟩ := m_paintsB (tries := tries) (first := first) (keep := false) (skip := v) hN hW hM (by omega)
      have e2 : m_X7_paints N s tries first 0 (nI v) 1 = m_X7_paints N s tries first (bI false) (nI v) (bI true) := rfl
      rw [m_X7_enough_L6, r_1 (by decide), hs1, sh1 (by omega), if_neg (nI_ge q (by omega)), e2, h3, r_bind, ef]
      obtain ⟨-, -, -, f1, f2⟩ := nx_facts (show v < 2 ^ 21 by omega) h0
      by_cases qw : 0 < cq (alK false) (qs L v (rgf L.length 0)) U0
      · refine ⟨t', f', ?_⟩
        rw [if_pos qw, if_pos (show okS L v = true from decide_eq_true qw)]
        rfl
      · obtain ⟨t2, f3, h4⟩ := ih (nx v) n t' f' (by omega) (by omega) (by omega) f2
        refine ⟨t2, f3, ?_⟩
        rw [if_neg qw, if_neg (show ¬ okS L v = true from fun z => qw (of_decide_eq_true z))]
        show (if (0 : Int32) ≤ 0 then _ else _) = _
        rw [if_pos (by decide)]
        obtain ⟨k1, k2⟩ := m_next (show v < 2 ^ 21 by omega) h0
        simp only [nm]
        rw [low_of (by omega) h0]
        unfold dvz
        rw [if_neg k1, k2]
        exact h4
    · have ef : fnd (okS L) (2 ^ L.length) (d + 1) v = none := by
        show (if v < 2 ^ L.length then _ else _) = _
        rw [if_neg q]
      refine ⟨tries, first, ?_⟩
      rw [m_X7_enough_L6, r_1 (by decide), hs1, sh1 (by omega), if_pos (nI_le (by omega) (by omega)), ef]
/-- what comes of all sizes from one on -/
def sch (good : Nat → Bool) (T : Nat) : Nat → Nat → Nat
  | 0, _ => 2 ^ T - 1
  | d + 1, size => match fnd good (2 ^ T) (2 ^ T) (2 ^ size - 1) with | some r => r | none => sch good T d (size + 1)
theorem fnd_more (good : Nat → Bool) (B : Nat) : ∀ (d e s : Nat), B ≤ s + d → B ≤ s + e → 0 < s → B ≤ 2 ^ 21 → fnd good B d s = fnd good B e s := by
  intro d
  induction d with
  | zero =>
    intro e s h1 h2 h0 hB
    cases e with
    | zero => rfl
    | succ e => show none = if s < B then _ else none; rw [if_neg (by omega)]
  | succ d ih =>
    intro e s h1 h2 h0 hB
    cases e with
    | zero => show (if s < B then _ else none) = none; rw [if_neg (by omega)]
    | succ e =>
      show (if s < B then (if good s = true then some s else fnd good B d (nx s)) else none) = if s < B then (if good s = true then some s else fnd good B e (nx s)) else none
      by_cases q : s < B
      · obtain ⟨-, -, -, f1, f2⟩ := nx_facts (show s < 2 ^ 21 by omega) h0
        rw [ih e (nx s) (by omega) (by omega) (by omega) hB]
      · rw [if_neg q, if_neg q]
theorem pw1 {n : Nat} (h : 0 < n) : 0 < 2 ^ n - 1 := by
  have := p2le (show 1 ≤ n by omega)
  omega
theorem x_sizes (hN : NB ≤ N) (hW : WL K L) (h : ARr L (2 ^ L.length - 1) G b l g st) : ∀ (d z n : Nat), z + d = L.length → 0 < z → d < n → m_X3_firstLeastSet_L13 N (nI L.length) (nI (2 ^ L.length - 1)) b l g p st (nI G.length) bes n (nI z) = some (nI (sch (okS L) L.length d z), b, l, g, p, st, nI G.length, bes) := by
  have h21 := hW.len21
  have a := p2le h21
  have big : 2 ^ 22 < N := Nat.lt_of_lt_of_le (show 2 ^ 22 < 5 ^ 40 by decide +kernel) hN
  intro d
  induction d with
  | zero =>
    intro z n hz h0 hn
    obtain ⟨n, rfl⟩ : ∃ m, n = m + 1 := ⟨n - 1, by omega⟩
    rw [m_X3_firstLeastSet_L13]
    show Option.bind (some (nI L.length)) _ = _
    rw [r_bind, if_pos (nI_le (by omega) (by omega))]
    rfl
  | succ d ih =>
    intro z n hz h0 hn
    obtain ⟨n, rfl⟩ : ∃ m, n = m + 1 := ⟨n - 1, by omega⟩
    have pz := p2le (show z ≤ 21 by omega)
    have pz2 := Nat.two_pow_pos z
    rw [m_X3_firstLeastSet_L13]
    show Option.bind (some (nI L.length)) _ = _
    rw [r_bind, if_neg (nI_ge (by omega) (by omega)), m_bit (by omega), r_bind]
    simp only [nm, jn]
    have ihz := ih (z + 1) n (by omega) (by omega) (by omega)
    rw [nI_m1 pz2, nI_1, ihz]
    have := x_inner (p := p) (bes := bes) hN hW h (J := some (nI (sch (okS L) L.length d (z + 1)), b, l, g, p, st, nI G.length, bes)) (2 ^ L.length) (2 ^ z - 1) 0 N (by omega) (by omega) (by omega) (pw1 h0) (by omega)
    refine Eq.trans this ?_
    show _ = some (nI (match fnd (okS L) (2 ^ L.length) (2 ^ L.length) (2 ^ z - 1) with | some r => r | none => sch (okS L) L.length d (z + 1)), b, l, g, p, st, nI G.length, bes)
    cases fnd (okS L) (2 ^ L.length) (2 ^ L.length) (2 ^ z - 1) <;> rfl
end TO
