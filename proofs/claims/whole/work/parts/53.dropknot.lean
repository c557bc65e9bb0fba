/-! pure: a knot goes, with its threads -/
theorem t2 {a b : Nat} (h : a < b) (i : Nat) : (2 ^ a + 2 ^ b).testBit i = (a == i || b == i) := tb_em (lo := fun _ => a) (hi := fun _ => b) (t := 0) h i
def rn (k x : Nat) : Nat := if k < x then x - 1 else x
def rnx (k : Nat) (x : TH) : TH := (rn k x.1, rn k x.2.1, x.2.2)
/-- the threads from n - 1 down to 0 that are at a knot go -/
def dropd (k : Nat) : Nat → List TH → List TH
  | 0, L => L
  | n + 1, L => dropd k n (if atk k (L.getD n (0, 0, 0)) then L.eraseIdx n else L)
theorem dropd_eq (k : Nat) : ∀ (n : Nat) (L : List TH), n ≤ L.length → dropd k n L = (L.take n).filter (fun x => !atk k x) ++ L.drop n
  | 0, L, _ => by simp [dropd]
  | n + 1, L, h => by
    obtain ⟨x, hx⟩ := some_of (L := L) (i := n) (by omega)
    have e1 : L.take (n + 1) = L.take n ++ [x] := by rw [List.take_succ, hx]; rfl
    have e2 : L.drop n = x :: L.drop (n + 1) := by
      rw [List.drop_eq_getElem_cons (by omega)]
      rw [List.getElem?_eq_getElem (by omega)] at hx
      rw [Option.some.inj hx]
    rw [dropd, getD_some hx, e1, List.filter_append]
    cases q : atk k x with
    | true =>
      rw [if_pos rfl, List.eraseIdx_eq_take_drop_succ, dropd_eq k n _ (by simp; omega)]
      rw [List.take_left' (by simp; omega), List.drop_left' (by simp; omega)]
      simp [q]
    | false =>
      rw [if_neg (by decide), dropd_eq k n L (by omega), e2]
      simp [q]
theorem dropd_all (k : Nat) (L : List TH) : dropd k L.length L = L.filter (fun x => !atk k x) := by
  rw [dropd_eq k L.length L (Nat.le_refl _), List.take_length, List.drop_length, List.append_nil]
theorem minus1 (n : Nat) : nI (n + 1) - 1 = nI n := nI_pred n
theorem plusm1 (x : Int32) : x + (-1) = x - 1 := (Int32.sub_eq_add_neg x 1).symm
theorem x_dropThreads {N k : Nat} {L0 : List TH} (hN : 1000 ≤ N) (h21 : L0.length ≤ 21) : ∀ (n f : Nat) (L : List TH) (e c : Nat → Int32), n ≤ L.length → L.length ≤ 21 → L.take n = L0.take n → n ≤ L0.length → XL L e c → n < f → ∃ e' c', m_X2_dropThreads_L7 N (nI (bs (fun t => atk k (L0.getD t (0, 0, 0))) L0.length)) f (nI n - 1) (nI L.length) e c = some (nI (dropd k n L).length, e', c') ∧ XL (dropd k n L) e' c' := by
  have lb : bs (fun t => atk k (L0.getD t (0, 0, 0))) L0.length < 2 ^ 31 := Nat.lt_of_lt_of_le (bs_lt _ _) (p2le (by omega))
  intro n
  induction n with
  | zero =>
    intro f L e c h1 h2 h3 h4 hX hf
    obtain ⟨f, rfl⟩ : ∃ m, f = m + 1 := ⟨f - 1, by omega⟩
    refine ⟨e, c, ?_, hX⟩
    rw [m_X2_dropThreads_L7, if_pos (show nI 0 - 1 < 0 by decide)]
    rfl
  | succ n ih =>
    intro f L e c h1 h2 h3 h4 hX hf
    obtain ⟨f, rfl⟩ : ∃ m, f = m + 1 := ⟨f - 1, by omega⟩
    have gn : L.getD n (0, 0, 0) = L0.getD n (0, 0, 0) := by
      have := congrArg (fun l => l[n]?) h3
      simp only [List.getElem?_take, if_pos (Nat.lt_succ_self n)] at this
      rw [List.getD_eq_getElem?_getD, List.getD_eq_getElem?_getD, this]
    have tn : L.take n = L0.take n := by
      have := congrArg (fun l => l.take n) h3
      simpa [List.take_take] using this
    rw [m_X2_dropThreads_L7, minus1, if_neg (nI_pos (by omega)), m_holds lb (by omega), r_bind, sel, tb_bs, decide_eq_true (show n < L0.length by omega), Bool.true_and, dropd, gn, plusm1]
    cases q : atk k (L0.getD n (0, 0, 0)) with
    | false =>
      rw [if_neg (by decide), if_neg (by decide)]
      exact ih f L e c (by omega) h2 tn (by omega) hX (by omega)
    | true =>
      rw [if_pos rfl, if_pos rfl]
      obtain ⟨e1, c1, g1, g2⟩ := x_dropThread (N := N) (t := n) hN h2 hX (by omega)
      rw [g1, r_bind]
      have len : (L.eraseIdx n).length = L.length - 1 := List.length_eraseIdx_of_lt (by omega)
      have := ih f (L.eraseIdx n) e1 c1 (by omega) (by omega) (by rw [List.eraseIdx_eq_take_drop_succ, List.take_left' (by simp; omega)]; exact tn) (by omega) g2 (by omega)
      rw [len] at this
      exact this
theorem m_atk {N K k t : Nat} {L : List TH} {s : Nat → Int32} (hW : WL K L) (hM : ML K L s) (ht : t < L.length) (hk : k < 2 ^ 31) : m_X7_isAt N s (nI t) (nI k) = some (if atk k (L.getD t (0, 0, 0)) then 1 else 0) := m_isAt hW.wt (ML_iff.mp hM) ht hk
theorem m_removeLoop {N K k : Nat} (hN : 1000 ≤ N) (hk : k < 14) (J : (Nat → Int32) → Option (Int32 × (Nat → Int32) × (Nat → Int32) × Int32)) : ∀ (n f : Nat) (L : List TH) (s : Nat → Int32), n ≤ L.length → WL K L → ML K L s → n < f → ∃ s', m_X7_removeKnot_L23 N (nI k) J f (nI n - 1) s = J s' ∧ ML K (dropd k n L) s' := by
  intro n
  induction n with
  | zero =>
    intro f L s h1 hW hM hf
    obtain ⟨f, rfl⟩ : ∃ m, f = m + 1 := ⟨f - 1, by omega⟩
    refine ⟨s, ?_, hM⟩
    rw [m_X7_removeKnot_L23, if_pos (show nI 0 - 1 < 0 by decide)]
  | succ n ih =>
    intro f L s h1 hW hM hf
    obtain ⟨f, rfl⟩ : ∃ m, f = m + 1 := ⟨f - 1, by omega⟩
    have := hW.len21
    rw [m_X7_removeKnot_L23, minus1, if_neg (nI_pos (by omega)), m_atk hW hM (by omega) (by omega), r_bind, sel, dropd, plusm1]
    cases q : atk k (L.getD n (0, 0, 0)) with
    | false =>
      rw [if_neg (by decide), if_neg (by decide)]
      exact ih f L s (by omega) hW hM (by omega)
    | true =>
      rw [if_pos rfl, if_pos rfl]
      obtain ⟨s1, g1, g2⟩ := m_dropThread (N := N) (t := n) hN hW.len21 hM (by omega)
      rw [g1, r_bind]
      have len : (L.eraseIdx n).length = L.length - 1 := List.length_eraseIdx_of_lt (by omega)
      exact ih f (L.eraseIdx n) s1 (by omega) (hW.sub (List.eraseIdx_sublist L n)) g2 (by omega)
/-- the first i threads are renumbered -/
def part (k i : Nat) (L : List TH) : List TH := L.mapIdx (fun j x => if j < i then rnx k x else x)
theorem part_at (k i : Nat) (L : List TH) (j : Nat) : (part k i L)[j]? = L[j]?.map (fun x => if j < i then rnx k x else x) := List.getElem?_mapIdx
theorem part_len (k i : Nat) (L : List TH) : (part k i L).length = L.length := List.length_mapIdx
theorem part_0 (k : Nat) (L : List TH) : part k 0 L = L := by
  apply List.ext_getElem?
  intro j
  rw [part_at]
  cases L[j]? with
  | none => rfl
  | some x => simp
theorem part_all (k : Nat) (L : List TH) : part k L.length L = L.map (rnx k) := by
  apply List.ext_getElem?
  intro j
  rw [part_at, List.getElem?_map]
  cases h : L[j]? with
  | none => rfl
  | some x => simp [lt_of h]
theorem part_set {k i : Nat} {L : List TH} {x : TH} (h : L[i]? = some x) : (part k i L).set i (rnx k x) = part k (i + 1) L := by
  apply List.ext_getElem?
  intro j
  rw [List.getElem?_set, part_at, part_at, part_len]
  by_cases q : i = j
  · subst q
    rw [if_pos rfl, if_pos (lt_of h), h]
    simp
  · rw [if_neg q]
    cases L[j]? with
    | none => rfl
    | some y =>
      simp only [Option.map_some]
      by_cases g : j < i
      · rw [if_pos g, if_pos (by omega)]
      · rw [if_neg g, if_neg (by omega)]
theorem rn_lt {k a b : Nat} (h : a < b) (ha : a ≠ k) (hb : b ≠ k) : rn k a < rn k b := by
  unfold rn
  split <;> split <;> omega
theorem rn_eq {k a b : Nat} (ha : a ≠ k) (hb : b ≠ k) (h : rn k a = rn k b) : a = b := by
  unfold rn at h
  split at h <;> split at h <;> omega
theorem m_dropKnot {N K k : Nat} {L : List TH} {s : Nat → Int32} (hN : 1000 ≤ N) (hT : L.length ≤ 21) (hok : ∀ x ∈ L, okx K x) (hK : K ≤ 14) (hk : k < K) (hno : ∀ x ∈ L, atk k x = false) (hM : ML K L s) : ∃ s', m_X7_dropKnot N s (nI k) = some s' ∧ ML (K - 1) (L.map (rnx k)) s' := by
  have loop : ∀ (d n i : Nat) (s : Nat → Int32), i + d = L.length → d < n → ML (K - 1) (part k i L) s → ∃ s', m_X7_dropKnot_L12 N (nI k) n (nI i) s = some s' ∧ ML (K - 1) (L.map (rnx k)) s' := by
    intro d
    induction d with
    | zero =>
      intro n i s hi hn hM
      obtain ⟨n, rfl⟩ : ∃ m, n = m + 1 := ⟨n - 1, by omega⟩
      have e : i = L.length := by omega
      subst e
      rw [part_all] at hM
      refine ⟨s, ?_, hM⟩
      rw [m_X7_dropKnot_L12, r_1 (by decide), hM.2.1, List.length_map, if_pos (nI_le (Nat.le_refl _) (by omega))]
    | succ d ih =>
      intro n i s hi hn hM
      obtain ⟨n, rfl⟩ : ∃ m, n = m + 1 := ⟨n - 1, by omega⟩
      obtain ⟨x, hx⟩ := some_of (L := L) (i := i) (by omega)
      have hp : (part k i L)[i]? = some x := by rw [part_at, hx]; simp
      obtain ⟨c0, c1, c2⟩ := hM.2.2 i x hp
      have hm := List.mem_of_getElem? hx
      obtain ⟨o1, o2, o3⟩ := hok x hm
      have hn2 := hno x hm
      unfold atk at hn2
      simp at hn2
      have f0 : m_X7_of N s (nI i) 0 = some (nI x.1) := by
        have := m_of (N := N) (s := s) (t := i) (w := 0) (by omega) (by omega)
        rw [show 2 + 3 * i + 0 = 2 + 3 * i from rfl, c0] at this
        exact this
      have f1 : m_X7_of N s (nI i) 1 = some (nI x.2.1) := by
        have := m_of (N := N) (s := s) (t := i) (w := 1) (by omega) (by omega)
        rw [c1] at this
        exact this
      have f2 : m_X7_of N s (nI i) 2 = some (nI x.2.2) := by
        have := m_of (N := N) (s := s) (t := i) (w := 2) (by omega) (by omega)
        rw [c2] at this
        exact this
      have rnE : ∀ a, a < 14 → (if nI a ≤ nI k then nI a else nI a - 1) = nI (rn k a) := by
        intro a ha
        unfold rn
        by_cases q : k < a
        · rw [if_neg (nI_ge q (by omega)), if_pos q, show (1 : Int32) = nI 1 from rfl, pk_sub (by omega)]
        · rw [if_pos (nI_le (by omega) (by omega)), if_neg q]
      rw [m_X7_dropKnot_L12, r_1 (by decide), hM.2.1, part_len, if_neg (nI_ge (by omega) (by omega)), f0, r_bind, f1, r_bind, f2]
      simp only [jn, r_bind]
      have r1 : rn k x.1 < rn k x.2.1 := rn_lt o1 hn2.1 hn2.2
      have r2 : rn k x.2.1 < 14 := by unfold rn; split <;> omega
      have fin : ∃ s', (m_X7_put N s (nI i) (nI (rn k x.1)) (nI (rn k x.2.1)) (nI x.2.2)).bind (fun f => m_X7_dropKnot_L12 N (nI k) n (nI i + 1) f) = some s' ∧ ML (K - 1) (L.map (rnx k)) s' := by
        rw [m_put (by omega) (by omega) (by omega), r_bind, nI_1, Nat.min_eq_left (by omega), Nat.max_eq_right (by omega)]
        have := ML_set (y := rnx k x) hM (t := i) (by rw [part_len]; omega)
        rw [part_set hx] at this
        exact ih n (i + 1) _ (by omega) (by omega) this
      have q1 := rnE x.1 (by omega)
      have q2 := rnE x.2.1 (by omega)
      by_cases h1 : nI x.1 ≤ nI k
      · rw [if_pos h1] at q1 ⊢
        by_cases h2 : nI x.2.1 ≤ nI k
        · rw [if_pos h2] at q2 ⊢
          rw [q1, q2]; exact fin
        · rw [if_neg h2] at q2 ⊢
          rw [q1, q2]; exact fin
      · rw [if_neg h1] at q1 ⊢
        by_cases h2 : nI x.2.1 ≤ nI k
        · rw [if_pos h2] at q2 ⊢
          rw [q1, q2]; exact fin
        · rw [if_neg h2] at q2 ⊢
          rw [q1, q2]; exact fin
  unfold m_X7_dropKnot
  rw [r_0 (by decide), hM.1, show (0 : Int32) = nI 0 from rfl, r_awr (by omega) (by omega), nI_clamp (by omega), show (1 : Int32) = nI 1 from rfl, pk_sub (by omega)]
  simp only [nm]
  exact loop L.length N 0 _ (by omega) (by omega) (by rw [part_0]; exact ML_knots hM)
theorem half_em {a b k : Nat} (h : a < b) (ha : a ≠ k) (hb : b ≠ k) : ((2 ^ a + 2 ^ b) &&& (2 ^ k - 1)) ||| ad ((2 ^ a + 2 ^ b) / 2 ^ 1) (2 ^ k - 1) = 2 ^ rn k a + 2 ^ rn k b := by
  apply Nat.eq_of_testBit_eq
  intro i
  rw [t2 (rn_lt h ha hb), Nat.testBit_or, Nat.testBit_and, tb_ad, tb_all, Nat.pow_one, Nat.testBit_div_two, t2 h, t2 h]
  rw [Bool.eq_iff_iff]
  unfold rn
  simp
  split <;> split <;> omega
theorem ok_wt {K : Nat} {L : List TH} (h21 : L.length ≤ 21) (hK : K ≤ 14) (hok : ∀ x ∈ L, okx K x) : wt L.length (fl L) (fh L) (fc L) := by
  refine ⟨h21, fun i hi => ?_⟩
  obtain ⟨x, hx⟩ := some_of hi
  obtain ⟨o1, o2, o3⟩ := hok x (List.mem_of_getElem? hx)
  unfold fl fh fc
  rw [getD_some hx]
  exact ⟨o1, by omega, o3⟩
theorem x_dropKnot0 {N K k : Nat} {L : List TH} {e c : Nat → Int32} (hN : 1000 ≤ N) (hK : K ≤ 14) (h21 : L.length ≤ 21) (hok : ∀ x ∈ L, okx K x) (hk : k < K) (hX : XL L e c) : ∃ e' c', m_X2_dropKnot N (nI K) (nI L.length) e c (nI k) = some (nI (K - 1), nI ((L.filter (fun x => !atk k x)).map (rnx k)).length, e', c') ∧ XL ((L.filter (fun x => !atk k x)).map (rnx k)) e' c' := by
  have bsE : bs (fun t => isat (fl L) (fh L) t k) L.length = bs (fun t => atk k (L.getD t (0, 0, 0))) L.length := rfl
  obtain ⟨e1, c1, g1, g2⟩ := x_dropThreads (N := N) (k := k) hN h21 L.length N L e c (Nat.le_refl _) h21 rfl (Nat.le_refl _) hX (by omega)
  rw [dropd_all] at g1 g2
  generalize hF : L.filter (fun x => !atk k x) = F at g1 g2
  have hokF : ∀ x ∈ F, okx K x := fun x hx => by rw [← hF, List.mem_filter] at hx; exact hok x hx.1
  have hno : ∀ x ∈ F, atk k x = false := by
    intro x hx
    rw [← hF, List.mem_filter] at hx
    simpa using hx.2
  have hF21 : F.length ≤ 21 := by rw [← hF]; exact Nat.le_trans (List.length_filter_le _ _) h21
  have pk := Nat.two_pow_pos k
  have pk2 := p2le (a := k) (b := 14) (by omega)
  have loop : ∀ (d n i : Nat) (e : Nat → Int32), i + d = F.length → d < n → XL (part k i F) e c1 → ∃ e', m_X2_dropKnot_L30 N (nI F.length) (nI (2 ^ k - 1)) (fun a => some (nI K - 1, nI F.length, a, c1)) n (nI i) e = some (nI K - 1, nI F.length, e', c1) ∧ XL (F.map (rnx k)) e' c1 := by
    intro d
    induction d with
    | zero =>
      intro n i e hi hn hM
      obtain ⟨n, rfl⟩ : ∃ m, n = m + 1 := ⟨n - 1, by omega⟩
      have q : i = F.length := by omega
      subst q
      rw [part_all] at hM
      refine ⟨e, ?_, hM⟩
      rw [m_X2_dropKnot_L30, if_pos (nI_le (Nat.le_refl _) (by omega))]
    | succ d ih =>
      intro n i e hi hn hM
      obtain ⟨n, rfl⟩ : ∃ m, n = m + 1 := ⟨n - 1, by omega⟩
      obtain ⟨x, hx⟩ := some_of (L := F) (i := i) (by omega)
      have hp : (part k i F)[i]? = some x := by rw [part_at, hx]; simp
      have hm := List.mem_of_getElem? hx
      obtain ⟨o1, o2, o3⟩ := hokF x hm
      have hn2 := hno x hm
      unfold atk at hn2
      simp at hn2
      have lE : 2 ^ x.1 + 2 ^ x.2.1 < 2 ^ 14 := em_lt (lo := fun _ => x.1) (hi := fun _ => x.2.1) (t := 0) o1 (by omega)
      have hend : m_X2_ends N e (nI i) = some (nI (2 ^ x.1 + 2 ^ x.2.1)) := by
        unfold m_X2_ends
        rw [x_at (by omega) (by decide), r_bind, (hM i x hp).1]
      rw [m_X2_dropKnot_L30, if_neg (nI_ge (by omega) (by omega)), hend, r_bind, x_put (by omega) (by decide), r_bind, nI_1, nand, show sr (nI (2 ^ x.1 + 2 ^ x.2.1)) 1 = nI ((2 ^ x.1 + 2 ^ x.2.1) / 2 ^ 1) from sr_N (j := 1) (by omega) (by omega), nandn, nor, half_em o1 hn2.1 hn2.2]
      have := XL_set (y := rnx k x) (v := nI (2 ^ rn k x.1 + 2 ^ rn k x.2.1)) hM (t := i) (by rw [part_len]; omega) rfl (fun y hy => by rw [hp] at hy; cases hy; rfl)
      rw [part_set hx] at this
      exact ih n (i + 1) _ (by omega) (by omega) this
  obtain ⟨e2, l1, l2⟩ := loop F.length N 0 e1 (by omega) (by omega) (by rw [part_0]; exact g2)
  refine ⟨e2, c1, ?_, by exact l2⟩
  unfold m_X2_dropKnot
  have hXE := XL_iff.mp hX
  rw [x_hasKnot (by omega), r_bind, if_pos (show ∃ i, i < K ∧ nI k = nI i from ⟨k, hk, rfl⟩), if_neg (by decide), m_bit (by omega), r_bind, x_threadsAt1 hN (ok_wt h21 hK hok) hXE.1 (by omega), r_bind, bsE]
  unfold m_X2_dropThreads
  simp only [nm, jn]
  rw [g1]
  simp only [r_bind]
  rw [show (1 : Int32) = nI 1 from rfl, pk_sub (by omega)]
  refine l1.trans ?_
  rw [List.length_map, show (1 : Int32) = nI 1 from rfl, pk_sub (by omega)]
theorem x_dropKnot {N K k : Nat} {L : List TH} {e c : Nat → Int32} (hN : 1000 ≤ N) (hW : WL K L) (hk : k < K) (hX : XL L e c) : ∃ e' c', m_X2_dropKnot N (nI K) (nI L.length) e c (nI k) = some (nI (K - 1), nI ((L.filter (fun x => !atk k x)).map (rnx k)).length, e', c') ∧ XL ((L.filter (fun x => !atk k x)).map (rnx k)) e' c' := x_dropKnot0 hN hW.1 hW.len21 hW.2.1 hk hX
theorem WL.drop {K k : Nat} {L : List TH} (h : WL K L) (hk : k < K) : WL (K - 1) ((L.filter (fun x => !atk k x)).map (rnx k)) := by
  have hW := h.sub (List.filter_sublist (p := fun x => !atk k x) (l := L))
  have hno : ∀ x ∈ L.filter (fun x => !atk k x), x.1 ≠ k ∧ x.2.1 ≠ k := by
    intro x hx
    have := (List.mem_filter.mp hx).2
    unfold atk at this
    simpa using this
  generalize L.filter (fun x => !atk k x) = F at hW hno
  refine ⟨by have := h.1; omega, fun y hy => ?_, ?_, fun j => ?_⟩
  · obtain ⟨x, hx, rfl⟩ := List.mem_map.mp hy
    obtain ⟨o1, o2, o3⟩ := hW.2.1 x hx
    obtain ⟨n1, n2⟩ := hno x hx
    refine ⟨rn_lt o1 n1 n2, ?_, o3⟩
    show rn k x.2.1 < K - 1
    unfold rn
    split <;> omega
  · rw [List.pairwise_map]
    refine List.Pairwise.imp_of_mem (fun {x y} hx hy hxy => ?_) hW.2.2.1
    intro q
    exact hxy ⟨rn_eq (hno x hx).1 (hno y hy).1 q.1, rn_eq (hno x hx).2 (hno y hy).2 q.2⟩
  · rw [List.countP_map]
    have : F.countP (atk j ∘ rnx k) = F.countP (atk (if j < k then j else j + 1)) := by
      apply List.countP_congr
      intro x hx
      obtain ⟨n1, n2⟩ := hno x hx
      unfold atk rnx rn
      simp
      split <;> split <;> split <;> omega
    rw [this]
    exact hW.2.2.2 _
