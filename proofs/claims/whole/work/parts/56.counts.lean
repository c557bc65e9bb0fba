-- how many
theorem ct_s (p : Nat → Bool) (n : Nat) : ct p (n + 1) = ct p n + (if p n then 1 else 0) := rfl
theorem nI_le0 {a : Nat} (h : 0 < a) (ha : a < 2 ^ 31) : ¬ nI a ≤ 0 := fun g => nI_ge (a := 0) h ha g
def lacks (T : Nat) (lo hi : Nat → Nat) (k : Nat) : Bool := deg T lo hi k != 3
def fu (K T : Nat) (lo hi : Nat → Nat) (i : Nat) : Bool := decide (0 < K) && !an (lacks T lo hi) i
theorem fu_s (K T : Nat) (lo hi : Nat → Nat) (i : Nat) : fu K T lo hi (i + 1) = (fu K T lo hi i && !lacks T lo hi i) := by
  unfold fu
  rw [show an (lacks T lo hi) (i + 1) = (an (lacks T lo hi) i || lacks T lo hi i) from rfl]
  cases an (lacks T lo hi) i <;> cases lacks T lo hi i <;> simp
theorem m_isFullNet {N K T : Nat} {lo hi co : Nat → Nat} {s : Nat → Int32} (hN : 1000 ≤ N) (hK : K ≤ 14) (hw : wt T lo hi co) (hs : MN K T lo hi co s) : m_X7_isFullNet N s = some (if fu K T lo hi K then 1 else 0) := by
  have hT := hw.1
  have dg : ∀ k, deg T lo hi k ≤ 21 := fun k => Nat.le_trans (ct_le _ _) hT
  unfold m_X7_isFullNet
  rw [r_0 (by decide), hs.1]
  have key : m_X7_isFullNet_L17 N s N (nI 0) (if fu K T lo hi 0 then 1 else 0) = some (if fu K T lo hi K then 1 else 0) := by
    refine for_up (fun n i (acc : Bool) => m_X7_isFullNet_L17 N s n (nI i) (if acc then 1 else 0)) K (fun i => fu K T lo hi i) _ ?_ ?_ K N 0 (by omega) (by omega)
    · intro n
      show m_X7_isFullNet_L17 N s (n + 1) (nI K) (if fu K T lo hi K then 1 else 0) = _
      rw [m_X7_isFullNet_L17, r_0 (by decide), hs.1, if_pos (nI_le (Nat.le_refl _) (by omega)), zb01]
    · intro n i hj
      show m_X7_isFullNet_L17 N s (n + 1) (nI i) (if fu K T lo hi i then 1 else 0) = m_X7_isFullNet_L17 N s n (nI (i + 1)) (if fu K T lo hi (i + 1) then 1 else 0)
      rw [m_X7_isFullNet_L17, r_0 (by decide), hs.1, if_neg (nI_ge hj (by omega)), m_degree hN hw hs (by omega), r_bind, fu_s, nI_1, sel]
      cases fu K T lo hi i with
      | false => simp
      | true =>
        rw [if_pos rfl]
        by_cases q : deg T lo hi i = 3
        · rw [if_pos (by rw [q]; rfl), show lacks T lo hi i = false by unfold lacks; rw [q]; rfl]; rfl
        · rw [if_neg (show ¬ nI (deg T lo hi i) = 3 from fun g => q ((nI_eq (b := 3) (by have := dg i; omega) (by decide)).mp g)), show lacks T lo hi i = true by unfold lacks; simp [q]]; rfl
  rw [← key]
  show (if nI K ≤ 0 then m_X7_isFullNet_L17 N s N 0 0 else m_X7_isFullNet_L17 N s N 0 1) = _
  by_cases q : K = 0
  · have f0 : fu K T lo hi 0 = false := by unfold fu; rw [q]; rfl
    rw [if_pos (show nI K ≤ 0 by rw [q]; decide), f0]; rfl
  · have f1 : fu K T lo hi 0 = true := by unfold fu; rw [decide_eq_true (show 0 < K by omega)]; rfl
    rw [if_neg (nI_le0 (show 0 < K by omega) (by omega)), f1]; rfl
theorem x_isFull {N K T : Nat} {lo hi co : Nat → Nat} {e : Nat → Int32} (hN : 1000 ≤ N) (hw : wf K T lo hi co) (he : XE T lo hi e) : m_X2_isFull N (nI K) (nI T) e = some (if fu K T lo hi K then 1 else 0) := by
  have hK := hw.1
  have key : ∀ (d n i : Nat), i + d = K → d < n → an (lacks T lo hi) i = false → m_X2_isFull_L2 N (nI K) (nI T) e (if nI K ≤ 0 then some 0 else some 1) n (nI i) = some (if fu K T lo hi K then 1 else 0) := by
    intro d
    induction d with
    | zero =>
      intro n i hi' hn hf
      obtain ⟨n, rfl⟩ : ∃ m, n = m + 1 := ⟨n - 1, by omega⟩
      have : i = K := by omega
      subst this
      rw [m_X2_isFull_L2, if_pos (nI_le (Nat.le_refl _) (by omega))]
      unfold fu
      rw [hf]
      by_cases q : i = 0
      · rw [if_pos (show nI i ≤ 0 by rw [q]; decide), q]; rfl
      · rw [if_neg (nI_le0 (show 0 < i by omega) (by omega)), decide_eq_true (show 0 < i by omega)]; rfl
    | succ d ih =>
      intro n i hi' hn hf
      obtain ⟨n, rfl⟩ : ∃ m, n = m + 1 := ⟨n - 1, by omega⟩
      have hj : i < K := by omega
      have d3 := hw.2.2.2.2 i
      rw [m_X2_isFull_L2, if_neg (nI_ge hj (by omega)), x_isFullKnot hN hw.t he (by omega), r_bind]
      by_cases q : deg T lo hi i = 3
      · rw [show (if 3 ≤ deg T lo hi i then (1 : Int32) else 0) = 1 from if_pos (by omega), if_neg (by decide), nI_1]
        refine ih n (i + 1) (by omega) (by omega) ?_
        rw [show an (lacks T lo hi) (i + 1) = (an (lacks T lo hi) i || lacks T lo hi i) from rfl, hf, show lacks T lo hi i = false by unfold lacks; rw [q]; rfl]
        rfl
      · rw [show (if 3 ≤ deg T lo hi i then (1 : Int32) else 0) = 0 from if_neg (by omega), if_pos rfl]
        have : an (lacks T lo hi) K = true := (an_iff _ _).mpr ⟨i, hj, by unfold lacks; simp [q]⟩
        unfold fu
        rw [this]
        simp
  unfold m_X2_isFull jn
  exact key K N 0 (by omega) (by omega) rfl
theorem m_wrongs {N K T : Nat} {lo hi co : Nat → Nat} {s : Nat → Int32} (hN : 1000 ≤ N) (hK : K ≤ 14) (hw : wt T lo hi co) (hs : MN K T lo hi co s) : m_X7_wrongs N s = some (nI (ct (fun k => wr1 lo hi co k T) K)) := by
  unfold m_X7_wrongs
  refine for_up (fun n i acc => m_X7_wrongs_L4 N s n (nI i) (nI acc)) K (fun i => ct (fun k => wr1 lo hi co k T) i) _ ?_ ?_ K N 0 (by omega) (by omega)
  · intro n
    show m_X7_wrongs_L4 N s (n + 1) (nI K) _ = _
    rw [m_X7_wrongs_L4, r_0 (by decide), hs.1, if_pos (nI_le (Nat.le_refl _) (by omega))]
  · intro n i hj
    show m_X7_wrongs_L4 N s (n + 1) (nI i) (nI (ct (fun k => wr1 lo hi co k T) i)) = m_X7_wrongs_L4 N s n (nI (i + 1)) (nI (ct (fun k => wr1 lo hi co k T) (i + 1)))
    rw [m_X7_wrongs_L4, r_0 (by decide), hs.1, if_neg (nI_ge hj (by omega)), m_isWrong hN hw hs (by omega), r_bind, ct_s]
    simp only [nm]
    rw [sel]
    cases wr1 lo hi co i T with
    | false => rw [if_neg (by decide), if_neg (by decide), nI_1, Int32.add_zero]; rfl
    | true => rw [if_pos rfl, if_pos rfl, nI_1, nI_1]
theorem x_wrongs {N K T : Nat} {lo hi co : Nat → Nat} {e c : Nat → Int32} (hN : 1000 ≤ N) (hK : K ≤ 14) (hw : wt T lo hi co) (he : XE T lo hi e) (hc : XC T co c) : m_X2_wrongKnots N (nI K) (nI T) e c = some (nI (ct (fun k => wr1 lo hi co k T) K)) := by
  unfold m_X2_wrongKnots
  refine for_up (fun n i acc => m_X2_wrongKnots_L4 N (nI K) (nI T) e c n (nI i) (nI acc)) K (fun i => ct (fun k => wr1 lo hi co k T) i) _ ?_ ?_ K N 0 (by omega) (by omega)
  · intro n
    show m_X2_wrongKnots_L4 N (nI K) (nI T) e c (n + 1) (nI K) _ = _
    rw [m_X2_wrongKnots_L4, if_pos (nI_le (Nat.le_refl _) (by omega))]
  · intro n i hj
    show m_X2_wrongKnots_L4 N (nI K) (nI T) e c (n + 1) (nI i) (nI (ct (fun k => wr1 lo hi co k T) i)) = m_X2_wrongKnots_L4 N (nI K) (nI T) e c n (nI (i + 1)) (nI (ct (fun k => wr1 lo hi co k T) (i + 1)))
    rw [m_X2_wrongKnots_L4, if_neg (nI_ge hj (by omega)), x_isWrong hN hw he hc (by omega), r_bind, ct_s, sel]
    cases wr1 lo hi co i T with
    | false => rw [if_neg (by decide), if_neg (by decide), nI_1]; rfl
    | true => rw [if_pos rfl, if_pos rfl, nI_1, nI_1]
theorem m_plainOnes {N K T : Nat} {lo hi co : Nat → Nat} {s : Nat → Int32} (hN : 1000 ≤ N) (hw : wt T lo hi co) (hs : MN K T lo hi co s) : m_X7_plainOnes N s = some (nI (ct (fun t => co t == 3) T)) := by
  have hT := hw.1
  unfold m_X7_plainOnes
  refine for_up (fun n i acc => m_X7_plainOnes_L4 N s n (nI i) (nI acc)) T (fun i => ct (fun t => co t == 3) i) _ ?_ ?_ T N 0 (by omega) (by omega)
  · intro n
    show m_X7_plainOnes_L4 N s (n + 1) (nI T) _ = _
    rw [m_X7_plainOnes_L4, r_1 (by decide), hs.2.1, if_pos (nI_le (Nat.le_refl _) (by omega))]
  · intro n i hj
    show m_X7_plainOnes_L4 N s (n + 1) (nI i) (nI (ct (fun t => co t == 3) i)) = m_X7_plainOnes_L4 N s n (nI (i + 1)) (nI (ct (fun t => co t == 3) (i + 1)))
    have h3 := (hw.2 i hj).2.2
    rw [m_X7_plainOnes_L4, r_1 (by decide), hs.2.1, if_neg (nI_ge hj (by omega)), m_of2 hT hs hj, r_bind, ct_s]
    simp only [nm]
    by_cases q : co i = 3
    · rw [if_pos (by rw [q]; rfl), nI_1, nI_1, q]; rfl
    · rw [if_neg (fun g => q ((nI3 (by omega)).mp g)), nI_1, Int32.add_zero, show (co i == 3) = false by simp [q]]; rfl
theorem x_plain {N T : Nat} {co : Nat → Nat} {c : Nat → Int32} (hN : 1000 ≤ N) (hT : T ≤ 21) (hc : XC T co c) (hco : ∀ i, i < T → co i ≤ 3) : Option.bind (m_X2_coloured N (nI T) c 3) (fun r => m_J6_bitCount_0f7a4 N r) = some (nI (ct (fun t => co t == 3) T)) := by
  rw [show (3 : Int32) = nI 3 from rfl, x_coloured hN hT hc (by decide) hco, r_bind]
  have l := bs_lt (fun t => co t == 3) T
  have p := Nat.pow_le_pow_right (show 0 < 2 by decide) hT
  rw [m_bitCount (by omega), pop_bs _ 24 T (by omega)]
