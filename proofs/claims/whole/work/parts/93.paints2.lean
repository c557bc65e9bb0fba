/-! pure: the reference's two ways to count good paintings -/
def NB : Nat := 5 ^ 40
theorem NB_le {N : Nat} (h : NB ≤ N) : 1000 ≤ N := Nat.le_trans (show 1000 ≤ 5 ^ 40 by decide +kernel) h
theorem w_0 {β : Type} {n : Nat} {k : Option β} (h : 0 < n) : awr n 0 k = k := r_awr (i := 0) h (by decide)
theorem cl_0 : Int32.toNatClampNeg 0 = 0 := nI_clamp (n := 0) (by decide)
theorem TRr0 (L : List TH) (f : Nat → Int32) : TRr L f 0 U0 := fun _ _ _ => ⟨fun h => (bff h).elim, fun ⟨i, hi, _⟩ => absurd hi (Nat.not_lt_zero i)⟩
theorem cqA_lt {K skip : Nat} {L : List TH} (hW : WL K L) (keep : Bool) : cq (alK keep) (qs L skip (rgf L.length 0)) U0 < 2 ^ 30 := by
  have h21 := hW.len21
  refine cq_b (qs_ok (fun t ht => ?_)) (Nat.le_trans (qs_len _ _ _) (by rw [rgf_len]; exact h21))
  have il : t < L.length := by have := rgf_mem.mp ht; omega
  have := thn_ok hW il
  exact ⟨by omega, this.1, this.2.1⟩
theorem fuel {N used d : Nat} (hN : NB ≤ N) (h : used ≤ 5 ^ (d + 1)) (hd : d ≤ 21) : ∃ m, N - used = m + 1 ∧ N - used + used = N := by
  have hu : used ≤ 5 ^ 22 := Nat.le_trans h (Nat.pow_le_pow_right (by decide) (by omega))
  have hlt : 5 ^ 22 < N := Nat.lt_of_lt_of_le (show 5 ^ 22 < 5 ^ 40 by decide +kernel) hN
  exact ⟨N - used - 1, by omega, by omega⟩
theorem m_paintsA {N K skip : Nat} {L : List TH} {s tries first : Nat → Int32} {keep : Bool} (hN : NB ≤ N) (hW : WL K L) (hM : ML K L s) (hs : skip < 2 ^ 31) : ∃ tries' first', m_X7_paints N s tries first (bI keep) (nI skip) (bI false) = some (nI (cq (alK keep) (qs L skip (rgf L.length 0)) U0), tries', first') := by
  obtain ⟨used, tr, f, h1, -, h3⟩ := dfsA (keep := keep) (NB_le hN) hW hM hs L.length 0 U0 (upd tries 0 (-1)) first 0 (by omega) (TRr0 L _) upd_s (by have := cqA_lt (skip := skip) hW keep; omega)
  obtain ⟨m, hm, hn⟩ := fuel hN h1 hW.len21
  have g := h3 (N - used)
  rw [hn, hm, p_neg (show nI 0 + -1 < 0 by decide), Nat.zero_add] at g
  refine ⟨tr, f, ?_⟩
  unfold m_X7_paints
  rw [w_0 (by decide), cl_0]
  exact g
theorem m_paintsB {N K skip : Nat} {L : List TH} {s tries first : Nat → Int32} {keep : Bool} (hN : NB ≤ N) (hW : WL K L) (hM : ML K L s) (hs : skip < 2 ^ 31) : ∃ tries' first', m_X7_paints N s tries first (bI keep) (nI skip) (bI true) = some (if 0 < cq (alK keep) (qs L skip (rgf L.length 0)) U0 then 1 else 0, tries', first') ∧ (0 < cq (alK keep) (qs L skip (rgf L.length 0)) U0 → skip = 0 → ∀ i c, (gx (alK keep) (qs L 0 (rgf L.length 0)) U0)[i]? = some c → first' i = nI c) := by
  obtain ⟨used, h1, h2⟩ := dfsB (keep := keep) (NB_le hN) hW hM hs L.length 0 U0 (upd tries 0 (-1)) first (by omega) (TRr0 L _) upd_s
  obtain ⟨m, hm, hn⟩ := fuel hN h1 hW.len21
  rcases h2 with ⟨q0, tr, -, g⟩ | ⟨q0, tr, f, g, gg⟩
  · have g := g (N - used)
    rw [hn, hm, p_neg (show nI 0 + -1 < 0 by decide)] at g
    refine ⟨tr, first, ?_, fun h => by omega⟩
    unfold m_X7_paints
    rw [w_0 (by decide), cl_0, if_neg (by omega)]
    exact g
  · have g := g (N - used)
    rw [hn] at g
    refine ⟨tr, f, ?_, fun _ h0 i c hc => by rw [← (gg h0).2 i c hc, Nat.zero_add]⟩
    unfold m_X7_paints
    rw [w_0 (by decide), cl_0, if_pos q0]
    exact g
