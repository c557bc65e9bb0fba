/-! the class lists all covers -/
def FDr (Z : List Nat) (f : Nat → Int32) : Prop := ∀ i v, Z[i]? = some v → f i = nI v
theorem FDr.app {Z : List Nat} {f : Nat → Int32} {v : Nat} (h : FDr Z f) : FDr (Z ++ [v]) (upd f Z.length (nI v)) := by
  intro i w hw
  rcases nat_app Z v i w hw with q | ⟨q, e⟩
  · have := nat_lt q
    rw [upd_n (by omega)]
    exact h i w q
  · rw [q, upd_s, e]
section CX
variable {N K : Nat} {L : List TH} {e c : Nat → Int32}
theorem x_addCover {Z : List Nat} {f : Nat → Int32} {v : Nat} (h : FDr Z f) (hz : Z.length < 80) : m_X0_addCover N f (nI Z.length) (nI v) = some (upd f Z.length (nI v), nI (Z ++ [v]).length) := by
  unfold m_X0_addCover
  rw [if_neg (show ¬ (80 : Int32) ≤ nI Z.length from nI_ge (b := 80) hz (by decide)), x_put hz (by decide), r_bind]
  simp only [nm]
  rw [nI_1, List.length_append]
  rfl
theorem pm1 (n : Nat) : nI (n + 1) - 1 = nI n := nI_pred n
theorem allK {K : Nat} (hK : K ≤ 14) : 2 ^ K - 1 < 2 ^ 14 := by
  have := p2le hK
  have := Nat.two_pow_pos K
  omega
/-- bits of the union of the first threads' ends -/
theorem tops_in (hW : WL K L) {n : Nat} (hn : n ≤ L.length) : ∀ j, (oa (em (fl L) (fh L)) n).testBit j = true → (2 ^ K - 1).testBit j = true := by
  intro j hj
  rw [tb_oa, an_iff] at hj
  obtain ⟨t, ht, hj⟩ := hj
  have w := hW.wa.2.2.1 t (by show t < L.length; omega)
  have w1 : fl L t < fh L t := w.1
  rw [tb_em w1] at hj
  rw [tb_all]
  exact decide_eq_true (isat_lt w1 w.2.1 hj)
theorem or_all {a b : Nat} (h : ∀ j, a.testBit j = true → b.testBit j = true) : a = b ∨ ∃ j, b.testBit j = true ∧ a.testBit j = false := by
  by_cases q : ∃ j, b.testBit j = true ∧ a.testBit j = false
  · exact Or.inr q
  · left
    apply Nat.eq_of_testBit_eq
    intro j
    cases w : a.testBit j with
    | true => rw [h j w]
    | false =>
      cases w2 : b.testBit j with
      | false => rfl
      | true => exact (q ⟨j, w2, w⟩).elim
theorem x_decide (hN : 1000 ≤ N) (hW : WL K L) (hX : XL L e c) {bef : Nat → Int32} (hb : ∀ t, t < L.length → bef t = nI (oa (em (fl L) (fh L)) t)) : ∀ (n d cov m : Nat) (Z : List Nat) (f : Nat → Int32), n ≤ L.length → n < d → cov < 2 ^ 14 → m < 2 ^ 31 → FDr Z f → Z.length + (cvl (2 ^ K - 1) (fl L) (fh L) n cov m).length ≤ 80 → cov ||| oa (em (fl L) (fh L)) n = 2 ^ K - 1 → ∃ f', m_X0_decide N d f (nI Z.length) bef (nI K) e (nI n - 1) (nI cov) (nI m) = some (f', nI (Z ++ cvl (2 ^ K - 1) (fl L) (fh L) n cov m).length) ∧ FDr (Z ++ cvl (2 ^ K - 1) (fl L) (fh L) n cov m) f' := by
  have h21 := hW.len21
  have hK := hW.1
  obtain ⟨hE, hC⟩ := XL_iff.mp hX
  have aK := allK hK
  intro n
  induction n with
  | zero =>
    intro d cov m Z f hn hd hc hm hF hZ hall
    obtain ⟨d, rfl⟩ : ∃ x, d = x + 1 := ⟨d - 1, by omega⟩
    have e0 : cov = 2 ^ K - 1 := by rw [← hall]; simp [oa]
    have ec : cvl (2 ^ K - 1) (fl L) (fh L) 0 cov m = [m] := by
      show (if cov = 2 ^ K - 1 then [m] else []) = [m]
      rw [if_pos e0]
    rw [ec] at hZ ⊢
    rw [List.length_singleton] at hZ
    refine ⟨_, ?_, hF.app⟩
    rw [m_X0_decide, if_neg (show ¬ (0 : Int32) ≤ nI 0 - 1 by decide), x_addCover hF (by omega), r_bind]
  | succ n ih =>
    intro d cov m Z f hn hd hc hm hF hZ hall
    obtain ⟨d, rfl⟩ : ∃ x, d = x + 1 := ⟨d - 1, by omega⟩
    have w := hW.wa.2.2.1 n (by show n < L.length; omega)
    have w1 : fl L n < fh L n := w.1
    have w2 : fh L n < K := w.2.1
    have el : em (fl L) (fh L) n < 2 ^ 14 := em_lt w1 (by omega)
    have tin := tops_in hW (n := n) (by omega)
    have ol : oa (em (fl L) (fh L)) n < 2 ^ 14 := oa_lt (fun i hi => by
      have w := hW.wa.2.2.1 i (by show i < L.length; omega)
      exact em_lt w.1 (by have := w.2.1; show fh L i < 14; have w2 : fh L i < K := w.2.1; omega))
    have cin : ∀ j, cov.testBit j = true → (2 ^ K - 1).testBit j = true := by
      intro j hj
      rw [← hall, Nat.testBit_or, hj]
      rfl
    have ein : ∀ j, (em (fl L) (fh L) n).testBit j = true → (2 ^ K - 1).testBit j = true := by
      intro j hj
      rw [tb_em w1] at hj
      rw [tb_all]
      exact decide_eq_true (isat_lt w1 w2 hj)
    have ec : cvl (2 ^ K - 1) (fl L) (fh L) (n + 1) cov m = cvl (2 ^ K - 1) (fl L) (fh L) n cov m ++ (if cov &&& em (fl L) (fh L) n = 0 then cvl (2 ^ K - 1) (fl L) (fh L) n (cov ||| em (fl L) (fh L) n) (m ||| 2 ^ n) else []) := rfl
    rw [ec] at hZ ⊢
    rw [List.length_append] at hZ
    have m2 : m ||| 2 ^ n < 2 ^ 31 := or_lt hm (p2lt (by omega))
    -- the first half
    have half : ∃ f1, FDr (Z ++ cvl (2 ^ K - 1) (fl L) (fh L) n cov m) f1 ∧ ∀ (J : (Nat → Int32) → Int32 → Option ((Nat → Int32) × Int32)), (if nI cov ||| nI (oa (em (fl L) (fh L)) n) = nI (2 ^ K - 1) then Option.bind ((m_X0_decide N d) f (nI Z.length) bef (nI K) e (nI n - 1) (nI cov) (nI m)) (fun (f_p0_found_14, f_p0_size_15) => (J f_p0_found_14 f_p0_size_15)) else J f (nI Z.length)) = J f1 (nI (Z ++ cvl (2 ^ K - 1) (fl L) (fh L) n cov m).length) := by
      rcases or_all (a := cov ||| oa (em (fl L) (fh L)) n) (b := 2 ^ K - 1) (fun j hj => by rw [Nat.testBit_or, Bool.or_eq_true] at hj; exact hj.elim (cin j) (tin j)) with q | ⟨j, q1, q2⟩
      · obtain ⟨f1, g1, g2⟩ := ih d cov m Z f (by omega) (by omega) hc hm hF (by omega) q
        refine ⟨f1, g2, fun J => ?_⟩
        rw [if_pos (by rw [nor, q]), g1, r_bind]
      · have en : cvl (2 ^ K - 1) (fl L) (fh L) n cov m = [] := by
          rw [Nat.testBit_or, Bool.or_eq_false_iff] at q2
          exact cvl_nil n cov m ⟨j, q1, q2.1, q2.2⟩
        rw [en, List.append_nil]
        refine ⟨f, hF, fun J => ?_⟩
        rw [if_neg]
        intro z
        rw [nor] at z
        have := (nI_eq (by have := or_lt hc ol; omega) (by omega)).mp z
        rw [this, q1] at q2
        cases q2
    obtain ⟨f1, hF1, hJ⟩ := half
    have red : ∀ {X : Option ((Nat → Int32) × Int32)}, (fun (f_p0_found_7 : Nat → Int32) (f_p0_size_8 : Int32) => ((if (nI cov &&& nI (em (fl L) (fh L) n)) = 0 then (if ((nI cov ||| nI (em (fl L) (fh L) n)) ||| nI (oa (em (fl L) (fh L)) n)) = nI (2 ^ K - 1) then Option.bind (m_X6_bit N (nI n)) (fun r_9 => Option.bind ((m_X0_decide N d) f_p0_found_7 f_p0_size_8 bef (nI K) e (nI n - 1) (nI cov ||| nI (em (fl L) (fh L) n)) (nI m ||| r_9)) (fun (f_p0_found_11, f_p0_size_12) => some (f_p0_found_11, f_p0_size_12))) else some (f_p0_found_7, f_p0_size_8)) else some (f_p0_found_7, f_p0_size_8)) : Option ((Nat → Int32) × Int32))) f1 (nI (Z ++ cvl (2 ^ K - 1) (fl L) (fh L) n cov m).length) = X → m_X0_decide N (d + 1) f (nI Z.length) bef (nI K) e (nI (n + 1) - 1) (nI cov) (nI m) = X := by
      intro X hX'
      rw [m_X0_decide, pm1, if_pos (nI_pos' (by omega)), x_allKnots hK, r_bind, x_ends h21 hE (by omega), r_bind, x_at (by omega) (by decide), r_bind, hb n (by omega)]
      simp only [jn]
      exact Eq.trans (hJ (fun (f_p0_found_7 : Nat → Int32) (f_p0_size_8 : Int32) => ((if (nI cov &&& nI (em (fl L) (fh L) n)) = 0 then (if ((nI cov ||| nI (em (fl L) (fh L) n)) ||| nI (oa (em (fl L) (fh L)) n)) = nI (2 ^ K - 1) then Option.bind (m_X6_bit N (nI n)) (fun r_9 => Option.bind ((m_X0_decide N d) f_p0_found_7 f_p0_size_8 bef (nI K) e (nI n - 1) (nI cov ||| nI (em (fl L) (fh L) n)) (nI m ||| r_9)) (fun (f_p0_found_11, f_p0_size_12) => some (f_p0_found_11, f_p0_size_12))) else some (f_p0_found_7, f_p0_size_8)) else some (f_p0_found_7, f_p0_size_8)) : Option ((Nat → Int32) × Int32)))) hX'
    have zl : (Z ++ cvl (2 ^ K - 1) (fl L) (fh L) n cov m).length = Z.length + (cvl (2 ^ K - 1) (fl L) (fh L) n cov m).length := List.length_append
    by_cases q : cov &&& em (fl L) (fh L) n = 0
    · rw [if_pos q] at hZ ⊢
      have eo : (cov ||| em (fl L) (fh L) n) ||| oa (em (fl L) (fh L)) n = 2 ^ K - 1 := by
        rw [← hall, oa, Nat.or_assoc, Nat.or_comm (em (fl L) (fh L) n)]
      obtain ⟨f2, g1, g2⟩ := ih d (cov ||| em (fl L) (fh L) n) (m ||| 2 ^ n) (Z ++ cvl (2 ^ K - 1) (fl L) (fh L) n cov m) f1 (by omega) (by omega) (or_lt hc el) m2 hF1 (by omega) eo
      rw [← List.append_assoc]
      refine ⟨f2, red ?_, g2⟩
      show (if (nI cov &&& nI (em (fl L) (fh L) n)) = 0 then _ else _) = _
      rw [if_pos (by rw [nand, q]; rfl), if_pos (by rw [nor, nor, eo]), m_bit (by omega), r_bind, nor, nor, g1, r_bind]
    · rw [if_neg q, List.append_nil]
      refine ⟨f1, red ?_, hF1⟩
      show (if (nI cov &&& nI (em (fl L) (fh L) n)) = 0 then _ else _) = _
      rw [if_neg (fun z => by rw [nand] at z; exact q ((nI_eq0 (Nat.lt_of_le_of_lt Nat.and_le_left (by omega))).mp z))]
theorem x_list (hN : 1000 ≤ N) (hW : WL K L) (hX : XL L e c) {f bef : Nat → Int32} {sz : Int32} : ∃ f' bef', m_X0_list N f sz bef (nI K) (nI L.length) e = some (f', nI (cvl (2 ^ K - 1) (fl L) (fh L) L.length 0 0).length, bef') ∧ FDr (cvl (2 ^ K - 1) (fl L) (fh L) L.length 0 0) f' := by
  have h21 := hW.len21
  have hK := hW.1
  obtain ⟨hE, hC⟩ := XL_iff.mp hX
  have aK := allK hK
  have b80 := covers_80 hW.wa
  have b80 : (cvl (2 ^ K - 1) (fl L) (fh L) L.length 0 0).length ≤ 80 := b80
  have ol : ∀ n, n ≤ L.length → oa (em (fl L) (fh L)) n < 2 ^ 14 := fun n hn => oa_lt (fun i hi => by
    have w := hW.wa.2.2.1 i (by show i < L.length; omega)
    exact em_lt w.1 (by show fh L i < 14; have w2 : fh L i < K := w.2.1; omega))
  unfold m_X0_list
  simp only [jn]
  obtain ⟨bef', ⟨hb, -⟩, hr⟩ := for_inv (fun n i (a : Nat → Int32) => m_X0_list_L9 N (nI L.length) e (fun (x2_1 : Int32) (f_before_2 : Nat → Int32) => (Option.bind (m_X2_allKnots N (nI K)) (fun r_3 => (if x2_1 = r_3 then Option.bind (m_X2_threads N (nI L.length)) (fun r_5 => Option.bind (m_X0_decide N 24 f 0 f_before_2 (nI K) e (r_5 - 1) 0 0) (fun (f_found_7, f_size_8) => some (f_found_7, f_size_8, f_before_2))) else some (f, 0, f_before_2))) : Option ((Nat → Int32) × Int32 × (Nat → Int32)))) n (nI i) (nI (oa (em (fl L) (fh L)) i)) a) (fun i (a : Nat → Int32) => (∀ t, t < i → a t = nI (oa (em (fl L) (fh L)) t)) ∧ True) L.length (fun f_before_2 => (Option.bind (m_X2_allKnots N (nI K)) (fun r_3 => (if nI (oa (em (fl L) (fh L)) L.length) = r_3 then Option.bind (m_X2_threads N (nI L.length)) (fun r_5 => Option.bind (m_X0_decide N 24 f 0 f_before_2 (nI K) e (r_5 - 1) 0 0) (fun (f_found_7, f_size_8) => some (f_found_7, f_size_8, f_before_2))) else some (f, 0, f_before_2)))))
    (by
      intro n a _
      show m_X0_list_L9 N (nI L.length) e _ (n + 1) (nI L.length) _ a = _
      rw [m_X0_list_L9]
      show Option.bind (some (nI L.length)) _ = _
      rw [r_bind, if_pos (nI_le (Nat.le_refl _) (by omega))])
    (by
      rintro n i a hi ⟨ha, -⟩
      refine ⟨upd a i (nI (oa (em (fl L) (fh L)) i)), ?_, fun t ht => ?_, trivial⟩
      · show m_X0_list_L9 N (nI L.length) e _ (n + 1) (nI i) _ a = _
        rw [m_X0_list_L9]
        show Option.bind (some (nI L.length)) _ = _
        rw [r_bind, if_neg (nI_ge hi (by omega)), x_put (by omega) (by decide), r_bind, x_ends h21 hE hi, r_bind]
        simp only [nm]
        rw [nor, nI_1]
        rfl
      · rcases Nat.lt_or_ge t i with q | q
        · rw [upd_n (by omega)]
          exact ha t q
        · rw [show t = i by omega, upd_s])
    L.length N 0 bef (by omega) (by omega) ⟨fun t ht => absurd ht (Nat.not_lt_zero t), trivial⟩
  have hr2 := hr
  rcases or_all (a := oa (em (fl L) (fh L)) L.length) (b := 2 ^ K - 1) (tops_in hW (Nat.le_refl _)) with q | ⟨j, q1, q2⟩
  · obtain ⟨f', g1, g2⟩ := x_decide hN hW hX hb L.length 24 0 0 [] f (Nat.le_refl _) (by omega) (by decide) (by decide) (fun i v h => by simp at h) (by simpa using b80) (by rw [Nat.zero_or]; exact q)
    refine ⟨f', bef', ?_, by rw [List.nil_append] at g2; exact g2⟩
    refine Eq.trans hr2 ?_
    rw [x_allKnots hK, r_bind, if_pos (by rw [q])]
    show Option.bind (some (nI L.length)) _ = _
    rw [r_bind]
    rw [List.nil_append] at g1
    show Option.bind (m_X0_decide N 24 f (nI ([] : List Nat).length) bef' (nI K) e (nI L.length - 1) (nI 0) (nI 0)) _ = _
    rw [g1, r_bind]
  · have en : cvl (2 ^ K - 1) (fl L) (fh L) L.length 0 0 = [] := cvl_nil L.length 0 0 ⟨j, q1, Nat.zero_testBit j, q2⟩
    rw [en]
    refine ⟨f, bef', ?_, fun i v h => by simp at h⟩
    refine Eq.trans hr2 ?_
    rw [x_allKnots hK, r_bind, if_neg]
    · rfl
    · intro z
      have := (nI_eq (by have := ol L.length (Nat.le_refl _); omega) (by omega)).mp z
      rw [this, q1] at q2
      cases q2
end CX
