/-! both classes: the same covers; cover, the covers of a thread -/
section CB
variable {N K : Nat} {L : List TH} {e c s : Nat → Int32}
theorem cnf_pos {x : Nat} {f : Nat → Nat} : ∀ {n : Nat}, 0 < cnf x f n → ∃ i, i < n ∧ f i = x
  | 0, h => absurd h (Nat.lt_irrefl 0)
  | n + 1, h => by
    have h : 0 < cnf x f n + (if f n = x then 1 else 0) := h
    by_cases q : f n = x
    · exact ⟨n, by omega, q⟩
    · rw [if_neg q, Nat.add_zero] at h
      obtain ⟨i, hi, e⟩ := cnf_pos h
      exact ⟨i, by omega, e⟩
theorem cnf_self (f : Nat → Nat) (n : Nat) : 0 < cnf (f n) f (n + 1) := by
  show 0 < cnf (f n) f n + (if f n = f n then 1 else 0)
  rw [if_pos rfl]
  omega
theorem sorted_one {f g : Nat → Nat} : ∀ (n : Nat), (∀ i j, i < j → j < n → f i ≤ f j) → (∀ i j, i < j → j < n → g i ≤ g j) → (∀ x, cnf x f n = cnf x g n) → ∀ i, i < n → f i = g i
  | 0, _, _, _, i, hi => absurd hi (Nat.not_lt_zero i)
  | n + 1, hf, hg, hc, i, hi => by
    have top : f n = g n := by
      have a := cnf_self f n
      rw [hc] at a
      obtain ⟨j, hj, e1⟩ := cnf_pos a
      have b := cnf_self g n
      rw [← hc] at b
      obtain ⟨k, hk, e2⟩ := cnf_pos b
      have c1 : g j ≤ g n := by
        rcases Nat.lt_or_ge j n with q | q
        · exact hg j n q (by omega)
        · rw [show j = n by omega]; exact Nat.le_refl _
      have c2 : f k ≤ f n := by
        rcases Nat.lt_or_ge k n with q | q
        · exact hf k n q (by omega)
        · rw [show k = n by omega]; exact Nat.le_refl _
      omega
    rcases Nat.lt_or_ge i n with q | q
    · refine sorted_one n (fun i j h1 h2 => hf i j h1 (by omega)) (fun i j h1 h2 => hg i j h1 (by omega)) (fun x => ?_) i q
      have : cnf x f n + (if f n = x then 1 else 0) = cnf x g n + (if g n = x then 1 else 0) := hc x
      rw [top] at this
      omega
    · rw [show i = n by omega]
      exact top
theorem sm_shift (f : Nat → Nat) : ∀ n, sm f (n + 1) = f 0 + sm (fun i => f (i + 1)) n
  | 0 => by show sm f 0 + f 0 = _; exact Nat.add_comm _ _
  | n + 1 => by rw [sm, sm_shift f n, sm]; omega
theorem cnf_list (x : Nat) : ∀ Z : List Nat, cnf x (fun i => Z.getD i 0) Z.length = cn x Z
  | [] => rfl
  | y :: Z => by
    show sm _ (Z.length + 1) = (if y = x then 1 else 0) + cn x Z
    rw [sm_shift, ← cnf_list x Z]
    rfl
theorem getD_at {Z : List Nat} {i v : Nat} (h : Z[i]? = some v) : Z.getD i 0 = v := by
  rw [List.getD_eq_getElem?_getD, h]
  rfl
theorem le_at {Z : List Nat} (h : Z.Pairwise (· ≤ ·)) : ∀ i j, i < j → j < Z.length → Z.getD i 0 ≤ Z.getD j 0 := by
  intro i j hij hj
  have a := List.getElem?_eq_getElem (l := Z) (show i < Z.length by omega)
  have b := List.getElem?_eq_getElem (l := Z) hj
  rw [getD_at a, getD_at b]
  exact List.pairwise_iff_getElem.mp h i j (by omega) hj hij
/-- both classes have one list of covers -/
theorem both_covers (hN : NB ≤ N) (hW : WL K L) (hX : XL L e c) (hM : ML K L s) (f bef sets pk cv tk : Nat → Int32) (sz many : Int32) : ∃ (Z : List Nat) (f' bef' sets' pk' cv' tk' : Nat → Int32), Z.length ≤ 80 ∧ (∀ v ∈ Z, v < 2 ^ 21) ∧ m_X0_list N f sz bef (nI K) (nI L.length) e = some (f', nI Z.length, bef') ∧ m_X7_findCovers N s many sets pk cv tk = some (nI Z.length, sets', pk', cv', tk') ∧ ∀ i v, Z[i]? = some v → f' i = nI v ∧ sets' i = nI v := by
  have h21 := hW.len21
  obtain ⟨f', bef', h1, h2⟩ := x_list (NB_le hN) hW hX (f := f) (bef := bef) (sz := sz)
  obtain ⟨g, sets', pk', cv', tk', h3, h4, h5⟩ := m_findCovers hN hW hM (many := many) (sets := sets) (pk := pk) (cv := cv) (tk := tk)
  have b80 : (cvl (2 ^ K - 1) (fl L) (fh L) L.length 0 0).length ≤ 80 := covers_80 hW.wa
  have hin := cvl_in (all := 2 ^ K - 1) (lo := fl L) (hi := fh L) L.length 0 0
  have hso := cvl_sorted (all := 2 ^ K - 1) (lo := fl L) (hi := fh L) L.length 0 0
  rw [Nat.mul_zero] at hin hso
  rw [Nat.zero_add, Nat.mul_one] at hin
  refine ⟨_, f', bef', sets', pk', cv', tk', b80, fun v hv => ?_, h1, h3, fun i v hv => ⟨h2 i v hv, ?_⟩⟩
  · have := hin v hv
    have := p2le h21
    omega
  · have il := nat_lt hv
    have := sorted_one (f := g) (g := fun i => (cvl (2 ^ K - 1) (fl L) (fh L) L.length 0 0).getD i 0) _ h4.2 (le_at hso) (fun x => by rw [h5 x, cnf_list]) i il
    rw [(h4.1 i il).1, this]
    show nI ((cvl (2 ^ K - 1) (fl L) (fh L) L.length 0 0).getD i 0) = nI v
    rw [getD_at hv]
theorem nat_some {Z : List Nat} {i : Nat} (h : i < Z.length) : ∃ v, Z[i]? = some v ∧ v ∈ Z := ⟨Z[i], List.getElem?_eq_getElem h, List.getElem_mem h⟩
theorem b_cover (hN : NB ≤ N) (hW : WL K L) (hX : XL L e c) (hM : ML K L s) (f bef sets pk cv tk : Nat → Int32) (sz many a : Int32) : ∃ r A B, m_X6_cover N (nI K) (nI L.length) e f sz bef a = some (r, A) ∧ m_X7_cover N s many sets pk cv tk a = some (r, B) := by
  obtain ⟨Z, f', bef', sets', pk', cv', tk', z1, z2, z3, z4, z5⟩ := both_covers hN hW hX hM f bef sets pk cv tk sz many
  unfold m_X6_cover m_X7_cover
  rw [z3, z4, r_bind, r_bind]
  rcases pk_ix a (show Z.length < 2 ^ 31 by omega) with q | q | ⟨j, hj, rfl⟩
  · have : ¬ 0 ≤ a := by
      rw [fa_lt] at q
      rw [fa_le]
      have z : (0 : Int32).toInt = 0 := rfl
      omega
    rw [if_neg this, if_neg this]
    exact ⟨_, _, _, rfl, rfl⟩
  · have : 0 ≤ a := by
      rw [fa_le, nI_toInt (by omega)] at q
      rw [fa_le]
      have z : (0 : Int32).toInt = 0 := rfl
      omega
    rw [if_pos this, if_pos this]
    show ∃ r A B, Option.bind (some (nI Z.length)) _ = _ ∧ (if nI Z.length ≤ a then _ else _) = _
    rw [r_bind, if_pos q, if_pos q]
    exact ⟨_, _, _, rfl, rfl⟩
  · obtain ⟨v, hv, -⟩ := nat_some hj
    obtain ⟨v1, v2⟩ := z5 j v hv
    have p : (0 : Int32) ≤ nI j := nI_pos' (by omega)
    rw [if_pos p, if_pos p]
    show ∃ r A B, Option.bind (some (nI Z.length)) _ = _ ∧ (if nI Z.length ≤ nI j then _ else _) = _
    rw [r_bind, if_neg (nI_ge hj (by omega)), if_neg (nI_ge hj (by omega)), r_ard (by omega) (by omega), v2]
    unfold m_X0_get
    rw [x_at (by omega) (by decide), r_bind, r_bind, v1]
    exact ⟨_, _, _, rfl, rfl⟩
theorem b_covers (hN : NB ≤ N) (hW : WL K L) (hX : XL L e c) (hM : ML K L s) (f bef sets pk cv tk : Nat → Int32) (sz many : Int32) : ∃ r A B, Option.bind (m_X0_list N f sz bef (nI K) (nI L.length) e) (fun (f_covers_found_1, f_covers_size_2, f_covers_before_3) => Option.bind (m_X0_size N f_covers_size_2) (fun r_5 => some (r_5, f_covers_found_1, f_covers_size_2, f_covers_before_3))) = some (r, A) ∧ m_X7_covers N s many sets pk cv tk = some (r, B) := by
  obtain ⟨Z, f', bef', sets', pk', cv', tk', z1, z2, z3, z4, z5⟩ := both_covers hN hW hX hM f bef sets pk cv tk sz many
  unfold m_X7_covers
  rw [z3, z4, r_bind, r_bind]
  exact ⟨_, _, _, rfl, rfl⟩
theorem b_coversWith {t : Nat} (hN : NB ≤ N) (hW : WL K L) (hX : XL L e c) (hM : ML K L s) (ht : t < L.length) (f bef sets pk cv tk : Nat → Int32) (sz many : Int32) : ∃ r A B, Option.bind (m_X0_list N f sz bef (nI K) (nI L.length) e) (fun (f_covers_found_1, f_covers_size_2, f_covers_before_3) => Option.bind (m_X0_howManyHold N f_covers_found_1 f_covers_size_2 (nI t)) (fun r_5 => some (r_5, f_covers_found_1, f_covers_size_2, f_covers_before_3))) = some (r, A) ∧ m_X7_coversWith N s many sets pk cv tk (nI t) = some (r, B) := by
  have h21 := hW.len21
  have N1 := NB_le hN
  obtain ⟨Z, f', bef', sets', pk', cv', tk', z1, z2, z3, z4, z5⟩ := both_covers hN hW hX hM f bef sets pk cv tk sz many
  unfold m_X7_coversWith
  rw [z3, z4, r_bind, r_bind]
  have e1 : m_X0_howManyHold N f' (nI Z.length) (nI t) = some (nI (ct (fun i => (Z.getD i 0).testBit t) Z.length)) := by
    unfold m_X0_howManyHold
    refine for_up (fun n i (acc : Nat) => m_X0_howManyHold_L4 N f' (nI Z.length) (nI t) n (nI i) (nI acc)) Z.length (fun i => ct (fun i => (Z.getD i 0).testBit t) i) _ ?_ ?_ Z.length N 0 (by omega) (by omega)
    · intro n
      show m_X0_howManyHold_L4 N f' (nI Z.length) (nI t) (n + 1) (nI Z.length) _ = _
      rw [m_X0_howManyHold_L4, if_pos (nI_le (Nat.le_refl _) (by omega))]
    · intro n i hi
      show m_X0_howManyHold_L4 N f' (nI Z.length) (nI t) (n + 1) (nI i) _ = m_X0_howManyHold_L4 N f' (nI Z.length) (nI t) n (nI (i + 1)) _
      obtain ⟨v, hv, hm⟩ := nat_some hi
      have vl := z2 v hm
      rw [m_X0_howManyHold_L4, if_neg (nI_ge hi (by omega))]
      unfold m_X0_get
      rw [x_at (by omega) (by decide), r_bind, r_bind, (z5 i v hv).1, m_holds (by omega) (by omega), r_bind, sel, ct, getD_at hv, nI_1, nI_1]
      cases v.testBit t <;> rfl
  have e2 : m_X7_coversWith_L8 N (nI t) (nI Z.length) sets' pk' cv' tk' N 0 0 = some (nI (ct (fun i => (Z.getD i 0).testBit t) Z.length), nI Z.length, sets', pk', cv', tk') := by
    refine for_up (fun n i (acc : Nat) => m_X7_coversWith_L8 N (nI t) (nI Z.length) sets' pk' cv' tk' n (nI i) (nI acc)) Z.length (fun i => ct (fun i => (Z.getD i 0).testBit t) i) _ ?_ ?_ Z.length N 0 (by omega) (by omega)
    · intro n
      show m_X7_coversWith_L8 N (nI t) (nI Z.length) sets' pk' cv' tk' (n + 1) (nI Z.length) _ = _
      rw [m_X7_coversWith_L8, if_pos (nI_le (Nat.le_refl _) (by omega))]
    · intro n i hi
      show m_X7_coversWith_L8 N (nI t) (nI Z.length) sets' pk' cv' tk' (n + 1) (nI i) _ = m_X7_coversWith_L8 N (nI t) (nI Z.length) sets' pk' cv' tk' n (nI (i + 1)) _
      obtain ⟨v, hv, hm⟩ := nat_some hi
      have vl := z2 v hm
      rw [m_X7_coversWith_L8, if_neg (nI_ge hi (by omega)), r_ard (by omega) (by omega), (z5 i v hv).2, m_has (by omega) (by omega), r_bind, sel, ct, getD_at hv]
      simp only [nm]
      rw [nI_1, nI_1]
      cases v.testBit t
      · show m_X7_coversWith_L8 N (nI t) (nI Z.length) sets' pk' cv' tk' n (nI (i + 1)) (nI _ + nI 0) = _
        rw [nI_add]
        rfl
      · rfl
  show ∃ r A B, Option.bind (m_X0_howManyHold N f' (nI Z.length) (nI t)) _ = _ ∧ m_X7_coversWith_L8 N (nI t) (nI Z.length) sets' pk' cv' tk' N 0 0 = _
  rw [e1, e2, r_bind]
  exact ⟨_, _, _, rfl, rfl⟩
end CB
