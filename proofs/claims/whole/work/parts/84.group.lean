/-! pure: groups, and the product of their numbers -/
theorem x_isBare {N skip u : Nat} {U : UC} {L : List TH} {Z B : List Nat} {b l g : Nat → Int32} (hN : 1000 ≤ N) (hP : PAr L Z b l g) (hZ : Z.length ≤ 21) (hok : okZ L Z) (hs : skip < 2 ^ 31) (hu : repU u U) : ∀ (R A : List Nat), Z = A ++ R ++ B → ∀ d, R.length < d → ∃ r, m_X3_isBare_L3 N b l g (nI (A.length + R.length)) (lN u) (nI skip) d (nI A.length) = some r ∧ (r = 0 ∨ (r = 1 ∧ ∀ x ∈ qs L skip R, ∀ k, atk k x = true → ∀ c, U k c = false)) := by
  intro R
  induction R with
  | nil =>
    intro A hA d hd
    obtain ⟨d, rfl⟩ : ∃ m, d = m + 1 := ⟨d - 1, by omega⟩
    have la : A.length ≤ 21 := by
      have := congrArg List.length hA
      simp at this
      omega
    exact ⟨1, by rw [m_X3_isBare_L3, if_pos (nI_le (by simp) (by simp; omega))], Or.inr ⟨rfl, fun x hx => by cases hx⟩⟩
  | cons t R ih =>
    intro A hA d hd
    obtain ⟨d, rfl⟩ : ∃ m, d = m + 1 := ⟨d - 1, by omega⟩
    have la : A.length + R.length + 1 ≤ 21 := by
      have := congrArg List.length hA
      simp at this
      omega
    have hp : Z[A.length]? = some t := by
      rw [hA, List.append_assoc, List.getElem?_append_right (Nat.le_refl _), Nat.sub_self]
      rfl
    obtain ⟨p1, p2, p3⟩ := hP _ t hp
    obtain ⟨t21, o1, o2⟩ := hok t (List.mem_of_getElem? hp)
    have hA' : Z = (A ++ [t]) ++ R ++ B := by rw [hA]; simp
    have lA : (A ++ [t]).length = A.length + 1 := by simp
    have stop : nI (A.length + (t :: R).length) = nI ((A ++ [t]).length + R.length) := by
      rw [lA, List.length_cons]
      congr 1
      omega
    obtain ⟨r, r1, r2⟩ := ih (A ++ [t]) hA' d (by simp at hd; omega)
    rw [← stop, lA] at r1
    rw [m_X3_isBare_L3, if_neg (nI_ge (by rw [List.length_cons]; omega) (by rw [List.length_cons]; omega)), x_at (by omega) (by decide), r_bind, p1]
    simp only [jn]
    rw [x_at (by omega) (by decide), r_bind, p2, x_at (by omega) (by decide), r_bind, p3, x_usedAt hu.1 (by omega) o2, r_bind, nI_1, r1]
    cases q : skip.testBit t with
    | true =>
      rw [if_neg (fun h => by rw [skip_iff t21 hs, q] at h; cases h), if_neg n10, qs_skip q]
      exact ⟨r, rfl, r2⟩
    | false =>
      rw [if_pos ((skip_iff t21 hs).mpr q), qs_take q]
      have e0 : (if (0 : Int32) = 0 then (if nI (useM u (thn L t).1 (thn L t).2.1) = 0 then some r else some 0) else some r) = (if nI (useM u (thn L t).1 (thn L t).2.1) = 0 then some r else some 0) := if_pos rfl
      refine ⟨if nI (useM u (thn L t).1 (thn L t).2.1) = 0 then r else 0, Eq.trans e0 (by split <;> rfl), ?_⟩
      by_cases w : useM u (thn L t).1 (thn L t).2.1 = 0
      · rw [if_pos (by rw [w]; rfl)]
        rcases r2 with r2 | ⟨r2, r3⟩
        · exact Or.inl r2
        · refine Or.inr ⟨r2, fun x hx k hk c => ?_⟩
          rcases List.mem_cons.mp hx with g1 | g1
          · rcases Nat.lt_or_ge c 3 with c3 | c3
            · have := useM_0.mp w c c3
              rw [hu.2.1 _ _ (by omega) c3, hu.2.1 _ _ o2 c3] at this
              rw [g1] at hk
              unfold atk at hk
              simp at hk
              rcases hk with hk | hk
              · rw [← hk]; exact this.1
              · rw [← hk]; exact this.2
            · exact hu.2.2 k c c3
          · exact r3 x g1 k hk c
      · rw [if_neg (fun h => w ((nI_eq0 (by have := useM_lt u (thn L t).1 (thn L t).2.1; omega)).mp h))]
        exact Or.inl rfl
theorem x_first {N skip : Nat} {L : List TH} {Z B : List Nat} {b l g : Nat → Int32} {J : Int32 → Option Int32} (hN : 1000 ≤ N) (hP : PAr L Z b l g) (hZ : Z.length ≤ 21) (hok : okZ L Z) (hs : skip < 2 ^ 31) : ∀ (R A : List Nat), Z = A ++ R ++ B → ∀ d, R.length < d → (m_X3_groupWays_L27 N b (nI (A.length + R.length)) (nI skip) J d (nI A.length) = J (nI (A.length + R.length)) ∧ qs L skip R = []) ∨ ∃ R1 t R2, R = R1 ++ t :: R2 ∧ qs L skip R1 = [] ∧ skip.testBit t = false ∧ m_X3_groupWays_L27 N b (nI (A.length + R.length)) (nI skip) J d (nI A.length) = J (nI (A.length + R1.length)) := by
  intro R
  induction R with
  | nil =>
    intro A hA d hd
    obtain ⟨d, rfl⟩ : ∃ m, d = m + 1 := ⟨d - 1, by omega⟩
    have la : A.length ≤ 21 := by
      have := congrArg List.length hA
      simp at this
      omega
    exact Or.inl ⟨by rw [m_X3_groupWays_L27, if_pos (nI_le (by simp) (by simp; omega))]; rfl, rfl⟩
  | cons t R ih =>
    intro A hA d hd
    obtain ⟨d, rfl⟩ : ∃ m, d = m + 1 := ⟨d - 1, by omega⟩
    have la : A.length + R.length + 1 ≤ 21 := by
      have := congrArg List.length hA
      simp at this
      omega
    have hp : Z[A.length]? = some t := by
      rw [hA, List.append_assoc, List.getElem?_append_right (Nat.le_refl _), Nat.sub_self]
      rfl
    obtain ⟨p1, -, -⟩ := hP _ t hp
    obtain ⟨t21, -, -⟩ := hok t (List.mem_of_getElem? hp)
    have hA' : Z = (A ++ [t]) ++ R ++ B := by rw [hA]; simp
    have lA : (A ++ [t]).length = A.length + 1 := by simp
    have st : (A ++ [t]).length + R.length = A.length + (t :: R).length := by
      rw [lA, List.length_cons]
      omega
    rw [m_X3_groupWays_L27, if_neg (nI_ge (by rw [List.length_cons]; omega) (by rw [List.length_cons]; omega)), x_at (by omega) (by decide), r_bind, p1, nI_1]
    cases q : skip.testBit t with
    | true =>
      rw [if_neg (fun h => by rw [skip_iff t21 hs, q] at h; cases h), qs_skip q]
      have := ih (A ++ [t]) hA' d (by simp at hd; omega)
      rw [st, lA] at this
      rcases this with h | ⟨R1, v, R2, h1, h2, h3, h4⟩
      · exact Or.inl h
      · refine Or.inr ⟨t :: R1, v, R2, by rw [h1]; rfl, by rw [qs_skip q]; exact h2, h3, ?_⟩
        rw [h4, List.length_cons, show A.length + 1 + R1.length = A.length + (R1.length + 1) by omega]
    | false =>
      rw [if_pos ((skip_iff t21 hs).mpr q)]
      exact Or.inr ⟨[], t, R, rfl, rfl, q, by simp⟩
theorem x_groupWays {N skip u E : Nat} {U : UC} {L : List TH} {Z A R B : List Nat} {b l g : Nat → Int32} (hN : 1000 ≤ N) (hP : PAr L Z b l g) (hZ : Z.length ≤ 21) (hok : okZ L Z) (hs : skip < 2 ^ 31) (hu : repU u U) (hA : Z = A ++ R ++ B) (hE : 1 ≤ E) (hE2 : E < 2 ^ 31) : ∃ w, m_X3_groupWays N b l g (nI A.length) (nI (A.length + R.length)) (lN u) (nI skip) (nI E) = some (nI w) ∧ GW w (cq allT (qs L skip R) U) E := by
  have la : A.length + R.length ≤ 21 := by
    have := congrArg List.length hA
    simp at this
    omega
  obtain ⟨r, r1, r2⟩ := x_isBare hN hP hZ hok hs hu R A hA N (by omega)
  unfold m_X3_groupWays m_X3_isBare
  rw [r1, r_bind]
  rcases r2 with r2 | ⟨r2, r3⟩
  · rw [if_pos r2]
    obtain ⟨w, g1, g2⟩ := x_waysFrom hN hP hZ hok hs R A hA 24 u E U (by omega) hu hE hE2
    rw [g1]
    exact ⟨w, rfl, g2⟩
  · rw [if_neg (by rw [r2]; exact n10)]
    simp only [jn]
    rcases x_first (J := fun x7 => if x7 < nI (A.length + R.length) then Option.bind (m_X6_at N 21 l x7) (fun r_4 => Option.bind (m_X6_at N 21 g x7) (fun r_6 => Option.bind (m_X3_usedWith N r_4 r_6 0) (fun r_8 => nm (lN u ||| r_8) (fun (v8_10 : Int64) => Option.bind (m_X3_waysFrom N 24 b l g (x7 + 1) (nI (A.length + R.length)) v8_10 (nI skip) (nI E)) (fun r_11 => some (3 * r_11)))))) else some 1) hN hP hZ hok hs R A hA N (by omega) with ⟨h1, h2⟩ | ⟨R1, t, R2, h1, h2, h3, h4⟩
    · refine ⟨1, Eq.trans h1 ?_, ?_⟩
      · rw [if_neg (nI_nlt (Nat.le_refl _) (by omega))]
        rfl
      · rw [h2]
        exact ⟨Nat.le_refl _, fun _ => by decide, fun _ => rfl⟩
    · have lR : R.length = R1.length + R2.length + 1 := by rw [h1]; simp; omega
      have hA2 : Z = (A ++ R1 ++ [t]) ++ R2 ++ B := by rw [hA, h1]; simp
      have hp : Z[A.length + R1.length]? = some t := by
        rw [hA2, List.append_assoc, List.append_assoc (A ++ R1), List.getElem?_append_right (by simp), List.length_append, Nat.sub_self]
        rfl
      obtain ⟨p1, p2, p3⟩ := hP _ t hp
      obtain ⟨t21, o1, o2⟩ := hok t (List.mem_of_getElem? hp)
      have eq : qs L skip R = thn L t :: qs L skip R2 := by rw [h1, qs_app, h2, qs_take h3]; rfl
      have l2 : (A ++ R1 ++ [t]).length = A.length + R1.length + 1 := by simp; omega
      have lu : u < 2 ^ 64 := Nat.lt_of_lt_of_le hu.1 (p2le (by decide))
      have lw : useW (thn L t).1 (thn L t).2.1 0 < 2 ^ 64 := Nat.lt_of_lt_of_le (useW_lt (by omega) o2 (by decide)) (p2le (by decide))
      obtain ⟨w, g1, g2, g3, g4⟩ := x_waysFrom hN hP hZ hok hs R2 (A ++ R1 ++ [t]) hA2 24 (u ||| useW (thn L t).1 (thn L t).2.1 0) E (us3 U (thn L t) 0) (by omega) (rep_us hu (by omega) o2 (by decide)) hE hE2
      rw [l2, show A.length + R1.length + 1 + R2.length = A.length + R.length by omega] at g1
      have bare := cq_bare (al := allT) (x := thn L t) (Q := qs L skip R2) (U := U) (fun _ _ _ => rfl) (by rw [← eq]; exact r3)
      refine ⟨3 * w, Eq.trans h4 ?_, ?_⟩
      · rw [if_pos (nI_lt (by omega) (by omega)), x_at (by omega) (by decide), r_bind, p2, x_at (by omega) (by decide), r_bind, p3, show (0 : Int32) = nI 0 from rfl, x_usedWith (by omega) o2 (by decide), r_bind]
        simp only [nm]
        rw [lor _ _ lu lw, nI_1, g1, r_bind, show (3 : Int32) = nI 3 from rfl, pk_mul]
      · rw [eq, bare]
        exact ⟨by omega, fun h => by have := g3 (by omega); omega, fun h => by have := g4 (by omega); omega⟩
theorem GW.mul {w1 q1 w2 q2 E : Nat} (h1 : GW w1 q1 E) (h2 : GW w2 q2 E) : GW (w1 * w2) (q1 * q2) E := by
  refine ⟨Nat.mul_le_mul h1.1 h2.1, fun h => ?_, fun h => ?_⟩
  · have a : 0 < q1 := Nat.pos_of_mul_pos_right h
    have b : 0 < q2 := Nat.pos_of_mul_pos_left h
    exact Nat.mul_pos (h1.2.1 a) (h2.2.1 b)
  · rcases Nat.eq_zero_or_pos q1 with a | a
    · have : w1 = 0 := by have := h1.1; omega
      rw [this, a, Nat.zero_mul, Nat.zero_mul]
    · rcases Nat.eq_zero_or_pos q2 with b | b
      · have : w2 = 0 := by have := h2.1; omega
        rw [this, b, Nat.mul_zero, Nat.mul_zero]
      · have e1 : q1 ≤ q1 * q2 := Nat.le_mul_of_pos_right q1 b
        have e2 : q2 ≤ q1 * q2 := Nat.le_mul_of_pos_left q2 a
        rw [h1.2.2 (by omega), h2.2.2 (by omega)]
def gdis (L : List TH) (a b : List Nat) : Prop := ∀ t ∈ a, ∀ v ∈ b, tchp (thn L t) (thn L v) = false
theorem x_ways {N skip u E : Nat} {U : UC} {L : List TH} {G : List (List Nat)} {b l g st : Nat → Int32} (hN : 1000 ≤ N) (hP : PAr L G.flatten b l g) (hZ : G.flatten.length ≤ 21) (hG : G.length ≤ 21) (hok : okZ L G.flatten) (hs : skip < 2 ^ 31) (hu : repU u U) (hE : 1 ≤ E) (hE2 : E < 2 ^ 31) (hst : ∀ i, i < G.length → st i = nI (G.take (i + 1)).flatten.length) (hd : G.Pairwise (gdis L)) : ∃ w, m_X3_ways N b l g st (nI G.length) (lN u) (nI skip) (nI E) = some (nI w) ∧ GW w (cq allT (qs L skip G.flatten) U) E ∧ w < 2 ^ 30 := by
  have key : ∀ (G2 G1 : List (List Nat)), G1 ++ G2 = G → ∀ (pr f : Nat), GW pr (cq allT (qs L skip G1.flatten) U) E → G2.length < f → ∃ w, m_X3_ways_L9 N b l g st (nI G.length) (lN u) (nI skip) (nI E) f (nI G1.length) (nI G1.flatten.length) (nI pr) = some (nI w) ∧ GW w (cq allT (qs L skip G.flatten) U) E := by
    intro G2
    induction G2 with
    | nil =>
      intro G1 h1 pr f hp hf
      obtain ⟨f, rfl⟩ : ∃ m, f = m + 1 := ⟨f - 1, by omega⟩
      rw [List.append_nil] at h1
      subst h1
      exact ⟨pr, by rw [m_X3_ways_L9, if_pos (nI_le (Nat.le_refl _) (by omega))], hp⟩
    | cons r G2 ih =>
      intro G1 h1 pr f hp hf
      obtain ⟨f, rfl⟩ : ∃ m, f = m + 1 := ⟨f - 1, by omega⟩
      have lG : G1.length + (G2.length + 1) = G.length := by rw [← h1]; simp
      have flat : G.flatten = G1.flatten ++ r ++ G2.flatten := by rw [← h1]; simp
      have lf : G1.flatten.length + r.length ≤ 21 := by
        have := congrArg List.length flat
        simp only [List.length_append] at this
        omega
      have tk : G.take (G1.length + 1) = G1 ++ [r] := by
        rw [← h1, List.take_append, List.take_of_length_le (by omega), show G1.length + 1 - G1.length = 1 by omega]
        rfl
      have okL : ∀ R : List Nat, (∀ v ∈ R, v ∈ G.flatten) → okZ L R := fun R h v hv => hok v (h v hv)
      have prb : pr < 2 ^ 30 := by
        have ok1 := qs_ok (skip := skip) (okL G1.flatten (fun v hv => by rw [flat]; exact List.mem_append_left _ (List.mem_append_left _ hv)))
        have := cq_b (al := allT) (U := U) ok1 (Nat.le_trans (qs_len _ _ _) (by omega))
        have := hp.1
        omega
      have split : cq allT (qs L skip G.flatten) U = cq allT (qs L skip (G1.flatten ++ r)) U * cq allT (qs L skip G2.flatten) U := by
        rw [flat, qs_app]
        refine cq_app (fun x hx y hy => ?_)
        obtain ⟨t, ht, -, rfl⟩ := qs_mem hx
        obtain ⟨v, hv, -, rfl⟩ := qs_mem hy
        obtain ⟨c, hc, hvc⟩ := List.mem_flatten.mp hv
        rw [← h1, show G1 ++ r :: G2 = (G1 ++ [r]) ++ G2 by simp, List.pairwise_append] at hd
        rcases List.mem_append.mp ht with h | h
        · obtain ⟨a, ha, hta⟩ := List.mem_flatten.mp h
          exact hd.2.2 a (List.mem_append_left _ ha) c hc t hta v hvc
        · exact hd.2.2 r (by simp) c hc t h v hvc
      have split2 : cq allT (qs L skip (G1.flatten ++ r)) U = cq allT (qs L skip G1.flatten) U * cq allT (qs L skip r) U := by
        rw [qs_app]
        refine cq_app (fun x hx y hy => ?_)
        obtain ⟨t, ht, -, rfl⟩ := qs_mem hx
        obtain ⟨v, hv, -, rfl⟩ := qs_mem hy
        obtain ⟨a, ha, hta⟩ := List.mem_flatten.mp ht
        rw [← h1, List.pairwise_append] at hd
        exact hd.2.2 a ha r (by simp) t hta v hv
      rw [m_X3_ways_L9, if_neg (nI_ge (by omega) (by omega))]
      by_cases q : pr = 0
      · rw [if_pos (by rw [q]; exact nI_le (a := 0) (b := 0) (Nat.le_refl _) (by decide))]
        have z : cq allT (qs L skip G1.flatten) U = 0 := by
          rcases Nat.eq_zero_or_pos (cq allT (qs L skip G1.flatten) U) with h | h
          · exact h
          · have := hp.2.1 h; omega
        refine ⟨pr, rfl, ?_⟩
        rw [split, split2, z, Nat.zero_mul, Nat.zero_mul, q]
        exact ⟨Nat.le_refl _, fun h => h, fun _ => rfl⟩
      · rw [if_neg (nI_le0 (by omega) (by omega)), x_at (by omega) (by decide), r_bind, hst _ (by omega), tk]
        have el : (G1 ++ [r]).flatten.length = G1.flatten.length + r.length := by simp
        obtain ⟨w, g1, g2⟩ := x_groupWays (E := E) hN hP hZ hok hs hu flat hE hE2
        have := ih (G1 ++ [r]) (by rw [← h1]; simp) (pr * w) f (by
          rw [show (G1 ++ [r]).flatten = G1.flatten ++ r by simp, split2]
          exact hp.mul g2) (by simp at hf; omega)
        rw [el] at this ⊢
        rw [g1, r_bind]
        simp only [nm]
        rw [pk_mul, nI_1]
        rw [show (G1 ++ [r]).length = G1.length + 1 by simp] at this
        exact this
  obtain ⟨w, g1, g2⟩ := key G [] rfl 1 N ⟨Nat.le_refl _, fun _ => by decide, fun _ => rfl⟩ (by omega)
  refine ⟨w, g1, g2, ?_⟩
  have := cq_b (al := allT) (U := U) (qs_ok (skip := skip) hok) (Nat.le_trans (qs_len _ _ _) hZ)
  have := g2.1
  omega
