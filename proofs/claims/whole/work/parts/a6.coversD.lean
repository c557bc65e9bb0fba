/-! the reference's way through all covers -/
section CD
variable {N K : Nat} {L : List TH} {s : Nat → Int32}
theorem em_or {lo hi : Nat → Nat} {t : Nat} (h : lo t < hi t) (x : Nat) : (x ||| 2 ^ lo t) ||| 2 ^ hi t = x ||| em lo hi t := by
  rw [Nat.or_assoc, or_bit (p2lt h)]
  rfl
theorem cvl_full (hW : WL K L) : ∀ n m, n ≤ L.length → cvl (2 ^ K - 1) (fl L) (fh L) n (2 ^ K - 1) m = [m] := by
  intro n
  induction n with
  | zero => intro m _; show (if 2 ^ K - 1 = 2 ^ K - 1 then [m] else []) = [m]; rw [if_pos rfl]
  | succ n ih =>
    intro m hn
    have w := hW.wa.2.2.1 n (by show n < L.length; omega)
    have w1 : fl L n < fh L n := w.1
    have w2 : fh L n < K := w.2.1
    show cvl (2 ^ K - 1) (fl L) (fh L) n (2 ^ K - 1) m ++ (if 2 ^ K - 1 &&& em (fl L) (fh L) n = 0 then _ else []) = [m]
    rw [if_neg, List.append_nil, ih m (by omega)]
    intro z
    exact dj_iff.mp z (fh L n) (by rw [tb_all]; exact decide_eq_true w2) (by rw [tb_em w1]; unfold isat; simp)
theorem m_deeper (hW : WL K L) (hM : ML K L s) {deep t cov m : Nat} {pk cv tk : Nat → Int32} (hd : deep + 1 < 8) (ht : t < L.length) (h1 : cv deep = nI cov) (h2 : tk deep = nI m) : m_X7_goesDeeper N s pk cv tk (nI deep) (nI t) = some (nI (deep + 1), upd pk (deep + 1) (-1), upd cv (deep + 1) (nI (cov ||| em (fl L) (fh L) t)), upd tk (deep + 1) (nI (m ||| 2 ^ t))) := by
  have h21 := hW.len21
  have hS := ML_iff.mp hM
  have w := hW.wa.2.2.1 t ht
  have w1 : fl L t < fh L t := w.1
  have w2 : fh L t < K := w.2.1
  have hK := hW.1
  unfold m_X7_goesDeeper
  rw [nI_1, r_awr hd (by omega), nI_clamp (by omega)]
  simp only [nm]
  rw [r_ard (by omega) (by omega), h1, m_of0 h21 hS ht, r_bind, m_of1 h21 hS ht, r_bind, r_awr hd (by omega), r_ard (by omega) (by omega), h2, r_awr hd (by omega), sh1 (by omega), sh1 (by omega), sh1 (by omega), nor, nor, nor, em_or w1]
abbrev R10 : Type := Option (Int32 × (Nat → Int32) × (Nat → Int32) × (Nat → Int32) × (Nat → Int32))
theorem c_leaf (hN : 1000 ≤ N) {deep m n : Nat} {f : Nat → Nat} {sets pk cv tk : Nat → Int32} (hd : deep < 8) (hm : m < 2 ^ 21) (h1 : cv deep = nI (2 ^ K - 1)) (h2 : tk deep = nI m) (hS : SRr n f sets) (hn : n < 256) : ∃ f' sets', SRr (n + 1) f' sets' ∧ (∀ x, cnf x f' (n + 1) = cnf x f n + if m = x then 1 else 0) ∧ ∀ w, m_X7_findCovers_L39 N s (nI (2 ^ K - 1)) (w + 1) (nI deep) (nI n) sets pk cv tk = m_X7_findCovers_L39 N s (nI (2 ^ K - 1)) w (nI deep + -1) (nI (n + 1)) sets' pk cv tk := by
  obtain ⟨f', sets', g1, g2, g3⟩ := m_stores hN hS hn hm
  refine ⟨f', sets', g2, g3, fun w => ?_⟩
  rw [m_X7_findCovers_L39, if_neg (nI_pos (by omega)), r_ard (by omega) (by omega), h1, if_pos rfl, r_ard (by omega) (by omega), h2, g1, r_bind]
theorem c_step (hN : 1000 ≤ N) (hW : WL K L) (hM : ML K L s) {deep cov m n p : Nat} {sets pk cv tk : Nat → Int32} (hd : deep < 8) (hc : cov < 2 ^ K) (hne : cov ≠ 2 ^ K - 1) (h1 : cv deep = nI cov) (h2 : tk deep = nI m) (h3 : pk deep + 1 = nI p) (hp : p ≤ L.length) : ∃ k, k < K ∧ cov.testBit k = false ∧ k = lb 31 (ad (2 ^ K - 1) cov) ∧ ∀ w, m_X7_findCovers_L39 N s (nI (2 ^ K - 1)) (w + 1) (nI deep) (nI n) sets pk cv tk = if nxc (opt (fl L) (fh L) cov k) (L.length - p) p = L.length then m_X7_findCovers_L39 N s (nI (2 ^ K - 1)) w (nI deep + -1) (nI n) sets (upd pk deep (nI L.length)) cv tk else Option.bind (m_X7_goesDeeper N s (upd pk deep (nI (nxc (opt (fl L) (fh L) cov k) (L.length - p) p))) cv tk (nI deep) (nI (nxc (opt (fl L) (fh L) cov k) (L.length - p) p))) (fun (r_33, f_picks_34, f_covered_35, f_takenThreads_36) => (m_X7_findCovers_L39 N s (nI (2 ^ K - 1)) w r_33 (nI n) sets f_picks_34 f_covered_35 f_takenThreads_36)) := by
  have h21 := hW.len21
  have hK := hW.1
  have aK := allK hK
  have cin : ∀ j, cov.testBit j = true → (2 ^ K - 1).testBit j = true := by
    intro j hj
    rw [tb_all]
    exact decide_eq_true (tb_lt hc hj)
  have apos : 0 < ad (2 ^ K - 1) cov := by
    rcases or_all cin with q | ⟨j, q1, q2⟩
    · exact (hne q).elim
    · rcases Nat.eq_zero_or_pos (ad (2 ^ K - 1) cov) with z | z
      · have := tb_ad (2 ^ K - 1) cov j
        rw [z, Nat.zero_testBit, q1, q2] at this
        cases this
      · exact z
  have al : ad (2 ^ K - 1) cov < 2 ^ 31 := by have := ad_lt (b := cov) aK; omega
  have kin := lb_in 31 _ al apos
  rw [tb_ad, Bool.and_eq_true, Bool.not_eq_true', tb_all] at kin
  have kK : lb 31 (ad (2 ^ K - 1) cov) < K := of_decide_eq_true kin.1
  refine ⟨lb 31 (ad (2 ^ K - 1) cov), kK, kin.2, rfl, fun w => ?_⟩
  have c14 : cov < 2 ^ 14 := Nat.lt_of_lt_of_le hc (p2le hK)
  obtain ⟨f1, f2, -, -⟩ := nx_first (p := opt (fl L) (fh L) cov (lb 31 (ad (2 ^ K - 1) cov))) (L.length - p) p
  rw [m_X7_findCovers_L39, if_neg (nI_pos (by omega)), r_ard (by omega) (by omega), h1, if_neg (fun z => hne ((nI_eq (by omega) (by omega)).mp z)), r_ard (by omega) (by omega), h1, nandn, m_lowest hN al apos, r_bind, r_ard (by omega) (by omega), r_ard (by omega) (by omega), h1, m_pick hN hW hM (by omega) c14 kin.2 h3 hp, r_bind, r_awr (by omega) (by omega), nI_clamp (by omega)]
  simp only [nm]
  rw [r_1 (by decide), hM.2.1]
  by_cases q : nxc (opt (fl L) (fh L) cov (lb 31 (ad (2 ^ K - 1) cov))) (L.length - p) p = L.length
  · rw [if_pos q, if_pos (nI_le (by omega) (by omega)), ← plusm1, q]
  · rw [if_neg q, if_neg (nI_ge (by omega) (by omega))]
theorem dfsC (hN : 1000 ≤ N) (hW : WL K L) (hM : ML K L s) : ∀ (r deep cov m n : Nat) (f : Nat → Nat) (sets pk cv tk : Nat → Int32), deep + r = 8 → frk K cov + 2 * deep = K → cov < 2 ^ K → m < 2 ^ 21 → cv deep = nI cov → tk deep = nI m → pk deep = -1 → SRr n f sets → n + (cvl (2 ^ K - 1) (fl L) (fh L) L.length cov m).length ≤ 80 → ∃ (used : Nat) (f' : Nat → Nat) (sets' pk' cv' tk' : Nat → Int32), used ≤ 50 ^ r ∧ (∀ i, i < deep → pk' i = pk i ∧ cv' i = cv i ∧ tk' i = tk i) ∧ SRr (n + (cvl (2 ^ K - 1) (fl L) (fh L) L.length cov m).length) f' sets' ∧ (∀ x, cnf x f' (n + (cvl (2 ^ K - 1) (fl L) (fh L) L.length cov m).length) = cnf x f n + cn x (cvl (2 ^ K - 1) (fl L) (fh L) L.length cov m)) ∧ ∀ w, m_X7_findCovers_L39 N s (nI (2 ^ K - 1)) (w + used) (nI deep) (nI n) sets pk cv tk = m_X7_findCovers_L39 N s (nI (2 ^ K - 1)) w (nI deep + -1) (nI (n + (cvl (2 ^ K - 1) (fl L) (fh L) L.length cov m).length)) sets' pk' cv' tk' := by
  have h21 := hW.len21
  have hK := hW.1
  have hwf : wf K L.length (fl L) (fh L) (fc L) := hW.wa
  intro r
  induction r with
  | zero => intro deep cov m n f sets pk cv tk h1 h2; omega
  | succ r ih =>
    intro deep cov m n f sets pk cv tk hr hf hc hm h1 h2 h3 hS hn
    have p50 : 1 ≤ 50 ^ r := Nat.one_le_pow _ _ (by decide)
    have p51 : 50 ^ (r + 1) = 50 * 50 ^ r := by rw [Nat.pow_succ, Nat.mul_comm]
    by_cases hall : cov = 2 ^ K - 1
    · rw [hall] at h1 hn ⊢
      rw [cvl_full hW _ _ (Nat.le_refl _)] at hn ⊢
      rw [List.length_singleton] at hn ⊢
      obtain ⟨f', sets', g1, g2, g3⟩ := c_leaf (s := s) (pk := pk) hN (by omega) hm h1 h2 hS (by omega)
      refine ⟨1, f', sets', pk, cv, tk, by omega, fun i hi => ⟨rfl, rfl, rfl⟩, g1, fun x => ?_, g3⟩
      rw [g2 x]
      rfl
    · -- the threads of the lowest free knot, one after the other
      obtain ⟨k, kK, kc, ek, -⟩ := c_step (n := n) (sets := sets) hN hW hM (by omega) hc hall h1 h2 (show pk deep + 1 = nI 0 by rw [h3]; rfl) (Nat.zero_le _)
      have inner : ∀ (d p n : Nat) (f : Nat → Nat) (sets pk cv tk : Nat → Int32), p + d = L.length → cv deep = nI cov → tk deep = nI m → pk deep + 1 = nI p → SRr n f sets → n + sG (fun t => if opt (fl L) (fh L) cov k t = true then (cvl (2 ^ K - 1) (fl L) (fh L) L.length (cov ||| em (fl L) (fh L) t) (m ||| 2 ^ t)).length else 0) d p ≤ 80 → ∃ (used : Nat) (f' : Nat → Nat) (sets' pk' cv' tk' : Nat → Int32), used ≤ d * (50 ^ r + 1) + 1 ∧ (∀ i, i < deep → pk' i = pk i ∧ cv' i = cv i ∧ tk' i = tk i) ∧ SRr (n + sG (fun t => if opt (fl L) (fh L) cov k t = true then (cvl (2 ^ K - 1) (fl L) (fh L) L.length (cov ||| em (fl L) (fh L) t) (m ||| 2 ^ t)).length else 0) d p) f' sets' ∧ (∀ x, cnf x f' (n + sG (fun t => if opt (fl L) (fh L) cov k t = true then (cvl (2 ^ K - 1) (fl L) (fh L) L.length (cov ||| em (fl L) (fh L) t) (m ||| 2 ^ t)).length else 0) d p) = cnf x f n + sG (fun t => if opt (fl L) (fh L) cov k t = true then cn x (cvl (2 ^ K - 1) (fl L) (fh L) L.length (cov ||| em (fl L) (fh L) t) (m ||| 2 ^ t)) else 0) d p) ∧ ∀ w, m_X7_findCovers_L39 N s (nI (2 ^ K - 1)) (w + used) (nI deep) (nI n) sets pk cv tk = m_X7_findCovers_L39 N s (nI (2 ^ K - 1)) w (nI deep + -1) (nI (n + sG (fun t => if opt (fl L) (fh L) cov k t = true then (cvl (2 ^ K - 1) (fl L) (fh L) L.length (cov ||| em (fl L) (fh L) t) (m ||| 2 ^ t)).length else 0) d p)) sets' pk' cv' tk' := by
        intro d
        induction d using Nat.strongRecOn with
        | ind d ihd =>
        intro p n f sets pk cv tk hp g1 g2 g3 gS gn
        obtain ⟨k', -, -, ek', stp⟩ := c_step (n := n) (sets := sets) hN hW hM (by omega) hc hall g1 g2 g3 (by omega)
        have ekk : k' = k := by rw [ek, ek']
        subst ekk
        rw [show L.length - p = d by omega] at stp
        obtain ⟨a1, a2, a3, a4⟩ := nx_first (p := opt (fl L) (fh L) cov k') d p
        have zL : ∀ j, opt (fl L) (fh L) cov k' j = false → (fun t => if opt (fl L) (fh L) cov k' t = true then (cvl (2 ^ K - 1) (fl L) (fh L) L.length (cov ||| em (fl L) (fh L) t) (m ||| 2 ^ t)).length else 0) j = 0 := fun j hj => if_neg (by rw [hj]; exact bff)
        have zC : ∀ x j, opt (fl L) (fh L) cov k' j = false → (fun t => if opt (fl L) (fh L) cov k' t = true then cn x (cvl (2 ^ K - 1) (fl L) (fh L) L.length (cov ||| em (fl L) (fh L) t) (m ||| 2 ^ t)) else 0) j = 0 := fun x j hj => if_neg (by rw [hj]; exact bff)
        obtain ⟨l0, l1⟩ := a4 _ zL
        by_cases q : nxc (opt (fl L) (fh L) cov k') d p = L.length
        · have l0' := l0 (by omega)
          rw [l0'] at gn ⊢
          refine ⟨1, f, sets, upd pk deep (nI L.length), cv, tk, by omega, fun i hi => ⟨by rw [upd_n (by omega)], rfl, rfl⟩, gS, fun x => ?_, fun w => ?_⟩
          · rw [(a4 _ (zC x)).1 (by omega)]
            rfl
          · rw [stp w, if_pos q]
            rfl
        · have tl : nxc (opt (fl L) (fh L) cov k') d p < p + d := by omega
          have ot := a3 tl
          generalize nxc (opt (fl L) (fh L) cov k') d p = t at *
          have htL : t < L.length := by omega
          obtain ⟨u, hku, hu, -, o2, fk, fu⟩ := two_ends hwf htL ot
          have fr2 := frk_two hwf htL hku kK hu ot o2 fk fu
          have l1' := l1 tl
          rw [show p + d - (t + 1) = L.length - (t + 1) by omega] at l1'
          rw [l1'] at gn ⊢
          have ift : (fun t => if opt (fl L) (fh L) cov k' t = true then (cvl (2 ^ K - 1) (fl L) (fh L) L.length (cov ||| em (fl L) (fh L) t) (m ||| 2 ^ t)).length else 0) t = (cvl (2 ^ K - 1) (fl L) (fh L) L.length (cov ||| em (fl L) (fh L) t) (m ||| 2 ^ t)).length := if_pos ot
          rw [if_pos ot] at gn ⊢
          have w := hW.wa.2.2.1 t htL
          have w1 : fl L t < fh L t := w.1
          have w2 : fh L t < K := w.2.1
          have el : em (fl L) (fh L) t < 2 ^ K := em_lt w1 w2
          obtain ⟨u1, f1, sets1, pk1, cv1, tk1, b1, b2, b3, b4, b5⟩ := ih (deep + 1) (cov ||| em (fl L) (fh L) t) (m ||| 2 ^ t) n f sets (upd (upd pk deep (nI t)) (deep + 1) (-1)) (upd cv (deep + 1) (nI (cov ||| em (fl L) (fh L) t))) (upd tk (deep + 1) (nI (m ||| 2 ^ t))) (by omega) (by omega) (or_lt hc el) (or_lt hm (p2lt (by omega))) upd_s upd_s upd_s gS (by omega)
          obtain ⟨b6, b7, b8⟩ := b2 deep (by omega)
          rw [upd_n (by omega), upd_s] at b6
          rw [upd_n (by omega), g1] at b7
          rw [upd_n (by omega), g2] at b8
          obtain ⟨u2, f2, sets2, pk2, cv2, tk2, d1, d2, d3, d4, d5⟩ := ihd (L.length - (t + 1)) (by omega) (t + 1) (n + (cvl (2 ^ K - 1) (fl L) (fh L) L.length (cov ||| em (fl L) (fh L) t) (m ||| 2 ^ t)).length) f1 sets1 pk1 cv1 tk1 (by omega) b7 b8 (by rw [b6, nI_1]) b3 (by omega)
          have kk : L.length - (t + 1) + 1 ≤ d := by omega
          have km := Nat.mul_le_mul_right (50 ^ r + 1) kk
          rw [Nat.add_mul, Nat.one_mul] at km
          rw [Nat.add_assoc] at d3 d4 d5
          refine ⟨u2 + u1 + 1, f2, sets2, pk2, cv2, tk2, by omega, fun i hi => ?_, d3, fun x => ?_, fun w => ?_⟩
          · obtain ⟨e1, e2, e3⟩ := d2 i hi
            obtain ⟨e4, e5, e6⟩ := b2 i (by omega)
            rw [e1, e2, e3, e4, e5, e6, upd_n (by omega), upd_n (by omega), upd_n (by omega), upd_n (by omega)]
            exact ⟨rfl, rfl, rfl⟩
          · have c1 := (a4 _ (zC x)).2 tl
            rw [show p + d - (t + 1) = L.length - (t + 1) by omega] at c1
            have iftc : (fun t => if opt (fl L) (fh L) cov k' t = true then cn x (cvl (2 ^ K - 1) (fl L) (fh L) L.length (cov ||| em (fl L) (fh L) t) (m ||| 2 ^ t)) else 0) t = cn x (cvl (2 ^ K - 1) (fl L) (fh L) L.length (cov ||| em (fl L) (fh L) t) (m ||| 2 ^ t)) := if_pos ot
            rw [if_pos ot] at c1
            rw [c1, d4 x, b4 x]
            omega
          · rw [show w + (u2 + u1 + 1) = (w + u2 + u1) + 1 by omega, stp, if_neg q, m_deeper hW hM (by omega) htL g1 g2, r_bind]
            show m_X7_findCovers_L39 N s (nI (2 ^ K - 1)) (w + u2 + u1) (nI (deep + 1)) (nI n) sets _ _ _ = _
            rw [b5, back1, d5]
      have hlt : ∀ t, t < L.length → fl L t < fh L t := fun t h => (hwf.2.2.1 t h).1
      have ak : (2 ^ K - 1).testBit k = true := by rw [tb_all]; exact decide_eq_true kK
      have sl := cvl_at (all := 2 ^ K - 1) (T := L.length) List.length rfl (fun A B => List.length_append) hlt ak L.length cov m (Nat.le_refl _) kc
      have sc := fun x => cvl_at (all := 2 ^ K - 1) (T := L.length) (cn x) rfl (cn_app x) hlt ak L.length cov m (Nat.le_refl _) kc
      have s0 := fun (g : Nat → Nat) => sG_sm g L.length 0
      have sl' : (cvl (2 ^ K - 1) (fl L) (fh L) L.length cov m).length = sG (fun t => if opt (fl L) (fh L) cov k t = true then (cvl (2 ^ K - 1) (fl L) (fh L) L.length (cov ||| em (fl L) (fh L) t) (m ||| 2 ^ t)).length else 0) L.length 0 := by
        rw [sl]
        have := s0 (fun t => if opt (fl L) (fh L) cov k t = true then (cvl (2 ^ K - 1) (fl L) (fh L) L.length (cov ||| em (fl L) (fh L) t) (m ||| 2 ^ t)).length else 0)
        rw [Nat.zero_add] at this
        rw [← this]
        exact Nat.zero_add _
      rw [sl'] at hn ⊢
      obtain ⟨used, f', sets', pk', cv', tk', e1, e2, e3, e4, e5⟩ := inner L.length 0 n f sets pk cv tk (by omega) h1 h2 (by rw [h3]; rfl) hS hn
      have km := Nat.mul_le_mul_right (50 ^ r + 1) h21
      refine ⟨used, f', sets', pk', cv', tk', by omega, e2, e3, fun x => ?_, e5⟩
      rw [e4 x, sc x]
      have := s0 (fun t => if opt (fl L) (fh L) cov k t = true then cn x (cvl (2 ^ K - 1) (fl L) (fh L) L.length (cov ||| em (fl L) (fh L) t) (m ||| 2 ^ t)) else 0)
      rw [Nat.zero_add] at this
      rw [← this]
      have z : sm (fun t => if opt (fl L) (fh L) cov k t = true then cn x (cvl (2 ^ K - 1) (fl L) (fh L) L.length (cov ||| em (fl L) (fh L) t) (m ||| 2 ^ t)) else 0) 0 = 0 := rfl
      rw [z, Nat.zero_add]
theorem m_findCovers (hN : NB ≤ N) (hW : WL K L) (hM : ML K L s) {many : Int32} {sets pk cv tk : Nat → Int32} : ∃ (f : Nat → Nat) (sets' pk' cv' tk' : Nat → Int32), m_X7_findCovers N s many sets pk cv tk = some (nI (cvl (2 ^ K - 1) (fl L) (fh L) L.length 0 0).length, sets', pk', cv', tk') ∧ SRr (cvl (2 ^ K - 1) (fl L) (fh L) L.length 0 0).length f sets' ∧ ∀ x, cnf x f (cvl (2 ^ K - 1) (fl L) (fh L) L.length 0 0).length = cn x (cvl (2 ^ K - 1) (fl L) (fh L) L.length 0 0) := by
  have hK := hW.1
  have b80 : (cvl (2 ^ K - 1) (fl L) (fh L) L.length 0 0).length ≤ 80 := covers_80 hW.wa
  have f0 : frk K 0 = K := by
    have : ∀ n, frk n 0 = n := by
      intro n
      induction n with
      | zero => rfl
      | succ n ih =>
        show frk n 0 + (if (!(0 : Nat).testBit n) = true then 1 else 0) = n + 1
        rw [ih, Nat.zero_testBit]
        rfl
    exact this K
  have pK := Nat.two_pow_pos K
  obtain ⟨used, f, sets', pk', cv', tk', h1, -, h3, h4, h5⟩ := dfsC (NB_le hN) hW hM 8 0 0 0 0 (fun _ => 0) sets (upd pk 0 (-1)) (upd cv 0 0) (upd tk 0 0) rfl (by omega) pK (by decide) upd_s upd_s upd_s ⟨fun i hi => absurd hi (Nat.not_lt_zero i), fun i j _ hj => absurd hj (Nat.not_lt_zero j)⟩ (by omega)
  have big : 50 ^ 8 < N := Nat.lt_of_lt_of_le (show 50 ^ 8 < 5 ^ 40 by decide +kernel) hN
  obtain ⟨w, hw⟩ : ∃ w, N - used = w + 1 := ⟨N - used - 1, by omega⟩
  have g := h5 (N - used)
  rw [show N - used + used = N by omega, hw] at g
  rw [Nat.zero_add] at h3 g
  refine ⟨f, sets', pk', cv', tk', ?_, h3, fun x => ?_⟩
  · unfold m_X7_findCovers
    rw [r_0 (by decide), hM.1, sh1 (by omega), nI_m1 pK]
    simp only [nm]
    rw [w_0 (by decide), w_0 (by decide), w_0 (by decide), cl_0]
    refine Eq.trans g ?_
    rw [m_X7_findCovers_L39, if_pos (show nI 0 + -1 < 0 by decide)]
  · have := h4 x
    rw [Nat.zero_add] at this
    rw [this]
    exact Nat.zero_add _
end CD
