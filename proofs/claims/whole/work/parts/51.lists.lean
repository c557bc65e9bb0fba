/-! pure: a net as a list of threads (lesser knot, greater knot, colour) -/
abbrev TH : Type := Nat × Nat × Nat
def fl (L : List TH) (i : Nat) : Nat := (L.getD i (0, 0, 0)).1
def fh (L : List TH) (i : Nat) : Nat := (L.getD i (0, 0, 0)).2.1
def fc (L : List TH) (i : Nat) : Nat := (L.getD i (0, 0, 0)).2.2
def LN (K : Nat) (L : List TH) : AN := (K, L.length, fl L, fh L, fc L)
def atk (k : Nat) (x : TH) : Bool := x.1 == k || x.2.1 == k
def XL (L : List TH) (e c : Nat → Int32) : Prop := ∀ i x, L[i]? = some x → e i = nI (2 ^ x.1 + 2 ^ x.2.1) ∧ c i = nI x.2.2
def ML (K : Nat) (L : List TH) (s : Nat → Int32) : Prop := s 0 = nI K ∧ s 1 = nI L.length ∧ ∀ i x, L[i]? = some x → s (2 + 3 * i) = nI x.1 ∧ s (2 + 3 * i + 1) = nI x.2.1 ∧ s (2 + 3 * i + 2) = nI x.2.2
def okx (K : Nat) (x : TH) : Prop := x.1 < x.2.1 ∧ x.2.1 < K ∧ x.2.2 ≤ 3
def apart (x y : TH) : Prop := ¬ (x.1 = y.1 ∧ x.2.1 = y.2.1)
def WL (K : Nat) (L : List TH) : Prop := K ≤ 14 ∧ (∀ x ∈ L, okx K x) ∧ L.Pairwise apart ∧ ∀ k, L.countP (atk k) ≤ 3
theorem getD_some {L : List TH} {i : Nat} {x : TH} (h : L[i]? = some x) : L.getD i (0, 0, 0) = x := by
  rw [List.getD_eq_getElem?_getD, h]; rfl
theorem some_of {L : List TH} {i : Nat} (h : i < L.length) : ∃ x, L[i]? = some x := ⟨L[i], List.getElem?_eq_getElem h⟩
theorem lt_of {L : List TH} {i : Nat} {x : TH} (h : L[i]? = some x) : i < L.length := by
  rcases Nat.lt_or_ge i L.length with q | q
  · exact q
  · rw [List.getElem?_eq_none q] at h; cases h
theorem XL_iff {L : List TH} {e c : Nat → Int32} : XL L e c ↔ XE L.length (fl L) (fh L) e ∧ XC L.length (fc L) c := by
  constructor
  · intro h
    refine ⟨fun i hi => ?_, fun i hi => ?_⟩
    · obtain ⟨x, hx⟩ := some_of hi
      unfold em fl fh
      rw [getD_some hx]
      exact (h i x hx).1
    · obtain ⟨x, hx⟩ := some_of hi
      unfold fc
      rw [getD_some hx]
      exact (h i x hx).2
  · rintro ⟨h1, h2⟩ i x hx
    have a := h1 i (lt_of hx)
    have b := h2 i (lt_of hx)
    unfold em fl fh at a
    unfold fc at b
    rw [getD_some hx] at a b
    exact ⟨a, b⟩
theorem ML_iff {K : Nat} {L : List TH} {s : Nat → Int32} : ML K L s ↔ MN K L.length (fl L) (fh L) (fc L) s := by
  constructor
  · rintro ⟨h1, h2, h3⟩
    refine ⟨h1, h2, fun i hi => ?_⟩
    obtain ⟨x, hx⟩ := some_of hi
    unfold fl fh fc
    rw [getD_some hx]
    exact h3 i x hx
  · rintro ⟨h1, h2, h3⟩
    refine ⟨h1, h2, fun i x hx => ?_⟩
    have a := h3 i (lt_of hx)
    unfold fl fh fc at a
    rw [getD_some hx] at a
    exact a
theorem ct_take {L : List TH} {p : TH → Bool} : ∀ n, n ≤ L.length → ct (fun i => p (L.getD i (0, 0, 0))) n = (L.take n).countP p
  | 0, _ => by simp [ct]
  | n + 1, h => by
    obtain ⟨x, hx⟩ := some_of (L := L) (i := n) (by omega)
    have e : L.take (n + 1) = L.take n ++ [x] := by
      rw [List.take_succ, hx]; rfl
    rw [ct, ct_take n (by omega), e, List.countP_append, getD_some hx, List.countP_singleton]
theorem deg_L (L : List TH) (k : Nat) : deg L.length (fl L) (fh L) k = L.countP (atk k) := by
  have := ct_take (L := L) (p := atk k) L.length (Nat.le_refl _)
  rw [List.take_length] at this
  exact this
/-- each thread has two knots -/
theorem shake (K : Nat) : ∀ (L : List TH), (∀ x ∈ L, okx K x) → ∀ (f : Nat → Nat), (∀ k, f k = L.countP (atk k)) → ∀ n, K ≤ n → ((List.range n).map f).sum = 2 * L.length := by
  intro L
  induction L with
  | nil =>
    intro _ f hf n _
    have : (List.range n).map f = (List.range n).map (fun _ => 0) := List.map_congr_left (fun k _ => by rw [hf]; rfl)
    rw [this]
    have z : ∀ n, ((List.range n).map (fun _ => 0)).sum = 0 := by
      intro n
      induction n with
      | zero => rfl
      | succ n ih => simp [List.range_succ, ih]
    exact z n
  | cons x L ih =>
    intro hok f hf n hn
    obtain ⟨h1, h2, -⟩ := hok x List.mem_cons_self
    have e : ∀ k, f k = L.countP (atk k) + (if atk k x then 1 else 0) := fun k => by rw [hf, List.countP_cons]
    have one : ∀ m, ((List.range m).map f).sum = ((List.range m).map (fun k => L.countP (atk k))).sum + ((if x.1 < m then 1 else 0) + (if x.2.1 < m then 1 else 0)) := by
      intro m
      induction m with
      | zero => rfl
      | succ m ihm =>
        rw [List.range_succ, List.map_append, List.map_append, List.sum_append, List.sum_append, ihm]
        simp only [List.map_cons, List.map_nil, List.sum_cons, List.sum_nil, Nat.add_zero]
        rw [e m]
        unfold atk
        by_cases q1 : x.1 = m
        · have q2 : ¬ x.2.1 = m := by omega
          simp [q1, q2]; split <;> split <;> omega
        · by_cases q2 : x.2.1 = m
          · simp [q1, q2]; split <;> split <;> omega
          · simp [q1, q2]; split <;> split <;> split <;> split <;> omega
    rw [one n, ih (fun y hy => hok y (List.mem_cons_of_mem _ hy)) (fun k => L.countP (atk k)) (fun _ => rfl) n hn, if_pos (by omega), if_pos (by omega), List.length_cons]
    omega
theorem sum_le3 (f : Nat → Nat) (h : ∀ k, f k ≤ 3) : ∀ n, ((List.range n).map f).sum ≤ 3 * n
  | 0 => by simp
  | n + 1 => by
    have := sum_le3 f h n
    have := h n
    rw [List.range_succ, List.map_append, List.sum_append]
    simp
    omega
theorem WL.len {K : Nat} {L : List TH} (h : WL K L) : 2 * L.length ≤ 3 * K := by
  rw [← shake K L h.2.1 (fun k => L.countP (atk k)) (fun _ => rfl) K (Nat.le_refl K)]
  exact sum_le3 _ h.2.2.2 K
theorem WL.len21 {K : Nat} {L : List TH} (h : WL K L) : L.length ≤ 21 := by have := h.len; have := h.1; omega
theorem WL.wa {K : Nat} {L : List TH} (h : WL K L) : WA (LN K L) := by
  refine ⟨h.1, h.len21, fun i hi => ?_, fun i j hi hj e1 e2 => ?_, fun k => by rw [show deg (LN K L).2.1 (LN K L).2.2.1 (LN K L).2.2.2.1 k = _ from deg_L L k]; exact h.2.2.2 k⟩
  · obtain ⟨x, hx⟩ := some_of (L := L) hi
    have a := h.2.1 x (List.mem_of_getElem? hx)
    show fl L i < fh L i ∧ fh L i < K ∧ fc L i ≤ 3
    unfold fl fh fc
    rw [getD_some hx]
    exact a
  · obtain ⟨x, hx⟩ := some_of (L := L) hi
    obtain ⟨y, hy⟩ := some_of (L := L) hj
    have e1 : fl L i = fl L j := e1
    have e2 : fh L i = fh L j := e2
    unfold fl at e1
    unfold fh at e2
    rw [getD_some hx, getD_some hy] at e1 e2
    have pw := List.pairwise_iff_getElem.mp h.2.2.1
    rcases Nat.lt_trichotomy i j with q | q | q
    · have := pw i j hi hj q
      rw [List.getElem?_eq_getElem hi] at hx
      rw [List.getElem?_eq_getElem hj] at hy
      cases hx; cases hy
      exact absurd ⟨e1, e2⟩ this
    · exact q
    · have := pw j i hj hi q
      rw [List.getElem?_eq_getElem hi] at hx
      rw [List.getElem?_eq_getElem hj] at hy
      cases hx; cases hy
      exact absurd ⟨e1.symm, e2.symm⟩ this
theorem WL.sub {K : Nat} {L L' : List TH} (h : WL K L) (hs : L'.Sublist L) : WL K L' := ⟨h.1, fun x hx => h.2.1 x (hs.subset hx), h.2.2.1.sublist hs, fun k => Nat.le_trans hs.countP_le (h.2.2.2 k)⟩
theorem WL.wt {K : Nat} {L : List TH} (h : WL K L) : wt L.length (fl L) (fh L) (fc L) := h.wa.t
-- a thread is taken away
theorem erase_at (L : List TH) (t i : Nat) : (L.eraseIdx t)[i]? = if i < t then L[i]? else L[i + 1]? := List.getElem?_eraseIdx
theorem for_up2 {α β : Type} (F : Nat → Nat → α → Option β) (a T : Nat) (acc : Nat → α) (res : Option β) (hend : ∀ n, F (n + 1) T (acc T) = res) (hstep : ∀ n i, a ≤ i → i < T → F (n + 1) i (acc i) = F n (i + 1) (acc (i + 1))) : ∀ (d n i : Nat), a ≤ i → i + d = T → d < n → F n i (acc i) = res := by
  intro d
  induction d with
  | zero =>
    intro n i ha hi hn
    obtain ⟨n, rfl⟩ : ∃ m, n = m + 1 := ⟨n - 1, by omega⟩
    have : i = T := by omega
    rw [this]
    exact hend n
  | succ d ih =>
    intro n i ha hi hn
    obtain ⟨n, rfl⟩ : ∃ m, n = m + 1 := ⟨n - 1, by omega⟩
    rw [hstep n i ha (by omega)]
    exact ih n (i + 1) (by omega) (by omega) (by omega)
theorem x_dropThread {N t : Nat} {L : List TH} {e c : Nat → Int32} (hN : 1000 ≤ N) (hT : L.length ≤ 21) (h : XL L e c) (ht : t < L.length) : ∃ e' c', m_X2_dropThread N (nI L.length) e c (nI t) = some (nI (L.length - 1), e', c') ∧ XL (L.eraseIdx t) e' c' := by
  refine ⟨pu e (fun k => e (k + t + 1)) t (L.length - 1 - t), pu c (fun k => c (k + t + 1)) t (L.length - 1 - t), ?_, fun i x hx => ?_⟩
  · unfold m_X2_dropThread
    rw [x_hasThread hT, r_bind, if_pos (show ∃ i, i < L.length ∧ nI t = nI i from ⟨t, ht, rfl⟩), if_neg (by decide)]
    simp only [jn, nm]
    refine Eq.trans (b := m_X2_dropThread_L11 N (nI L.length) (fun a b => some (nI L.length - 1, a, b)) N (nI t) (pu e (fun k => e (k + t + 1)) t (t - t)) (pu c (fun k => c (k + t + 1)) t (t - t))) (by rw [Nat.sub_self, pu_0, pu_0]) ?_
    refine for_up2 (fun n i (acc : (Nat → Int32) × (Nat → Int32)) => m_X2_dropThread_L11 N (nI L.length) (fun a b => some (nI L.length - 1, a, b)) n (nI i) acc.1 acc.2) t (L.length - 1) (fun i => (pu e (fun k => e (k + t + 1)) t (i - t), pu c (fun k => c (k + t + 1)) t (i - t))) _ ?_ ?_ (L.length - 1 - t) N t (Nat.le_refl t) (by omega) (by omega)
    · intro n
      show m_X2_dropThread_L11 N (nI L.length) _ (n + 1) (nI (L.length - 1)) _ _ = _
      rw [m_X2_dropThread_L11, nI_1, if_pos (nI_le (by omega) (by omega)), show (1 : Int32) = nI 1 from rfl, pk_sub (by omega)]
    · intro n i hi hj
      show m_X2_dropThread_L11 N (nI L.length) _ (n + 1) (nI i) (pu e (fun k => e (k + t + 1)) t (i - t)) (pu c (fun k => c (k + t + 1)) t (i - t)) = m_X2_dropThread_L11 N (nI L.length) _ n (nI (i + 1)) (pu e (fun k => e (k + t + 1)) t (i + 1 - t)) (pu c (fun k => c (k + t + 1)) t (i + 1 - t))
      rw [m_X2_dropThread_L11, nI_1, if_neg (nI_ge (by omega) (by omega)), x_at (by omega) (by decide), r_bind, x_put (by omega) (by decide), r_bind, x_at (by omega) (by decide), r_bind, x_put (by omega) (by decide), r_bind]
      have a := pu_s e (fun k => e (k + t + 1)) t (i - t)
      have b := pu_s c (fun k => c (k + t + 1)) t (i - t)
      rw [show t + (i - t) = i by omega, show i - t + 1 = i + 1 - t by omega, show i - t + t + 1 = i + 1 by omega] at a b
      rw [← a, ← b]
      have z : ∀ f : Nat → Int32, pu f (fun k => f (k + t + 1)) t (i - t) (i + 1) = f (i + 1) := fun f => by
        unfold pu
        rw [if_neg (by omega)]
      rw [z, z]
  · rw [erase_at] at hx
    have hl : i < L.length - 1 := by
      split at hx
      · omega
      · have := lt_of hx; omega
    unfold pu
    by_cases q : i < t
    · rw [if_pos q] at hx
      rw [if_neg (by omega), if_neg (by omega)]
      exact h i x hx
    · rw [if_neg q] at hx
      rw [if_pos (by omega), if_pos (by omega)]
      dsimp only
      rw [show i - t + t + 1 = i + 1 by omega]
      exact h (i + 1) x hx
theorem m_dropThread {N K t : Nat} {L : List TH} {s : Nat → Int32} (hN : 1000 ≤ N) (hT : L.length ≤ 21) (h : ML K L s) (ht : t < L.length) : ∃ s', m_X7_dropThread N s (nI t) = some s' ∧ ML K (L.eraseIdx t) s' := by
  obtain ⟨h0, h1, h2⟩ := h
  refine ⟨pu (upd s 1 (nI (L.length - 1))) (fun k => s (k + (2 + 3 * t) + 3)) (2 + 3 * t) (3 * (L.length - 1 - t)), ?_, ?_⟩
  · unfold m_X7_dropThread
    rw [r_1 (by decide), h1, show (1 : Int32) = nI 1 from rfl, r_awr (by omega) (by omega), nI_clamp (by omega), pk_sub (by omega)]
    simp only [nm]
    have e0 : (2 : Int32) + 3 * nI t = nI (2 + 3 * t) := by
      show nI 2 + nI 3 * nI t = _
      rw [pk_mul, nI_add]
    rw [e0]
    refine Eq.trans (b := m_X7_dropThread_L16 N N (nI (2 + 3 * t)) (pu (upd s 1 (nI (L.length - 1))) (fun k => s (k + (2 + 3 * t) + 3)) (2 + 3 * t) (2 + 3 * t - (2 + 3 * t)))) (by rw [Nat.sub_self, pu_0]) ?_
    refine for_up2 (fun n i (acc : Nat → Int32) => m_X7_dropThread_L16 N n (nI i) acc) (2 + 3 * t) (2 + 3 * (L.length - 1)) (fun i => pu (upd s 1 (nI (L.length - 1))) (fun k => s (k + (2 + 3 * t) + 3)) (2 + 3 * t) (i - (2 + 3 * t))) _ ?_ ?_ (3 * (L.length - 1 - t)) N (2 + 3 * t) (Nat.le_refl _) (by omega) (by omega)
    · intro n
      show m_X7_dropThread_L16 N (n + 1) (nI (2 + 3 * (L.length - 1))) _ = _
      have z : pu (upd s 1 (nI (L.length - 1))) (fun k => s (k + (2 + 3 * t) + 3)) (2 + 3 * t) (2 + 3 * (L.length - 1) - (2 + 3 * t)) 1 = nI (L.length - 1) := by
        unfold pu
        rw [if_neg (by omega), upd_s]
      have e1 : (2 : Int32) + 3 * nI (L.length - 1) = nI (2 + 3 * (L.length - 1)) := by
        show nI 2 + nI 3 * nI _ = _
        rw [pk_mul, nI_add]
      rw [m_X7_dropThread_L16, r_1 (by decide), z, e1, if_pos (nI_le (Nat.le_refl _) (by omega)), show 2 + 3 * (L.length - 1) - (2 + 3 * t) = 3 * (L.length - 1 - t) by omega]
    · intro n i hi hj
      show m_X7_dropThread_L16 N (n + 1) (nI i) (pu (upd s 1 (nI (L.length - 1))) (fun k => s (k + (2 + 3 * t) + 3)) (2 + 3 * t) (i - (2 + 3 * t))) = m_X7_dropThread_L16 N n (nI (i + 1)) (pu (upd s 1 (nI (L.length - 1))) (fun k => s (k + (2 + 3 * t) + 3)) (2 + 3 * t) (i + 1 - (2 + 3 * t)))
      have z : pu (upd s 1 (nI (L.length - 1))) (fun k => s (k + (2 + 3 * t) + 3)) (2 + 3 * t) (i - (2 + 3 * t)) 1 = nI (L.length - 1) := by
        unfold pu
        rw [if_neg (by omega), upd_s]
      have e1 : (2 : Int32) + 3 * nI (L.length - 1) = nI (2 + 3 * (L.length - 1)) := by
        show nI 2 + nI 3 * nI _ = _
        rw [pk_mul, nI_add]
      have e2 : nI i + (3 : Int32) = nI (i + 3) := nI_add i 3
      have z3 : pu (upd s 1 (nI (L.length - 1))) (fun k => s (k + (2 + 3 * t) + 3)) (2 + 3 * t) (i - (2 + 3 * t)) (i + 3) = s (i + 3) := by
        unfold pu
        rw [if_neg (by omega), upd_n (by omega)]
      rw [m_X7_dropThread_L16, r_1 (by decide), z, e1, if_neg (nI_ge (by omega) (by omega)), e2, r_ard (by omega) (by omega), r_awr (by omega) (by omega), nI_clamp (by omega), z3, nI_1]
      simp only [nm]
      have a := pu_s (upd s 1 (nI (L.length - 1))) (fun k => s (k + (2 + 3 * t) + 3)) (2 + 3 * t) (i - (2 + 3 * t))
      rw [show 2 + 3 * t + (i - (2 + 3 * t)) = i by omega, show i - (2 + 3 * t) + 1 = i + 1 - (2 + 3 * t) by omega, show i - (2 + 3 * t) + (2 + 3 * t) + 3 = i + 3 by omega] at a
      rw [← a]
  · have len : (L.eraseIdx t).length = L.length - 1 := by rw [List.length_eraseIdx_of_lt ht]
    refine ⟨?_, ?_, fun i x hx => ?_⟩
    · unfold pu
      rw [if_neg (by omega), upd_n (by decide)]
      exact h0
    · unfold pu
      rw [if_neg (by omega), upd_s, len]
    · rw [erase_at] at hx
      have hl : i < L.length - 1 := by
        split at hx
        · omega
        · have := lt_of hx; omega
      unfold pu
      by_cases q : i < t
      · rw [if_pos q] at hx
        rw [if_neg (by omega), if_neg (by omega), if_neg (by omega), upd_n (by omega), upd_n (by omega), upd_n (by omega)]
        exact h2 i x hx
      · rw [if_neg q] at hx
        rw [if_pos (by omega), if_pos (by omega), if_pos (by omega)]
        have a := h2 (i + 1) x hx
        dsimp only
        rw [show 2 + 3 * i - (2 + 3 * t) + (2 + 3 * t) + 3 = 2 + 3 * (i + 1) by omega, show 2 + 3 * i + 1 - (2 + 3 * t) + (2 + 3 * t) + 3 = 2 + 3 * (i + 1) + 1 by omega, show 2 + 3 * i + 2 - (2 + 3 * t) + (2 + 3 * t) + 3 = 2 + 3 * (i + 1) + 2 by omega]
        exact a
