-- 51.lists.lean.txt
section
/-! pure: a net as a list of threads (lesser knot, greater knot, colour) -/
abbrev TH : Type := Nat × Nat × Nat
def fl (L : List TH) (i : Nat) : Nat := (L.getD i (0, 0, 0)).1
def fh (L : List TH) (i : Nat) : Nat := (L.getD i (0, 0, 0)).2.1
def fc (L : List TH) (i : Nat) : Nat := (L.getD i (0, 0, 0)).2.2
def LN (K : Nat) (L : List TH) : AN := (K, L.length, fl L, fh L, fc L)
def atk (k : Nat) (x : TH) : Bool := x.1 == k || x.2.1 == k
def XL (L : List TH) (e c : Nat → Int32) : Prop := ∀ i x, L[i]? = some x → e i = nI (2 ^ x.1 + 2 ^ x.2.1) ∧ c i = nI x.2.2
def ML (K : Nat) (L : List TH) (s : Nat → Int32) : Prop := s 0 = nI K ∧ s 1 = nI L.length ∧ ∀ i x, L[i]? = some x → s (2 + 3 * i) = nI x.1 ∧ s (2 + 3 * i + 1) = nI x.2.1 ∧ s (2 + 3 * i + 2) = nI x.2.2
def okx (K : Nat) (x : TH) : Prop := x.1 < x.2.1 ∧ x.2.1 < K ∧ x.2.2 ≤ 3
def apart (x y : TH) : Prop := ¬ (x.1 = y.1 ∧ x.2.1 = y.2.1)
def WL (K : Nat) (L : List TH) : Prop := K ≤ 14 ∧ (∀ x ∈ L, okx K x) ∧ L.Pairwise apart ∧ ∀ k, L.countP (atk k) ≤ 3
theorem getD_some {L : List TH} {i : Nat} {x : TH} (h : L[i]? = some x) : L.getD i (0, 0, 0) = x := by
  rw [List.getD_eq_getElem?_getD, h]; rfl
theorem some_of {L : List TH} {i : Nat} (h : i < L.length) : ∃ x, L[i]? = some x := ⟨L[i], List.getElem?_eq_getElem h⟩
theorem lt_of {L : List TH} {i : Nat} {x : TH} (h : L[i]? = some x) : i < L.length := by
  rcases Nat.lt_or_ge i L.length with q | q
  · exact q
  · rw [List.getElem?_eq_none q] at h; cases h
theorem XL_iff {L : List TH} {e c : Nat → Int32} : XL L e c ↔ XE L.length (fl L) (fh L) e ∧ XC L.length (fc L) c := by
  constructor
  · intro h
    refine ⟨fun i hi => ?_, fun i hi => ?_⟩
    · obtain ⟨x, hx⟩ := some_of hi
      unfold em fl fh
      rw [getD_some hx]
      exact (h i x hx).1
    · obtain ⟨x, hx⟩ := some_of hi
      unfold fc
      rw [getD_some hx]
      exact (h i x hx).2
  · rintro ⟨h1, h2⟩ i x hx
    have a := h1 i (lt_of hx)
    have b := h2 i (lt_of hx)
    unfold em fl fh at a
    unfold fc at b
    rw [getD_some hx] at a b
    exact ⟨a, b⟩
theorem ML_iff {K : Nat} {L : List TH} {s : Nat → Int32} : ML K L s ↔ MN K L.length (fl L) (fh L) (fc L) s := by
  constructor
  · rintro ⟨h1, h2, h3⟩
    refine ⟨h1, h2, fun i hi => ?_⟩
    obtain ⟨x, hx⟩ := some_of hi
    unfold fl fh fc
    rw [getD_some hx]
    exact h3 i x hx
  · rintro ⟨h1, h2, h3⟩
    refine ⟨h1, h2, fun i x hx => ?_⟩
    have a := h3 i (lt_of hx)
    unfold fl fh fc at a
    rw [getD_some hx] at a
    exact a
theorem ct_take {L : List TH} {p : TH → Bool} : ∀ n, n ≤ L.length → ct (fun i => p (L.getD i (0, 0, 0))) n = (L.take n).countP p
  | 0, _ => by simp [ct]
  | n + 1, h => by
    obtain ⟨x, hx⟩ := some_of (L := L) (i := n) (by omega)
    have e : L.take (n + 1) = L.take n ++ [x] := by
      rw [List.take_succ, hx]; rfl
    rw [ct, ct_take n (by omega), e, List.countP_append, getD_some hx, List.countP_singleton]
theorem deg_L (L : List TH) (k : Nat) : deg L.length (fl L) (fh L) k = L.countP (atk k) := by
  have := ct_take (L := L) (p := atk k) L.length (Nat.le_refl _)
  rw [List.take_length] at this
  exact this
/-- each thread has two knots -/
theorem shake (K : Nat) : ∀ (L : List TH), (∀ x ∈ L, okx K x) → ∀ (f : Nat → Nat), (∀ k, f k = L.countP (atk k)) → ∀ n, K ≤ n → ((List.range n).map f).sum = 2 * L.length := by
  intro L
  induction L with
  | nil =>
    intro _ f hf n _
    have : (List.range n).map f = (List.range n).map (fun _ => 0) := List.map_congr_left (fun k _ => by rw [hf]; rfl)
    rw [this]
    have z : ∀ n, ((List.range n).map (fun _ => 0)).sum = 0 := by
      intro n
      induction n with
      | zero => rfl
      | succ n ih => simp [List.range_succ, ih]
    exact z n
  | cons x L ih =>
    intro hok f hf n hn
    obtain ⟨h1, h2, -⟩ := hok x List.mem_cons_self
    have e : ∀ k, f k = L.countP (atk k) + (if atk k x then 1 else 0) := fun k => by rw [hf, List.countP_cons]
    have one : ∀ m, ((List.range m).map f).sum = ((List.range m).map (fun k => L.countP (atk k))).sum + ((if x.1 < m then 1 else 0) + (if x.2.1 < m then 1 else 0)) := by
      intro m
      induction m with
      | zero => rfl
      | succ m ihm =>
        rw [List.range_succ, List.map_append, List.map_append, List.sum_append, List.sum_append, ihm]
        simp only [List.map_cons, List.map_nil, List.sum_cons, List.sum_nil, Nat.add_zero]
        rw [e m]
        unfold atk
        by_cases q1 : x.1 = m
        · have q2 : ¬ x.2.1 = m := by omega
          simp [q1, q2]; split <;> split <;> omega
        · by_cases q2 : x.2.1 = m
          · simp [q1, q2]; split <;> split <;> omega
          · simp [q1, q2]; split <;> split <;> split <;> split <;> omega
    rw [one n, ih (fun y hy => hok y (List.mem_cons_of_mem _ hy)) (fun k => L.countP (atk k)) (fun _ => rfl) n hn, if_pos (by omega), if_pos (by omega), List.length_cons]
    omega
theorem sum_le3 (f : Nat → Nat) (h : ∀ k, f k ≤ 3) : ∀ n, ((List.range n).map f).sum ≤ 3 * n
  | 0 => by simp
  | n + 1 => by
    have := sum_le3 f h n
    have := h n
    rw [List.range_succ, List.map_append, List.sum_append]
    simp
    omega
theorem WL.len {K : Nat} {L : List TH} (h : WL K L) : 2 * L.length ≤ 3 * K := by
  rw [← shake K L h.2.1 (fun k => L.countP (atk k)) (fun _ => rfl) K (Nat.le_refl K)]
  exact sum_le3 _ h.2.2.2 K
theorem WL.len21 {K : Nat} {L : List TH} (h : WL K L) : L.length ≤ 21 := by have := h.len; have := h.1; omega
theorem WL.wa {K : Nat} {L : List TH} (h : WL K L) : WA (LN K L) := by
  refine ⟨h.1, h.len21, fun i hi => ?_, fun i j hi hj e1 e2 => ?_, fun k => by rw [show deg (LN K L).2.1 (LN K L).2.2.1 (LN K L).2.2.2.1 k = _ from deg_L L k]; exact h.2.2.2 k⟩
  · obtain ⟨x, hx⟩ := some_of (L := L) hi
    have a := h.2.1 x (List.mem_of_getElem? hx)
    show fl L i < fh L i ∧ fh L i < K ∧ fc L i ≤ 3
    unfold fl fh fc
    rw [getD_some hx]
    exact a
  · obtain ⟨x, hx⟩ := some_of (L := L) hi
    obtain ⟨y, hy⟩ := some_of (L := L) hj
    have e1 : fl L i = fl L j := e1
    have e2 : fh L i = fh L j := e2
    unfold fl at e1
    unfold fh at e2
    rw [getD_some hx, getD_some hy] at e1 e2
    have pw := List.pairwise_iff_getElem.mp h.2.2.1
    rcases Nat.lt_trichotomy i j with q | q | q
    · have := pw i j hi hj q
      rw [List.getElem?_eq_getElem hi] at hx
      rw [List.getElem?_eq_getElem hj] at hy
      cases hx; cases hy
      exact absurd ⟨e1, e2⟩ this
    · exact q
    · have := pw j i hj hi q
      rw [List.getElem?_eq_getElem hi] at hx
      rw [List.getElem?_eq_getElem hj] at hy
      cases hx; cases hy
      exact absurd ⟨e1.symm, e2.symm⟩ this
theorem WL.sub {K : Nat} {L L' : List TH} (h : WL K L) (hs : L'.Sublist L) : WL K L' := ⟨h.1, fun x hx => h.2.1 x (hs.subset hx), h.2.2.1.sublist hs, fun k => Nat.le_trans hs.countP_le (h.2.2.2 k)⟩
theorem WL.wt {K : Nat} {L : List TH} (h : WL K L) : wt L.length (fl L) (fh L) (fc L) := h.wa.t
-- a thread is taken away
theorem erase_at (L : List TH) (t i : Nat) : (L.eraseIdx t)[i]? = if i < t then L[i]? else L[i + 1]? := List.getElem?_eraseIdx
theorem for_up2 {α β : Type} (F : Nat → Nat → α → Option β) (a T : Nat) (acc : Nat → α) (res : Option β) (hend : ∀ n, F (n + 1) T (acc T) = res) (hstep : ∀ n i, a ≤ i → i < T → F (n + 1) i (acc i) = F n (i + 1) (acc (i + 1))) : ∀ (d n i : Nat), a ≤ i → i + d = T → d < n → F n i (acc i) = res := by
  intro d
  induction d with
  | zero =>
    intro n i ha hi hn
    obtain ⟨n, rfl⟩ : ∃ m, n = m + 1 := ⟨n - 1, by omega⟩
    have : i = T := by omega
    rw [this]
    exact hend n
  | succ d ih =>
    intro n i ha hi hn
    obtain ⟨n, rfl⟩ : ∃ m, n = m + 1 := ⟨n - 1, by omega⟩
    rw [hstep n i ha (by omega)]
    exact ih n (i + 1) (by omega) (by omega) (by omega)
theorem x_dropThread {N t : Nat} {L : List TH} {e c : Nat → Int32} (hN : 1000 ≤ N) (hT : L.length ≤ 21) (h : XL L e c) (ht : t < L.length) : ∃ e' c', m_X2_dropThread N (nI L.length) e c (nI t) = some (nI (L.length - 1), e', c') ∧ XL (L.eraseIdx t) e' c' := by
  refine ⟨pu e (fun k => e (k + t + 1)) t (L.length - 1 - t), pu c (fun k => c (k + t + 1)) t (L.length - 1 - t), ?_, fun i x hx => ?_⟩
  · unfold m_X2_dropThread
    rw [x_hasThread hT, r_bind, if_pos (show ∃ i, i < L.length ∧ nI t = nI i from ⟨t, ht, rfl⟩), if_neg (by decide)]
    simp only [jn, nm]
    refine Eq.trans (b := m_X2_dropThread_L11 N (nI L.length) (fun a b => some (nI L.length - 1, a, b)) N (nI t) (pu e (fun k => e (k + t + 1)) t (t - t)) (pu c (fun k => c (k + t + 1)) t (t - t))) (by rw [Nat.sub_self, pu_0, pu_0]) ?_
    refine for_up2 (fun n i (acc : (Nat → Int32) × (Nat → Int32)) => m_X2_dropThread_L11 N (nI L.length) (fun a b => some (nI L.length - 1, a, b)) n (nI i) acc.1 acc.2) t (L.length - 1) (fun i => (pu e (fun k => e (k + t + 1)) t (i - t), pu c (fun k => c (k + t + 1)) t (i - t))) _ ?_ ?_ (L.length - 1 - t) N t (Nat.le_refl t) (by omega) (by omega)
    · intro n
      show m_X2_dropThread_L11 N (nI L.length) _ (n + 1) (nI (L.length - 1)) _ _ = _
      rw [m_X2_dropThread_L11, nI_1, if_pos (nI_le (by omega) (by omega)), show (1 : Int32) = nI 1 from rfl, pk_sub (by omega)]
    · intro n i hi hj
      show m_X2_dropThread_L11 N (nI L.length) _ (n + 1) (nI i) (pu e (fun k => e (k + t + 1)) t (i - t)) (pu c (fun k => c (k + t + 1)) t (i - t)) = m_X2_dropThread_L11 N (nI L.length) _ n (nI (i + 1)) (pu e (fun k => e (k + t + 1)) t (i + 1 - t)) (pu c (fun k => c (k + t + 1)) t (i + 1 - t))
      rw [m_X2_dropThread_L11, nI_1, if_neg (nI_ge (by omega) (by omega)), x_at (by omega) (by decide), r_bind, x_put (by omega) (by decide), r_bind, x_at (by omega) (by decide), r_bind, x_put (by omega) (by decide), r_bind]
      have a := pu_s e (fun k => e (k + t + 1)) t (i - t)
      have b := pu_s c (fun k => c (k + t + 1)) t (i - t)
      rw [show t + (i - t) = i by omega, show i - t + 1 = i + 1 - t by omega, show i - t + t + 1 = i + 1 by omega] at a b
      rw [← a, ← b]
      have z : ∀ f : Nat → Int32, pu f (fun k => f (k + t + 1)) t (i - t) (i + 1) = f (i + 1) := fun f => by
        unfold pu
        rw [if_neg (by omega)]
      rw [z, z]
  · rw [erase_at] at hx
    have hl : i < L.length - 1 := by
      split at hx
      · omega
      · have := lt_of hx; omega
    unfold pu
    by_cases q : i < t
    · rw [if_pos q] at hx
      rw [if_neg (by omega), if_neg (by omega)]
      exact h i x hx
    · rw [if_neg q] at hx
      rw [if_pos (by omega), if_pos (by omega)]
      dsimp only
      rw [show i - t + t + 1 = i + 1 by omega]
      exact h (i + 1) x hx
theorem m_dropThread {N K t : Nat} {L : List TH} {s : Nat → Int32} (hN : 1000 ≤ N) (hT : L.length ≤ 21) (h : ML K L s) (ht : t < L.length) : ∃ s', m_X7_dropThread N s (nI t) = some s' ∧ ML K (L.eraseIdx t) s' := by
  obtain ⟨h0, h1, h2⟩ := h
  refine ⟨pu (upd s 1 (nI (L.length - 1))) (fun k => s (k + (2 + 3 * t) + 3)) (2 + 3 * t) (3 * (L.length - 1 - t)), ?_, ?_⟩
  · unfold m_X7_dropThread
    rw [r_1 (by decide), h1, show (1 : Int32) = nI 1 from rfl, r_awr (by omega) (by omega), nI_clamp (by omega), pk_sub (by omega)]
    simp only [nm]
    have e0 : (2 : Int32) + 3 * nI t = nI (2 + 3 * t) := by
      show nI 2 + nI 3 * nI t = _
      rw [pk_mul, nI_add]
    rw [e0]
    refine Eq.trans (b := m_X7_dropThread_L16 N N (nI (2 + 3 * t)) (pu (upd s 1 (nI (L.length - 1))) (fun k => s (k + (2 + 3 * t) + 3)) (2 + 3 * t) (2 + 3 * t - (2 + 3 * t)))) (by rw [Nat.sub_self, pu_0]) ?_
    refine for_up2 (fun n i (acc : Nat → Int32) => m_X7_dropThread_L16 N n (nI i) acc) (2 + 3 * t) (2 + 3 * (L.length - 1)) (fun i => pu (upd s 1 (nI (L.length - 1))) (fun k => s (k + (2 + 3 * t) + 3)) (2 + 3 * t) (i - (2 + 3 * t))) _ ?_ ?_ (3 * (L.length - 1 - t)) N (2 + 3 * t) (Nat.le_refl _) (by omega) (by omega)
    · intro n
      show m_X7_dropThread_L16 N (n + 1) (nI (2 + 3 * (L.length - 1))) _ = _
      have z : pu (upd s 1 (nI (L.length - 1))) (fun k => s (k + (2 + 3 * t) + 3)) (2 + 3 * t) (2 + 3 * (L.length - 1) - (2 + 3 * t)) 1 = nI (L.length - 1) := by
        unfold pu
        rw [if_neg (by omega), upd_s]
      have e1 : (2 : Int32) + 3 * nI (L.length - 1) = nI (2 + 3 * (L.length - 1)) := by
        show nI 2 + nI 3 * nI _ = _
        rw [pk_mul, nI_add]
      rw [m_X7_dropThread_L16, r_1 (by decide), z, e1, if_pos (nI_le (Nat.le_refl _) (by omega)), show 2 + 3 * (L.length - 1) - (2 + 3 * t) = 3 * (L.length - 1 - t) by omega]
    · intro n i hi hj
      show m_X7_dropThread_L16 N (n + 1) (nI i) (pu (upd s 1 (nI (L.length - 1))) (fun k => s (k + (2 + 3 * t) + 3)) (2 + 3 * t) (i - (2 + 3 * t))) = m_X7_dropThread_L16 N n (nI (i + 1)) (pu (upd s 1 (nI (L.length - 1))) (fun k => s (k + (2 + 3 * t) + 3)) (2 + 3 * t) (i + 1 - (2 + 3 * t)))
      have z : pu (upd s 1 (nI (L.length - 1))) (fun k => s (k + (2 + 3 * t) + 3)) (2 + 3 * t) (i - (2 + 3 * t)) 1 = nI (L.length - 1) := by
        unfold pu
        rw [if_neg (by omega), upd_s]
      have e1 : (2 : Int32) + 3 * nI (L.length - 1) = nI (2 + 3 * (L.length - 1)) := by
        show nI 2 + nI 3 * nI _ = _
        rw [pk_mul, nI_add]
      have e2 : nI i + (3 : Int32) = nI (i + 3) := nI_add i 3
      have z3 : pu (upd s 1 (nI (L.length - 1))) (fun k => s (k + (2 + 3 * t) + 3)) (2 + 3 * t) (i - (2 + 3 * t)) (i + 3) = s (i + 3) := by
        unfold pu
        rw [if_neg (by omega), upd_n (by omega)]
      rw [m_X7_dropThread_L16, r_1 (by decide), z, e1, if_neg (nI_ge (by omega) (by omega)), e2, r_ard (by omega) (by omega), r_awr (by omega) (by omega), nI_clamp (by omega), z3, nI_1]
      simp only [nm]
      have a := pu_s (upd s 1 (nI (L.length - 1))) (fun k => s (k + (2 + 3 * t) + 3)) (2 + 3 * t) (i - (2 + 3 * t))
      rw [show 2 + 3 * t + (i - (2 + 3 * t)) = i by omega, show i - (2 + 3 * t) + 1 = i + 1 - (2 + 3 * t) by omega, show i - (2 + 3 * t) + (2 + 3 * t) + 3 = i + 3 by omega] at a
      rw [← a]
  · have len : (L.eraseIdx t).length = L.length - 1 := by rw [List.length_eraseIdx_of_lt ht]
    refine ⟨?_, ?_, fun i x hx => ?_⟩
    · unfold pu
      rw [if_neg (by omega), upd_n (by decide)]
      exact h0
    · unfold pu
      rw [if_neg (by omega), upd_s, len]
    · rw [erase_at] at hx
      have hl : i < L.length - 1 := by
        split at hx
        · omega
        · have := lt_of hx; omega
      unfold pu
      by_cases q : i < t
      · rw [if_pos q] at hx
        rw [if_neg (by omega), if_neg (by omega), if_neg (by omega), upd_n (by omega), upd_n (by omega), upd_n (by omega)]
        exact h2 i x hx
      · rw [if_neg q] at hx
        rw [if_pos (by omega), if_pos (by omega), if_pos (by omega)]
        have a := h2 (i + 1) x hx
        dsimp only
        rw [show 2 + 3 * i - (2 + 3 * t) + (2 + 3 * t) + 3 = 2 + 3 * (i + 1) by omega, show 2 + 3 * i + 1 - (2 + 3 * t) + (2 + 3 * t) + 3 = 2 + 3 * (i + 1) + 1 by omega, show 2 + 3 * i + 2 - (2 + 3 * t) + (2 + 3 * t) + 3 = 2 + 3 * (i + 1) + 2 by omega]
        exact a
end
-- 52.tie.lean.txt
section
/-! pure: a thread is added, a thread's ends or colour are changed -/
theorem app_at (L : List TH) (x : TH) (i : Nat) (y : TH) : (L ++ [x])[i]? = some y ↔ L[i]? = some y ∨ (i = L.length ∧ x = y) := by
  rcases Nat.lt_trichotomy i L.length with q | q | q
  · rw [List.getElem?_append_left q]
    exact ⟨Or.inl, fun h => h.elim id (fun h => by omega)⟩
  · subst q
    rw [List.getElem?_append_right (Nat.le_refl _), Nat.sub_self]
    constructor
    · intro h; exact Or.inr ⟨rfl, Option.some.inj h⟩
    · rintro (h | ⟨-, h⟩)
      · have := lt_of h; omega
      · rw [h]; rfl
  · rw [List.getElem?_append_right (by omega)]
    constructor
    · intro h
      have := lt_of h
      simp at this
      omega
    · rintro (h | ⟨h, -⟩)
      · have := lt_of h; omega
      · omega
theorem x_tie {N a b : Nat} {L : List TH} {e c : Nat → Int32} {v : Int32} (hT : L.length ≤ 20) (h : XL L e c) (hv : v = nI (2 ^ a + 2 ^ b)) : ∃ e' c', m_X2_tie N (nI L.length) e c v = some (nI (L ++ [(a, b, 3)]).length, e', c') ∧ XL (L ++ [(a, b, 3)]) e' c' := by
  refine ⟨upd e L.length v, upd c L.length 3, ?_, fun i x hx => ?_⟩
  · unfold m_X2_tie
    rw [if_neg (show ¬ (21 : Int32) ≤ nI L.length from nI_ge (b := 21) (by omega) (by omega)), x_put (by omega) (by decide), r_bind, x_put (by omega) (by decide), r_bind]
    simp only [nm]
    rw [nI_1, List.length_append]
    rfl
  · rcases (app_at L (a, b, 3) i x).mp hx with q | ⟨rfl, rfl⟩
    · rw [upd_n (by have := lt_of q; omega), upd_n (by have := lt_of q; omega)]
      exact h i x q
    · rw [upd_s, upd_s, hv]
      exact ⟨rfl, rfl⟩
/-- what put does: three cells -/
def p3 (s : Nat → Int32) (t : Nat) (x y z : Int32) : Nat → Int32 := upd (upd (upd s (2 + 3 * t) x) (2 + 3 * t + 1) y) (2 + 3 * t + 2) z
theorem m_put {N t a b : Nat} {s : Nat → Int32} {c : Int32} (ht : t ≤ 20) (ha : a < 2 ^ 31) (hb : b < 2 ^ 31) : m_X7_put N s (nI t) (nI a) (nI b) c = some (p3 s t (nI (min a b)) (nI (max a b)) c) := by
  have e0 : (2 : Int32) + 3 * nI t + 0 = nI (2 + 3 * t) := ix3 t 0
  have e1 : (2 : Int32) + 3 * nI t + 1 = nI (2 + 3 * t + 1) := ix3 t 1
  have e2 : (2 : Int32) + 3 * nI t + 2 = nI (2 + 3 * t + 2) := ix3 t 2
  unfold m_X7_put p3
  simp only [jn, nm]
  rw [e0, e1, e2]
  rw [nI_clamp (by omega), nI_clamp (by omega), nI_clamp (by omega)]
  by_cases q : b ≤ a
  · rw [if_pos (nI_le q ha), r_awr (by omega) (by omega), if_pos (nI_le q ha), r_awr (by omega) (by omega), r_awr (by omega) (by omega), Nat.min_eq_right q, Nat.max_eq_left q]
  · rw [if_neg (nI_ge (by omega) hb), r_awr (by omega) (by omega), if_neg (nI_ge (by omega) hb), r_awr (by omega) (by omega), r_awr (by omega) (by omega), Nat.min_eq_left (by omega), Nat.max_eq_right (by omega)]
theorem p3_0 (s : Nat → Int32) (t : Nat) (x y z : Int32) : p3 s t x y z (2 + 3 * t) = x := by
  unfold p3
  rw [upd_n (by omega), upd_n (by omega), upd_s]
theorem p3_1 (s : Nat → Int32) (t : Nat) (x y z : Int32) : p3 s t x y z (2 + 3 * t + 1) = y := by
  unfold p3
  rw [upd_n (by omega), upd_s]
theorem p3_2 (s : Nat → Int32) (t : Nat) (x y z : Int32) : p3 s t x y z (2 + 3 * t + 2) = z := by
  unfold p3
  rw [upd_s]
theorem p3_n (s : Nat → Int32) (t : Nat) (x y z : Int32) {j : Nat} (h : j < 2 + 3 * t ∨ 2 + 3 * t + 2 < j) : p3 s t x y z j = s j := by
  unfold p3
  rw [upd_n (by omega), upd_n (by omega), upd_n (by omega)]
/-- put at a thread of the list -/
theorem ML_set {K t : Nat} {L : List TH} {s : Nat → Int32} {y : TH} (h : ML K L s) (ht : t < L.length) : ML K (L.set t y) (p3 s t (nI y.1) (nI y.2.1) (nI y.2.2)) := by
  obtain ⟨h0, h1, h2⟩ := h
  refine ⟨by rw [p3_n _ _ _ _ _ (by omega)]; exact h0, by rw [p3_n _ _ _ _ _ (by omega), List.length_set]; exact h1, fun i x hx => ?_⟩
  rw [List.getElem?_set] at hx
  by_cases q : t = i
  · subst q
    rw [if_pos rfl, if_pos ht] at hx
    cases hx
    rw [p3_0, p3_1, p3_2]
    exact ⟨rfl, rfl, rfl⟩
  · rw [if_neg q] at hx
    rw [p3_n _ _ _ _ _ (by omega), p3_n _ _ _ _ _ (by omega), p3_n _ _ _ _ _ (by omega)]
    exact h2 i x hx
theorem m_adds {N K a b : Nat} {L : List TH} {s : Nat → Int32} (hT : L.length ≤ 20) (h : ML K L s) (ha : a < 2 ^ 31) (hb : b < 2 ^ 31) : ∃ s', m_X7_adds N s (nI a) (nI b) = some s' ∧ ML K (L ++ [(min a b, max a b, 3)]) s' := by
  obtain ⟨h0, h1, h2⟩ := h
  refine ⟨upd (p3 s L.length (nI (min a b)) (nI (max a b)) 3) 1 (nI (L.length + 1)), ?_, ?_, ?_, fun i x hx => ?_⟩
  · unfold m_X7_adds
    rw [r_1 (by decide), h1, m_put (by omega) ha hb, r_bind, r_1 (by decide), p3_n _ _ _ _ _ (by omega), h1, show (1 : Int32) = nI 1 from rfl, r_awr (by omega) (by omega), nI_clamp (by omega), nI_add]
    rfl
  · rw [upd_n (by decide), p3_n _ _ _ _ _ (by omega)]; exact h0
  · rw [upd_s, List.length_append]; rfl
  · rw [upd_n (by omega), upd_n (by omega), upd_n (by omega)]
    rcases (app_at L _ i x).mp hx with q | ⟨rfl, rfl⟩
    · have := lt_of q
      rw [p3_n _ _ _ _ _ (by omega), p3_n _ _ _ _ _ (by omega), p3_n _ _ _ _ _ (by omega)]
      exact h2 i x q
    · rw [p3_0, p3_1, p3_2]
      exact ⟨rfl, rfl, rfl⟩
theorem ML_knots {K K' : Nat} {L : List TH} {s : Nat → Int32} (h : ML K L s) : ML K' L (upd s 0 (nI K')) := by
  obtain ⟨h0, h1, h2⟩ := h
  refine ⟨upd_s, by rw [upd_n (by decide)]; exact h1, fun i x hx => ?_⟩
  rw [upd_n (by omega), upd_n (by omega), upd_n (by omega)]
  exact h2 i x hx
theorem XL_set {t : Nat} {L : List TH} {e c : Nat → Int32} {y : TH} {v : Int32} (h : XL L e c) (ht : t < L.length) (hv : v = nI (2 ^ y.1 + 2 ^ y.2.1)) (hc : ∀ x, L[t]? = some x → x.2.2 = y.2.2) : XL (L.set t y) (upd e t v) c := by
  intro i x hx
  rw [List.getElem?_set] at hx
  by_cases q : t = i
  · subst q
    rw [if_pos rfl, if_pos ht] at hx
    cases hx
    obtain ⟨z, hz⟩ := some_of ht
    rw [upd_s, hv]
    exact ⟨rfl, by rw [(h t z hz).2, hc z hz]⟩
  · rw [if_neg q] at hx
    rw [upd_n (fun g => q g.symm)]
    exact h i x hx
theorem XL_col {t v : Nat} {L : List TH} {e c : Nat → Int32} {x : TH} (h : XL L e c) (hx : L[t]? = some x) : XL (L.set t (x.1, x.2.1, v)) e (upd c t (nI v)) := by
  intro i y hy
  rw [List.getElem?_set] at hy
  by_cases q : t = i
  · subst q
    rw [if_pos rfl, if_pos (lt_of hx)] at hy
    cases hy
    rw [upd_s]
    exact ⟨(h t x hx).1, rfl⟩
  · rw [if_neg q] at hy
    rw [upd_n (fun g => q g.symm)]
    exact h i y hy
theorem ML_col {K t v : Nat} {L : List TH} {s : Nat → Int32} {x : TH} (h : ML K L s) (hx : L[t]? = some x) : ML K (L.set t (x.1, x.2.1, v)) (upd s (2 + 3 * t + 2) (nI v)) := by
  obtain ⟨h0, h1, h2⟩ := h
  refine ⟨by rw [upd_n (by omega)]; exact h0, by rw [upd_n (by omega), List.length_set]; exact h1, fun i y hy => ?_⟩
  rw [List.getElem?_set] at hy
  by_cases q : t = i
  · subst q
    rw [if_pos rfl, if_pos (lt_of hx)] at hy
    cases hy
    rw [upd_n (by omega), upd_n (by omega), upd_s]
    exact ⟨(h2 t x hx).1, (h2 t x hx).2.1, rfl⟩
  · rw [if_neg q] at hy
    rw [upd_n (by omega), upd_n (by omega), upd_n (by omega)]
    exact h2 i y hy
-- what becomes of a well made net
theorem countP_set {p : TH → Bool} : ∀ {L : List TH} {t : Nat} {x y : TH}, L[t]? = some x → (L.set t y).countP p + (if p x then 1 else 0) = L.countP p + (if p y then 1 else 0)
  | [], t, x, y, h => by simp at h
  | a :: L, 0, x, y, h => by
    simp at h
    subst h
    rw [List.set_cons_zero, List.countP_cons, List.countP_cons]
    omega
  | a :: L, t + 1, x, y, h => by
    have := countP_set (p := p) (L := L) (t := t) (x := x) (y := y) (by simpa using h)
    rw [List.set_cons_succ, List.countP_cons, List.countP_cons]
    omega
theorem WL.col {K t v : Nat} {L : List TH} {x : TH} (h : WL K L) (hx : L[t]? = some x) (hv : v ≤ 3) : WL K (L.set t (x.1, x.2.1, v)) := by
  have hm := h.2.1 x (List.mem_of_getElem? hx)
  refine ⟨h.1, fun y hy => ?_, ?_, fun k => ?_⟩
  · rcases List.mem_or_eq_of_mem_set hy with g | g
    · exact h.2.1 y g
    · rw [g]; exact ⟨hm.1, hm.2.1, hv⟩
  · rw [List.pairwise_iff_getElem]
    intro i j hi hj hij
    have pw := List.pairwise_iff_getElem.mp h.2.2.1 i j (by simpa using hi) (by simpa using hj) hij
    have get : ∀ i (hi : i < (L.set t (x.1, x.2.1, v)).length), (L.set t (x.1, x.2.1, v))[i].1 = (L[i]'(by simpa using hi)).1 ∧ (L.set t (x.1, x.2.1, v))[i].2.1 = (L[i]'(by simpa using hi)).2.1 := by
      intro i hi
      rw [List.getElem_set]
      split
      · rename_i q
        subst q
        have hi' : t < L.length := by simpa using hi
        rw [List.getElem?_eq_getElem hi'] at hx
        cases hx
        exact ⟨rfl, rfl⟩
      · exact ⟨rfl, rfl⟩
    unfold apart
    rw [(get i hi).1, (get i hi).2, (get j hj).1, (get j hj).2]
    exact pw
  · have := countP_set (p := atk k) (y := (x.1, x.2.1, v)) hx
    have e : atk k (x.1, x.2.1, v) = atk k x := rfl
    rw [e] at this
    have := h.2.2.2 k
    omega
theorem WL.app {K K' : Nat} {L : List TH} {x : TH} (h : WL K L) (hK : K ≤ K') (hK2 : K' ≤ 14) (hx : okx K' x) (hn : ∀ y ∈ L, apart y x) (hd : ∀ k, atk k x = true → L.countP (atk k) ≤ 2) : WL K' (L ++ [x]) := by
  refine ⟨hK2, fun y hy => ?_, ?_, fun k => ?_⟩
  · rw [List.mem_append, List.mem_singleton] at hy
    rcases hy with g | g
    · obtain ⟨a, b, c⟩ := h.2.1 y g
      exact ⟨a, by omega, c⟩
    · rw [g]; exact hx
  · rw [List.pairwise_append]
    refine ⟨h.2.2.1, List.pairwise_singleton _ _, fun y hy z hz => ?_⟩
    rw [List.mem_singleton] at hz
    rw [hz]; exact hn y hy
  · rw [List.countP_append, List.countP_singleton]
    have := h.2.2.2 k
    split
    · have := hd k ‹_›; omega
    · omega
theorem WL.more {K K' : Nat} {L : List TH} (h : WL K L) (hK : K ≤ K') (hK2 : K' ≤ 14) : WL K' L := ⟨hK2, fun y hy => ⟨(h.2.1 y hy).1, by have := (h.2.1 y hy).2.1; omega, (h.2.1 y hy).2.2⟩, h.2.2.1, h.2.2.2⟩
end
-- 53.dropknot.lean.txt
section
/-! pure: a knot goes, with its threads -/
theorem t2 {a b : Nat} (h : a < b) (i : Nat) : (2 ^ a + 2 ^ b).testBit i = (a == i || b == i) := tb_em (lo := fun _ => a) (hi := fun _ => b) (t := 0) h i
def rn (k x : Nat) : Nat := if k < x then x - 1 else x
def rnx (k : Nat) (x : TH) : TH := (rn k x.1, rn k x.2.1, x.2.2)
/-- the threads from n - 1 down to 0 that are at a knot go -/
def dropd (k : Nat) : Nat → List TH → List TH
  | 0, L => L
  | n + 1, L => dropd k n (if atk k (L.getD n (0, 0, 0)) then L.eraseIdx n else L)
theorem dropd_eq (k : Nat) : ∀ (n : Nat) (L : List TH), n ≤ L.length → dropd k n L = (L.take n).filter (fun x => !atk k x) ++ L.drop n
  | 0, L, _ => by simp [dropd]
  | n + 1, L, h => by
    obtain ⟨x, hx⟩ := some_of (L := L) (i := n) (by omega)
    have e1 : L.take (n + 1) = L.take n ++ [x] := by rw [List.take_succ, hx]; rfl
    have e2 : L.drop n = x :: L.drop (n + 1) := by
      rw [List.drop_eq_getElem_cons (by omega)]
      rw [List.getElem?_eq_getElem (by omega)] at hx
      rw [Option.some.inj hx]
    rw [dropd, getD_some hx, e1, List.filter_append]
    cases q : atk k x with
    | true =>
      rw [if_pos rfl, List.eraseIdx_eq_take_drop_succ, dropd_eq k n _ (by simp; omega)]
      rw [List.take_left' (by simp; omega), List.drop_left' (by simp; omega)]
      simp [q]
    | false =>
      rw [if_neg (by decide), dropd_eq k n L (by omega), e2]
      simp [q]
theorem dropd_all (k : Nat) (L : List TH) : dropd k L.length L = L.filter (fun x => !atk k x) := by
  rw [dropd_eq k L.length L (Nat.le_refl _), List.take_length, List.drop_length, List.append_nil]
theorem minus1 (n : Nat) : nI (n + 1) - 1 = nI n := nI_pred n
theorem plusm1 (x : Int32) : x + (-1) = x - 1 := (Int32.sub_eq_add_neg x 1).symm
theorem x_dropThreads {N k : Nat} {L0 : List TH} (hN : 1000 ≤ N) (h21 : L0.length ≤ 21) : ∀ (n f : Nat) (L : List TH) (e c : Nat → Int32), n ≤ L.length → L.length ≤ 21 → L.take n = L0.take n → n ≤ L0.length → XL L e c → n < f → ∃ e' c', m_X2_dropThreads_L7 N (nI (bs (fun t => atk k (L0.getD t (0, 0, 0))) L0.length)) f (nI n - 1) (nI L.length) e c = some (nI (dropd k n L).length, e', c') ∧ XL (dropd k n L) e' c' := by
  have lb : bs (fun t => atk k (L0.getD t (0, 0, 0))) L0.length < 2 ^ 31 := Nat.lt_of_lt_of_le (bs_lt _ _) (p2le (by omega))
  intro n
  induction n with
  | zero =>
    intro f L e c h1 h2 h3 h4 hX hf
    obtain ⟨f, rfl⟩ : ∃ m, f = m + 1 := ⟨f - 1, by omega⟩
    refine ⟨e, c, ?_, hX⟩
    rw [m_X2_dropThreads_L7, if_pos (show nI 0 - 1 < 0 by decide)]
    rfl
  | succ n ih =>
    intro f L e c h1 h2 h3 h4 hX hf
    obtain ⟨f, rfl⟩ : ∃ m, f = m + 1 := ⟨f - 1, by omega⟩
    have gn : L.getD n (0, 0, 0) = L0.getD n (0, 0, 0) := by
      have := congrArg (fun l => l[n]?) h3
      simp only [List.getElem?_take, if_pos (Nat.lt_succ_self n)] at this
      rw [List.getD_eq_getElem?_getD, List.getD_eq_getElem?_getD, this]
    have tn : L.take n = L0.take n := by
      have := congrArg (fun l => l.take n) h3
      simpa [List.take_take] using this
    rw [m_X2_dropThreads_L7, minus1, if_neg (nI_pos (by omega)), m_holds lb (by omega), r_bind, sel, tb_bs, decide_eq_true (show n < L0.length by omega), Bool.true_and, dropd, gn, plusm1]
    cases q : atk k (L0.getD n (0, 0, 0)) with
    | false =>
      rw [if_neg (by decide), if_neg (by decide)]
      exact ih f L e c (by omega) h2 tn (by omega) hX (by omega)
    | true =>
      rw [if_pos rfl, if_pos rfl]
      obtain ⟨e1, c1, g1, g2⟩ := x_dropThread (N := N) (t := n) hN h2 hX (by omega)
      rw [g1, r_bind]
      have len : (L.eraseIdx n).length = L.length - 1 := List.length_eraseIdx_of_lt (by omega)
      have := ih f (L.eraseIdx n) e1 c1 (by omega) (by omega) (by rw [List.eraseIdx_eq_take_drop_succ, List.take_left' (by simp; omega)]; exact tn) (by omega) g2 (by omega)
      rw [len] at this
      exact this
theorem m_atk {N K k t : Nat} {L : List TH} {s : Nat → Int32} (hW : WL K L) (hM : ML K L s) (ht : t < L.length) (hk : k < 2 ^ 31) : m_X7_isAt N s (nI t) (nI k) = some (if atk k (L.getD t (0, 0, 0)) then 1 else 0) := m_isAt hW.wt (ML_iff.mp hM) ht hk
theorem m_removeLoop {N K k : Nat} (hN : 1000 ≤ N) (hk : k < 14) (J : (Nat → Int32) → Option (Int32 × (Nat → Int32) × (Nat → Int32) × Int32)) : ∀ (n f : Nat) (L : List TH) (s : Nat → Int32), n ≤ L.length → WL K L → ML K L s → n < f → ∃ s', m_X7_removeKnot_L23 N (nI k) J f (nI n - 1) s = J s' ∧ ML K (dropd k n L) s' := by
  intro n
  induction n with
  | zero =>
    intro f L s h1 hW hM hf
    obtain ⟨f, rfl⟩ : ∃ m, f = m + 1 := ⟨f - 1, by omega⟩
    refine ⟨s, ?_, hM⟩
    rw [m_X7_removeKnot_L23, if_pos (show nI 0 - 1 < 0 by decide)]
  | succ n ih =>
    intro f L s h1 hW hM hf
    obtain ⟨f, rfl⟩ : ∃ m, f = m + 1 := ⟨f - 1, by omega⟩
    have := hW.len21
    rw [m_X7_removeKnot_L23, minus1, if_neg (nI_pos (by omega)), m_atk hW hM (by omega) (by omega), r_bind, sel, dropd, plusm1]
    cases q : atk k (L.getD n (0, 0, 0)) with
    | false =>
      rw [if_neg (by decide), if_neg (by decide)]
      exact ih f L s (by omega) hW hM (by omega)
    | true =>
      rw [if_pos rfl, if_pos rfl]
      obtain ⟨s1, g1, g2⟩ := m_dropThread (N := N) (t := n) hN hW.len21 hM (by omega)
      rw [g1, r_bind]
      have len : (L.eraseIdx n).length = L.length - 1 := List.length_eraseIdx_of_lt (by omega)
      exact ih f (L.eraseIdx n) s1 (by omega) (hW.sub (List.eraseIdx_sublist L n)) g2 (by omega)
/-- the first i threads are renumbered -/
def part (k i : Nat) (L : List TH) : List TH := L.mapIdx (fun j x => if j < i then rnx k x else x)
theorem part_at (k i : Nat) (L : List TH) (j : Nat) : (part k i L)[j]? = L[j]?.map (fun x => if j < i then rnx k x else x) := List.getElem?_mapIdx
theorem part_len (k i : Nat) (L : List TH) : (part k i L).length = L.length := List.length_mapIdx
theorem part_0 (k : Nat) (L : List TH) : part k 0 L = L := by
  apply List.ext_getElem?
  intro j
  rw [part_at]
  cases L[j]? with
  | none => rfl
  | some x => simp
theorem part_all (k : Nat) (L : List TH) : part k L.length L = L.map (rnx k) := by
  apply List.ext_getElem?
  intro j
  rw [part_at, List.getElem?_map]
  cases h : L[j]? with
  | none => rfl
  | some x => simp [lt_of h]
theorem part_set {k i : Nat} {L : List TH} {x : TH} (h : L[i]? = some x) : (part k i L).set i (rnx k x) = part k (i + 1) L := by
  apply List.ext_getElem?
  intro j
  rw [List.getElem?_set, part_at, part_at, part_len]
  by_cases q : i = j
  · subst q
    rw [if_pos rfl, if_pos (lt_of h), h]
    simp
  · rw [if_neg q]
    cases L[j]? with
    | none => rfl
    | some y =>
      simp only [Option.map_some]
      by_cases g : j < i
      · rw [if_pos g, if_pos (by omega)]
      · rw [if_neg g, if_neg (by omega)]
theorem rn_lt {k a b : Nat} (h : a < b) (ha : a ≠ k) (hb : b ≠ k) : rn k a < rn k b := by
  unfold rn
  split <;> split <;> omega
theorem rn_eq {k a b : Nat} (ha : a ≠ k) (hb : b ≠ k) (h : rn k a = rn k b) : a = b := by
  unfold rn at h
  split at h <;> split at h <;> omega
theorem m_dropKnot {N K k : Nat} {L : List TH} {s : Nat → Int32} (hN : 1000 ≤ N) (hT : L.length ≤ 21) (hok : ∀ x ∈ L, okx K x) (hK : K ≤ 14) (hk : k < K) (hno : ∀ x ∈ L, atk k x = false) (hM : ML K L s) : ∃ s', m_X7_dropKnot N s (nI k) = some s' ∧ ML (K - 1) (L.map (rnx k)) s' := by
  have loop : ∀ (d n i : Nat) (s : Nat → Int32), i + d = L.length → d < n → ML (K - 1) (part k i L) s → ∃ s', m_X7_dropKnot_L12 N (nI k) n (nI i) s = some s' ∧ ML (K - 1) (L.map (rnx k)) s' := by
    intro d
    induction d with
    | zero =>
      intro n i s hi hn hM
      obtain ⟨n, rfl⟩ : ∃ m, n = m + 1 := ⟨n - 1, by omega⟩
      have e : i = L.length := by omega
      subst e
      rw [part_all] at hM
      refine ⟨s, ?_, hM⟩
      rw [m_X7_dropKnot_L12, r_1 (by decide), hM.2.1, List.length_map, if_pos (nI_le (Nat.le_refl _) (by omega))]
    | succ d ih =>
      intro n i s hi hn hM
      obtain ⟨n, rfl⟩ : ∃ m, n = m + 1 := ⟨n - 1, by omega⟩
      obtain ⟨x, hx⟩ := some_of (L := L) (i := i) (by omega)
      have hp : (part k i L)[i]? = some x := by rw [part_at, hx]; simp
      obtain ⟨c0, c1, c2⟩ := hM.2.2 i x hp
      have hm := List.mem_of_getElem? hx
      obtain ⟨o1, o2, o3⟩ := hok x hm
      have hn2 := hno x hm
      unfold atk at hn2
      simp at hn2
      have f0 : m_X7_of N s (nI i) 0 = some (nI x.1) := by
        have := m_of (N := N) (s := s) (t := i) (w := 0) (by omega) (by omega)
        rw [show 2 + 3 * i + 0 = 2 + 3 * i from rfl, c0] at this
        exact this
      have f1 : m_X7_of N s (nI i) 1 = some (nI x.2.1) := by
        have := m_of (N := N) (s := s) (t := i) (w := 1) (by omega) (by omega)
        rw [c1] at this
        exact this
      have f2 : m_X7_of N s (nI i) 2 = some (nI x.2.2) := by
        have := m_of (N := N) (s := s) (t := i) (w := 2) (by omega) (by omega)
        rw [c2] at this
        exact this
      have rnE : ∀ a, a < 14 → (if nI a ≤ nI k then nI a else nI a - 1) = nI (rn k a) := by
        intro a ha
        unfold rn
        by_cases q : k < a
        · rw [if_neg (nI_ge q (by omega)), if_pos q, show (1 : Int32) = nI 1 from rfl, pk_sub (by omega)]
        · rw [if_pos (nI_le (by omega) (by omega)), if_neg q]
      rw [m_X7_dropKnot_L12, r_1 (by decide), hM.2.1, part_len, if_neg (nI_ge (by omega) (by omega)), f0, r_bind, f1, r_bind, f2]
      simp only [jn, r_bind]
      have r1 : rn k x.1 < rn k x.2.1 := rn_lt o1 hn2.1 hn2.2
      have r2 : rn k x.2.1 < 14 := by unfold rn; split <;> omega
      have fin : ∃ s', (m_X7_put N s (nI i) (nI (rn k x.1)) (nI (rn k x.2.1)) (nI x.2.2)).bind (fun f => m_X7_dropKnot_L12 N (nI k) n (nI i + 1) f) = some s' ∧ ML (K - 1) (L.map (rnx k)) s' := by
        rw [m_put (by omega) (by omega) (by omega), r_bind, nI_1, Nat.min_eq_left (by omega), Nat.max_eq_right (by omega)]
        have := ML_set (y := rnx k x) hM (t := i) (by rw [part_len]; omega)
        rw [part_set hx] at this
        exact ih n (i + 1) _ (by omega) (by omega) this
      have q1 := rnE x.1 (by omega)
      have q2 := rnE x.2.1 (by omega)
      by_cases h1 : nI x.1 ≤ nI k
      · rw [if_pos h1] at q1 ⊢
        by_cases h2 : nI x.2.1 ≤ nI k
        · rw [if_pos h2] at q2 ⊢
          rw [q1, q2]; exact fin
        · rw [if_neg h2] at q2 ⊢
          rw [q1, q2]; exact fin
      · rw [if_neg h1] at q1 ⊢
        by_cases h2 : nI x.2.1 ≤ nI k
        · rw [if_pos h2] at q2 ⊢
          rw [q1, q2]; exact fin
        · rw [if_neg h2] at q2 ⊢
          rw [q1, q2]; exact fin
  unfold m_X7_dropKnot
  rw [r_0 (by decide), hM.1, show (0 : Int32) = nI 0 from rfl, r_awr (by omega) (by omega), nI_clamp (by omega), show (1 : Int32) = nI 1 from rfl, pk_sub (by omega)]
  simp only [nm]
  exact loop L.length N 0 _ (by omega) (by omega) (by rw [part_0]; exact ML_knots hM)
theorem half_em {a b k : Nat} (h : a < b) (ha : a ≠ k) (hb : b ≠ k) : ((2 ^ a + 2 ^ b) &&& (2 ^ k - 1)) ||| ad ((2 ^ a + 2 ^ b) / 2 ^ 1) (2 ^ k - 1) = 2 ^ rn k a + 2 ^ rn k b := by
  apply Nat.eq_of_testBit_eq
  intro i
  rw [t2 (rn_lt h ha hb), Nat.testBit_or, Nat.testBit_and, tb_ad, tb_all, Nat.pow_one, Nat.testBit_div_two, t2 h, t2 h]
  rw [Bool.eq_iff_iff]
  unfold rn
  simp
  split <;> split <;> omega
theorem ok_wt {K : Nat} {L : List TH} (h21 : L.length ≤ 21) (hK : K ≤ 14) (hok : ∀ x ∈ L, okx K x) : wt L.length (fl L) (fh L) (fc L) := by
  refine ⟨h21, fun i hi => ?_⟩
  obtain ⟨x, hx⟩ := some_of hi
  obtain ⟨o1, o2, o3⟩ := hok x (List.mem_of_getElem? hx)
  unfold fl fh fc
  rw [getD_some hx]
  exact ⟨o1, by omega, o3⟩
theorem x_dropKnot0 {N K k : Nat} {L : List TH} {e c : Nat → Int32} (hN : 1000 ≤ N) (hK : K ≤ 14) (h21 : L.length ≤ 21) (hok : ∀ x ∈ L, okx K x) (hk : k < K) (hX : XL L e c) : ∃ e' c', m_X2_dropKnot N (nI K) (nI L.length) e c (nI k) = some (nI (K - 1), nI ((L.filter (fun x => !atk k x)).map (rnx k)).length, e', c') ∧ XL ((L.filter (fun x => !atk k x)).map (rnx k)) e' c' := by
  have bsE : bs (fun t => isat (fl L) (fh L) t k) L.length = bs (fun t => atk k (L.getD t (0, 0, 0))) L.length := rfl
  obtain ⟨e1, c1, g1, g2⟩ := x_dropThreads (N := N) (k := k) hN h21 L.length N L e c (Nat.le_refl _) h21 rfl (Nat.le_refl _) hX (by omega)
  rw [dropd_all] at g1 g2
  generalize hF : L.filter (fun x => !atk k x) = F at g1 g2
  have hokF : ∀ x ∈ F, okx K x := fun x hx => by rw [← hF, List.mem_filter] at hx; exact hok x hx.1
  have hno : ∀ x ∈ F, atk k x = false := by
    intro x hx
    rw [← hF, List.mem_filter] at hx
    simpa using hx.2
  have hF21 : F.length ≤ 21 := by rw [← hF]; exact Nat.le_trans (List.length_filter_le _ _) h21
  have pk := Nat.two_pow_pos k
  have pk2 := p2le (a := k) (b := 14) (by omega)
  have loop : ∀ (d n i : Nat) (e : Nat → Int32), i + d = F.length → d < n → XL (part k i F) e c1 → ∃ e', m_X2_dropKnot_L30 N (nI F.length) (nI (2 ^ k - 1)) (fun a => some (nI K - 1, nI F.length, a, c1)) n (nI i) e = some (nI K - 1, nI F.length, e', c1) ∧ XL (F.map (rnx k)) e' c1 := by
    intro d
    induction d with
    | zero =>
      intro n i e hi hn hM
      obtain ⟨n, rfl⟩ : ∃ m, n = m + 1 := ⟨n - 1, by omega⟩
      have q : i = F.length := by omega
      subst q
      rw [part_all] at hM
      refine ⟨e, ?_, hM⟩
      rw [m_X2_dropKnot_L30, if_pos (nI_le (Nat.le_refl _) (by omega))]
    | succ d ih =>
      intro n i e hi hn hM
      obtain ⟨n, rfl⟩ : ∃ m, n = m + 1 := ⟨n - 1, by omega⟩
      obtain ⟨x, hx⟩ := some_of (L := F) (i := i) (by omega)
      have hp : (part k i F)[i]? = some x := by rw [part_at, hx]; simp
      have hm := List.mem_of_getElem? hx
      obtain ⟨o1, o2, o3⟩ := hokF x hm
      have hn2 := hno x hm
      unfold atk at hn2
      simp at hn2
      have lE : 2 ^ x.1 + 2 ^ x.2.1 < 2 ^ 14 := em_lt (lo := fun _ => x.1) (hi := fun _ => x.2.1) (t := 0) o1 (by omega)
      have hend : m_X2_ends N e (nI i) = some (nI (2 ^ x.1 + 2 ^ x.2.1)) := by
        unfold m_X2_ends
        rw [x_at (by omega) (by decide), r_bind, (hM i x hp).1]
      rw [m_X2_dropKnot_L30, if_neg (nI_ge (by omega) (by omega)), hend, r_bind, x_put (by omega) (by decide), r_bind, nI_1, nand, show sr (nI (2 ^ x.1 + 2 ^ x.2.1)) 1 = nI ((2 ^ x.1 + 2 ^ x.2.1) / 2 ^ 1) from sr_N (j := 1) (by omega) (by omega), nandn, nor, half_em o1 hn2.1 hn2.2]
      have := XL_set (y := rnx k x) (v := nI (2 ^ rn k x.1 + 2 ^ rn k x.2.1)) hM (t := i) (by rw [part_len]; omega) rfl (fun y hy => by rw [hp] at hy; cases hy; rfl)
      rw [part_set hx] at this
      exact ih n (i + 1) _ (by omega) (by omega) this
  obtain ⟨e2, l1, l2⟩ := loop F.length N 0 e1 (by omega) (by omega) (by rw [part_0]; exact g2)
  refine ⟨e2, c1, ?_, by exact l2⟩
  unfold m_X2_dropKnot
  have hXE := XL_iff.mp hX
  rw [x_hasKnot (by omega), r_bind, if_pos (show ∃ i, i < K ∧ nI k = nI i from ⟨k, hk, rfl⟩), if_neg (by decide), m_bit (by omega), r_bind, x_threadsAt1 hN (ok_wt h21 hK hok) hXE.1 (by omega), r_bind, bsE]
  unfold m_X2_dropThreads
  simp only [nm, jn]
  rw [g1]
  simp only [r_bind]
  rw [show (1 : Int32) = nI 1 from rfl, pk_sub (by omega)]
  refine l1.trans ?_
  rw [List.length_map, show (1 : Int32) = nI 1 from rfl, pk_sub (by omega)]
theorem x_dropKnot {N K k : Nat} {L : List TH} {e c : Nat → Int32} (hN : 1000 ≤ N) (hW : WL K L) (hk : k < K) (hX : XL L e c) : ∃ e' c', m_X2_dropKnot N (nI K) (nI L.length) e c (nI k) = some (nI (K - 1), nI ((L.filter (fun x => !atk k x)).map (rnx k)).length, e', c') ∧ XL ((L.filter (fun x => !atk k x)).map (rnx k)) e' c' := x_dropKnot0 hN hW.1 hW.len21 hW.2.1 hk hX
theorem WL.drop {K k : Nat} {L : List TH} (h : WL K L) (hk : k < K) : WL (K - 1) ((L.filter (fun x => !atk k x)).map (rnx k)) := by
  have hW := h.sub (List.filter_sublist (p := fun x => !atk k x) (l := L))
  have hno : ∀ x ∈ L.filter (fun x => !atk k x), x.1 ≠ k ∧ x.2.1 ≠ k := by
    intro x hx
    have := (List.mem_filter.mp hx).2
    unfold atk at this
    simpa using this
  generalize L.filter (fun x => !atk k x) = F at hW hno
  refine ⟨by have := h.1; omega, fun y hy => ?_, ?_, fun j => ?_⟩
  · obtain ⟨x, hx, rfl⟩ := List.mem_map.mp hy
    obtain ⟨o1, o2, o3⟩ := hW.2.1 x hx
    obtain ⟨n1, n2⟩ := hno x hx
    refine ⟨rn_lt o1 n1 n2, ?_, o3⟩
    show rn k x.2.1 < K - 1
    unfold rn
    split <;> omega
  · rw [List.pairwise_map]
    refine List.Pairwise.imp_of_mem (fun {x y} hx hy hxy => ?_) hW.2.2.1
    intro q
    exact hxy ⟨rn_eq (hno x hx).1 (hno y hy).1 q.1, rn_eq (hno x hx).2 (hno y hy).2 q.2⟩
  · rw [List.countP_map]
    have : F.countP (atk j ∘ rnx k) = F.countP (atk (if j < k then j else j + 1)) := by
      apply List.countP_congr
      intro x hx
      obtain ⟨n1, n2⟩ := hno x hx
      unfold atk rnx rn
      simp
      split <;> split <;> split <;> omega
    rw [this]
    exact hW.2.2.2 _
end
