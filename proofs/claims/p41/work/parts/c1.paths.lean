/-! PATHS tell nodes apart (in a tree of at most 40 nodes) -/
def InL (l : List Nat) : Prop := ∀ (i j : Nat) (x : Nat), l[i]? = some x → l[j]? = some x → i = j
theorem inL_cons {a : Nat} {l : List Nat} (h : a ∉ l) (hl : InL l) : InL (a :: l) := by
  intro i j x hi hj
  cases i with
  | zero =>
    cases j with
    | zero => rfl
    | succ j =>
      simp only [List.getElem?_cons_zero, List.getElem?_cons_succ] at hi hj
      cases hi
      exact (h (List.mem_of_getElem? hj)).elim
  | succ i =>
    cases j with
    | zero =>
      simp only [List.getElem?_cons_zero, List.getElem?_cons_succ] at hi hj
      cases hj
      exact (h (List.mem_of_getElem? hi)).elim
    | succ j =>
      simp only [List.getElem?_cons_succ] at hi hj
      rw [hl i j x hi hj]
theorem inL_app {l l' : List Nat} (h : InL l) (h' : InL l') (d : ∀ x, x ∈ l → x ∉ l') : InL (l ++ l') := by
  intro i j x hi hj
  by_cases a : i < l.length
  · rw [List.getElem?_append_left a] at hi
    by_cases b : j < l.length
    · rw [List.getElem?_append_left b] at hj
      exact h i j x hi hj
    · rw [List.getElem?_append_right (by omega)] at hj
      exact (d x (List.mem_of_getElem? hi) (List.mem_of_getElem? hj)).elim
  · rw [List.getElem?_append_right (by omega)] at hi
    by_cases b : j < l.length
    · rw [List.getElem?_append_left b] at hj
      exact (d x (List.mem_of_getElem? hj) (List.mem_of_getElem? hi)).elim
    · rw [List.getElem?_append_right (by omega)] at hj
      have := h' _ _ x hi hj
      omega
def pls : Nat → Tm → List Nat
  | _, .leaf => []
  | p, .inner _ _ _ a b => p :: (pls (3 * p + 1) a ++ pls (3 * p + 2) b)
def parN (x : Nat) : Nat := (x - 1) / 3
def parI : Nat → Nat → Nat
  | 0, x => x
  | k + 1, x => parI k (parN x)
theorem parN_le (x : Nat) : parN x ≤ x := by unfold parN; omega
theorem parI_le : ∀ k x, parI k x ≤ x := by
  intro k
  induction k with
  | zero => intro x; exact Nat.le_refl _
  | succ k ih => intro x; exact Nat.le_trans (ih _) (parN_le x)
theorem parI_add : ∀ k m x, parI (k + m) x = parI m (parI k x) := by
  intro k
  induction k with
  | zero => intro m x; rw [Nat.zero_add]; rfl
  | succ k ih =>
    intro m x
    rw [show k + 1 + m = (k + m) + 1 by omega]
    show parI (k + m) (parN x) = parI m (parI k (parN x))
    exact ih m _
theorem parN_1 (q : Nat) : parN (3 * q + 1) = q := by unfold parN; omega
theorem parN_2 (q : Nat) : parN (3 * q + 2) = q := by unfold parN; omega
theorem pls_anc : ∀ (t : Tm) (q x : Nat), x ∈ pls q t → ∃ k, parI k x = q := by
  intro t
  induction t with
  | leaf => intro q x h; cases h
  | inner n c u a b iha ihb =>
    intro q x h
    rw [pls] at h
    rcases List.mem_cons.mp h with h | h
    · exact ⟨0, h⟩
    · rcases List.mem_append.mp h with h | h
      · obtain ⟨k, hk⟩ := iha _ _ h
        exact ⟨k + 1, by rw [parI_add, hk]; exact parN_1 q⟩
      · obtain ⟨k, hk⟩ := ihb _ _ h
        exact ⟨k + 1, by rw [parI_add, hk]; exact parN_2 q⟩
theorem anc_apart {q k k' x : Nat} (h : parI k x = 3 * q + 1) (h' : parI k' x = 3 * q + 2) : False := by
  rcases Nat.lt_trichotomy k k' with hk | hk | hk
  · obtain ⟨m, rfl⟩ : ∃ m, k' = k + m := ⟨k' - k, by omega⟩
    rw [parI_add, h] at h'
    have := parI_le m (3 * q + 1)
    omega
  · subst hk
    omega
  · obtain ⟨m, rfl⟩ : ∃ m, k = k' + (m + 1) := ⟨k - k' - 1, by omega⟩
    rw [parI_add, h'] at h
    have h : parI m (parN (3 * q + 2)) = 3 * q + 1 := h
    rw [parN_2] at h
    have := parI_le m q
    omega
theorem pls_in : ∀ (t : Tm) (q : Nat), InL (pls q t) := by
  intro t
  induction t with
  | leaf => intro q i j x h; simp [pls] at h
  | inner n c u a b iha ihb =>
    intro q
    rw [pls]
    refine inL_cons (fun h => ?_) (inL_app (iha _) (ihb _) (fun x h h' => ?_))
    · rcases List.mem_append.mp h with h | h
      · obtain ⟨k, hk⟩ := pls_anc _ _ _ h
        have := parI_le k q
        omega
      · obtain ⟨k, hk⟩ := pls_anc _ _ _ h
        have := parI_le k q
        omega
    · obtain ⟨k, hk⟩ := pls_anc _ _ _ h
      obtain ⟨k', hk'⟩ := pls_anc _ _ _ h'
      exact anc_apart hk hk'
theorem pls_le : ∀ (t : Tm) (q x : Nat), x ∈ pls q t → x + 1 ≤ 3 ^ (dp t - 1) * (q + 1) := by
  intro t
  induction t with
  | leaf => intro q x h; cases h
  | inner n c u a b iha ihb =>
    intro q x h
    have key : ∀ m, m ≤ dp (.inner n c u a b : Tm) - 2 → 2 ≤ dp (.inner n c u a b : Tm) → x + 1 ≤ 3 ^ m * (3 * q + 2 + 1) → x + 1 ≤ 3 ^ (dp (.inner n c u a b : Tm) - 1) * (q + 1) := by
      intro m h1 h2 h3
      have e : 3 ^ (dp (.inner n c u a b : Tm) - 1) = 3 ^ (dp (.inner n c u a b : Tm) - 2) * 3 := by rw [← Nat.pow_succ]; congr 1; omega
      have h4 : 3 ^ m ≤ 3 ^ (dp (.inner n c u a b : Tm) - 2) := Nat.pow_le_pow_right (by omega) h1
      have h5 : 3 ^ m * (3 * q + 2 + 1) ≤ 3 ^ (dp (.inner n c u a b : Tm) - 2) * (3 * (q + 1)) := Nat.mul_le_mul h4 (by omega)
      rw [e, Nat.mul_assoc]
      omega
    have hd : dp (.inner n c u a b : Tm) = max (dp a) (dp b) + 1 := by first | rfl | (simp [dp]; omega)
    rw [pls] at h
    rcases List.mem_cons.mp h with h | h
    · subst h
      have : 0 < 3 ^ (dp (.inner n c u a b : Tm) - 1) := Nat.pow_pos (by omega)
      exact Nat.le_mul_of_pos_left _ this
    · rcases List.mem_append.mp h with h | h
      · have h1 := iha _ _ h
        have h0 : a ≠ Lf := fun e => by rw [e] at h; cases h
        have hp : 0 < dp a := by
          cases a with
          | leaf => exact (h0 rfl).elim
          | inner n' c' u' a' b' => show 0 < _; simp [dp]
        refine key (dp a - 1) (by omega) (by omega) (Nat.le_trans h1 (Nat.mul_le_mul_left _ (by omega)))
      · have h1 := ihb _ _ h
        have h0 : b ≠ Lf := fun e => by rw [e] at h; cases h
        have hp : 0 < dp b := by
          cases b with
          | leaf => exact (h0 rfl).elim
          | inner n' c' u' a' b' => show 0 < _; simp [dp]
        exact key (dp b - 1) (by omega) (by omega) h1
theorem jn_l1 : (jn 1).toInt64 = lN 1 := by decide +kernel
theorem jn_l2 : (jn 2).toInt64 = lN 2 := by decide +kernel
theorem l_3 : Int64.ofInt 3 = lN 3 := by decide +kernel
theorem pth_n1 (q : Nat) : pth (lN q) 1 = lN (3 * q + 1) := by
  show Int64.ofInt 3 * lN q + (jn 1).toInt64 = _
  rw [l_3, jn_l1, lN_mul, lN_add]
theorem pth_n2 (q : Nat) : pth (lN q) 2 = lN (3 * q + 2) := by
  show Int64.ofInt 3 * lN q + (jn 2).toInt64 = _
  rw [l_3, jn_l2, lN_mul, lN_add]
theorem inf_pls : ∀ (t : Tm) (l q : Nat), (inf l (lN q) t).map (fun z => z.2) = (pls q t).map lN := by
  intro t
  induction t with
  | leaf => intro l q; rfl
  | inner n c u a b iha ihb =>
    intro l q
    rw [inf, pls, List.map_cons, List.map_cons, List.map_append, List.map_append, pth_n1, pth_n2, iha, ihb]
theorem pls_len : ∀ (t : Tm) (q : Nat), (pls q t).length = sz t := by
  intro t q
  have h := congrArg List.length (inf_pls t 0 q)
  rw [List.length_map, List.length_map, inf_len] at h
  exact h.symm
theorem pa_lN {t : Tm} {i : Nat} (hi : i < sz t) : ∃ x, (pls 0 t)[i]? = some x ∧ paT t i = lN x := by
  have hl : i < (pls 0 t).length := by rw [pls_len]; exact hi
  refine ⟨(pls 0 t)[i], List.getElem?_eq_getElem hl, ?_⟩
  have h := congrArg (fun l => l[i]?) (inf_pls t 1 0)
  simp only [List.getElem?_map] at h
  rw [List.getElem?_eq_getElem hl] at h
  have h2 : i < (inf 1 (lN 0) t).length := by rw [inf_len]; exact hi
  rw [List.getElem?_eq_getElem h2] at h
  unfold paT
  rw [List.getD_eq_getElem?_getD]
  show (((inf 1 (lN 0) t)[i]?).getD (0, 0)).2 = _
  rw [List.getElem?_eq_getElem h2]
  exact Option.some.inj h
theorem p39 : ∀ m, m ≤ 39 → 3 ^ m ≤ 3 ^ 39 := fun m h => Nat.pow_le_pow_right (by omega) h
theorem pa_inj {t : Tm} {i j : Nat} (hs : sz t ≤ 40) (hi : i < sz t) (hj : j < sz t) (h : paT t i = paT t j) : i = j := by
  obtain ⟨x, hx, ex⟩ := pa_lN hi
  obtain ⟨y, hy, ey⟩ := pa_lN hj
  have bd : ∀ z, z ∈ pls 0 t → z < 2 ^ 63 := by
    intro z hz
    have h1 := pls_le t 0 z hz
    have h2 := dp_le t
    have h3 := p39 (dp t - 1) (by omega)
    have h4 : (3 : Nat) ^ 39 < 2 ^ 63 := by decide
    omega
  rw [ex, ey] at h
  have h2 := (pk_lEQ (bd x (List.mem_of_getElem? hx)) (bd y (List.mem_of_getElem? hy))).mp h
  subst h2
  exact pls_in t 0 i j x hx hy
theorem fst_at {t : Tm} {i : Nat} {p : Int64} (hs : sz t ≤ 40) (hi : i < sz t) (h : paT t i = p) : fstF (psF p t) (sz t) 0 = some i := by
  have hp : ∀ j, psF p t j = true ↔ paT t j = p := fun j => by unfold psF; rw [decide_eq_true_eq, lg_0]
  have go : ∀ m k, k + m = sz t → k ≤ i → fstF (psF p t) m k = some i := by
    intro m
    induction m with
    | zero => intro k h1 h2; omega
    | succ m ih =>
      intro k h1 h2
      rw [fstF]
      by_cases hk : psF p t k = true
      · rw [if_pos hk]
        have := pa_inj hs (by omega) hi (((hp k).mp hk).trans h.symm)
        rw [this]
      · rw [if_neg hk]
        have : k ≠ i := fun e => hk ((hp k).mpr (by rw [e]; exact h))
        exact ih (k + 1) (by omega) (by omega)
  exact go (sz t) 0 (by omega) (Nat.zero_le _)
