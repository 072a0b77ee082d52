/-! same by the system: a table over the nodes of both -/
theorem sub_0 (t : Tm) : sub t 0 = t := by cases t <;> rfl
theorem sub_sub : ∀ t, wf t → ∀ i k, i < sz t → k < sz (sub t i) → sub (sub t i) k = sub t (i + k) := by
  have e1 : ∀ c a b i, i < sz a → sub (Nd c a b) (i + 1) = sub a i := fun c a b i h => by
    show (if i + 1 = 0 then _ else if i + 1 ≤ sz a then _ else _) = _
    rw [if_neg (by omega), if_pos (by omega), Nat.add_sub_cancel]
  have e2 : ∀ c a b i, sub (Nd c a b) (sz a + 1 + i) = sub b i := fun c a b i => by
    show (if sz a + 1 + i = 0 then _ else if sz a + 1 + i ≤ sz a then _ else _) = _
    rw [if_neg (by omega), if_neg (by omega)]
    congr 1; omega
  refine wf_ind (fun c hc => ?_) (fun c a hc ha iha => ?_) (fun c a b hc ha hb iha ihb => ?_)
  · intro i k hi hk
    rw [sz_0] at hi
    have : i = 0 := by omega
    subst this
    rw [sub_0, Nat.zero_add]
  · intro i k hi hk
    rw [sz_1] at hi
    cases i with
    | zero => rw [sub_0, Nat.zero_add]
    | succ i =>
      rw [e1 _ _ _ _ (by omega)] at hk ⊢
      have := sub_sz ha (show i < sz a by omega)
      rw [show i + 1 + k = i + k + 1 by omega, e1 _ _ _ _ (by omega)]
      exact iha i k (by omega) hk
  · intro i k hi hk
    rw [sz_2] at hi
    cases i with
    | zero => rw [sub_0, Nat.zero_add]
    | succ i =>
      by_cases h : i < sz a
      · rw [e1 _ _ _ _ h] at hk ⊢
        have := sub_sz ha h
        rw [show i + 1 + k = i + k + 1 by omega, e1 _ _ _ _ (by omega)]
        exact iha i k h hk
      · obtain ⟨j, rfl⟩ : ∃ j, i = sz a + j := ⟨i - sz a, by omega⟩
        rw [show sz a + j + 1 = sz a + 1 + j by omega, e2] at hk ⊢
        rw [show sz a + 1 + j + k = sz a + 1 + (j + k) by omega, e2]
        exact ihb j k (by omega) hk
theorem sub_c1 {t : Tm} {i : Nat} {c : Int32} {x y : Tm} (ht : wf t) (hi : i < sz t) (h : sub t i = Nd c x y) (hx : wf x) : sub t (i + 1) = x := by
  have zx := sz_pos x hx
  rw [← sub_sub t ht i 1 hi (by rw [h, sz_n]; omega), h]
  show (if 1 = 0 then _ else if 1 ≤ sz x then sub x (1 - 1) else _) = x
  rw [if_neg (by omega), if_pos (by omega)]
  exact sub_0 x
theorem sub_c2 {t : Tm} {i : Nat} {c : Int32} {x y : Tm} (ht : wf t) (hi : i < sz t) (h : sub t i = Nd c x y) (hy : wf y) : sub t (i + 1 + sz x) = y := by
  have zy := sz_pos y hy
  rw [show i + 1 + sz x = i + (1 + sz x) by omega, ← sub_sub t ht i (1 + sz x) hi (by rw [h, sz_n]; omega), h]
  show (if 1 + sz x = 0 then _ else if 1 + sz x ≤ sz x then _ else sub y (1 + sz x - 1 - sz x)) = y
  rw [if_neg (by omega), if_neg (by omega), show 1 + sz x - 1 - sz x = 0 by omega]
  exact sub_0 y
section
variable {d : Nat} {A : AT} {M : PM} {a b c e f : Int32} {v : Int64}
theorem c_bit {i j : Nat} (hd : 2 ≤ d) (hi : i < 40) (hj : j < 40) : pcl GG lay d 182 [.ref 24, .int (jn i), .int (jn j)] M = rI (bI (tb (M.2 25 i) j = true)) M := by
  obtain ⟨d, rfl⟩ := ex_add hd
  rw [q_182, c_getL (n := 40) (by omega) rfl hi (by omega), kL_r]
  by_cases h : tb (M.2 25 i) j = true
  · rw [if_neg (fun z => by have := Eq.mp (tb_test (M.2 25 i) hj) z; rw [h] at this; cases this), bI_1 h, rZ_1]
  · have h2 : tb (M.2 25 i) j = false := by simpa using h
    rw [if_pos (Eq.mpr (tb_test (M.2 25 i) hj) h2), bI_n h, rZ_0]
theorem c_ask {cm P Q i j : Nat} {t u : Tm} {c : Int32} {x y x' y' : Tm} (hd : 5 ≤ d) (hcm : cm < 16) (ht : wf t) (hu : wf u) (hts : sz t ≤ 40) (hus : sz u ≤ 40) (hta : At (M.1 7) P (en t)) (hua : At (M.1 7) Q (en u)) (hP : P + sz t ≤ 3760) (hQ : Q + sz u ≤ 3760) (h2 : M.1 24 2 = jn P) (h3 : M.1 24 3 = jn Q) (hi : i < sz t) (hj : j < sz u) (ei : sub t i = Nd c x y) (ej : sub u j = Nd c x' y')
    (hT : ∀ i' j', i < i' → i' < sz t → j' < sz u → tb (M.2 25 i') j' = eqv (cmB cm) (sub t i') (sub u j')) :
    pcl GG lay d 181 [.ref 24, .int (jn i), .int (jn j), .int (jn cm)] M = rI (bI (eqv (cmB cm) (sub t i) (sub u j) = true)) M := by
  obtain ⟨d, rfl⟩ := ex_add hd
  have wi := sub_wf ht hi
  have wj := sub_wf hu hj
  have si := sub_sz ht hi
  have sj := sub_sz hu hj
  have ai := sub_at ht hi hta
  have aj := sub_at hu hj hua
  rw [ei] at wi si ai
  rw [ej] at wj sj aj
  rw [sz_n] at si sj
  rw [en_n] at ai aj
  have hc0 : M.1 7 (P + i) = c := ai.1
  obtain ⟨aix, aiy⟩ := (At_app _ _ _).mp ai.2
  obtain ⟨ajx, ajy⟩ := (At_app _ _ _).mp aj.2
  obtain ⟨c1, x1, y1, e1, hc⟩ := wf_cases wi
  cases e1
  obtain ⟨c2, x2, y2, e2, hc'⟩ := wf_cases wj
  cases e2
  rw [q_181, h2, jn_add, c_at (by omega) (by omega), kI_r, hc0, c_arity (by omega), kI_r, ei, ej, eqv_n, if_pos rfl]
  rcases hc with ⟨hc, rfl, rfl⟩ | ⟨hc, hx, rfl⟩ | ⟨hc, hx, hy⟩
  · rw [arR_0 hc, ilt_pos (by omega) (by omega), ilt_pos (by omega) (by omega), rZ_1, if_neg (show ¬ is2 c by omega), if_neg (show ¬ is1 c by omega), bI_1 rfl]
  · have hx' : wf x' := by
      rcases hc' with ⟨h1, _, _⟩ | ⟨_, h1, _⟩ | ⟨h1, _, _⟩
      · omega
      · exact h1
      · omega
    have zx := sz_pos x hx
    have zx' := sz_pos x' hx'
    rw [arR_1 hc, ilt_pos (by omega) (by omega), ilt_neg (by omega) (by omega), jn_add, jn_add, c_bit (by omega) (by omega) (by omega), kI_r, hT (i + 1) (j + 1) (by omega) (by omega) (by omega), sub_c1 ht hi ei hx, sub_c1 hu hj ej hx', if_neg (show ¬ is2 c by omega), if_pos hc]
    by_cases h : eqv (cmB cm) x x' = true
    · rw [bI_1 h, ieq_neg (by omega) (by omega) (by omega), rZ_1]
    · rw [bI_n h, ieq_pos rfl, rZ_0]
  · have hxy : wf x' ∧ wf y' := by
      rcases hc' with ⟨h1, _, _⟩ | ⟨h1, _, _⟩ | ⟨_, h1, h2⟩
      · omega
      · omega
      · exact ⟨h1, h2⟩
    obtain ⟨hx', hy'⟩ := hxy
    have zx := sz_pos x hx
    have zx' := sz_pos x' hx'
    have zy := sz_pos y hy
    have zy' := sz_pos y' hy'
    have tXX := hT (i + 1) (j + 1) (by omega) (by omega) (by omega)
    have tYY := hT (i + 1 + sz x) (j + 1 + sz x') (by omega) (by omega) (by omega)
    have tXY := hT (i + 1) (j + 1 + sz x') (by omega) (by omega) (by omega)
    have tYX := hT (i + 1 + sz x) (j + 1) (by omega) (by omega) (by omega)
    rw [sub_c1 ht hi ei hx] at tXX tXY
    rw [sub_c2 ht hi ei hy] at tYY tYX
    rw [sub_c1 hu hj ej hx'] at tXX tYX
    rw [sub_c2 hu hj ej hy'] at tYY tXY
    rw [arR_2 hc, ilt_neg (by omega) (by omega), h2, jn_add, jn_add, c_end (by omega) hx aix (by omega), kI_r, h3, jn_add, jn_add, c_end (by omega) hx' ajx (by omega), kI_r, h2, h3, jn_add, jn_add, jn_sub (by omega), jn_sub (by omega), show P + i + 1 + sz x - P = i + 1 + sz x by omega, show Q + j + 1 + sz x' - Q = j + 1 + sz x' by omega, c_bit (by omega) (by omega) (by omega), kI_r, tXX, if_pos hc]
    have mb := may_bit hcm hc
    have tail : (if ((jn cm >>> ((c - jn 105) &&& 31)) &&& jn 1) = jn 0 then (rZ (jn 0) M) else (kI (pcl GG lay (d + 4) 182 [.ref 24, .int (jn (i + 1)), .int (jn (j + 1 + sz x'))] M) fun r6 M6 => (if r6 = jn 0 then (rZ (jn 0) M6) else (kI (pcl GG lay (d + 4) 182 [.ref 24, .int (jn (i + 1 + sz x)), .int (jn (j + 1))] M6) fun r7 M7 => (if r7 = jn 0 then (rZ (jn 0) M7) else (rZ (jn 1) M7)))))) = rI (bI ((cmB cm c && (eqv (cmB cm) x y' && eqv (cmB cm) y x')) = true)) M := by
      by_cases k1 : cmB cm c = true
      case neg => rw [if_pos (Eq.mpr mb.1 (by simpa using k1)), rZ_0, bI_n (by simp [k1])]
      rw [if_neg (fun z => by have := Eq.mp mb.1 z; rw [k1] at this; cases this), c_bit (by omega) (by omega) (by omega), kI_r, tXY]
      by_cases k2 : eqv (cmB cm) x y' = true
      case neg => rw [bI_n k2, ieq_pos rfl, rZ_0, bI_n (by simp [k2])]
      rw [bI_1 k2, ieq_neg (by omega) (by omega) (by omega), c_bit (by omega) (by omega) (by omega), kI_r, tYX]
      by_cases k3 : eqv (cmB cm) y x' = true
      case neg => rw [bI_n k3, ieq_pos rfl, rZ_0, bI_n (by simp [k3])]
      rw [bI_1 k3, ieq_neg (by omega) (by omega) (by omega), rZ_1, bI_1 (by simp [k1, k2, k3])]
    by_cases k1 : eqv (cmB cm) x x' = true
    · rw [bI_1 k1, ieq_neg (by omega) (by omega) (by omega), c_bit (by omega) (by omega) (by omega), kI_r, tYY]
      by_cases k2 : eqv (cmB cm) y y' = true
      · rw [bI_1 k2, ieq_neg (by omega) (by omega) (by omega), rZ_1, bI_1 (by simp [k1, k2])]
      · rw [bI_n k2, ieq_pos rfl, tail]
        have k2 : eqv (cmB cm) y y' = false := by simpa using k2
        rw [k1, k2]; rfl
    · rw [bI_n k1, ieq_pos rfl, tail]
      have k1 : eqv (cmB cm) x x' = false := by simpa using k1
      rw [k1]; rfl
end
