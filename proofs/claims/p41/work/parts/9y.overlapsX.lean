/-! overlaps, overlap by the system -/
section
variable {d : Nat} {A : AT} {M M' : PM} {a b c e f : Int32} {r q : Tm × Tm} {i j : Nat}
/-- what a search tells: how many, or one more than the one that is sought -/
def SkR (e : Int32) (n : Nat) (L : List (Tm × Tm × Tm)) (n' : Nat) (M' : PM) : Prop := ((∀ i, n ≤ i → i < n + L.length → jn i ≠ e) → n' = n + L.length) ∧ ∀ T, e = jn T → n ≤ T → T < 2147483648 → T < n + L.length → n' = T + 1 ∧ ∀ o, L[T - n]? = some o → HolX o M'
theorem x_sk (hd : 14 ≤ d) (hA : AOk A) (hr : (rsA A)[i]? = some r) (hq : (rsA A)[j]? = some q) (h3 : nvr (en r.1) ≤ 3) (h4 : nvr (en q.1) ≤ 3) : ∀ m k n M, k + m = sz r.1 → n ≤ k → RX A M →
    ∃ M' n', E_45 d (52, [some (.ref 0), some (.int (jn i)), some (.int (jn j)), some (.int e), some (.int (jn (sz r.1))), some (.int (jn n)), some (.int (jn k))], [], M) = rI (jn n') M' ∧ RX A M' ∧ Hi M M' ∧ SkR e n (ovG r q m k) n' M' := by
  obtain ⟨r1, hi⟩ := rl_ok hA hr
  have zr := r1.2.2.1
  intro m
  induction m with
  | zero =>
    intro k n M hk hn h
    rw [h_45_52, ilt_neg (by omega) (by omega)]
    exact ⟨M, n, rfl, h, Hi.rf, fun _ => rfl, fun T _ h1 _ h2 => by have h2 : T < n + 0 := h2; omega⟩
  | succ m ih =>
    intro k n M hk hn h
    obtain ⟨M1, g1, g2, g3, g4⟩ := x_ovA (node := k) hd hA h hr hq (by omega) h3 h4
    rw [h_45_52, ilt_pos (by omega) (by omega), g1, kI_r]
    have next : ovG r q (m + 1) k = ovG r q m (k + 1) → ∃ M' n', E_45 d (52, [some (.ref 0), some (.int (jn i)), some (.int (jn j)), some (.int e), some (.int (jn (sz r.1))), some (.int (jn n)), some (.int (jn k + jn 1))], [], M1) = rI (jn n') M' ∧ RX A M' ∧ Hi M M' ∧ SkR e n (ovG r q (m + 1) k) n' M' := by
      intro ee
      obtain ⟨M2, n', w1, w2, w3, w4⟩ := ih (k + 1) n M1 (by omega) (by omega) g2
      rw [jn_add, ee]
      exact ⟨M2, n', w1, w2, g3.trans w3, w4⟩
    by_cases hv : isV (sgn r.1 k)
    · rw [if_pos hv, ieq_pos rfl]
      exact next (ovG_v hv)
    rw [if_neg hv]
    cases ho : ovA r q k with
    | none =>
      rw [bI_n (by simp), ieq_pos rfl]
      exact next (ovG_n hv ho)
    | some o =>
      rw [bI_1 (by simp), ieq_neg (by omega) (by omega) (by omega), jn_add, jn_sub (by omega), show n + 1 - 1 = n by omega, ovG_s hv ho]
      by_cases hne : jn n = e
      · rw [if_pos hne]
        refine ⟨M1, n + 1, rfl, g2, g3, fun z => absurd hne (z n (Nat.le_refl _) (by rw [List.length_cons]; omega)), fun T hT h1 h2 h5 => ?_⟩
        have : n = T := by
          rw [hT, jn_inj (by omega) h2] at hne
          exact hne
        subst this
        refine ⟨rfl, fun o' ho' => ?_⟩
        rw [Nat.sub_self, List.getElem?_cons_zero] at ho'
        cases ho'
        exact g4 o hv ho
      · rw [if_neg hne, jn_add]
        obtain ⟨M2, n', w1, w2, w3, w4, w5⟩ := ih (k + 1) (n + 1) M1 (by omega) (by omega) g2
        refine ⟨M2, n', w1, w2, g3.trans w3, fun z => ?_, fun T hT h1 h2 h5 => ?_⟩
        · rw [w4 (fun i h1 h2 => z i (by omega) (by rw [List.length_cons]; omega)), List.length_cons]; omega
        · have hnT : n ≠ T := fun z => hne (by rw [z, hT])
          rw [List.length_cons] at h5
          obtain ⟨y1, y2⟩ := w5 T hT (by omega) h2 (by omega)
          refine ⟨y1, fun o' ho' => y2 o' ?_⟩
          rw [show T - n = (T - (n + 1)) + 1 by omega, List.getElem?_cons_succ] at ho'
          exact ho'
theorem x_seek (hd : 15 ≤ d) (hA : AOk A) (h : RX A M) (hr : (rsA A)[i]? = some r) (hq : (rsA A)[j]? = some q) :
    ∃ M' n', pcl GG lay d 45 [.ref 0, .int (jn i), .int (jn j), .int e] M = rI (jn n') M' ∧ RX A M' ∧ Hi M M' ∧ SkR e 0 (ovL r q (ovK (jn i) (jn j))) n' M' := by
  obtain ⟨d, rfl⟩ := ex_add (show 1 ≤ d by omega)
  obtain ⟨r1, hi⟩ := rl_ok hA hr
  obtain ⟨q1, hj⟩ := rl_ok hA hq
  have rl7 : At (M.1 7) (960 + 40 * i) (en r.1) := (h.1.2.2.1 i r hr).1
  have ql7 : At (M.1 7) (960 + 40 * j) (en q.1) := (h.1.2.2.1 j q hq).1
  have zr1 := r1.2.2.1
  have zq1 := q1.2.2.1
  have zp := sz_pos r.1 r1.1
  have no : ¬ (nvr (en r.1) ≤ 3 ∧ nvr (en q.1) ≤ 3) → ∃ M' n', (rI (jn 0) M : PO) = rI (jn n') M' ∧ RX A M' ∧ Hi M M' ∧ SkR e 0 (ovL r q (ovK (jn i) (jn j))) n' M' := by
    intro hno
    unfold ovL
    rw [if_neg hno]
    exact ⟨M, 0, rfl, h, Hi.rf, fun _ => rfl, fun T _ h1 _ h2 => by have h2 : T < 0 + 0 := h2; omega⟩
  rw [q_45, c_lp (by omega), kI_r, c_three (by omega) r1.1 rl7 (by omega), kI_r]
  by_cases h3 : 3 < nvr (en r.1)
  · rw [bI_1 h3, ieq_neg (by omega) (by omega) (by omega)]
    exact no (by omega)
  rw [bI_n h3, ieq_pos rfl, c_lp (by omega), kI_r, c_three (by omega) q1.1 ql7 (by omega), kI_r]
  by_cases h4 : 3 < nvr (en q.1)
  · rw [bI_1 h4, ieq_neg (by omega) (by omega) (by omega)]
    exact no (by omega)
  rw [bI_n h4, ieq_pos rfl, c_lp (by omega), kI_r, c_sizeAt (by omega) r1.1 rl7 (by omega), kI_r]
  unfold ovL
  rw [if_pos (show nvr (en r.1) ≤ 3 ∧ nvr (en q.1) ≤ 3 by omega)]
  unfold ovK
  by_cases hij : jn i = jn j
  · rw [if_pos hij, if_pos hij]
    exact x_sk (d := d) (by omega) hA hr hq (by omega) (by omega) (sz r.1 - 1) 1 0 M (by omega) (by omega) h
  · rw [if_neg hij, if_neg hij]
    exact x_sk (d := d) (by omega) hA hr hq (by omega) (by omega) (sz r.1 - 0) 0 0 M (by omega) (by omega) h
theorem x_overlaps (hd : 16 ≤ d) (hA : AOk A) (h : RX A M) : XI (pcl GG lay d 42 [.ref 0, .int a, .int b] M) M (F_overlaps A a b) := by
  obtain ⟨d, rfl⟩ := ex_add (show 1 ≤ d by omega)
  unfold F_overlaps
  rw [q_42, c_hasR (by omega) hA h, kI_r]
  by_cases h1 : hsR A a
  case neg => rw [bI_n h1, ieq_pos rfl, if_pos h1]; exact x_ref (by omega) h (by omega)
  rw [bI_1 h1, ieq_neg (by omega) (by omega) (by omega), if_neg (Classical.not_not.mpr h1), c_hasR (by omega) hA h, kI_r]
  by_cases h2 : hsR A b
  case neg => rw [bI_n h2, ieq_pos rfl, if_pos h2]; exact x_ref (by omega) h (by omega)
  rw [bI_1 h2, ieq_neg (by omega) (by omega) (by omega), if_neg (Classical.not_not.mpr h2)]
  have hl := (ovN_ok hA h1 h2).1
  obtain ⟨n, r, rfl, k1, k2, k3, k4⟩ := rs_of hA h1
  obtain ⟨n', q, rfl, i1, i2, i3, i4⟩ := rs_of hA h2
  unfold ovN at hl ⊢
  rw [k2, i2] at hl ⊢
  obtain ⟨M1, n1, g1, g2, g3, g4, -⟩ := x_seek (d := d) (e := jz 1) (by omega) hA h k1 i1
  rw [g1, kI_r]
  rw [Nat.zero_add] at g4
  rw [g4 (fun i _ hi => by intro z; exact absurd z (by rw [jn_jz (by omega) (by omega)]; exact id))]
  exact ⟨M1, rfl, g2, g3⟩
theorem x_overlap (hd : 16 ≤ d) (hA : AOk A) (h : RX A M) : XI (pcl GG lay d 43 [.ref 0, .int a, .int b, .int c, .int e] M) M (F_overlap A a b c e) := by
  obtain ⟨d, rfl⟩ := ex_add (show 1 ≤ d by omega)
  unfold F_overlap
  rw [q_43, c_hasR (by omega) hA h, kI_r]
  by_cases h1 : hsR A a
  case neg => rw [bI_n h1, ieq_pos rfl, if_pos h1]; exact x_ref (by omega) h (by omega)
  rw [bI_1 h1, ieq_neg (by omega) (by omega) (by omega), if_neg (Classical.not_not.mpr h1), c_hasR (by omega) hA h, kI_r]
  by_cases h2 : hsR A b
  case neg => rw [bI_n h2, ieq_pos rfl, if_pos h2]; exact x_ref (by omega) h (by omega)
  rw [bI_1 h2, ieq_neg (by omega) (by omega) (by omega), if_neg (Classical.not_not.mpr h2)]
  have five : ∀ (P : Prop) [Decidable P] (X : Int32 × AT) (o : PO), (¬ P → XI o M X) → (P → XI o M (rfs A 5)) → XI o M (if P then rfs A 5 else X) := fun P _ X o z1 z2 => by
    by_cases hp : P
    · rw [if_pos hp]; exact z2 hp
    · rw [if_neg hp]; exact z1 hp
  by_cases h5 : c.toInt < 0
  · rw [if_pos (by rw [jlt (by omega)]; exact h5)]
    refine five _ _ _ (fun _ => ?_) (fun _ => x_ref (by omega) h (by omega))
    rw [if_pos h5]
    exact x_ref (by omega) h (by omega)
  rw [if_neg (by rw [jlt (by omega)]; exact h5)]
  by_cases h6 : e.toInt < 0
  · rw [if_pos (show e < jn 0 by rw [jlt (by omega)]; exact h6), if_pos (show ¬ (0 ≤ e.toInt ∧ e.toInt ≤ 2) by omega)]
    exact x_ref (by omega) h (by omega)
  rw [if_neg (show ¬ e < jn 0 by rw [jlt (by omega)]; exact h6)]
  by_cases h7 : (2 : Int) < e.toInt
  · rw [if_pos (show jn 2 < e by rw [jgt (by omega)]; exact h7), if_pos (show ¬ (0 ≤ e.toInt ∧ e.toInt ≤ 2) by omega)]
    exact x_ref (by omega) h (by omega)
  rw [if_neg (show ¬ jn 2 < e by rw [jgt (by omega)]; exact h7), if_neg (show ¬ ¬ (0 ≤ e.toInt ∧ e.toInt ≤ 2) by omega), if_neg h5]
  obtain ⟨hl, hok⟩ := ovN_ok hA h1 h2
  obtain ⟨n, r, rfl, k1, k2, k3, k4⟩ := rs_of hA h1
  obtain ⟨n', q, rfl, i1, i2, i3, i4⟩ := rs_of hA h2
  unfold ovN at hl hok ⊢
  rw [k2, i2] at hl hok ⊢
  obtain ⟨M1, n1, g1, g2, g3, g4, g5⟩ := x_seek (d := d) (e := c) (by omega) hA h k1 i1
  have hc := c.toInt_lt
  have hcj : c = jn c.toInt.toNat := jn_of (by omega)
  rw [Nat.zero_add] at g4 g5
  rw [g1, kI_r]
  cases ho : (ovL r q (ovK (jn n) (jn n')))[c.toInt.toNat]? with
  | none =>
    have hge := List.getElem?_eq_none_iff.mp ho
    rw [g4 (fun i _ hi z => by rw [hcj, jn_inj (by omega) (by omega)] at z; omega), if_neg (by rw [jlt (by omega)]; omega)]
    exact (x_ref (by omega) g2 (by omega)).pre g3
  | some o =>
    have hlt := (List.getElem?_eq_some_iff.mp ho).1
    obtain ⟨y1, y2⟩ := g5 c.toInt.toNat hcj (Nat.zero_le _) (by omega) hlt
    obtain ⟨b1, b2, b3⟩ := y2 o (by rw [Nat.sub_zero]; exact ho)
    obtain ⟨⟨w1, z1⟩, ⟨w2, z2⟩, w3, z3⟩ := hok o (List.mem_of_getElem? ho)
    rw [y1, if_pos (by rw [jlt (by omega)]; omega)]
    simp only
    unfold ovW
    by_cases e1 : e = jn 0
    · rw [if_pos e1, if_pos e1]
      exact (x_newT (by omega) hA g2 w1 z1 (p := 2000) b1 (by omega) (by omega)).k.pre g3
    rw [if_neg e1, if_neg e1]
    by_cases e2 : e = jn 1
    · rw [if_pos e2, if_pos e2]
      exact (x_newT (by omega) hA g2 w2 z2 (p := 2040) b2 (by omega) (by omega)).k.pre g3
    · rw [if_neg e2, if_neg e2]
      exact (x_newT (by omega) hA g2 w3 z3 (p := 2080) b3 (by omega) (by omega)).k.pre g3
end
