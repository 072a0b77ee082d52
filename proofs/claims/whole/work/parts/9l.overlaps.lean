/-! overlaps: which there are -/
abbrev ovK (a b : Int32) : Nat := if a = b then 1 else 0
noncomputable abbrev ovN (A : AT) (a b : Int32) : List (Tm × Tm × Tm) := ovL (rlN A a) (rlN A b) (ovK a b)
noncomputable def F_overlaps (A : AT) (a b : Int32) : Int32 × AT := if ¬ hsR A a then rfs A 1 else if ¬ hsR A b then rfs A 1 else (jn (ovN A a b).length, A)
abbrev ovW (o : Tm × Tm × Tm) (e : Int32) : Tm := if e = jn 0 then o.1 else if e = jn 1 then o.2.1 else o.2.2
noncomputable def F_overlap (A : AT) (a b c e : Int32) : Int32 × AT := if ¬ hsR A a then rfs A 1 else if ¬ hsR A b then rfs A 1 else if ¬ (0 ≤ e.toInt ∧ e.toInt ≤ 2) then rfs A 5 else if c.toInt < 0 then rfs A 5 else match (ovN A a b)[c.toInt.toNat]? with
  | none => rfs A 5
  | some o => addT A (ovW o e)
theorem ovN_ok {A : AT} {a b : Int32} (hA : AOk A) (h1 : hsR A a) (h2 : hsR A b) : (ovN A a b).length ≤ 40 ∧ ∀ o ∈ ovN A a b, ovO o := by
  obtain ⟨n, r, rfl, k1, k2, k3, k4⟩ := rs_of hA h1
  obtain ⟨n', q, rfl, i1, i2, i3, i4⟩ := rs_of hA h2
  unfold ovN
  rw [k2, i2]
  refine ovL_ok k3 i3 ?_
  have := sz_pos r.1 k3.1
  unfold ovK
  split <;> omega
theorem ovW_ok {o : Tm × Tm × Tm} {e : Int32} (h : ovO o) : wf (ovW o e) ∧ sz (ovW o e) ≤ 40 := by
  unfold ovW
  split
  · exact h.1
  split
  · exact h.2.1
  · exact h.2.2
section
variable {d : Nat} {A : AT} {M M' : PM} {a b c e f : Int32} {r q : Tm × Tm} {i j : Nat}
theorem k_overlap (hA : AOk A) : AOk (F_overlap A a b c e).2 := by
  unfold F_overlap
  split
  · exact hA
  rename_i h1
  split
  · exact hA
  rename_i h2
  split
  · exact hA
  split
  · exact hA
  split
  · exact hA
  · rename_i o ho
    have := (ovN_ok hA (Classical.not_not.mp h1) (Classical.not_not.mp h2)).2 o (List.mem_of_getElem? ho)
    exact k_addT hA (ovW_ok this).1 (ovW_ok this).2
theorem k_overlaps (hA : AOk A) : AOk (F_overlaps A a b).2 := by
  unfold F_overlaps
  repeat' split
  all_goals exact hA
theorem m_narrow (hd : 4 ≤ d) (hA : AOk A) (h : RM A M) (hr : (rsA A)[i]? = some r) : pcl GG lay d 163 [.ref 52, .int (jn i)] M = rI (bI (nvr (en r.1) ≤ 3)) M := by
  obtain ⟨d, rfl⟩ := ex_add (show 1 ≤ d by omega)
  obtain ⟨r1, hi⟩ := rl_ok hA hr
  obtain ⟨e1, e2, e3, e4⟩ := h.1.2.2.1 i r hr
  have e1 : M.1 55 (2 * i) = jn (sz r.1) := e1
  have e3 : At (M.1 56) (80 * i) (en r.1) := e3
  have zr := r1.2.2.1
  rw [q_163, jn_mul, ald_n (n := 24) rfl (by omega) (by omega), oB_s, e1, jn_mul, d_vars (nx := 960) (by omega) rfl (by omega) e3 (by omega), kI_r, c_bits (by omega), kI_r]
  have nv6 : nvr (en r.1) ≤ 6 := cntP_le _ 6
  by_cases h3 : nvr (en r.1) ≤ 3
  · rw [ilt_pos (by omega) (by omega), rZ_1, bI_1 h3]
  · rw [ilt_neg (by omega) (by omega), rZ_0, bI_n h3]
theorem m_tl {T : Nat} (hd : 1120 ≤ d) (hA : AOk A) (hr : (rsA A)[i]? = some r) (hq : (rsA A)[j]? = some q) (h3 : nvr (en r.1) ≤ 3) (h4 : nvr (en q.1) ≤ 3) (hT : T ≤ 40) : ∀ m k n M, k + m = sz r.1 → n ≤ T → RM A M →
    ∃ M', E_164 d (15, [some (.ref 52), some (.int (jn i)), some (.int (jn j)), some (.int (jn T)), some (.int (jn n)), some (.int (jn k))], [], M) = rI (jn (min (n + (ovG r q m k).length) (T + 1))) M' ∧ RM A M' ∧ Lo M M' ∧ ∀ o, (ovG r q m k)[T - n]? = some o → Hol o M' := by
  obtain ⟨r1, hi⟩ := rl_ok hA hr
  obtain ⟨q1, hj⟩ := rl_ok hA hq
  have zr := r1.2.2.1
  -- at the end
  have stop : ∀ k n M, k = sz r.1 → RM A M → E_164 d (15, [some (.ref 52), some (.int (jn i)), some (.int (jn j)), some (.int (jn T)), some (.int (jn n)), some (.int (jn k))], [], M) = rI (jn n) M := by
    intro k n M hk h
    have e1 : M.1 55 (2 * i) = jn (sz r.1) := (h.1.2.2.1 i r hr).1
    rw [h_164_15, jn_mul, ald_n (n := 24) rfl (by omega) (by omega), oB_s, e1, ilt_neg (by omega) (by omega)]
  have full : ∀ k M, k ≤ sz r.1 → RM A M → E_164 d (15, [some (.ref 52), some (.int (jn i)), some (.int (jn j)), some (.int (jn T)), some (.int (jn (T + 1))), some (.int (jn k))], [], M) = rI (jn (T + 1)) M := by
    intro k M hk h
    have e1 : M.1 55 (2 * i) = jn (sz r.1) := (h.1.2.2.1 i r hr).1
    rw [h_164_15, jn_mul, ald_n (n := 24) rfl (by omega) (by omega), oB_s, e1]
    by_cases hk2 : k < sz r.1
    · rw [ilt_pos hk2 (by omega), ilt_pos (by omega) (by omega)]
    · rw [ilt_neg (by omega) (by omega)]
  intro m
  induction m with
  | zero =>
    intro k n M hk hn h
    rw [stop k n M (by omega) h]
    refine ⟨M, ?_, h, Lo.rf, fun o ho => by cases ho⟩
    show rI (jn n) M = rI (jn (min (n + 0) (T + 1))) M
    congr 2; omega
  | succ m ih =>
    intro k n M hk hn h
    have e1 : M.1 55 (2 * i) = jn (sz r.1) := (h.1.2.2.1 i r hr).1
    have e3 : At (M.1 56) (80 * i) (en r.1) := (h.1.2.2.1 i r hr).2.2.1
    have e4 := sgn_at e3 (show k < sz r.1 by omega)
    rw [h_164_15, jn_mul, ald_n (n := 24) rfl (by omega) (by omega), oB_s, e1, ilt_pos (by omega) (by omega), ilt_neg (by omega) (by omega), m_narrow (by omega) hA h hr, kI_r, bI_1 h3, ieq_neg (by omega) (by omega) (by omega), m_narrow (by omega) hA h hq, kI_r, bI_1 h4, ieq_neg (by omega) (by omega) (by omega), jn_mul, jn_add, ald_n (n := 960) rfl (by omega) (by omega), oB_s, e4, c_isVm (by omega), kI_r, jn_add]
    by_cases hv : isV (sgn r.1 k)
    · rw [bI_1 hv, ieq_neg (by omega) (by omega) (by omega), ovG_v hv]
      exact ih (k + 1) n M (by omega) hn h
    rw [bI_n hv, ieq_pos rfl]
    obtain ⟨M1, p1, p2, p3, p4⟩ := m_ovA (node := k) hd hA h hr hq (by omega) h3 h4
    rw [p1, kI_r]
    cases ho : ovA r q k with
    | none =>
      rw [bI_n (by simp), ieq_pos rfl, ovG_n hv ho]
      obtain ⟨M2, g1, g2, g3, g4⟩ := ih (k + 1) n M1 (by omega) hn p2
      exact ⟨M2, g1, g2, p3.trans g3, g4⟩
    | some o =>
      rw [bI_1 (by simp), ieq_neg (by omega) (by omega) (by omega), ovG_s hv ho, jn_add, List.length_cons]
      by_cases hnT : n = T
      · rw [hnT, full (k + 1) M1 (by omega) p2]
        refine ⟨M1, ?_, p2, p3, fun o' ho' => ?_⟩
        · congr 2; omega
        · rw [Nat.sub_self, List.getElem?_cons_zero] at ho'
          cases ho'
          exact p4 o ho
      · obtain ⟨M2, g1, g2, g3, g4⟩ := ih (k + 1) (n + 1) M1 (by omega) (by omega) p2
        refine ⟨M2, ?_, g2, p3.trans g3, fun o' ho' => g4 o' ?_⟩
        · rw [g1]; congr 2; omega
        · rw [show T - n = (T - (n + 1)) + 1 by omega, List.getElem?_cons_succ] at ho'
          exact ho'
theorem m_till {T : Nat} (hd : 1121 ≤ d) (hA : AOk A) (h : RM A M) (hr : (rsA A)[i]? = some r) (hq : (rsA A)[j]? = some q) (hT : T ≤ 40) :
    ∃ M', pcl GG lay d 164 [.ref 52, .int (jn i), .int (jn j), .int (jn T)] M = rI (jn (min (ovL r q (ovK (jn i) (jn j))).length (T + 1))) M' ∧ RM A M' ∧ Lo M M' ∧ ∀ o, (ovL r q (ovK (jn i) (jn j)))[T]? = some o → Hol o M' := by
  obtain ⟨d, rfl⟩ := ex_add (show 1 ≤ d by omega)
  obtain ⟨r1, hi⟩ := rl_ok hA hr
  obtain ⟨q1, hj⟩ := rl_ok hA hq
  have zr := r1.2.2.1
  have zp := sz_pos r.1 r1.1
  have key : ∀ k, k ≤ 1 → ∃ M', E_164 d (15, [some (.ref 52), some (.int (jn i)), some (.int (jn j)), some (.int (jn T)), some (.int (jn 0)), some (.int (jn k))], [], M) = rI (jn (min (ovL r q k).length (T + 1))) M' ∧ RM A M' ∧ Lo M M' ∧ ∀ o, (ovL r q k)[T]? = some o → Hol o M' := by
    intro k hk
    unfold ovL
    by_cases h34 : nvr (en r.1) ≤ 3 ∧ nvr (en q.1) ≤ 3
    · rw [if_pos h34]
      obtain ⟨M', g1, g2, g3, g4⟩ := m_tl (d := d) (by omega) hA hr hq h34.1 h34.2 hT (sz r.1 - k) k 0 M (by omega) (by omega) h
      rw [Nat.zero_add] at g1
      exact ⟨M', g1, g2, g3, g4⟩
    · rw [if_neg h34]
      refine ⟨M, ?_, h, Lo.rf, fun o ho => by cases ho⟩
      have e1 : M.1 55 (2 * i) = jn (sz r.1) := (h.1.2.2.1 i r hr).1
      show _ = rI (jn (min 0 (T + 1))) M
      rw [show min 0 (T + 1) = 0 by omega, h_164_15, jn_mul, ald_n (n := 24) rfl (by omega) (by omega), oB_s, e1]
      by_cases hk2 : k < sz r.1
      · rw [ilt_pos hk2 (by omega), ilt_neg (by omega) (by omega), m_narrow (by omega) hA h hr, kI_r]
        by_cases h3 : nvr (en r.1) ≤ 3
        · rw [bI_1 h3, ieq_neg (by omega) (by omega) (by omega), m_narrow (by omega) hA h hq, kI_r, bI_n (fun z => h34 ⟨h3, z⟩), ieq_pos rfl]
        · rw [bI_n h3, ieq_pos rfl]
      · rw [ilt_neg (by omega) (by omega)]
  rw [q_164]
  unfold ovK
  by_cases e : jn i = jn j
  · rw [if_pos e, if_pos e]; exact key 1 (by omega)
  · rw [if_neg e, if_neg e]; exact key 0 (by omega)
theorem m_overlaps (hd : 1122 ≤ d) (hA : AOk A) (h : RM A M) : MI (pcl GG lay d 165 [.ref 52, .int a, .int b] M) M (F_overlaps A a b) := by
  obtain ⟨d, rfl⟩ := ex_add (show 1 ≤ d by omega)
  unfold F_overlaps
  rw [q_165, d_hasR (by omega) hA h, kI_r]
  by_cases h1 : hsR A a
  case neg => rw [bI_n h1, ieq_pos rfl, if_pos h1]; exact m_ref (by omega) h (by omega)
  rw [bI_1 h1, ieq_neg (by omega) (by omega) (by omega), if_neg (Classical.not_not.mpr h1), d_hasR (by omega) hA h, kI_r]
  by_cases h2 : hsR A b
  case neg => rw [bI_n h2, ieq_pos rfl, if_pos h2]; exact m_ref (by omega) h (by omega)
  rw [bI_1 h2, ieq_neg (by omega) (by omega) (by omega), if_neg (Classical.not_not.mpr h2)]
  have hl := (ovN_ok hA h1 h2).1
  obtain ⟨n, r, rfl, k1, k2, k3, k4⟩ := rs_of hA h1
  obtain ⟨n', q, rfl, i1, i2, i3, i4⟩ := rs_of hA h2
  obtain ⟨M1, g1, g2, g3, -⟩ := m_till (d := d) (T := 40) (by omega) hA h k1 i1 (Nat.le_refl _)
  unfold ovN at hl ⊢
  rw [k2, i2] at hl ⊢
  rw [g1, kI_r]
  exact ⟨M1, by congr 2; omega, g2, g3⟩
/-- whether there is an i-th -/
theorem m_isOv (hd : 1122 ≤ d) (hA : AOk A) (h : RM A M) (hr : (rsA A)[i]? = some r) (hq : (rsA A)[j]? = some q) (hl : (ovL r q (ovK (jn i) (jn j))).length ≤ 40) :
    ∃ M', pcl GG lay d 166 [.ref 52, .int (jn i), .int (jn j), .int c] M = rI (bI (0 ≤ c.toInt ∧ ((ovL r q (ovK (jn i) (jn j)))[c.toInt.toNat]?).isSome = true)) M' ∧ RM A M' ∧ Lo M M' ∧ ∀ o, 0 ≤ c.toInt → (ovL r q (ovK (jn i) (jn j)))[c.toInt.toNat]? = some o → Hol o M' := by
  obtain ⟨d, rfl⟩ := ex_add (show 1 ≤ d by omega)
  rw [q_166]
  by_cases h0 : c.toInt < 0
  · rw [if_pos (by rw [jlt (by omega)]; exact h0), rZ_0, bI_n (by omega)]
    exact ⟨M, rfl, h, Lo.rf, fun o z => by omega⟩
  rw [if_neg (by rw [jlt (by omega)]; exact h0)]
  by_cases h40 : c.toInt < 40
  · obtain ⟨n, hn40, rfl⟩ := inn (a := c) (n := 40) (by omega)
    obtain ⟨M1, g1, g2, g3, g4⟩ := m_till (d := d) (T := n) (by omega) hA h hr hq (by omega)
    rw [jnN (by omega)]
    rw [ilt_pos hn40 (by omega), g1, kI_r, jn_add]
    by_cases hn : n < (ovL r q (ovK (jn i) (jn j))).length
    · rw [ieq_pos (by omega), rZ_1, bI_1 ⟨by rw [jn_toInt (by omega)]; omega, by rw [List.getElem?_eq_getElem hn]; rfl⟩]
      exact ⟨M1, rfl, g2, g3, fun o _ ho => g4 o ho⟩
    · rw [ieq_neg (by omega) (by omega) (by omega), rZ_0, List.getElem?_eq_none (by omega), bI_n (by simp)]
      exact ⟨M1, rfl, g2, g3, fun o _ ho => by cases ho⟩
  · rw [if_neg (by rw [jlt (by omega)]; exact h40), rZ_0, List.getElem?_eq_none (by omega), bI_n (by simp)]
    exact ⟨M, rfl, h, Lo.rf, fun o _ ho => by cases ho⟩
theorem m_overlap (hd : 1123 ≤ d) (hA : AOk A) (h : RM A M) : MI (pcl GG lay d 167 [.ref 52, .int a, .int b, .int c, .int e] M) M (F_overlap A a b c e) := by
  obtain ⟨d, rfl⟩ := ex_add (show 1 ≤ d by omega)
  unfold F_overlap
  rw [q_167, d_hasR (by omega) hA h, kI_r]
  by_cases h1 : hsR A a
  case neg => rw [bI_n h1, ieq_pos rfl, if_pos h1]; exact m_ref (by omega) h (by omega)
  rw [bI_1 h1, ieq_neg (by omega) (by omega) (by omega), if_neg (Classical.not_not.mpr h1), d_hasR (by omega) hA h, kI_r]
  by_cases h2 : hsR A b
  case neg => rw [bI_n h2, ieq_pos rfl, if_pos h2]; exact m_ref (by omega) h (by omega)
  rw [bI_1 h2, ieq_neg (by omega) (by omega) (by omega), if_neg (Classical.not_not.mpr h2), c_within_n (by omega) (by omega) (by omega), kI_r]
  by_cases h3 : 0 ≤ e.toInt ∧ e.toInt ≤ 2
  case neg => rw [bI_n (show ¬ (((0 : Nat) : Int) ≤ e.toInt ∧ e.toInt ≤ ((2 : Nat) : Int)) from h3), ieq_pos rfl, if_pos h3]; exact m_ref (by omega) h (by omega)
  rw [bI_1 (show (((0 : Nat) : Int) ≤ e.toInt ∧ e.toInt ≤ ((2 : Nat) : Int)) from h3), ieq_neg (by omega) (by omega) (by omega), if_neg (Classical.not_not.mpr h3)]
  obtain ⟨hl, hok⟩ := ovN_ok hA h1 h2
  obtain ⟨n, r, rfl, k1, k2, k3, k4⟩ := rs_of hA h1
  obtain ⟨n', q, rfl, i1, i2, i3, i4⟩ := rs_of hA h2
  unfold ovN at hl hok ⊢
  rw [k2, i2] at hl hok ⊢
  obtain ⟨M1, g1, g2, g3, g4⟩ := m_isOv (d := d) (c := c) (by omega) hA h k1 i1 hl
  rw [g1, kI_r]
  by_cases h5 : c.toInt < 0
  · rw [bI_n (by omega), ieq_pos rfl, if_pos h5]; exact (m_ref (by omega) g2 (by omega)).pre g3
  rw [if_neg h5]
  cases ho : (ovL r q (ovK (jn n) (jn n')))[c.toInt.toNat]? with
  | none =>
    rw [bI_n (by simp), ieq_pos rfl]
    exact (m_ref (by omega) g2 (by omega)).pre g3
  | some o =>
    rw [bI_1 ⟨by omega, rfl⟩, ieq_neg (by omega) (by omega) (by omega)]
    obtain ⟨⟨a1, a2⟩, ⟨b1, b2⟩, c1, c2⟩ := g4 o (by omega) ho
    obtain ⟨⟨w1, z1⟩, ⟨w2, z2⟩, w3, z3⟩ := hok o (List.mem_of_getElem? ho)
    have hl : (tsA A).length ≤ 24 := hA.1.1.1
    have e0 : M1.1 52 0 = jn (tsA A).length := g2.1.1.1
    simp only
    unfold addT
    rw [e0]
    by_cases h24 : (tsA A).length = 24
    · rw [ieq_pos h24, if_neg (by omega)]
      exact (m_ref (by omega) g2 (by omega)).pre g3
    rw [ieq_neg h24 (by omega) (by omega), if_pos (show (tsA A).length < 24 by omega)]
    unfold ovW
    by_cases e1 : e = jn 0
    · rw [if_pos e1, if_pos e1, a1]
      exact (m_newT (by omega) hA g2 (by omega) z1 (x := 78) (nx := 41) rfl (by omega) (by omega) (by omega) a2).k.pre g3
    rw [if_neg e1, if_neg e1]
    by_cases e2 : e = jn 1
    · rw [if_pos e2, if_pos e2, b1]
      exact (m_newT (by omega) hA g2 (by omega) z2 (x := 79) (nx := 41) rfl (by omega) (by omega) (by omega) b2).k.pre g3
    · rw [if_neg e2, if_neg e2, c1]
      exact (m_newT (by omega) hA g2 (by omega) z3 (x := 80) (nx := 41) rfl (by omega) (by omega) (by omega) c2).k.pre g3
end
