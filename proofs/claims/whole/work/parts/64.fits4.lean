/-! redexes, rewrite by the model -/
section
variable {d : Nat} {A : AT} {M : PM} {a b c e f : Int32} {v : Int64}
theorem or_two (v b : Int64) : v ||| b ||| b = v ||| b := by rw [Int64.or_assoc, Int64.or_self]
theorem m_or {t : Tm} {k : Nat} {u1 : Option Value} (hd : 92 ≤ d) (hA : AOk A) (ht : wf t) (hts : sz t ≤ 40) (hk : k < sz t) : ∀ m j v M, j + m = (rsA A).length → GR A t M → ∃ M', E_118 d (22, [some (.ref 52), u1, some (.long v), none, some (.int (jn k)), some (.int (jn j))], [], M) = E_118 d (10, [some (.ref 52), u1, some (.long (if anyF (fun j => fitB (cmA A) ((rsA A).getD j (Lf, Lf)).1 t k) m j = true then v ||| bitL k else v)), none, some (.int (jn (k + 1))), some (.int (jn (rsA A).length))], [], M') ∧ GR A t M' ∧ Lo M M' := by
  have hl : (rsA A).length ≤ 12 := hA.1.2.1.1
  intro m
  induction m with
  | zero =>
    intro j v M hj h
    have e3 : M.1 52 3 = jn (rsA A).length := h.1.1.1.2.1
    rw [h_118_22, e3, ilt_neg (by omega) (by omega), show j = (rsA A).length by omega, jn_add]
    exact ⟨M, by rw [anyF]; rfl, h, Lo.rf⟩
  | succ m ih =>
    intro j v M hj h
    have e3 : M.1 52 3 = jn (rsA A).length := h.1.1.1.2.1
    have hjl : j < (rsA A).length := by omega
    have hr : (rsA A)[j]? = some (rsA A)[j] := by simp [hjl]
    have hrd : (rsA A).getD j (Lf, Lf) = (rsA A)[j] := by rw [List.getD_eq_getElem?_getD, hr]; rfl
    obtain ⟨M', e1, e2, e4, -⟩ := m_try (d := d) (k := k) (by omega) hA h hr ht hts hk
    rw [h_118_22, e3, ilt_pos (by omega) (by omega), e1, kI_r, anyF, hrd]
    by_cases hf : fitB (cmA A) (rsA A)[j].1 t k = true
    · rw [if_pos hf, ieq_neg (by omega) (by omega) (by omega), if_pos hf, if_pos rfl, jn_add]
      obtain ⟨M2, f1, f2, f3⟩ := ih (j + 1) (v ||| bitL k) M' (by omega) e2
      refine ⟨M2, ?_, f2, e4.trans f3⟩
      rw [or_two] at f1
      rw [f1]
      split <;> rfl
    · rw [if_neg hf, ieq_pos rfl, if_neg hf, jn_add]
      obtain ⟨M2, f1, f2, f3⟩ := ih (j + 1) v M' (by omega) e2
      exact ⟨M2, f1, f2, e4.trans f3⟩
theorem m_msk {t : Tm} {u1 : Option Value} (hd : 93 ≤ d) (hA : AOk A) (ht : wf t) (hts : sz t ≤ 40) : ∀ m k v u5 M, k + m = sz t → GR A t M → ML (E_118 d (10, [some (.ref 52), u1, some (.long v), none, some (.int (jn k)), u5], [], M)) M (msk (anyR A t) m k v, A) := by
  intro m
  induction m with
  | zero =>
    intro k v u5 M hk h
    rw [h_118_10, h.2.1, ilt_neg (by omega) (by omega)]
    exact ⟨M, rfl, h.1, Lo.rf⟩
  | succ m ih =>
    intro k v u5 M hk h
    obtain ⟨M', e1, e2, e3⟩ := m_or (d := d) (t := t) (k := k) (u1 := u1) (by omega) hA ht hts (by omega) (rsA A).length 0 v M (by omega) h
    rw [h_118_10, h.2.1, ilt_pos (by omega) (by omega), e1, msk]
    show ML (E_118 d (10, [some (.ref 52), u1, some (.long (if anyR A t k = true then v ||| bitL k else v)), none, some (.int (jn (k + 1))), some (.int (jn (rsA A).length))], [], M')) _ _
    by_cases hf : anyR A t k = true
    · rw [if_pos hf, if_pos hf]
      exact (ih (k + 1) _ _ M' (by omega) e2).pre e3
    · rw [if_neg hf, if_neg hf]
      exact (ih (k + 1) _ _ M' (by omega) e2).pre e3
theorem m_redexes (hd : 95 ≤ d) (hA : AOk A) (h : RM A M) : ML (pcl GG lay d 119 [.ref 52, .int a] M) M (F_redexes A a) := by
  obtain ⟨d, rfl⟩ := ex_add hd
  unfold F_redexes
  rw [q_119, d_hasT (by omega) hA h, kI_r]
  by_cases h2 : hsT A a
  case neg =>
    rw [bI_n h2, ieq_pos rfl, if_pos h2]
    obtain ⟨M', e1, e2, e3⟩ := m_ref0 (d := d + 94) (k := 1) (by omega) h (by omega)
    exact ⟨M', by rw [e1, kI_r]; rfl, e2, e3⟩
  rw [bI_1 h2, ieq_neg (by omega) (by omega) (by omega), if_neg (Classical.not_not.mpr h2)]
  obtain ⟨n, t, rfl, k1, k2, k3, k4, k5⟩ := ts_of hA h2
  obtain ⟨M1, w1, w2, w5⟩ := m_grow (d := d + 93) (by omega) hA h k1
  rw [k2, q_118, w1, kV_r]
  obtain ⟨M', e1, e2, e3⟩ := m_msk (d := d + 93) (u1 := some (.int (jn n))) (by omega) hA k3 k4 (sz t) 0 (Int64.ofNat 0) none M1 (by omega) w2
  exact ⟨M', by rw [e1, kL_r], e2, w5.trans e3⟩
/-- a tree that grew is rewritten at a node where the rule fits -/
theorem m_built {l : Nat} {r : Tm × Tm} {t : Tm} {k : Nat} {E : EV} (hd : 6 ≤ d) (hA : AOk A) (h : GR A t M) (hr : (rsA A)[l]? = some r) (ht : wf t) (hts : sz t ≤ 40) (hk : k < sz t) (hm : mat (cmA A) r.1 (sub t k) = some E) (hE : EM E M) :
    ∃ g, pcl GG lay d 120 [.ref 52, .int (jn l)] M = rV (BM M (sz (sbT E r.2)) g) ∧ At g 0 (en (sbT E r.2)) ∧ GR A t (BM M (sz (sbT E r.2)) g) ∧ Lo M (BM M (sz (sbT E r.2)) g) ∧ sz (sbT E r.2) ≤ 1600 := by
  obtain ⟨hro, hl⟩ := rl_ok hA hr
  have hz := sub_sz ht hk
  have hok := mat_ok (sub_wf ht hk) (by omega) hm
  have hb := h.1.1.2.2.1 l r hr
  have e55 : M.1 55 (2 * l + 1) = jn (sz r.2) := hb.2.1
  have e56 : At (M.1 56) (80 * l + 40) (en r.2) := hb.2.2.2
  obtain ⟨g, g1, g2⟩ := c_builds (d := d) (M := M) (l := l) (r := r.2) (by omega) hl hE (fun c hc => mat_bind hro.1 hm (hro.2.2.2.2.2 c hc)) hro.2.1 hro.2.2.2.1 e55 e56
  have hf : Fr [52, 69] M (BM M (sz (sbT E r.2)) g) := (Fr.sI (by decide)).trans (Fr.sI (by decide))
  have h52 : ∀ j, j ≠ 26 → (BM M (sz (sbT E r.2)) g).1 52 j = M.1 52 j := fun j hj => by
    show va_up (M.1 52) 26 (jn (sz (sbT E r.2))) j = _
    rw [up_at, if_neg hj]
  refine ⟨g, g1, g2, ⟨RM_sc h.1 (hf.mono (by decide)) (fun j hj => h52 j (by rintro rfl; revert hj; decide)), ?_, ?_⟩, Lo.fr hf (by decide), ?_⟩
  · rw [h52 19 (by omega)]; exact h.2.1
  · exact h.2.2
  · have := fm_le hok (en r.2)
    rw [← sb_en E r.2 hro.2.1] at this
    have e2 : (en r.2).length = sz r.2 := rfl
    show (en (sbT E r.2)).length ≤ 1600
    have := hro.2.2.2.1
    omega
theorem m_put {t s : Tm} {k : Nat} (hd : 6 ≤ d) (h : GR A t M) (hat : At (M.1 69) 0 (en s)) (ht : wf t) (hts : sz t ≤ 40) (hs : sz s ≤ 1600) (hk : k < sz t) : ∃ M', pcl GG lay d 121 [.ref 52, .int (jn k), .ref 69, .int (jn 0), .int (jn (sz s))] M = rV M' ∧ GR A (rep t k s) M' ∧ Lo M M' := by
  obtain ⟨M', e1, e2, e3, e4⟩ := c_becomes (d := d) (M := M) (x := 69) (p := 0) (i := k) (nx := 1700) (t := t) (s := s) (by omega) rfl (by omega) (by omega) h.2.1 ht h.2.2 hk hat (by omega) (by omega)
  refine ⟨M', e1, ⟨RM_sc h.1 (e2.mono (by decide)) (fun j hj => ?_), ?_, e4⟩, Lo.fr e2 (by decide)⟩
  · rw [e3, up_at, if_neg (by rintro rfl; revert hj; decide)]
  · rw [e3, up_at, if_pos rfl]
theorem m_rewrite (hd : 94 ≤ d) (hA : AOk A) (h : RM A M) : MI (pcl GG lay d 122 [.ref 52, .int a, .int b, .int c] M) M (F_rewrite A a b c) := by
  obtain ⟨d, rfl⟩ := ex_add hd
  unfold F_rewrite
  rw [q_122, d_hasR (by omega) hA h, kI_r]
  by_cases h1 : hsR A a
  case neg => rw [bI_n h1, ieq_pos rfl, if_pos h1]; exact m_ref (by omega) h (by omega)
  rw [bI_1 h1, ieq_neg (by omega) (by omega) (by omega), if_neg (Classical.not_not.mpr h1), d_hasT (by omega) hA h, kI_r]
  by_cases h2 : hsT A b
  case neg => rw [bI_n h2, ieq_pos rfl, if_pos h2]; exact m_ref (by omega) h (by omega)
  rw [bI_1 h2, ieq_neg (by omega) (by omega) (by omega), if_neg (Classical.not_not.mpr h2)]
  obtain ⟨l, r, rfl, g1, g2, g3, g4⟩ := rs_of hA h1
  obtain ⟨n, t, rfl, k1, k2, k3, k4, k5⟩ := ts_of hA h2
  have zt := sz_pos t k3
  have e53 : M.1 53 n = jn (sz t) := (h.1.2.1 n t k1).1
  rw [g2, k2, ald_n (n := 24) rfl k5 (by omega), oB_s, e53, jn_sub (by omega), c_within_n (by omega) (by omega) (by omega), kI_r]
  by_cases h3 : 0 ≤ c.toInt ∧ c.toInt < (sz t : Nat)
  case neg =>
    rw [bI_n (show ¬ (((0 : Nat) : Int) ≤ c.toInt ∧ c.toInt ≤ ((sz t - 1 : Nat) : Int)) from fun z => h3 ⟨by omega, by omega⟩), ieq_pos rfl, if_pos h3]
    exact m_ref (by omega) h (by omega)
  rw [bI_1 (show ((0 : Nat) : Int) ≤ c.toInt ∧ c.toInt ≤ ((sz t - 1 : Nat) : Int) from ⟨by omega, by omega⟩), ieq_neg (by omega) (by omega) (by omega), if_neg (Classical.not_not.mpr h3)]
  obtain ⟨i, hi, rfl⟩ := inn h3
  obtain ⟨M1, w1, w2, w5⟩ := m_grow (d := d + 93) (by omega) hA h k1
  obtain ⟨M2, f1, f2, f3, f4⟩ := m_try (d := d + 93) (k := i) (by omega) hA w2 g1 k3 k4 hi
  have hz := sub_sz k3 hi
  have hw := sub_wf k3 hi
  rw [jnN (by omega), w1, kV_r, f1, kI_r]
  cases hm : mat (cmA A) r.1 (sub t i) with
  | none =>
    have e1 : rwt (cmA A) r t i = (6, Lf) := by unfold rwt; rw [hm]
    rw [if_neg (show ¬ fitB (cmA A) r.1 t i = true by unfold fitB; rw [hm]; simp), ieq_pos rfl, e1]
    exact (m_ref (by omega) f2.1 (by omega)).pre (w5.trans f3)
  | some E =>
    obtain ⟨g, b1, b2, b3, b4, b5⟩ := m_built (d := d + 93) (by omega) hA f2 g1 k3 k4 hi hm (f4 E hm)
    have hst : At ((BM M2 (sz (sbT E r.2)) g).1 65) i (en (sub t i)) := by
      have := sub_at k3 hi b3.2.2
      rw [Nat.zero_add] at this
      exact this
    have e26 : (BM M2 (sz (sbT E r.2)) g).1 52 26 = jn (sz (sbT E r.2)) := by
      show va_up (M2.1 52) 26 (jn (sz (sbT E r.2))) 26 = _
      rw [up_at, if_pos rfl]
    have e0 : (BM M2 (sz (sbT E r.2)) g).1 52 0 = jn (tsA A).length := b3.1.1.1.1
    have hl24 : (tsA A).length ≤ 24 := hA.1.1.1
    rw [if_pos (show fitB (cmA A) r.1 t i = true by unfold fitB; rw [hm]; rfl), ieq_neg (by omega) (by omega) (by omega), b1, kV_r, c_span (n := 8100) (by omega) rfl (by omega) hw hst (by omega), kI_r, b3.2.1, e26, e0, jn_sub (by omega), jn_add]
    have hh : Lo M (BM M2 (sz (sbT E r.2)) g) := (w5.trans f3).trans b4
    by_cases h7 : 40 < sz t - sz (sub t i) + sz (sbT E r.2)
    · have e1 : rwt (cmA A) r t i = (7, Lf) := by unfold rwt; rw [hm]; exact if_pos h7
      rw [ilt_pos h7 (by omega), e1]
      exact (m_ref (by omega) b3.1 (by omega)).pre hh
    have e1 : rwt (cmA A) r t i = (0, rep t i (sbT E r.2)) := by unfold rwt; rw [hm]; exact if_neg h7
    rw [ilt_neg (by omega) (by omega), e1]
    show MI _ M (addT A (rep t i (sbT E r.2)))
    unfold addT
    by_cases h24 : (tsA A).length < 24
    · rw [if_pos h24, ieq_neg (by omega) (by omega) (by omega)]
      obtain ⟨M3, p1, p2, p3⟩ := m_put (d := d + 93) (k := i) (by omega) b3 b2 k3 k4 b5 hi
      have hrs : sz (rep t i (sbT E r.2)) ≤ 40 := by rw [rep_sz k3 hi]; omega
      rw [p1, kV_r, p2.2.1]
      exact (m_newT (by omega) hA p2.1 h24 hrs (x := 65) (nx := 8100) rfl (by omega) (by omega) (by omega) p2.2.2).k.pre (hh.trans p3)
    · rw [if_neg h24, ieq_pos (by omega)]
      exact (m_ref (by omega) b3.1 (by omega)).pre hh
end
