/-! bound, fits, redexes, rewrite by the model -/
section
variable {d : Nat} {A : AT} {M : PM} {a b c e f : Int32} {v : Int64}
def GR (A : AT) (t : Tm) (M : PM) : Prop := RM A M ∧ M.1 52 19 = jn (sz t) ∧ At (M.1 65) 0 (en t)
theorem m_grow {n : Nat} {t : Tm} (hd : 1 ≤ d) (hA : AOk A) (h : RM A M) (ht : (tsA A)[n]? = some t) : ∃ M', pcl GG lay d 115 [.ref 52, .int (jn n)] M = rV M' ∧ GR A t M' ∧ Lo M M' := by
  obtain ⟨h3, h4, h5⟩ := tm_ok hA ht
  have e53 : M.1 53 n = jn (sz t) := (h.1.2.1 n t ht).1
  have e54 : At (M.1 54) (40 * n) (en t) := (h.1.2.1 n t ht).2
  have hf : Fr [52, 65] M (sI (sI M 52 (va_up (M.1 52) 19 (jn (sz t)))) 65 (cp (M.1 54) (M.1 65) (40 * n) 0 (sz t))) := (Fr.sI (by decide)).trans (Fr.sI (by decide))
  refine ⟨_, c_grow hd h5 h4 e53, ⟨RM_sc h (hf.mono (by decide)) (fun j hj => ?_), ?_, ?_⟩, Lo.fr hf (by decide)⟩
  · rw [sI_o _ _ (by omega), sI_k, up_at, if_neg (by rintro rfl; revert hj; decide)]
  · rw [sI_o _ _ (by omega), sI_k, up_at, if_pos rfl]
  · rw [sI_k]; exact AT_cp e54 (Nat.le_refl _)
theorem m_try {l k : Nat} {r : Tm × Tm} {t : Tm} (hd : 91 ≤ d) (hA : AOk A) (h : GR A t M) (hr : (rsA A)[l]? = some r) (ht : wf t) (hts : sz t ≤ 40) (hk : k < sz t) : ∃ M', pcl GG lay d 114 [.ref 52, .int (jn l), .int (jn k)] M = rI (if fitB (cmA A) r.1 t k = true then jn 1 else jn 0) M' ∧ GR A t M' ∧ Lo M M' ∧ ∀ e', mat (cmA A) r.1 (sub t k) = some e' → EM e' M' := by
  obtain ⟨hro, hl⟩ := rl_ok hA hr
  have hz := sub_sz ht hk
  have hR := h.1
  have e56 : At (M.1 56) (80 * l) (en r.1) := (hR.1.2.2.1 l r hr).2.2.1
  have e11 : M.1 52 11 = jn (cmA A) := hR.1.1.2.2.2.1
  have hst := sub_at ht hk h.2.2
  rw [Nat.zero_add] at hst
  obtain ⟨M', e1, e2, e3, e4⟩ := c_fit (d := d) (M := M) (cm := cmA A) (i := l) (q := k) (p := r.1) (t := sub t k) hd hA.1.2.2.2 e11 hro.1 hro.2.2.1 hl e56 (sub_wf ht hk) (by omega) hst (by omega)
  refine ⟨M', e1, ⟨RM_sc hR (e2.mono (by decide)) (fun j hj => e3 j (by rintro rfl; revert hj; decide) (by rintro rfl; revert hj; decide)), by rw [e3 19 (by omega) (by omega)]; exact h.2.1, by rw [e2.1 65 (by decide)]; exact h.2.2⟩, Lo.fr e2 (by decide), e4⟩
theorem ML.pre {o : PO} {M M' : PM} {ra : Int64 × AT} (h : ML o M' ra) (hh : Lo M M') : ML o M ra := by
  obtain ⟨M2, e1, e2, e3⟩ := h
  exact ⟨M2, e1, e2, hh.trans e3⟩
theorem m_bound (hd : 93 ≤ d) (hA : AOk A) (h : RM A M) : MI (pcl GG lay d 116 [.ref 52, .int a, .int b, .int c, .int e] M) M (F_bound A a b c e) := by
  obtain ⟨d, rfl⟩ := ex_add hd
  unfold F_bound
  rw [q_116, d_hasT (by omega) hA h, kI_r]
  by_cases h1 : hsT A a
  case neg => rw [bI_n h1, ieq_pos rfl, if_pos h1]; exact m_ref (by omega) h (by omega)
  rw [bI_1 h1, ieq_neg (by omega) (by omega) (by omega), if_neg (Classical.not_not.mpr h1), d_hasT (by omega) hA h, kI_r]
  by_cases h2 : hsT A b
  case neg => rw [bI_n h2, ieq_pos rfl, if_pos h2]; exact m_ref (by omega) h (by omega)
  rw [bI_1 h2, ieq_neg (by omega) (by omega) (by omega), if_neg (Classical.not_not.mpr h2)]
  obtain ⟨m, p, rfl, g1, g2, g3, g4, g5⟩ := ts_of hA h1
  obtain ⟨n, t, rfl, k1, k2, k3, k4, k5⟩ := ts_of hA h2
  obtain ⟨M1, w1, ⟨w2, w3, w4⟩, w5⟩ := m_grow (d := d + 92) (by omega) hA h k1
  rw [g2, k2, w1, kV_r, jn_mul]
  have e54 : At (M1.1 54) (40 * m) (en p) := (w2.1.2.1 m p g1).2
  have e11 : M1.1 52 11 = jn (cmA A) := w2.1.1.2.2.2.1
  obtain ⟨M2, e1, e2, e3, e4⟩ := c_isMatch (d := d + 92) (M := M1) (R := 54) (P := 40 * m) (q := 0) (by omega) (Or.inl rfl) hA.1.2.2.2 e11 g3 g4 e54 (by omega) k3 k4 w4 (by omega)
  have hR2 : RM A M2 := RM_sc w2 (e2.mono (by decide)) (fun j hj => e3 j (by rintro rfl; revert hj; decide) (by rintro rfl; revert hj; decide))
  have hh : Lo M M2 := w5.trans (Lo.fr e2 (by decide))
  rw [e1, kI_r]
  cases hm : mat (cmA A) p t with
  | none =>
    simp only [Option.isSome_none, Bool.false_eq_true, if_false]
    rw [if_pos trivial]
    exact (m_ref (by omega) hR2 (by omega)).pre hh
  | some E =>
    have hE := e4 E hm
    simp only [Option.isSome_some, if_true]
    rw [ieq_neg (by omega) (by omega) (by omega), c_isVm (by omega), kI_r]
    by_cases hv : isV c
    case neg =>
      rw [bI_n hv, ieq_pos rfl]
      simp only [if_neg hv]
      exact (m_ref (by omega) hR2 (by omega)).pre hh
    rw [bI_1 hv, ieq_neg (by omega) (by omega) (by omega)]
    simp only [if_pos hv]
    obtain ⟨j, hj, rfl⟩ := isV_k hv
    have hEj := hE j hj
    rw [jn_sub (by omega), Nat.add_sub_cancel_left, ald_n (n := 6) rfl hj (by omega), oB_s, vi_k hj]
    cases he : E j with
    | none =>
      rw [he] at hEj
      simp only at hEj ⊢
      rw [if_pos hEj]
      exact (m_ref (by omega) hR2 (by omega)).pre hh
    | some u =>
      rw [he] at hEj
      obtain ⟨q, q1, q2, q3, q4, q5⟩ := hEj
      have zu := sz_pos u q2
      simp only
      rw [q1, ieq_z (by omega) (by omega), oB_s, c_span (n := 8100) (by omega) rfl (by omega) q2 q5 q4, kI_r, jn_sub (by omega), c_within_n (by omega) (by omega) (by omega), kI_r]
      by_cases h5 : 0 ≤ e.toInt ∧ e.toInt < (sz u : Nat)
      · rw [bI_1 (show ((0 : Nat) : Int) ≤ e.toInt ∧ e.toInt ≤ ((sz u - 1 : Nat) : Int) from ⟨by omega, by omega⟩), ieq_neg (by omega) (by omega) (by omega), if_pos h5]
        obtain ⟨i, hi, rfl⟩ := inn h5
        rw [jn_add, ald_n (n := 8100) rfl (by omega) (by omega), oB_s, jnN (by omega), sgn_at q5 hi]
        exact ⟨M2, rfl, hR2, hh⟩
      · rw [bI_n (show ¬ (((0 : Nat) : Int) ≤ e.toInt ∧ e.toInt ≤ ((sz u - 1 : Nat) : Int)) from fun z => h5 ⟨by omega, by omega⟩), ieq_pos rfl, if_neg h5]
        exact (m_ref (by omega) hR2 (by omega)).pre hh
theorem m_cnt {l : Nat} {r : Tm × Tm} {t : Tm} {u2 : Option Value} (hd : 92 ≤ d) (hA : AOk A) (hr : (rsA A)[l]? = some r) (ht : wf t) (hts : sz t ≤ 40) : ∀ m k c M, k + m = sz t → c ≤ k → GR A t M → MI (E_117 d (33, [some (.ref 52), some (.int (jn l)), u2, some (.int a), some (.int (jn c)), some (.int (jn k))], [], M)) M (if a = jz 1 then jn (cnt (fitB (cmA A) r.1 t) m k c) else nth (fitB (cmA A) r.1 t) m k c a, A) := by
  intro m
  induction m with
  | zero =>
    intro k c M hk hc h
    rw [h_117_33, h.2.1, ilt_neg (by omega) (by omega)]
    by_cases ha : a = jz 1
    · rw [if_pos ha, if_pos ha]; exact ⟨M, rfl, h.1, Lo.rf⟩
    · rw [if_neg ha, if_neg ha]; exact ⟨M, rfl, h.1, Lo.rf⟩
  | succ m ih =>
    intro k c M hk hc h
    obtain ⟨M', e1, e2, e3, -⟩ := m_try (d := d) (k := k) (by omega) hA h hr ht hts (by omega)
    rw [h_117_33, h.2.1, ilt_pos (by omega) (by omega), e1, kI_r, cnt, nth]
    by_cases hf : fitB (cmA A) r.1 t k = true
    · rw [if_pos hf, ieq_neg (by omega) (by omega) (by omega), if_pos hf, if_pos hf]
      by_cases hca : jn c = a
      · have ha : ¬ a = jz 1 := by rw [← hca, jn_jz (by omega) (by omega)]; exact id
        rw [if_pos hca, if_neg ha, if_pos hca]
        exact ⟨M', rfl, e2.1, e3⟩
      · rw [if_neg hca, if_neg hca, jn_add, jn_add]
        exact (ih (k + 1) (c + 1) M' (by omega) (by omega) e2).pre e3
    · rw [if_neg hf, ieq_pos rfl, if_neg hf, if_neg hf, jn_add]
      exact (ih (k + 1) c M' (by omega) (by omega) e2).pre e3
theorem m_fits (hd : 94 ≤ d) (hA : AOk A) (h : RM A M) : MI (pcl GG lay d 117 [.ref 52, .int a, .int b, .int c] M) M (F_fits A a b c) := by
  obtain ⟨d, rfl⟩ := ex_add hd
  unfold F_fits
  have rf : MI (kI (pcl GG lay (d + 93) 70 [.ref 52, .int (jz 1)] M) fun r2 M2 => (rI r2 M2)) M (jz 11, (rfs A 1).2) := by
    obtain ⟨M', e1, e2, e3⟩ := m_ref0 (d := d + 92) (k := 1) (by omega) h (by omega)
    refine ⟨M', ?_, e2, e3⟩
    rw [q_70, e1, kI_r, kI_r]
    show rI (jz 1 - jn 10) M' = rI (jz 11) M'
    rw [show jz 1 - jn 10 = jz 11 by decide]
  rw [q_117, d_hasR (by omega) hA h, kI_r]
  by_cases h1 : hsR A a
  case neg => rw [bI_n h1, ieq_pos rfl, if_pos h1]; exact rf
  rw [bI_1 h1, ieq_neg (by omega) (by omega) (by omega), if_neg (Classical.not_not.mpr h1), d_hasT (by omega) hA h, kI_r]
  by_cases h2 : hsT A b
  case neg =>
    rw [bI_n h2, ieq_pos rfl, if_pos h2]
    obtain ⟨M', e1, e2, e3⟩ := m_ref0 (d := d + 93) (k := 1) (by omega) h (by omega)
    first
      | exact rf
      | exact ⟨M', by rw [e1, kI_r]; rfl, e2, e3⟩
  rw [bI_1 h2, ieq_neg (by omega) (by omega) (by omega), if_neg (Classical.not_not.mpr h2)]
  obtain ⟨l, r, rfl, g1, g2, g3, g4⟩ := rs_of hA h1
  obtain ⟨n, t, rfl, k1, k2, k3, k4, k5⟩ := ts_of hA h2
  obtain ⟨M1, w1, w2, w5⟩ := m_grow (d := d + 93) (by omega) hA h k1
  rw [g2, k2, w1, kV_r]
  have := (m_cnt (d := d + 93) (a := c) (u2 := some (.int (jn n))) (by omega) hA g1 k3 k4 (sz t) 0 0 M1 (by omega) (by omega) w2).pre w5
  by_cases h3 : c = jz 1
  · rw [if_pos h3] at this ⊢; exact this
  · rw [if_neg h3] at this ⊢; exact this
end
