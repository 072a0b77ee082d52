/-! bound, fits, redexes, rewrite by the system -/
section
variable {d : Nat} {A : AT} {M : PM} {a b c e f : Int32} {v : Int64}
theorem k_rewrite (hA : AOk A) : AOk (F_rewrite A a b c).2 := by
  unfold F_rewrite
  split
  · exact hA
  split
  · exact hA
  split
  · exact hA
  rename_i h1 h2 h3
  split
  · rename_i h4
    obtain ⟨n, t, rfl, g1, g2, g3, g4, g5⟩ := ts_of hA (Classical.not_not.mp h2)
    obtain ⟨l, r, rfl, k1, k2, k3, k4⟩ := rs_of hA (Classical.not_not.mp h1)
    rw [g2, k2] at h4 ⊢
    rw [g2] at h3
    have h3 := Classical.not_not.mp h3
    obtain ⟨w1, w2⟩ := rwt_ok k3.2.1 g3 g4 (by omega) h4
    exact k_addT hA w1 w2
  · exact hA
theorem x_bound (hd : 10 ≤ d) (hA : AOk A) (h : RX A M) : XI (pcl GG lay d 22 [.ref 0, .int a, .int b, .int c, .int e] M) M (F_bound A a b c e) := by
  obtain ⟨d, rfl⟩ := ex_add hd
  unfold F_bound
  rw [q_22, c_hasT (by omega) hA h, kI_r]
  by_cases h1 : hsT A a
  case neg => rw [bI_n h1, ieq_pos rfl, if_pos h1]; exact x_ref (by omega) h (by omega)
  rw [bI_1 h1, ieq_neg (by omega) (by omega) (by omega), if_neg (Classical.not_not.mpr h1), c_hasT (by omega) hA h, kI_r]
  by_cases h2 : hsT A b
  case neg => rw [bI_n h2, ieq_pos rfl, if_pos h2]; exact x_ref (by omega) h (by omega)
  rw [bI_1 h2, ieq_neg (by omega) (by omega) (by omega), if_neg (Classical.not_not.mpr h2)]
  obtain ⟨m, p, rfl, g1, g2, g3, g4, g5⟩ := ts_of hA h1
  obtain ⟨n, t, rfl, k1, k2, k3, k4, k5⟩ := ts_of hA h2
  rw [g2, k2, c_tp (by omega), kI_r, c_tp (by omega), kI_r]
  have zt := sz_pos t k3
  have hta : At (M.1 7) (40 * n) (en t) := h.1.2.1 n t k1
  have hpa : At (M.1 7) (40 * m) (en p) := h.1.2.1 m p g1
  have h8 : M.1 1 8 = jn (cmA A) := h.1.1.2.2.2.1
  have hcm : cmA A < 16 := hA.1.2.2.2
  obtain ⟨M1, e1, e2, e3⟩ := c_match (d := d + 9) (M := M) (cm := cmA A) (P := 40 * m) (q := 40 * n) (p := p) (t := t) (by omega) hcm (by omega) g3 g4 hpa k3 k4 (by omega) hta
  have hR1 : RX A M1 := RX_sc hA.1 h (e2.mono (by decide)) (fun i _ => by rw [e2.1 7 (by decide)])
  have hh : Hi M M1 := Hi.fr e2 (by decide)
  rw [h8, e1, kI_r]
  cases hm : mat (cmA A) p t with
  | none =>
    simp only [Option.isSome_none, Bool.false_eq_true, if_false]
    rw [if_pos trivial]
    exact (x_ref (by omega) hR1 (by omega)).pre hh
  | some E =>
    have hE := e3 E hm
    simp only [Option.isSome_some, if_true]
    rw [ieq_neg (by omega) (by omega) (by omega)]
    rcases c_boundTo (d := d + 9) (c := c) (by omega) hE with ⟨u, q, w1, w2, -, w4, w5, w6, w7, -, w8⟩ | ⟨w1, w2, w3⟩ | w
    · rw [w8, kI_r, if_neg (by rw [jn_jz (by omega) (by omega)]; exact id), c_hasN (by omega) w4 w7 (by omega), kI_r, if_pos w1, w2]
      simp only
      by_cases h5 : 0 ≤ e.toInt ∧ e.toInt < (sz u : Nat)
      · rw [bI_1 h5, ieq_neg (by omega) (by omega) (by omega), if_pos h5]
        obtain ⟨i, hi, rfl⟩ := inn h5
        rw [jn_add, c_at (by omega) (by omega), kI_r, jnN (by omega), sgn_at w7 hi]
        exact ⟨M1, rfl, hR1, hh⟩
      · rw [bI_n h5, ieq_pos rfl, if_neg h5]
        exact (x_ref (by omega) hR1 (by omega)).pre hh
    · rw [w3, kI_r, if_pos rfl]
      by_cases hv : isV c
      · simp only [if_pos hv, w2 hv]
        exact (x_ref (by omega) hR1 (by omega)).pre hh
      · simp only [if_neg hv]
        exact (x_ref (by omega) hR1 (by omega)).pre hh
    · omega
theorem x_fits (hd : 12 ≤ d) (hA : AOk A) (h : RX A M) : XI (pcl GG lay d 23 [.ref 0, .int a, .int b, .int c] M) M (F_fits A a b c) := by
  obtain ⟨d, rfl⟩ := ex_add hd
  unfold F_fits
  have rf : XI (kI (pcl GG lay (d + 11) 56 [.ref 0, .int (jz 1)] M) fun r2 M2 => (rI (r2 - (jn 10)) M2)) M (jz 11, (rfs A 1).2) := by
    obtain ⟨M', e1, e2, e3⟩ := x_ref0 (d := d + 11) (k := 1) (by omega) h (by omega)
    exact ⟨M', by rw [e1, kI_r]; show rI (jz 1 - jn 10) M' = rI (jz 11) M'; rw [show jz 1 - jn 10 = jz 11 by decide], e2, e3⟩
  rw [q_23, c_hasR (by omega) hA h, kI_r]
  by_cases h1 : hsR A a
  case neg => rw [bI_n h1, ieq_pos rfl, if_pos h1]; exact rf
  rw [bI_1 h1, ieq_neg (by omega) (by omega) (by omega), if_neg (Classical.not_not.mpr h1), c_hasT (by omega) hA h, kI_r]
  by_cases h2 : hsT A b
  case neg => rw [bI_n h2, ieq_pos rfl, if_pos h2]; exact rf
  rw [bI_1 h2, ieq_neg (by omega) (by omega) (by omega), if_neg (Classical.not_not.mpr h2)]
  obtain ⟨l, r, rfl, g1, g2, g3, g4⟩ := rs_of hA h1
  obtain ⟨n, t, rfl, k1, k2, k3, k4, k5⟩ := ts_of hA h2
  rw [g2, k2]
  have hta : At (M.1 7) (40 * n) (en t) := h.1.2.1 n t k1
  by_cases h3 : c = jz 1
  · rw [if_pos h3, if_pos h3, c_tp (by omega), kI_r, q_24, c_sizeAt (by omega) k3 hta (by omega), kI_r]
    exact (x_cnt (d := d + 10) (by omega) hA g1 k1 (sz t) 0 0 M (by omega) h).k
  · rw [if_neg h3, if_neg h3, c_tp (by omega), kI_r, q_25, c_sizeAt (by omega) k3 hta (by omega), kI_r]
    exact (x_nth (d := d + 10) (by omega) hA g1 k1 (sz t) 0 0 M (by omega) h).k
theorem x_redexes (hd : 14 ≤ d) (hA : AOk A) (h : RX A M) : XL (pcl GG lay d 26 [.ref 0, .int a] M) M (F_redexes A a) := by
  obtain ⟨d, rfl⟩ := ex_add hd
  unfold F_redexes
  rw [q_26, c_hasT (by omega) hA h, kI_r]
  by_cases h2 : hsT A a
  case neg =>
    rw [bI_n h2, ieq_pos rfl, if_pos h2]
    obtain ⟨M', e1, e2, e3⟩ := x_ref0 (d := d + 13) (k := 1) (by omega) h (by omega)
    exact ⟨M', by rw [e1, kI_r]; rfl, e2, e3⟩
  rw [bI_1 h2, ieq_neg (by omega) (by omega) (by omega), if_neg (Classical.not_not.mpr h2)]
  obtain ⟨n, t, rfl, k1, k2, k3, k4, k5⟩ := ts_of hA h2
  have hta : At (M.1 7) (40 * n) (en t) := h.1.2.1 n t k1
  rw [k2, c_tp (by omega), kI_r, q_27, c_sizeAt (by omega) k3 hta (by omega), kI_r]
  obtain ⟨M', e1, e2, e3⟩ := x_msk (d := d + 12) (by omega) hA k1 (sz t) 0 (Int64.ofNat 0) M (by omega) h
  exact ⟨M', by rw [e1, kL_r], e2, e3⟩
/-- a tree of the state's is rewritten: the new one lies at 1920 -/
theorem x_rew {l n i : Nat} {r : Tm × Tm} {t : Tm} (hd : 10 ≤ d) (hA : AOk A) (h : RX A M) (hr : (rsA A)[l]? = some r) (ht : (tsA A)[n]? = some t) (hi : i < sz t) : ∃ M', pcl GG lay d 30 [.ref 0, .int (jn l), .int (jn (40 * n)), .int (jn i)] M = rI (jz (rwt (cmA A) r t i).1) M' ∧ RX A M' ∧ RwX (rwt (cmA A) r t i) M M' := by
  obtain ⟨hro, hl⟩ := rl_ok hA hr
  obtain ⟨h3, h4, h5⟩ := tm_ok hA ht
  have hta : At (M.1 7) (40 * n) (en t) := h.1.2.1 n t ht
  obtain ⟨M', e1, e2⟩ := c_rew (d := d) (M := M) (cm := cmA A) (n := l) (P := 40 * n) (i := i) (rl := r) (t := t) hd hA.1.2.2.2 hl h.1.1.2.2.2.1 ⟨hro.1, hro.2.1, hro.2.2.1, hro.2.2.2.1⟩ (h.1.2.2.1 l r hr).1 (h.1.2.2.1 l r hr).2 h3 h4 hta (Or.inl (by omega)) hi
  refine ⟨M', e1, RX_sc hA.1 h (e2.1.mono (by decide)) (fun j hj => ?_), e2⟩
  by_cases h0 : (rwt (cmA A) r t i).1 = 0
  · exact (e2.2.2 h0).2 j (Or.inl hj)
  · rw [e2.2.1 h0]
theorem x_rewrite (hd : 12 ≤ d) (hA : AOk A) (h : RX A M) : XI (pcl GG lay d 29 [.ref 0, .int a, .int b, .int c] M) M (F_rewrite A a b c) := by
  obtain ⟨d, rfl⟩ := ex_add hd
  unfold F_rewrite
  rw [q_29, c_hasR (by omega) hA h, kI_r]
  by_cases h1 : hsR A a
  case neg => rw [bI_n h1, ieq_pos rfl, if_pos h1]; exact x_ref (by omega) h (by omega)
  rw [bI_1 h1, ieq_neg (by omega) (by omega) (by omega), if_neg (Classical.not_not.mpr h1), c_hasT (by omega) hA h, kI_r]
  by_cases h2 : hsT A b
  case neg => rw [bI_n h2, ieq_pos rfl, if_pos h2]; exact x_ref (by omega) h (by omega)
  rw [bI_1 h2, ieq_neg (by omega) (by omega) (by omega), if_neg (Classical.not_not.mpr h2)]
  obtain ⟨l, r, rfl, g1, g2, g3, g4⟩ := rs_of hA h1
  obtain ⟨n, t, rfl, k1, k2, k3, k4, k5⟩ := ts_of hA h2
  have hta : At (M.1 7) (40 * n) (en t) := h.1.2.1 n t k1
  rw [g2, k2, c_tp (by omega), kI_r, c_hasN (by omega) k3 hta (by omega), kI_r]
  by_cases h3 : 0 ≤ c.toInt ∧ c.toInt < (sz t : Nat)
  case neg => rw [bI_n h3, ieq_pos rfl, if_pos h3]; exact x_ref (by omega) h (by omega)
  rw [bI_1 h3, ieq_neg (by omega) (by omega) (by omega), if_neg (Classical.not_not.mpr h3)]
  obtain ⟨i, hi, rfl⟩ := inn h3
  rw [jnN (by omega), c_tp (by omega), kI_r]
  obtain ⟨M', e1, e2, e3⟩ := x_rew (d := d + 11) (i := i) (by omega) hA h g1 k1 hi
  have hh : Hi M M' := Hi.fr e3.1 (by decide)
  rw [e1, kI_r]
  have hc := rwt_le (cmA A) r t i
  by_cases h0 : (rwt (cmA A) r t i).1 = 0
  · obtain ⟨w1, w2⟩ := rwt_ok g3.2.1 k3 k4 hi h0
    rw [if_pos h0, h0, if_pos (show jz 0 = jn 0 from rfl)]
    exact (x_newT (by omega) hA e2 w1 w2 (e3.2.2 h0).1 (by omega) (by omega)).k.pre hh
  · rw [if_neg h0, if_neg (by rw [jz_jn (by omega) (by omega)]; exact id)]
    exact (x_ref (by omega) e2 (by omega)).pre hh
end
