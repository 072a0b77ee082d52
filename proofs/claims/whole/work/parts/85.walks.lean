/-! the model's run: arguments -/
section
variable {d : Nat} {A : AT} {M M1 M' : PM} {a b c e f : Int32} {v : Int64} {T : Tm} {q : RnS} {K i : Nat}
theorem OutM.arg2 {s : Prop} {x x' y : Tm} {q1 q2 : RnS} (hT : wf T) (hi : i < sz T) (h2 : wf (Nd c x' y)) (wy : wf y) (hk : Kp K M M1) (g : sz x' + 39 * q.2.1 ≤ sz x + 39 * q1.2.1) (g2 : ∃ tr, q1.2.2.1 = q.2.2.1 ++ tr) (h : OutM s A (rep T i (Nd c x' y)) (i + 1 + sz x') y q1 K M1 (none, q2) M') : OutM False A T i (Nd c x y) q K M (none, q2) M' := by
  rcases h with ⟨h, h1, h3⟩ | ⟨h0, h1, u2, tr, _, h3, h4, h5⟩
  · exact Or.inl ⟨h, hk.1.trans h1, h3⟩
  · obtain ⟨tr', g2⟩ := g2
    have hT1 := rep_wf hT hi h2
    have hi1 := rep_lt hT hi h2
    have hu1 := sub_rep hT hi h2
    refine Or.inr ⟨h0, hk.trans h1, Nd c x' u2, tr' ++ tr, fun z => z.elim, wf_n2 h2 wy h3, by rw [sz_n, sz_n]; omega, RunM_t (RunM_eq h5 (by rw [g2, List.append_assoc])) ?_⟩
    rw [rep_c2 hT1 hi1 hu1 wy h3, rep_rep hT hi h2 (wf_n2 h2 wy h3)]
theorem OutM.dry {u : Tm} {q2 : RnS} (hT : wf T) (hi : i < sz T) (hu : sub T i = u) (hk : Kp K M M1) (h : RunM A T q2 K M1) (ho : ¬ q2.2.2.2 = true) (g1 : q.2.1 ≤ q2.2.1) (g2 : ∃ tr, q2.2.2.1 = q.2.2.1 ++ tr) : OutM False A T i u q K M (none, q2) M1 := by
  obtain ⟨tr, g2⟩ := g2
  have ho : q2.2.2.2 = false := by simpa using ho
  refine Or.inr ⟨ho, hk, u, tr, fun z => z.elim, hu ▸ sub_wf hT hi, by omega, RunM_t (RunM_eq h ?_) (by rw [← hu, rep_self hT hi])⟩
  rw [← g2, ← ho]
theorem sg65 {x y : Tm} (hT : wf T) (hi : i < sz T) (hu : sub T i = Nd c x y) (h : RunM A T q K M) : M.1 65 i = c := by
  have := sub_at hT hi h.1.2.2
  rw [hu, Nat.zero_add, en_n] at this
  exact this.1
theorem at65 {x : Tm} {j : Nat} (hT : wf T) (hj : j < sz T) (hu : sub T j = x) (h : RunM A T q K M) : At (M.1 65) j (en x) := by
  have := sub_at hT hj h.1.2.2
  rw [hu, Nat.zero_add] at this
  exact this
theorem m_all {N : Nat} {w : Int32} {s : Prop} {R : Tm → Int64 → RnS → RnR} (hd : 5 ≤ d) (hR : RFun True 1 R) (hc : Srv A N 1 s (fun i M => pcl GG lay d 140 [.ref 52, .int w, .int (jn i)] M) R) : Srv A N 0 False (fun i M => pcl GG lay (d + 1) 134 [.ref 52, .int w, .int (jn i)] M) (allC R) := by
  intro T i u q K M hT hi hu hs hq hTs hK hN h
  have hw : wf u := hu ▸ sub_wf hT hi
  obtain ⟨c, x, y, rfl, -⟩ := wf_cases hw
  obtain ⟨w2, w1, w0⟩ := wf_a hw
  have hz := sub_sz hT hi
  rw [hu, sz_n] at hz
  rw [sz_n] at hs
  have hq1 := hq.1
  have hq2 := hq.2.1
  show ∃ M', pcl GG lay (d + 1) 134 [.ref 52, .int w, .int (jn i)] M = _ ∧ _
  rw [q_134, ald_n (n := 8100) rfl (by omega) (by omega), oB_s, sg65 hT hi hu h, c_aritym (by omega), kI_r]
  by_cases h2 : is2 c
  · obtain ⟨wx, wy⟩ := w2 h2
    have hl1 := n1_lt hT hi hu wx
    rw [arR_2 h2, h_134_13, ilt_pos (by omega) (by omega), c_arg0 (by omega), kI_r]
    obtain ⟨M1, f1, f2⟩ := hc T (i + 1) x q K M hT hl1 (sub_c1 hT hi hu wx) (by omega) hq hTs (by omega) hN h
    have f1 : pcl GG lay d 140 [.ref 52, .int w, .int (jn (i + 1))] M = _ := f1
    rw [pa_c1 hi hu wx] at f1 f2
    rw [f1, kI_r]
    rcases e : R x (pth (paT T i) 1) q with ⟨_ | x', q1⟩
    · rw [e] at f2
      have ea : allC R (Nd c x y) (paT T i) q = (none, q1) := by unfold allC; simp only [if_pos h2, e]
      rw [bI_none, ieq_pos rfl, rZ_0, ea, bI_none]
      exact ⟨M1, rfl, f2.arg1 hT hi hu wx⟩
    · rw [e] at f2
      obtain ⟨g1, g2, g3, g4, g5, g6, g7⟩ := hR.some wx (by omega) hq e
      obtain ⟨k1, m1⟩ := f2
      have m1 := RunM_t m1 (rep_c1 hT hi hu wx g1)
      have hw1 : wf (Nd c x' y) := wf_2 h2 g1 wy
      have hT1 := rep_wf hT hi hw1
      have hi1 := rep_lt hT hi hw1
      have hu1 := sub_rep hT hi hw1
      have hp1 := pa_rep hT hi hw1
      have z1 := rep_sz (s := Nd c x' y) hT hi
      rw [hu, sz_n, sz_n] at z1
      have hl2 := n2_lt hT1 hi1 hu1 wy
      have q12 := g3.2.1
      have q11 := g3.1
      have e65 := at65 hT1 (n1_lt hT1 hi1 hu1 g1) (sub_c1 hT1 hi1 hu1 g1) m1
      rw [bI_some, ieq_neg (by omega) (by omega) (by omega), jn_add, show 0 + 1 = 1 from rfl, h_134_13, ilt_pos (by omega) (by omega), c_arg1 (n := 8100) (t := x') (by omega) rfl (by omega) g1 e65 (by omega), kI_r]
      obtain ⟨M2, p1, p2⟩ := hc _ (i + 1 + sz x') y q1 K M1 hT1 hl2 (sub_c2 hT1 hi1 hu1 wy) (by omega) g3 (by omega) (by omega) (by omega) m1
      have p1 : pcl GG lay d 140 [.ref 52, .int w, .int (jn (i + 1 + sz x'))] M1 = _ := p1
      rw [pa_c2 hi1 hu1 wy, hp1] at p1 p2
      rw [p1, kI_r]
      rcases e' : R y (pth (paT T i) 2) q1 with ⟨_ | y', q2⟩
      · rw [e'] at p2
        have ea : allC R (Nd c x y) (paT T i) q = (none, q2) := by unfold allC; simp only [if_pos h2, e, e']
        rw [bI_none, ieq_pos rfl, rZ_0, ea, bI_none]
        exact ⟨M2, rfl, p2.arg2 hT hi hw1 wy k1 g6 g7⟩
      · rw [e'] at p2
        have ea : allC R (Nd c x y) (paT T i) q = chk (Nd c x' y') q2 := by unfold allC; simp only [if_pos h2, e, e']
        obtain ⟨n1, n2, n3, n4, n5, n6, n7⟩ := hR.some wy (by omega) g3 e'
        have hw2 : wf (Nd c x' y') := wf_2 h2 g1 n1
        have m2 := RunM_t p2.2 ((rep_c2 hT1 hi1 hu1 wy n1).trans (rep_rep hT hi hw1 hw2))
        have z2 := rep_sz (s := Nd c x' y') hT hi
        rw [hu, sz_n, sz_n] at z2
        have q22 := n3.2.1
        rw [bI_some, ieq_neg (by omega) (by omega) (by omega), jn_add, h_134_13, ilt_neg (by omega) (by omega), ea]
        obtain ⟨M3, v1, v2⟩ := m_chk (s := False) (d := d) (u := Nd c x y) (q := q) (by omega) hT hi hw2 m2 (k1.trans p2.1) (by omega)
        rw [v1, kI_r, rZ_b]
        exact ⟨M3, rfl, v2⟩
  · by_cases h1 : is1 c
    · obtain ⟨wx, rfl⟩ := w1 h2 h1
      have hl1 := n1_lt hT hi hu wx
      rw [arR_1 h1, h_134_13, ilt_pos (by omega) (by omega), c_arg0 (by omega), kI_r]
      obtain ⟨M1, f1, f2⟩ := hc T (i + 1) x q K M hT hl1 (sub_c1 hT hi hu wx) (by omega) hq hTs (by omega) hN h
      have f1 : pcl GG lay d 140 [.ref 52, .int w, .int (jn (i + 1))] M = _ := f1
      rw [pa_c1 hi hu wx] at f1 f2
      rw [f1, kI_r]
      rcases e : R x (pth (paT T i) 1) q with ⟨_ | x', q1⟩
      · rw [e] at f2
        have ea : allC R (Nd c x Lf) (paT T i) q = (none, q1) := by unfold allC; simp only [if_neg h2, if_pos h1, e]
        rw [bI_none, ieq_pos rfl, rZ_0, ea, bI_none]
        exact ⟨M1, rfl, f2.arg1 hT hi hu wx⟩
      · rw [e] at f2
        have ea : allC R (Nd c x Lf) (paT T i) q = chk (Nd c x' Lf) q1 := by unfold allC; simp only [if_neg h2, if_pos h1, e]
        obtain ⟨g1, g2, g3, g4, g5, g6, g7⟩ := hR.some wx (by omega) hq e
        obtain ⟨k1, m1⟩ := f2
        have m1 := RunM_t m1 (rep_c1 hT hi hu wx g1)
        have hw1 : wf (Nd c x' Lf) := wf_1 h1 g1
        have z1 := rep_sz (s := Nd c x' Lf) hT hi
        rw [hu, sz_n, sz_n] at z1
        have q12 := g3.2.1
        rw [bI_some, ieq_neg (by omega) (by omega) (by omega), jn_add, h_134_13, ilt_neg (by omega) (by omega), ea]
        obtain ⟨M3, v1, v2⟩ := m_chk (s := False) (d := d) (u := Nd c x Lf) (q := q) (by omega) hT hi hw1 m1 k1 (by omega)
        rw [v1, kI_r, rZ_b]
        exact ⟨M3, rfl, v2⟩
    · have h0 := (w0 h2 h1).1
      have ea : allC R (Nd c x y) (paT T i) q = chk (Nd c x y) q := by unfold allC; simp only [if_neg h2, if_neg h1]
      rw [arR_0 h0, h_134_13, ilt_neg (by omega) (by omega), ea]
      obtain ⟨M3, v1, v2⟩ := m_chk (s := False) (d := d) (u := Nd c x y) (q := q) (M := M) (by omega) hT hi hw (RunM_t h (by rw [← hu, rep_self hT hi])) Kp.rf (by rw [← hu, rep_self hT hi]; omega)
      rw [v1, kI_r, rZ_b]
      exact ⟨M3, rfl, v2⟩
theorem m_one {N : Nat} {w : Int32} {R : Tm → Int64 → RnS → RnR} (hd : 5 ≤ d) (hR : RFun True 1 R) (hc : Srv A N 0 True (fun i M => pcl GG lay d 132 [.ref 52, .int w, .int (jn i)] M) R) : Srv A N 0 False (fun i M => pcl GG lay (d + 1) 135 [.ref 52, .int w, .int (jn i)] M) (oneC R) := by
  intro T i u q K M hT hi hu hs hq hTs hK hN h
  have hw : wf u := hu ▸ sub_wf hT hi
  obtain ⟨c, x, y, rfl, -⟩ := wf_cases hw
  obtain ⟨w2, w1, w0⟩ := wf_a hw
  have hz := sub_sz hT hi
  rw [hu, sz_n] at hz
  rw [sz_n] at hs
  have hq1 := hq.1
  have hq2 := hq.2.1
  show ∃ M', pcl GG lay (d + 1) 135 [.ref 52, .int w, .int (jn i)] M = _ ∧ _
  rw [q_135, ald_n (n := 8100) rfl (by omega) (by omega), oB_s, sg65 hT hi hu h, c_aritym (by omega), kI_r]
  by_cases h0 : ¬ is2 c ∧ ¬ is1 c
  · have h00 := (w0 h0.1 h0.2).1
    have ea : oneC R (Nd c x y) (paT T i) q = (none, q) := by unfold oneC; simp only [if_neg h0.1, if_neg h0.2]
    rw [arR_0 h00, h_135_13, ilt_neg (by omega) (by omega), ea, rZ_0, bI_none]
    exact ⟨M, rfl, OutM.dry hT hi hu Kp.rf h (by rw [hq.2.2.2.1]; simp) (by omega) ⟨[], by simp⟩⟩
  have h3 : is2 c ∨ is1 c := by
    by_cases h2 : is2 c
    · exact Or.inl h2
    · exact Or.inr (Classical.byContradiction fun z => h0 ⟨h2, z⟩)
  have wx : wf x := by
    by_cases h2 : is2 c
    · exact (w2 h2).1
    · exact (w1 h2 (h3.resolve_left h2)).1
  have hl1 := n1_lt hT hi hu wx
  have har : ∃ n, arR c = jn n ∧ 0 < n ∧ n < 3 := by
    rcases h3 with h2 | h1
    · exact ⟨2, arR_2 h2, by omega, by omega⟩
    · exact ⟨1, arR_1 h1, by omega, by omega⟩
  obtain ⟨n, har, hn, hn3⟩ := har
  rw [har, h_135_13, ilt_pos hn (by omega), c_arg0 (by omega), kI_r]
  obtain ⟨M1, f1, f2⟩ := hc T (i + 1) x q K M hT hl1 (sub_c1 hT hi hu wx) (by omega) hq hTs (by omega) hN h
  have f1 : pcl GG lay d 132 [.ref 52, .int w, .int (jn (i + 1))] M = _ := f1
  rw [pa_c1 hi hu wx] at f1 f2
  rw [f1, kI_r]
  rcases e : R x (pth (paT T i) 1) q with ⟨_ | x', q1⟩
  · rw [e] at f2
    have r1 := hR.none wx (by omega) hq e
    rw [bI_none, ieq_pos rfl, f2.out]
    by_cases ho : q1.2.2.2 = true
    · have ea : oneC R (Nd c x y) (paT T i) q = (none, q1) := by
        unfold oneC
        rcases h3 with h2 | h1
        · simp only [if_pos h2, e, if_pos ho]
        · simp only [if_neg (show ¬ is2 c by omega), if_pos h1, e]
      rw [if_pos ho, ieq_neg (by omega) (by omega) (by omega), rZ_0, ea, bI_none]
      exact ⟨M1, rfl, f2.ovr ho Fr.rf⟩
    rw [if_neg ho, ieq_pos rfl, jn_add, show 0 + 1 = 1 from rfl]
    obtain ⟨k1, m1⟩ := f2.back ho r1 hT hl1 (sub_c1 hT hi hu wx)
    obtain ⟨g3, g4, g5, g6⟩ := r1.resolve_left ho
    by_cases h2 : is2 c
    · obtain ⟨-, wy⟩ := w2 h2
      obtain rfl : n = 2 := by rw [arR_2 h2, jn_inj (by omega) (by omega)] at har; omega
      have hl2 := n2_lt hT hi hu wy
      have e65 := at65 hT hl1 (sub_c1 hT hi hu wx) m1
      have q11 := g3.1
      have q12 := g3.2.1
      rw [h_135_13, ilt_pos (by omega) (by omega), c_arg1 (n := 8100) (t := x) (by omega) rfl (by omega) wx e65 (by omega), kI_r]
      obtain ⟨M2, p1, p2⟩ := hc T (i + 1 + sz x) y q1 K M1 hT hl2 (sub_c2 hT hi hu wy) (by omega) g3 (by omega) (by omega) (by omega) m1
      have p1 : pcl GG lay d 132 [.ref 52, .int w, .int (jn (i + 1 + sz x))] M1 = _ := p1
      rw [pa_c2 hi hu wy] at p1 p2
      rw [p1, kI_r]
      rcases e' : R y (pth (paT T i) 2) q1 with ⟨_ | y', q2⟩
      · rw [e'] at p2
        have r2 := hR.none wy (by omega) g3 e'
        have ea : oneC R (Nd c x y) (paT T i) q = (none, q2) := by unfold oneC; simp only [if_pos h2, e, if_neg ho, e']
        rw [bI_none, ieq_pos rfl, p2.out]
        by_cases ho2 : q2.2.2.2 = true
        · rw [if_pos ho2, ieq_neg (by omega) (by omega) (by omega), rZ_0, ea, bI_none]
          exact ⟨M2, rfl, p2.ovr ho2 k1.1⟩
        · obtain ⟨k2, m2⟩ := p2.back ho2 r2 hT hl2 (sub_c2 hT hi hu wy)
          obtain ⟨n3, n4, n5, tr2, n6, n7⟩ := r2.resolve_left ho2
          obtain ⟨tr1, g6, g7⟩ := g6
          rw [if_neg ho2, ieq_pos rfl, jn_add, h_135_13, ilt_neg (by omega) (by omega), rZ_0, ea, bI_none]
          exact ⟨M2, rfl, OutM.dry hT hi hu (k1.trans k2) m2 ho2 (by omega) ⟨tr1 ++ tr2, by rw [n6, g6, List.append_assoc]⟩⟩
      · rw [e'] at p2
        have ea : oneC R (Nd c x y) (paT T i) q = chk (Nd c x y') q2 := by unfold oneC; simp only [if_pos h2, e, if_neg ho, e']
        obtain ⟨n1, n2, n3, n4, n5, n6, n7⟩ := hR.some wy (by omega) g3 e'
        have hw2 : wf (Nd c x y') := wf_2 h2 wx n1
        have m2 := RunM_t p2.2 (rep_c2 hT hi hu wy n1)
        have z2 := rep_sz (s := Nd c x y') hT hi
        rw [hu, sz_n, sz_n] at z2
        have q22 := n3.2.1
        rw [bI_some, ieq_neg (by omega) (by omega) (by omega), ea]
        obtain ⟨M3, v1, v2⟩ := m_chk (s := False) (d := d) (u := Nd c x y) (q := q) (by omega) hT hi hw2 m2 (k1.trans p2.1) (by omega)
        rw [v1, kI_r, rZ_b]
        exact ⟨M3, rfl, v2⟩
    · have h1 := h3.resolve_left h2
      obtain rfl : n = 1 := by rw [arR_1 h1, jn_inj (by omega) (by omega)] at har; omega
      have ea : oneC R (Nd c x y) (paT T i) q = (none, q1) := by unfold oneC; simp only [if_neg h2, if_pos h1, e]
      obtain ⟨tr1, g6, g7⟩ := g6
      rw [h_135_13, ilt_neg (by omega) (by omega), rZ_0, ea, bI_none]
      exact ⟨M1, rfl, OutM.dry hT hi hu k1 m1 ho (by omega) ⟨tr1, g6⟩⟩
  · rw [e] at f2
    have ea : oneC R (Nd c x y) (paT T i) q = chk (Nd c x' y) q1 := by
      unfold oneC
      rcases h3 with h2 | h1
      · simp only [if_pos h2, e]
      · simp only [if_neg (show ¬ is2 c by omega), if_pos h1, e]
    obtain ⟨g1, g2, g3, g4, g5, g6, g7⟩ := hR.some wx (by omega) hq e
    obtain ⟨k1, m1⟩ := f2
    have m1 := RunM_t m1 (rep_c1 hT hi hu wx g1)
    have hw1 : wf (Nd c x' y) := wf_n1 hw wx g1
    have z1 := rep_sz (s := Nd c x' y) hT hi
    rw [hu, sz_n, sz_n] at z1
    have q12 := g3.2.1
    rw [bI_some, ieq_neg (by omega) (by omega) (by omega), ea]
    obtain ⟨M3, v1, v2⟩ := m_chk (s := False) (d := d) (u := Nd c x y) (q := q) (by omega) hT hi hw1 m1 k1 (by omega)
    rw [v1, kI_r, rZ_b]
    exact ⟨M3, rfl, v2⟩
theorem rZ_if {b : Prop} [Decidable b] (M : PM) : (if bI b = jn 0 then rZ (jn 0) M else rZ (jn 1) M) = rI (bI b) M := by
  by_cases h : b
  · rw [bI_1 h, ieq_neg (by omega) (by omega) (by omega), rZ_1]
  · rw [bI_n h, ieq_pos rfl, rZ_0]
theorem m_som {N : Nat} {w : Int32} {R : Tm → Int64 → RnS → RnR} (hd : 5 ≤ d) (hR : RFun True 1 R) (hc : Srv A N 0 True (fun i M => pcl GG lay d 132 [.ref 52, .int w, .int (jn i)] M) R) : Srv A N 0 False (fun i M => pcl GG lay (d + 1) 136 [.ref 52, .int w, .int (jn i)] M) (somC R) := by
  intro T i u q K M hT hi hu hs hq hTs hK hN h
  have hw : wf u := hu ▸ sub_wf hT hi
  obtain ⟨c, x, y, rfl, -⟩ := wf_cases hw
  obtain ⟨w2, w1, w0⟩ := wf_a hw
  have hz := sub_sz hT hi
  rw [hu, sz_n] at hz
  rw [sz_n] at hs
  have hq1 := hq.1
  have hq2 := hq.2.1
  show ∃ M', pcl GG lay (d + 1) 136 [.ref 52, .int w, .int (jn i)] M = _ ∧ _
  rw [q_136, ald_n (n := 8100) rfl (by omega) (by omega), oB_s, sg65 hT hi hu h, c_aritym (by omega), kI_r]
  by_cases h0 : ¬ is2 c ∧ ¬ is1 c
  · have h00 := (w0 h0.1 h0.2).1
    have ea : somC R (Nd c x y) (paT T i) q = (none, q) := by unfold somC; simp only [if_neg h0.1, if_neg h0.2]
    rw [arR_0 h00, h_136_16, ilt_neg (by omega) (by omega), ieq_pos rfl, ea, rZ_0, bI_none]
    exact ⟨M, rfl, OutM.dry hT hi hu Kp.rf h (by rw [hq.2.2.2.1]; simp) (by omega) ⟨[], by simp⟩⟩
  have h3 : is2 c ∨ is1 c := by
    by_cases h2 : is2 c
    · exact Or.inl h2
    · exact Or.inr (Classical.byContradiction fun z => h0 ⟨h2, z⟩)
  have wx : wf x := by
    by_cases h2 : is2 c
    · exact (w2 h2).1
    · exact (w1 h2 (h3.resolve_left h2)).1
  have hl1 := n1_lt hT hi hu wx
  have har : ∃ n, arR c = jn n ∧ 0 < n ∧ n < 3 := by
    rcases h3 with h2 | h1
    · exact ⟨2, arR_2 h2, by omega, by omega⟩
    · exact ⟨1, arR_1 h1, by omega, by omega⟩
  obtain ⟨n, har, hn, hn3⟩ := har
  rw [har, h_136_16, ilt_pos hn (by omega), c_arg0 (by omega), kI_r]
  obtain ⟨M1, f1, f2⟩ := hc T (i + 1) x q K M hT hl1 (sub_c1 hT hi hu wx) (by omega) hq hTs (by omega) hN h
  have f1 : pcl GG lay d 132 [.ref 52, .int w, .int (jn (i + 1))] M = _ := f1
  rw [pa_c1 hi hu wx] at f1 f2
  rw [f1, kI_r]
  rcases e : R x (pth (paT T i) 1) q with ⟨_ | x', q1⟩
  · rw [e] at f2
    have r1 := hR.none wx (by omega) hq e
    rw [bI_none, ieq_pos rfl, f2.out]
    by_cases ho : q1.2.2.2 = true
    · have ea : somC R (Nd c x y) (paT T i) q = (none, q1) := by
        unfold somC
        rcases h3 with h2 | h1
        · simp only [if_pos h2, e, if_pos ho]
        · simp only [if_neg (show ¬ is2 c by omega), if_pos h1, e]
      rw [if_pos ho, ieq_neg (by omega) (by omega) (by omega), rZ_0, ea, bI_none]
      exact ⟨M1, rfl, f2.ovr ho Fr.rf⟩
    rw [if_neg ho, ieq_pos rfl, jn_add, show 0 + 1 = 1 from rfl]
    obtain ⟨k1, m1⟩ := f2.back ho r1 hT hl1 (sub_c1 hT hi hu wx)
    obtain ⟨g3, g4, g5, g6⟩ := r1.resolve_left ho
    by_cases h2 : is2 c
    · obtain ⟨-, wy⟩ := w2 h2
      obtain rfl : n = 2 := by rw [arR_2 h2, jn_inj (by omega) (by omega)] at har; omega
      have hl2 := n2_lt hT hi hu wy
      have e65 := at65 hT hl1 (sub_c1 hT hi hu wx) m1
      have q11 := g3.1
      have q12 := g3.2.1
      rw [h_136_16, ilt_pos (by omega) (by omega), c_arg1 (n := 8100) (t := x) (by omega) rfl (by omega) wx e65 (by omega), kI_r]
      obtain ⟨M2, p1, p2⟩ := hc T (i + 1 + sz x) y q1 K M1 hT hl2 (sub_c2 hT hi hu wy) (by omega) g3 (by omega) (by omega) (by omega) m1
      have p1 : pcl GG lay d 132 [.ref 52, .int w, .int (jn (i + 1 + sz x))] M1 = _ := p1
      rw [pa_c2 hi hu wy] at p1 p2
      rw [p1, kI_r]
      rcases e' : R y (pth (paT T i) 2) q1 with ⟨_ | y', q2⟩
      · rw [e'] at p2
        have r2 := hR.none wy (by omega) g3 e'
        have ea : somC R (Nd c x y) (paT T i) q = (none, q2) := by unfold somC; simp only [if_pos h2, e, if_neg ho, e']
        rw [bI_none, ieq_pos rfl, p2.out]
        by_cases ho2 : q2.2.2.2 = true
        · rw [if_pos ho2, ieq_neg (by omega) (by omega) (by omega), rZ_0, ea, bI_none]
          exact ⟨M2, rfl, p2.ovr ho2 k1.1⟩
        · obtain ⟨k2, m2⟩ := p2.back ho2 r2 hT hl2 (sub_c2 hT hi hu wy)
          obtain ⟨n3, n4, n5, tr2, n6, n7⟩ := r2.resolve_left ho2
          obtain ⟨tr1, g6, g7⟩ := g6
          rw [if_neg ho2, ieq_pos rfl, jn_add, h_136_16, ilt_neg (by omega) (by omega), ieq_pos rfl, rZ_0, ea, bI_none]
          exact ⟨M2, rfl, OutM.dry hT hi hu (k1.trans k2) m2 ho2 (by omega) ⟨tr1 ++ tr2, by rw [n6, g6, List.append_assoc]⟩⟩
      · rw [e'] at p2
        have ea : somC R (Nd c x y) (paT T i) q = chk (Nd c x y') q2 := by unfold somC; simp only [if_pos h2, e, if_neg ho, e']
        obtain ⟨n1, n2, n3, n4, n5, n6, n7⟩ := hR.some wy (by omega) g3 e'
        have hw2 : wf (Nd c x y') := wf_2 h2 wx n1
        have m2 := RunM_t p2.2 (rep_c2 hT hi hu wy n1)
        have z2 := rep_sz (s := Nd c x y') hT hi
        rw [hu, sz_n, sz_n] at z2
        have q22 := n3.2.1
        rw [bI_some, ieq_neg (by omega) (by omega) (by omega), RunM_27 m2 n3.2.2.2.1, ieq_pos rfl, jn_add, h_136_16, ilt_neg (by omega) (by omega), ieq_neg (by omega) (by omega) (by omega), ea]
        obtain ⟨M3, v1, v2⟩ := m_chk (s := False) (d := d) (u := Nd c x y) (q := q) (by omega) hT hi hw2 m2 (k1.trans p2.1) (by omega)
        rw [v1, kI_r, rZ_if]
        exact ⟨M3, rfl, v2⟩
    · have h1 := h3.resolve_left h2
      obtain rfl : n = 1 := by rw [arR_1 h1, jn_inj (by omega) (by omega)] at har; omega
      have ea : somC R (Nd c x y) (paT T i) q = (none, q1) := by unfold somC; simp only [if_neg h2, if_pos h1, e]
      obtain ⟨tr1, g6, g7⟩ := g6
      rw [h_136_16, ilt_neg (by omega) (by omega), ieq_pos rfl, rZ_0, ea, bI_none]
      exact ⟨M1, rfl, OutM.dry hT hi hu k1 m1 ho (by omega) ⟨tr1, g6⟩⟩
  · rw [e] at f2
    obtain ⟨g1, g2, g3, g4, g5, g6, g7⟩ := hR.some wx (by omega) hq e
    obtain ⟨k1, m1⟩ := f2
    have m1 := RunM_t m1 (rep_c1 hT hi hu wx g1)
    have hw1 : wf (Nd c x' y) := wf_n1 hw wx g1
    have z1 := rep_sz (s := Nd c x' y) hT hi
    rw [hu, sz_n, sz_n] at z1
    have q12 := g3.2.1
    have q11 := g3.1
    rw [bI_some, ieq_neg (by omega) (by omega) (by omega), RunM_27 m1 g3.2.2.2.1, ieq_pos rfl, jn_add, show 0 + 1 = 1 from rfl]
    by_cases h2 : is2 c
    · obtain ⟨-, wy⟩ := w2 h2
      obtain rfl : n = 2 := by rw [arR_2 h2, jn_inj (by omega) (by omega)] at har; omega
      have hT1 := rep_wf hT hi hw1
      have hi1 := rep_lt hT hi hw1
      have hu1 := sub_rep hT hi hw1
      have hp1 := pa_rep hT hi hw1
      have hl2 := n2_lt hT1 hi1 hu1 wy
      have e65 := at65 hT1 (n1_lt hT1 hi1 hu1 g1) (sub_c1 hT1 hi1 hu1 g1) m1
      rw [h_136_16, ilt_pos (by omega) (by omega), c_arg1 (n := 8100) (t := x') (by omega) rfl (by omega) g1 e65 (by omega), kI_r]
      obtain ⟨M2, p1, p2⟩ := hc _ (i + 1 + sz x') y q1 K M1 hT1 hl2 (sub_c2 hT1 hi1 hu1 wy) (by omega) g3 (by omega) (by omega) (by omega) m1
      have p1 : pcl GG lay d 132 [.ref 52, .int w, .int (jn (i + 1 + sz x'))] M1 = _ := p1
      rw [pa_c2 hi1 hu1 wy, hp1] at p1 p2
      rw [p1, kI_r]
      rcases e' : R y (pth (paT T i) 2) q1 with ⟨_ | y', q2⟩
      · rw [e'] at p2
        have r2 := hR.none wy (by omega) g3 e'
        rw [bI_none, ieq_pos rfl, p2.out]
        by_cases ho2 : q2.2.2.2 = true
        · have ea : somC R (Nd c x y) (paT T i) q = (none, q2) := by unfold somC; simp only [if_pos h2, e, e', if_pos ho2]
          rw [if_pos ho2, ieq_neg (by omega) (by omega) (by omega), rZ_0, ea, bI_none]
          exact ⟨M2, rfl, p2.ovr ho2 k1.1⟩
        · have ea : somC R (Nd c x y) (paT T i) q = chk (Nd c x' y) q2 := by unfold somC; simp only [if_pos h2, e, e', if_neg ho2]
          obtain ⟨k2, m2⟩ := p2.back ho2 r2 hT1 hl2 (sub_c2 hT1 hi1 hu1 wy)
          rw [if_neg ho2, ieq_pos rfl, jn_add, h_136_16, ilt_neg (by omega) (by omega), ieq_neg (by omega) (by omega) (by omega), ea]
          obtain ⟨M3, v1, v2⟩ := m_chk (s := False) (d := d) (u := Nd c x y) (q := q) (by omega) hT hi hw1 m2 (k1.trans k2) (by omega)
          rw [v1, kI_r, rZ_if]
          exact ⟨M3, rfl, v2⟩
      · rw [e'] at p2
        have ea : somC R (Nd c x y) (paT T i) q = chk (Nd c x' y') q2 := by unfold somC; simp only [if_pos h2, e, e']
        obtain ⟨n1, n2, n3, n4, n5, n6, n7⟩ := hR.some wy (by omega) g3 e'
        have hw2 : wf (Nd c x' y') := wf_2 h2 g1 n1
        have m2 := RunM_t p2.2 ((rep_c2 hT1 hi1 hu1 wy n1).trans (rep_rep hT hi hw1 hw2))
        have z2 := rep_sz (s := Nd c x' y') hT hi
        rw [hu, sz_n, sz_n] at z2
        have q22 := n3.2.1
        rw [bI_some, ieq_neg (by omega) (by omega) (by omega), RunM_27 m2 n3.2.2.2.1, ieq_pos rfl, jn_add, h_136_16, ilt_neg (by omega) (by omega), ieq_neg (by omega) (by omega) (by omega), ea]
        obtain ⟨M3, v1, v2⟩ := m_chk (s := False) (d := d) (u := Nd c x y) (q := q) (by omega) hT hi hw2 m2 (k1.trans p2.1) (by omega)
        rw [v1, kI_r, rZ_if]
        exact ⟨M3, rfl, v2⟩
    · have h1 := h3.resolve_left h2
      obtain rfl : n = 1 := by rw [arR_1 h1, jn_inj (by omega) (by omega)] at har; omega
      have ea : somC R (Nd c x y) (paT T i) q = chk (Nd c x' y) q1 := by unfold somC; simp only [if_neg h2, if_pos h1, e]
      rw [h_136_16, ilt_neg (by omega) (by omega), ieq_neg (by omega) (by omega) (by omega), ea]
      obtain ⟨M3, v1, v2⟩ := m_chk (s := False) (d := d) (u := Nd c x y) (q := q) (by omega) hT hi hw1 m1 k1 (by omega)
      rw [v1, kI_r, rZ_if]
      exact ⟨M3, rfl, v2⟩
end
