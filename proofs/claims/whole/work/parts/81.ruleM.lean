/-! the model's run: a rule at a node -/
section
variable {d : Nat} {A : AT} {M : PM} {a b c e f : Int32} {v : Int64}
theorem m_rul {l i K : Nat} {r : Tm × Tm} {T : Tm} {q : RnS} (hd : 92 ≤ d) (hA : AOk A) (h : RunM A T q K M) (hr : (rsA A)[l]? = some r) (hT : wf T) (hTs : sz T ≤ 4000) (hi : i < sz T) (hs : sz (sub T i) ≤ 40) (hq : q.2.2.1.length ≤ q.2.1 ∧ q.2.1 ≤ 40) :
    ∃ M', pcl GG lay d 126 [.ref 52, .int (jn l), .int (jn i)] M = rI (bI ((rulC (cmA A) r l (sub T i) (paT T i) q).1.isSome = true)) M' ∧ RunM A (match (rulC (cmA A) r l (sub T i) (paT T i) q).1 with
      | some s => rep T i s
      | none => T) (rulC (cmA A) r l (sub T i) (paT T i) q).2 K M' ∧ Fr [52, 65, 66, 67, 68, 69, 70, 71] M M' := by
  obtain ⟨d, rfl⟩ := ex_add hd
  obtain ⟨hro, hl⟩ := rl_ok hA hr
  have hw := sub_wf hT hi
  have hz := sub_sz hT hi
  have hR := h.1.1
  have hb := hR.1.2.2.1 l r hr
  have e56 : At (M.1 56) (80 * l) (en r.1) := hb.2.2.1
  have e11 : M.1 52 11 = jn (cmA A) := hR.1.1.2.2.2.1
  have hst := sub_at hT hi h.1.2.2
  rw [Nat.zero_add] at hst
  obtain ⟨M1, e1, e2, e3, e4⟩ := c_fit (d := d + 91) (M := M) (cm := cmA A) (i := l) (q := i) (p := r.1) (t := sub T i) (by omega) hA.1.2.2.2 e11 hro.1 hro.2.2.1 hl e56 hw hs hst (by omega)
  have h1 : RunM A T q K M1 := RunM_fr h (e2.mono (by decide)) (fun j j1 j2 _ => e3 j j1 j2)
  rw [q_126, e1, kI_r]
  unfold rulC
  cases hm : mat (cmA A) r.1 (sub T i) with
  | none =>
    simp only [Option.isSome_none, Bool.false_eq_true, if_false]
    rw [if_pos trivial, rZ_0]
    exact ⟨M1, rfl, h1, e2.mono (by decide)⟩
  | some E =>
    have hok := mat_ok hw hs hm
    have hE := e4 E hm
    have hb1 := h1.1.1.1.2.2.1 l r hr
    have f55 : M1.1 55 (2 * l + 1) = jn (sz r.2) := hb1.2.1
    have f56 : At (M1.1 56) (80 * l + 40) (en r.2) := hb1.2.2.2
    obtain ⟨X, g1, hf, h52, e26, g2⟩ : ∃ X, pcl GG lay (d + 91) 120 [.ref 52, .int (jn l)] M1 = rV X ∧ Fr [52, 69] M1 X ∧ (∀ j, j ≠ 26 → X.1 52 j = M1.1 52 j) ∧ X.1 52 26 = jn (sz (sbT E r.2)) ∧ At (X.1 69) 0 (en (sbT E r.2)) := by
      obtain ⟨g, g1, g2⟩ := c_builds (d := d + 91) (M := M1) (l := l) (r := r.2) (by omega) hl hE (fun c hc => mat_bind hro.1 hm (hro.2.2.2.2.2 c hc)) hro.2.1 hro.2.2.2.1 f55 f56
      refine ⟨_, g1, (Fr.sI (by decide)).trans (Fr.sI (by decide)), fun j hj => ?_, ?_, ?_⟩
      · show va_up (M1.1 52) 26 (jn (sz (sbT E r.2))) j = _
        rw [up_at, if_neg hj]
      · show va_up (M1.1 52) 26 (jn (sz (sbT E r.2))) 26 = _
        rw [up_at, if_pos rfl]
      · exact g2
    have h2 : RunM A T q K X := RunM_fr h1 (hf.mono (by decide)) (fun j _ _ j3 => h52 j j3)
    have hfr2 : Fr [52, 65, 66, 67, 68, 69, 70, 71] M X := (e2.mono (by decide)).trans (hf.mono (by decide))
    have hbig : sz (sbT E r.2) ≤ 1600 := by
      have := fm_le hok (en r.2)
      rw [← sb_en E r.2 hro.2.1] at this
      have e2 : (en r.2).length = sz r.2 := rfl
      show (en (sbT E r.2)).length ≤ 1600
      have := hro.2.2.2.1
      omega
    have hL : X.1 52 30 = jn q.2.2.1.length := h2.2.1.2.2.1
    have h29 : X.1 52 29 = jn q.2.1 := h2.2.1.2.1
    simp only [Option.isSome_some, if_true]
    rw [ieq_neg (by omega) (by omega) (by omega), g1, kV_r, h29]
    by_cases h40 : q.2.1 = 40
    · obtain ⟨M', p1, p2, p3⟩ := RunM_over (d := d + 91) (by omega) h2
      rw [ieq_pos h40, p1, kI_r, rZ_0]
      simp only [if_pos h40]
      exact ⟨M', by rw [bI_n (by simp)], p2, hfr2.trans (p3.mono (by decide))⟩
    rw [ieq_neg h40 (by omega) (by omega), e26]
    simp only [if_neg h40]
    by_cases h7 : 40 < sz (sbT E r.2)
    · obtain ⟨M', p1, p2, p3⟩ := RunM_over (d := d + 91) (by omega) h2
      rw [ilt_pos h7 (by omega), p1, kI_r, rZ_0]
      simp only [if_pos h7]
      exact ⟨M', by rw [bI_n (by simp)], p2, hfr2.trans (p3.mono (by decide))⟩
    rw [ilt_neg (by omega) (by omega)]
    simp only [if_neg h7]
    have hpa := c_pathTo (d := d + 90) (M := sI X 70 (va_up (X.1 70) q.2.2.1.length (jn l))) (x := 65) (nx := 8100) (by omega) rfl (by omega) T hT 0 (Int64.ofNat 0) i 1 (some (.int (jn 0))) none h2.1.2.2 (by omega) hi
    rw [Nat.zero_add] at hpa
    have k30 : (sI X 70 (va_up (X.1 70) q.2.2.1.length (jn l))).1 52 30 = jn q.2.2.1.length := hL
    rw [hL, ast_n (n := 200) rfl (by omega) (by omega), oB_s, q_102, hpa, kL_r, k30, ast_l (n := 200) rfl (by omega) (by omega), oB_s, wr_e, wr_e]
    generalize hM7 : sI (sI (sL (sI X 70 (va_up (X.1 70) q.2.2.1.length (jn l))) 71 (va_up ((sI X 70 (va_up (X.1 70) q.2.2.1.length (jn l))).2 71) q.2.2.1.length (paT T i))) 52 _) 52 _ = M7
    have f7 : Fr [52, 70, 71] X M7 := by rw [← hM7]; exact (((Fr.sI (by decide)).trans (Fr.sL (by decide))).trans (Fr.sI (by decide))).trans (Fr.sI (by decide))
    have a52 : M7.1 52 = va_up (va_up (X.1 52) 30 (jn (q.2.2.1.length + 1))) 29 (jn (q.2.1 + 1)) := by
      rw [← jn_add, ← jn_add, ← hL, ← h29, ← hM7]
      rfl
    have a70 : M7.1 70 = va_up (X.1 70) q.2.2.1.length (jn l) := by rw [← hM7]; rfl
    have a71 : M7.2 71 = va_up (X.2 71) q.2.2.1.length (paT T i) := by rw [← hM7]; rfl
    clear hM7
    have n26 : M7.1 52 26 = jn (sz (sbT E r.2)) := by rw [a52, up_at, if_neg (by omega), up_at, if_neg (by omega)]; exact e26
    have n19 : M7.1 52 19 = jn (sz T) := by rw [a52, up_at, if_neg (by omega), up_at, if_neg (by omega)]; exact h2.1.2.1
    obtain ⟨M', p1, p2, p3, p4⟩ := c_becomes (d := d + 91) (M := M7) (x := 69) (p := 0) (i := i) (nx := 1700) (t := T) (s := sbT E r.2) (by omega) rfl (by omega) (by omega) n19 hT (by rw [f7.1 65 (by decide)]; exact h2.1.2.2) hi (by rw [f7.1 69 (by decide)]; exact g2) (by omega) (by omega)
    rw [n26, p1, kV_r, rZ_1]
    have n52 : ∀ j, j ≠ 19 → j ≠ 29 → j ≠ 30 → M'.1 52 j = X.1 52 j := fun j j1 j2 j3 => by rw [p3, up_at, if_neg j1, a52, up_at, if_neg j2, up_at, if_neg j3]
    refine ⟨M', by rw [bI_1 (by simp)], ⟨⟨RM_sc h2.1.1 ((f7.mono (S' := 52 :: scM) (by decide)).trans (p2.mono (by decide))) (fun j hj => n52 j (by rintro rfl; revert hj; decide) (by rintro rfl; revert hj; decide) (by rintro rfl; revert hj; decide)), ?_, p4⟩, ⟨?_, ?_, ?_, ?_, ?_⟩, fun k x hx => ?_⟩, hfr2.trans ((f7.mono (by decide)).trans (p2.mono (by decide)))⟩
    · rw [p3, up_at, if_pos rfl]
    · rw [n52 28 (by omega) (by omega) (by omega)]; exact h2.2.1.1
    · rw [p3, up_at, if_neg (by omega), a52, up_at, if_pos rfl]
    · rw [p3, up_at, if_neg (by omega), a52, up_at, if_neg (by omega), up_at, if_pos rfl, List.length_append]; rfl
    · rw [n52 27 (by omega) (by omega) (by omega)]; exact h2.2.1.2.2.2.1
    · rw [n52 33 (by omega) (by omega) (by omega)]; exact h2.2.1.2.2.2.2
    · rw [p2.1 70 (by decide), p2.2 71 (by decide), a70, a71, up_at, up_at]
      rcases app_get hx with ⟨k1, k2⟩ | ⟨k1, k2⟩
      · rw [if_neg (by omega), if_neg (by omega)]; exact h2.2.2 k x k2
      · rw [if_pos k1, if_pos k1, k2]; exact ⟨rfl, rfl⟩
end
