/-! meets: what is asked; the model's side -/
noncomputable def metV (A : AT) (o : Tm × Tm × Tm) : Int32 := match rnA A (jn 300) o.2.1 0 0 with
  | (none, _) => jn 2
  | (some u, _) => match rnA A (jn 300) o.2.2 0 0 with
    | (none, _) => jn 2
    | (some v, _) => bI (en u = en v)
noncomputable def F_meets (A : AT) (a b c : Int32) : Int32 × AT := if ¬ hsR A a then rfs A 1 else if ¬ hsR A b then rfs A 1 else if c.toInt < 0 then rfs A 5 else match (ovN A a b)[c.toInt.toNat]? with
  | none => rfs A 5
  | some o => (metV A o, A)
theorem k_meets {A : AT} {a b c : Int32} (hA : AOk A) : AOk (F_meets A a b c).2 := by
  unfold F_meets
  repeat' split
  all_goals exact hA
/-- the innermost doesn't fail -/
theorem inn_ov {A : AT} (hA : AOk A) (h0 : 0 < (rsA A).length) : ∀ n t p q, wf t → sz t ≤ 40 → QOk q → ∀ q', runF (gM A) (fM A) n (jn 300) t p q = (none, q') → q'.2.2.2 = true := by
  have hv : okM A (jn 300) := Or.inr (Or.inl ⟨rfl, h0⟩)
  intro n
  induction n with
  | zero => intro t p q _ _ _ q' h; cases h; rfl
  | succ n ih =>
    intro t p q ht hs hq q' h
    by_cases h6 : q.1 = 600
    · rw [runF_600 h6] at h; cases h; rfl
    rw [runF_succ h6, gM_b] at h
    have RO : RFun True 1 (runF (gM A) (fM A) n (jn 300)) := runF_ok (gM_ok hA) (fM_ok hA) n _ hv
    have hsv : okM A (gM A (jn 300)).2.1 := (gM_ok hA _ hv).2.1 (by rw [gM_b]; show 2 < 12; omega)
    have SO : RFun True 1 (runF (gM A) (fM A) n (gM A (jn 300)).2.1) := runF_ok (gM_ok hA) (fM_ok hA) n _ hsv
    have hall : ∀ t p q, wf t → sz t ≤ 40 → QOk q → ∀ q', allC (runF (gM A) (fM A) n (jn 300)) t p q = (none, q') → q'.2.2.2 = true := by
      intro t p q ht hs hq q' h
      obtain ⟨c, a, b, rfl, -⟩ := wf_cases ht
      obtain ⟨w2, w1, w0⟩ := wf_a ht
      have hz := sz_n c a b
      have ck : ∀ t q, chk t q = (none, q') → q'.2.2.2 = true := by
        intro t q h
        unfold chk at h
        split at h
        · cases h; rfl
        · cases h
      unfold allC at h
      simp only at h
      split at h
      · rename_i h2
        obtain ⟨wa, wb⟩ := w2 h2
        rcases e : runF (gM A) (fM A) n (jn 300) a (pth p 1) q with ⟨_ | a', q1⟩
        · rw [e] at h
          cases h
          exact ih a _ q wa (by omega) hq _ e
        · have r1 := RO a (pth p 1) q wa (by omega) hq
          rw [e] at h r1
          simp only at h
          rcases e' : runF (gM A) (fM A) n (jn 300) b (pth p 2) q1 with ⟨_ | b', q2⟩
          · rw [e'] at h
            cases h
            exact ih b _ q1 wb (by omega) r1.2.2.1 _ e'
          · rw [e'] at h
            exact ck _ _ h
      · split at h
        · rename_i h2 h1
          obtain ⟨wa, rfl⟩ := w1 h2 h1
          rcases e : runF (gM A) (fM A) n (jn 300) a (pth p 1) q with ⟨_ | a', q1⟩
          · rw [e] at h
            cases h
            exact ih a _ q wa (by omega) hq _ e
          · rw [e] at h
            exact ck _ _ h
        · exact ck _ _ h
    have hinn : ∀ m t p q, wf t → sz t ≤ 40 → QOk q → ∀ q', innC (runF (gM A) (fM A) n (jn 300)) (runF (gM A) (fM A) n (gM A (jn 300)).2.1) m t p q = (none, q') → q'.2.2.2 = true := by
      intro m
      induction m with
      | zero => intro t p q _ _ _ q' h; cases h; rfl
      | succ m im =>
        intro t p q ht hs hq q' h
        unfold innC at h
        have r0 := allC_ok RO t p q ht hs hq
        rcases e : allC (runF (gM A) (fM A) n (jn 300)) t p q with ⟨_ | t1, q1⟩
        · rw [e] at h
          cases h
          exact hall t p q ht hs hq _ e
        rw [e] at h r0
        simp only at h
        have r1 := SO t1 p q1 r0.1 r0.2.1 r0.2.2.1
        rcases e2 : runF (gM A) (fM A) n (gM A (jn 300)).2.1 t1 p q1 with ⟨_ | t2, q2⟩
        · rw [e2] at h
          simp only at h
          split at h
          · rename_i ho; cases h; exact ho
          · cases h
        · rw [e2] at h r1
          simp only at h
          split at h
          · cases h; rfl
          · rename_i h6
            have hq2 := r1.2.2.1
            exact im t2 p (bgn q2) r1.1 r1.2.1 ⟨by have := hq2.1; show q2.1 + 1 ≤ 600; omega, hq2.2⟩ q' h
    have hb : bodF (gM A) (fM A) n (jn 300) 12 t p (bgn q) = innC (runF (gM A) (fM A) n (jn 300)) (runF (gM A) (fM A) n (gM A (jn 300)).2.1) 601 t p (bgn q) := rfl
    have h : bck q (bodF (gM A) (fM A) n (jn 300) 12 t p (bgn q)) = (none, q') := h
    rw [hb] at h
    rcases e : innC (runF (gM A) (fM A) n (jn 300)) (runF (gM A) (fM A) n (gM A (jn 300)).2.1) 601 t p (bgn q) with ⟨_ | u, q1⟩
    · rw [e] at h
      have := hinn 601 t p (bgn q) ht hs ⟨by have := hq.1; show q.1 + 1 ≤ 600; omega, hq.2⟩ q1 e
      cases h
      exact this
    · rw [e] at h
      cases h
section
variable {d : Nat} {A : AT} {M M' : PM} {a b c e f : Int32} {t : Tm} {x : Nat}
theorem rn300 (hA : AOk A) (h0 : 0 < (rsA A).length) (ht : wf t) (hs : sz t ≤ 40) : trlV (jn 0) (rnA A (jn 300) t 0 0) = (match rnA A (jn 300) t 0 0 with | (none, _) => jn 2 | (some _, _) => jn 0) := by
  rcases e : rnA A (jn 300) t 0 0 with ⟨_ | u, q⟩
  · have := inn_ov hA h0 601 t _ (stQ 0 0) ht hs (stQ_ok (by omega) (by omega)) q e
    unfold trlV
    simp only [if_pos this, if_true]
  · unfold trlV
    simp only [if_true]
theorem m_norm (hd : 1902 ≤ d) (hA : AOk A) (h0 : 0 < (rsA A).length) (h : RM A M) (hx : lay[x]? = some (.inr (false, 41))) (hx65 : x ≠ 65 ∧ x ≠ 52) (ht : wf t) (hs : sz t ≤ 40) (hat : At (M.1 x) 0 (en t)) :
    ∃ M', pcl GG lay d 168 [.ref 52, .ref x, .int (jn (sz t))] M = rI (match rnA A (jn 300) t 0 0 with | (none, _) => jn 2 | (some _, _) => jn 0) M' ∧ RM A M' ∧ Fr swM M M' ∧ M'.1 52 47 = M.1 52 47 ∧ ∀ u q, rnA A (jn 300) t 0 0 = (some u, q) → M'.1 52 19 = jn (sz u) ∧ At (M'.1 65) 0 (en u) ∧ sz u ≤ 40 := by
  have hv : okM A (jn 300) := Or.inr (Or.inl ⟨rfl, h0⟩)
  have run : ∃ M', pcl GG lay d 168 [.ref 52, .ref x, .int (jn (sz t))] M = rI (match rnA A (jn 300) t 0 0 with | (none, _) => jn 2 | (some _, _) => jn 0) M' ∧ RM A M' ∧ Fr swM M M' ∧ ∀ u q, rnA A (jn 300) t 0 0 = (some u, q) → M'.1 52 19 = jn (sz u) ∧ At (M'.1 65) 0 (en u) ∧ sz u ≤ 40 := by
    obtain ⟨d, rfl⟩ := ex_add (show 1 ≤ d by omega)
    have lp : ∀ m k M0, k + m = sz t → M0.1 x = M.1 x → ∃ M', E_168 d (7, [some (.ref 52), some (.ref x), some (.int (jn (sz t))), some (.int (jn k))], [], M0) = (kV (pcl GG lay d 141 [.ref 52] M') fun M1 => (kI (pcl GG lay d 142 [.ref 52, .int (jn 300)] M1) fun r2 M2 => (rI r2 M2))) ∧ Fr [65] M0 M' ∧ (∀ j, k ≤ j → j < sz t → M'.1 65 j = M.1 x j) ∧ ∀ j, j < k → M'.1 65 j = M0.1 65 j := by
      intro m
      induction m with
      | zero =>
        intro k M0 hk _
        rw [h_168_7, ilt_neg (by omega) (by omega)]
        exact ⟨M0, rfl, Fr.rf, fun j _ _ => by omega, fun _ _ => rfl⟩
      | succ m ih =>
        intro k M0 hk hM
        rw [h_168_7, ilt_pos (by omega) (by omega), ald_n hx (by omega) (by omega), oB_s, ast_n (n := 8100) rfl (by omega) (by omega), oB_s, jn_add, hM]
        obtain ⟨M', g1, g2, g3, g4⟩ := ih (k + 1) (sI M0 65 (va_up (M0.1 65) k (M.1 x k))) (by omega) (by rw [sI_o _ _ hx65.1]; exact hM)
        refine ⟨M', g1, (Fr.sI (by decide)).trans g2, fun j j1 j2 => ?_, fun j hj => by rw [g4 j (by omega), sI_k, up_at, if_neg (by omega)]⟩
        by_cases e : j = k
        · rw [g4 j (by omega), sI_k, up_at, if_pos e, e]
        · exact g3 j (by omega) j2
    rw [q_168, wr_e]
    obtain ⟨M1, g1, g2, g3, g4⟩ := lp (sz t) 0 (sI M 52 (va_up (M.1 52) 19 (jn (sz t)))) (by omega) (by rw [sI_o _ _ hx65.2])
    have f1 : Fr [52, 65] M M1 := (Fr.sI (by decide)).trans (g2.mono (by decide))
    have a52 : M1.1 52 = va_up (M.1 52) 19 (jn (sz t)) := by rw [g2.1 52 (by decide), sI_k]
    have hG : GR A t M1 := ⟨RM_sc h (f1.mono (by decide)) (fun j hj => by rw [a52, up_at, if_neg (by rintro rfl; revert hj; decide)]), by rw [a52, up_at, if_pos rfl], by
      rw [At_sz] at hat ⊢
      intro i hi
      rw [hat i hi, Nat.zero_add, g3 i (by omega) hi]⟩
    obtain ⟨M2, v1, v2, v3, v4, v5, v6⟩ := m_cnt0 (d := d) (by omega) hG
    obtain ⟨M3, w1, w2, w3, w4⟩ := m_gosF (w := jn 300) (d := d) (by omega) hA hv v2 ht hs (by omega) (by omega) v4 v5
    rw [g1, v1, kV_r, w1, kI_r, rn300 hA h0 ht hs]
    refine ⟨M3, rfl, w2, (f1.mono (by decide)).trans ((v6.mono (by decide)).trans w3), fun u q hu => ?_⟩
    have hg := w4 u q hu
    have ho := rnA_ok (b := 0) (r := 0) hA hv ht hs (by omega) (by omega)
    rw [hu] at ho
    exact ⟨hg.1.2.1, hg.1.2.2, ho.2.1⟩
  obtain ⟨M', h1, h2, h3, h4⟩ := run
  exact ⟨M', h1, h2, h3, pcl_kp run_47 d 168 _ M _ M' (by decide) h1, h4⟩
theorem m_meets (hd : 1903 ≤ d) (hA : AOk A) (h : RM A M) : MI (pcl GG lay d 169 [.ref 52, .int a, .int b, .int c] M) M (F_meets A a b c) := by
  obtain ⟨d, rfl⟩ := ex_add (show 1 ≤ d by omega)
  unfold F_meets
  rw [q_169, d_hasR (by omega) hA h, kI_r]
  by_cases h1 : hsR A a
  case neg => rw [bI_n h1, ieq_pos rfl, if_pos h1]; exact m_ref (by omega) h (by omega)
  rw [bI_1 h1, ieq_neg (by omega) (by omega) (by omega), if_neg (Classical.not_not.mpr h1), d_hasR (by omega) hA h, kI_r]
  by_cases h2 : hsR A b
  case neg => rw [bI_n h2, ieq_pos rfl, if_pos h2]; exact m_ref (by omega) h (by omega)
  rw [bI_1 h2, ieq_neg (by omega) (by omega) (by omega), if_neg (Classical.not_not.mpr h2)]
  have hpos : 0 < (rsA A).length := by have := h1.1; have := h1.2; omega
  obtain ⟨hl, hok⟩ := ovN_ok hA h1 h2
  obtain ⟨n, r, rfl, k1, k2, k3, k4⟩ := rs_of hA h1
  obtain ⟨n', q, rfl, i1, i2, i3, i4⟩ := rs_of hA h2
  unfold ovN at hl hok ⊢
  rw [k2, i2] at hl hok ⊢
  obtain ⟨M1, g1, g2, g3, g4⟩ := m_isOv (d := d) (c := c) (by omega) hA h k1 i1 hl
  rw [g1, kI_r]
  by_cases h5 : c.toInt < 0
  · rw [bI_n (by omega), ieq_pos rfl, if_pos h5]; exact (m_ref (by omega) g2 (by omega)).pre g3
  rw [if_neg h5]
  cases ho : (ovL r q (ovK (jn n) (jn n')))[c.toInt.toNat]? with
  | none =>
    rw [bI_n (by simp), ieq_pos rfl]
    exact (m_ref (by omega) g2 (by omega)).pre g3
  | some o =>
    rw [bI_1 ⟨by omega, rfl⟩, ieq_neg (by omega) (by omega) (by omega)]
    obtain ⟨-, ⟨b1, b2⟩, c1, c2⟩ := g4 o (by omega) ho
    obtain ⟨-, ⟨w2, z2⟩, w3, z3⟩ := hok o (List.mem_of_getElem? ho)
    obtain ⟨M2, p1, p2, p3, p4, p5⟩ := m_norm (d := d) (x := 79) (by omega) hA hpos g2 rfl (by omega) w2 z2 b2
    have hL2 : Lo M M2 := g3.trans (Lo.fr p3 (by decide))
    rw [b1, p1, kI_r]
    simp only
    unfold metV
    rcases e : rnA A (jn 300) o.2.1 0 0 with ⟨_ | u, q1⟩
    · simp only
      have fin : ∀ (X : PO), (if (jn 2 : Int32) = jn 2 then rI (jn 2) M2 else X) = rI (jn 2) M2 := fun X => if_pos rfl
      rw [h_169_56]
      refine ⟨M2, ?_, p2, hL2⟩
      split
      · rw [ieq_neg (by omega) (by omega) (by omega), fin]
      · rw [fin]
    obtain ⟨y1, y2, y3⟩ := p5 u q1 e
    simp only
    -- the first one's answer is laid aside
    have lp : ∀ m k M0 u6, k + m = sz u → Fr [78] M2 M0 → (∀ j, j < k → M0.1 78 j = M2.1 65 j) → ∃ M', E_169 d (56, [some (.ref 52), some (.int (jn n)), some (.int (jn n')), some (.int c), some (.int (jn 0)), some (.int (jn k)), u6], [], M0) = (kI (pcl GG lay d 168 [.ref 52, .ref 80, .int (M'.1 52 47)] M') fun r1 M1 => (if r1 = (jn 2) then (rI (jn 2) M1) else (if (M1.1 52 19) = (M'.1 52 19) then E_169 d (134, [some (.ref 52), some (.int (jn n)), some (.int (jn n')), some (.int c), some (.int (jn 0)), some (.int (M'.1 52 19)), some (.int (jn 0))], [], M1) else (rI (jn 0) M1)))) ∧ Fr [78] M2 M' ∧ ∀ j, j < sz u → M'.1 78 j = M2.1 65 j := by
      intro m
      induction m with
      | zero =>
        intro k M0 u6 hk hf hj
        rw [h_169_56, hf.1 52 (by decide), y1, ilt_neg (by omega) (by omega), ieq_neg (by omega) (by omega) (by omega)]
        refine ⟨M0, by rw [hf.1 52 (by decide), y1], hf, fun j hjk => hj j (by omega)⟩
      | succ m ih =>
        intro k M0 u6 hk hf hj
        rw [h_169_56, hf.1 52 (by decide), y1, ilt_pos (by omega) (by omega), ieq_pos rfl, ald_n (n := 8100) rfl (by omega) (by omega), oB_s, ast_n (n := 41) rfl (by omega) (by omega), oB_s, jn_add]
        refine ih (k + 1) _ _ (by omega) (hf.trans (Fr.sI (by decide))) (fun j hjk => ?_)
        rw [sI_k, up_at]
        split
        · rename_i e; rw [e, hf.1 65 (by decide)]
        · exact hj j (by omega)
    obtain ⟨M3, l1, l2, l3⟩ := lp (sz u) 0 M2 none (by omega) Fr.rf (fun j hj => by omega)
    have e47 : M3.1 52 47 = jn (sz o.2.2) := by rw [l2.1 52 (by decide), p4, c1]
    have e19 : M3.1 52 19 = jn (sz u) := by rw [l2.1 52 (by decide), y1]
    have hR3 : RM A M3 := RM_sc p2 (l2.mono (by decide)) (fun j _ => by rw [l2.1 52 (by decide)])
    have hL3 : Lo M M3 := hL2.trans (Lo.fr l2 (by decide))
    have h80 : At (M3.1 80) 0 (en o.2.2) := by rw [l2.1 80 (by decide), p3.1 80 (by decide)]; exact c2
    obtain ⟨M4, s1, s2, s3, s4, s5⟩ := m_norm (d := d) (x := 80) (by omega) hA hpos hR3 rfl (by omega) w3 z3 h80
    have hL4 : Lo M M4 := hL3.trans (Lo.fr s3 (by decide))
    rw [l1, e47, e19, s1, kI_r]
    rcases e2 : rnA A (jn 300) o.2.2 0 0 with ⟨_ | v, q2⟩
    · simp only
      rw [if_pos trivial]
      exact ⟨M4, rfl, s2, hL4⟩
    obtain ⟨x1, x2, x3⟩ := s5 v q2 e2
    simp only
    rw [ieq_neg (by omega) (by omega) (by omega), x1]
    refine ⟨M4, ?_, s2, hL4⟩
    have a78 : At (M4.1 78) 0 (en u) := by
      rw [At_sz] at y2 ⊢
      intro i hi
      rw [y2 i hi, Nat.zero_add, s3.1 78 (by decide), l3 i hi]
    by_cases hz : sz v = sz u
    · rw [ieq_pos hz]
      have cmp : ∀ m k, k + m = sz v → (∀ j, j < k → M4.1 65 j = M4.1 78 j) → E_169 d (134, [some (.ref 52), some (.int (jn n)), some (.int (jn n')), some (.int c), some (.int (jn 0)), some (.int (jn (sz u))), some (.int (jn k))], [], M4) = rI (bI (en u = en v)) M4 := by
        intro m
        induction m with
        | zero =>
          intro k hk hj
          rw [h_169_134, x1, ilt_neg (by omega) (by omega), bI_1 (en_eq_of x2 a78 hz (fun j hjk => by rw [Nat.zero_add]; exact hj j (by omega))).symm]
        | succ m ih =>
          intro k hk hj
          rw [h_169_134, x1, ilt_pos (by omega) (by omega), ald_n (n := 8100) rfl (by omega) (by omega), oB_s, ald_n (n := 41) rfl (by omega) (by omega), oB_s]
          by_cases e : M4.1 65 k = M4.1 78 k
          · rw [if_pos e, jn_add]
            refine ih (k + 1) (by omega) (fun j hjk => ?_)
            by_cases e3 : j = k
            · rw [e3]; exact e
            · exact hj j (by omega)
          · rw [if_neg e, bI_n (fun z => en_ne_of x2 a78 (j := k) (by omega) (by rw [Nat.zero_add]; exact e) z.symm)]
      exact cmp (sz v) 0 (by omega) (fun j hj => by omega)
    · rw [ieq_neg hz (by omega) (by omega), bI_n (fun z => hz (congrArg List.length z.symm))]
end
