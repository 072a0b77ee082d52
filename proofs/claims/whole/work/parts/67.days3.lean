/-! days by the model -/
section
variable {d : Nat} {A : AT} {M : PM} {a b c e f : Int32} {v : Int64}
theorem m_setT {n : Nat} {t t0 : Tm} {g : Nat → Int32} (hA : AOk A) (h : RM A M) (hn : (tsA A)[n]? = some t0) (hs : sz t ≤ 40) (hg : ∀ i, (i < 40 * n ∨ 40 * n + 40 ≤ i) → g i = M.1 54 i) (hat : At g (40 * n) (en t)) : RM (stT A n t) (sI (sI M 53 (va_up (M.1 53) n (jn (sz t)))) 54 g) := by
  have hf : Fr [53, 54] M (sI (sI M 53 (va_up (M.1 53) n (jn (sz t)))) 54 g) := (Fr.sI (by decide)).trans (Fr.sI (by decide))
  refine setK_m h ?_ (hf.mono (by decide)) (fun j _ => rfl)
  obtain ⟨⟨⟨a1, a2, a3, a4, a5⟩, a6, a7, a8⟩, -⟩ := h
  refine ⟨⟨?_, a2, a3, a4, a5⟩, fun i u hi => ?_, a7, a8⟩
  · refine a1.trans ?_
    show _ = jn ((tsA A).set n t).length
    rw [List.length_set]
  · show (sI (sI M 53 (va_up (M.1 53) n (jn (sz t)))) 54 g).1 53 i = jn (sz u) ∧ At ((sI (sI M 53 (va_up (M.1 53) n (jn (sz t)))) 54 g).1 54) (40 * i) (en u)
    rw [sI_k, sI_o _ _ (by omega), sI_k, up_at]
    rcases set_get hi with ⟨h1, h2⟩ | ⟨h1, h2⟩
    · rw [h1, h2, if_pos rfl]; exact ⟨rfl, hat⟩
    · have := tm_ok hA h2
      have hz := this.2.1
      rw [if_neg h1]
      exact ⟨(a6 i u h2).1, AT_congr (a6 i u h2).2 (fun j j1 j2 => hg j (by omega))⟩
theorem m_copyT {n : Nat} {t : Tm} {u1 u3 : Option Value} (hn : n < 24) (hs : sz t ≤ 40) : ∀ m k M g, k + m = sz t → M.1 52 19 = jn (sz t) → At (M.1 65) 0 (en t) → (∀ i, (i < 40 * n ∨ 40 * n + 40 ≤ i) → g i = M.1 54 i) → (∀ j, j < k → g (40 * n + j) = M.1 65 j) → ∃ g', E_173 d (97, [some (.ref 52), u1, some (.int (jn n)), u3, some (.int (jn k))], [], sI M 54 g) = rI (jn 1) (sI M 54 g') ∧ (∀ i, (i < 40 * n ∨ 40 * n + 40 ≤ i) → g' i = M.1 54 i) ∧ At g' (40 * n) (en t) := by
  intro m
  induction m with
  | zero =>
    intro k M g hk h19 hta hg hc
    have e19 : (sI M 54 g).1 52 19 = jn (sz t) := h19
    rw [h_173_97, e19, ilt_neg (by omega) (by omega), rZ_1]
    refine ⟨g, rfl, hg, ?_⟩
    rw [At_sz] at hta ⊢
    intro j hj
    rw [hta j hj, hc j (by omega), Nat.zero_add]
  | succ m ih =>
    intro k M g hk h19 hta hg hc
    have e19 : (sI M 54 g).1 52 19 = jn (sz t) := h19
    have e65 : (sI M 54 g).1 65 = M.1 65 := rfl
    rw [h_173_97, e19, ilt_pos (by omega) (by omega), ald_n (n := 8100) rfl (by omega) (by omega), oB_s, jn_mul, jn_add, ast_n (n := 960) rfl (by omega) (by omega), oB_s, sI_sI, sI_k, e65, jn_add]
    refine ih (k + 1) M _ (by omega) h19 hta (fun i hi => ?_) (fun j hj => ?_)
    · rw [up_at, if_neg (by omega)]; exact hg i hi
    · rw [up_at]
      by_cases hjk : j = k
      · rw [if_pos (by omega), hjk]
      · rw [if_neg (by omega)]; exact hc j (by omega)
theorem m_day {l n : Nat} (hd : 94 ≤ d) (hA : AOk A) (h : RM A M) (hl : l < (rsA A).length) (hn : n < (tsA A).length) : MI (pcl GG lay d 173 [.ref 52, .int (jn l), .int (jn n)] M) M (bR (dayF A l n)) := by
  obtain ⟨d, rfl⟩ := ex_add hd
  have hr : (rsA A)[l]? = some (rsA A)[l] := List.getElem?_eq_getElem hl
  have ht : (tsA A)[n]? = some (tsA A)[n] := List.getElem?_eq_getElem hn
  have er : (rsA A).getD l (Lf, Lf) = (rsA A)[l] := by rw [List.getD_eq_getElem?_getD, hr]; rfl
  have et : (tsA A).getD n Lf = (tsA A)[n] := by rw [List.getD_eq_getElem?_getD, ht]; rfl
  unfold dayF
  rw [er, et]
  generalize (rsA A)[l] = r at *
  generalize (tsA A)[n] = t at *
  obtain ⟨h3, h4, h5⟩ := tm_ok hA ht
  obtain ⟨M1, w1, w2, w5⟩ := m_grow (d := d + 93) (by omega) hA h ht
  rw [q_173, w1, kV_r]
  have key : ∀ m k u4 M, k + m = sz t → GR A t M → MI (E_173 (d + 93) (7, [some (.ref 52), some (.int (jn l)), some (.int (jn n)), some (.int (jn k)), u4], [], M)) M (bR (match fstF (fitB (cmA A) r.1 t) m k with
  | none => (false, A)
  | some i => if (rwt (cmA A) r t i).1 = 0 then (true, stT A n (rwt (cmA A) r t i).2) else (false, A))) := by
    intro m
    induction m with
    | zero =>
      intro k u4 M hk hG
      rw [h_173_7, hG.2.1, ilt_neg (by omega) (by omega), ieq_pos (by omega), rZ_0]
      simp only [fstF, bR_f]
      exact ⟨M, rfl, hG.1, Lo.rf⟩
    | succ m ih =>
      intro k u4 M hk hG
      have hi : k < sz t := by omega
      have hz := sub_sz h3 hi
      have hw := sub_wf h3 hi
      obtain ⟨M2, f1, f2, f3, f4⟩ := m_try (d := d + 93) (k := k) (by omega) hA hG hr h3 h4 hi
      rw [h_173_7, hG.2.1, ilt_pos (by omega) (by omega), f1, kI_r, fstF]
      by_cases hf : fitB (cmA A) r.1 t k = true
      case neg =>
        rw [if_neg hf, ieq_pos rfl, if_neg hf, jn_add]
        exact (ih (k + 1) u4 M2 (by omega) f2).pre f3
      rw [if_pos hf, ieq_neg (by omega) (by omega) (by omega), f2.2.1, ieq_neg (by omega) (by omega) (by omega), if_pos hf]
      simp only
      cases hm : mat (cmA A) r.1 (sub t k) with
      | none => unfold fitB at hf; rw [hm] at hf; simp at hf
      | some E =>
        obtain ⟨g, b1, b2, b3, b4, b5⟩ := m_built (d := d + 93) (by omega) hA f2 hr h3 h4 hi hm (f4 E hm)
        have hst : At ((BM M2 (sz (sbT E r.2)) g).1 65) k (en (sub t k)) := by
          have := sub_at h3 hi b3.2.2
          rw [Nat.zero_add] at this
          exact this
        have e26 : (BM M2 (sz (sbT E r.2)) g).1 52 26 = jn (sz (sbT E r.2)) := by
          show va_up (M2.1 52) 26 (jn (sz (sbT E r.2))) 26 = _
          rw [up_at, if_pos rfl]
        rw [b1, kV_r, c_span (n := 8100) (by omega) rfl (by omega) hw hst (by omega), kI_r, b3.2.1, e26, jn_sub (by omega), jn_add]
        have hh : Lo M (BM M2 (sz (sbT E r.2)) g) := f3.trans b4
        by_cases h7 : 40 < sz t - sz (sub t k) + sz (sbT E r.2)
        · have e1 : rwt (cmA A) r t k = (7, Lf) := by unfold rwt; rw [hm]; exact if_pos h7
          rw [ilt_pos h7 (by omega), e1, if_neg (by decide), bR_f, rZ_0]
          exact ⟨_, rfl, b3.1, hh⟩
        have e1 : rwt (cmA A) r t k = (0, rep t k (sbT E r.2)) := by unfold rwt; rw [hm]; exact if_neg h7
        obtain ⟨M3, p1, p2, p3⟩ := m_put (d := d + 93) (k := k) (by omega) b3 b2 h3 h4 b5 hi
        have hrs : sz (rep t k (sbT E r.2)) ≤ 40 := by rw [rep_sz h3 hi]; omega
        rw [ilt_neg (by omega) (by omega), e1, if_pos rfl, bR_t, p1, kV_r, p2.2.1, ast_n (n := 24) rfl h5 (by omega), oB_s]
        have hself : sI (sI M3 53 (va_up (M3.1 53) n (jn (sz (rep t k (sbT E r.2)))))) 54 (M3.1 54) = sI M3 53 (va_up (M3.1 53) n (jn (sz (rep t k (sbT E r.2))))) := sI_self (sI M3 53 (va_up (M3.1 53) n (jn (sz (rep t k (sbT E r.2)))))) 54
        obtain ⟨g', q1, q2, q3⟩ := m_copyT (d := d + 93) (t := rep t k (sbT E r.2)) (u1 := some (.int (jn l))) (u3 := some (.int (jn k))) h5 hrs (sz (rep t k (sbT E r.2))) 0 (sI M3 53 (va_up (M3.1 53) n (jn (sz (rep t k (sbT E r.2)))))) (M3.1 54) (by omega) p2.2.1 p2.2.2 (fun _ _ => rfl) (fun j hj => by omega)
        rw [hself] at q1
        rw [q1]
        exact ⟨_, rfl, m_setT hA p2.1 ht hrs q2 q3, (hh.trans p3).trans (Lo.fr (S := [53, 54]) ((Fr.sI (by decide)).trans (Fr.sI (by decide))) (by decide))⟩
  exact (key (sz t) 0 none M1 (by omega) w2).pre w5
theorem m_day2 {l n : Nat} {v w : Int32} (hd : 94 ≤ d) (hA : AOk A) (h : RM (sdK (sdK A v) w) M) (hl : l < (rsA A).length) (hn : n < (tsA A).length) : MI (pcl GG lay d 173 [.ref 52, .int (jn l), .int (jn n)] M) M (bR (dayF (sdK (sdK A v) w) l n)) := m_day hd (sdK_ok (sdK_ok hA)) h hl hn
theorem m_dayR : ∀ m k c A M u4, 95 ≤ d → k + m ≤ 40 → a = jn (k + m) → AOk A → RM A M → 0 < (rsA A).length → 0 < (tsA A).length → MI (E_174 d (42, [some (.ref 52), some (.int a), some (.int (jn c)), some (.int (jn k)), u4], [], M)) M (jn (dayR m c A).1, (dayR m c A).2) := by
  intro m
  induction m with
  | zero =>
    intro k c A M u4 hd hk ha hA h hl hn
    rw [ha, h_174_42, ilt_neg (by omega) (by omega)]
    exact ⟨M, rfl, h, Lo.rf⟩
  | succ m ih =>
    intro k c A M u4 hd hk ha hA h hl hn
    have l1 : (rsA A).length ≤ 12 := hA.1.2.1.1
    have l2 : (tsA A).length ≤ 24 := hA.1.1.1
    have e6 : M.1 52 3 = jn (rsA A).length := h.1.1.2.1
    obtain ⟨M1, f1, f2, f3⟩ := m_rnd (d := d) (n := (rsA A).length) (by omega) h rfl (by omega)
    have f2 : RM (sdK A (nxS (sdA A))) M1 := f2
    have e5 : M1.1 52 0 = jn (tsA A).length := sd_len_m f2
    obtain ⟨M2, g1, g2, g3⟩ := m_rnd (d := d) (n := (tsA A).length) (s := nxS (sdA A)) (by omega) f2 sd_sd (by omega)
    have g2 : RM (sdK (sdK A (nxS (sdA A))) (nxS (nxS (sdA A)))) M2 := g2
    obtain ⟨M3, p1, p2, p3⟩ := m_day2 (d := d) (v := nxS (sdA A)) (w := nxS (nxS (sdA A))) (l := rnN (sdA A) (rsA A).length) (n := rnN (nxS (sdA A)) (tsA A).length) (by omega) hA g2 (rn_lt hl) (rn_lt hn)
    obtain ⟨k1, k2, k3⟩ := k_stepD hA hl hn
    have p1 : pcl GG lay d 173 [.ref 52, .int (jn (rnN (sdA A) (rsA A).length)), .int (jn (rnN (nxS (sdA A)) (tsA A).length))] M2 = rI (bI ((stepD A).1 = true)) M3 := p1
    have p2 : RM (stepD A).2 M3 := p2
    have hh : Lo M M3 := (f3.trans g3).trans p3
    rw [ha, h_174_42, ilt_pos (by omega) (by omega), e6, f1, kI_r, e5, g1, kI_r, p1, kI_r, dayR]
    by_cases hs : (stepD A).1 = true
    · rw [bI_1 hs, ieq_neg (by omega) (by omega) (by omega), if_pos hs, jn_add, jn_add, ← ha]
      exact (ih (k + 1) (c + 1) (stepD A).2 M3 _ hd (by omega) (by rw [ha]; congr 1; omega) k1 p2 (by omega) (by omega)).pre hh
    · rw [bI_n hs, ieq_pos rfl, if_neg hs, jn_add, ← ha]
      exact (ih (k + 1) c (stepD A).2 M3 _ hd (by omega) (by rw [ha]; congr 1; omega) k1 p2 (by omega) (by omega)).pre hh
theorem m_days (hd : 96 ≤ d) (hA : AOk A) (h : RM A M) : MI (pcl GG lay d 174 [.ref 52, .int a] M) M (F_days A a) := by
  obtain ⟨d, rfl⟩ := ex_add hd
  have l1 : (rsA A).length ≤ 12 := hA.1.2.1.1
  have l2 : (tsA A).length ≤ 24 := hA.1.1.1
  have e6 : M.1 52 3 = jn (rsA A).length := h.1.1.2.1
  have e5 : M.1 52 0 = jn (tsA A).length := h.1.1.1
  unfold F_days
  rw [q_174, e6, e5]
  by_cases h1 : (rsA A).length = 0
  · rw [ieq_pos h1, if_pos h1]; exact m_ref (by omega) h (by omega)
  rw [ieq_neg h1 (by omega) (by omega), if_neg h1]
  by_cases h2 : (tsA A).length = 0
  · rw [ieq_pos h2, if_pos h2]; exact m_ref (by omega) h (by omega)
  rw [ieq_neg h2 (by omega) (by omega), if_neg h2, c_within_n (by omega) (by omega) (by omega), kI_r]
  by_cases h3 : 1 ≤ a.toInt ∧ a.toInt ≤ 40
  case neg =>
    rw [bI_n (show ¬ (((1 : Nat) : Int) ≤ a.toInt ∧ a.toInt ≤ ((40 : Nat) : Int)) from h3), ieq_pos rfl, if_pos h3]
    exact m_ref (by omega) h (by omega)
  rw [bI_1 (show ((1 : Nat) : Int) ≤ a.toInt ∧ a.toInt ≤ ((40 : Nat) : Int) from h3), ieq_neg (by omega) (by omega) (by omega), if_neg (Classical.not_not.mpr h3)]
  obtain ⟨n, hn, rfl⟩ := inn (a := a) (n := 41) (by omega)
  rw [jnN (by omega)]
  exact m_dayR n 0 0 A M none (by omega) (by omega) (by rw [Nat.zero_add]) hA h (by omega) (by omega)
end
