/-! judge by the model -/
theorem jz_sub10 (k : Nat) : jz k - jn 10 = jz (10 + k) := by
  unfold jn jz; rw [← Int32.ofInt_sub]; congr 1; omega
theorem lcmp_two {a c : Int32} : (jn 0 < lg_cmp ((Int64.ofInt 2) * a.toInt64) c.toInt64) = (c.toInt < 2 * a.toInt) := by
  have h1 := a.toInt_lt; have h2 := a.le_toInt; have h5 := c.toInt_lt; have h6 := c.le_toInt
  have e2 : (Int64.ofInt 2).toInt = 2 := by decide
  have e : ((Int64.ofInt 2) * a.toInt64).toInt = 2 * a.toInt := by
    rw [Int64.toInt_mul, Int32.toInt_toInt64, e2]
    exact Int.bmod_eq_of_le (by omega) (by omega)
  unfold lg_cmp
  by_cases h : c.toInt < 2 * a.toInt
  · rw [if_pos (show (Int64.ofInt 2) * a.toInt64 > c.toInt64 from Int64.lt_iff_toInt_lt.mpr (by rw [e, Int32.toInt_toInt64]; exact h))]
    simp only [h, eq_iff_iff, iff_true]; decide
  · rw [if_neg (show ¬ (Int64.ofInt 2) * a.toInt64 > c.toInt64 from fun q => h (by have := Int64.lt_iff_toInt_lt.mp q; rwa [e, Int32.toInt_toInt64] at this))]
    simp only [h, eq_iff_iff, iff_false]
    split <;> decide
section
variable {d : Nat} {A : AT} {M : PM} {a b c e f : Int32} {v : Int64}
theorem k_judge (hA : AOk A) : AOk (F_judge A a b c).2 := by
  unfold F_judge
  repeat' split
  all_goals exact hA
theorem m_no10 {k : Nat} (hd : 2 ≤ d) (h : RM A M) (hk : k < 8) : MI (kI (pcl GG lay d 70 [.ref 52, .int (jz k)] M) fun r M => rI r M) M (no10A A k) := by
  obtain ⟨d, rfl⟩ := ex_add hd
  obtain ⟨M', e1, e2, e3⟩ := m_ref0 (d := d + 1) (by omega) h hk
  exact ⟨M', by rw [q_70, e1, kI_r, kI_r]; show rI (jz k - jn 10) M' = _; rw [jz_sub10], e2, e3⟩
theorem m_cnt1 (hd : 1 ≤ d) (h : RM A M) : ∃ M', pcl GG lay d 141 [.ref 52] M = rV M' ∧ RM A M' ∧ Lo M M' ∧ M'.1 52 28 = jn 0 ∧ M'.1 52 29 = jn 0 := by
  obtain ⟨d, rfl⟩ := ex_add hd
  rw [q_141, wr_e, wr_e]
  have e52 : (sI (sI M 52 (va_up (M.1 52) 28 (jn 0))) 52 (va_up ((sI M 52 (va_up (M.1 52) 28 (jn 0))).1 52) 29 (jn 0))).1 52 = va_up (va_up (M.1 52) 28 (jn 0)) 29 (jn 0) := rfl
  have hf : Fr [52] M (sI (sI M 52 (va_up (M.1 52) 28 (jn 0))) 52 (va_up ((sI M 52 (va_up (M.1 52) 28 (jn 0))).1 52) 29 (jn 0))) := (Fr.sI (by decide)).trans (Fr.sI (by decide))
  refine ⟨_, rfl, RM_sc h (hf.mono (by decide)) (fun j hj => ?_), Lo.fr hf (by decide), ?_, ?_⟩
  · rw [e52, up_at, if_neg (by rintro rfl; revert hj; decide), up_at, if_neg (by rintro rfl; revert hj; decide)]
  · rw [e52, up_at, if_neg (by omega), up_at, if_pos rfl]
  · rw [e52, up_at, if_pos rfl]
/-- two rows of as many signs are compared -/
theorem en_eq_of {u t : Tm} {f g : Nat → Int32} {p q : Nat} (hf : At f p (en u)) (hg : At g q (en t)) (hz : sz u = sz t) (h : ∀ j, j < sz u → f (p + j) = g (q + j)) : en u = en t := by
  rw [At_sz] at hf hg
  apply List.ext_getElem?
  intro i
  by_cases hi : i < sz u
  · rw [hf i hi, hg i (by omega), h i hi]
  · rw [List.getElem?_eq_none (by show sz u ≤ i; omega), List.getElem?_eq_none (by show sz t ≤ i; omega)]
theorem en_ne_of {u t : Tm} {f g : Nat → Int32} {p q j : Nat} (hf : At f p (en u)) (hg : At g q (en t)) (hj : j < sz u) (h : f (p + j) ≠ g (q + j)) : en u ≠ en t := by
  intro e
  rw [At_sz] at hf hg
  have e2 : sz u = sz t := congrArg List.length e
  have h1 := hf j hj
  rw [e, hg j (by omega)] at h1
  exact h (Option.some.inj h1).symm
theorem m_cmp {u1 u2 : Option Value} {y : Nat} {u t : Tm} (hy : y < 24) (hu : sz u ≤ 40) (h19 : M.1 52 19 = jn (sz u)) (h65 : At (M.1 65) 0 (en u)) (h54 : At (M.1 54) (40 * y) (en t)) (hz : sz u = sz t) : ∀ m k, k + m = sz u → (∀ j, j < k → M.1 65 j = M.1 54 (40 * y + j)) → E_170 d (31, [some (.ref 52), u1, u2, some (.int (jn y)), some (.int (jn k))], [], M) = rI (bI (en u = en t)) M := by
  intro m
  induction m with
  | zero =>
    intro k hk hj
    rw [h_170_31, h19, ilt_neg (by omega) (by omega), rZ_1, bI_1 (en_eq_of h65 h54 hz (fun j hjk => by rw [Nat.zero_add]; exact hj j (by omega)))]
  | succ m ih =>
    intro k hk hj
    rw [h_170_31, h19, ilt_pos (by omega) (by omega), ald_n (n := 8100) rfl (by omega) (by omega), oB_s, jn_mul, jn_add, ald_n (n := 960) rfl (by omega) (by omega), oB_s]
    by_cases e : M.1 65 k = M.1 54 (40 * y + k)
    · rw [if_pos e, jn_add]
      refine ih (k + 1) (by omega) (fun j hjk => ?_)
      by_cases e2 : j = k
      · rw [e2]; exact e
      · exact hj j (by omega)
    · rw [if_neg e, rZ_0, bI_n (en_ne_of h65 h54 (j := k) (by omega) (by rw [Nat.zero_add]; exact e))]
/-- one of the twos -/
theorem m_two1 {x y b r : Nat} {w : Int32} {t t2 : Tm} (hd : 1901 ≤ d) (hA : AOk A) (hw : okM A w) (h : RM A M) (hx : (tsA A)[x]? = some t) (hy : (tsA A)[y]? = some t2) (hb : b ≤ 600) (hr : r ≤ 40) (h28 : M.1 52 28 = jn b) (h29 : M.1 52 29 = jn r) :
    ∃ M', pcl GG lay d 170 [.ref 52, .int w, .int (jn x), .int (jn y)] M = rI (match rnA A w t b r with
      | (none, _) => jn 0
      | (some u, _) => bI (en u = en t2)) M' ∧ RM A M' ∧ Lo M M' ∧ ∀ u q, rnA A w t b r = (some u, q) → M'.1 52 28 = jn q.1 ∧ M'.1 52 29 = jn q.2.1 := by
  obtain ⟨d, rfl⟩ := ex_add (show 1 ≤ d by omega)
  obtain ⟨k3, k4, k5⟩ := tm_ok hA hx
  obtain ⟨i3, i4, i5⟩ := tm_ok hA hy
  have e53 : M.1 53 x = jn (sz t) := (h.1.2.1 x t hx).1
  have e54 : At (M.1 54) (40 * x) (en t) := (h.1.2.1 x t hx).2
  have w1 := c_grow (d := d) (M := M) (by omega) k5 k4 e53
  obtain ⟨M1, hM1⟩ : ∃ M1, M1 = sI (sI M 52 (va_up (M.1 52) 19 (jn (sz t)))) 65 (cp (M.1 54) (M.1 65) (40 * x) 0 (sz t)) := ⟨_, rfl⟩
  rw [← hM1] at w1
  have f1 : Fr [52, 65] M M1 := by rw [hM1]; exact (Fr.sI (by decide)).trans (Fr.sI (by decide))
  have a52 : M1.1 52 = va_up (M.1 52) 19 (jn (sz t)) := by rw [hM1]; rfl
  have a65 : M1.1 65 = cp (M.1 54) (M.1 65) (40 * x) 0 (sz t) := by rw [hM1]; rfl
  clear hM1
  have w2 : GR A t M1 := ⟨RM_sc h (f1.mono (by decide)) (fun j hj => by rw [a52, up_at, if_neg (by rintro rfl; revert hj; decide)]), by rw [a52, up_at, if_pos rfl], by rw [a65]; exact AT_cp e54 (Nat.le_refl _)⟩
  obtain ⟨M3, g1, g2, g3, g4⟩ := m_gos (w := w) (d := d) (by omega) hA hw w2 k3 k4 hb hr (by rw [a52, up_at, if_neg (by omega)]; exact h28) (by rw [a52, up_at, if_neg (by omega)]; exact h29)
  have hh : Lo M M3 := (Lo.fr f1 (by decide)).trans g3
  rw [q_170, w1, kV_r, g1, kI_r]
  rcases e : rnA A w t b r with ⟨_ | u, q⟩
  · have : trlV (jn 0) (none, q) ≠ jn 0 := by
      unfold trlV
      simp only [if_true]
      split
      · rw [Ne, jn_inj (by omega) (by omega)]; omega
      · rw [Ne, jn_inj (by omega) (by omega)]; omega
    rw [if_neg this, rZ_0]
    exact ⟨M3, rfl, g2, hh, fun u q hq => by cases hq⟩
  · have g5 := g4 u q e
    have ho := rnA_ok hA hw k3 k4 hb hr
    rw [e] at ho
    have b53 : M3.1 53 y = jn (sz t2) := (g2.1.2.1 y t2 hy).1
    have b54 : At (M3.1 54) (40 * y) (en t2) := (g2.1.2.1 y t2 hy).2
    have hu := ho.2.1
    rw [if_pos (show trlV (jn 0) (some u, q) = jn 0 by unfold trlV; simp only [if_true]), ald_n (n := 24) rfl (by omega) (by omega), oB_s, b53, g5.1.2.1]
    refine ⟨M3, ?_, g2, hh, fun u' q' hq => by cases hq; exact ⟨g5.2.1.1, g5.2.1.2.1⟩⟩
    by_cases hz : sz u = sz t2
    · rw [ieq_pos hz, m_cmp (d := d) i5 hu g5.1.2.1 g5.1.2.2 b54 hz (sz u) 0 (by omega) (fun j hj => by omega)]
    · rw [ieq_neg hz (by omega) (by omega), rZ_0]
      simp only
      rw [bI_n (fun z => hz (congrArg List.length z))]
theorem jn_of {x : Int32} (h : 0 ≤ x.toInt) : x = jn x.toInt.toNat := by
  rw [← Int32.toInt_inj, jn_toInt (by have := x.toInt_lt; omega)]; omega
theorem ts_at (hA : AOk A) (h : hsT A a) : ∃ t, (tsA A)[a.toInt.toNat]? = some t ∧ tmN A a = t ∧ wf t ∧ sz t ≤ 40 ∧ a = jn a.toInt.toNat := by
  obtain ⟨n, t, rfl, k1, k2, k3, k4, k5⟩ := ts_of hA h
  rw [jnN (by omega)]
  exact ⟨t, k1, k2, k3, k4, rfl⟩
theorem m_jud {s n : Nat} {w : Int32} {u4 : Option Value} (hd : 1901 ≤ d) (hA : AOk A) (hw : okM A w) (hs : s < 8) (hn : 2 * n ≤ siz A s) (hall : ∀ i, i < 2 * n → hsT A (rowI A s i)) : ∀ m k b r M, k + m = n → RM A M → b ≤ 600 → r ≤ 40 → M.1 52 28 = jn b → M.1 52 29 = jn r → MI (E_171 d (119, [some (.ref 52), some (.int (jn s)), some (.int w), some (.int (jn n)), u4, some (.int (jn k))], [], M)) M (judF A s w m k b r, A) := by
  have h160 : siz A s ≤ 160 := (hA.2.2.2 s hs).1
  intro m
  induction m with
  | zero =>
    intro k b r M hk h _ _ _ _
    rw [h_171_119, ilt_neg (by omega) (by omega)]
    exact ⟨M, rfl, h, Lo.rf⟩
  | succ m ih =>
    intro k b r M hk h hb hr h28 h29
    rw [h_171_119, ilt_pos (by omega) (by omega), jn_mul, d_row (by omega) h.2.2.2.1 hs h160 (by omega), kI_r, jn_add, d_row (by omega) h.2.2.2.1 hs h160 (by omega), kI_r]
    obtain ⟨t, k1, k2, k3, k4, k6⟩ := ts_at hA (hall (2 * k) (by omega))
    obtain ⟨t2, i1, i2, i3, i4, i6⟩ := ts_at hA (hall (2 * k + 1) (by omega))
    obtain ⟨M1, e1, e2, e3, e4⟩ := m_two1 (d := d) hd hA hw h k1 i1 hb hr h28 h29
    rw [← k6, ← i6] at e1
    have ho := rnA_ok hA hw k3 k4 hb hr
    rcases e : rnA A w t b r with ⟨_ | u, q⟩
    · have e1' : pcl GG lay d 170 [.ref 52, .int w, .int (rowI A s (2 * k)), .int (rowI A s (2 * k + 1))] M = rI (jn 0) M1 := by rw [e1, e]
      have ej : judF A s w (m + 1) k b r = jn k := by rw [judF, k2, e]
      rw [e1', kI_r, ieq_pos rfl, ej]
      exact ⟨M1, rfl, e2, e3⟩
    · have e1' : pcl GG lay d 170 [.ref 52, .int w, .int (rowI A s (2 * k)), .int (rowI A s (2 * k + 1))] M = rI (bI (en u = en t2)) M1 := by rw [e1, e]
      have ej : judF A s w (m + 1) k b r = if en u = en t2 then judF A s w m (k + 1) q.1 q.2.1 else jn k := by rw [judF, k2, i2, e]
      rw [e] at ho
      rw [e1', kI_r, ej]
      by_cases he : en u = en t2
      · obtain ⟨z1, z2⟩ := e4 u q e
        rw [bI_1 he, ieq_neg (by omega) (by omega) (by omega), if_pos he, jn_add]
        obtain ⟨M2, y1, y2, y3⟩ := ih (k + 1) q.1 q.2.1 M1 (by omega) e2 ho.2.2.1.1 ho.2.2.1.2.1 z1 z2
        exact ⟨M2, y1, y2, e3.trans y3⟩
      · rw [bI_n he, ieq_pos rfl, if_neg he]
        exact ⟨M1, rfl, e2, e3⟩
theorem m_judge (hd : 1903 ≤ d) (hA : AOk A) (h : RM A M) : MI (pcl GG lay d 171 [.ref 52, .int a, .int b, .int c] M) M (F_judge A a b c) := by
  obtain ⟨d, rfl⟩ := ex_add (show 1 ≤ d by omega)
  unfold F_judge
  rw [q_171, d_noR (by omega) h, kI_r]
  have hn4 := noR_lt A a
  by_cases h1 : thr a
  case neg =>
    have : noR A a = 1 := if_pos h1
    rw [this, if_pos rfl, if_pos h1]
    exact m_no10 (by omega) h (by omega)
  have hn1 : noR A a ≠ 1 := by
    unfold noR
    rw [if_neg (Classical.not_not.mpr h1)]
    split
    · omega
    split <;> omega
  rw [if_neg (by rw [jz_inj (by omega) (by omega)]; exact hn1), if_neg (Classical.not_not.mpr h1), d_hasS (by omega) hA h, kI_r]
  by_cases h2 : hsS A b
  case neg => rw [bI_n h2, ieq_pos rfl, if_pos h2]; exact m_no10 (by omega) h (by omega)
  rw [bI_1 h2, ieq_neg (by omega) (by omega) (by omega), if_neg (Classical.not_not.mpr h2), ite_nn hn4]
  by_cases h3 : noR A a = 0
  case neg => rw [if_neg h3, if_pos h3]; exact m_no10 (by omega) h (by omega)
  rw [if_pos h3, if_neg (show ¬ noR A a ≠ 0 from fun q => q h3)]
  by_cases h4 : c.toInt < 0
  · rw [if_pos (by rw [jlt (by omega)]; exact h4), if_pos h4]; exact m_no10 (by omega) h (by omega)
  rw [if_neg (by rw [jlt (by omega)]; exact h4), if_neg h4]
  obtain ⟨-, h5⟩ := noR_0 h3
  obtain ⟨s, hs, rfl⟩ := inn (n := 8) h1
  rw [jnN (by omega)] at *
  have h160 : siz A s ≤ 160 := (hA.2.2.2 s hs).1
  rw [d_siz h hs, oB_s]
  by_cases h6 : (siz A s : Int) < 2 * c.toInt
  · rw [if_pos (by rw [lcmp_two, jn_toInt (by omega)]; exact h6), if_pos h6]; exact m_no10 (by omega) h (by omega)
  rw [if_neg (by rw [lcmp_two, jn_toInt (by omega)]; exact h6), if_neg h6]
  obtain ⟨n, hn, rfl⟩ := inn (a := c) (n := 81) (by omega)
  rw [jn_toInt (by omega)] at h6
  rw [jnN (by omega)]
  have lp : ∀ m k, k + m = 2 * n → ((∀ i, k ≤ i → i < 2 * n → hsT A (rowI A s i)) → E_171 d (77, [some (.ref 52), some (.int (jn s)), some (.int b), some (.int (jn n)), some (.int (jz (noR A (jn s)))), some (.int (jn k))], [], M) = (kV (pcl GG lay d 141 [.ref 52] M) fun M1 => E_171 d (119, [some (.ref 52), some (.int (jn s)), some (.int b), some (.int (jn n)), some (.int (jz (noR A (jn s)))), some (.int (jn 0))], [], M1))) ∧ (¬ (∀ i, k ≤ i → i < 2 * n → hsT A (rowI A s i)) → MI (E_171 d (77, [some (.ref 52), some (.int (jn s)), some (.int b), some (.int (jn n)), some (.int (jz (noR A (jn s)))), some (.int (jn k))], [], M)) M (no10A A 6)) := by
    intro m
    induction m with
    | zero =>
      intro k hk
      refine ⟨fun _ => ?_, fun q => absurd (fun i i1 i2 => by omega) q⟩
      rw [h_171_77, jn_mul, ilt_neg (by omega) (by omega)]
    | succ m ih =>
      intro k hk
      have st : E_171 d (77, [some (.ref 52), some (.int (jn s)), some (.int b), some (.int (jn n)), some (.int (jz (noR A (jn s)))), some (.int (jn k))], [], M) = if hsT A (rowI A s k) then E_171 d (77, [some (.ref 52), some (.int (jn s)), some (.int b), some (.int (jn n)), some (.int (jz (noR A (jn s)))), some (.int (jn (k + 1)))], [], M) else (kI (pcl GG lay d 70 [.ref 52, .int (jz 6)] M) fun r3 M3 => (rI r3 M3)) := by
        rw [h_171_77, jn_mul, ilt_pos (by omega) (by omega), d_row (by omega) h.2.2.2.1 hs h160 (by omega), kI_r, d_hasT (by omega) hA h, kI_r, jn_add]
        by_cases hh : hsT A (rowI A s k)
        · rw [bI_1 hh, ieq_neg (by omega) (by omega) (by omega), if_pos hh]
        · rw [bI_n hh, ieq_pos rfl, if_neg hh]
      rw [st]
      by_cases hh : hsT A (rowI A s k)
      · rw [if_pos hh]
        refine ⟨fun q => (ih (k + 1) (by omega)).1 (fun i i1 i2 => q i (by omega) i2), fun q => (ih (k + 1) (by omega)).2 (fun q2 => q (fun i i1 i2 => ?_))⟩
        by_cases e : i = k
        · rw [e]; exact hh
        · exact q2 i (by omega) i2
      · rw [if_neg hh]
        exact ⟨fun q => absurd (q k (Nat.le_refl k) (by omega)) hh, fun _ => m_no10 (by omega) h (by omega)⟩
  by_cases h7 : ∀ i, i < 2 * n → hsT A (rowI A s i)
  · obtain ⟨M1, c1, c2, c3, c4, c5⟩ := m_cnt1 (d := d) (by omega) h
    rw [(lp (2 * n) 0 (by omega)).1 (fun i _ i2 => h7 i i2), c1, kV_r, if_neg (Classical.not_not.mpr h7)]
    exact (m_jud (d := d) (by omega) hA (okM_t h2) hs (by omega) h7 n 0 0 0 M1 (by omega) c2 (by omega) (by omega) c4 c5).pre c3
  · rw [if_pos h7]
    exact (lp (2 * n) 0 (by omega)).2 (fun q => h7 (fun i i2 => q i (Nat.zero_le _) i2))
end
