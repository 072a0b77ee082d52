/-! rule, both sides -/
section
variable {d : Nat} {A : AT} {M : PM} {a b c e f : Int32} {v : Int64}
theorem sgn0 {g : Nat → Int32} {p : Nat} {t : Tm} (ht : wf t) (h : At g p (en t)) : g p = sgn t 0 := by
  have := sgn_at h (sz_pos t ht)
  rwa [Nat.add_zero] at this
theorem x_rule (hd : 6 ≤ d) (hA : AOk A) (h : RX A M) : XI (pcl GG lay d 20 [.ref 0, .int a, .int b] M) M (F_rule A a b) := by
  obtain ⟨d, rfl⟩ := ex_add hd
  have hl : (rsA A).length ≤ 12 := hA.1.2.1.1
  have e6 : M.1 1 6 = jn (rsA A).length := h.1.1.2.1
  rw [q_20, c_hasT (by omega) hA h, kI_r, c_hasT (by omega) hA h, kI_r]
  simp only [bI_0]
  unfold F_rule
  by_cases h1 : 0 ≤ a.toInt ∧ a.toInt < ((tsA A).length : Nat)
  case neg => rw [if_pos h1, lk_none h1]; exact x_ref (by omega) h (by omega)
  rw [if_neg (not_not_intro h1)]
  by_cases h2 : 0 ≤ b.toInt ∧ b.toInt < ((tsA A).length : Nat)
  case neg =>
    rw [if_pos h2, lk_none h2]
    obtain ⟨n, t, -, -, -, e1⟩ := lk_some h1
    rw [e1]; exact x_ref (by omega) h (by omega)
  rw [if_neg (not_not_intro h2)]
  obtain ⟨n, t, rfl, hn, ht, lt⟩ := lk_some h1
  obtain ⟨m, u, rfl, hm, hu, lu⟩ := lk_some h2
  obtain ⟨w1, w2, w3⟩ := tm_ok hA ht
  obtain ⟨v1, v2, v3⟩ := tm_ok hA hu
  have ta := h.1.2.1 n t ht
  have ua := h.1.2.1 m u hu
  rw [c_tp (by omega), kI_r, c_vars (by omega) v1 ua (by omega), kI_r, c_tp (by omega), kI_r, c_vars (by omega) w1 ta (by omega), kI_r, c_tp (by omega), kI_r, c_at (by omega) (by omega), kI_r, c_isV (by omega), kI_r, lt, lu, e6, sgn0 w1 ta]
  simp only [bI_0]
  by_cases g1 : isV (sgn t 0)
  · rw [if_neg (not_not_intro g1), if_pos (Or.inl g1)]; exact x_ref (by omega) h (by omega)
  rw [if_pos g1]
  by_cases g2 : vb (en u) &&& (vb (en t) ^^^ jz 1) = jn 0
  case neg => rw [if_neg g2, if_pos (Or.inr g2)]; exact x_ref (by omega) h (by omega)
  have hno : ¬ (isV (sgn t 0) ∨ vb (en u) &&& (vb (en t) ^^^ jz 1) ≠ jn 0) := by
    rintro (q | q)
    · exact g1 q
    · exact q g2
  rw [if_pos g2, if_neg hno]
  by_cases g3 : 12 ≤ (rsA A).length
  · rw [if_pos g3, ilt_neg (by omega) (by omega)]; exact x_ref (by omega) h (by omega)
  rw [if_neg g3, ilt_pos (by omega) (by omega), c_tp (by omega), kI_r, c_tp (by omega), kI_r, q_244, e6, c_lp (by omega), kI_r, c_append (by omega) w1 ta (by omega) (by omega) (by omega), kI_r]
  have e6a : (sI M 7 (cp (M.1 7) (M.1 7) (40 * n) (960 + 40 * (rsA A).length) (sz t))).1 1 6 = jn (rsA A).length := e6
  have ua2 : At ((sI M 7 (cp (M.1 7) (M.1 7) (40 * n) (960 + 40 * (rsA A).length) (sz t))).1 7) (40 * m) (en u) := by
    rw [sI_k]; exact AT_cp_out ua (by omega)
  rw [e6a, c_rp (by omega), kI_r, c_append (by omega) v1 ua2 (by omega) (by omega) (by omega), kI_r, wr_e, sI_sI, sI_k]
  have e6b : ∀ f, (sI M 7 f).1 1 6 = jn (rsA A).length := fun f => e6
  rw [e6b, jn_add, sI_k, up_at, if_pos rfl, jn_sub (by omega), Nat.add_sub_cancel, kI_r]
  have hf : ∀ f g, Fr [1, 7] M (sI (sI M 7 f) 1 g) := fun f g => (Fr.sI (by decide)).trans (Fr.sI (by decide))
  refine ⟨_, rfl, setK_x h ?_ ((hf _ _).mono (by decide)), Hi.fr (hf _ _) (by decide)⟩
  obtain ⟨⟨⟨a1, a2, a3, a4, a5⟩, a6, a7, a8⟩, -⟩ := h
  have lowT : ∀ i, i < 1920 → (i < 960 + 40 * (rsA A).length ∨ 960 + 40 * (rsA A).length + 40 ≤ i) → (i < 1440 + 40 * (rsA A).length ∨ 1440 + 40 * (rsA A).length + 40 ≤ i) → cp (cp (M.1 7) (M.1 7) (40 * n) (960 + 40 * (rsA A).length) (sz t)) (cp (M.1 7) (M.1 7) (40 * n) (960 + 40 * (rsA A).length) (sz t)) (40 * m) (1440 + 40 * (rsA A).length) (sz u) i = M.1 7 i := by
    intro i h1 h2 h3
    rw [cp_out (by omega), cp_out (by omega)]
  refine ⟨⟨a1, ?_, a3, a4, a5⟩, fun i x hi => ?_, fun i r hi => ?_, fun i q hi => a8 i q hi⟩
  · rw [sI_k, up_at, if_pos rfl]; simp
  · obtain ⟨-, x2, x3⟩ := tm_ok hA hi
    rw [sI_o _ _ (by omega), sI_k]
    exact AT_congr (a6 i x hi) (fun j q1 q2 => lowT j (by omega) (by omega) (by omega))
  · rw [sI_o _ _ (by omega), sI_k]
    rcases app_get hi with ⟨h3, h4⟩ | ⟨h3, h4⟩
    · obtain ⟨w, h12⟩ := rl_ok hA h4
      have w1 := w.2.2.1
      have w2 := w.2.2.2.1
      exact ⟨AT_congr (a7 i r h4).1 (fun j q1 q2 => lowT j (by omega) (by omega) (by omega)), AT_congr (a7 i r h4).2 (fun j q1 q2 => lowT j (by omega) (by omega) (by omega))⟩
    · subst h4; subst h3
      show At _ _ (en t) ∧ At _ _ (en u)
      refine ⟨AT_cp_out (AT_cp ta (by omega)) (by omega), AT_cp ?_ (by omega)⟩
      rw [sI_k] at ua2
      exact ua2
theorem m_rule (hd : 6 ≤ d) (hA : AOk A) (h : RM A M) : MI (pcl GG lay d 107 [.ref 52, .int a, .int b] M) M (F_rule A a b) := by
  obtain ⟨d, rfl⟩ := ex_add hd
  have hl : (rsA A).length ≤ 12 := hA.1.2.1.1
  have e6 : M.1 52 3 = jn (rsA A).length := h.1.1.2.1
  rw [q_107, d_hasT (by omega) hA h, kI_r, d_hasT (by omega) hA h, kI_r]
  simp only [bI_0]
  unfold F_rule
  by_cases h1 : 0 ≤ a.toInt ∧ a.toInt < ((tsA A).length : Nat)
  case neg => rw [if_pos h1, lk_none h1]; exact m_ref (by omega) h (by omega)
  rw [if_neg (not_not_intro h1)]
  by_cases h2 : 0 ≤ b.toInt ∧ b.toInt < ((tsA A).length : Nat)
  case neg =>
    rw [if_pos h2, lk_none h2]
    obtain ⟨n, t, -, -, -, e1⟩ := lk_some h1
    rw [e1]; exact m_ref (by omega) h (by omega)
  rw [if_neg (not_not_intro h2)]
  obtain ⟨n, t, rfl, hn, ht, lt⟩ := lk_some h1
  obtain ⟨m, u, rfl, hm, hu, lu⟩ := lk_some h2
  obtain ⟨w1, w2, w3⟩ := tm_ok hA ht
  obtain ⟨v1, v2, v3⟩ := tm_ok hA hu
  obtain ⟨ts, ta⟩ := h.1.2.1 n t ht
  obtain ⟨us, ua⟩ := h.1.2.1 m u hu
  have ts : M.1 53 n = jn (sz t) := ts
  have us : M.1 53 m = jn (sz u) := us
  have ta : At (M.1 54) (40 * n) (en t) := ta
  have ua : At (M.1 54) (40 * m) (en u) := ua
  have szt := sz_pos t w1
  rw [ald_n (n := 24) rfl (by omega) (by omega), oB_s, ts, jn_mul, d_vars (nx := 960) (by omega) rfl (by omega) ta (by omega), kI_r, ald_n (n := 960) rfl (by omega) (by omega), oB_s, c_isVm (by omega), kI_r, ald_n (n := 24) rfl (by omega) (by omega), oB_s, us, jn_mul, d_vars (nx := 960) (by omega) rfl (by omega) ua (by omega), kI_r, lt, lu, e6, sgn0 w1 ta]
  simp only [bI_0]
  by_cases g1 : isV (sgn t 0)
  · rw [if_neg (not_not_intro g1), if_pos (Or.inl g1)]; exact m_ref (by omega) h (by omega)
  rw [if_pos g1]
  by_cases g2 : vb (en u) &&& (vb (en t) ^^^ jz 1) = jn 0
  case neg => rw [if_neg g2, if_pos (Or.inr g2)]; exact m_ref (by omega) h (by omega)
  have hno : ¬ (isV (sgn t 0) ∨ vb (en u) &&& (vb (en t) ^^^ jz 1) ≠ jn 0) := by
    rintro (q | q)
    · exact g1 q
    · exact q g2
  rw [if_pos g2, if_neg hno]
  by_cases g3 : 12 ≤ (rsA A).length
  · rw [if_pos g3, ieq_pos (by omega)]; exact m_ref (by omega) h (by omega)
  rw [if_neg g3, ieq_neg (by omega) (by omega) (by omega), ald_n (n := 24) rfl (by omega) (by omega), oB_s, ts, jn_mul, ast_n (n := 24) rfl (by omega) (by omega), oB_s]
  have e6a : (sI M 55 (va_up (M.1 55) (2 * (rsA A).length) (jn (sz t)))).1 52 3 = jn (rsA A).length := e6
  have us2 : (sI M 55 (va_up (M.1 55) (2 * (rsA A).length) (jn (sz t)))).1 53 m = jn (sz u) := us
  rw [e6a, ald_n (n := 24) rfl (by omega) (by omega), oB_s, us2, jn_mul, jn_add, ast_n (n := 24) rfl (by omega) (by omega), oB_s, sI_sI, sI_k]
  have key : ∀ q k M', k + q = 40 → M'.1 52 = M.1 52 → M'.1 54 = M.1 54 → ∃ M2, E_107 (d + 5) (141, [some (.ref 52), some (.int (jn n)), some (.int (jn m)), some (.int (vb (en t))), some (.int (jn k))], [], M') = rI (jn (rsA A).length) (sI M2 52 (va_up (M.1 52) 3 (jn ((rsA A).length + 1)))) ∧ Fr [56] M' M2 ∧ (∀ i, (i < 80 * (rsA A).length ∨ 80 * (rsA A).length + 80 ≤ i) → M2.1 56 i = M'.1 56 i) ∧ (∀ i, i < k → M2.1 56 (80 * (rsA A).length + i) = M'.1 56 (80 * (rsA A).length + i) ∧ M2.1 56 (80 * (rsA A).length + 40 + i) = M'.1 56 (80 * (rsA A).length + 40 + i)) ∧ ∀ i, k ≤ i → i < 40 → M2.1 56 (80 * (rsA A).length + i) = M.1 54 (40 * n + i) ∧ M2.1 56 (80 * (rsA A).length + 40 + i) = M.1 54 (40 * m + i) := by
    intro q
    induction q with
    | zero =>
      intro k M' hk h52 h54
      refine ⟨M', ?_, Fr.rf, fun _ _ => rfl, fun _ _ => ⟨rfl, rfl⟩, fun i h1 h2 => by omega⟩
      rw [h_107_141, ilt_neg (by omega) (by omega), wr_e, h52, e6, jn_add]
    | succ q ih =>
      intro k M' hk h52 h54
      obtain ⟨M2, f1, f2, f3, f4, f5⟩ := ih (k + 1) (sI M' 56 (va_up (va_up (M'.1 56) (80 * (rsA A).length + k) (M.1 54 (40 * n + k))) (80 * (rsA A).length + 40 + k) (M.1 54 (40 * m + k)))) (by omega) h52 h54
      refine ⟨M2, ?_, Fr.trans (Fr.sI (by decide)) f2, fun i hi => ?_, fun i hi => ?_, fun i h1 h2 => ?_⟩
      · have e56 : ∀ f, (sI M' 56 f).1 52 3 = jn (rsA A).length := fun f => by rw [sI_o _ _ (by omega), h52]; exact e6
        rw [h_107_141, ilt_pos (by omega) (by omega), jn_mul, jn_add, ald_n (n := 960) rfl (by omega) (by omega), oB_s, h52, e6, jn_mul, jn_add, ast_n (n := 960) rfl (by omega) (by omega), oB_s, e56, jn_mul, jn_add, ald_n (n := 960) rfl (by omega) (by omega), oB_s, jn_mul, jn_add, jn_add, ast_n (n := 960) rfl (by omega) (by omega), oB_s, sI_sI, sI_k, sI_o _ _ (by omega), h54, jn_add]
        exact f1
      · rw [f3 i hi, sI_k, up_at, if_neg (by omega), up_at, if_neg (by omega)]
      · obtain ⟨q1, q2⟩ := f4 i (by omega)
        rw [q1, q2, sI_k]
        simp only [up_at]
        rw [if_neg (by omega), if_neg (by omega), if_neg (by omega), if_neg (by omega)]
        exact ⟨rfl, rfl⟩
      · by_cases h3 : i = k
        · subst h3
          obtain ⟨q1, q2⟩ := f4 i (by omega)
          rw [q1, q2, sI_k]
          simp only [up_at]
          rw [if_neg (by omega), if_pos True.intro, if_pos True.intro]
          exact ⟨rfl, rfl⟩
        · exact f5 i (by omega) h2
  obtain ⟨M2, f1, f2, f3, -, f5⟩ := key 40 0 (sI M 55 (va_up (va_up (M.1 55) (2 * (rsA A).length) (jn (sz t))) (2 * (rsA A).length + 1) (jn (sz u)))) (by omega) rfl rfl
  have hf : Fr [52, 55, 56] M (sI M2 52 (va_up (M.1 52) 3 (jn ((rsA A).length + 1)))) := ((Fr.sI (by decide)).trans (f2.mono (by decide))).trans (Fr.sI (by decide))
  refine ⟨_, f1, setK_m h ?_ (hf.mono (by decide)) (fun j hj => ?_), Lo.fr hf (by decide)⟩
  · obtain ⟨⟨⟨a1, a2, a3, a4, a5⟩, a6, a7, a8⟩, -⟩ := h
    have e : ∀ j, j ≠ 3 → (sI M2 52 (va_up (M.1 52) 3 (jn ((rsA A).length + 1)))).1 52 j = M.1 52 j := fun j hj => by rw [sI_k, up_at, if_neg hj]
    have s55 : (sI M2 52 (va_up (M.1 52) 3 (jn ((rsA A).length + 1)))).1 55 = va_up (va_up (M.1 55) (2 * (rsA A).length) (jn (sz t))) (2 * (rsA A).length + 1) (jn (sz u)) := by rw [sI_o _ _ (by omega), f2.1 55 (by decide), sI_k]
    have s56 : (sI M2 52 (va_up (M.1 52) 3 (jn ((rsA A).length + 1)))).1 56 = M2.1 56 := sI_o _ _ (by omega)
    refine ⟨⟨(e 0 (by omega)).trans a1, ?_, (e 6 (by omega)).trans a3, (e 11 (by omega)).trans a4, (e 12 (by omega)).trans a5⟩, fun i x hi => ?_, fun i r hi => ?_, fun i q hi => ?_⟩
    · refine Eq.trans (b := jn ((rsA A).length + 1)) ?_ (by simp)
      exact (congrFun (sI_k _ _ _) 3).trans (if_pos rfl)
    · exact a6 i x hi |> fun q => by
        have s53 : (sI M2 52 (va_up (M.1 52) 3 (jn ((rsA A).length + 1)))).1 53 = M.1 53 := hf.1 53 (by decide)
        have s54 : (sI M2 52 (va_up (M.1 52) 3 (jn ((rsA A).length + 1)))).1 54 = M.1 54 := hf.1 54 (by decide)
        show (sI M2 52 _).1 53 i = _ ∧ At ((sI M2 52 _).1 54) _ _
        rw [s53, s54]; exact q
    · show (sI M2 52 _).1 55 _ = _ ∧ (sI M2 52 _).1 55 _ = _ ∧ At ((sI M2 52 _).1 56) _ _ ∧ At ((sI M2 52 _).1 56) _ _
      rw [s55, s56]
      simp only [up_at]
      rcases app_get hi with ⟨h3, h4⟩ | ⟨h3, h4⟩
      · obtain ⟨w, h12⟩ := rl_ok hA h4
        have w1 := w.2.2.1
        have w2 := w.2.2.2.1
        obtain ⟨b1, b2, b3, b4⟩ := a7 i r h4
        rw [if_neg (by omega), if_neg (by omega), if_neg (by omega), if_neg (by omega)]
        exact ⟨b1, b2, AT_congr b3 (fun j q1 q2 => f3 j (by omega)), AT_congr b4 (fun j q1 q2 => f3 j (by omega))⟩
      · subst h4; subst h3
        rw [if_neg (by omega), if_pos rfl, if_pos rfl]
        refine ⟨rfl, rfl, ?_, ?_⟩
        · rw [At_sz] at ta ⊢
          intro j hj
          have hj : j < sz t := hj
          rw [ta j hj, (f5 j (by omega) (by omega)).1]
        · rw [At_sz] at ua ⊢
          intro j hj
          have hj : j < sz u := hj
          rw [ua j hj, (f5 j (by omega) (by omega)).2]
    · obtain ⟨b1, b2, b3⟩ := a8 i q hi
      exact ⟨(congrFun (hf.1 57 (by decide)) i).trans b1, (congrFun (hf.1 58 (by decide)) i).trans b2, (congrFun (hf.1 59 (by decide)) i).trans b3⟩
  · rw [sI_k, up_at, if_neg (by revert j hj; decide)]
end
