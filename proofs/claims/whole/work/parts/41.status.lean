/-! says, status, image, restore -/
section
variable {d : Nat} {A : AT} {M : PM} {a b c e f : Int32} {v : Int64}
theorem x_says (hd : 8 ≤ d) (hA : AOk A) (h : RX A M) : XI (pcl GG lay d 10 [.ref 0, .int a, .int b] M) M (F_says A a b) := by
  obtain ⟨d, rfl⟩ := ex_add hd
  rw [q_10, c_thr (by omega), kI_r]
  unfold F_says
  simp only [bI_0]
  by_cases h1 : thr a
  case neg => rw [if_pos h1, if_pos (Or.inl h1)]; exact x_ref (by omega) h (by omega)
  rw [if_neg (not_not_intro h1)]
  simp only [jlt (show 0 < 2147483648 by omega), jgt (show 4 < 2147483648 by omega)]
  by_cases h2 : 0 ≤ b.toInt ∧ b.toInt < 5
  case neg =>
    rw [if_pos (Or.inr h2)]
    by_cases h3 : b.toInt < 0
    · rw [if_pos (by omega)]; exact x_ref (by omega) h (by omega)
    · rw [if_neg (by omega), if_pos (by omega)]; exact x_ref (by omega) h (by omega)
  have hc : ¬ (¬ thr a ∨ ¬ (0 ≤ b.toInt ∧ b.toInt < 5)) := fun q => q.elim (fun q => q h1) (fun q => q h2)
  rw [if_neg (by omega), if_neg (by omega), if_neg hc]
  obtain ⟨s, hs, rfl⟩ := inn (n := 8) h1
  rw [jnN (by omega), c_isR (by omega) h hs, kI_r]
  simp only [bI_0]
  by_cases h3 : isR A s
  · rw [if_neg (not_not_intro h3), if_pos h3]; exact x_ref (by omega) h (by omega)
  rw [if_pos h3, if_neg h3, c_held (by omega) h hs, kI_r]
  rcases hel_lk hA hs h3 with ⟨e1, e2⟩ | ⟨n, q, hn, e1, hq, e2⟩
  · rw [e2, e1, if_pos rfl]; exact x_ref (by omega) h (by omega)
  obtain ⟨w, -⟩ := sg_ok hA hq
  obtain ⟨g1, g2, g3, g4⟩ := h.1.2.2.2 n q hq
  have g1 : M.1 2 n = jn q.1 := g1
  have g2 : M.1 3 n = q.2.1 := g2
  have g3 : M.1 4 n = q.2.2 := g3
  have g4 : M.1 5 n = jn (wt (ssA A) n) := g4
  have hk : q.1 < 14 := by have := w.1; omega
  rw [e2, e1, ieq_z (by omega) (by omega), c_kind (by omega) (by omega), kI_r, g1, c_such (by omega) hk h2, kI_r, c_one (by omega) (by omega)]
  simp only [kI_r]
  rw [c_two (by omega) (by omega), c_weight (by omega) (by omega)]
  simp only [kI_r]
  rw [g2, g3, g4]
  try simp only
  by_cases h4 : such q.1 b
  case neg => rw [@bI_n _ (Classical.propDecidable _) h4, ieq_pos rfl, if_pos h4]; exact x_ref (by omega) h (by omega)
  rw [@bI_1 _ (Classical.propDecidable _) h4, ieq_neg (by omega) (by omega) (by omega), if_neg (not_not_intro h4)]
  refine ⟨M, ?_, h, Hi.rf⟩
  rw [jnN (by omega)]
  obtain ⟨m, hm, rfl⟩ := inn (n := 5) h2
  by_cases n0 : m = 0
  · subst n0; rw [ieq_pos rfl, ieq_pos rfl]
  rw [ieq_neg n0 (by omega) (by omega), ieq_neg n0 (by omega) (by omega)]
  by_cases n1 : m = 1
  · subst n1
    rw [ieq_pos rfl, ieq_pos rfl]
    by_cases k0 : q.1 = 0
    · rw [ieq_pos k0, if_pos k0]
    rw [ieq_neg k0 (by omega) (by omega), if_neg k0]
    by_cases k1 : q.1 = 1
    · rw [ieq_pos k1, if_pos k1]
    rw [ieq_neg k1 (by omega) (by omega), if_neg k1]
  rw [ieq_neg n1 (by omega) (by omega), ieq_neg n1 (by omega) (by omega)]
  by_cases n2 : m = 2
  · subst n2; rw [ieq_pos rfl, ieq_pos rfl]
  rw [ieq_neg n2 (by omega) (by omega), ieq_neg n2 (by omega) (by omega)]
  by_cases n3 : m = 3
  · subst n3; rw [ieq_pos rfl, ieq_pos rfl]
  rw [ieq_neg n3 (by omega) (by omega), ieq_neg n3 (by omega) (by omega)]
theorem d_weight (hd : 2 ≤ d) (hA : AOk A) (h : RM A M) {n : Nat} (hn : n < (ssA A).length) : ∃ g, pcl GG lay d 88 [.ref 52, .int (jn n)] M = rI (jn (wt (ssA A) n)) (sI M 60 g) := by
  obtain ⟨d, rfl⟩ := ex_add hd
  have hl : (ssA A).length ≤ 24 := hA.1.2.2.1.1
  rw [q_88]
  have key : ∀ m k g u3, k + m = n + 1 → (∀ i, i < k → g i = jn (wt (ssA A) i)) → ∃ g', E_88 (d + 1) (2, [some (.ref 52), some (.int (jn n)), some (.int (jn k)), u3], [], sI M 60 g) = rI (jn (wt (ssA A) n)) (sI M 60 g') := by
    intro m
    induction m with
    | zero =>
      intro k g u3 hk hg
      refine ⟨g, ?_⟩
      rw [h_88_2, ilt_pos (by omega) (by omega), ald_n (n := 24) rfl (by omega) (by omega), oB_s, sI_k, hg n (by omega)]
    | succ m ih =>
      intro k g u3 hk hg
      have hq : (ssA A)[k]? = some (ssA A)[k] := by simp [show k < (ssA A).length by omega]
      obtain ⟨w, h24⟩ := sg_ok hA hq
      obtain ⟨g1, g2, g3⟩ := h.1.2.2.2 k _ hq
      generalize (ssA A)[k] = q at hq w g1 g2 g3
      obtain ⟨kk, x, y⟩ := q
      obtain ⟨w1, w2, w3, w4, w5⟩ := w
      simp only at w1 w2 w3 w4 w5
      have a1 : (sI M 60 g).1 57 k = jn kk := g1
      have a2 : (sI M 60 g).1 58 k = x := g2
      have a3 : (sI M 60 g).1 59 k = y := g3
      have a4 : ∀ i, (sI M 60 g).1 60 i = g i := fun i => congrFun (sI_k _ _ _) i
      have we := wt_eq hA.1.2.2.1.2 hq (by show (ssA A).length < 1000; omega)
      have nxt : ∀ u, ∃ g', E_88 (d + 1) (2, [some (.ref 52), some (.int (jn n)), some (.int (jn (k + 1))), u], [], sI M 60 (va_up g k (jn (wt (ssA A) k)))) = rI (jn (wt (ssA A) n)) (sI M 60 g') := fun u =>
        ih (k + 1) _ u (by omega) (fun i hi => by
          rw [up_at]
          by_cases e : i = k
          · rw [if_pos e, e]
          · rw [if_neg e]; exact hg i (by omega))
      have fin : ∀ W, wt (ssA A) k = min 1000 W → W < 5000 → ∀ u, ∃ g', (kI (pcl GG lay (d + 1) 2 [.int (jn 1000), .int (jn W)] (sI M 60 g)) fun r M5 => oB (astI lay M5 60 (jn k) r) fun M6 => E_88 (d + 1) (2, [some (.ref 52), some (.int (jn n)), some (.int (jn k + jn 1)), u], [], M6)) = rI (jn (wt (ssA A) n)) (sI M 60 g') := by
        intro W hW hlt u
        obtain ⟨g', e⟩ := nxt u
        refine ⟨g', ?_⟩
        rw [min_j' (by omega) (by omega), kI_r, ast_n (n := 24) rfl (by omega) (by omega), oB_s, sI_sI, sI_k, jn_add, ← hW, e]
      rw [h_88_2, ilt_neg (by omega) (by omega), ald_n (n := 24) rfl (by omega) (by omega), oB_s, a1, ald_n (n := 24) rfl (by omega) (by omega), a2, ald_n (n := 24) rfl (by omega) (by omega), a3]
      simp only [oB_s]
      by_cases h2 : 2 < kk
      · obtain ⟨s, hs, rfl⟩ := w4 h2
        rw [ilt_pos h2 (by omega), ald_n (n := 24) rfl (by omega) (by omega), oB_s, a4, hg s hs]
        rw [if_pos h2, jnN (by omega)] at we
        have l1 := wt_le (ssA A) s
        by_cases h5 : kk = 3 ∨ kk = 4
        · rw [if_pos h5] at w5
          obtain ⟨t, ht, rfl⟩ := w5
          rw [if_neg (by rw [jn_jz (by omega) (by omega)]; exact id), jnN (by omega)] at we
          rw [ieq_z (by omega) (by omega), ald_n (n := 24) rfl (by omega) (by omega), oB_s, a4, hg t ht, jn_add, jn_add]
          have l2 := wt_le (ssA A) t
          exact fin (1 + wt (ssA A) s + wt (ssA A) t) we (by omega) _
        · rw [if_neg h5] at w5
          subst w5
          rw [if_pos rfl] at we
          rw [if_pos rfl, jn_add, jn_add]
          exact fin (1 + wt (ssA A) s + 0) we (by omega) _
      · rw [if_neg (by omega)] at w5
        subst w5
        rw [if_neg h2, if_pos rfl] at we
        rw [ilt_neg (by omega) (by omega), if_pos rfl, jn_add, jn_add]
        exact fin _ we (by omega) _
  obtain ⟨g', e⟩ := key (n + 1) 0 (M.1 60) none (by omega) (fun i hi => by omega)
  rw [sI_self] at e
  exact ⟨g', e⟩
theorem m_says (hd : 8 ≤ d) (hA : AOk A) (h : RM A M) : MI (pcl GG lay d 89 [.ref 52, .int a, .int b] M) M (F_says A a b) := by
  obtain ⟨d, rfl⟩ := ex_add hd
  rw [q_89, thr_m (by omega), kI_r, c_within_n (by omega) (by omega) (by omega), kI_r]
  unfold F_says
  simp only [bI_0]
  by_cases h1 : thr a
  case neg => rw [if_pos h1, if_pos (Or.inl h1)]; exact m_ref (by omega) h (by omega)
  rw [if_neg (not_not_intro h1)]
  by_cases h2 : 0 ≤ b.toInt ∧ b.toInt < 5
  case neg => rw [if_pos (Or.inr h2), if_pos (by omega)]; exact m_ref (by omega) h (by omega)
  have hc : ¬ (¬ thr a ∨ ¬ (0 ≤ b.toInt ∧ b.toInt < 5)) := fun q => q.elim (fun q => q h1) (fun q => q h2)
  rw [if_neg (by omega), if_neg hc]
  obtain ⟨s, hs, rfl⟩ := inn (n := 8) h1
  rw [jnN (by omega), d_hel h hs, oB_s, d_isR (by omega) h hs, kI_r]
  simp (disch := omega) only [bI_0, jlt]
  by_cases h3 : isR A s
  · rw [if_neg (by omega), if_neg (not_not_intro h3), if_pos h3]; exact m_ref (by omega) h (by omega)
  rw [if_pos h3, if_neg h3]
  rcases hel_lk hA hs h3 with ⟨e1, e2⟩ | ⟨n, q, hn, e1, hq, e2⟩
  · rw [e2, e1, jz_toInt (by omega), if_pos (by omega), if_pos (by omega)]; exact m_ref (by omega) h (by omega)
  obtain ⟨w, -⟩ := sg_ok hA hq
  obtain ⟨g1, g2, g3⟩ := d_sg h hq hn
  have hk : q.1 < 14 := by have := w.1; omega
  have hn2 : n < (ssA A).length := (List.getElem?_eq_some_iff.mp hq).1
  rw [e2, e1, jn_toInt (by omega), if_neg (by omega), g1, oB_s, d_such (by omega) hk h2, kI_r]
  try simp only
  by_cases h4 : such q.1 b
  case neg => rw [@bI_n _ (Classical.propDecidable _) h4, ieq_pos rfl, if_pos h4]; exact m_ref (by omega) h (by omega)
  rw [@bI_1 _ (Classical.propDecidable _) h4, ieq_neg (by omega) (by omega) (by omega), if_neg (not_not_intro h4), if_neg (show ¬ ((n : Nat) : Int) < ((0 : Nat) : Int) by omega), g1, g2]
  simp only [oB_s]
  rw [g3]
  simp only [oB_s]
  obtain ⟨m, hm, rfl⟩ := inn (n := 5) h2
  by_cases n0 : m = 0
  · subst n0; rw [ieq_pos rfl, ieq_pos rfl]; exact ⟨M, rfl, h, Lo.rf⟩
  rw [ieq_neg n0 (by omega) (by omega), ieq_neg n0 (by omega) (by omega)]
  by_cases n1 : m = 1
  · subst n1
    rw [ieq_pos rfl, ieq_pos rfl]
    by_cases k0 : q.1 = 0
    · rw [ieq_pos k0, if_pos k0]; exact ⟨M, rfl, h, Lo.rf⟩
    rw [ieq_neg k0 (by omega) (by omega), if_neg k0]
    by_cases k1 : q.1 = 1
    · rw [ieq_pos k1, if_pos k1]; exact ⟨M, rfl, h, Lo.rf⟩
    rw [ieq_neg k1 (by omega) (by omega), if_neg k1]; exact ⟨M, rfl, h, Lo.rf⟩
  rw [ieq_neg n1 (by omega) (by omega), ieq_neg n1 (by omega) (by omega)]
  by_cases n2 : m = 2
  · subst n2; rw [ieq_pos rfl, ieq_pos rfl]; exact ⟨M, rfl, h, Lo.rf⟩
  rw [ieq_neg n2 (by omega) (by omega), ieq_neg n2 (by omega) (by omega)]
  by_cases n3 : m = 3
  · subst n3; rw [ieq_pos rfl, ieq_pos rfl]; exact ⟨M, rfl, h, Lo.rf⟩
  rw [ieq_neg n3 (by omega) (by omega), ieq_neg n3 (by omega) (by omega)]
  obtain ⟨g, e⟩ := d_weight (d := d + 7) (by omega) hA h hn2
  rw [e, kI_r]
  exact ⟨_, rfl, RM_sc h (Fr.sI (by decide)) (fun j hj => rfl), Lo.fr (S := [60]) (Fr.sI (by decide)) (by decide)⟩
/-! status -/
theorem allN_le : ∀ (l : List Tm), (∀ t ∈ l, sz t ≤ 40) → allN l ≤ 40 * l.length := by
  intro l
  induction l with
  | nil => intro _; simp [allN]
  | cons t l ih =>
    intro h
    have h1 := h t List.mem_cons_self
    have h2 := ih (fun u hu => h u (List.mem_cons_of_mem _ hu))
    have e : allN (t :: l) = sz t + allN l := by simp [allN]
    rw [e, List.length_cons]; omega
theorem allN_take {l : List Tm} {k : Nat} {t : Tm} (h : l[k]? = some t) : allN (l.take (k + 1)) = allN (l.take k) + sz t := by
  rw [List.take_add_one, h]
  simp [allN]
theorem c_allN (hd : 5 ≤ d) (hA : AOk A) (h : RX A M) : pcl GG lay d 55 [.ref 0] M = rI (jn (allN (tsA A))) M := by
  obtain ⟨d, rfl⟩ := ex_add hd
  have hl : (tsA A).length ≤ 24 := hA.1.1.1
  have e5 : M.1 1 5 = jn (tsA A).length := h.1.1.1
  rw [q_55]
  have key : ∀ m k, k + m = (tsA A).length → E_55 (d + 4) (4, [some (.ref 0), some (.int (jn (allN ((tsA A).take k)))), some (.int (jn k))], [], M) = rI (jn (allN (tsA A))) M := by
    intro m
    induction m with
    | zero =>
      intro k hk
      rw [h_55_4, e5, ilt_neg (by omega) (by omega), List.take_of_length_le (by omega)]
    | succ m ih =>
      intro k hk
      have hq : (tsA A)[k]? = some (tsA A)[k] := by simp [show k < (tsA A).length by omega]
      obtain ⟨w1, w2, w3⟩ := tm_ok hA hq
      have hat := h.1.2.1 k _ hq
      rw [h_55_4, e5, ilt_pos (by omega) (by omega), c_tp (by omega), kI_r, c_sizeAt (by omega) w1 hat (by omega), kI_r, jn_add, jn_add, ← allN_take hq]
      exact ih (k + 1) (by omega)
  have := key (tsA A).length 0 (by omega)
  rwa [show allN (List.take 0 (tsA A)) = 0 by simp [allN]] at this
theorem d_allN (hd : 1 ≤ d) (hA : AOk A) (h : RM A M) : pcl GG lay d 178 [.ref 52] M = rI (jn (allN (tsA A))) M := by
  obtain ⟨d, rfl⟩ := ex_add hd
  have hl : (tsA A).length ≤ 24 := hA.1.1.1
  have e5 : M.1 52 0 = jn (tsA A).length := h.1.1.1
  rw [q_178]
  have key : ∀ m k, k + m = (tsA A).length → E_178 d (4, [some (.ref 52), some (.int (jn (allN ((tsA A).take k)))), some (.int (jn k))], [], M) = rI (jn (allN (tsA A))) M := by
    intro m
    induction m with
    | zero =>
      intro k hk
      rw [h_178_4, e5, ilt_neg (by omega) (by omega), List.take_of_length_le (by omega)]
    | succ m ih =>
      intro k hk
      have hq : (tsA A)[k]? = some (tsA A)[k] := by simp [show k < (tsA A).length by omega]
      have hs : M.1 53 k = jn (sz (tsA A)[k]) := (h.1.2.1 k _ hq).1
      rw [h_178_4, e5, ilt_pos (by omega) (by omega), ald_n (n := 24) rfl (by omega) (by omega), oB_s, hs, jn_add, jn_add, ← allN_take hq]
      exact ih (k + 1) (by omega)
  have := key (tsA A).length 0 (by omega)
  rwa [show allN (List.take 0 (tsA A)) = 0 by simp [allN]] at this
theorem x_status (hd : 6 ≤ d) (hA : AOk A) (h : RX A M) : XI (pcl GG lay d 54 [.ref 0, .int a] M) M (F_status A a) := by
  obtain ⟨d, rfl⟩ := ex_add hd
  refine ⟨M, ?_, h, Hi.rf⟩
  have e5 : M.1 1 5 = jn (tsA A).length := h.1.1.1
  have e6 : M.1 1 6 = jn (rsA A).length := h.1.1.2.1
  have e7 : M.1 1 7 = jn (ssA A).length := h.1.1.2.2.1
  have e8 : M.1 1 8 = jn (cmA A) := h.1.1.2.2.2.1
  have e9 : M.1 1 9 = sdA A := h.1.1.2.2.2.2
  have et : M.1 48 2 = jn A.2.2.1.length := h.2.2.1.1
  rw [q_54, e5, e6, e7, e8, e9, et, c_allN (by omega) hA h, kI_r]
  unfold F_status
  by_cases n0 : a = jn 0
  · rw [if_pos n0, if_pos n0]
  rw [if_neg n0, if_neg n0]
  by_cases n1 : a = jn 1
  · rw [if_pos n1, if_pos n1]
  rw [if_neg n1, if_neg n1]
  by_cases n2 : a = jn 2
  · rw [if_pos n2, if_pos n2]
  rw [if_neg n2, if_neg n2]
  by_cases n3 : a = jn 3
  · rw [if_pos n3, if_pos n3]
  rw [if_neg n3, if_neg n3]
  by_cases n4 : a = jn 4
  · rw [if_pos n4, if_pos n4]
  rw [if_neg n4, if_neg n4]
  by_cases n5 : a = jn 5
  · rw [if_pos n5, if_pos n5]
  rw [if_neg n5, if_neg n5]
  by_cases n6 : a = jn 6
  · rw [if_pos n6, if_pos n6]
  rw [if_neg n6, if_neg n6]
  simp (disch := omega) only [jgt]
  by_cases h1 : 10 < a.toInt ∧ a.toInt < 18
  · rw [if_pos (by omega), if_neg (by omega), if_pos h1]
    obtain ⟨n, hn, rfl⟩ := inn (a := a) (n := 18) (by omega)
    rw [jn_toInt (by omega)] at h1
    rw [jn_sub (by omega), c_get (n := 8) (by omega) rfl (by omega) (by omega), kI_r, jnN (by omega), h.2.2.2.2.2 _ (by omega)]
  · rw [if_neg h1]
    by_cases h2 : 10 < a.toInt
    · rw [if_pos (by omega), if_pos (by omega)]
    · rw [if_neg (by omega)]
theorem m_status (hd : 6 ≤ d) (hA : AOk A) (h : RM A M) : MI (pcl GG lay d 179 [.ref 52, .int a] M) M (F_status A a) := by
  obtain ⟨d, rfl⟩ := ex_add hd
  refine ⟨M, ?_, h, Lo.rf⟩
  have e5 : M.1 52 0 = jn (tsA A).length := h.1.1.1
  have e6 : M.1 52 3 = jn (rsA A).length := h.1.1.2.1
  have e7 : M.1 52 6 = jn (ssA A).length := h.1.1.2.2.1
  have e8 : M.1 52 11 = jn (cmA A) := h.1.1.2.2.2.1
  have e9 : M.1 52 12 = sdA A := h.1.1.2.2.2.2
  have et : M.1 52 35 = jn A.2.2.1.length := h.2.2.1.1
  rw [q_179, c_within_n (by omega) (by omega) (by omega), kI_r, e5, e6, e7, e8, e9, et, d_allN (by omega) hA h, kI_r]
  unfold F_status
  simp only [bI_0]
  by_cases h1 : 10 < a.toInt ∧ a.toInt < 18
  · rw [if_neg (by omega)]
    obtain ⟨n, hn, rfl⟩ := inn (a := a) (n := 18) (by omega)
    have h2 := h1
    rw [jn_toInt (by omega)] at h2
    rw [ieq_neg (by omega) (by omega) (by omega), ieq_neg (by omega) (by omega) (by omega), ieq_neg (by omega) (by omega) (by omega), ieq_neg (by omega) (by omega) (by omega), ieq_neg (by omega) (by omega) (by omega), ieq_neg (by omega) (by omega) (by omega), ieq_neg (by omega) (by omega) (by omega), if_pos h1, jn_sub (by omega), ald_n (n := 8) rfl (by omega) (by omega), oB_s, jnN (by omega), h.2.2.2.2.2 _ (by omega)]
  rw [if_pos (by omega), if_neg h1]
  by_cases n0 : a = jn 0
  · rw [if_pos n0, if_pos n0]
  rw [if_neg n0, if_neg n0]
  by_cases n1 : a = jn 1
  · rw [if_pos n1, if_pos n1]
  rw [if_neg n1, if_neg n1]
  by_cases n2 : a = jn 2
  · rw [if_pos n2, if_pos n2]
  rw [if_neg n2, if_neg n2]
  by_cases n3 : a = jn 3
  · rw [if_pos n3, if_pos n3]
  rw [if_neg n3, if_neg n3]
  by_cases n4 : a = jn 4
  · rw [if_pos n4, if_pos n4]
  rw [if_neg n4, if_neg n4]
  by_cases n5 : a = jn 5
  · rw [if_pos n5, if_pos n5]
  rw [if_neg n5, if_neg n5]
  by_cases n6 : a = jn 6
  · rw [if_pos n6, if_pos n6]
  rw [if_neg n6, if_neg n6]
end
