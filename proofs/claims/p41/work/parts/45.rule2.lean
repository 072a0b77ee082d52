/-! rule, both sides -/
section
variable {d : Nat} {A : AT} {M : PM} {a b c e f : Int32} {v : Int64}
theorem sgn0 {g : Nat → Int32} {p : Nat} {t : Tm} (ht : wf t) (h : At g p (en t)) : g p = sgn t 0 := by
  have := sgn_at h (sz_pos t ht)
  rwa [Nat.add_zero] at this
theorem x_rule (hd : 6 ≤ d) (hA : AOk A) (h : RX A M) : XI (pcl GG lay d 20 [.ref 0, .int a, .int b] M) M (F_rule A a b) := by
  obtain ⟨d, rfl⟩ := ex_add hd
  have hl : (rsA A).length ≤ 12 := hA.1.2.1.1
  have e6 : M.1 1 6 = jn (rsA A).length := h.1.1.2.1
  rw [q_20, c_hasT (by omega) hA h, kI_r, c_hasT (by omega) hA h, kI_r]
  simp only [bI_0]
  unfold F_rule
  by_cases h1 : 0 ≤ a.toInt ∧ a.toInt < ((tsA A).length : Nat)
  case neg => rw [if_pos h1, lk_none h1]; exact x_ref (by omega) h (by omega)
  rw [if_neg (not_not_intro h1)]
  by_cases h2 : 0 ≤ b.toInt ∧ b.toInt < ((tsA A).length : Nat)
  case neg =>
    rw [if_pos h2, lk_none h2]
    obtain ⟨n, t, -, -, -, e1⟩ := lk_some h1
    rw [e1]; exact x_ref (by omega) h (by omega)
  rw [if_neg (not_not_intro h2)]
  obtain ⟨n, t, rfl, hn, ht, lt⟩ := lk_some h1
  obtain ⟨m, u, rfl, hm, hu, lu⟩ := lk_some h2
  obtain ⟨w1, w2, w3⟩ := tm_ok hA ht
  obtain ⟨v1, v2, v3⟩ := tm_ok hA hu
  have ta := h.1.2.1 n t ht
  have ua := h.1.2.1 m u hu
  rw [c_tp (by omega), kI_r, c_vars (by omega) v1 ua (by omega), kI_r, c_tp (by omega), kI_r, c_vars (by omega) w1 ta (by omega), kI_r, c_tp (by omega), kI_r, c_at (by omega) (by omega), kI_r, c_isV (by omega), kI_r, lt, lu, e6, sgn0 w1 ta]
  simp only [bI_0]
  by_cases g1 : isV (sgn t 0)
  · rw [if_neg (not_not_intro g1), if_pos (Or.inl g1)]; exact x_ref (by omega) h (by omega)
  rw [if_pos g1]
  by_cases g2 : vb (en u) &&& (vb (en t) ^^^ jz 1) = jn 0
  case neg => rw [if_neg g2, if_pos (Or.inr g2)]; exact x_ref (by omega) h (by omega)
  have hno : ¬ (isV (sgn t 0) ∨ vb (en u) &&& (vb (en t) ^^^ jz 1) ≠ jn 0) := by
    rintro (q | q)
    · exact g1 q
    · exact q g2
  rw [if_pos g2, if_neg hno]
  by_cases g3 : 12 ≤ (rsA A).length
  · rw [if_pos g3, ilt_neg (by omega) (by omega)]; exact x_ref (by omega) h (by omega)
  rw [if_neg g3, ilt_pos (by omega) (by omega), c_tp (by omega), kI_r, c_tp (by omega), kI_r, q_244, e6, c_lp (by omega), kI_r, c_append (by omega) w1 ta (by omega) (by omega) (by omega), kI_r]
  have e6a : (sI M 7 (cp (M.1 7) (M.1 7) (40 * n) (960 + 40 * (rsA A).length) (sz t))).1 1 6 = jn (rsA A).length := e6
  have ua2 : At ((sI M 7 (cp (M.1 7) (M.1 7) (40 * n) (960 + 40 * (rsA A).length) (sz t))).1 7) (40 * m) (en u) := by
    rw [sI_k]; exact AT_cp_out ua (by omega)
  rw [e6a, c_rp (by omega), kI_r, c_append (by omega) v1 ua2 (by omega) (by omega) (by omega), kI_r, wr_e, sI_sI, sI_k]
  have e6b : ∀ f, (sI M 7 f).1 1 6 = jn (rsA A).length := fun f => e6
  rw [e6b, jn_add, sI_k, up_at, if_pos rfl, jn_sub (by omega), Nat.add_sub_cancel, kI_r]
  have hf : ∀ f g, Fr [1, 7] M (sI (sI M 7 f) 1 g) := fun f g => (Fr.sI (by decide)).trans (Fr.sI (by decide))
  refine ⟨_, rfl, setK_x h ?_ ((hf _ _).mono (by decide)), Hi.fr (hf _ _) (by decide)⟩
  obtain ⟨⟨⟨a1, a2, a3, a4, a5⟩, a6, a7, a8⟩, -⟩ := h
  have lowT : ∀ i, i < 1920 → (i < 960 + 40 * (rsA A).length ∨ 960 + 40 * (rsA A).length + 40 ≤ i) → (i < 1440 + 40 * (rsA A).length ∨ 1440 + 40 * (rsA A).length + 40 ≤ i) → cp (cp (M.1 7) (M.1 7) (40 * n) (960 + 40 * (rsA A).length) (sz t)) (cp (M.1 7) (M.1 7) (40 * n) (960 + 40 * (rsA A).length) (sz t)) (40 * m) (1440 + 40 * (rsA A).length) (sz u) i = M.1 7 i := by
    intro i h1 h2 h3
    rw [cp_out (by omega), cp_out (by omega)]
  refine ⟨⟨a1, ?_, a3, a4, a5⟩, fun i x hi => ?_, fun i r hi => ?_, fun i q hi => a8 i q hi⟩
  · rw [sI_k, up_at, if_pos rfl]; simp
  · obtain ⟨-, x2, x3⟩ := tm_ok hA hi
    rw [sI_o _ _ (by omega), sI_k]
    exact AT_congr (a6 i x hi) (fun j q1 q2 => lowT j (by omega) (by omega) (by omega))
  · rw [sI_o _ _ (by omega), sI_k]
    rcases app_get hi with ⟨h3, h4⟩ | ⟨h3, h4⟩
    · obtain ⟨w, h12⟩ := rl_ok hA h4
      have w1 := w.2.2.1
      have w2 := w.2.2.2.1
      exact ⟨AT_congr (a7 i r h4).1 (fun j q1 q2 => lowT j (by omega) (by omega) (by omega)), AT_congr (a7 i r h4).2 (fun j q1 q2 => lowT j (by omega) (by omega) (by omega))⟩
    · subst h4; subst h3
      show At _ _ (en t) ∧ At _ _ (en u)
      refine ⟨AT_cp_out (AT_cp ta (by omega)) (by omega), AT_cp ?_ (by omega)⟩
      rw [sI_k] at ua2
      exact ua2
end
