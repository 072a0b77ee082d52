/-! the model's run: what it keeps and what it puts back -/
section
variable {d : Nat} {A : AT} {M : PM} {a b c e f : Int32} {v : Int64}
theorem c_gone (hd : 1 ≤ d) : pcl GG lay d 125 [.ref 52] M = rI (jn 0) (sI M 52 (va_up (M.1 52) 27 (jn 1))) := by
  obtain ⟨d, rfl⟩ := ex_add hd
  rw [q_125, wr_e, rZ_0]
theorem c_begin {n : Nat} (hd : 2 ≤ d) (h : M.1 52 28 = jn n) (hn : n ≤ 600) : pcl GG lay d 139 [.ref 52] M = if n = 600 then rI (jn 0) (sI M 52 (va_up (M.1 52) 27 (jn 1))) else rI (jn 1) (sI M 52 (va_up (M.1 52) 28 (jn (n + 1)))) := by
  obtain ⟨d, rfl⟩ := ex_add hd
  rw [q_139, h]
  by_cases h6 : n = 600
  · rw [ieq_pos h6, if_pos h6, c_gone (by omega), kI_r, rZ_0]
  · rw [ieq_neg h6 (by omega) (by omega), if_neg h6, wr_e, jn_add, rZ_1]
/-- keep: a node's tree comes on the stack -/
theorem c_keep {i K L : Nat} {t : Tm} (hd : 5 ≤ d) (ht : wf t) (hat : At (M.1 65) i (en t)) (hi : i + sz t ≤ 8100) (h33 : M.1 52 33 = jn K) (h30 : M.1 52 30 = jn L) (hK : K + sz t + 2 ≤ 130000) :
    ∃ M', pcl GG lay d 130 [.ref 52, .int (jn i)] M = rV M' ∧ Fr [52, 72] M M' ∧ M'.1 52 = va_up (M.1 52) 33 (jn (K + sz t + 2)) ∧ At (M'.1 72) K (en t) ∧ M'.1 72 (K + sz t) = jn (sz t) ∧ M'.1 72 (K + sz t + 1) = jn L ∧ ∀ j, j < K → M'.1 72 j = M.1 72 j := by
  obtain ⟨d, rfl⟩ := ex_add hd
  rw [q_130, c_span (n := 8100) (by omega) rfl (by omega) ht hat hi, kI_r]
  have key : ∀ m k g, k + m = sz t → (∀ j, j < K → g j = M.1 72 j) → (∀ j, j < k → g (K + j) = M.1 65 (i + j)) → ∃ g', E_130 (d + 4) (11, [some (.ref 52), some (.int (jn i)), some (.int (jn (sz t))), some (.int (jn k))], [], sI M 72 g) = E_130 (d + 4) (11, [some (.ref 52), some (.int (jn i)), some (.int (jn (sz t))), some (.int (jn (sz t)))], [], sI M 72 g') ∧ (∀ j, j < K → g' j = M.1 72 j) ∧ (∀ j, j < sz t → g' (K + j) = M.1 65 (i + j)) := by
    intro m
    induction m with
    | zero =>
      intro k g hk h1 h2
      have : k = sz t := by omega
      subst this
      exact ⟨g, rfl, h1, h2⟩
    | succ m ih =>
      intro k g hk h1 h2
      have e33 : (sI M 72 g).1 52 33 = jn K := h33
      have e65 : (sI M 72 g).1 65 = M.1 65 := rfl
      rw [h_130_11, ilt_pos (by omega) (by omega), jn_add, ald_n (n := 8100) rfl (by omega) (by omega), oB_s, e33, jn_add, ast_n (n := 130000) rfl (by omega) (by omega), oB_s, sI_sI, sI_k, e65, jn_add]
      refine ih (k + 1) _ (by omega) (fun j hj => ?_) (fun j hj => ?_)
      · rw [up_at, if_neg (by omega)]; exact h1 j hj
      · rw [up_at]
        by_cases hjk : j = k
        · rw [if_pos (by omega), hjk]
        · rw [if_neg (by omega)]; exact h2 j (by omega)
  obtain ⟨g', e1, e2, e3⟩ := key (sz t) 0 (M.1 72) (by omega) (fun _ _ => rfl) (fun j hj => by omega)
  rw [sI_self] at e1
  have e33 : (sI M 72 g').1 52 33 = jn K := h33
  rw [e1, h_130_11, ilt_neg (by omega) (by omega), wr_e, e33, jn_add]
  have f33 : (sI (sI M 72 g') 52 (va_up ((sI M 72 g').1 52) 33 (jn (K + sz t)))).1 52 33 = jn (K + sz t) := by rw [sI_k, up_at, if_pos rfl]
  rw [f33, ast_n (n := 130000) rfl (by omega) (by omega), oB_s]
  generalize hM1 : sI (sI (sI M 72 g') 52 (va_up ((sI M 72 g').1 52) 33 (jn (K + sz t)))) 72 (va_up ((sI (sI M 72 g') 52 (va_up ((sI M 72 g').1 52) 33 (jn (K + sz t)))).1 72) (K + sz t) (jn (sz t))) = M1
  have m52 : M1.1 52 = va_up (M.1 52) 33 (jn (K + sz t)) := by rw [← hM1]; rfl
  have m72 : M1.1 72 = va_up g' (K + sz t) (jn (sz t)) := by rw [← hM1]; rfl
  have mfr : Fr [52, 72] M M1 := by rw [← hM1]; exact ((Fr.sI (by decide)).trans (Fr.sI (by decide))).trans (Fr.sI (by decide))
  have m33 : M1.1 52 33 = jn (K + sz t) := by rw [m52, up_at, if_pos rfl]
  have m30 : M1.1 52 30 = jn L := by rw [m52, up_at, if_neg (by omega)]; exact h30
  rw [m33, m30, jn_add, ast_n (n := 130000) rfl (by omega) (by omega), oB_s, wr_e]
  have n33 : (sI M1 72 (va_up (M1.1 72) (K + sz t + 1) (jn L))).1 52 33 = jn (K + sz t) := m33
  rw [n33, jn_add]
  refine ⟨_, rfl, (mfr.trans (Fr.sI (by decide))).trans (Fr.sI (by decide)), ?_, ?_, ?_, ?_, fun j hj => ?_⟩
  · rw [sI_k, sI_o _ _ (by omega), m52, va_up2]
  · rw [sI_o _ _ (by omega), sI_k, m72, At_sz]
    rw [At_sz] at hat
    intro j hj
    rw [up_at, if_neg (by omega), up_at, if_neg (by omega), e3 j hj]
    exact hat j hj
  · rw [sI_o _ _ (by omega), sI_k, m72, up_at, if_neg (by omega), up_at, if_pos rfl]
  · rw [sI_o _ _ (by omega), sI_k, up_at, if_pos rfl]
  · rw [sI_o _ _ (by omega), sI_k, m72, up_at, if_neg (by omega), up_at, if_neg (by omega)]
    exact e2 j hj
end
