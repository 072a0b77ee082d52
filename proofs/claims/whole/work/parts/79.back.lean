/-! the model's run: back to what was kept -/
section
variable {d : Nat} {A : AT} {M : PM} {a b c e f : Int32} {v : Int64}
theorem c_unkept {i K L : Nat} {t : Tm} (hd : 1 ≤ d) (h33 : M.1 52 33 = jn (K + sz t + 2)) (hs : M.1 72 (K + sz t) = jn (sz t)) (_hl : M.1 72 (K + sz t + 1) = jn L) (hK : K + sz t + 2 ≤ 130000) : pcl GG lay d 131 [.ref 52, .int (jn i), .int (jn 0)] M = rV (sI M 52 (va_up (M.1 52) 33 (jn K))) := by
  obtain ⟨d, rfl⟩ := ex_add hd
  rw [q_131, h33, jn_sub (by omega), Nat.add_sub_cancel, ald_n (n := 130000) rfl (by omega) (by omega), oB_s, jn_sub (by omega), show K + sz t + 2 - 1 = K + sz t + 1 by omega, ald_n (n := 130000) rfl (by omega) (by omega), oB_s, wr_e, hs, jn_add, jn_sub (by omega), show K + sz t + 2 - (sz t + 2) = K by omega, ieq_pos rfl]
/-- putting back: the node's tree is what it was, the trail as long as it was -/
theorem c_undo {i K L : Nat} {t T : Tm} (hd : 6 ≤ d) (h33 : M.1 52 33 = jn (K + sz t + 2)) (hat : At (M.1 72) K (en t)) (hs : M.1 72 (K + sz t) = jn (sz t)) (hl : M.1 72 (K + sz t + 1) = jn L) (hK : K + sz t + 2 ≤ 130000) (h19 : M.1 52 19 = jn (sz T)) (hT : wf T) (hTa : At (M.1 65) 0 (en T)) (hi : i < sz T) (hbig : sz T + sz t ≤ 8100) :
    ∃ M', pcl GG lay d 131 [.ref 52, .int (jn i), .int (jn 1)] M = rV M' ∧ Fr [52, 65] M M' ∧ M'.1 52 = va_up (va_up (va_up (M.1 52) 33 (jn K)) 19 (jn (sz (rep T i t)))) 30 (jn L) ∧ At (M'.1 65) 0 (en (rep T i t)) := by
  obtain ⟨d, rfl⟩ := ex_add hd
  rw [q_131, h33, jn_sub (by omega), Nat.add_sub_cancel, ald_n (n := 130000) rfl (by omega) (by omega), oB_s, jn_sub (by omega), show K + sz t + 2 - 1 = K + sz t + 1 by omega, ald_n (n := 130000) rfl (by omega) (by omega), oB_s, wr_e, hs, hl, jn_add, jn_sub (by omega), show K + sz t + 2 - (sz t + 2) = K by omega, ieq_neg (by omega) (by omega) (by omega)]
  have e33 : (sI M 52 (va_up (M.1 52) 33 (jn K))).1 52 33 = jn K := by rw [sI_k, up_at, if_pos rfl]
  have e19 : (sI M 52 (va_up (M.1 52) 33 (jn K))).1 52 19 = jn (sz T) := by rw [sI_k, up_at, if_neg (by omega)]; exact h19
  obtain ⟨M', f1, f2, f3, f4⟩ := c_becomes (d := d + 5) (M := sI M 52 (va_up (M.1 52) 33 (jn K))) (x := 72) (p := K) (i := i) (nx := 130000) (t := T) (s := t) (by omega) rfl (by omega) (by omega) e19 hT hTa hi hat (by omega) hbig
  rw [e33, f1, kV_r, wr_e]
  refine ⟨_, rfl, ((Fr.sI (by decide)).trans f2).trans (Fr.sI (by decide)), ?_, ?_⟩
  · rw [sI_k, f3, sI_k]
  · rw [sI_o _ _ (by omega)]; exact f4
end
