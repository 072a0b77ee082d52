/-! judge by the system -/
section
variable {d dd : Nat} {A : AT} {M M' : PM} {a b c e f w : Int32} {v : Int64}
def jdR (A : AT) (a b c : Int32) : Nat := if ¬ thr a then 1 else if ¬ hsS A b then 1 else if noR A a ≠ 0 then noR A a else if c.toInt < 0 then 4 else if (siz A a.toInt.toNat : Int) < 2 * c.toInt then 5 else if ¬ (∀ i, i < 2 * c.toInt.toNat → hsT A (rowI A a.toInt.toNat i)) then 6 else 0
theorem F_judge_eq : F_judge A a b c = if jdR A a b c = 0 then (judF A a.toInt.toNat b c.toInt.toNat 0 0 0, A) else no10A A (jdR A a b c) := by
  unfold F_judge jdR
  by_cases h1 : thr a
  case neg => rw [if_pos h1, if_pos h1, if_neg (show ¬ (1 : Nat) = 0 by decide)]
  rw [if_neg (Classical.not_not.mpr h1), if_neg (Classical.not_not.mpr h1)]
  by_cases h2 : hsS A b
  case neg => rw [if_pos h2, if_pos h2, if_neg (show ¬ (1 : Nat) = 0 by decide)]
  rw [if_neg (Classical.not_not.mpr h2), if_neg (Classical.not_not.mpr h2)]
  by_cases h3 : noR A a = 0
  case neg => rw [if_pos h3, if_pos h3, if_neg h3]
  rw [if_neg (Classical.not_not.mpr h3), if_neg (Classical.not_not.mpr h3)]
  by_cases h4 : c.toInt < 0
  · rw [if_pos h4, if_pos h4, if_neg (show ¬ (4 : Nat) = 0 by decide)]
  rw [if_neg h4, if_neg h4]
  by_cases h5 : (siz A a.toInt.toNat : Int) < 2 * c.toInt
  · rw [if_pos h5, if_pos h5, if_neg (show ¬ (5 : Nat) = 0 by decide)]
  rw [if_neg h5, if_neg h5]
  by_cases h6 : ∀ i, i < 2 * c.toInt.toNat → hsT A (rowI A a.toInt.toNat i)
  · rw [if_neg (Classical.not_not.mpr h6), if_neg (Classical.not_not.mpr h6), if_pos rfl]
  · rw [if_pos h6, if_pos h6, if_neg (show ¬ (6 : Nat) = 0 by decide)]
theorem jdR_lt : jdR A a b c < 8 := by
  unfold jdR
  have := noR_lt A a
  repeat' split
  all_goals omega
theorem x_int {s i : Nat} (hd : 6 ≤ d) (hA : AOk A) (h : RX A M) (hs : s < 8) (h2 : isR A s) (hi : i < siz A s) : pcl GG lay d 226 [.ref 15, .int (jn s), .int (jn i)] M = rI (rowI A s i) M := by
  obtain ⟨d, rfl⟩ := ex_add hd
  rw [q_226, c_ele (by omega) hA h hs h2 hi, kL_r]
theorem x_no10 {k : Nat} (hd : 2 ≤ d) (h : RX A M) (hk : k < 8) : XI (kI (pcl GG lay d 56 [.ref 0, .int (jz k)] M) fun r M => rI (r - jn 10) M) M (no10A A k) := by
  obtain ⟨M', e1, e2, e3⟩ := x_ref0 hd h hk
  exact ⟨M', by rw [e1, kI_r]; show rI (jz k - jn 10) M' = _; rw [jz_sub10], e2, e3⟩
theorem jdR_0 (h : jdR A a b c = 0) : thr a ∧ hsS A b ∧ noR A a = 0 ∧ ¬ c.toInt < 0 ∧ ¬ (siz A a.toInt.toNat : Int) < 2 * c.toInt ∧ ∀ i, i < 2 * c.toInt.toNat → hsT A (rowI A a.toInt.toNat i) := by
  unfold jdR at h
  by_cases h1 : thr a
  case neg => rw [if_pos h1] at h; omega
  rw [if_neg (Classical.not_not.mpr h1)] at h
  by_cases h2 : hsS A b
  case neg => rw [if_pos h2] at h; omega
  rw [if_neg (Classical.not_not.mpr h2)] at h
  by_cases h3 : noR A a = 0
  case neg => rw [if_pos h3] at h; omega
  rw [if_neg (Classical.not_not.mpr h3)] at h
  by_cases h4 : c.toInt < 0
  · rw [if_pos h4] at h; omega
  rw [if_neg h4] at h
  by_cases h5 : (siz A a.toInt.toNat : Int) < 2 * c.toInt
  · rw [if_pos h5] at h; omega
  rw [if_neg h5] at h
  by_cases h6 : ∀ i, i < 2 * c.toInt.toNat → hsT A (rowI A a.toInt.toNat i)
  · exact ⟨h1, h2, h3, h4, h5, h6⟩
  · rw [if_pos h6] at h; omega
end
