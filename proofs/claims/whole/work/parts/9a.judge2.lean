/-! judge by the system -/
section
variable {d dd : Nat} {A : AT} {M M' : PM} {a b c e f w : Int32} {v : Int64}
def jdR (A : AT) (a b c : Int32) : Nat := if ¬ thr a then 1 else if ¬ hsS A b then 1 else if noR A a ≠ 0 then noR A a else if c.toInt < 0 then 4 else if (siz A a.toInt.toNat : Int) < 2 * c.toInt then 5 else if ¬ (∀ i, i < 2 * c.toInt.toNat → hsT A (rowI A a.toInt.toNat i)) then 6 else 0
theorem F_judge_eq : F_judge A a b c = if jdR A a b c = 0 then (judF A a.toInt.toNat b c.toInt.toNat 0 0 0, A) else no10A A (jdR A a b c) := by
  unfold F_judge jdR
  by_cases h1 : thr a
  case neg => rw [if_pos h1, if_pos h1, if_neg (show ¬ (1 : Nat) = 0 by decide)]
  rw [if_neg (Classical.not_not.mpr h1), if_neg (Classical.not_not.mpr h1)]
  by_cases h2 : hsS A b
  case neg => rw [if_pos h2, if_pos h2, if_neg (show ¬ (1 : Nat) = 0 by decide)]
  rw [if_neg (Classical.not_not.mpr h2), if_neg (Classical.not_not.mpr h2)]
  by_cases h3 : noR A a = 0
  case neg => rw [if_pos h3, if_pos h3, if_neg h3]
  rw [if_neg (Classical.not_not.mpr h3), if_neg (Classical.not_not.mpr h3)]
  by_cases h4 : c.toInt < 0
  · rw [if_pos h4, if_pos h4, if_neg (show ¬ (4 : Nat) = 0 by decide)]
  rw [if_neg h4, if_neg h4]
  by_cases h5 : (siz A a.toInt.toNat : Int) < 2 * c.toInt
  · rw [if_pos h5, if_pos h5, if_neg (show ¬ (5 : Nat) = 0 by decide)]
  rw [if_neg h5, if_neg h5]
  by_cases h6 : ∀ i, i < 2 * c.toInt.toNat → hsT A (rowI A a.toInt.toNat i)
  · rw [if_neg (Classical.not_not.mpr h6), if_neg (Classical.not_not.mpr h6), if_pos rfl]
  · rw [if_pos h6, if_pos h6, if_neg (show ¬ (6 : Nat) = 0 by decide)]
theorem jdR_lt : jdR A a b c < 8 := by
  unfold jdR
  have := noR_lt A a
  repeat' split
  all_goals omega
theorem x_int {s i : Nat} (hd : 6 ≤ d) (hA : AOk A) (h : RX A M) (hs : s < 8) (h2 : isR A s) (hi : i < siz A s) : pcl GG lay d 226 [.ref 15, .int (jn s), .int (jn i)] M = rI (rowI A s i) M := by
  obtain ⟨d, rfl⟩ := ex_add hd
  rw [q_226, c_ele (by omega) hA h hs h2 hi, kL_r]
theorem x_no10 {k : Nat} (hd : 2 ≤ d) (h : RX A M) (hk : k < 8) : XI (kI (pcl GG lay d 56 [.ref 0, .int (jz k)] M) fun r M => rI (r - jn 10) M) M (no10A A k) := by
  obtain ⟨M', e1, e2, e3⟩ := x_ref0 hd h hk
  exact ⟨M', by rw [e1, kI_r]; show rI (jz k - jn 10) M' = _; rw [jz_sub10], e2, e3⟩
theorem c_jdR (hd : 8 ≤ d) (hA : AOk A) (h : RX A M) : pcl GG lay d 48 [.ref 0, .int a, .int b, .int c] M = rI (jz (jdR A a b c)) M := by
  obtain ⟨d, rfl⟩ := ex_add (show 1 ≤ d by omega)
  unfold jdR
  rw [q_48, c_thr (by omega), kI_r]
  by_cases h1 : thr a
  case neg => rw [bI_n h1, ieq_pos rfl, if_pos h1]
  rw [bI_1 h1, ieq_neg (by omega) (by omega) (by omega), if_neg (Classical.not_not.mpr h1), c_hasS (by omega) hA h, kI_r]
  by_cases h2 : hsS A b
  case neg => rw [bI_n h2, ieq_pos rfl, if_pos h2]
  rw [bI_1 h2, ieq_neg (by omega) (by omega) (by omega), if_neg (Classical.not_not.mpr h2), c_noR (by omega) h, kI_r, ite_nz (noR_lt A a)]
  by_cases h3 : noR A a = 0
  case neg => rw [if_neg h3, if_pos h3]
  rw [if_pos h3, if_neg (Classical.not_not.mpr h3)]
  by_cases h4 : c.toInt < 0
  · rw [if_pos (by rw [jlt (by omega)]; exact h4), if_pos h4]
  rw [if_neg (by rw [jlt (by omega)]; exact h4), if_neg h4]
  obtain ⟨-, h5⟩ := noR_0 h3
  obtain ⟨s, hs, rfl⟩ := inn (n := 8) h1
  rw [jnN (by omega)] at *
  have h160 : siz A s ≤ 160 := (hA.2.2.2 s hs).1
  rw [c_sizeS (by omega) h hs, kI_r, if_pos h5]
  by_cases h6 : (siz A s : Int) < 2 * c.toInt
  · rw [if_pos (by rw [lcmp_two, jn_toInt (by omega)]; exact h6), if_pos h6]
  rw [if_neg (by rw [lcmp_two, jn_toInt (by omega)]; exact h6), if_neg h6]
  obtain ⟨n, hn, rfl⟩ := inn (a := c) (n := 81) (by omega)
  rw [jn_toInt (by omega)] at h6
  rw [jnN (by omega), ilt_neg (by omega) (by omega)]
  have lp : ∀ m k, k + m = 2 * n → ((∀ i, k ≤ i → i < 2 * n → hsT A (rowI A s i)) → E_48 d (79, [some (.ref 0), some (.int (jn s)), some (.int b), some (.int (jn n)), some (.int (jz (noR A (jn s)))), some (.int (jn k))], [], M) = rI (jz 0) M) ∧ (¬ (∀ i, k ≤ i → i < 2 * n → hsT A (rowI A s i)) → E_48 d (79, [some (.ref 0), some (.int (jn s)), some (.int b), some (.int (jn n)), some (.int (jz (noR A (jn s)))), some (.int (jn k))], [], M) = rI (jz 6) M) := by
    intro m
    induction m with
    | zero =>
      intro k hk
      refine ⟨fun _ => ?_, fun q => absurd (fun i i1 i2 => by omega) q⟩
      rw [h_48_79, jn_mul, ilt_neg (by omega) (by omega)]
      rfl
    | succ m ih =>
      intro k hk
      have st : E_48 d (79, [some (.ref 0), some (.int (jn s)), some (.int b), some (.int (jn n)), some (.int (jz (noR A (jn s)))), some (.int (jn k))], [], M) = if hsT A (rowI A s k) then E_48 d (79, [some (.ref 0), some (.int (jn s)), some (.int b), some (.int (jn n)), some (.int (jz (noR A (jn s)))), some (.int (jn (k + 1)))], [], M) else rI (jz 6) M := by
        rw [h_48_79, jn_mul, ilt_pos (by omega) (by omega), x_int (by omega) hA h hs h5 (by omega), kI_r, c_hasT (by omega) hA h, kI_r, jn_add]
        by_cases hh : hsT A (rowI A s k)
        · rw [bI_1 hh, ieq_neg (by omega) (by omega) (by omega), if_pos hh]
        · rw [bI_n hh, ieq_pos rfl, if_neg hh]
      rw [st]
      by_cases hh : hsT A (rowI A s k)
      · rw [if_pos hh]
        refine ⟨fun q => (ih (k + 1) (by omega)).1 (fun i i1 i2 => q i (by omega) i2), fun q => (ih (k + 1) (by omega)).2 (fun q2 => q (fun i i1 i2 => ?_))⟩
        by_cases e : i = k
        · rw [e]; exact hh
        · exact q2 i (by omega) i2
      · rw [if_neg hh]
        exact ⟨fun q => absurd (q k (Nat.le_refl k) (by omega)) hh, fun _ => rfl⟩
  by_cases z : ∀ i, i < 2 * n → hsT A (rowI A s i)
  · rw [(lp (2 * n) 0 (by omega)).1 (fun i _ i2 => z i i2), if_neg (Classical.not_not.mpr z)]
  · rw [(lp (2 * n) 0 (by omega)).2 (fun q => z (fun i i2 => q i (Nat.zero_le _) i2)), if_pos z]
theorem jdR_0 (h : jdR A a b c = 0) : thr a ∧ hsS A b ∧ noR A a = 0 ∧ ¬ c.toInt < 0 ∧ ¬ (siz A a.toInt.toNat : Int) < 2 * c.toInt ∧ ∀ i, i < 2 * c.toInt.toNat → hsT A (rowI A a.toInt.toNat i) := by
  unfold jdR at h
  by_cases h1 : thr a
  case neg => rw [if_pos h1] at h; omega
  rw [if_neg (Classical.not_not.mpr h1)] at h
  by_cases h2 : hsS A b
  case neg => rw [if_pos h2] at h; omega
  rw [if_neg (Classical.not_not.mpr h2)] at h
  by_cases h3 : noR A a = 0
  case neg => rw [if_pos h3] at h; omega
  rw [if_neg (Classical.not_not.mpr h3)] at h
  by_cases h4 : c.toInt < 0
  · rw [if_pos h4] at h; omega
  rw [if_neg h4] at h
  by_cases h5 : (siz A a.toInt.toNat : Int) < 2 * c.toInt
  · rw [if_pos h5] at h; omega
  rw [if_neg h5] at h
  by_cases h6 : ∀ i, i < 2 * c.toInt.toNat → hsT A (rowI A a.toInt.toNat i)
  · exact ⟨h1, h2, h3, h4, h5, h6⟩
  · rw [if_pos h6] at h; omega
theorem x_jud {s n kk : Nat} {u4 : Option Value} (hd : 14 ≤ d) (hA : AOk A) (hk : kk < (ssA A).length) (hs : s < 8) (h5 : isR A s) (hn : 2 * n ≤ siz A s) (hall : ∀ i, i < 2 * n → hsT A (rowI A s i)) : ∀ m k bb r M u6, k + m = n → RX A M → bb ≤ 600 → r ≤ 40 → M.1 29 12 = jn bb → M.1 29 13 = jn r → XI (E_47 d (34, [some (.ref 0), some (.int (jn s)), some (.int (jn kk)), some (.int (jn n)), u4, some (.int (jn k)), u6], [], M)) M (judF A s (jn kk) m k bb r, A) := by
  have h160 : siz A s ≤ 160 := (hA.2.2.2 s hs).1
  have hsl := ss_le hA
  have htv : toldV A (jn kk) := ⟨kk, hk, rfl⟩
  obtain ⟨d, rfl⟩ := ex_add (show 1 ≤ d by omega)
  intro m
  induction m with
  | zero =>
    intro k bb r M u6 hk h _ _ _ _
    rw [h_47_34, ilt_neg (by omega) (by omega)]
    exact ⟨M, rfl, h, Hi.rf⟩
  | succ m ih =>
    intro k bb r M u6 hk2 h hb hr h12 h13
    obtain ⟨t, k1, k2, k3, k4, k6⟩ := ts_at hA (hall (2 * k) (by omega))
    obtain ⟨t2, i1, i2, i3, i4, i6⟩ := ts_at hA (hall (2 * k + 1) (by omega))
    generalize hx : (rowI A s (2 * k)).toInt.toNat = x at k1 k6
    generalize hy : (rowI A s (2 * k + 1)).toInt.toNat = y at i1 i6
    have hx24 := (tm_ok hA k1).2.2
    have hy24 := (tm_ok hA i1).2.2
    have hta : At (M.1 7) (40 * x) (en t) := h.1.2.1 x t k1
    obtain ⟨M2, g1, g2, g3, g4⟩ := x_goX (dd := d) (w := jn kk) (p := 40 * x) (by omega) hA (told_ok hA) (told_tb hA h) h htv k3 k4 hta (by omega) hb hr h12 h13
    rw [phi_t (by omega)] at g4
    have hh : Hi M M2 := Hi_sw g1.1
    have ho := rnA_ok hA (okM_t (A := A) (a := jn kk) (by rw [hsS, jn_toInt (by omega)]; omega)) k3 k4 hb hr
    rw [h_47_34, ilt_pos (by omega) (by omega), jn_mul, x_int (by omega) hA h hs h5 (by omega), kI_r, k6, c_tp (by omega), kI_r]
    rcases e : rnA A (jn kk) t bb r with ⟨_ | u, q⟩
    · have ej : judF A s (jn kk) (m + 1) k bb r = jn k := by rw [judF, k2, e]
      rw [e] at g4
      simp only at g4
      rw [g4, kI_r, ej]
      refine ⟨M2, ?_, g2, hh⟩
      by_cases h0 : q.2.2.2 = true
      · rw [if_pos h0, if_pos (by rw [jz_lt_jn (by omega) (by omega)]; trivial)]
      · rw [if_neg h0, if_pos (by rw [jz_lt_jn (by omega) (by omega)]; trivial)]
    · have ej : judF A s (jn kk) (m + 1) k bb r = if en u = en t2 then judF A s (jn kk) m (k + 1) q.1 q.2.1 else jn k := by rw [judF, k2, i2, e]
      rw [e] at g4 ho
      obtain ⟨p', top', y1, y2, y3, y4⟩ := g4
      have hu := ho.2.1
      have zu := sz_pos u ho.1
      have hp' : p' + sz u ≤ 3760 ∧ p' < 3760 := by rcases y4 with ⟨y4, y5⟩ | y4 <;> omega
      have hta2 : At (M2.1 7) (40 * y) (en t2) := g2.1.2.1 y t2 i1
      rw [y1, kI_r, ilt_neg (by omega) (by omega), jn_add, x_int (by omega) hA g2 hs h5 (by omega), kI_r, i6, c_tp (by omega), kI_r, c_alike (by omega) ho.1 i3 y3 hta2 hu hp'.1 (by omega), kI_r]
      rw [ej]
      by_cases he : en u = en t2
      · rw [bI_1 he, ieq_neg (by omega) (by omega) (by omega), if_pos he, jn_add]
        obtain ⟨M3, z1, z2, z3⟩ := ih (k + 1) q.1 q.2.1 M2 (some (.int (jn p'))) (by omega) g2 ho.2.2.1.1 ho.2.2.1.2.1 y2.2.2.1.2.1 y2.2.2.1.2.2.1
        exact ⟨M3, z1, z2, hh.trans z3⟩
      · rw [bI_n he, ieq_pos rfl, if_neg he]
        exact ⟨M2, rfl, g2, hh⟩
theorem x_judge (hd : 16 ≤ d) (hA : AOk A) (h : RX A M) : XI (pcl GG lay d 47 [.ref 0, .int a, .int b, .int c] M) M (F_judge A a b c) := by
  obtain ⟨d, rfl⟩ := ex_add (show 1 ≤ d by omega)
  rw [q_47, c_jdR (by omega) hA h, kI_r, F_judge_eq]
  by_cases h0 : jdR A a b c = 0
  · obtain ⟨h1, h2, h3, h4, h5, h6⟩ := jdR_0 h0
    rw [h0, if_pos (show jz 0 = jn 0 from rfl), if_pos rfl]
    obtain ⟨-, h7⟩ := noR_0 h3
    obtain ⟨s, hs, rfl⟩ := inn (n := 8) h1
    rw [jnN (by omega)] at *
    have h160 : siz A s ≤ 160 := (hA.2.2.2 s hs).1
    obtain ⟨n, hn, rfl⟩ := inn (a := c) (n := 81) (by omega)
    rw [jn_toInt (by omega)] at h5
    rw [jnN (by omega)] at h6 ⊢
    obtain ⟨kk, hkk, rfl⟩ := told_of h2
    obtain ⟨M1, c1, c2, c3, c4, c5⟩ := x_cnt0 (d := d) (by omega) hA h
    rw [c1, kV_r]
    exact (x_jud (d := d) (by omega) hA hkk hs h7 (by omega) h6 n 0 0 0 M1 none (by omega) c2 (by omega) (by omega) c4 c5).pre (Hi.fr c3 (by decide))
  · rw [if_neg h0, if_neg (by rw [jz_jn (by omega) ⟨by omega, by have := jdR_lt (A := A) (a := a) (b := b) (c := c); omega⟩]; exact id)]
    exact x_no10 (by omega) h jdR_lt
end
