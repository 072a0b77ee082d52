/-! termOf: size, depth, variables, whether nothing fits -/
def F_termOf (A : AT) (a b : Int32) : Int32 × AT := if ¬ hsT A a then rfs A 1 else if b = jn 0 then (jn (sz (tmN A a)), A) else if b = jn 1 then (jn (dp (tmN A a)), A) else if b = jn 2 then (vb (en (tmN A a)), A) else if b = jn 3 then (if lg_cmp (msk (anyR A (tmN A a)) (sz (tmN A a)) 0 (Int64.ofNat 0)) (Int64.ofNat 0) = jn 0 then jn 1 else jn 0, A) else rfs A 5
section
variable {d : Nat} {A : AT} {M : PM} {a b c e f : Int32} {v : Int64}
theorem x_max {S : Nat} {o : List (Nat × Int64)} (hd : 2 ≤ d) (h3 : M.1 21 3 = jn S) (hS : S ≤ 40) (ho : o.length = S) (hl : LY (M.1 22) (M.2 23) 0 o) (hb : ∀ q ∈ o, q.1 < 100) : ∀ m k v, k + m = S → v < 100 → E_185 d (4, [some (.ref 21), some (.int (jn v)), some (.int (jn k))], [], M) = rI (jn (mxL (o.drop k) v)) M := by
  intro m
  induction m with
  | zero =>
    intro k v hk hv
    rw [h_185_4, h3, ilt_neg (by omega) (by omega), List.drop_of_length_le (by omega)]
    rfl
  | succ m ih =>
    intro k v hk hv
    have hlt : k < o.length := by omega
    have hq := hl k _ (List.getElem?_eq_getElem hlt)
    rw [Nat.zero_add] at hq
    have hq2 := hb _ (List.getElem_mem hlt)
    rw [h_185_4, h3, ilt_pos (by omega) (by omega), c_get (n := 40) (by omega) rfl (by omega) (by omega), kI_r, hq.1, pcl_max (by omega), kI_r, jn_add, List.drop_eq_getElem_cons hlt]
    show _ = rI (jn (mxL (o.drop (k + 1)) (max v o[k].1))) M
    by_cases hm : v < o[k].1
    · rw [ilt_pos hm (by omega), show max v o[k].1 = o[k].1 by omega]
      exact ih (k + 1) _ (by omega) hq2
    · rw [ilt_neg (by omega) (by omega), show max v o[k].1 = v by omega]
      exact ih (k + 1) _ (by omega) hv
theorem x_termOf (hd : 14 ≤ d) (hA : AOk A) (h : RX A M) : XI (pcl GG lay d 17 [.ref 0, .int a, .int b] M) M (F_termOf A a b) := by
  obtain ⟨d, rfl⟩ := ex_add hd
  unfold F_termOf
  rw [q_17, c_hasT (by omega) hA h, kI_r]
  by_cases h2 : hsT A a
  case neg => rw [bI_n h2, ieq_pos rfl, if_pos h2]; exact x_ref (by omega) h (by omega)
  rw [bI_1 h2, ieq_neg (by omega) (by omega) (by omega), if_neg (Classical.not_not.mpr h2)]
  obtain ⟨n, t, rfl, k1, k2, k3, k4, k5⟩ := ts_of hA h2
  have hta : At (M.1 7) (40 * n) (en t) := h.1.2.1 n t k1
  rw [k2, c_tp (by omega), kI_r]
  by_cases b0 : b = jn 0
  · rw [if_pos b0, if_pos b0, c_sizeAt (by omega) k3 hta (by omega), kI_r]
    exact ⟨M, rfl, h, Hi.rf⟩
  rw [if_neg b0, if_neg b0]
  by_cases b1 : b = jn 1
  · rw [if_pos b1, if_pos b1]
    obtain ⟨M', e1, e2, e3, e4, e5⟩ := x_lay (d := d + 13) (by omega) hA h k1
    have hdp := dp_pos t k3
    rw [e1, kV_r, q_185, x_max (d := d + 12) (by omega) e4 k4 (inf_len _ _ _) e5 (fun q hq => by have := inf_lv _ _ _ _ hq; omega) (sz t) 0 0 (by omega) (by omega), kI_r, List.drop_zero, mxL_inf t k3, show max 0 (1 + dp t - 1) = dp t by omega]
    exact ⟨M', rfl, e2, e3⟩
  rw [if_neg b1, if_neg b1]
  by_cases b2 : b = jn 2
  · rw [if_pos b2, if_pos b2, c_vars (by omega) k3 hta (by omega), kI_r]
    exact ⟨M, rfl, h, Hi.rf⟩
  rw [if_neg b2, if_neg b2]
  by_cases b3 : b = jn 3
  · rw [if_pos b3, if_pos b3, q_27, c_sizeAt (by omega) k3 hta (by omega), kI_r]
    obtain ⟨M', e1, e2, e3⟩ := x_msk (d := d + 12) (by omega) hA k1 (sz t) 0 (Int64.ofNat 0) M (by omega) h
    rw [e1, kL_r]
    refine ⟨M', ?_, e2, e3⟩
    split <;> rfl
  rw [if_neg b3, if_neg b3]
  exact x_ref (by omega) h (by omega)
end
