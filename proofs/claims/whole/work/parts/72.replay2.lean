/-! replay by the model -/
section
variable {d : Nat} {A : AT} {M : PM} {a b c e f : Int32} {v : Int64}
theorem m_pos {p : Int64} {t : Tm} (hd : 7 ≤ d) (h : GR A t M) (ht : wf t) (hs : sz t ≤ 40) : ∀ m k, k + m = sz t → E_147 d (2, [some (.ref 52), some (.long p), none, some (.int (jn k))], [], M) = rI (match fstF (psF p t) m k with
    | none => jz 1
    | some i => jn i) M := by
  obtain ⟨d, rfl⟩ := ex_add hd
  intro m
  induction m with
  | zero =>
    intro k hk
    rw [h_147_2, h.2.1, ilt_neg (by omega) (by omega)]
    rfl
  | succ m ih =>
    intro k hk
    have hp := c_pathTo (d := d + 6) (M := M) (x := 65) (nx := 8100) (by omega) rfl (by omega) t ht 0 (Int64.ofNat 0) k 1 (some (.int (jn 0))) none h.2.2 (by omega) (by omega)
    rw [Nat.zero_add] at hp
    rw [h_147_2, h.2.1, ilt_pos (by omega) (by omega), q_102, hp, kL_r, fstF]
    by_cases hc : lg_cmp (paT t k) p = jn 0
    · rw [if_pos hc, if_pos (show psF p t k = true from decide_eq_true hc)]
    · rw [if_neg hc, if_neg (show ¬ psF p t k = true from fun z => hc (of_decide_eq_true z)), jn_add]
      exact ih (k + 1) (by omega)
theorem m_rpF {u1 : Option Value} (hd : 100 ≤ d) (hA : AOk A) : ∀ m k t M u4, k + m ≤ A.2.2.1.length → b = jn (k + m) → GR A t M → wf t → sz t ≤ 40 → MI (E_148 d (40, [some (.ref 52), u1, some (.int b), some (.int (jn k)), u4], [], M)) M (if (rpF A m k t).1 = 0 then addT A (rpF A m k t).2 else rfs A (rpF A m k t).1) := by
  have htl : A.2.2.1.length ≤ 40 := hA.2.2.1.1
  have hlr : (rsA A).length ≤ 12 := hA.1.2.1.1
  have hl24 : (tsA A).length ≤ 24 := hA.1.1.1
  intro m
  induction m with
  | zero =>
    intro k t M u4 hk hb h ht hs
    have e0 : M.1 52 0 = jn (tsA A).length := h.1.1.1.1
    rw [hb, h_148_40, ilt_neg (by omega) (by omega), rpF, if_pos rfl, e0]
    unfold addT
    by_cases h24 : (tsA A).length < 24
    · rw [if_pos h24, ieq_neg (by omega) (by omega) (by omega), h.2.1]
      exact (m_newT (by omega) hA h.1 h24 hs (x := 65) (nx := 8100) rfl (by omega) (by omega) (by omega) h.2.2).k
    · rw [if_neg h24, ieq_pos (by omega)]
      exact m_ref (by omega) h.1 (by omega)
  | succ m ih =>
    intro k t M u4 hk hb h ht hs
    have hlt : k < A.2.2.1.length := by omega
    have hq : A.2.2.1[k]? = some A.2.2.1[k] := List.getElem?_eq_getElem hlt
    have eq : A.2.2.1.getD k (0, 0) = A.2.2.1[k] := by rw [List.getD_eq_getElem?_getD, hq]; rfl
    have tx : ∀ M' : PM, RM A M' → M'.1 73 k = jn A.2.2.1[k].1 ∧ M'.2 74 k = A.2.2.1[k].2 := fun M' hM => hM.2.2.1.2 k _ hq
    have hr12 := hA.2.2.1.2 _ (List.mem_of_getElem? hq)
    rw [rpF, eq]
    generalize A.2.2.1[k] = q at *
    obtain ⟨d, rfl⟩ := ex_add hd
    rw [hb, h_148_40, ilt_pos (by omega) (by omega), ald_l (n := 200) rfl (by omega) (by omega), oB_s, (tx M h.1).2, q_147, m_pos (d := d + 99) (by omega) h ht hs (sz t) 0 (by omega), kI_r]
    unfold rpO
    cases hf : fstF (psF q.2 t) (sz t) 0 with
    | none =>
      simp only
      rw [if_pos trivial, if_neg (show ¬ (6 : Nat) = 0 by decide), if_neg (show ¬ (6 : Nat) = 0 by decide)]
      exact m_ref (by omega) h.1 (by omega)
    | some i =>
      obtain ⟨-, h2, -⟩ := fst_lt hf
      have hi : i < sz t := by omega
      simp only
      rw [ieq_z (by omega) (by omega), ald_n (n := 200) rfl (by omega) (by omega), oB_s, (tx M h.1).1, d_hasR (by omega) hA h.1, kI_r, jn_toInt (by omega)]
      by_cases hlt2 : q.1 < (rsA A).length
      case neg =>
        rw [bI_n (show ¬ ((0 : Int) ≤ (q.1 : Int) ∧ (q.1 : Int) < ((rsA A).length : Nat)) by omega), ieq_pos rfl]
        simp only [if_neg hlt2]
        rw [if_neg (show ¬ (6 : Nat) = 0 by decide), if_neg (show ¬ (6 : Nat) = 0 by decide)]
        exact m_ref (by omega) h.1 (by omega)
      simp only [if_pos hlt2]
      rw [bI_1 (show (0 : Int) ≤ (q.1 : Int) ∧ (q.1 : Int) < ((rsA A).length : Nat) by omega), ieq_neg (by omega) (by omega) (by omega), ald_n (n := 200) rfl (by omega) (by omega), oB_s, (tx M h.1).1]
      have hr : (rsA A)[q.1]? = some (rsA A)[q.1] := List.getElem?_eq_getElem hlt2
      have er : (rsA A).getD q.1 (Lf, Lf) = (rsA A)[q.1] := by rw [List.getD_eq_getElem?_getD, hr]; rfl
      rw [er]
      generalize (rsA A)[q.1] = r at *
      have hz := sub_sz ht hi
      have hw := sub_wf ht hi
      have hro := (rl_ok hA hr).1
      obtain ⟨M2, f1, f2, f3, f4⟩ := m_try (d := d + 100) (k := i) (by omega) hA h hr ht hs hi
      rw [f1, kI_r]
      cases hm : mat (cmA A) r.1 (sub t i) with
      | none =>
        have e1 : rwt (cmA A) r t i = (6, Lf) := by unfold rwt; rw [hm]
        rw [if_neg (show ¬ fitB (cmA A) r.1 t i = true by unfold fitB; rw [hm]; simp), ieq_pos rfl, e1, if_neg (show ¬ (6 : Nat) = 0 by decide), if_neg (show ¬ (6 : Nat) = 0 by decide)]
        exact (m_ref (by omega) f2.1 (by omega)).pre f3
      | some E =>
        obtain ⟨g, b1, b2, b3, b4, b5⟩ := m_built (d := d + 100) (by omega) hA f2 hr ht hs hi hm (f4 E hm)
        have hst : At ((BM M2 (sz (sbT E r.2)) g).1 65) i (en (sub t i)) := by
          have := sub_at ht hi b3.2.2
          rw [Nat.zero_add] at this
          exact this
        have e26 : (BM M2 (sz (sbT E r.2)) g).1 52 26 = jn (sz (sbT E r.2)) := by
          show va_up (M2.1 52) 26 (jn (sz (sbT E r.2))) 26 = _
          rw [up_at, if_pos rfl]
        rw [if_pos (show fitB (cmA A) r.1 t i = true by unfold fitB; rw [hm]; rfl), ieq_neg (by omega) (by omega) (by omega), ald_n (n := 200) rfl (by omega) (by omega), oB_s, (tx M2 f2.1).1, b1, kV_r, c_span (n := 8100) (by omega) rfl (by omega) hw hst (by omega), kI_r, b3.2.1, e26, jn_sub (by omega), jn_add]
        have hh : Lo M (BM M2 (sz (sbT E r.2)) g) := f3.trans b4
        by_cases h7 : 40 < sz t - sz (sub t i) + sz (sbT E r.2)
        · have e1 : rwt (cmA A) r t i = (7, Lf) := by unfold rwt; rw [hm]; exact if_pos h7
          rw [ilt_pos h7 (by omega), e1, if_neg (show ¬ (7 : Nat) = 0 by decide), if_neg (show ¬ (7 : Nat) = 0 by decide)]
          exact (m_ref (by omega) b3.1 (by omega)).pre hh
        have e1 : rwt (cmA A) r t i = (0, rep t i (sbT E r.2)) := by unfold rwt; rw [hm]; exact if_neg h7
        obtain ⟨M3, p1, p2, p3⟩ := m_put (d := d + 100) (k := i) (by omega) b3 b2 ht hs b5 hi
        have w := rwt_ok (cm := cmA A) (rl := r) (t := t) (i := i) hro.2.1 ht hs hi (by rw [e1])
        rw [e1] at w
        rw [ilt_neg (by omega) (by omega), e1, if_pos (show (0 : Nat) = 0 from rfl), p1, kV_r, jn_add, ← hb]
        exact (ih (k + 1) _ M3 _ (by omega) (by rw [hb]; congr 1; omega) p2 w.1 w.2).pre (hh.trans p3)
theorem m_replay (hd : 101 ≤ d) (hA : AOk A) (h : RM A M) : MI (pcl GG lay d 148 [.ref 52, .int a, .int b] M) M (F_replay A a b) := by
  obtain ⟨d, rfl⟩ := ex_add hd
  have htl : A.2.2.1.length ≤ 40 := hA.2.2.1.1
  have e35 : M.1 52 35 = jn A.2.2.1.length := h.2.2.1.1
  unfold F_replay
  rw [q_148, d_hasT (by omega) hA h, kI_r]
  by_cases h2 : hsT A a
  case neg => rw [bI_n h2, ieq_pos rfl, if_pos h2]; exact m_ref (by omega) h (by omega)
  rw [bI_1 h2, ieq_neg (by omega) (by omega) (by omega), if_neg (Classical.not_not.mpr h2), e35, c_within_n (by omega) (by omega) (by omega), kI_r]
  by_cases h3 : 0 ≤ b.toInt ∧ b.toInt ≤ (A.2.2.1.length : Nat)
  case neg =>
    rw [bI_n (show ¬ (((0 : Nat) : Int) ≤ b.toInt ∧ b.toInt ≤ ((A.2.2.1.length : Nat) : Int)) from h3), ieq_pos rfl, if_pos h3]
    exact m_ref (by omega) h (by omega)
  rw [bI_1 (show ((0 : Nat) : Int) ≤ b.toInt ∧ b.toInt ≤ ((A.2.2.1.length : Nat) : Int) from h3), ieq_neg (by omega) (by omega) (by omega), if_neg (Classical.not_not.mpr h3)]
  obtain ⟨n, t, rfl, k1, k2, k3, k4, k5⟩ := ts_of hA h2
  obtain ⟨m, hm, rfl⟩ := inn (a := b) (n := 41) (by omega)
  rw [jn_toInt (by omega)] at h3
  obtain ⟨M1, w1, w2, w5⟩ := m_grow (d := d + 100) (by omega) hA h k1
  rw [k2, jnN (by omega), w1, kV_r]
  exact (m_rpF (d := d + 100) (by omega) hA m 0 t M1 none (by omega) (by rw [Nat.zero_add]) w2 k3 k4).pre w5
end
