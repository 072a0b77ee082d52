/-! replay -/
abbrev psF (p : Int64) (t : Tm) (i : Nat) : Bool := decide (lg_cmp (paT t i) p = jn 0)
def rpO (A : AT) (l : Nat) (p : Int64) (t : Tm) : Nat × Tm := match fstF (psF p t) (sz t) 0 with
  | none => (6, Lf)
  | some i => if l < (rsA A).length then rwt (cmA A) ((rsA A).getD l (Lf, Lf)) t i else (6, Lf)
def rpF (A : AT) : Nat → Nat → Tm → Nat × Tm
  | 0, _, t => (0, t)
  | m + 1, k, t => if (rpO A (A.2.2.1.getD k (0, 0)).1 (A.2.2.1.getD k (0, 0)).2 t).1 = 0 then rpF A m (k + 1) (rpO A (A.2.2.1.getD k (0, 0)).1 (A.2.2.1.getD k (0, 0)).2 t).2 else rpO A (A.2.2.1.getD k (0, 0)).1 (A.2.2.1.getD k (0, 0)).2 t
def F_replay (A : AT) (a b : Int32) : Int32 × AT := if ¬ hsT A a then rfs A 1 else if ¬ (0 ≤ b.toInt ∧ b.toInt ≤ (A.2.2.1.length : Nat)) then rfs A 5 else
  if (rpF A b.toInt.toNat 0 (tmN A a)).1 = 0 then addT A (rpF A b.toInt.toNat 0 (tmN A a)).2 else rfs A (rpF A b.toInt.toNat 0 (tmN A a)).1
theorem rpO_ok {A : AT} {l : Nat} {p : Int64} {t : Tm} (hA : AOk A) (ht : wf t) (hs : sz t ≤ 40) (h : (rpO A l p t).1 = 0) : wf (rpO A l p t).2 ∧ sz (rpO A l p t).2 ≤ 40 := by
  unfold rpO at h ⊢
  cases hf : fstF (psF p t) (sz t) 0 with
  | none => rw [hf] at h; simp at h
  | some i =>
    rw [hf] at h
    simp only at h ⊢
    obtain ⟨-, h2, -⟩ := fst_lt hf
    by_cases hl : l < (rsA A).length
    · rw [if_pos hl] at h ⊢
      have hr : (rsA A).getD l (Lf, Lf) ∈ rsA A := by rw [List.getD_eq_getElem?_getD, List.getElem?_eq_getElem hl]; exact List.getElem_mem hl
      exact rwt_ok (hA.1.2.1.2 _ hr).2.1 ht hs (by omega) h
    · rw [if_neg hl] at h; simp at h
theorem rpO_le (A : AT) (l : Nat) (p : Int64) (t : Tm) : (rpO A l p t).1 = 0 ∨ (rpO A l p t).1 = 6 ∨ (rpO A l p t).1 = 7 := by
  unfold rpO
  split
  · exact Or.inr (Or.inl rfl)
  · split
    · exact rwt_le _ _ _ _
    · exact Or.inr (Or.inl rfl)
theorem rpF_le (A : AT) : ∀ m k t, (rpF A m k t).1 = 0 ∨ (rpF A m k t).1 = 6 ∨ (rpF A m k t).1 = 7 := by
  intro m
  induction m with
  | zero => intro k t; exact Or.inl rfl
  | succ m ih =>
    intro k t
    rw [rpF]
    split
    · exact ih _ _
    · exact rpO_le _ _ _ _
theorem rpF_ok {A : AT} (hA : AOk A) : ∀ m k t, wf t → sz t ≤ 40 → (rpF A m k t).1 = 0 → wf (rpF A m k t).2 ∧ sz (rpF A m k t).2 ≤ 40 := by
  intro m
  induction m with
  | zero => intro k t ht hs _; exact ⟨ht, hs⟩
  | succ m ih =>
    intro k t ht hs h
    rw [rpF] at h ⊢
    by_cases h0 : (rpO A (A.2.2.1.getD k (0, 0)).1 (A.2.2.1.getD k (0, 0)).2 t).1 = 0
    · rw [if_pos h0] at h ⊢
      obtain ⟨w1, w2⟩ := rpO_ok hA ht hs h0
      exact ih _ _ w1 w2 h
    · rw [if_neg h0] at h; exact absurd h h0
section
variable {d : Nat} {A : AT} {M : PM} {a b c e f : Int32} {v : Int64}
theorem k_replay (hA : AOk A) : AOk (F_replay A a b).2 := by
  unfold F_replay
  split
  · exact hA
  rename_i h1
  split
  · exact hA
  split
  · rename_i h3
    obtain ⟨n, t, rfl, g1, g2, g3, g4, g5⟩ := ts_of hA (Classical.not_not.mp h1)
    rw [g2] at h3 ⊢
    obtain ⟨w1, w2⟩ := rpF_ok hA _ _ t g3 g4 h3
    exact k_addT hA w1 w2
  · exact hA
theorem c_pos {p : Int64} {t : Tm} (hd : 2 ≤ d) (h3 : M.1 21 3 = jn (sz t)) (hS : sz t ≤ 40) (hl : LY (M.1 22) (M.2 23) 0 (inf 1 (Int64.ofNat 0) t)) : ∀ m k, k + m = sz t → E_187 d (2, [some (.ref 21), some (.long p), none, some (.int (jn k))], [], M) = rI (match fstF (psF p t) m k with
    | none => jz 1
    | some i => jn i) M := by
  intro m
  induction m with
  | zero =>
    intro k hk
    rw [h_187_2, h3, ilt_neg (by omega) (by omega)]
    rfl
  | succ m ih =>
    intro k hk
    rw [h_187_2, h3, ilt_pos (by omega) (by omega), c_getL (n := 40) (by omega) rfl (by omega) (by omega), kL_r, (ly_at hl (by omega)).2, fstF]
    by_cases hc : lg_cmp (paT t k) p = jn 0
    · rw [if_pos hc, if_pos (show psF p t k = true from decide_eq_true hc)]
    · rw [if_neg hc, if_neg (show ¬ psF p t k = true from fun z => hc (of_decide_eq_true z)), jn_add]
      exact ih (k + 1) (by omega)
theorem x_rp1 {l : Nat} {p : Int64} {t : Tm} (hd : 11 ≤ d) (hA : AOk A) (h : RX A M) (hl : l < 1000) (ht : wf t) (hs : sz t ≤ 40) (hta : At (M.1 7) 1960 (en t)) : ∃ M', pcl GG lay d 39 [.ref 0, .int (jn l), .long p] M = rI (jz (rpO A l p t).1) M' ∧ RX A M' ∧ Hi M M' ∧ ((rpO A l p t).1 = 0 → At (M'.1 7) 1960 (en (rpO A l p t).2)) := by
  obtain ⟨d, rfl⟩ := ex_add hd
  have hlr : (rsA A).length ≤ 12 := hA.1.2.1.1
  obtain ⟨M1, e1, e2, e3, e4⟩ := c_layout (d := d + 10) (M := M) (P := 1960) (t := t) (by omega) ht hs (by omega) hta
  have hR1 : RX A M1 := RX_sc hA.1 h (e2.mono (by decide)) (fun i _ => by rw [e2.1 7 (by decide)])
  have hh1 : Hi M M1 := Hi.fr e2 (by decide)
  rw [q_39, e1, kV_r, q_187, c_pos (d := d + 9) (by omega) e3 hs e4 (sz t) 0 (by omega), kI_r, c_hasR (by omega) hA hR1, kI_r, jn_toInt (by omega)]
  unfold rpO
  by_cases hlt : l < (rsA A).length
  case neg =>
    rw [bI_n (show ¬ ((0 : Int) ≤ (l : Int) ∧ (l : Int) < ((rsA A).length : Nat)) by omega), ieq_pos rfl]
    cases hf : fstF (psF p t) (sz t) 0 with
    | none => exact ⟨M1, rfl, hR1, hh1, fun z => absurd (show (6 : Nat) = 0 from z) (by decide)⟩
    | some i =>
      simp only [if_neg hlt]
      exact ⟨M1, rfl, hR1, hh1, fun z => absurd (show (6 : Nat) = 0 from z) (by decide)⟩
  rw [bI_1 (show (0 : Int) ≤ (l : Int) ∧ (l : Int) < ((rsA A).length : Nat) by omega), ieq_neg (by omega) (by omega) (by omega)]
  cases hf : fstF (psF p t) (sz t) 0 with
  | none =>
    simp only
    rw [if_pos trivial]
    exact ⟨M1, rfl, hR1, hh1, fun z => absurd (show (6 : Nat) = 0 from z) (by decide)⟩
  | some i =>
    simp only [if_pos hlt]
    obtain ⟨-, h2, -⟩ := fst_lt hf
    have hr : (rsA A)[l]? = some (rsA A)[l] := List.getElem?_eq_getElem hlt
    have er : (rsA A).getD l (Lf, Lf) = (rsA A)[l] := by rw [List.getD_eq_getElem?_getD, hr]; rfl
    rw [er]
    generalize (rsA A)[l] = r at *
    obtain ⟨hro, hl12⟩ := rl_ok hA hr
    have e7 : M1.1 7 = M.1 7 := e2.1 7 (by decide)
    obtain ⟨M2, f1, f2⟩ := c_rew (d := d + 10) (M := M1) (cm := cmA A) (n := l) (P := 1960) (i := i) (rl := r) (t := t) (by omega) hA.1.2.2.2 hl12 hR1.1.1.2.2.2.1 ⟨hro.1, hro.2.1, hro.2.2.1, hro.2.2.2.1⟩ (hR1.1.2.2.1 l r hr).1 (hR1.1.2.2.1 l r hr).2 ht hs (by rw [e7]; exact hta) (Or.inr ⟨by omega, by omega⟩) (by omega)
    have hR2 : RX A M2 := RX_sc hA.1 hR1 (f2.1.mono (by decide)) (fun j hj => by
      by_cases h0 : (rwt (cmA A) r t i).1 = 0
      · exact (f2.2.2 h0).2 j (Or.inl hj)
      · rw [f2.2.1 h0])
    have hh2 : Hi M M2 := hh1.trans (Hi.fr f2.1 (by decide))
    have hc := rwt_le (cmA A) r t i
    rw [ieq_z (by omega) (by omega), f1, kI_r]
    by_cases h0 : (rwt (cmA A) r t i).1 = 0
    · obtain ⟨w1, w2⟩ := rwt_ok hro.2.1 ht hs (by omega) h0
      have hat := (f2.2.2 h0).1
      rw [h0, if_pos (show jz 0 = jn 0 from rfl), c_append (by omega) w1 hat (by omega) (by omega) (by omega), kI_r]
      refine ⟨_, rfl, RX_sc hA.1 hR2 (Fr.sI (by decide)) (fun j hj => by rw [sI_k, cp_out (by omega)]), hh2.trans (Hi.fr (S := [7]) (Fr.sI (by decide)) (by decide)), fun _ => ?_⟩
      rw [sI_k]; exact AT_cp hat (Nat.le_refl _)
    · rw [if_neg (by rw [jz_jn (by omega) (by omega)]; exact id)]
      exact ⟨M2, rfl, hR2, hh2, fun z => absurd z h0⟩
theorem x_rpF {u1 : Option Value} (hd : 12 ≤ d) (hA : AOk A) : ∀ m k t M u4, k + m ≤ A.2.2.1.length → b = jn (k + m) → RX A M → wf t → sz t ≤ 40 → At (M.1 7) 1960 (en t) → XI (E_38 d (56, [some (.ref 0), u1, some (.int b), some (.int (jn k)), u4], [], M)) M (if (rpF A m k t).1 = 0 then addT A (rpF A m k t).2 else rfs A (rpF A m k t).1) := by
  have htl : A.2.2.1.length ≤ 40 := hA.2.2.1.1
  intro m
  induction m with
  | zero =>
    intro k t M u4 hk hb h ht hs hat
    rw [hb, h_38_56, ilt_neg (by omega) (by omega), rpF, if_pos rfl]
    exact (x_newT (by omega) hA h ht hs hat (by omega) (by omega)).k
  | succ m ih =>
    intro k t M u4 hk hb h ht hs hat
    have hlt : k < A.2.2.1.length := by omega
    have hq : A.2.2.1[k]? = some A.2.2.1[k] := List.getElem?_eq_getElem hlt
    have eq : A.2.2.1.getD k (0, 0) = A.2.2.1[k] := by rw [List.getD_eq_getElem?_getD, hq]; rfl
    have hTX := h.2.2.1.2 k _ hq
    have hr12 := hA.2.2.1.2 _ (List.mem_of_getElem? hq)
    have e48 : M.1 48 2 = jn A.2.2.1.length := h.2.2.1.1
    rw [rpF, eq]
    generalize A.2.2.1[k] = q at *
    obtain ⟨d, rfl⟩ := ex_add hd
    obtain ⟨M1, e1, e2, e3, e4⟩ := x_rp1 (d := d + 12) (l := q.1) (p := q.2) (by omega) hA h (by omega) ht hs hat
    have hc := rpO_le A q.1 q.2 t
    rw [hb, h_38_56, ilt_pos (by omega) (by omega), q_256b, e48, ilt_neg (by omega) (by omega), ilt_pos hlt (by omega), c_get (n := 40) (by omega) rfl (by omega) (by omega), kI_r, kI_r, hTX.1, q_257b, e48, ilt_neg (by omega) (by omega), ilt_pos hlt (by omega), c_getL (n := 40) (by omega) rfl (by omega) (by omega), kL_r, kL_r, hTX.2, e1, kI_r]
    by_cases h0 : (rpO A q.1 q.2 t).1 = 0
    · obtain ⟨w1, w2⟩ := rpO_ok hA ht hs h0
      rw [if_pos h0, h0, if_pos (show jz 0 = jn 0 from rfl), jn_add, ← hb]
      exact (ih (k + 1) _ M1 _ (by omega) (by rw [hb]; congr 1; omega) e2 w1 w2 (e4 h0)).pre e3
    · rw [if_neg h0, if_neg (by rw [jz_jn (by omega) (by omega)]; exact id), if_neg h0]
      exact (x_ref (by omega) e2 (by omega)).pre e3
theorem x_replay (hd : 13 ≤ d) (hA : AOk A) (h : RX A M) : XI (pcl GG lay d 38 [.ref 0, .int a, .int b] M) M (F_replay A a b) := by
  obtain ⟨d, rfl⟩ := ex_add hd
  have htl : A.2.2.1.length ≤ 40 := hA.2.2.1.1
  have e48 : M.1 48 2 = jn A.2.2.1.length := h.2.2.1.1
  unfold F_replay
  rw [q_38, c_hasT (by omega) hA h, kI_r]
  by_cases h2 : hsT A a
  case neg => rw [bI_n h2, ieq_pos rfl, if_pos h2]; exact x_ref (by omega) h (by omega)
  rw [bI_1 h2, ieq_neg (by omega) (by omega) (by omega), if_neg (Classical.not_not.mpr h2), e48]
  by_cases h3 : b < jn 0
  · rw [if_pos h3, if_pos (fun q => by rw [jlt (by omega)] at h3; omega)]; exact x_ref (by omega) h (by omega)
  by_cases h4 : jn A.2.2.1.length < b
  · rw [if_neg h3, if_pos h4, if_pos (fun q => by rw [jgt (by omega)] at h4; omega)]; exact x_ref (by omega) h (by omega)
  rw [if_neg h3, if_neg h4]
  rw [jlt (by omega)] at h3
  rw [jgt (by omega)] at h4
  rw [if_neg (by omega)]
  obtain ⟨n, t, rfl, k1, k2, k3, k4, k5⟩ := ts_of hA h2
  have hta : At (M.1 7) (40 * n) (en t) := h.1.2.1 n t k1
  obtain ⟨m, hm, rfl⟩ := inn (a := b) (n := 41) (by omega)
  rw [jn_toInt (by omega)] at h4
  rw [k2, jnN (by omega), c_tp (by omega), kI_r, c_append (by omega) k3 hta (by omega) (by omega) (by omega), kI_r]
  refine (x_rpF (d := d + 12) (by omega) hA m 0 t _ none (by omega) (by rw [Nat.zero_add]) (RX_sc hA.1 h (Fr.sI (by decide)) (fun j hj => by rw [sI_k, cp_out (by omega)])) k3 k4 ?_).pre (Hi.fr (S := [7]) (Fr.sI (by decide)) (by decide))
  rw [sI_k]; exact AT_cp hta (Nat.le_refl _)
end
