/-! the model's run: what a strategy's answer is, what is tried, what is too large -/
abbrev swM : List Nat := [52, 65, 66, 67, 68, 69, 70, 71, 72]
def Kp (K : Nat) (M M' : PM) : Prop := Fr swM M M' ∧ ∀ j, j < K → M'.1 72 j = M.1 72 j
theorem Kp.rf {K : Nat} {M : PM} : Kp K M M := ⟨Fr.rf, fun _ _ => rfl⟩
theorem Kp.trans {K : Nat} {M M' M'' : PM} (h : Kp K M M') (h' : Kp K M' M'') : Kp K M M'' := ⟨h.1.trans h'.1, fun j hj => (h'.2 j hj).trans (h.2 j hj)⟩
theorem Kp.of {K : Nat} {S : List Nat} {M M' : PM} (h : Fr S M M') (hs : ∀ k ∈ S, k ∈ swM ∧ k ≠ 72) : Kp K M M' := ⟨h.mono (fun k hk => (hs k hk).1), fun j _ => by rw [h.1 72 (fun q => (hs 72 q).2 rfl)]⟩
def OutM (s : Prop) (A : AT) (T : Tm) (i : Nat) (u : Tm) (q : RnS) (K : Nat) (M : PM) (o : RnR) (M' : PM) : Prop := match o with
  | (some u', q') => Kp K M M' ∧ RunM A (rep T i u') q' K M'
  | (none, q') => (q'.2.2.2 = true ∧ Fr swM M M' ∧ RM A M' ∧ M'.1 52 27 = jn 1) ∨ (q'.2.2.2 = false ∧ Kp K M M' ∧ ∃ u'' tr, (s → u'' = u ∧ tr = []) ∧ wf u'' ∧ sz u'' + 39 * q.2.1 ≤ sz u + 39 * q'.2.1 ∧ RunM A (rep T i u'') (q'.1, q'.2.1, q.2.2.1 ++ tr, false) K M')
def Srv (A : AT) (N k : Nat) (s : Prop) (c : Nat → PM → PO) (R : Tm → Int64 → RnS → RnR) : Prop := ∀ (T : Tm) (i : Nat) (u : Tm) (q : RnS) (K : Nat) (M : PM), wf T → i < sz T → sub T i = u → sz u ≤ 40 → QOk q → sz T ≤ 40 + 39 * q.2.1 → K ≤ 42 * (q.1 + k) → N ≤ q.1 → RunM A T q K M →
  ∃ M', c i M = rI (bI ((R u (paT T i) q).1.isSome = true)) M' ∧ OutM s A T i u q K M (R u (paT T i) q) M'
theorem bI_some {u : Tm} {q : RnS} : bI (((some u, q) : RnR).1.isSome = true) = jn 1 := bI_1 rfl
theorem bI_none {q : RnS} : bI (((none, q) : RnR).1.isSome = true) = jn 0 := bI_n (by simp)
section
variable {d : Nat} {A : AT} {M M1 M' : PM} {a b c e f : Int32} {v : Int64} {T : Tm} {q : RnS} {K i : Nat}
theorem RunM_eq {q' : RnS} (h : RunM A T q K M) (e : q = q') : RunM A T q' K M := e ▸ h
theorem RunM_t {T' : Tm} (h : RunM A T q K M) (e : T = T') : RunM A T' q K M := e ▸ h
theorem RunM_27 (h : RunM A T q K M) (ho : q.2.2.2 = false) : M.1 52 27 = jn 0 := by rw [h.2.1.2.2.2.1, ho]; exact bI_n (by simp)
/-- only how much is kept is another number -/
theorem RunM_K {K' : Nat} (h : RunM A T q K M) (hf : Fr [52, 72] M M') (h52 : M'.1 52 = va_up (M.1 52) 33 (jn K')) : RunM A T q K' M' := by
  obtain ⟨⟨h1, h2, h3⟩, ⟨a1, a2, a3, a4, a5⟩, h4⟩ := h
  have e : ∀ j, j ≠ 33 → M'.1 52 j = M.1 52 j := fun j hj => by rw [h52, up_at, if_neg hj]
  refine ⟨⟨RM_sc h1 (hf.mono (by decide)) (fun j hj => e j (by rintro rfl; revert hj; decide)), ?_, ?_⟩, ⟨?_, ?_, ?_, ?_, ?_⟩, fun k x hx => ?_⟩
  · rw [e 19 (by omega)]; exact h2
  · rw [hf.1 65 (by decide)]; exact h3
  · rw [e 28 (by omega)]; exact a1
  · rw [e 29 (by omega)]; exact a2
  · rw [e 30 (by omega)]; exact a3
  · rw [e 27 (by omega)]; exact a4
  · rw [h52, up_at, if_pos rfl]
  · rw [hf.1 70 (by decide), hf.2 71 (by decide)]; exact h4 k x hx
/-- what is there when a try failed -/
theorem OutM.back {u : Tm} {q1 : RnS} {k : Nat} (h : OutM True A T i u q K M (none, q1) M') (ho : ¬ q1.2.2.2 = true) (hr : ROk True k u q (none, q1)) (hT : wf T) (hi : i < sz T) (hu : sub T i = u) : Kp K M M' ∧ RunM A T q1 K M' := by
  rcases h with ⟨h, -⟩ | ⟨h0, h1, u2, tr, h2, h3, h4, h5⟩
  · exact absurd h ho
  obtain ⟨rfl, rfl⟩ := h2 trivial
  rcases hr with hr | ⟨k1, k2, k3, tr', k4, k5⟩
  · exact absurd hr ho
  have := k5 trivial
  subst this
  refine ⟨h1, RunM_t (RunM_eq h5 ?_) (by rw [← hu]; exact rep_self hT hi)⟩
  rw [List.append_nil] at k4 ⊢
  rw [← k4, ← h0]
theorem OutM.out {s : Prop} {u : Tm} {q1 : RnS} (h : OutM s A T i u q K M (none, q1) M') : M'.1 52 27 = if q1.2.2.2 = true then jn 1 else jn 0 := by
  rcases h with ⟨h, -, -, h2⟩ | ⟨h0, h1, u2, tr, h2, h3, h4, h5⟩
  · rw [if_pos h]; exact h2
  · rw [if_neg (by rw [h0]; simp)]; exact RunM_27 h5 rfl
theorem OutM.loose {s : Prop} {u : Tm} {o : RnR} (h : OutM s A T i u q K M o M') : OutM False A T i u q K M o M' := by
  obtain ⟨o, q'⟩ := o
  cases o with
  | some t => exact h
  | none =>
    rcases h with h | ⟨h0, h1, u2, tr, h2, h3⟩
    · exact Or.inl h
    · exact Or.inr ⟨h0, h1, u2, tr, fun z => z.elim, h3⟩
/-- over is over, wherever -/
theorem OutM.ovr {s s' : Prop} {u u' T' : Tm} {i' K' : Nat} {q0 q1 : RnS} {M0 : PM} (h : OutM s A T i u q K M (none, q1) M') (ho : q1.2.2.2 = true) (hf : Fr swM M0 M) : OutM s' A T' i' u' q0 K' M0 (none, q1) M' := by
  rcases h with ⟨h, h1, h2⟩ | ⟨h, -⟩
  · exact Or.inl ⟨h, hf.trans h1, h2⟩
  · rw [h] at ho; cases ho
theorem OutM.arg1 {s : Prop} {x y : Tm} {q1 : RnS} (hT : wf T) (hi : i < sz T) (hu : sub T i = Nd c x y) (hx : wf x) (h : OutM s A T (i + 1) x q K M (none, q1) M') : OutM False A T i (Nd c x y) q K M (none, q1) M' := by
  rcases h with h | ⟨h0, h1, u2, tr, h2, h3, h4, h5⟩
  · exact Or.inl h
  · refine Or.inr ⟨h0, h1, Nd c u2 y, tr, fun z => z.elim, wf_n1 (hu ▸ sub_wf hT hi) hx h3, by rw [sz_n, sz_n]; omega, RunM_t h5 (rep_c1 hT hi hu hx h3)⟩
/-- one behind another -/
theorem OutM.seq {s s' : Prop} {k : Nat} {u t1 : Tm} {q1 : RnS} {o : RnR} (hT : wf T) (hi : i < sz T) (hu : wf u) (h : OutM s A T i u q K M (some t1, q1) M1) (hr : ROk s' k u q (some t1, q1)) (h' : OutM s A (rep T i t1) i t1 q1 K M1 o M') (hw : ∀ t, o.1 = some t → wf t) : OutM False A T i u q K M o M' := by
  obtain ⟨o, q'⟩ := o
  obtain ⟨g1, g2, g3, g4, g5, g6, tr, g7⟩ := hr
  obtain ⟨p1, p2⟩ := h
  cases o with
  | some t => exact ⟨p1.trans h'.1, RunM_t h'.2 (rep_rep hT hi g1 (hw t rfl))⟩
  | none =>
    rcases h' with ⟨h0, h1, h2⟩ | ⟨h0, h1, u2, tr', h2, h3, h4, h5⟩
    · exact Or.inl ⟨h0, p1.1.trans h1, h2⟩
    · exact Or.inr ⟨h0, p1.trans h1, u2, tr ++ tr', fun z => z.elim, h3, by omega, RunM_t (RunM_eq h5 (by rw [g7, List.append_assoc])) (rep_rep hT hi g1 h3)⟩
/-- behind a try that failed -/
theorem OutM.els {s : Prop} {u : Tm} {q1 : RnS} {o : RnR} {k : Nat} (hr : ROk True k u q (none, q1)) (ho : ¬ q1.2.2.2 = true) (hk : Kp K M M1) (h' : OutM s A T i u q1 K M1 o M') : OutM s A T i u q K M o M' := by
  obtain ⟨o, q'⟩ := o
  rcases hr with hr | ⟨k1, k2, k3, tr, k4, k5⟩
  · exact absurd hr ho
  have := k5 trivial
  subst this
  rw [List.append_nil] at k4
  cases o with
  | some t => exact ⟨hk.trans h'.1, h'.2⟩
  | none =>
    rcases h' with ⟨h0, h1, h2⟩ | ⟨h0, h1, u2, tr', h2, h3, h4, h5⟩
    · exact Or.inl ⟨h0, hk.1.trans h1, h2⟩
    · exact Or.inr ⟨h0, hk.trans h1, u2, tr', h2, h3, by omega, RunM_eq h5 (by rw [k4])⟩
/-- tries: what failed is put back -/
theorem m_tries {N : Nat} {w : Int32} {s : Prop} {R : Tm → Int64 → RnS → RnR} (hd : 6 ≤ d) (hR : RFun True 1 R) (hc : Srv A N 1 s (fun i M => pcl GG lay d 140 [.ref 52, .int w, .int (jn i)] M) R) : Srv A N 0 True (fun i M => pcl GG lay (d + 1) 132 [.ref 52, .int w, .int (jn i)] M) R := by
  intro T i u q K M hT hi hu hs hq hTs hK hN h
  have hw : wf u := hu ▸ sub_wf hT hi
  have hz := sub_sz hT hi
  rw [hu] at hz
  have hat := sub_at hT hi h.1.2.2
  rw [hu, Nat.zero_add] at hat
  have hq1 := hq.1
  have hq2 := hq.2.1
  obtain ⟨M1, e1, e2, e3, e4, e5, e6, e7⟩ := c_keep (d := d) (M := M) (i := i) (K := K) (L := q.2.2.1.length) (t := u) (by omega) hw hat (by omega) h.2.1.2.2.2.2 h.2.1.2.2.1 (by omega)
  have h1 : RunM A T q (K + sz u + 2) M1 := RunM_K h e2 e3
  obtain ⟨M2, f1, f2⟩ := hc T i u q (K + sz u + 2) M1 hT hi hu hs hq hTs (by omega) hN h1
  have f1 : pcl GG lay d 140 [.ref 52, .int w, .int (jn i)] M1 = rI (bI ((R u (paT T i) q).1.isSome = true)) M2 := f1
  have hr := hR u (paT T i) q hw hs hq
  have k1 : Kp K M M1 := ⟨e2.mono (by decide), e7⟩
  show ∃ M', pcl GG lay (d + 1) 132 [.ref 52, .int w, .int (jn i)] M = _ ∧ _
  rw [q_132, e1, kV_r, f1, kI_r]
  rcases e : R u (paT T i) q with ⟨_ | t, q'⟩
  · rw [e] at f2 hr
    rw [f2.out, bI_none]
    by_cases ho : q'.2.2.2 = true
    · rw [if_pos ho, ieq_neg (by omega) (by omega) (by omega), rZ_0]
      exact ⟨M2, rfl, f2.ovr ho k1.1⟩
    · rw [if_neg ho, ieq_pos rfl, ieq_pos rfl]
      rcases f2 with ⟨f2, -⟩ | ⟨f0, f3, u2, tr, f4, f5, f6, f7⟩
      · exact absurd f2 ho
      rcases hr with hr | ⟨r1, r2, r3, tr', r4, r5⟩
      · exact absurd hr ho
      have := r5 trivial
      subst this
      rw [List.append_nil] at r4
      have r6 := r1.2.1
      have z2 := rep_sz (s := u2) hT hi
      rw [hu] at z2
      have hT2 := rep_wf hT hi f5
      have l1 := f3.2
      obtain ⟨M3, p1, p2, p3, p4⟩ := c_undo (d := d) (M := M2) (i := i) (K := K) (L := q.2.2.1.length) (t := u) (T := rep T i u2) (by omega) f7.2.1.2.2.2.2 (At_congr e4 (fun j j1 j2 => l1 j (by have : (en u).length = sz u := rfl; omega))) (by rw [l1 _ (by omega)]; exact e5) (by rw [l1 _ (by omega)]; exact e6) (by omega) f7.1.2.1 hT2 f7.1.2.2 (rep_lt hT hi f5) (by omega)
      have eT : rep (rep T i u2) i u = T := by rw [rep_rep hT hi f5 hw, ← hu, rep_self hT hi]
      rw [eT] at p3 p4
      rw [p1, kV_r, rZ_0]
      have n52 : ∀ j, j ≠ 19 → j ≠ 30 → j ≠ 33 → M3.1 52 j = M2.1 52 j := fun j j1 j2 j3 => by rw [p3, up_at, if_neg j2, up_at, if_neg j1, up_at, if_neg j3]
      have kp : Kp K M M3 := k1.trans (Kp.trans ⟨f3.1, fun j hj => f3.2 j (by omega)⟩ (Kp.of p2 (by decide)))
      refine ⟨M3, rfl, Or.inr ⟨f0, kp, u, [], fun _ => ⟨rfl, rfl⟩, hw, by omega, RunM_t (T := T) ?_ (by rw [← hu, rep_self hT hi])⟩⟩
      rw [List.append_nil]
      refine ⟨⟨RM_sc f7.1.1 (p2.mono (by decide)) (fun j hj => n52 j (by rintro rfl; revert hj; decide) (by rintro rfl; revert hj; decide) (by rintro rfl; revert hj; decide)), ?_, p4⟩, ⟨?_, ?_, ?_, ?_, ?_⟩, fun k x hx => ?_⟩
      · rw [p3, up_at, if_neg (by omega), up_at, if_pos rfl]
      · rw [n52 28 (by omega) (by omega) (by omega)]; exact f7.2.1.1
      · rw [n52 29 (by omega) (by omega) (by omega)]; exact f7.2.1.2.1
      · rw [p3, up_at, if_pos rfl]
      · rw [n52 27 (by omega) (by omega) (by omega)]; exact f7.2.1.2.2.2.1
      · rw [p3, up_at, if_neg (by omega), up_at, if_neg (by omega), up_at, if_pos rfl]
      · rw [p2.1 70 (by decide), p2.2 71 (by decide)]
        exact f7.2.2 k x (by rw [List.getElem?_append_left (List.getElem?_eq_some_iff.mp hx).1]; exact hx)
  · rw [e] at f2 hr
    obtain ⟨f3, f4⟩ := f2
    have ho : q'.2.2.2 = false := hr.2.2.1.2.2.2.1
    rw [RunM_27 f4 ho, ieq_pos rfl, bI_some, ieq_neg (by omega) (by omega) (by omega)]
    rw [c_unkept (K := K) (t := u) (L := q.2.2.1.length) (by omega) f4.2.1.2.2.2.2 (by rw [f3.2 _ (by omega)]; exact e5) (by rw [f3.2 _ (by omega)]; exact e6) (by omega), kV_r, rZ_1]
    refine ⟨_, rfl, k1.trans (Kp.trans ⟨f3.1, fun j hj => f3.2 j (by omega)⟩ (Kp.of (S := [52]) (Fr.sI (by decide)) (by decide))), RunM_K f4 (Fr.sI (by decide)) (by rw [sI_k])⟩
/-- whether the whole is not too large -/
theorem m_chk {s : Prop} {u u' : Tm} {q' : RnS} {M0 : PM} (hd : 5 ≤ d) (hT : wf T) (hi : i < sz T) (hw : wf u') (h : RunM A (rep T i u') q' K M) (hk : Kp K M0 M) (hTs : sz (rep T i u') ≤ 8100) : ∃ M', pcl GG lay d 133 [.ref 52, .int (jn i)] M = rI (bI ((chk u' q').1.isSome = true)) M' ∧ OutM s A T i u q K M0 (chk u' q') M' := by
  obtain ⟨d, rfl⟩ := ex_add hd
  have hT2 := rep_wf hT hi hw
  have hl := rep_lt hT hi hw
  have hz := sub_sz hT2 hl
  have hat := sub_at hT2 hl h.1.2.2
  rw [sub_rep hT hi hw] at hz hat
  rw [Nat.zero_add] at hat
  rw [q_133, c_span (n := 8100) (by omega) rfl (by omega) hw hat (by omega), kI_r]
  unfold chk
  by_cases h4 : 40 < sz u'
  · obtain ⟨M', p1, p2, p3⟩ := RunM_over (d := d + 4) (by omega) h
    rw [ilt_pos h4 (by omega), p1, kI_r, ieq_pos rfl, rZ_0, if_pos h4]
    refine ⟨M', by rw [bI_none], Or.inl ⟨rfl, hk.1.trans (p3.mono (by decide)), p2.1.1, ?_⟩⟩
    rw [p2.2.1.2.2.2.1]; exact bI_1 rfl
  · rw [ilt_neg (by omega) (by omega), rZ_1, if_neg h4]
    exact ⟨M, by rw [bI_some], hk, h⟩
end
