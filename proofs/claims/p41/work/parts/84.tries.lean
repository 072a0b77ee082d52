/-! the model's run: what a strategy's answer is, what is tried, what is too large -/
abbrev swM : List Nat := [52, 65, 66, 67, 68, 69, 70, 71, 72]
def Kp (K : Nat) (M M' : PM) : Prop := Fr swM M M' ∧ ∀ j, j < K → M'.1 72 j = M.1 72 j
theorem Kp.rf {K : Nat} {M : PM} : Kp K M M := ⟨Fr.rf, fun _ _ => rfl⟩
theorem Kp.trans {K : Nat} {M M' M'' : PM} (h : Kp K M M') (h' : Kp K M' M'') : Kp K M M'' := ⟨h.1.trans h'.1, fun j hj => (h'.2 j hj).trans (h.2 j hj)⟩
theorem Kp.of {K : Nat} {S : List Nat} {M M' : PM} (h : Fr S M M') (hs : ∀ k ∈ S, k ∈ swM ∧ k ≠ 72) : Kp K M M' := ⟨h.mono (fun k hk => (hs k hk).1), fun j _ => by rw [h.1 72 (fun q => (hs 72 q).2 rfl)]⟩
def OutM (s : Prop) (A : AT) (T : Tm) (i : Nat) (u : Tm) (q : RnS) (K : Nat) (M : PM) (o : RnR) (M' : PM) : Prop := match o with
  | (some u', q') => Kp K M M' ∧ RunM A (rep T i u') q' K M'
  | (none, q') => (q'.2.2.2 = true ∧ Fr swM M M' ∧ RM A M' ∧ M'.1 52 27 = jn 1) ∨ (q'.2.2.2 = false ∧ Kp K M M' ∧ ∃ u'' tr, (s → u'' = u ∧ tr = []) ∧ wf u'' ∧ sz u'' + 39 * q.2.1 ≤ sz u + 39 * q'.2.1 ∧ RunM A (rep T i u'') (q'.1, q'.2.1, q.2.2.1 ++ tr, false) K M')
def Srv (A : AT) (N k : Nat) (s : Prop) (c : Nat → PM → PO) (R : Tm → Int64 → RnS → RnR) : Prop := ∀ (T : Tm) (i : Nat) (u : Tm) (q : RnS) (K : Nat) (M : PM), wf T → i < sz T → sub T i = u → sz u ≤ 40 → QOk q → sz T ≤ 40 + 39 * q.2.1 → K ≤ 42 * (q.1 + k) → N ≤ q.1 → RunM A T q K M →
  ∃ M', c i M = rI (bI ((R u (paT T i) q).1.isSome = true)) M' ∧ OutM s A T i u q K M (R u (paT T i) q) M'
theorem bI_some {u : Tm} {q : RnS} : bI (((some u, q) : RnR).1.isSome = true) = jn 1 := bI_1 rfl
theorem bI_none {q : RnS} : bI (((none, q) : RnR).1.isSome = true) = jn 0 := bI_n (by simp)
section
variable {d : Nat} {A : AT} {M M1 M' : PM} {a b c e f : Int32} {v : Int64} {T : Tm} {q : RnS} {K i : Nat}
theorem RunM_eq {q' : RnS} (h : RunM A T q K M) (e : q = q') : RunM A T q' K M := e ▸ h
theorem RunM_t {T' : Tm} (h : RunM A T q K M) (e : T = T') : RunM A T' q K M := e ▸ h
theorem RunM_27 (h : RunM A T q K M) (ho : q.2.2.2 = false) : M.1 52 27 = jn 0 := by rw [h.2.1.2.2.2.1, ho]; exact bI_n (by simp)
/-- only how much is kept is another number -/
theorem RunM_K {K' : Nat} (h : RunM A T q K M) (hf : Fr [52, 72] M M') (h52 : M'.1 52 = va_up (M.1 52) 33 (jn K')) : RunM A T q K' M' := by
  obtain ⟨⟨h1, h2, h3⟩, ⟨a1, a2, a3, a4, a5⟩, h4⟩ := h
  have e : ∀ j, j ≠ 33 → M'.1 52 j = M.1 52 j := fun j hj => by rw [h52, up_at, if_neg hj]
  refine ⟨⟨RM_sc h1 (hf.mono (by decide)) (fun j hj => e j (by rintro rfl; revert hj; decide)), ?_, ?_⟩, ⟨?_, ?_, ?_, ?_, ?_⟩, fun k x hx => ?_⟩
  · rw [e 19 (by omega)]; exact h2
  · rw [hf.1 65 (by decide)]; exact h3
  · rw [e 28 (by omega)]; exact a1
  · rw [e 29 (by omega)]; exact a2
  · rw [e 30 (by omega)]; exact a3
  · rw [e 27 (by omega)]; exact a4
  · rw [h52, up_at, if_pos rfl]
  · rw [hf.1 70 (by decide), hf.2 71 (by decide)]; exact h4 k x hx
/-- what is there when a try failed -/
theorem OutM.back {u : Tm} {q1 : RnS} {k : Nat} (h : OutM True A T i u q K M (none, q1) M') (ho : ¬ q1.2.2.2 = true) (hr : ROk True k u q (none, q1)) (hT : wf T) (hi : i < sz T) (hu : sub T i = u) : Kp K M M' ∧ RunM A T q1 K M' := by
  rcases h with ⟨h, -⟩ | ⟨h0, h1, u2, tr, h2, h3, h4, h5⟩
  · exact absurd h ho
  obtain ⟨rfl, rfl⟩ := h2 trivial
  rcases hr with hr | ⟨k1, k2, k3, tr', k4, k5⟩
  · exact absurd hr ho
  have := k5 trivial
  subst this
  refine ⟨h1, RunM_t (RunM_eq h5 ?_) (by rw [← hu]; exact rep_self hT hi)⟩
  rw [List.append_nil] at k4 ⊢
  rw [← k4, ← h0]
theorem OutM.out {s : Prop} {u : Tm} {q1 : RnS} (h : OutM s A T i u q K M (none, q1) M') : M'.1 52 27 = if q1.2.2.2 = true then jn 1 else jn 0 := by
  rcases h with ⟨h, -, -, h2⟩ | ⟨h0, h1, u2, tr, h2, h3, h4, h5⟩
  · rw [if_pos h]; exact h2
  · rw [if_neg (by rw [h0]; simp)]; exact RunM_27 h5 rfl
theorem OutM.loose {s : Prop} {u : Tm} {o : RnR} (h : OutM s A T i u q K M o M') : OutM False A T i u q K M o M' := by
  obtain ⟨o, q'⟩ := o
  cases o with
  | some t => exact h
  | none =>
    rcases h with h | ⟨h0, h1, u2, tr, h2, h3⟩
    · exact Or.inl h
    · exact Or.inr ⟨h0, h1, u2, tr, fun z => z.elim, h3⟩
/-- over is over, wherever -/
theorem OutM.ovr {s s' : Prop} {u u' T' : Tm} {i' K' : Nat} {q0 q1 : RnS} {M0 : PM} (h : OutM s A T i u q K M (none, q1) M') (ho : q1.2.2.2 = true) (hf : Fr swM M0 M) : OutM s' A T' i' u' q0 K' M0 (none, q1) M' := by
  rcases h with ⟨h, h1, h2⟩ | ⟨h, -⟩
  · exact Or.inl ⟨h, hf.trans h1, h2⟩
  · rw [h] at ho; cases ho
theorem OutM.arg1 {s : Prop} {x y : Tm} {q1 : RnS} (hT : wf T) (hi : i < sz T) (hu : sub T i = Nd c x y) (hx : wf x) (h : OutM s A T (i + 1) x q K M (none, q1) M') : OutM False A T i (Nd c x y) q K M (none, q1) M' := by
  rcases h with h | ⟨h0, h1, u2, tr, h2, h3, h4, h5⟩
  · exact Or.inl h
  · refine Or.inr ⟨h0, h1, Nd c u2 y, tr, fun z => z.elim, wf_n1 (hu ▸ sub_wf hT hi) hx h3, by rw [sz_n, sz_n]; omega, RunM_t h5 (rep_c1 hT hi hu hx h3)⟩
/-- one behind another -/
theorem OutM.seq {s s' : Prop} {k : Nat} {u t1 : Tm} {q1 : RnS} {o : RnR} (hT : wf T) (hi : i < sz T) (hu : wf u) (h : OutM s A T i u q K M (some t1, q1) M1) (hr : ROk s' k u q (some t1, q1)) (h' : OutM s A (rep T i t1) i t1 q1 K M1 o M') (hw : ∀ t, o.1 = some t → wf t) : OutM False A T i u q K M o M' := by
  obtain ⟨o, q'⟩ := o
  obtain ⟨g1, g2, g3, g4, g5, g6, tr, g7⟩ := hr
  obtain ⟨p1, p2⟩ := h
  cases o with
  | some t => exact ⟨p1.trans h'.1, RunM_t h'.2 (rep_rep hT hi g1 (hw t rfl))⟩
  | none =>
    rcases h' with ⟨h0, h1, h2⟩ | ⟨h0, h1, u2, tr', h2, h3, h4, h5⟩
    · exact Or.inl ⟨h0, p1.1.trans h1, h2⟩
    · exact Or.inr ⟨h0, p1.trans h1, u2, tr ++ tr', fun z => z.elim, h3, by omega, RunM_t (RunM_eq h5 (by rw [g7, List.append_assoc])) (rep_rep hT hi g1 h3)⟩
/-- behind a try that failed -/
theorem OutM.els {s : Prop} {u : Tm} {q1 : RnS} {o : RnR} {k : Nat} (hr : ROk True k u q (none, q1)) (ho : ¬ q1.2.2.2 = true) (hk : Kp K M M1) (h' : OutM s A T i u q1 K M1 o M') : OutM s A T i u q K M o M' := by
  obtain ⟨o, q'⟩ := o
  rcases hr with hr | ⟨k1, k2, k3, tr, k4, k5⟩
  · exact absurd hr ho
  have := k5 trivial
  subst this
  rw [List.append_nil] at k4
  cases o with
  | some t => exact ⟨hk.trans h'.1, h'.2⟩
  | none =>
    rcases h' with ⟨h0, h1, h2⟩ | ⟨h0, h1, u2, tr', h2, h3, h4, h5⟩
    · exact Or.inl ⟨h0, hk.1.trans h1, h2⟩
    · exact Or.inr ⟨h0, hk.trans h1, u2, tr', h2, h3, by omega, RunM_eq h5 (by rw [k4])⟩
end
