/-! the model's run: what a strategy's answer is, what is tried, what is too large -/
abbrev swM : List Nat := [52, 65, 66, 67, 68, 69, 70, 71, 72]
def Kp (K : Nat) (M M' : PM) : Prop := Fr swM M M' ∧ ∀ j, j < K → M'.1 72 j = M.1 72 j
theorem Kp.rf {K : Nat} {M : PM} : Kp K M M := ⟨Fr.rf, fun _ _ => rfl⟩
theorem Kp.trans {K : Nat} {M M' M'' : PM} (h : Kp K M M') (h' : Kp K M' M'') : Kp K M M'' := ⟨h.1.trans h'.1, fun j hj => (h'.2 j hj).trans (h.2 j hj)⟩
theorem Kp.of {K : Nat} {S : List Nat} {M M' : PM} (h : Fr S M M') (hs : ∀ k ∈ S, k ∈ swM ∧ k ≠ 72) : Kp K M M' := ⟨h.mono (fun k hk => (hs k hk).1), fun j _ => by rw [h.1 72 (fun q => (hs 72 q).2 rfl)]⟩
def OutM (s : Prop) (A : AT) (T : Tm) (i : Nat) (u : Tm) (q : RnS) (K : Nat) (M : PM) (o : RnR) (M' : PM) : Prop := match o with
  | (some u', q') => Kp K M M' ∧ RunM A (rep T i u') q' K M'
  | (none, q') => (q'.2.2.2 = true ∧ Fr swM M M' ∧ RM A M' ∧ M'.1 52 27 = jn 1) ∨ (q'.2.2.2 = false ∧ Kp K M M' ∧ ∃ u'' tr, (s → u'' = u ∧ tr = []) ∧ wf u'' ∧ sz u'' + 39 * q.2.1 ≤ sz u + 39 * q'.2.1 ∧ RunM A (rep T i u'') (q'.1, q'.2.1, q.2.2.1 ++ tr, false) K M')
def Srv (A : AT) (N k : Nat) (s : Prop) (c : Nat → PM → PO) (R : Tm → Int64 → RnS → RnR) : Prop := ∀ (T : Tm) (i : Nat) (u : Tm) (q : RnS) (K : Nat) (M : PM), wf T → i < sz T → sub T i = u → sz u ≤ 40 → QOk q → sz T ≤ 40 + 39 * q.2.1 → K ≤ 42 * (q.1 + k) → N ≤ q.1 → RunM A T q K M →
  ∃ M', c i M = rI (bI ((R u (paT T i) q).1.isSome = true)) M' ∧ OutM s A T i u q K M (R u (paT T i) q) M'
theorem bI_some {u : Tm} {q : RnS} : bI (((some u, q) : RnR).1.isSome = true) = jn 1 := bI_1 rfl
theorem bI_none {q : RnS} : bI (((none, q) : RnR).1.isSome = true) = jn 0 := bI_n (by simp)
section
variable {d : Nat} {A : AT} {M M1 M' : PM} {a b c e f : Int32} {v : Int64} {T : Tm} {q : RnS} {K i : Nat}
end
