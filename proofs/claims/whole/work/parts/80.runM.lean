/-! the model's run: its state -/
/-- the tree, the counters, the trail, how much is kept -/
def RunM (A : AT) (T : Tm) (q : RnS) (K : Nat) (M : PM) : Prop := GR A T M ∧ (M.1 52 28 = jn q.1 ∧ M.1 52 29 = jn q.2.1 ∧ M.1 52 30 = jn q.2.2.1.length ∧ M.1 52 27 = bI (q.2.2.2 = true) ∧ M.1 52 33 = jn K) ∧ ∀ k x, q.2.2.1[k]? = some x → M.1 70 k = jn x.1 ∧ M.2 71 k = x.2
section
variable {d : Nat} {A : AT} {M : PM} {a b c e f : Int32} {v : Int64}
/-- numbers that a match or a building leaves -/
theorem RunM_fr {T : Tm} {q : RnS} {K : Nat} {M' : PM} (h : RunM A T q K M) (hf : Fr [52, 66, 67, 68, 69] M M') (h52 : ∀ j, j ≠ 20 → j ≠ 21 → j ≠ 26 → M'.1 52 j = M.1 52 j) : RunM A T q K M' := by
  obtain ⟨⟨h1, h2, h3⟩, ⟨a1, a2, a3, a4, a5⟩, h4⟩ := h
  refine ⟨⟨RM_sc h1 (hf.mono (by decide)) (fun j hj => h52 j (by rintro rfl; revert hj; decide) (by rintro rfl; revert hj; decide) (by rintro rfl; revert hj; decide)), ?_, ?_⟩, ⟨?_, ?_, ?_, ?_, ?_⟩, fun k x hx => ?_⟩
  · rw [h52 19 (by omega) (by omega) (by omega)]; exact h2
  · rw [hf.1 65 (by decide)]; exact h3
  · rw [h52 28 (by omega) (by omega) (by omega)]; exact a1
  · rw [h52 29 (by omega) (by omega) (by omega)]; exact a2
  · rw [h52 30 (by omega) (by omega) (by omega)]; exact a3
  · rw [h52 27 (by omega) (by omega) (by omega)]; exact a4
  · rw [h52 33 (by omega) (by omega) (by omega)]; exact a5
  · rw [hf.1 70 (by decide), hf.2 71 (by decide)]; exact h4 k x hx
/-- over -/
theorem RunM_over {T : Tm} {q : RnS} {K : Nat} (hd : 1 ≤ d) (h : RunM A T q K M) : ∃ M', pcl GG lay d 125 [.ref 52] M = rI (jn 0) M' ∧ RunM A T (ovr q).2 K M' ∧ Fr [52] M M' := by
  obtain ⟨⟨h1, h2, h3⟩, ⟨a1, a2, a3, a4, a5⟩, h4⟩ := h
  have e : ∀ j, j ≠ 27 → (sI M 52 (va_up (M.1 52) 27 (jn 1))).1 52 j = M.1 52 j := fun j hj => by rw [sI_k, up_at, if_neg hj]
  refine ⟨_, c_gone hd, ⟨⟨RM_sc h1 (Fr.sI (by decide)) (fun j hj => e j (by rintro rfl; revert hj; decide)), ?_, h3⟩, ⟨?_, ?_, ?_, ?_, ?_⟩, h4⟩, Fr.sI (by decide)⟩
  · rw [e 19 (by omega)]; exact h2
  · rw [e 28 (by omega)]; exact a1
  · rw [e 29 (by omega)]; exact a2
  · rw [e 30 (by omega)]; exact a3
  · rw [sI_k, up_at, if_pos rfl]; exact (bI_1 rfl).symm
  · rw [e 33 (by omega)]; exact a5
/-- one more begins, or it goes over -/
theorem RunM_begin {T : Tm} {q : RnS} {K : Nat} (hd : 2 ≤ d) (h : RunM A T q K M) (hq : q.1 ≤ 600) : ∃ M', pcl GG lay d 139 [.ref 52] M = rI (bI (q.1 ≠ 600)) M' ∧ RunM A T (if q.1 = 600 then (ovr q).2 else bgn q) K M' ∧ Fr [52] M M' := by
  have e0 := c_begin (M := M) (n := q.1) hd h.2.1.1 hq
  by_cases h6 : q.1 = 600
  · obtain ⟨M', f1, f2, f3⟩ := RunM_over (d := 1) (by omega) h
    rw [c_gone (by omega)] at f1
    have f1 := congrArg (fun o : PO => o) f1
    rw [if_pos h6] at e0 ⊢
    refine ⟨sI M 52 (va_up (M.1 52) 27 (jn 1)), ?_, ?_, Fr.sI (by decide)⟩
    · rw [e0, bI_n (by simp [h6])]
    · have : M' = sI M 52 (va_up (M.1 52) 27 (jn 1)) := by
        unfold rI at f1
        simp only [Option.some.injEq, Prod.mk.injEq] at f1
        exact f1.2.symm
      rw [this] at f2; exact f2
  · rw [if_neg h6] at e0 ⊢
    obtain ⟨⟨h1, h2, h3⟩, ⟨a1, a2, a3, a4, a5⟩, h4⟩ := h
    have e : ∀ j, j ≠ 28 → (sI M 52 (va_up (M.1 52) 28 (jn (q.1 + 1)))).1 52 j = M.1 52 j := fun j hj => by rw [sI_k, up_at, if_neg hj]
    refine ⟨_, by rw [e0, bI_1 h6], ⟨⟨RM_sc h1 (Fr.sI (by decide)) (fun j hj => e j (by rintro rfl; revert hj; decide)), ?_, h3⟩, ⟨?_, ?_, ?_, ?_, ?_⟩, h4⟩, Fr.sI (by decide)⟩
    · rw [e 19 (by omega)]; exact h2
    · rw [sI_k, up_at, if_pos rfl]
    · rw [e 29 (by omega)]; exact a2
    · rw [e 30 (by omega)]; exact a3
    · rw [e 27 (by omega)]; exact a4
    · rw [e 33 (by omega)]; exact a5
end
