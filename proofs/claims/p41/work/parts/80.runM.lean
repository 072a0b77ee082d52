/-! the model's run: its state -/
/-- the tree, the counters, the trail, how much is kept -/
def RunM (A : AT) (T : Tm) (q : RnS) (K : Nat) (M : PM) : Prop := GR A T M ∧ (M.1 52 28 = jn q.1 ∧ M.1 52 29 = jn q.2.1 ∧ M.1 52 30 = jn q.2.2.1.length ∧ M.1 52 27 = bI (q.2.2.2 = true) ∧ M.1 52 33 = jn K) ∧ ∀ k x, q.2.2.1[k]? = some x → M.1 70 k = jn x.1 ∧ M.2 71 k = x.2
section
variable {d : Nat} {A : AT} {M : PM} {a b c e f : Int32} {v : Int64}
/-- numbers that a match or a building leaves -/
theorem RunM_fr {T : Tm} {q : RnS} {K : Nat} {M' : PM} (h : RunM A T q K M) (hf : Fr [52, 66, 67, 68, 69] M M') (h52 : ∀ j, j ≠ 20 → j ≠ 21 → j ≠ 26 → M'.1 52 j = M.1 52 j) : RunM A T q K M' := by
  obtain ⟨⟨h1, h2, h3⟩, ⟨a1, a2, a3, a4, a5⟩, h4⟩ := h
  refine ⟨⟨RM_sc h1 (hf.mono (by decide)) (fun j hj => h52 j (by rintro rfl; revert hj; decide) (by rintro rfl; revert hj; decide) (by rintro rfl; revert hj; decide)), ?_, ?_⟩, ⟨?_, ?_, ?_, ?_, ?_⟩, fun k x hx => ?_⟩
  · rw [h52 19 (by omega) (by omega) (by omega)]; exact h2
  · rw [hf.1 65 (by decide)]; exact h3
  · rw [h52 28 (by omega) (by omega) (by omega)]; exact a1
  · rw [h52 29 (by omega) (by omega) (by omega)]; exact a2
  · rw [h52 30 (by omega) (by omega) (by omega)]; exact a3
  · rw [h52 27 (by omega) (by omega) (by omega)]; exact a4
  · rw [h52 33 (by omega) (by omega) (by omega)]; exact a5
  · rw [hf.1 70 (by decide), hf.2 71 (by decide)]; exact h4 k x hx
end
