/-! overlaps: which there are -/
abbrev ovK (a b : Int32) : Nat := if a = b then 1 else 0
noncomputable abbrev ovN (A : AT) (a b : Int32) : List (Tm × Tm × Tm) := ovL (rlN A a) (rlN A b) (ovK a b)
noncomputable def F_overlaps (A : AT) (a b : Int32) : Int32 × AT := if ¬ hsR A a then rfs A 1 else if ¬ hsR A b then rfs A 1 else (jn (ovN A a b).length, A)
abbrev ovW (o : Tm × Tm × Tm) (e : Int32) : Tm := if e = jn 0 then o.1 else if e = jn 1 then o.2.1 else o.2.2
noncomputable def F_overlap (A : AT) (a b c e : Int32) : Int32 × AT := if ¬ hsR A a then rfs A 1 else if ¬ hsR A b then rfs A 1 else if ¬ (0 ≤ e.toInt ∧ e.toInt ≤ 2) then rfs A 5 else if c.toInt < 0 then rfs A 5 else match (ovN A a b)[c.toInt.toNat]? with
  | none => rfs A 5
  | some o => addT A (ovW o e)
theorem ovN_ok {A : AT} {a b : Int32} (hA : AOk A) (h1 : hsR A a) (h2 : hsR A b) : (ovN A a b).length ≤ 40 ∧ ∀ o ∈ ovN A a b, ovO o := by
  obtain ⟨n, r, rfl, k1, k2, k3, k4⟩ := rs_of hA h1
  obtain ⟨n', q, rfl, i1, i2, i3, i4⟩ := rs_of hA h2
  unfold ovN
  rw [k2, i2]
  refine ovL_ok k3 i3 ?_
  have := sz_pos r.1 k3.1
  unfold ovK
  split <;> omega
theorem ovW_ok {o : Tm × Tm × Tm} {e : Int32} (h : ovO o) : wf (ovW o e) ∧ sz (ovW o e) ≤ 40 := by
  unfold ovW
  split
  · exact h.1
  split
  · exact h.2.1
  · exact h.2.2
section
variable {d : Nat} {A : AT} {M M' : PM} {a b c e f : Int32} {r q : Tm × Tm} {i j : Nat}
theorem k_overlap (hA : AOk A) : AOk (F_overlap A a b c e).2 := by
  unfold F_overlap
  split
  · exact hA
  rename_i h1
  split
  · exact hA
  rename_i h2
  split
  · exact hA
  split
  · exact hA
  split
  · exact hA
  · rename_i o ho
    have := (ovN_ok hA (Classical.not_not.mp h1) (Classical.not_not.mp h2)).2 o (List.mem_of_getElem? ho)
    exact k_addT hA (ovW_ok this).1 (ovW_ok this).2
theorem k_overlaps (hA : AOk A) : AOk (F_overlaps A a b).2 := by
  unfold F_overlaps
  repeat' split
  all_goals exact hA
end
