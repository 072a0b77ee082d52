/-! what isn't written: one number of an object -/
section
variable {P : PM → Prop} {M M' : PM} {j0 : Nat}
theorem sI_at {k : Nat} {f : Nat → Int32} (h : k = 52 → f j0 = M.1 52 j0) : (sI M k f).1 52 j0 = M.1 52 j0 := by
  show (if 52 = k then f else M.1 52) j0 = M.1 52 j0
  split
  · rename_i e; exact h e.symm
  · rfl
theorem putf_kp {k ci j : Nat} {v : Value} (hj : j ≠ j0) (h : putf lay M k ci j v = some M') : M'.1 52 j0 = M.1 52 j0 := by
  have key : ∀ x, (sI M k (va_up (M.1 k) j x)).1 52 j0 = M.1 52 j0 := fun x => sI_at (fun e => by rw [e, up_at, if_neg (Ne.symm hj)])
  unfold putf at h
  split at h
  · split at h
    · split at h
      · cases h; exact key _
      · split at h
        · cases h; exact key _
        · cases h
      · split at h
        · cases h; exact key _
        · cases h
      · cases h
    · cases h
  · cases h
theorem astL_kp {a : Nat} {i : Int32} {x : Int64} (h : astL lay M a i x = some M') : M'.1 52 j0 = M.1 52 j0 := by
  unfold astL at h
  split at h
  · split at h
    · cases h; rfl
    · cases h
  · cases h
end
