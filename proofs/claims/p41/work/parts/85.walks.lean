/-! the model's run: arguments -/
section
variable {d : Nat} {A : AT} {M M1 M' : PM} {a b c e f : Int32} {v : Int64} {T : Tm} {q : RnS} {K i : Nat}
theorem rZ_if {b : Prop} [Decidable b] (M : PM) : (if bI b = jn 0 then rZ (jn 0) M else rZ (jn 1) M) = rI (bI b) M := by
  by_cases h : b
  · rw [bI_1 h, ieq_neg (by omega) (by omega) (by omega), rZ_1]
  · rw [bI_n h, ieq_pos rfl, rZ_0]
end
