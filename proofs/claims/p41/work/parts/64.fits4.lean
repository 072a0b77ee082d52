/-! redexes, rewrite by the model -/
section
variable {d : Nat} {A : AT} {M : PM} {a b c e f : Int32} {v : Int64}
theorem or_two (v b : Int64) : v ||| b ||| b = v ||| b := by rw [Int64.or_assoc, Int64.or_self]
end
