/-! bound, fits, redexes, rewrite by the model -/
section
variable {d : Nat} {A : AT} {M : PM} {a b c e f : Int32} {v : Int64}
def GR (A : AT) (t : Tm) (M : PM) : Prop := RM A M ∧ M.1 52 19 = jn (sz t) ∧ At (M.1 65) 0 (en t)
end
