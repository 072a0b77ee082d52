/-! what the model puts into its tree -/
section
variable {d : Nat} {A : AT} {M : PM} {a b c f : Int32} {v : Int64} {e : EV}
abbrev TM (M : PM) (g : Nat → Int32) : PM := sI M 65 g
end
