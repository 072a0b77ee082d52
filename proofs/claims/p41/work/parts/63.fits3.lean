/-! bound, fits, redexes, rewrite by the model -/
section
variable {d : Nat} {A : AT} {M : PM} {a b c e f : Int32} {v : Int64}
def GR (A : AT) (t : Tm) (M : PM) : Prop := RM A M ∧ M.1 52 19 = jn (sz t) ∧ At (M.1 65) 0 (en t)
theorem ML.pre {o : PO} {M M' : PM} {ra : Int64 × AT} (h : ML o M' ra) (hh : Lo M M') : ML o M ra := by
  obtain ⟨M2, e1, e2, e3⟩ := h
  exact ⟨M2, e1, e2, hh.trans e3⟩
end
