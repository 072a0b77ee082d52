/-! the model's run: its state -/
/-- the tree, the counters, the trail, how much is kept -/
def RunM (A : AT) (T : Tm) (q : RnS) (K : Nat) (M : PM) : Prop := GR A T M ∧ (M.1 52 28 = jn q.1 ∧ M.1 52 29 = jn q.2.1 ∧ M.1 52 30 = jn q.2.2.1.length ∧ M.1 52 27 = bI (q.2.2.2 = true) ∧ M.1 52 33 = jn K) ∧ ∀ k x, q.2.2.1[k]? = some x → M.1 70 k = jn x.1 ∧ M.2 71 k = x.2
section
variable {d : Nat} {A : AT} {M : PM} {a b c e f : Int32} {v : Int64}
end
