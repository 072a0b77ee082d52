/-! what isn't written: one number of an object -/
def SRk (P : PM → Prop) : SR → Prop
  | .inl none => True
  | .inl (some o) => P o.2
  | .inr q => P q.2.2.2
def kpX (j0 : Nat) (S : Nat → Bool) (x : XE) : Bool := match x with
  | (_, i, _, r1, r2, _, _) => match i with
    | .putfield _ => r2 != j0
    | .invokestatic _ => S r1
    | .invokevirtual _ => S r1
    | _ => true
section
variable {P : PM → Prop} {M M' : PM} {j0 : Nat}
theorem SRk_nxt {pc : Nat} {L : LC} {st : List Value} (h : P M) : SRk P (nxt pc L st M) := h
theorem SRk_stk : SRk P stk := trivial
theorem SRk_ret {v : Option Value} (h : P M) : SRk P (.inl (some (v, M))) := h
theorem SRk_ofo {α : Type} {o : Option α} {k : α → SR} (h : ∀ x, o = some x → SRk P (k x)) : SRk P (ofo o k) := by
  cases o with
  | none => trivial
  | some x => exact h x rfl
theorem SRk_calr {o : PO} {k nx : Nat} {L : LC} {st : List Value} (h : ∀ r M', o = some (r, M') → P M') : SRk P (calr o k nx L st) := by
  unfold calr
  split
  · split
    · exact h _ _ rfl
    · trivial
  · split
    · exact h _ _ rfl
    · trivial
  · split
    · exact h _ _ rfl
    · trivial
theorem sI_at {k : Nat} {f : Nat → Int32} (h : k = 52 → f j0 = M.1 52 j0) : (sI M k f).1 52 j0 = M.1 52 j0 := by
  show (if 52 = k then f else M.1 52) j0 = M.1 52 j0
  split
  · rename_i e; exact h e.symm
  · rfl
theorem putf_kp {k ci j : Nat} {v : Value} (hj : j ≠ j0) (h : putf lay M k ci j v = some M') : M'.1 52 j0 = M.1 52 j0 := by
  have key : ∀ x, (sI M k (va_up (M.1 k) j x)).1 52 j0 = M.1 52 j0 := fun x => sI_at (fun e => by rw [e, up_at, if_neg (Ne.symm hj)])
  unfold putf at h
  split at h
  · split at h
    · split at h
      · cases h; exact key _
      · split at h
        · cases h; exact key _
        · cases h
      · split at h
        · cases h; exact key _
        · cases h
      · cases h
    · cases h
  · cases h
theorem astL_kp {a : Nat} {i : Int32} {x : Int64} (h : astL lay M a i x = some M') : M'.1 52 j0 = M.1 52 j0 := by
  unfold astL at h
  split at h
  · split at h
    · cases h; rfl
    · cases h
  · cases h
end
def kpS (l : List Nat) (id : Nat) : Bool := decide (id < 3) || l.elem id
def kpG (j0 : Nat) (l : List Nat) : Bool := l.all (fun id => match GG id with
  | none => true
  | some mt => mt.2.2.2.2.2.2.2.all (kpX j0 (kpS l)))
/-- the methods that a run of the model's calls -/
def runIds : List Nat := (List.range 82).map (· + 67) ++ [168, 273, 274, 275]
theorem run_47 : kpG 47 runIds = true := by decide +kernel
