/-! the model's search through the goals -/
section
variable {d : Nat} {A : AT} {M : PM} {a b c f : Int32} {v : Int64} {e : EV}
theorem clamp_R {R : Nat} (hR : R = 54 ∨ R = 56) : (jn R).toNatClampNeg = R ∧ ¬ jn R < 0 := by rcases hR with rfl | rfl <;> decide
theorem off_R {R : Nat} (hR : R = 54 ∨ R = 56) : R ∉ [66, 67, 68] ∧ R ≠ 66 ∧ R ≠ 67 ∧ R ≠ 68 := by rcases hR with rfl | rfl <;> decide
theorem mtMs {cm : Int32 → Bool} {c c' : Int32} {x y t1 t2 : Tm} {e : EV} (hv : ¬ isV c) : ms cm (Nd c x y) (Nd c' t1 t2) e = if c ≠ c' then [] else if is2 c then (ms cm x t1 e).flatMap (fun e' => ms cm y t2 e') ++ (if cm c = true then (ms cm x t2 e).flatMap (fun e' => ms cm y t1 e') else []) else if is1 c then ms cm x t1 e else [e] := if_neg hv
theorem EM_eq {e : EV} {M M' : PM} (h : EM e M) (h68 : M'.1 68 = M.1 68) (h65 : M'.1 65 = M.1 65) : EM e M' := by
  intro v hv
  have := h v hv
  rw [h68, h65]; exact this
theorem head_app {l l' : List EV} : (l ++ l').head? = match l.head? with
  | some x => some x
  | none => l'.head? := by cases l <;> rfl
end
