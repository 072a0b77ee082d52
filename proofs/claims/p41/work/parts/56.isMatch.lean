/-! the model's match of a pattern and a term; what grows -/
section
variable {d : Nat} {A : AT} {M : PM} {a b c f : Int32} {v : Int64} {e : EV}
theorem pred_lt {P : Nat} (h : P < 2147483648) : jn P + jz 1 < jn P := by
  cases P with
  | zero => decide
  | succ P => rw [jn_addz (by omega), jn_lt (by omega) (by omega)]; omega
theorem msG_1 (cm : Int32 → Bool) (P q : Nat) (p t : Tm) (e : EV) : msG cm [(P, p, q, t)] e = ms cm p t e := by
  show (ms cm p t e).flatMap (fun e' => [e']) = _
  induction ms cm p t e with
  | nil => rfl
  | cons x l ih => rw [List.flatMap_cons, ih]; rfl
theorem ofNat_R {R : Nat} (hR : R = 54 ∨ R = 56) : Int32.ofNat R = jn R := by rcases hR with rfl | rfl <;> rfl
end
