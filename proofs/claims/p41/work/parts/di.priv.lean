/-! a private method of the builder's elder class, asked of a builder -/
theorem sel_cls {z : MethodName} {C : String} {s : State} {args : Array Value} {c : ClassId} {mz : MethodId} (hy : z.cls ≠ "java/lang/invoke/MethodHandle" ∧ z.cls ≠ "java/lang/invoke/VarHandle")
    (hc : s.vm.findClass C = some c) (hnz : s.methodNamed? z = some mz) (h0 : (Cond.selects C z z).before args s = true) : Option.any (fun x => !x.isInterface) s.vm.classes[mz.cls]? = true := by
  have hfz : s.methodFound? z.cls z.name z.desc = some mz := State.methodFound?_of_named hnz hy
  simp only [Cond.before, Cond.holds, Cond.value, hc, hfz, hnz] at h0
  cases hsz : selectMethod {} s.vm c mz with
  | method q => simp [hsz] at h0; exact h0.2
  | _ => simp [hsz] at h0
theorem sel_priv {y z : MethodName} {C : String} {s : State} {args : Array Value} {n : Nat} (hy : y.cls ≠ "java/lang/invoke/MethodHandle" ∧ y.cls ≠ "java/lang/invoke/VarHandle") (hzy : z.cls = y.cls)
    (hins : (Cond.instantiable C n).before args s = true) (hpriv : (Cond.privateMethod y).before args s = true) (hinst : (Cond.instanceMethod y).before args s = true)
    (hinz : (Cond.instanceMethod z).before args s = true) (hz : (Cond.selects C z z).before args s = true) :
    (Cond.selects C y y).before args s = true := by
  obtain ⟨c, k, hc, hk, -, hniab, -, -⟩ := Cond.instantiable_spec hins
  have hni : k.isInterface = false := (Bool.or_eq_false_iff.mp hniab).1
  obtain ⟨mk, methM, hnamed, hmethM, -, -⟩ := Cond.instanceMethod_spec hinst
  obtain ⟨mz, methZ, hnz, -, -, -⟩ := Cond.instanceMethod_spec hinz
  have hfound : s.methodFound? y.cls y.name y.desc = some mk := State.methodFound?_of_named hnamed hy
  have hsel : selectMethod {} s.vm c mk = .method mk := selectMethod_private hmethM (Cond.privateMethod_at hpriv mk methM hnamed hmethM)
  have e : mz.cls = mk.cls := Option.some.inj ((findClass_of_methodNamed hnz).symm.trans (by rw [hzy]; exact findClass_of_methodNamed hnamed))
  have key := sel_cls (by rw [hzy]; exact hy) hc hnz hz
  rw [e] at key
  simp only [Cond.before, Cond.holds, Cond.value, hc, hfound, hnamed, hsel, hk]
  simp
  exact key
