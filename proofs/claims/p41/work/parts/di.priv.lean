/-! a private method of the builder's elder class, asked of a builder -/
theorem sel_cls {z : MethodName} {C : String} {s : State} {args : Array Value} {c : ClassId} {mz : MethodId} (hy : z.cls ≠ "java/lang/invoke/MethodHandle" ∧ z.cls ≠ "java/lang/invoke/VarHandle")
    (hc : s.vm.findClass C = some c) (hnz : s.methodNamed? z = some mz) (h0 : (Cond.selects C z z).before args s = true) : Option.any (fun x => !x.isInterface) s.vm.classes[mz.cls]? = true := by
  have hfz : s.methodFound? z.cls z.name z.desc = some mz := State.methodFound?_of_named hnz hy
  simp only [Cond.before, Cond.holds, Cond.value, hc, hfz, hnz] at h0
  cases hsz : selectMethod {} s.vm c mz with
  | method q => simp [hsz] at h0; exact h0.2
  | _ => simp [hsz] at h0
theorem sel_priv {y z : MethodName} {C : String} {s : State} {args : Array Value} {n : Nat} (hy : y.cls ≠ "java/lang/invoke/MethodHandle" ∧ y.cls ≠ "java/lang/invoke/VarHandle") (hzy : z.cls = y.cls)
    (hins : (Cond.instantiable C n).before args s = true) (hpriv : (Cond.privateMethod y).before args s = true) (hinst : (Cond.instanceMethod y).before args s = true)
    (hinz : (Cond.instanceMethod z).before args s = true) (hz : (Cond.selects C z z).before args s = true) :
    (Cond.selects C y y).before args s = true := by
  obtain ⟨c, k, hc, hk, -, hniab, -, -⟩ := Cond.instantiable_spec hins
  have hni : k.isInterface = false := (Bool.or_eq_false_iff.mp hniab).1
  obtain ⟨mk, methM, hnamed, hmethM, -, -⟩ := Cond.instanceMethod_spec hinst
  obtain ⟨mz, methZ, hnz, -, -, -⟩ := Cond.instanceMethod_spec hinz
  have hfound : s.methodFound? y.cls y.name y.desc = some mk := State.methodFound?_of_named hnamed hy
  have hsel : selectMethod {} s.vm c mk = .method mk := selectMethod_private hmethM (Cond.privateMethod_at hpriv mk methM hnamed hmethM)
  have e : mz.cls = mk.cls := Option.some.inj ((findClass_of_methodNamed hnz).symm.trans (by rw [hzy]; exact findClass_of_methodNamed hnamed))
  have key := sel_cls (by rw [hzy]; exact hy) hc hnz hz
  rw [e] at key
  simp only [Cond.before, Cond.holds, Cond.value, hc, hfound, hnamed, hsel, hk]
  simp
  exact key
theorem cw_priv {R : Room} {s : State} {args : Array Value} {own : String} {ix maxL mc ms : Nat} {y : MethodName} {bytes : ByteArray} {ret : Option FieldType} {rm : Room} (n : Nat) (ht : ∀ w ∈ TW, w.before args s = true) (hG : GoodIn TW (wD y bytes maxL ret)) (hrc : rm.cells = mc) (hrs : rm.slots = ms)
    (hlink : Jvm.Cond.methodLink own ix y ∈ TW) (hsame : Jvm.Cond.sameMethod y.cls y.cls y.name y.desc ∈ TW) (hinst : Jvm.Cond.instanceMethod y ∈ TW) (hini : Jvm.Cond.initialized y.cls ∈ TW) (hsl : Sl s) (hy : y ∈ [yJ5_ensureCapacityInternal_d00df, yJ5_newCapacity_0f7a4, yJ5_putStringAt_47b60, yJ5_inflateIfNeededFor_a7421]) (hcls : y.cls = RJ5)
    (hd : (parseMethodDescriptor y.desc).map (fun d => d.parameters.length) = some n) (hR : rm.frames + 1 ≤ R.frames ∧ 8 + (maxL + 11) + rm.locals ≤ R.locals) : va_CU R s args own RJ4 y.cls ix y y bytes maxL ret (wD y bytes maxL ret) rm mc ms n := by
  have hmh : y.cls ≠ "java/lang/invoke/MethodHandle" ∧ y.cls ≠ "java/lang/invoke/VarHandle" := by rw [hcls]; decide
  have hc : Jvm.Cond.code y bytes maxL ret ∈ wD y bytes maxL ret := List.mem_cons_self
  refine ⟨⟨hrc, hrs, hR.1, hR.2, pay_in ht hG, hc⟩, ht _ (hG _ hc).1, ht _ hini, hmh, fun sig h => ?_, ht _ hlink, ht _ hsame, va_Decl.of (ht _ hinst) (ht _ (hG _ hc).1), ?_, ht _ hinst⟩
  · rw [h] at hd
    exact (Option.some.inj hd).symm
  · exact va_Nw.use rfl (hsl y hy)
