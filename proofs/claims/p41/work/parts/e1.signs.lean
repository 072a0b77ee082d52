/-! constructors: Signs -/
theorem d_X6_0 : decode cX6_init 0 = .ok (.aload_n 0, 1) := by decide +kernel
theorem d_X6_1 : decode cX6_init 1 = .ok (.invokespecial 3, 3) := by decide +kernel
theorem d_X6_4 : decode cX6_init 4 = .ok (.aload_n 0, 1) := by decide +kernel
theorem d_X6_5 : decode cX6_init 5 = .ok (.iload_n 1, 1) := by decide +kernel
theorem d_X6_6 : decode cX6_init 6 = .ok (.iconst 0, 1) := by decide +kernel
theorem d_X6_7 : decode cX6_init 7 = .ok (.invokestatic 9, 3) := by decide +kernel
theorem d_X6_10 : decode cX6_init 10 = .ok (.newarray .int, 2) := by decide +kernel
theorem d_X6_12 : decode cX6_init 12 = .ok (.putfield 15, 3) := by decide +kernel
theorem d_X6_15 : decode cX6_init 15 = .ok (.return_, 1) := by decide +kernel
abbrev wC (y : MethodName) (cc : ByteArray) (n : Nat) : List Jvm.Cond := Jvm.Cond.code y cc n none :: TW
set_option maxHeartbeats 4000000 in
set_option maxRecDepth 100000 in
theorem c_X6_init (l : Launch) (D : va_G) (cI cL : ClassId) (h0 sz N : Nat) (hN : N ≤ 4000) : Met l yX6_init (wC yX6_init cX6_init 2) ({ frames := 1, cells := 1, slots := N, locals := 40 }) (va_Pc [.ref h0, .int (jn N)] (fun U => U.heap.size = sz ∧ va_P D vwCl [(h0, .inr (6, [.null]))] U.heap ∧ va_K D vwCl [(cI, .int), (cL, .long)] U ∧ va_D (fun _ => True) [(h0, .inr (6, [.null]))]))
    (va_Qv (fun _ : Unit => True) (fun _ t => ∃ q1, va_P D vwCl [(h0, .inr (6, [.ref q1])), (q1, .inl (cI, N, .inl (fun _ => 0)))] t.heap ∧ va_K D vwCl [(cI, .int), (cL, .long)] t ∧ va_D (va_A [(h0, .inr (6, [.null]))] sz) [(h0, .inr (6, [.ref q1])), (q1, .inl (cI, N, .inl (fun _ => 0)))]) (va_A [(h0, .inr (6, [.null]))] sz)) 1 N (va_A [(h0, .inr (6, [.null]))] sz) := by
  refine Met.ofW (cc := cX6_init) (maxL := 2) (ret := none) (by decide) rfl ?_
  intro p e s m args below meth c s₁ B hml hv
  obtain ⟨rfl, hsz, hP, hK, hD0⟩ := hv
  have hx := B.exec
  have hb := B.bytes
  have hr := B.returns
  have hts0 := atoms_spec (ws := wC yX6_init cX6_init 2) B.pre
  have hts : ∀ w ∈ TW, w.before _ s = true := fun w h => hts0 w (List.mem_cons_of_mem _ h)
  have hown : s.vm.findClass RX6 = some m.cls := findClass_of_methodNamed B.named
  have hlocks := B.notSynchronized
  have hin : meth.name = "<init>" := (name_of_methodNamed B.named B.method).1
  subst hsz
  have hD := hD0.self (sz := s.heap.size)
  generalize hAe : va_A [(h0, .inr (6, [.null]))] s.heap.size = A at hD ⊢
  have hA : ∀ q : Nat, s.heap.size ≤ q → A q := fun q h => by rw [← hAe]; exact Or.inr h
  have hS : va_S A s.heap s.heap [] := va_S.rf
  have hl := lv_entry ([.ref h0, .int (jn N)]) (n := 2) (Nat.le_of_ble_eq_true rfl)
  rw [lg_entry_eq]
  generalize (lg_sl ([.ref h0, .int (jn N)]) ++ List.replicate (2 - (lg_sl ([.ref h0, .int (jn N)])).length) Slot.unset).toArray = ls at hl ⊢
  have hl : lv_has ls 2 [(0, .ref h0), (1, .int (jn N))] := hl
  refine lv_aload_n hx hb d_X6_0 rfl (lv_at hl 0 rfl) ?_
  refine W.objInit hx hb hown (hts (.methodLink RX6 3 objectInit) (by decide +kernel)) (hts (.instanceMethod objectInit) (by decide +kernel)) (hts (.code objectInit ⟨#[0xb1]⟩ 1 none) (by decide +kernel)) rfl (by rw [hml]; exact hl.1) rfl d_X6_1 (Nat.le_of_ble_eq_true rfl) (Nat.le_of_ble_eq_true rfl) ?_
  refine W.eq (g2 := F0 m 4 ls []) rfl ?_
  refine lv_aload_n hx hb d_X6_4 rfl (lv_at hl 0 rfl) ?_
  refine lv_iload_n hx hb d_X6_5 rfl (lv_at hl 1 rfl) ?_
  refine lv_iconst (v := 0) hx hb d_X6_6 (by decide) ?_
  refine va_mmax hx hb (by rw [hml]; exact hl.1.symm) hown (hts (.methodLink RX6 9 Lib.Math.max.name) (by decide +kernel)) (hts (.static Lib.Math.max.name) (by decide +kernel)) (hts (.initialized "java/lang/Math") (by decide +kernel)) (hts (.code Lib.Math.max.name Lib.Math.max.code 2 (some .int)) (by decide +kernel)) (Nat.le_of_ble_eq_true rfl) (Nat.le_of_ble_eq_true rfl) (Nat.le_of_ble_eq_true rfl) (Nat.zero_le _) d_X6_7 ?_
  have em : (if jn N < (0 : Int32) then (0 : Int32) else jn N) = jn N := by
    rw [← J0, ilt_neg (by omega) (by omega)]
  rw [em]
  refine newaI (n := jn N) (N := N) hx hb (hts (.arrayClass .int) (by decide +kernel)) hK hP hD hS hA (by rw [← J0, jn_lt (by omega) (by omega)]; omega) (jn_clamp (by omega)) (by show N * 4 ≤ _; omega) (Nat.le_of_ble_eq_true rfl) (by show 0 + N ≤ N; omega) d_X6_10 (fun q1 H hP hD hS => ?_)
  refine va_putF (D := D) (ci := 6) (v := .ref q1) (ty := .array .int) (C := RX6) (T := TX6) (N := 1) hx hb hts (by decide +kernel) tyX6 tyX6_ok nmX6 hown hK hP hD hS 0 rfl rfl 0 (by decide) (hts (.fieldLink RX6 15 "TermStrategies$Signs" "cells" "[I") (by decide +kernel)) (fun _ h9 => h9) rfl hin rfl (by decide +kernel) rfl rfl (Nat.le_of_ble_eq_true rfl) d_X6_12 (fun H locs hP hD hS => ?_)
  refine W.widen (k := 1) (n := N) (by omega) (by omega) ?_
  exact W.vret hx hb hr (fun t ht hW => ⟨⟨(), rfl, trivial, q1, by rw [ht]; exact hP, va_K.moved hW.alike hK, hD⟩, hS.F ht⟩) hS.2.2 d_X6_15
