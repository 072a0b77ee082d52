/-! constructors: State, Runner (laid by wip/p41/gen/con3.py) -/
theorem d_X7_0 : decode cX7_init 0 = .ok (.aload_n 0, 1) := by decide +kernel
theorem d_X7_1 : decode cX7_init 1 = .ok (.invokespecial 5, 3) := by decide +kernel
theorem d_X7_4 : decode cX7_init 4 = .ok (.aload_n 0, 1) := by decide +kernel
theorem d_X7_5 : decode cX7_init 5 = .ok (.bipush 48, 2) := by decide +kernel
theorem d_X7_7 : decode cX7_init 7 = .ok (.newarray .int, 2) := by decide +kernel
theorem d_X7_9 : decode cX7_init 9 = .ok (.putfield 11, 3) := by decide +kernel
theorem d_X7_12 : decode cX7_init 12 = .ok (.aload_n 0, 1) := by decide +kernel
theorem d_X7_13 : decode cX7_init 13 = .ok (.bipush 48, 2) := by decide +kernel
theorem d_X7_15 : decode cX7_init 15 = .ok (.newarray .int, 2) := by decide +kernel
theorem d_X7_17 : decode cX7_init 17 = .ok (.putfield 15, 3) := by decide +kernel
theorem d_X7_20 : decode cX7_init 20 = .ok (.aload_n 0, 1) := by decide +kernel
theorem d_X7_21 : decode cX7_init 21 = .ok (.bipush 48, 2) := by decide +kernel
theorem d_X7_23 : decode cX7_init 23 = .ok (.newarray .int, 2) := by decide +kernel
theorem d_X7_25 : decode cX7_init 25 = .ok (.putfield 18, 3) := by decide +kernel
theorem d_X7_28 : decode cX7_init 28 = .ok (.aload_n 0, 1) := by decide +kernel
theorem d_X7_29 : decode cX7_init 29 = .ok (.bipush 48, 2) := by decide +kernel
theorem d_X7_31 : decode cX7_init 31 = .ok (.newarray .int, 2) := by decide +kernel
theorem d_X7_33 : decode cX7_init 33 = .ok (.putfield 21, 3) := by decide +kernel
theorem d_X7_36 : decode cX7_init 36 = .ok (.aload_n 0, 1) := by decide +kernel
theorem d_X7_37 : decode cX7_init 37 = .ok (.iconst 0, 1) := by decide +kernel
theorem d_X7_38 : decode cX7_init 38 = .ok (.putfield 24, 3) := by decide +kernel
theorem d_X7_41 : decode cX7_init 41 = .ok (.aload_n 0, 1) := by decide +kernel
theorem d_X7_42 : decode cX7_init 42 = .ok (.iconst 0, 1) := by decide +kernel
theorem d_X7_43 : decode cX7_init 43 = .ok (.putfield 28, 3) := by decide +kernel
theorem d_X7_46 : decode cX7_init 46 = .ok (.aload_n 0, 1) := by decide +kernel
theorem d_X7_47 : decode cX7_init 47 = .ok (.iconst 0, 1) := by decide +kernel
theorem d_X7_48 : decode cX7_init 48 = .ok (.putfield 31, 3) := by decide +kernel
theorem d_X7_51 : decode cX7_init 51 = .ok (.aload_n 0, 1) := by decide +kernel
theorem d_X7_52 : decode cX7_init 52 = .ok (.iconst 0, 1) := by decide +kernel
theorem d_X7_53 : decode cX7_init 53 = .ok (.putfield 34, 3) := by decide +kernel
theorem d_X7_56 : decode cX7_init 56 = .ok (.aload_n 0, 1) := by decide +kernel
theorem d_X7_57 : decode cX7_init 57 = .ok (.iconst 1, 1) := by decide +kernel
theorem d_X7_58 : decode cX7_init 58 = .ok (.putfield 37, 3) := by decide +kernel
theorem d_X7_61 : decode cX7_init 61 = .ok (.aload_n 0, 1) := by decide +kernel
theorem d_X7_62 : decode cX7_init 62 = .ok (.new 40, 3) := by decide +kernel
theorem d_X7_65 : decode cX7_init 65 = .ok (.dup, 1) := by decide +kernel
theorem d_X7_66 : decode cX7_init 66 = .ok (.iload_n 1, 1) := by decide +kernel
theorem d_X7_67 : decode cX7_init 67 = .ok (.invokespecial 42, 3) := by decide +kernel
theorem d_X7_70 : decode cX7_init 70 = .ok (.putfield 45, 3) := by decide +kernel
theorem d_X7_73 : decode cX7_init 73 = .ok (.return_, 1) := by decide +kernel
set_option maxHeartbeats 16000000 in
set_option maxRecDepth 100000 in
theorem c_X7_init_3760 (l : Launch) (D : va_G) (cI cL : ClassId) (h0 sz : Nat) : Met l yX7_init (wC yX7_init cX7_init 2) ({ frames := 2, cells := 6, slots := 3953, locals := 100 }) (va_Pc [.ref h0, .int (jn 3760)] (fun U => U.heap.size = sz ∧ va_P D vwCl [(h0, .inr (7, [.null, .null, .null, .null, .null, .int 0, .int 0, .int 0, .int 0, .int 0]))] U.heap ∧ va_K D vwCl [(cI, .int), (cL, .long)] U ∧ va_D (fun _ => True) [(h0, .inr (7, [.null, .null, .null, .null, .null, .int 0, .int 0, .int 0, .int 0, .int 0]))]))
    (va_Qv (fun _ : Unit => True) (fun _ t => ∃ q1 q2 q3 q4 q5 q6, va_P D vwCl [(h0, .inr (7, [.ref q5, .ref q1, .ref q2, .ref q3, .ref q4, .int 0, .int 0, .int 0, .int 0, .int 1])), (q1, .inl (cI, 48, .inl (fun _ => 0))), (q2, .inl (cI, 48, .inl (fun _ => 0))), (q3, .inl (cI, 48, .inl (fun _ => 0))), (q4, .inl (cI, 48, .inl (fun _ => 0))), (q5, .inr (6, [.ref q6])), (q6, .inl (cI, 3760, .inl (fun _ => 0)))] t.heap ∧ va_K D vwCl [(cI, .int), (cL, .long)] t ∧ va_D (va_A [(h0, .inr (7, [.null, .null, .null, .null, .null, .int 0, .int 0, .int 0, .int 0, .int 0]))] sz) [(h0, .inr (7, [.ref q5, .ref q1, .ref q2, .ref q3, .ref q4, .int 0, .int 0, .int 0, .int 0, .int 1])), (q1, .inl (cI, 48, .inl (fun _ => 0))), (q2, .inl (cI, 48, .inl (fun _ => 0))), (q3, .inl (cI, 48, .inl (fun _ => 0))), (q4, .inl (cI, 48, .inl (fun _ => 0))), (q5, .inr (6, [.ref q6])), (q6, .inl (cI, 3760, .inl (fun _ => 0)))]) (va_A [(h0, .inr (7, [.null, .null, .null, .null, .null, .int 0, .int 0, .int 0, .int 0, .int 0]))] sz)) 6 3953 (va_A [(h0, .inr (7, [.null, .null, .null, .null, .null, .int 0, .int 0, .int 0, .int 0, .int 0]))] sz) := by
  refine Met.ofW (cc := cX7_init) (maxL := 2) (ret := none) (by decide) rfl ?_
  intro p e s m args below meth c s₁ B hml hv
  obtain ⟨rfl, hsz, hP, hK, hD0⟩ := hv
  have hx := B.exec
  have hb := B.bytes
  have hr := B.returns
  have hts0 := atoms_spec (ws := wC yX7_init cX7_init 2) B.pre
  have hts : ∀ w ∈ TW, w.before _ s = true := fun w h => hts0 w (List.mem_cons_of_mem _ h)
  have hown : s.vm.findClass RX7 = some m.cls := findClass_of_methodNamed B.named
  have hlocks := B.notSynchronized
  have hin : meth.name = "<init>" := (name_of_methodNamed B.named B.method).1
  subst hsz
  have hD := hD0.self (sz := s.heap.size)
  generalize hAe : va_A [(h0, .inr (7, [.null, .null, .null, .null, .null, .int 0, .int 0, .int 0, .int 0, .int 0]))] s.heap.size = A at hD ⊢
  have hA : ∀ q : Nat, s.heap.size ≤ q → A q := fun q h => by rw [← hAe]; exact Or.inr h
  have hS : va_S A s.heap s.heap [] := va_S.rf
  have hl := lv_entry ([.ref h0, .int (jn 3760)]) (n := 2) (Nat.le_of_ble_eq_true rfl)
  rw [lg_entry_eq]
  generalize (lg_sl ([.ref h0, .int (jn 3760)]) ++ List.replicate (2 - (lg_sl ([.ref h0, .int (jn 3760)])).length) Slot.unset).toArray = ls at hl ⊢
  have hl : lv_has ls 2 [(0, .ref h0), (1, .int (jn 3760))] := hl
  refine lv_aload_n hx hb d_X7_0 rfl (lv_at hl 0 rfl) ?_
  refine W.objInit hx hb hown (hts (.methodLink RX7 5 objectInit) (by decide +kernel)) (hts (.instanceMethod objectInit) (by decide +kernel)) (hts (.code objectInit ⟨#[0xb1]⟩ 1 none) (by decide +kernel)) rfl (by rw [hml]; exact hl.1) rfl d_X7_1 (Nat.le_of_ble_eq_true rfl) (Nat.le_of_ble_eq_true rfl) ?_
  refine W.eq (g2 := F0 m 4 ls []) rfl ?_
  refine lv_aload_n hx hb d_X7_4 rfl (lv_at hl 0 rfl) ?_
  refine lv_bipush (v := jn 48) hx hb d_X7_5 (by decide) ?_
  refine newaI (N := 48) hx hb (hts (.arrayClass .int) (by decide +kernel)) hK hP hD hS hA (by decide) (by decide) (Nat.le_of_ble_eq_true rfl) (Nat.le_of_ble_eq_true rfl) (Nat.le_of_ble_eq_true rfl) d_X7_7 (fun q1 H hP hD hS => ?_)
  refine va_putF (D := D) (ci := 7) (v := .ref q1) (ty := .array .int) (C := RX7) (T := TX7) (N := 10) hx hb hts uw_7 tyX7 tyX7_ok nmX7 hown hK hP hD hS 0 rfl rfl 1 (by decide) (hts (.fieldLink RX7 11 "TermStrategies$State" "kinds" "[I") (by decide +kernel)) (fun _ h9 => h9) rfl hin rfl (by decide +kernel) rfl rfl (Nat.le_of_ble_eq_true rfl) d_X7_9 (fun H locs hP hD hS => ?_)
  have hP : va_P D vwCl [(h0, .inr (7, [.null, .ref q1, .null, .null, .null, .int 0, .int 0, .int 0, .int 0, .int 0])), (q1, .inl (cI, 48, .inl (fun _ => 0)))] H := hP
  have hD : va_D A [(h0, .inr (7, [.null, .ref q1, .null, .null, .null, .int 0, .int 0, .int 0, .int 0, .int 0])), (q1, .inl (cI, 48, .inl (fun _ => 0)))] := hD
  refine lv_aload_n hx hb d_X7_12 rfl (lv_at hl 0 rfl) ?_
  refine lv_bipush (v := jn 48) hx hb d_X7_13 (by decide) ?_
  refine newaI (N := 48) hx hb (hts (.arrayClass .int) (by decide +kernel)) hK hP hD hS hA (by decide) (by decide) (Nat.le_of_ble_eq_true rfl) (Nat.le_of_ble_eq_true rfl) (Nat.le_of_ble_eq_true rfl) d_X7_15 (fun q2 H hP hD hS => ?_)
  refine va_putF (D := D) (ci := 7) (v := .ref q2) (ty := .array .int) (C := RX7) (T := TX7) (N := 10) hx hb hts uw_7 tyX7 tyX7_ok nmX7 hown hK hP hD hS 0 rfl rfl 2 (by decide) (hts (.fieldLink RX7 15 "TermStrategies$State" "firsts" "[I") (by decide +kernel)) (fun _ h9 => h9) rfl hin rfl (by decide +kernel) rfl rfl (Nat.le_of_ble_eq_true rfl) d_X7_17 (fun H locs hP hD hS => ?_)
  have hP : va_P D vwCl [(h0, .inr (7, [.null, .ref q1, .ref q2, .null, .null, .int 0, .int 0, .int 0, .int 0, .int 0])), (q1, .inl (cI, 48, .inl (fun _ => 0))), (q2, .inl (cI, 48, .inl (fun _ => 0)))] H := hP
  have hD : va_D A [(h0, .inr (7, [.null, .ref q1, .ref q2, .null, .null, .int 0, .int 0, .int 0, .int 0, .int 0])), (q1, .inl (cI, 48, .inl (fun _ => 0))), (q2, .inl (cI, 48, .inl (fun _ => 0)))] := hD
  refine lv_aload_n hx hb d_X7_20 rfl (lv_at hl 0 rfl) ?_
  refine lv_bipush (v := jn 48) hx hb d_X7_21 (by decide) ?_
  refine newaI (N := 48) hx hb (hts (.arrayClass .int) (by decide +kernel)) hK hP hD hS hA (by decide) (by decide) (Nat.le_of_ble_eq_true rfl) (Nat.le_of_ble_eq_true rfl) (Nat.le_of_ble_eq_true rfl) d_X7_23 (fun q3 H hP hD hS => ?_)
  refine va_putF (D := D) (ci := 7) (v := .ref q3) (ty := .array .int) (C := RX7) (T := TX7) (N := 10) hx hb hts uw_7 tyX7 tyX7_ok nmX7 hown hK hP hD hS 0 rfl rfl 3 (by decide) (hts (.fieldLink RX7 18 "TermStrategies$State" "seconds" "[I") (by decide +kernel)) (fun _ h9 => h9) rfl hin rfl (by decide +kernel) rfl rfl (Nat.le_of_ble_eq_true rfl) d_X7_25 (fun H locs hP hD hS => ?_)
  have hP : va_P D vwCl [(h0, .inr (7, [.null, .ref q1, .ref q2, .ref q3, .null, .int 0, .int 0, .int 0, .int 0, .int 0])), (q1, .inl (cI, 48, .inl (fun _ => 0))), (q2, .inl (cI, 48, .inl (fun _ => 0))), (q3, .inl (cI, 48, .inl (fun _ => 0)))] H := hP
  have hD : va_D A [(h0, .inr (7, [.null, .ref q1, .ref q2, .ref q3, .null, .int 0, .int 0, .int 0, .int 0, .int 0])), (q1, .inl (cI, 48, .inl (fun _ => 0))), (q2, .inl (cI, 48, .inl (fun _ => 0))), (q3, .inl (cI, 48, .inl (fun _ => 0)))] := hD
  refine lv_aload_n hx hb d_X7_28 rfl (lv_at hl 0 rfl) ?_
  refine lv_bipush (v := jn 48) hx hb d_X7_29 (by decide) ?_
  refine newaI (N := 48) hx hb (hts (.arrayClass .int) (by decide +kernel)) hK hP hD hS hA (by decide) (by decide) (Nat.le_of_ble_eq_true rfl) (Nat.le_of_ble_eq_true rfl) (Nat.le_of_ble_eq_true rfl) d_X7_31 (fun q4 H hP hD hS => ?_)
  refine va_putF (D := D) (ci := 7) (v := .ref q4) (ty := .array .int) (C := RX7) (T := TX7) (N := 10) hx hb hts uw_7 tyX7 tyX7_ok nmX7 hown hK hP hD hS 0 rfl rfl 4 (by decide) (hts (.fieldLink RX7 21 "TermStrategies$State" "weights" "[I") (by decide +kernel)) (fun _ h9 => h9) rfl hin rfl (by decide +kernel) rfl rfl (Nat.le_of_ble_eq_true rfl) d_X7_33 (fun H locs hP hD hS => ?_)
  have hP : va_P D vwCl [(h0, .inr (7, [.null, .ref q1, .ref q2, .ref q3, .ref q4, .int 0, .int 0, .int 0, .int 0, .int 0])), (q1, .inl (cI, 48, .inl (fun _ => 0))), (q2, .inl (cI, 48, .inl (fun _ => 0))), (q3, .inl (cI, 48, .inl (fun _ => 0))), (q4, .inl (cI, 48, .inl (fun _ => 0)))] H := hP
  have hD : va_D A [(h0, .inr (7, [.null, .ref q1, .ref q2, .ref q3, .ref q4, .int 0, .int 0, .int 0, .int 0, .int 0])), (q1, .inl (cI, 48, .inl (fun _ => 0))), (q2, .inl (cI, 48, .inl (fun _ => 0))), (q3, .inl (cI, 48, .inl (fun _ => 0))), (q4, .inl (cI, 48, .inl (fun _ => 0)))] := hD
  refine lv_aload_n hx hb d_X7_36 rfl (lv_at hl 0 rfl) ?_
  refine lv_iconst (v := 0) hx hb d_X7_37 (by decide) ?_
  refine va_put (D := D) (ci := 7) (v := .int 0) (ty := .int) (C := RX7) (T := TX7) (N := 10) hx hb hts uw_7 tyX7 tyX7_ok nmX7 hown hK hP hD hS 0 rfl rfl 5 (by decide) (hts (.fieldLink RX7 24 "TermStrategies$State" "terms" "I") (by decide +kernel)) (fun _ h9 => h9) rfl (by decide +kernel) rfl rfl (Nat.le_of_ble_eq_true rfl) d_X7_38 (fun H locs hP hD hS => ?_)
  have hP : va_P D vwCl [(h0, .inr (7, [.null, .ref q1, .ref q2, .ref q3, .ref q4, .int 0, .int 0, .int 0, .int 0, .int 0])), (q1, .inl (cI, 48, .inl (fun _ => 0))), (q2, .inl (cI, 48, .inl (fun _ => 0))), (q3, .inl (cI, 48, .inl (fun _ => 0))), (q4, .inl (cI, 48, .inl (fun _ => 0)))] H := hP
  have hD : va_D A [(h0, .inr (7, [.null, .ref q1, .ref q2, .ref q3, .ref q4, .int 0, .int 0, .int 0, .int 0, .int 0])), (q1, .inl (cI, 48, .inl (fun _ => 0))), (q2, .inl (cI, 48, .inl (fun _ => 0))), (q3, .inl (cI, 48, .inl (fun _ => 0))), (q4, .inl (cI, 48, .inl (fun _ => 0)))] := hD
  refine lv_aload_n hx hb d_X7_41 rfl (lv_at hl 0 rfl) ?_
  refine lv_iconst (v := 0) hx hb d_X7_42 (by decide) ?_
  refine va_put (D := D) (ci := 7) (v := .int 0) (ty := .int) (C := RX7) (T := TX7) (N := 10) hx hb hts uw_7 tyX7 tyX7_ok nmX7 hown hK hP hD hS 0 rfl rfl 6 (by decide) (hts (.fieldLink RX7 28 "TermStrategies$State" "rules" "I") (by decide +kernel)) (fun _ h9 => h9) rfl (by decide +kernel) rfl rfl (Nat.le_of_ble_eq_true rfl) d_X7_43 (fun H locs hP hD hS => ?_)
  have hP : va_P D vwCl [(h0, .inr (7, [.null, .ref q1, .ref q2, .ref q3, .ref q4, .int 0, .int 0, .int 0, .int 0, .int 0])), (q1, .inl (cI, 48, .inl (fun _ => 0))), (q2, .inl (cI, 48, .inl (fun _ => 0))), (q3, .inl (cI, 48, .inl (fun _ => 0))), (q4, .inl (cI, 48, .inl (fun _ => 0)))] H := hP
  have hD : va_D A [(h0, .inr (7, [.null, .ref q1, .ref q2, .ref q3, .ref q4, .int 0, .int 0, .int 0, .int 0, .int 0])), (q1, .inl (cI, 48, .inl (fun _ => 0))), (q2, .inl (cI, 48, .inl (fun _ => 0))), (q3, .inl (cI, 48, .inl (fun _ => 0))), (q4, .inl (cI, 48, .inl (fun _ => 0)))] := hD
  refine lv_aload_n hx hb d_X7_46 rfl (lv_at hl 0 rfl) ?_
  refine lv_iconst (v := 0) hx hb d_X7_47 (by decide) ?_
  refine va_put (D := D) (ci := 7) (v := .int 0) (ty := .int) (C := RX7) (T := TX7) (N := 10) hx hb hts uw_7 tyX7 tyX7_ok nmX7 hown hK hP hD hS 0 rfl rfl 7 (by decide) (hts (.fieldLink RX7 31 "TermStrategies$State" "strategies" "I") (by decide +kernel)) (fun _ h9 => h9) rfl (by decide +kernel) rfl rfl (Nat.le_of_ble_eq_true rfl) d_X7_48 (fun H locs hP hD hS => ?_)
  have hP : va_P D vwCl [(h0, .inr (7, [.null, .ref q1, .ref q2, .ref q3, .ref q4, .int 0, .int 0, .int 0, .int 0, .int 0])), (q1, .inl (cI, 48, .inl (fun _ => 0))), (q2, .inl (cI, 48, .inl (fun _ => 0))), (q3, .inl (cI, 48, .inl (fun _ => 0))), (q4, .inl (cI, 48, .inl (fun _ => 0)))] H := hP
  have hD : va_D A [(h0, .inr (7, [.null, .ref q1, .ref q2, .ref q3, .ref q4, .int 0, .int 0, .int 0, .int 0, .int 0])), (q1, .inl (cI, 48, .inl (fun _ => 0))), (q2, .inl (cI, 48, .inl (fun _ => 0))), (q3, .inl (cI, 48, .inl (fun _ => 0))), (q4, .inl (cI, 48, .inl (fun _ => 0)))] := hD
  refine lv_aload_n hx hb d_X7_51 rfl (lv_at hl 0 rfl) ?_
  refine lv_iconst (v := 0) hx hb d_X7_52 (by decide) ?_
  refine va_put (D := D) (ci := 7) (v := .int 0) (ty := .int) (C := RX7) (T := TX7) (N := 10) hx hb hts uw_7 tyX7 tyX7_ok nmX7 hown hK hP hD hS 0 rfl rfl 8 (by decide) (hts (.fieldLink RX7 34 "TermStrategies$State" "commuting" "I") (by decide +kernel)) (fun _ h9 => h9) rfl (by decide +kernel) rfl rfl (Nat.le_of_ble_eq_true rfl) d_X7_53 (fun H locs hP hD hS => ?_)
  have hP : va_P D vwCl [(h0, .inr (7, [.null, .ref q1, .ref q2, .ref q3, .ref q4, .int 0, .int 0, .int 0, .int 0, .int 0])), (q1, .inl (cI, 48, .inl (fun _ => 0))), (q2, .inl (cI, 48, .inl (fun _ => 0))), (q3, .inl (cI, 48, .inl (fun _ => 0))), (q4, .inl (cI, 48, .inl (fun _ => 0)))] H := hP
  have hD : va_D A [(h0, .inr (7, [.null, .ref q1, .ref q2, .ref q3, .ref q4, .int 0, .int 0, .int 0, .int 0, .int 0])), (q1, .inl (cI, 48, .inl (fun _ => 0))), (q2, .inl (cI, 48, .inl (fun _ => 0))), (q3, .inl (cI, 48, .inl (fun _ => 0))), (q4, .inl (cI, 48, .inl (fun _ => 0)))] := hD
  refine lv_aload_n hx hb d_X7_56 rfl (lv_at hl 0 rfl) ?_
  refine lv_iconst (v := 1) hx hb d_X7_57 (by decide) ?_
  refine va_put (D := D) (ci := 7) (v := .int 1) (ty := .int) (C := RX7) (T := TX7) (N := 10) hx hb hts uw_7 tyX7 tyX7_ok nmX7 hown hK hP hD hS 0 rfl rfl 9 (by decide) (hts (.fieldLink RX7 37 "TermStrategies$State" "seed" "I") (by decide +kernel)) (fun _ h9 => h9) rfl (by decide +kernel) rfl rfl (Nat.le_of_ble_eq_true rfl) d_X7_58 (fun H locs hP hD hS => ?_)
  have hP : va_P D vwCl [(h0, .inr (7, [.null, .ref q1, .ref q2, .ref q3, .ref q4, .int 0, .int 0, .int 0, .int 0, .int 1])), (q1, .inl (cI, 48, .inl (fun _ => 0))), (q2, .inl (cI, 48, .inl (fun _ => 0))), (q3, .inl (cI, 48, .inl (fun _ => 0))), (q4, .inl (cI, 48, .inl (fun _ => 0)))] H := hP
  have hD : va_D A [(h0, .inr (7, [.null, .ref q1, .ref q2, .ref q3, .ref q4, .int 0, .int 0, .int 0, .int 0, .int 1])), (q1, .inl (cI, 48, .inl (fun _ => 0))), (q2, .inl (cI, 48, .inl (fun _ => 0))), (q3, .inl (cI, 48, .inl (fun _ => 0))), (q4, .inl (cI, 48, .inl (fun _ => 0)))] := hD
  refine lv_aload_n hx hb d_X7_61 rfl (lv_at hl 0 rfl) ?_
  refine va_new (ci := 6) (fs := [.null]) (C := RX6) (T := TX6) (N := 1) hx hb hts uw_6 tyX6 tyX6_ok hown (hts (.classLink RX7 40 RX6) (by decide +kernel)) (hts (.instantiable RX6 1) (by decide +kernel)) (hts (.initialized RX6) (by decide +kernel)) hK hP hD hS hA rfl (fun j hj => by rcases (show j = 0 by omega) with rfl <;> rfl) (Nat.le_of_ble_eq_true rfl) (Nat.le_of_ble_eq_true rfl) d_X7_62 (fun q5 H hP hD hS => ?_)
  have hP : va_P D vwCl [(h0, .inr (7, [.null, .ref q1, .ref q2, .ref q3, .ref q4, .int 0, .int 0, .int 0, .int 0, .int 1])), (q1, .inl (cI, 48, .inl (fun _ => 0))), (q2, .inl (cI, 48, .inl (fun _ => 0))), (q3, .inl (cI, 48, .inl (fun _ => 0))), (q4, .inl (cI, 48, .inl (fun _ => 0))), (q5, .inr (6, [.null]))] H := hP
  have hD : va_D A [(h0, .inr (7, [.null, .ref q1, .ref q2, .ref q3, .ref q4, .int 0, .int 0, .int 0, .int 0, .int 1])), (q1, .inl (cI, 48, .inl (fun _ => 0))), (q2, .inl (cI, 48, .inl (fun _ => 0))), (q3, .inl (cI, 48, .inl (fun _ => 0))), (q4, .inl (cI, 48, .inl (fun _ => 0))), (q5, .inr (6, [.null]))] := hD
  refine lv_dup hx hb d_X7_65 rfl ?_
  refine lv_iload_n hx hb d_X7_66 rfl (lv_at hl 1 rfl) ?_
  have hPc := hP.sub (ws' := [(q5, .inr (6, [.null]))]) [5] rfl
  have hDc := hD.sub (ws' := [(q5, .inr (6, [.null]))]) [5] (by decide) rfl
  have hFc := va_free (wc := [(q5, .inr (6, [.null]))]) hD hS hA [5] rfl
  refine va_callv (va_runI (As := [.int (jn 3760)]) (rest := [.ref q5, .ref h0]) ⟨hx, hb, hml, hown, hts⟩ (c_X6_init l D cI cL q5 H.size 3760 (by omega)) (cwI 1 hts (g_con cw_X6) rfl rfl rfl (hts (.initialized RX6) (by decide +kernel)) (hts (.methodLink RX7 42 yX6_init) (by decide +kernel)) (hts (.instanceMethod yX6_init) (by decide +kernel)) rfl (by decide +kernel) ⟨Nat.le_of_ble_eq_true rfl, Nat.le_of_ble_eq_true rfl⟩) ⟨fun a U g mk q => by obtain ⟨q0, q1, qP, qK, qD⟩ := q; exact ⟨q0, q1, qP, va_K.moved (u := U) (U := U.calling g mk a) (Vm.Alike.refl U.vm) qK, qD⟩, fun U hU hW => ⟨rfl, by rw [hU], by rw [hU]; exact hPc, va_K.moved hW.alike hK, hDc.weaken (fun _ _ _ _ => trivial)⟩⟩ rfl rfl hl.1 rfl (lv_room (Nat.le_of_ble_eq_true rfl)) d_X7_67 ⟨Nat.le_of_ble_eq_true rfl, Nat.le_of_ble_eq_true rfl⟩) hS (fun q _ h => hFc q h) hFc (fun u t H1 locs ht hvm hw hB hz1 hk1 hS => ?_)
  obtain ⟨q6, hP1, hK1, hD1⟩ := hB
  rw [ht] at hP1
  obtain ⟨hP, hD⟩ := va_join (wr := [(h0, .inr (7, [.null, .ref q1, .ref q2, .ref q3, .ref q4, .int 0, .int 0, .int 0, .int 0, .int 1])), (q1, .inl (cI, 48, .inl (fun _ => 0))), (q2, .inl (cI, 48, .inl (fun _ => 0))), (q3, .inl (cI, 48, .inl (fun _ => 0))), (q4, .inl (cI, 48, .inl (fun _ => 0)))]) (w1 := [(q5, .inr (6, [.ref q6])), (q6, .inl (cI, 3760, .inl (fun _ => 0)))]) hP hD [5] [0, 1, 2, 3, 4] rfl rfl (by decide) (by decide) hk1 hFc hP1 hD1
  clear hK1 hP1 hD1 hk1 hz1 hFc hPc hDc
  generalize H1 = H at hP hS ⊢
  have hP : va_P D vwCl [(h0, .inr (7, [.null, .ref q1, .ref q2, .ref q3, .ref q4, .int 0, .int 0, .int 0, .int 0, .int 1])), (q1, .inl (cI, 48, .inl (fun _ => 0))), (q2, .inl (cI, 48, .inl (fun _ => 0))), (q3, .inl (cI, 48, .inl (fun _ => 0))), (q4, .inl (cI, 48, .inl (fun _ => 0))), (q5, .inr (6, [.ref q6])), (q6, .inl (cI, 3760, .inl (fun _ => 0)))] H := hP
  have hD : va_D A [(h0, .inr (7, [.null, .ref q1, .ref q2, .ref q3, .ref q4, .int 0, .int 0, .int 0, .int 0, .int 1])), (q1, .inl (cI, 48, .inl (fun _ => 0))), (q2, .inl (cI, 48, .inl (fun _ => 0))), (q3, .inl (cI, 48, .inl (fun _ => 0))), (q4, .inl (cI, 48, .inl (fun _ => 0))), (q5, .inr (6, [.ref q6])), (q6, .inl (cI, 3760, .inl (fun _ => 0)))] := hD
  refine va_putF (D := D) (ci := 7) (v := .ref q5) (ty := .object "TermStrategies$Signs") (C := RX7) (T := TX7) (N := 10) hx hb hts uw_7 tyX7 tyX7_ok nmX7 hown hK hP hD hS 0 rfl rfl 0 (by decide) (hts (.fieldLink RX7 45 "TermStrategies$State" "signs" "LTermStrategies$Signs;") (by decide +kernel)) (fun _ h9 => h9) rfl hin rfl (by decide +kernel) rfl rfl (Nat.le_of_ble_eq_true rfl) d_X7_70 (fun H locs hP hD hS => ?_)
  have hP : va_P D vwCl [(h0, .inr (7, [.ref q5, .ref q1, .ref q2, .ref q3, .ref q4, .int 0, .int 0, .int 0, .int 0, .int 1])), (q1, .inl (cI, 48, .inl (fun _ => 0))), (q2, .inl (cI, 48, .inl (fun _ => 0))), (q3, .inl (cI, 48, .inl (fun _ => 0))), (q4, .inl (cI, 48, .inl (fun _ => 0))), (q5, .inr (6, [.ref q6])), (q6, .inl (cI, 3760, .inl (fun _ => 0)))] H := hP
  have hD : va_D A [(h0, .inr (7, [.ref q5, .ref q1, .ref q2, .ref q3, .ref q4, .int 0, .int 0, .int 0, .int 0, .int 1])), (q1, .inl (cI, 48, .inl (fun _ => 0))), (q2, .inl (cI, 48, .inl (fun _ => 0))), (q3, .inl (cI, 48, .inl (fun _ => 0))), (q4, .inl (cI, 48, .inl (fun _ => 0))), (q5, .inr (6, [.ref q6])), (q6, .inl (cI, 3760, .inl (fun _ => 0)))] := hD
  refine W.widen (k := 6) (n := 3953) (Nat.le_of_ble_eq_true rfl) (Nat.le_of_ble_eq_true rfl) ?_
  exact W.vret hx hb hr (fun t ht hW => ⟨⟨(), rfl, trivial, q1, q2, q3, q4, q5, q6, by rw [ht]; exact hP, va_K.moved hW.alike hK, hD⟩, hS.F ht⟩) hS.2.2 d_X7_73
set_option maxHeartbeats 16000000 in
set_option maxRecDepth 100000 in
theorem c_X7_init_1920 (l : Launch) (D : va_G) (cI cL : ClassId) (h0 sz : Nat) : Met l yX7_init (wC yX7_init cX7_init 2) ({ frames := 2, cells := 6, slots := 2113, locals := 100 }) (va_Pc [.ref h0, .int (jn 1920)] (fun U => U.heap.size = sz ∧ va_P D vwCl [(h0, .inr (7, [.null, .null, .null, .null, .null, .int 0, .int 0, .int 0, .int 0, .int 0]))] U.heap ∧ va_K D vwCl [(cI, .int), (cL, .long)] U ∧ va_D (fun _ => True) [(h0, .inr (7, [.null, .null, .null, .null, .null, .int 0, .int 0, .int 0, .int 0, .int 0]))]))
    (va_Qv (fun _ : Unit => True) (fun _ t => ∃ q1 q2 q3 q4 q5 q6, va_P D vwCl [(h0, .inr (7, [.ref q5, .ref q1, .ref q2, .ref q3, .ref q4, .int 0, .int 0, .int 0, .int 0, .int 1])), (q1, .inl (cI, 48, .inl (fun _ => 0))), (q2, .inl (cI, 48, .inl (fun _ => 0))), (q3, .inl (cI, 48, .inl (fun _ => 0))), (q4, .inl (cI, 48, .inl (fun _ => 0))), (q5, .inr (6, [.ref q6])), (q6, .inl (cI, 1920, .inl (fun _ => 0)))] t.heap ∧ va_K D vwCl [(cI, .int), (cL, .long)] t ∧ va_D (va_A [(h0, .inr (7, [.null, .null, .null, .null, .null, .int 0, .int 0, .int 0, .int 0, .int 0]))] sz) [(h0, .inr (7, [.ref q5, .ref q1, .ref q2, .ref q3, .ref q4, .int 0, .int 0, .int 0, .int 0, .int 1])), (q1, .inl (cI, 48, .inl (fun _ => 0))), (q2, .inl (cI, 48, .inl (fun _ => 0))), (q3, .inl (cI, 48, .inl (fun _ => 0))), (q4, .inl (cI, 48, .inl (fun _ => 0))), (q5, .inr (6, [.ref q6])), (q6, .inl (cI, 1920, .inl (fun _ => 0)))]) (va_A [(h0, .inr (7, [.null, .null, .null, .null, .null, .int 0, .int 0, .int 0, .int 0, .int 0]))] sz)) 6 2113 (va_A [(h0, .inr (7, [.null, .null, .null, .null, .null, .int 0, .int 0, .int 0, .int 0, .int 0]))] sz) := by
  refine Met.ofW (cc := cX7_init) (maxL := 2) (ret := none) (by decide) rfl ?_
  intro p e s m args below meth c s₁ B hml hv
  obtain ⟨rfl, hsz, hP, hK, hD0⟩ := hv
  have hx := B.exec
  have hb := B.bytes
  have hr := B.returns
  have hts0 := atoms_spec (ws := wC yX7_init cX7_init 2) B.pre
  have hts : ∀ w ∈ TW, w.before _ s = true := fun w h => hts0 w (List.mem_cons_of_mem _ h)
  have hown : s.vm.findClass RX7 = some m.cls := findClass_of_methodNamed B.named
  have hlocks := B.notSynchronized
  have hin : meth.name = "<init>" := (name_of_methodNamed B.named B.method).1
  subst hsz
  have hD := hD0.self (sz := s.heap.size)
  generalize hAe : va_A [(h0, .inr (7, [.null, .null, .null, .null, .null, .int 0, .int 0, .int 0, .int 0, .int 0]))] s.heap.size = A at hD ⊢
  have hA : ∀ q : Nat, s.heap.size ≤ q → A q := fun q h => by rw [← hAe]; exact Or.inr h
  have hS : va_S A s.heap s.heap [] := va_S.rf
  have hl := lv_entry ([.ref h0, .int (jn 1920)]) (n := 2) (Nat.le_of_ble_eq_true rfl)
  rw [lg_entry_eq]
  generalize (lg_sl ([.ref h0, .int (jn 1920)]) ++ List.replicate (2 - (lg_sl ([.ref h0, .int (jn 1920)])).length) Slot.unset).toArray = ls at hl ⊢
  have hl : lv_has ls 2 [(0, .ref h0), (1, .int (jn 1920))] := hl
  refine lv_aload_n hx hb d_X7_0 rfl (lv_at hl 0 rfl) ?_
  refine W.objInit hx hb hown (hts (.methodLink RX7 5 objectInit) (by decide +kernel)) (hts (.instanceMethod objectInit) (by decide +kernel)) (hts (.code objectInit ⟨#[0xb1]⟩ 1 none) (by decide +kernel)) rfl (by rw [hml]; exact hl.1) rfl d_X7_1 (Nat.le_of_ble_eq_true rfl) (Nat.le_of_ble_eq_true rfl) ?_
  refine W.eq (g2 := F0 m 4 ls []) rfl ?_
  refine lv_aload_n hx hb d_X7_4 rfl (lv_at hl 0 rfl) ?_
  refine lv_bipush (v := jn 48) hx hb d_X7_5 (by decide) ?_
  refine newaI (N := 48) hx hb (hts (.arrayClass .int) (by decide +kernel)) hK hP hD hS hA (by decide) (by decide) (Nat.le_of_ble_eq_true rfl) (Nat.le_of_ble_eq_true rfl) (Nat.le_of_ble_eq_true rfl) d_X7_7 (fun q1 H hP hD hS => ?_)
  refine va_putF (D := D) (ci := 7) (v := .ref q1) (ty := .array .int) (C := RX7) (T := TX7) (N := 10) hx hb hts uw_7 tyX7 tyX7_ok nmX7 hown hK hP hD hS 0 rfl rfl 1 (by decide) (hts (.fieldLink RX7 11 "TermStrategies$State" "kinds" "[I") (by decide +kernel)) (fun _ h9 => h9) rfl hin rfl (by decide +kernel) rfl rfl (Nat.le_of_ble_eq_true rfl) d_X7_9 (fun H locs hP hD hS => ?_)
  have hP : va_P D vwCl [(h0, .inr (7, [.null, .ref q1, .null, .null, .null, .int 0, .int 0, .int 0, .int 0, .int 0])), (q1, .inl (cI, 48, .inl (fun _ => 0)))] H := hP
  have hD : va_D A [(h0, .inr (7, [.null, .ref q1, .null, .null, .null, .int 0, .int 0, .int 0, .int 0, .int 0])), (q1, .inl (cI, 48, .inl (fun _ => 0)))] := hD
  refine lv_aload_n hx hb d_X7_12 rfl (lv_at hl 0 rfl) ?_
  refine lv_bipush (v := jn 48) hx hb d_X7_13 (by decide) ?_
  refine newaI (N := 48) hx hb (hts (.arrayClass .int) (by decide +kernel)) hK hP hD hS hA (by decide) (by decide) (Nat.le_of_ble_eq_true rfl) (Nat.le_of_ble_eq_true rfl) (Nat.le_of_ble_eq_true rfl) d_X7_15 (fun q2 H hP hD hS => ?_)
  refine va_putF (D := D) (ci := 7) (v := .ref q2) (ty := .array .int) (C := RX7) (T := TX7) (N := 10) hx hb hts uw_7 tyX7 tyX7_ok nmX7 hown hK hP hD hS 0 rfl rfl 2 (by decide) (hts (.fieldLink RX7 15 "TermStrategies$State" "firsts" "[I") (by decide +kernel)) (fun _ h9 => h9) rfl hin rfl (by decide +kernel) rfl rfl (Nat.le_of_ble_eq_true rfl) d_X7_17 (fun H locs hP hD hS => ?_)
  have hP : va_P D vwCl [(h0, .inr (7, [.null, .ref q1, .ref q2, .null, .null, .int 0, .int 0, .int 0, .int 0, .int 0])), (q1, .inl (cI, 48, .inl (fun _ => 0))), (q2, .inl (cI, 48, .inl (fun _ => 0)))] H := hP
  have hD : va_D A [(h0, .inr (7, [.null, .ref q1, .ref q2, .null, .null, .int 0, .int 0, .int 0, .int 0, .int 0])), (q1, .inl (cI, 48, .inl (fun _ => 0))), (q2, .inl (cI, 48, .inl (fun _ => 0)))] := hD
  refine lv_aload_n hx hb d_X7_20 rfl (lv_at hl 0 rfl) ?_
  refine lv_bipush (v := jn 48) hx hb d_X7_21 (by decide) ?_
  refine newaI (N := 48) hx hb (hts (.arrayClass .int) (by decide +kernel)) hK hP hD hS hA (by decide) (by decide) (Nat.le_of_ble_eq_true rfl) (Nat.le_of_ble_eq_true rfl) (Nat.le_of_ble_eq_true rfl) d_X7_23 (fun q3 H hP hD hS => ?_)
  refine va_putF (D := D) (ci := 7) (v := .ref q3) (ty := .array .int) (C := RX7) (T := TX7) (N := 10) hx hb hts uw_7 tyX7 tyX7_ok nmX7 hown hK hP hD hS 0 rfl rfl 3 (by decide) (hts (.fieldLink RX7 18 "TermStrategies$State" "seconds" "[I") (by decide +kernel)) (fun _ h9 => h9) rfl hin rfl (by decide +kernel) rfl rfl (Nat.le_of_ble_eq_true rfl) d_X7_25 (fun H locs hP hD hS => ?_)
  have hP : va_P D vwCl [(h0, .inr (7, [.null, .ref q1, .ref q2, .ref q3, .null, .int 0, .int 0, .int 0, .int 0, .int 0])), (q1, .inl (cI, 48, .inl (fun _ => 0))), (q2, .inl (cI, 48, .inl (fun _ => 0))), (q3, .inl (cI, 48, .inl (fun _ => 0)))] H := hP
  have hD : va_D A [(h0, .inr (7, [.null, .ref q1, .ref q2, .ref q3, .null, .int 0, .int 0, .int 0, .int 0, .int 0])), (q1, .inl (cI, 48, .inl (fun _ => 0))), (q2, .inl (cI, 48, .inl (fun _ => 0))), (q3, .inl (cI, 48, .inl (fun _ => 0)))] := hD
  refine lv_aload_n hx hb d_X7_28 rfl (lv_at hl 0 rfl) ?_
  refine lv_bipush (v := jn 48) hx hb d_X7_29 (by decide) ?_
  refine newaI (N := 48) hx hb (hts (.arrayClass .int) (by decide +kernel)) hK hP hD hS hA (by decide) (by decide) (Nat.le_of_ble_eq_true rfl) (Nat.le_of_ble_eq_true rfl) (Nat.le_of_ble_eq_true rfl) d_X7_31 (fun q4 H hP hD hS => ?_)
  refine va_putF (D := D) (ci := 7) (v := .ref q4) (ty := .array .int) (C := RX7) (T := TX7) (N := 10) hx hb hts uw_7 tyX7 tyX7_ok nmX7 hown hK hP hD hS 0 rfl rfl 4 (by decide) (hts (.fieldLink RX7 21 "TermStrategies$State" "weights" "[I") (by decide +kernel)) (fun _ h9 => h9) rfl hin rfl (by decide +kernel) rfl rfl (Nat.le_of_ble_eq_true rfl) d_X7_33 (fun H locs hP hD hS => ?_)
  have hP : va_P D vwCl [(h0, .inr (7, [.null, .ref q1, .ref q2, .ref q3, .ref q4, .int 0, .int 0, .int 0, .int 0, .int 0])), (q1, .inl (cI, 48, .inl (fun _ => 0))), (q2, .inl (cI, 48, .inl (fun _ => 0))), (q3, .inl (cI, 48, .inl (fun _ => 0))), (q4, .inl (cI, 48, .inl (fun _ => 0)))] H := hP
  have hD : va_D A [(h0, .inr (7, [.null, .ref q1, .ref q2, .ref q3, .ref q4, .int 0, .int 0, .int 0, .int 0, .int 0])), (q1, .inl (cI, 48, .inl (fun _ => 0))), (q2, .inl (cI, 48, .inl (fun _ => 0))), (q3, .inl (cI, 48, .inl (fun _ => 0))), (q4, .inl (cI, 48, .inl (fun _ => 0)))] := hD
  refine lv_aload_n hx hb d_X7_36 rfl (lv_at hl 0 rfl) ?_
  refine lv_iconst (v := 0) hx hb d_X7_37 (by decide) ?_
  refine va_put (D := D) (ci := 7) (v := .int 0) (ty := .int) (C := RX7) (T := TX7) (N := 10) hx hb hts uw_7 tyX7 tyX7_ok nmX7 hown hK hP hD hS 0 rfl rfl 5 (by decide) (hts (.fieldLink RX7 24 "TermStrategies$State" "terms" "I") (by decide +kernel)) (fun _ h9 => h9) rfl (by decide +kernel) rfl rfl (Nat.le_of_ble_eq_true rfl) d_X7_38 (fun H locs hP hD hS => ?_)
  have hP : va_P D vwCl [(h0, .inr (7, [.null, .ref q1, .ref q2, .ref q3, .ref q4, .int 0, .int 0, .int 0, .int 0, .int 0])), (q1, .inl (cI, 48, .inl (fun _ => 0))), (q2, .inl (cI, 48, .inl (fun _ => 0))), (q3, .inl (cI, 48, .inl (fun _ => 0))), (q4, .inl (cI, 48, .inl (fun _ => 0)))] H := hP
  have hD : va_D A [(h0, .inr (7, [.null, .ref q1, .ref q2, .ref q3, .ref q4, .int 0, .int 0, .int 0, .int 0, .int 0])), (q1, .inl (cI, 48, .inl (fun _ => 0))), (q2, .inl (cI, 48, .inl (fun _ => 0))), (q3, .inl (cI, 48, .inl (fun _ => 0))), (q4, .inl (cI, 48, .inl (fun _ => 0)))] := hD
  refine lv_aload_n hx hb d_X7_41 rfl (lv_at hl 0 rfl) ?_
  refine lv_iconst (v := 0) hx hb d_X7_42 (by decide) ?_
  refine va_put (D := D) (ci := 7) (v := .int 0) (ty := .int) (C := RX7) (T := TX7) (N := 10) hx hb hts uw_7 tyX7 tyX7_ok nmX7 hown hK hP hD hS 0 rfl rfl 6 (by decide) (hts (.fieldLink RX7 28 "TermStrategies$State" "rules" "I") (by decide +kernel)) (fun _ h9 => h9) rfl (by decide +kernel) rfl rfl (Nat.le_of_ble_eq_true rfl) d_X7_43 (fun H locs hP hD hS => ?_)
  have hP : va_P D vwCl [(h0, .inr (7, [.null, .ref q1, .ref q2, .ref q3, .ref q4, .int 0, .int 0, .int 0, .int 0, .int 0])), (q1, .inl (cI, 48, .inl (fun _ => 0))), (q2, .inl (cI, 48, .inl (fun _ => 0))), (q3, .inl (cI, 48, .inl (fun _ => 0))), (q4, .inl (cI, 48, .inl (fun _ => 0)))] H := hP
  have hD : va_D A [(h0, .inr (7, [.null, .ref q1, .ref q2, .ref q3, .ref q4, .int 0, .int 0, .int 0, .int 0, .int 0])), (q1, .inl (cI, 48, .inl (fun _ => 0))), (q2, .inl (cI, 48, .inl (fun _ => 0))), (q3, .inl (cI, 48, .inl (fun _ => 0))), (q4, .inl (cI, 48, .inl (fun _ => 0)))] := hD
  refine lv_aload_n hx hb d_X7_46 rfl (lv_at hl 0 rfl) ?_
  refine lv_iconst (v := 0) hx hb d_X7_47 (by decide) ?_
  refine va_put (D := D) (ci := 7) (v := .int 0) (ty := .int) (C := RX7) (T := TX7) (N := 10) hx hb hts uw_7 tyX7 tyX7_ok nmX7 hown hK hP hD hS 0 rfl rfl 7 (by decide) (hts (.fieldLink RX7 31 "TermStrategies$State" "strategies" "I") (by decide +kernel)) (fun _ h9 => h9) rfl (by decide +kernel) rfl rfl (Nat.le_of_ble_eq_true rfl) d_X7_48 (fun H locs hP hD hS => ?_)
  have hP : va_P D vwCl [(h0, .inr (7, [.null, .ref q1, .ref q2, .ref q3, .ref q4, .int 0, .int 0, .int 0, .int 0, .int 0])), (q1, .inl (cI, 48, .inl (fun _ => 0))), (q2, .inl (cI, 48, .inl (fun _ => 0))), (q3, .inl (cI, 48, .inl (fun _ => 0))), (q4, .inl (cI, 48, .inl (fun _ => 0)))] H := hP
  have hD : va_D A [(h0, .inr (7, [.null, .ref q1, .ref q2, .ref q3, .ref q4, .int 0, .int 0, .int 0, .int 0, .int 0])), (q1, .inl (cI, 48, .inl (fun _ => 0))), (q2, .inl (cI, 48, .inl (fun _ => 0))), (q3, .inl (cI, 48, .inl (fun _ => 0))), (q4, .inl (cI, 48, .inl (fun _ => 0)))] := hD
  refine lv_aload_n hx hb d_X7_51 rfl (lv_at hl 0 rfl) ?_
  refine lv_iconst (v := 0) hx hb d_X7_52 (by decide) ?_
  refine va_put (D := D) (ci := 7) (v := .int 0) (ty := .int) (C := RX7) (T := TX7) (N := 10) hx hb hts uw_7 tyX7 tyX7_ok nmX7 hown hK hP hD hS 0 rfl rfl 8 (by decide) (hts (.fieldLink RX7 34 "TermStrategies$State" "commuting" "I") (by decide +kernel)) (fun _ h9 => h9) rfl (by decide +kernel) rfl rfl (Nat.le_of_ble_eq_true rfl) d_X7_53 (fun H locs hP hD hS => ?_)
  have hP : va_P D vwCl [(h0, .inr (7, [.null, .ref q1, .ref q2, .ref q3, .ref q4, .int 0, .int 0, .int 0, .int 0, .int 0])), (q1, .inl (cI, 48, .inl (fun _ => 0))), (q2, .inl (cI, 48, .inl (fun _ => 0))), (q3, .inl (cI, 48, .inl (fun _ => 0))), (q4, .inl (cI, 48, .inl (fun _ => 0)))] H := hP
  have hD : va_D A [(h0, .inr (7, [.null, .ref q1, .ref q2, .ref q3, .ref q4, .int 0, .int 0, .int 0, .int 0, .int 0])), (q1, .inl (cI, 48, .inl (fun _ => 0))), (q2, .inl (cI, 48, .inl (fun _ => 0))), (q3, .inl (cI, 48, .inl (fun _ => 0))), (q4, .inl (cI, 48, .inl (fun _ => 0)))] := hD
  refine lv_aload_n hx hb d_X7_56 rfl (lv_at hl 0 rfl) ?_
  refine lv_iconst (v := 1) hx hb d_X7_57 (by decide) ?_
  refine va_put (D := D) (ci := 7) (v := .int 1) (ty := .int) (C := RX7) (T := TX7) (N := 10) hx hb hts uw_7 tyX7 tyX7_ok nmX7 hown hK hP hD hS 0 rfl rfl 9 (by decide) (hts (.fieldLink RX7 37 "TermStrategies$State" "seed" "I") (by decide +kernel)) (fun _ h9 => h9) rfl (by decide +kernel) rfl rfl (Nat.le_of_ble_eq_true rfl) d_X7_58 (fun H locs hP hD hS => ?_)
  have hP : va_P D vwCl [(h0, .inr (7, [.null, .ref q1, .ref q2, .ref q3, .ref q4, .int 0, .int 0, .int 0, .int 0, .int 1])), (q1, .inl (cI, 48, .inl (fun _ => 0))), (q2, .inl (cI, 48, .inl (fun _ => 0))), (q3, .inl (cI, 48, .inl (fun _ => 0))), (q4, .inl (cI, 48, .inl (fun _ => 0)))] H := hP
  have hD : va_D A [(h0, .inr (7, [.null, .ref q1, .ref q2, .ref q3, .ref q4, .int 0, .int 0, .int 0, .int 0, .int 1])), (q1, .inl (cI, 48, .inl (fun _ => 0))), (q2, .inl (cI, 48, .inl (fun _ => 0))), (q3, .inl (cI, 48, .inl (fun _ => 0))), (q4, .inl (cI, 48, .inl (fun _ => 0)))] := hD
  refine lv_aload_n hx hb d_X7_61 rfl (lv_at hl 0 rfl) ?_
  refine va_new (ci := 6) (fs := [.null]) (C := RX6) (T := TX6) (N := 1) hx hb hts uw_6 tyX6 tyX6_ok hown (hts (.classLink RX7 40 RX6) (by decide +kernel)) (hts (.instantiable RX6 1) (by decide +kernel)) (hts (.initialized RX6) (by decide +kernel)) hK hP hD hS hA rfl (fun j hj => by rcases (show j = 0 by omega) with rfl <;> rfl) (Nat.le_of_ble_eq_true rfl) (Nat.le_of_ble_eq_true rfl) d_X7_62 (fun q5 H hP hD hS => ?_)
  have hP : va_P D vwCl [(h0, .inr (7, [.null, .ref q1, .ref q2, .ref q3, .ref q4, .int 0, .int 0, .int 0, .int 0, .int 1])), (q1, .inl (cI, 48, .inl (fun _ => 0))), (q2, .inl (cI, 48, .inl (fun _ => 0))), (q3, .inl (cI, 48, .inl (fun _ => 0))), (q4, .inl (cI, 48, .inl (fun _ => 0))), (q5, .inr (6, [.null]))] H := hP
  have hD : va_D A [(h0, .inr (7, [.null, .ref q1, .ref q2, .ref q3, .ref q4, .int 0, .int 0, .int 0, .int 0, .int 1])), (q1, .inl (cI, 48, .inl (fun _ => 0))), (q2, .inl (cI, 48, .inl (fun _ => 0))), (q3, .inl (cI, 48, .inl (fun _ => 0))), (q4, .inl (cI, 48, .inl (fun _ => 0))), (q5, .inr (6, [.null]))] := hD
  refine lv_dup hx hb d_X7_65 rfl ?_
  refine lv_iload_n hx hb d_X7_66 rfl (lv_at hl 1 rfl) ?_
  have hPc := hP.sub (ws' := [(q5, .inr (6, [.null]))]) [5] rfl
  have hDc := hD.sub (ws' := [(q5, .inr (6, [.null]))]) [5] (by decide) rfl
  have hFc := va_free (wc := [(q5, .inr (6, [.null]))]) hD hS hA [5] rfl
  refine va_callv (va_runI (As := [.int (jn 1920)]) (rest := [.ref q5, .ref h0]) ⟨hx, hb, hml, hown, hts⟩ (c_X6_init l D cI cL q5 H.size 1920 (by omega)) (cwI 1 hts (g_con cw_X6) rfl rfl rfl (hts (.initialized RX6) (by decide +kernel)) (hts (.methodLink RX7 42 yX6_init) (by decide +kernel)) (hts (.instanceMethod yX6_init) (by decide +kernel)) rfl (by decide +kernel) ⟨Nat.le_of_ble_eq_true rfl, Nat.le_of_ble_eq_true rfl⟩) ⟨fun a U g mk q => by obtain ⟨q0, q1, qP, qK, qD⟩ := q; exact ⟨q0, q1, qP, va_K.moved (u := U) (U := U.calling g mk a) (Vm.Alike.refl U.vm) qK, qD⟩, fun U hU hW => ⟨rfl, by rw [hU], by rw [hU]; exact hPc, va_K.moved hW.alike hK, hDc.weaken (fun _ _ _ _ => trivial)⟩⟩ rfl rfl hl.1 rfl (lv_room (Nat.le_of_ble_eq_true rfl)) d_X7_67 ⟨Nat.le_of_ble_eq_true rfl, Nat.le_of_ble_eq_true rfl⟩) hS (fun q _ h => hFc q h) hFc (fun u t H1 locs ht hvm hw hB hz1 hk1 hS => ?_)
  obtain ⟨q6, hP1, hK1, hD1⟩ := hB
  rw [ht] at hP1
  obtain ⟨hP, hD⟩ := va_join (wr := [(h0, .inr (7, [.null, .ref q1, .ref q2, .ref q3, .ref q4, .int 0, .int 0, .int 0, .int 0, .int 1])), (q1, .inl (cI, 48, .inl (fun _ => 0))), (q2, .inl (cI, 48, .inl (fun _ => 0))), (q3, .inl (cI, 48, .inl (fun _ => 0))), (q4, .inl (cI, 48, .inl (fun _ => 0)))]) (w1 := [(q5, .inr (6, [.ref q6])), (q6, .inl (cI, 1920, .inl (fun _ => 0)))]) hP hD [5] [0, 1, 2, 3, 4] rfl rfl (by decide) (by decide) hk1 hFc hP1 hD1
  clear hK1 hP1 hD1 hk1 hz1 hFc hPc hDc
  generalize H1 = H at hP hS ⊢
  have hP : va_P D vwCl [(h0, .inr (7, [.null, .ref q1, .ref q2, .ref q3, .ref q4, .int 0, .int 0, .int 0, .int 0, .int 1])), (q1, .inl (cI, 48, .inl (fun _ => 0))), (q2, .inl (cI, 48, .inl (fun _ => 0))), (q3, .inl (cI, 48, .inl (fun _ => 0))), (q4, .inl (cI, 48, .inl (fun _ => 0))), (q5, .inr (6, [.ref q6])), (q6, .inl (cI, 1920, .inl (fun _ => 0)))] H := hP
  have hD : va_D A [(h0, .inr (7, [.null, .ref q1, .ref q2, .ref q3, .ref q4, .int 0, .int 0, .int 0, .int 0, .int 1])), (q1, .inl (cI, 48, .inl (fun _ => 0))), (q2, .inl (cI, 48, .inl (fun _ => 0))), (q3, .inl (cI, 48, .inl (fun _ => 0))), (q4, .inl (cI, 48, .inl (fun _ => 0))), (q5, .inr (6, [.ref q6])), (q6, .inl (cI, 1920, .inl (fun _ => 0)))] := hD
  refine va_putF (D := D) (ci := 7) (v := .ref q5) (ty := .object "TermStrategies$Signs") (C := RX7) (T := TX7) (N := 10) hx hb hts uw_7 tyX7 tyX7_ok nmX7 hown hK hP hD hS 0 rfl rfl 0 (by decide) (hts (.fieldLink RX7 45 "TermStrategies$State" "signs" "LTermStrategies$Signs;") (by decide +kernel)) (fun _ h9 => h9) rfl hin rfl (by decide +kernel) rfl rfl (Nat.le_of_ble_eq_true rfl) d_X7_70 (fun H locs hP hD hS => ?_)
  have hP : va_P D vwCl [(h0, .inr (7, [.ref q5, .ref q1, .ref q2, .ref q3, .ref q4, .int 0, .int 0, .int 0, .int 0, .int 1])), (q1, .inl (cI, 48, .inl (fun _ => 0))), (q2, .inl (cI, 48, .inl (fun _ => 0))), (q3, .inl (cI, 48, .inl (fun _ => 0))), (q4, .inl (cI, 48, .inl (fun _ => 0))), (q5, .inr (6, [.ref q6])), (q6, .inl (cI, 1920, .inl (fun _ => 0)))] H := hP
  have hD : va_D A [(h0, .inr (7, [.ref q5, .ref q1, .ref q2, .ref q3, .ref q4, .int 0, .int 0, .int 0, .int 0, .int 1])), (q1, .inl (cI, 48, .inl (fun _ => 0))), (q2, .inl (cI, 48, .inl (fun _ => 0))), (q3, .inl (cI, 48, .inl (fun _ => 0))), (q4, .inl (cI, 48, .inl (fun _ => 0))), (q5, .inr (6, [.ref q6])), (q6, .inl (cI, 1920, .inl (fun _ => 0)))] := hD
  refine W.widen (k := 6) (n := 2113) (Nat.le_of_ble_eq_true rfl) (Nat.le_of_ble_eq_true rfl) ?_
  exact W.vret hx hb hr (fun t ht hW => ⟨⟨(), rfl, trivial, q1, q2, q3, q4, q5, q6, by rw [ht]; exact hP, va_K.moved hW.alike hK, hD⟩, hS.F ht⟩) hS.2.2 d_X7_73
theorem d_X4_0 : decode cX4_init 0 = .ok (.aload_n 0, 1) := by decide +kernel
theorem d_X4_1 : decode cX4_init 1 = .ok (.invokespecial 3, 3) := by decide +kernel
theorem d_X4_4 : decode cX4_init 4 = .ok (.aload_n 0, 1) := by decide +kernel
theorem d_X4_5 : decode cX4_init 5 = .ok (.new 9, 3) := by decide +kernel
theorem d_X4_8 : decode cX4_init 8 = .ok (.dup, 1) := by decide +kernel
theorem d_X4_9 : decode cX4_init 9 = .ok (.invokespecial 11, 3) := by decide +kernel
theorem d_X4_12 : decode cX4_init 12 = .ok (.putfield 12, 3) := by decide +kernel
theorem d_X4_15 : decode cX4_init 15 = .ok (.aload_n 0, 1) := by decide +kernel
theorem d_X4_16 : decode cX4_init 16 = .ok (.sipush 600, 3) := by decide +kernel
theorem d_X4_19 : decode cX4_init 19 = .ok (.newarray .int, 2) := by decide +kernel
theorem d_X4_21 : decode cX4_init 21 = .ok (.putfield 18, 3) := by decide +kernel
theorem d_X4_24 : decode cX4_init 24 = .ok (.aload_n 0, 1) := by decide +kernel
theorem d_X4_25 : decode cX4_init 25 = .ok (.sipush 600, 3) := by decide +kernel
theorem d_X4_28 : decode cX4_init 28 = .ok (.newarray .int, 2) := by decide +kernel
theorem d_X4_30 : decode cX4_init 30 = .ok (.putfield 22, 3) := by decide +kernel
theorem d_X4_33 : decode cX4_init 33 = .ok (.aload_n 0, 1) := by decide +kernel
theorem d_X4_34 : decode cX4_init 34 = .ok (.sipush 600, 3) := by decide +kernel
theorem d_X4_37 : decode cX4_init 37 = .ok (.newarray .long, 2) := by decide +kernel
theorem d_X4_39 : decode cX4_init 39 = .ok (.putfield 25, 3) := by decide +kernel
theorem d_X4_42 : decode cX4_init 42 = .ok (.aload_n 0, 1) := by decide +kernel
theorem d_X4_43 : decode cX4_init 43 = .ok (.sipush 600, 3) := by decide +kernel
theorem d_X4_46 : decode cX4_init 46 = .ok (.newarray .int, 2) := by decide +kernel
theorem d_X4_48 : decode cX4_init 48 = .ok (.putfield 29, 3) := by decide +kernel
theorem d_X4_51 : decode cX4_init 51 = .ok (.aload_n 0, 1) := by decide +kernel
theorem d_X4_52 : decode cX4_init 52 = .ok (.sipush 600, 3) := by decide +kernel
theorem d_X4_55 : decode cX4_init 55 = .ok (.newarray .int, 2) := by decide +kernel
theorem d_X4_57 : decode cX4_init 57 = .ok (.putfield 32, 3) := by decide +kernel
theorem d_X4_60 : decode cX4_init 60 = .ok (.aload_n 0, 1) := by decide +kernel
theorem d_X4_61 : decode cX4_init 61 = .ok (.sipush 600, 3) := by decide +kernel
theorem d_X4_64 : decode cX4_init 64 = .ok (.newarray .int, 2) := by decide +kernel
theorem d_X4_66 : decode cX4_init 66 = .ok (.putfield 35, 3) := by decide +kernel
theorem d_X4_69 : decode cX4_init 69 = .ok (.aload_n 0, 1) := by decide +kernel
theorem d_X4_70 : decode cX4_init 70 = .ok (.sipush 600, 3) := by decide +kernel
theorem d_X4_73 : decode cX4_init 73 = .ok (.newarray .int, 2) := by decide +kernel
theorem d_X4_75 : decode cX4_init 75 = .ok (.putfield 38, 3) := by decide +kernel
theorem d_X4_78 : decode cX4_init 78 = .ok (.aload_n 0, 1) := by decide +kernel
theorem d_X4_79 : decode cX4_init 79 = .ok (.iconst 0, 1) := by decide +kernel
theorem d_X4_80 : decode cX4_init 80 = .ok (.putfield 41, 3) := by decide +kernel
theorem d_X4_83 : decode cX4_init 83 = .ok (.aload_n 0, 1) := by decide +kernel
theorem d_X4_84 : decode cX4_init 84 = .ok (.iconst 0, 1) := by decide +kernel
theorem d_X4_85 : decode cX4_init 85 = .ok (.putfield 45, 3) := by decide +kernel
theorem d_X4_88 : decode cX4_init 88 = .ok (.aload_n 0, 1) := by decide +kernel
theorem d_X4_89 : decode cX4_init 89 = .ok (.iconst 0, 1) := by decide +kernel
theorem d_X4_90 : decode cX4_init 90 = .ok (.putfield 48, 3) := by decide +kernel
theorem d_X4_93 : decode cX4_init 93 = .ok (.aload_n 0, 1) := by decide +kernel
theorem d_X4_94 : decode cX4_init 94 = .ok (.sipush 2120, 3) := by decide +kernel
theorem d_X4_97 : decode cX4_init 97 = .ok (.putfield 51, 3) := by decide +kernel
theorem d_X4_100 : decode cX4_init 100 = .ok (.aload_n 0, 1) := by decide +kernel
theorem d_X4_101 : decode cX4_init 101 = .ok (.iconst (-1), 1) := by decide +kernel
theorem d_X4_102 : decode cX4_init 102 = .ok (.putfield 54, 3) := by decide +kernel
theorem d_X4_105 : decode cX4_init 105 = .ok (.aload_n 0, 1) := by decide +kernel
theorem d_X4_106 : decode cX4_init 106 = .ok (.iconst 0, 1) := by decide +kernel
theorem d_X4_107 : decode cX4_init 107 = .ok (.putfield 57, 3) := by decide +kernel
theorem d_X4_110 : decode cX4_init 110 = .ok (.aload_n 0, 1) := by decide +kernel
theorem d_X4_111 : decode cX4_init 111 = .ok (.aload_n 1, 1) := by decide +kernel
theorem d_X4_112 : decode cX4_init 112 = .ok (.putfield 61, 3) := by decide +kernel
theorem d_X4_115 : decode cX4_init 115 = .ok (.aload_n 0, 1) := by decide +kernel
theorem d_X4_116 : decode cX4_init 116 = .ok (.aload_n 1, 1) := by decide +kernel
theorem d_X4_117 : decode cX4_init 117 = .ok (.getfield 65, 3) := by decide +kernel
theorem d_X4_120 : decode cX4_init 120 = .ok (.putfield 71, 3) := by decide +kernel
theorem d_X4_123 : decode cX4_init 123 = .ok (.aload_n 0, 1) := by decide +kernel
theorem d_X4_124 : decode cX4_init 124 = .ok (.aload_n 2, 1) := by decide +kernel
theorem d_X4_125 : decode cX4_init 125 = .ok (.putfield 72, 3) := by decide +kernel
theorem d_X4_128 : decode cX4_init 128 = .ok (.return_, 1) := by decide +kernel
set_option maxHeartbeats 16000000 in
set_option maxRecDepth 100000 in
theorem c_X4_init (l : Launch) (D : va_G) (cI cL : ClassId) (h0 h1 h2 a0 a1 a2 a3 a4 sz : Nat) : Met l yX4_init (wC yX4_init cX4_init 3) ({ frames := 2, cells := 10, slots := 4283, locals := 100 }) (va_Pc [.ref h0, .ref h1, .ref h2] (fun U => U.heap.size = sz ∧ va_P D vwCl [(h0, .inr (4, [.null, .null, .null, .null, .null, .null, .null, .null, .null, .null, .null, .int 0, .int 0, .int 0, .int 0, .int 0, .int 0])), (h1, .inr (7, [.ref a0, .ref a1, .ref a2, .ref a3, .ref a4, .int 0, .int 0, .int 0, .int 0, .int 1]))] U.heap ∧ va_K D vwCl [(cI, .int), (cL, .long)] U ∧ va_D (fun _ => True) [(h0, .inr (4, [.null, .null, .null, .null, .null, .null, .null, .null, .null, .null, .null, .int 0, .int 0, .int 0, .int 0, .int 0, .int 0])), (h1, .inr (7, [.ref a0, .ref a1, .ref a2, .ref a3, .ref a4, .int 0, .int 0, .int 0, .int 0, .int 1]))] ∧ Nst U))
    (va_Qv (fun _ : Unit => True) (fun _ t => ∃ q1 q2 q3 q4 q5 q6 q7 q8 q9 q10, va_P D vwCl [(h0, .inr (4, [.ref h1, .ref a0, .ref h2, .ref q1, .ref q4, .ref q5, .ref q6, .ref q7, .ref q8, .ref q9, .ref q10, .int 0, .int 0, .int 0, .int (jn 2120), .int (-1), .int 0])), (h1, .inr (7, [.ref a0, .ref a1, .ref a2, .ref a3, .ref a4, .int 0, .int 0, .int 0, .int 0, .int 1])), (q1, .inr (8, [.ref q2, .ref q3, .int 0])), (q2, .inl (cI, 40, .inl (fun _ => 0))), (q3, .inl (cL, 40, .inr (.inl (fun _ => 0)))), (q4, .inl (cI, 600, .inl (fun _ => 0))), (q5, .inl (cI, 600, .inl (fun _ => 0))), (q6, .inl (cL, 600, .inr (.inl (fun _ => 0)))), (q7, .inl (cI, 600, .inl (fun _ => 0))), (q8, .inl (cI, 600, .inl (fun _ => 0))), (q9, .inl (cI, 600, .inl (fun _ => 0))), (q10, .inl (cI, 600, .inl (fun _ => 0)))] t.heap ∧ va_K D vwCl [(cI, .int), (cL, .long)] t ∧ va_D (va_A [(h0, .inr (4, [.null, .null, .null, .null, .null, .null, .null, .null, .null, .null, .null, .int 0, .int 0, .int 0, .int 0, .int 0, .int 0])), (h1, .inr (7, [.ref a0, .ref a1, .ref a2, .ref a3, .ref a4, .int 0, .int 0, .int 0, .int 0, .int 1]))] sz) [(h0, .inr (4, [.ref h1, .ref a0, .ref h2, .ref q1, .ref q4, .ref q5, .ref q6, .ref q7, .ref q8, .ref q9, .ref q10, .int 0, .int 0, .int 0, .int (jn 2120), .int (-1), .int 0])), (h1, .inr (7, [.ref a0, .ref a1, .ref a2, .ref a3, .ref a4, .int 0, .int 0, .int 0, .int 0, .int 1])), (q1, .inr (8, [.ref q2, .ref q3, .int 0])), (q2, .inl (cI, 40, .inl (fun _ => 0))), (q3, .inl (cL, 40, .inr (.inl (fun _ => 0)))), (q4, .inl (cI, 600, .inl (fun _ => 0))), (q5, .inl (cI, 600, .inl (fun _ => 0))), (q6, .inl (cL, 600, .inr (.inl (fun _ => 0)))), (q7, .inl (cI, 600, .inl (fun _ => 0))), (q8, .inl (cI, 600, .inl (fun _ => 0))), (q9, .inl (cI, 600, .inl (fun _ => 0))), (q10, .inl (cI, 600, .inl (fun _ => 0)))]) (va_A [(h0, .inr (4, [.null, .null, .null, .null, .null, .null, .null, .null, .null, .null, .null, .int 0, .int 0, .int 0, .int 0, .int 0, .int 0])), (h1, .inr (7, [.ref a0, .ref a1, .ref a2, .ref a3, .ref a4, .int 0, .int 0, .int 0, .int 0, .int 1]))] sz)) 10 4283 (va_A [(h0, .inr (4, [.null, .null, .null, .null, .null, .null, .null, .null, .null, .null, .null, .int 0, .int 0, .int 0, .int 0, .int 0, .int 0])), (h1, .inr (7, [.ref a0, .ref a1, .ref a2, .ref a3, .ref a4, .int 0, .int 0, .int 0, .int 0, .int 1]))] sz) := by
  refine Met.ofW (cc := cX4_init) (maxL := 3) (ret := none) (by decide) rfl ?_
  intro p e s m args below meth c s₁ B hml hv
  obtain ⟨rfl, hsz, hP, hK, hD0, hN⟩ := hv
  have hx := B.exec
  have hb := B.bytes
  have hr := B.returns
  have hts0 := atoms_spec (ws := wC yX4_init cX4_init 3) B.pre
  have hts : ∀ w ∈ TW, w.before _ s = true := fun w h => hts0 w (List.mem_cons_of_mem _ h)
  have hown : s.vm.findClass RX4 = some m.cls := findClass_of_methodNamed B.named
  have hlocks := B.notSynchronized
  have hin : meth.name = "<init>" := (name_of_methodNamed B.named B.method).1
  subst hsz
  have hD := hD0.self (sz := s.heap.size)
  generalize hAe : va_A [(h0, .inr (4, [.null, .null, .null, .null, .null, .null, .null, .null, .null, .null, .null, .int 0, .int 0, .int 0, .int 0, .int 0, .int 0])), (h1, .inr (7, [.ref a0, .ref a1, .ref a2, .ref a3, .ref a4, .int 0, .int 0, .int 0, .int 0, .int 1]))] s.heap.size = A at hD ⊢
  have hA : ∀ q : Nat, s.heap.size ≤ q → A q := fun q h => by rw [← hAe]; exact Or.inr h
  have hS : va_S A s.heap s.heap [] := va_S.rf
  have hl := lv_entry ([.ref h0, .ref h1, .ref h2]) (n := 3) (Nat.le_of_ble_eq_true rfl)
  rw [lg_entry_eq]
  generalize (lg_sl ([.ref h0, .ref h1, .ref h2]) ++ List.replicate (3 - (lg_sl ([.ref h0, .ref h1, .ref h2])).length) Slot.unset).toArray = ls at hl ⊢
  have hl : lv_has ls 3 [(0, .ref h0), (1, .ref h1), (2, .ref h2)] := hl
  refine lv_aload_n hx hb d_X4_0 rfl (lv_at hl 0 rfl) ?_
  refine W.objInit hx hb hown (hts (.methodLink RX4 3 objectInit) (by decide +kernel)) (hts (.instanceMethod objectInit) (by decide +kernel)) (hts (.code objectInit ⟨#[0xb1]⟩ 1 none) (by decide +kernel)) rfl (by rw [hml]; exact hl.1) rfl d_X4_1 (Nat.le_of_ble_eq_true rfl) (Nat.le_of_ble_eq_true rfl) ?_
  refine W.eq (g2 := F0 m 4 ls []) rfl ?_
  refine lv_aload_n hx hb d_X4_4 rfl (lv_at hl 0 rfl) ?_
  refine va_new (ci := 8) (fs := [.null, .null, .int 0]) (C := RX8) (T := TX8) (N := 3) hx hb hts uw_8 tyX8 tyX8_ok hown (hts (.classLink RX4 9 RX8) (by decide +kernel)) (hts (.instantiable RX8 3) (by decide +kernel)) (hts (.initialized RX8) (by decide +kernel)) hK hP hD hS hA rfl (fun j hj => by rcases (show j = 0 ∨ j = 1 ∨ j = 2 by omega) with rfl | rfl | rfl <;> rfl) (Nat.le_of_ble_eq_true rfl) (Nat.le_of_ble_eq_true rfl) d_X4_5 (fun q1 H hP hD hS => ?_)
  have hP : va_P D vwCl [(h0, .inr (4, [.null, .null, .null, .null, .null, .null, .null, .null, .null, .null, .null, .int 0, .int 0, .int 0, .int 0, .int 0, .int 0])), (h1, .inr (7, [.ref a0, .ref a1, .ref a2, .ref a3, .ref a4, .int 0, .int 0, .int 0, .int 0, .int 1])), (q1, .inr (8, [.null, .null, .int 0]))] H := hP
  have hD : va_D A [(h0, .inr (4, [.null, .null, .null, .null, .null, .null, .null, .null, .null, .null, .null, .int 0, .int 0, .int 0, .int 0, .int 0, .int 0])), (h1, .inr (7, [.ref a0, .ref a1, .ref a2, .ref a3, .ref a4, .int 0, .int 0, .int 0, .int 0, .int 1])), (q1, .inr (8, [.null, .null, .int 0]))] := hD
  refine lv_dup hx hb d_X4_8 rfl ?_
  have hPc := hP.sub (ws' := [(q1, .inr (8, [.null, .null, .int 0]))]) [2] rfl
  have hDc := hD.sub (ws' := [(q1, .inr (8, [.null, .null, .int 0]))]) [2] (by decide) rfl
  have hFc := va_free (wc := [(q1, .inr (8, [.null, .null, .int 0]))]) hD hS hA [2] rfl
  refine va_callv (va_runIN (As := []) (rest := [.ref q1, .ref h0]) ⟨hx, hb, hml, hown, hts⟩ (c_X8_init l D cI cL q1 H.size) ⟨va_cnB 0 hts (g_con cw_X8) rfl rfl rfl (hN.1) (hts (.initialized RX8) (by decide +kernel)) (by decide +kernel) ⟨Nat.le_of_ble_eq_true rfl, Nat.le_of_ble_eq_true rfl⟩, rfl, hts (.instanceMethod yX8_init) (by decide +kernel)⟩ ⟨fun a U g mk q => by obtain ⟨q0, q1, qP, qK, qD⟩ := q; exact ⟨q0, q1, qP, va_K.moved (u := U) (U := U.calling g mk a) (Vm.Alike.refl U.vm) qK, qD⟩, fun U hU hW => ⟨rfl, by rw [hU], by rw [hU]; exact hPc, va_K.moved hW.alike hK, hDc.weaken (fun _ _ _ _ => trivial)⟩⟩ rfl rfl hl.1 rfl (lv_room (Nat.le_of_ble_eq_true rfl)) d_X4_9 ⟨Nat.le_of_ble_eq_true rfl, Nat.le_of_ble_eq_true rfl⟩) hS (fun q _ h => hFc q h) hFc (fun u t H1 locs ht hvm hw hB hz1 hk1 hS => ?_)
  obtain ⟨q2, q3, hP1, hK1, hD1⟩ := hB
  rw [ht] at hP1
  obtain ⟨hP, hD⟩ := va_join (wr := [(h0, .inr (4, [.null, .null, .null, .null, .null, .null, .null, .null, .null, .null, .null, .int 0, .int 0, .int 0, .int 0, .int 0, .int 0])), (h1, .inr (7, [.ref a0, .ref a1, .ref a2, .ref a3, .ref a4, .int 0, .int 0, .int 0, .int 0, .int 1]))]) (w1 := [(q1, .inr (8, [.ref q2, .ref q3, .int 0])), (q2, .inl (cI, 40, .inl (fun _ => 0))), (q3, .inl (cL, 40, .inr (.inl (fun _ => 0))))]) hP hD [2] [0, 1] rfl rfl (by decide) (by decide) hk1 hFc hP1 hD1
  clear hK1 hP1 hD1 hk1 hz1 hFc hPc hDc
  generalize H1 = H at hP hS ⊢
  have hP : va_P D vwCl [(h0, .inr (4, [.null, .null, .null, .null, .null, .null, .null, .null, .null, .null, .null, .int 0, .int 0, .int 0, .int 0, .int 0, .int 0])), (h1, .inr (7, [.ref a0, .ref a1, .ref a2, .ref a3, .ref a4, .int 0, .int 0, .int 0, .int 0, .int 1])), (q1, .inr (8, [.ref q2, .ref q3, .int 0])), (q2, .inl (cI, 40, .inl (fun _ => 0))), (q3, .inl (cL, 40, .inr (.inl (fun _ => 0))))] H := hP
  have hD : va_D A [(h0, .inr (4, [.null, .null, .null, .null, .null, .null, .null, .null, .null, .null, .null, .int 0, .int 0, .int 0, .int 0, .int 0, .int 0])), (h1, .inr (7, [.ref a0, .ref a1, .ref a2, .ref a3, .ref a4, .int 0, .int 0, .int 0, .int 0, .int 1])), (q1, .inr (8, [.ref q2, .ref q3, .int 0])), (q2, .inl (cI, 40, .inl (fun _ => 0))), (q3, .inl (cL, 40, .inr (.inl (fun _ => 0))))] := hD
  refine va_putF (D := D) (ci := 4) (v := .ref q1) (ty := .object "TermStrategies$Trail") (C := RX4) (T := TX4) (N := 17) hx hb hts uw_4 tyX4 tyX4_ok nmX4 hown hK hP hD hS 0 rfl rfl 3 (by decide) (hts (.fieldLink RX4 12 "TermStrategies$Runner" "trail" "LTermStrategies$Trail;") (by decide +kernel)) (fun _ h9 => h9) rfl hin rfl (by decide +kernel) rfl rfl (Nat.le_of_ble_eq_true rfl) d_X4_12 (fun H locs hP hD hS => ?_)
  have hP : va_P D vwCl [(h0, .inr (4, [.null, .null, .null, .ref q1, .null, .null, .null, .null, .null, .null, .null, .int 0, .int 0, .int 0, .int 0, .int 0, .int 0])), (h1, .inr (7, [.ref a0, .ref a1, .ref a2, .ref a3, .ref a4, .int 0, .int 0, .int 0, .int 0, .int 1])), (q1, .inr (8, [.ref q2, .ref q3, .int 0])), (q2, .inl (cI, 40, .inl (fun _ => 0))), (q3, .inl (cL, 40, .inr (.inl (fun _ => 0))))] H := hP
  have hD : va_D A [(h0, .inr (4, [.null, .null, .null, .ref q1, .null, .null, .null, .null, .null, .null, .null, .int 0, .int 0, .int 0, .int 0, .int 0, .int 0])), (h1, .inr (7, [.ref a0, .ref a1, .ref a2, .ref a3, .ref a4, .int 0, .int 0, .int 0, .int 0, .int 1])), (q1, .inr (8, [.ref q2, .ref q3, .int 0])), (q2, .inl (cI, 40, .inl (fun _ => 0))), (q3, .inl (cL, 40, .inr (.inl (fun _ => 0))))] := hD
  refine lv_aload_n hx hb d_X4_15 rfl (lv_at hl 0 rfl) ?_
  refine lv_sipush (v := jn 600) hx hb d_X4_16 (by decide) ?_
  refine newaI (N := 600) hx hb (hts (.arrayClass .int) (by decide +kernel)) hK hP hD hS hA (by decide) (by decide) (Nat.le_of_ble_eq_true rfl) (Nat.le_of_ble_eq_true rfl) (Nat.le_of_ble_eq_true rfl) d_X4_19 (fun q4 H hP hD hS => ?_)
  refine va_putF (D := D) (ci := 4) (v := .ref q4) (ty := .array .int) (C := RX4) (T := TX4) (N := 17) hx hb hts uw_4 tyX4 tyX4_ok nmX4 hown hK hP hD hS 0 rfl rfl 4 (by decide) (hts (.fieldLink RX4 18 "TermStrategies$Runner" "strategies" "[I") (by decide +kernel)) (fun _ h9 => h9) rfl hin rfl (by decide +kernel) rfl rfl (Nat.le_of_ble_eq_true rfl) d_X4_21 (fun H locs hP hD hS => ?_)
  have hP : va_P D vwCl [(h0, .inr (4, [.null, .null, .null, .ref q1, .ref q4, .null, .null, .null, .null, .null, .null, .int 0, .int 0, .int 0, .int 0, .int 0, .int 0])), (h1, .inr (7, [.ref a0, .ref a1, .ref a2, .ref a3, .ref a4, .int 0, .int 0, .int 0, .int 0, .int 1])), (q1, .inr (8, [.ref q2, .ref q3, .int 0])), (q2, .inl (cI, 40, .inl (fun _ => 0))), (q3, .inl (cL, 40, .inr (.inl (fun _ => 0)))), (q4, .inl (cI, 600, .inl (fun _ => 0)))] H := hP
  have hD : va_D A [(h0, .inr (4, [.null, .null, .null, .ref q1, .ref q4, .null, .null, .null, .null, .null, .null, .int 0, .int 0, .int 0, .int 0, .int 0, .int 0])), (h1, .inr (7, [.ref a0, .ref a1, .ref a2, .ref a3, .ref a4, .int 0, .int 0, .int 0, .int 0, .int 1])), (q1, .inr (8, [.ref q2, .ref q3, .int 0])), (q2, .inl (cI, 40, .inl (fun _ => 0))), (q3, .inl (cL, 40, .inr (.inl (fun _ => 0)))), (q4, .inl (cI, 600, .inl (fun _ => 0)))] := hD
  refine lv_aload_n hx hb d_X4_24 rfl (lv_at hl 0 rfl) ?_
  refine lv_sipush (v := jn 600) hx hb d_X4_25 (by decide) ?_
  refine newaI (N := 600) hx hb (hts (.arrayClass .int) (by decide +kernel)) hK hP hD hS hA (by decide) (by decide) (Nat.le_of_ble_eq_true rfl) (Nat.le_of_ble_eq_true rfl) (Nat.le_of_ble_eq_true rfl) d_X4_28 (fun q5 H hP hD hS => ?_)
  refine va_putF (D := D) (ci := 4) (v := .ref q5) (ty := .array .int) (C := RX4) (T := TX4) (N := 17) hx hb hts uw_4 tyX4 tyX4_ok nmX4 hown hK hP hD hS 0 rfl rfl 5 (by decide) (hts (.fieldLink RX4 22 "TermStrategies$Runner" "wholes" "[I") (by decide +kernel)) (fun _ h9 => h9) rfl hin rfl (by decide +kernel) rfl rfl (Nat.le_of_ble_eq_true rfl) d_X4_30 (fun H locs hP hD hS => ?_)
  have hP : va_P D vwCl [(h0, .inr (4, [.null, .null, .null, .ref q1, .ref q4, .ref q5, .null, .null, .null, .null, .null, .int 0, .int 0, .int 0, .int 0, .int 0, .int 0])), (h1, .inr (7, [.ref a0, .ref a1, .ref a2, .ref a3, .ref a4, .int 0, .int 0, .int 0, .int 0, .int 1])), (q1, .inr (8, [.ref q2, .ref q3, .int 0])), (q2, .inl (cI, 40, .inl (fun _ => 0))), (q3, .inl (cL, 40, .inr (.inl (fun _ => 0)))), (q4, .inl (cI, 600, .inl (fun _ => 0))), (q5, .inl (cI, 600, .inl (fun _ => 0)))] H := hP
  have hD : va_D A [(h0, .inr (4, [.null, .null, .null, .ref q1, .ref q4, .ref q5, .null, .null, .null, .null, .null, .int 0, .int 0, .int 0, .int 0, .int 0, .int 0])), (h1, .inr (7, [.ref a0, .ref a1, .ref a2, .ref a3, .ref a4, .int 0, .int 0, .int 0, .int 0, .int 1])), (q1, .inr (8, [.ref q2, .ref q3, .int 0])), (q2, .inl (cI, 40, .inl (fun _ => 0))), (q3, .inl (cL, 40, .inr (.inl (fun _ => 0)))), (q4, .inl (cI, 600, .inl (fun _ => 0))), (q5, .inl (cI, 600, .inl (fun _ => 0)))] := hD
  refine lv_aload_n hx hb d_X4_33 rfl (lv_at hl 0 rfl) ?_
  refine lv_sipush (v := jn 600) hx hb d_X4_34 (by decide) ?_
  refine newaL (N := 600) hx hb (hts (.arrayClass .long) (by decide +kernel)) hK hP hD hS hA (by decide) (by decide) (Nat.le_of_ble_eq_true rfl) (Nat.le_of_ble_eq_true rfl) (Nat.le_of_ble_eq_true rfl) d_X4_37 (fun q6 H hP hD hS => ?_)
  refine va_putF (D := D) (ci := 4) (v := .ref q6) (ty := .array .long) (C := RX4) (T := TX4) (N := 17) hx hb hts uw_4 tyX4 tyX4_ok nmX4 hown hK hP hD hS 0 rfl rfl 6 (by decide) (hts (.fieldLink RX4 25 "TermStrategies$Runner" "paths" "[J") (by decide +kernel)) (fun _ h9 => h9) rfl hin rfl (by decide +kernel) rfl rfl (Nat.le_of_ble_eq_true rfl) d_X4_39 (fun H locs hP hD hS => ?_)
  have hP : va_P D vwCl [(h0, .inr (4, [.null, .null, .null, .ref q1, .ref q4, .ref q5, .ref q6, .null, .null, .null, .null, .int 0, .int 0, .int 0, .int 0, .int 0, .int 0])), (h1, .inr (7, [.ref a0, .ref a1, .ref a2, .ref a3, .ref a4, .int 0, .int 0, .int 0, .int 0, .int 1])), (q1, .inr (8, [.ref q2, .ref q3, .int 0])), (q2, .inl (cI, 40, .inl (fun _ => 0))), (q3, .inl (cL, 40, .inr (.inl (fun _ => 0)))), (q4, .inl (cI, 600, .inl (fun _ => 0))), (q5, .inl (cI, 600, .inl (fun _ => 0))), (q6, .inl (cL, 600, .inr (.inl (fun _ => 0))))] H := hP
  have hD : va_D A [(h0, .inr (4, [.null, .null, .null, .ref q1, .ref q4, .ref q5, .ref q6, .null, .null, .null, .null, .int 0, .int 0, .int 0, .int 0, .int 0, .int 0])), (h1, .inr (7, [.ref a0, .ref a1, .ref a2, .ref a3, .ref a4, .int 0, .int 0, .int 0, .int 0, .int 1])), (q1, .inr (8, [.ref q2, .ref q3, .int 0])), (q2, .inl (cI, 40, .inl (fun _ => 0))), (q3, .inl (cL, 40, .inr (.inl (fun _ => 0)))), (q4, .inl (cI, 600, .inl (fun _ => 0))), (q5, .inl (cI, 600, .inl (fun _ => 0))), (q6, .inl (cL, 600, .inr (.inl (fun _ => 0))))] := hD
  refine lv_aload_n hx hb d_X4_42 rfl (lv_at hl 0 rfl) ?_
  refine lv_sipush (v := jn 600) hx hb d_X4_43 (by decide) ?_
  refine newaI (N := 600) hx hb (hts (.arrayClass .int) (by decide +kernel)) hK hP hD hS hA (by decide) (by decide) (Nat.le_of_ble_eq_true rfl) (Nat.le_of_ble_eq_true rfl) (Nat.le_of_ble_eq_true rfl) d_X4_46 (fun q7 H hP hD hS => ?_)
  refine va_putF (D := D) (ci := 4) (v := .ref q7) (ty := .array .int) (C := RX4) (T := TX4) (N := 17) hx hb hts uw_4 tyX4 tyX4_ok nmX4 hown hK hP hD hS 0 rfl rfl 7 (by decide) (hts (.fieldLink RX4 29 "TermStrategies$Runner" "stages" "[I") (by decide +kernel)) (fun _ h9 => h9) rfl hin rfl (by decide +kernel) rfl rfl (Nat.le_of_ble_eq_true rfl) d_X4_48 (fun H locs hP hD hS => ?_)
  have hP : va_P D vwCl [(h0, .inr (4, [.null, .null, .null, .ref q1, .ref q4, .ref q5, .ref q6, .ref q7, .null, .null, .null, .int 0, .int 0, .int 0, .int 0, .int 0, .int 0])), (h1, .inr (7, [.ref a0, .ref a1, .ref a2, .ref a3, .ref a4, .int 0, .int 0, .int 0, .int 0, .int 1])), (q1, .inr (8, [.ref q2, .ref q3, .int 0])), (q2, .inl (cI, 40, .inl (fun _ => 0))), (q3, .inl (cL, 40, .inr (.inl (fun _ => 0)))), (q4, .inl (cI, 600, .inl (fun _ => 0))), (q5, .inl (cI, 600, .inl (fun _ => 0))), (q6, .inl (cL, 600, .inr (.inl (fun _ => 0)))), (q7, .inl (cI, 600, .inl (fun _ => 0)))] H := hP
  have hD : va_D A [(h0, .inr (4, [.null, .null, .null, .ref q1, .ref q4, .ref q5, .ref q6, .ref q7, .null, .null, .null, .int 0, .int 0, .int 0, .int 0, .int 0, .int 0])), (h1, .inr (7, [.ref a0, .ref a1, .ref a2, .ref a3, .ref a4, .int 0, .int 0, .int 0, .int 0, .int 1])), (q1, .inr (8, [.ref q2, .ref q3, .int 0])), (q2, .inl (cI, 40, .inl (fun _ => 0))), (q3, .inl (cL, 40, .inr (.inl (fun _ => 0)))), (q4, .inl (cI, 600, .inl (fun _ => 0))), (q5, .inl (cI, 600, .inl (fun _ => 0))), (q6, .inl (cL, 600, .inr (.inl (fun _ => 0)))), (q7, .inl (cI, 600, .inl (fun _ => 0)))] := hD
  refine lv_aload_n hx hb d_X4_51 rfl (lv_at hl 0 rfl) ?_
  refine lv_sipush (v := jn 600) hx hb d_X4_52 (by decide) ?_
  refine newaI (N := 600) hx hb (hts (.arrayClass .int) (by decide +kernel)) hK hP hD hS hA (by decide) (by decide) (Nat.le_of_ble_eq_true rfl) (Nat.le_of_ble_eq_true rfl) (Nat.le_of_ble_eq_true rfl) d_X4_55 (fun q8 H hP hD hS => ?_)
  refine va_putF (D := D) (ci := 4) (v := .ref q8) (ty := .array .int) (C := RX4) (T := TX4) (N := 17) hx hb hts uw_4 tyX4 tyX4_ok nmX4 hown hK hP hD hS 0 rfl rfl 8 (by decide) (hts (.fieldLink RX4 32 "TermStrategies$Runner" "firsts" "[I") (by decide +kernel)) (fun _ h9 => h9) rfl hin rfl (by decide +kernel) rfl rfl (Nat.le_of_ble_eq_true rfl) d_X4_57 (fun H locs hP hD hS => ?_)
  have hP : va_P D vwCl [(h0, .inr (4, [.null, .null, .null, .ref q1, .ref q4, .ref q5, .ref q6, .ref q7, .ref q8, .null, .null, .int 0, .int 0, .int 0, .int 0, .int 0, .int 0])), (h1, .inr (7, [.ref a0, .ref a1, .ref a2, .ref a3, .ref a4, .int 0, .int 0, .int 0, .int 0, .int 1])), (q1, .inr (8, [.ref q2, .ref q3, .int 0])), (q2, .inl (cI, 40, .inl (fun _ => 0))), (q3, .inl (cL, 40, .inr (.inl (fun _ => 0)))), (q4, .inl (cI, 600, .inl (fun _ => 0))), (q5, .inl (cI, 600, .inl (fun _ => 0))), (q6, .inl (cL, 600, .inr (.inl (fun _ => 0)))), (q7, .inl (cI, 600, .inl (fun _ => 0))), (q8, .inl (cI, 600, .inl (fun _ => 0)))] H := hP
  have hD : va_D A [(h0, .inr (4, [.null, .null, .null, .ref q1, .ref q4, .ref q5, .ref q6, .ref q7, .ref q8, .null, .null, .int 0, .int 0, .int 0, .int 0, .int 0, .int 0])), (h1, .inr (7, [.ref a0, .ref a1, .ref a2, .ref a3, .ref a4, .int 0, .int 0, .int 0, .int 0, .int 1])), (q1, .inr (8, [.ref q2, .ref q3, .int 0])), (q2, .inl (cI, 40, .inl (fun _ => 0))), (q3, .inl (cL, 40, .inr (.inl (fun _ => 0)))), (q4, .inl (cI, 600, .inl (fun _ => 0))), (q5, .inl (cI, 600, .inl (fun _ => 0))), (q6, .inl (cL, 600, .inr (.inl (fun _ => 0)))), (q7, .inl (cI, 600, .inl (fun _ => 0))), (q8, .inl (cI, 600, .inl (fun _ => 0)))] := hD
  refine lv_aload_n hx hb d_X4_60 rfl (lv_at hl 0 rfl) ?_
  refine lv_sipush (v := jn 600) hx hb d_X4_61 (by decide) ?_
  refine newaI (N := 600) hx hb (hts (.arrayClass .int) (by decide +kernel)) hK hP hD hS hA (by decide) (by decide) (Nat.le_of_ble_eq_true rfl) (Nat.le_of_ble_eq_true rfl) (Nat.le_of_ble_eq_true rfl) d_X4_64 (fun q9 H hP hD hS => ?_)
  refine va_putF (D := D) (ci := 4) (v := .ref q9) (ty := .array .int) (C := RX4) (T := TX4) (N := 17) hx hb hts uw_4 tyX4 tyX4_ok nmX4 hown hK hP hD hS 0 rfl rfl 9 (by decide) (hts (.fieldLink RX4 35 "TermStrategies$Runner" "marks" "[I") (by decide +kernel)) (fun _ h9 => h9) rfl hin rfl (by decide +kernel) rfl rfl (Nat.le_of_ble_eq_true rfl) d_X4_66 (fun H locs hP hD hS => ?_)
  have hP : va_P D vwCl [(h0, .inr (4, [.null, .null, .null, .ref q1, .ref q4, .ref q5, .ref q6, .ref q7, .ref q8, .ref q9, .null, .int 0, .int 0, .int 0, .int 0, .int 0, .int 0])), (h1, .inr (7, [.ref a0, .ref a1, .ref a2, .ref a3, .ref a4, .int 0, .int 0, .int 0, .int 0, .int 1])), (q1, .inr (8, [.ref q2, .ref q3, .int 0])), (q2, .inl (cI, 40, .inl (fun _ => 0))), (q3, .inl (cL, 40, .inr (.inl (fun _ => 0)))), (q4, .inl (cI, 600, .inl (fun _ => 0))), (q5, .inl (cI, 600, .inl (fun _ => 0))), (q6, .inl (cL, 600, .inr (.inl (fun _ => 0)))), (q7, .inl (cI, 600, .inl (fun _ => 0))), (q8, .inl (cI, 600, .inl (fun _ => 0))), (q9, .inl (cI, 600, .inl (fun _ => 0)))] H := hP
  have hD : va_D A [(h0, .inr (4, [.null, .null, .null, .ref q1, .ref q4, .ref q5, .ref q6, .ref q7, .ref q8, .ref q9, .null, .int 0, .int 0, .int 0, .int 0, .int 0, .int 0])), (h1, .inr (7, [.ref a0, .ref a1, .ref a2, .ref a3, .ref a4, .int 0, .int 0, .int 0, .int 0, .int 1])), (q1, .inr (8, [.ref q2, .ref q3, .int 0])), (q2, .inl (cI, 40, .inl (fun _ => 0))), (q3, .inl (cL, 40, .inr (.inl (fun _ => 0)))), (q4, .inl (cI, 600, .inl (fun _ => 0))), (q5, .inl (cI, 600, .inl (fun _ => 0))), (q6, .inl (cL, 600, .inr (.inl (fun _ => 0)))), (q7, .inl (cI, 600, .inl (fun _ => 0))), (q8, .inl (cI, 600, .inl (fun _ => 0))), (q9, .inl (cI, 600, .inl (fun _ => 0)))] := hD
  refine lv_aload_n hx hb d_X4_69 rfl (lv_at hl 0 rfl) ?_
  refine lv_sipush (v := jn 600) hx hb d_X4_70 (by decide) ?_
  refine newaI (N := 600) hx hb (hts (.arrayClass .int) (by decide +kernel)) hK hP hD hS hA (by decide) (by decide) (Nat.le_of_ble_eq_true rfl) (Nat.le_of_ble_eq_true rfl) (Nat.le_of_ble_eq_true rfl) d_X4_73 (fun q10 H hP hD hS => ?_)
  refine va_putF (D := D) (ci := 4) (v := .ref q10) (ty := .array .int) (C := RX4) (T := TX4) (N := 17) hx hb hts uw_4 tyX4 tyX4_ok nmX4 hown hK hP hD hS 0 rfl rfl 10 (by decide) (hts (.fieldLink RX4 38 "TermStrategies$Runner" "bases" "[I") (by decide +kernel)) (fun _ h9 => h9) rfl hin rfl (by decide +kernel) rfl rfl (Nat.le_of_ble_eq_true rfl) d_X4_75 (fun H locs hP hD hS => ?_)
  have hP : va_P D vwCl [(h0, .inr (4, [.null, .null, .null, .ref q1, .ref q4, .ref q5, .ref q6, .ref q7, .ref q8, .ref q9, .ref q10, .int 0, .int 0, .int 0, .int 0, .int 0, .int 0])), (h1, .inr (7, [.ref a0, .ref a1, .ref a2, .ref a3, .ref a4, .int 0, .int 0, .int 0, .int 0, .int 1])), (q1, .inr (8, [.ref q2, .ref q3, .int 0])), (q2, .inl (cI, 40, .inl (fun _ => 0))), (q3, .inl (cL, 40, .inr (.inl (fun _ => 0)))), (q4, .inl (cI, 600, .inl (fun _ => 0))), (q5, .inl (cI, 600, .inl (fun _ => 0))), (q6, .inl (cL, 600, .inr (.inl (fun _ => 0)))), (q7, .inl (cI, 600, .inl (fun _ => 0))), (q8, .inl (cI, 600, .inl (fun _ => 0))), (q9, .inl (cI, 600, .inl (fun _ => 0))), (q10, .inl (cI, 600, .inl (fun _ => 0)))] H := hP
  have hD : va_D A [(h0, .inr (4, [.null, .null, .null, .ref q1, .ref q4, .ref q5, .ref q6, .ref q7, .ref q8, .ref q9, .ref q10, .int 0, .int 0, .int 0, .int 0, .int 0, .int 0])), (h1, .inr (7, [.ref a0, .ref a1, .ref a2, .ref a3, .ref a4, .int 0, .int 0, .int 0, .int 0, .int 1])), (q1, .inr (8, [.ref q2, .ref q3, .int 0])), (q2, .inl (cI, 40, .inl (fun _ => 0))), (q3, .inl (cL, 40, .inr (.inl (fun _ => 0)))), (q4, .inl (cI, 600, .inl (fun _ => 0))), (q5, .inl (cI, 600, .inl (fun _ => 0))), (q6, .inl (cL, 600, .inr (.inl (fun _ => 0)))), (q7, .inl (cI, 600, .inl (fun _ => 0))), (q8, .inl (cI, 600, .inl (fun _ => 0))), (q9, .inl (cI, 600, .inl (fun _ => 0))), (q10, .inl (cI, 600, .inl (fun _ => 0)))] := hD
  refine lv_aload_n hx hb d_X4_78 rfl (lv_at hl 0 rfl) ?_
  refine lv_iconst (v := 0) hx hb d_X4_79 (by decide) ?_
  refine va_put (D := D) (ci := 4) (v := .int 0) (ty := .int) (C := RX4) (T := TX4) (N := 17) hx hb hts uw_4 tyX4 tyX4_ok nmX4 hown hK hP hD hS 0 rfl rfl 11 (by decide) (hts (.fieldLink RX4 41 "TermStrategies$Runner" "frames" "I") (by decide +kernel)) (fun _ h9 => h9) rfl (by decide +kernel) rfl rfl (Nat.le_of_ble_eq_true rfl) d_X4_80 (fun H locs hP hD hS => ?_)
  have hP : va_P D vwCl [(h0, .inr (4, [.null, .null, .null, .ref q1, .ref q4, .ref q5, .ref q6, .ref q7, .ref q8, .ref q9, .ref q10, .int 0, .int 0, .int 0, .int 0, .int 0, .int 0])), (h1, .inr (7, [.ref a0, .ref a1, .ref a2, .ref a3, .ref a4, .int 0, .int 0, .int 0, .int 0, .int 1])), (q1, .inr (8, [.ref q2, .ref q3, .int 0])), (q2, .inl (cI, 40, .inl (fun _ => 0))), (q3, .inl (cL, 40, .inr (.inl (fun _ => 0)))), (q4, .inl (cI, 600, .inl (fun _ => 0))), (q5, .inl (cI, 600, .inl (fun _ => 0))), (q6, .inl (cL, 600, .inr (.inl (fun _ => 0)))), (q7, .inl (cI, 600, .inl (fun _ => 0))), (q8, .inl (cI, 600, .inl (fun _ => 0))), (q9, .inl (cI, 600, .inl (fun _ => 0))), (q10, .inl (cI, 600, .inl (fun _ => 0)))] H := hP
  have hD : va_D A [(h0, .inr (4, [.null, .null, .null, .ref q1, .ref q4, .ref q5, .ref q6, .ref q7, .ref q8, .ref q9, .ref q10, .int 0, .int 0, .int 0, .int 0, .int 0, .int 0])), (h1, .inr (7, [.ref a0, .ref a1, .ref a2, .ref a3, .ref a4, .int 0, .int 0, .int 0, .int 0, .int 1])), (q1, .inr (8, [.ref q2, .ref q3, .int 0])), (q2, .inl (cI, 40, .inl (fun _ => 0))), (q3, .inl (cL, 40, .inr (.inl (fun _ => 0)))), (q4, .inl (cI, 600, .inl (fun _ => 0))), (q5, .inl (cI, 600, .inl (fun _ => 0))), (q6, .inl (cL, 600, .inr (.inl (fun _ => 0)))), (q7, .inl (cI, 600, .inl (fun _ => 0))), (q8, .inl (cI, 600, .inl (fun _ => 0))), (q9, .inl (cI, 600, .inl (fun _ => 0))), (q10, .inl (cI, 600, .inl (fun _ => 0)))] := hD
  refine lv_aload_n hx hb d_X4_83 rfl (lv_at hl 0 rfl) ?_
  refine lv_iconst (v := 0) hx hb d_X4_84 (by decide) ?_
  refine va_put (D := D) (ci := 4) (v := .int 0) (ty := .int) (C := RX4) (T := TX4) (N := 17) hx hb hts uw_4 tyX4 tyX4_ok nmX4 hown hK hP hD hS 0 rfl rfl 12 (by decide) (hts (.fieldLink RX4 45 "TermStrategies$Runner" "begun" "I") (by decide +kernel)) (fun _ h9 => h9) rfl (by decide +kernel) rfl rfl (Nat.le_of_ble_eq_true rfl) d_X4_85 (fun H locs hP hD hS => ?_)
  have hP : va_P D vwCl [(h0, .inr (4, [.null, .null, .null, .ref q1, .ref q4, .ref q5, .ref q6, .ref q7, .ref q8, .ref q9, .ref q10, .int 0, .int 0, .int 0, .int 0, .int 0, .int 0])), (h1, .inr (7, [.ref a0, .ref a1, .ref a2, .ref a3, .ref a4, .int 0, .int 0, .int 0, .int 0, .int 1])), (q1, .inr (8, [.ref q2, .ref q3, .int 0])), (q2, .inl (cI, 40, .inl (fun _ => 0))), (q3, .inl (cL, 40, .inr (.inl (fun _ => 0)))), (q4, .inl (cI, 600, .inl (fun _ => 0))), (q5, .inl (cI, 600, .inl (fun _ => 0))), (q6, .inl (cL, 600, .inr (.inl (fun _ => 0)))), (q7, .inl (cI, 600, .inl (fun _ => 0))), (q8, .inl (cI, 600, .inl (fun _ => 0))), (q9, .inl (cI, 600, .inl (fun _ => 0))), (q10, .inl (cI, 600, .inl (fun _ => 0)))] H := hP
  have hD : va_D A [(h0, .inr (4, [.null, .null, .null, .ref q1, .ref q4, .ref q5, .ref q6, .ref q7, .ref q8, .ref q9, .ref q10, .int 0, .int 0, .int 0, .int 0, .int 0, .int 0])), (h1, .inr (7, [.ref a0, .ref a1, .ref a2, .ref a3, .ref a4, .int 0, .int 0, .int 0, .int 0, .int 1])), (q1, .inr (8, [.ref q2, .ref q3, .int 0])), (q2, .inl (cI, 40, .inl (fun _ => 0))), (q3, .inl (cL, 40, .inr (.inl (fun _ => 0)))), (q4, .inl (cI, 600, .inl (fun _ => 0))), (q5, .inl (cI, 600, .inl (fun _ => 0))), (q6, .inl (cL, 600, .inr (.inl (fun _ => 0)))), (q7, .inl (cI, 600, .inl (fun _ => 0))), (q8, .inl (cI, 600, .inl (fun _ => 0))), (q9, .inl (cI, 600, .inl (fun _ => 0))), (q10, .inl (cI, 600, .inl (fun _ => 0)))] := hD
  refine lv_aload_n hx hb d_X4_88 rfl (lv_at hl 0 rfl) ?_
  refine lv_iconst (v := 0) hx hb d_X4_89 (by decide) ?_
  refine va_put (D := D) (ci := 4) (v := .int 0) (ty := .int) (C := RX4) (T := TX4) (N := 17) hx hb hts uw_4 tyX4 tyX4_ok nmX4 hown hK hP hD hS 0 rfl rfl 13 (by decide) (hts (.fieldLink RX4 48 "TermStrategies$Runner" "rewritings" "I") (by decide +kernel)) (fun _ h9 => h9) rfl (by decide +kernel) rfl rfl (Nat.le_of_ble_eq_true rfl) d_X4_90 (fun H locs hP hD hS => ?_)
  have hP : va_P D vwCl [(h0, .inr (4, [.null, .null, .null, .ref q1, .ref q4, .ref q5, .ref q6, .ref q7, .ref q8, .ref q9, .ref q10, .int 0, .int 0, .int 0, .int 0, .int 0, .int 0])), (h1, .inr (7, [.ref a0, .ref a1, .ref a2, .ref a3, .ref a4, .int 0, .int 0, .int 0, .int 0, .int 1])), (q1, .inr (8, [.ref q2, .ref q3, .int 0])), (q2, .inl (cI, 40, .inl (fun _ => 0))), (q3, .inl (cL, 40, .inr (.inl (fun _ => 0)))), (q4, .inl (cI, 600, .inl (fun _ => 0))), (q5, .inl (cI, 600, .inl (fun _ => 0))), (q6, .inl (cL, 600, .inr (.inl (fun _ => 0)))), (q7, .inl (cI, 600, .inl (fun _ => 0))), (q8, .inl (cI, 600, .inl (fun _ => 0))), (q9, .inl (cI, 600, .inl (fun _ => 0))), (q10, .inl (cI, 600, .inl (fun _ => 0)))] H := hP
  have hD : va_D A [(h0, .inr (4, [.null, .null, .null, .ref q1, .ref q4, .ref q5, .ref q6, .ref q7, .ref q8, .ref q9, .ref q10, .int 0, .int 0, .int 0, .int 0, .int 0, .int 0])), (h1, .inr (7, [.ref a0, .ref a1, .ref a2, .ref a3, .ref a4, .int 0, .int 0, .int 0, .int 0, .int 1])), (q1, .inr (8, [.ref q2, .ref q3, .int 0])), (q2, .inl (cI, 40, .inl (fun _ => 0))), (q3, .inl (cL, 40, .inr (.inl (fun _ => 0)))), (q4, .inl (cI, 600, .inl (fun _ => 0))), (q5, .inl (cI, 600, .inl (fun _ => 0))), (q6, .inl (cL, 600, .inr (.inl (fun _ => 0)))), (q7, .inl (cI, 600, .inl (fun _ => 0))), (q8, .inl (cI, 600, .inl (fun _ => 0))), (q9, .inl (cI, 600, .inl (fun _ => 0))), (q10, .inl (cI, 600, .inl (fun _ => 0)))] := hD
  refine lv_aload_n hx hb d_X4_93 rfl (lv_at hl 0 rfl) ?_
  refine lv_sipush (v := jn 2120) hx hb d_X4_94 (by decide) ?_
  refine va_put (D := D) (ci := 4) (v := .int (jn 2120)) (ty := .int) (C := RX4) (T := TX4) (N := 17) hx hb hts uw_4 tyX4 tyX4_ok nmX4 hown hK hP hD hS 0 rfl rfl 14 (by decide) (hts (.fieldLink RX4 51 "TermStrategies$Runner" "top" "I") (by decide +kernel)) (fun _ h9 => h9) rfl (by decide +kernel) rfl rfl (Nat.le_of_ble_eq_true rfl) d_X4_97 (fun H locs hP hD hS => ?_)
  have hP : va_P D vwCl [(h0, .inr (4, [.null, .null, .null, .ref q1, .ref q4, .ref q5, .ref q6, .ref q7, .ref q8, .ref q9, .ref q10, .int 0, .int 0, .int 0, .int (jn 2120), .int 0, .int 0])), (h1, .inr (7, [.ref a0, .ref a1, .ref a2, .ref a3, .ref a4, .int 0, .int 0, .int 0, .int 0, .int 1])), (q1, .inr (8, [.ref q2, .ref q3, .int 0])), (q2, .inl (cI, 40, .inl (fun _ => 0))), (q3, .inl (cL, 40, .inr (.inl (fun _ => 0)))), (q4, .inl (cI, 600, .inl (fun _ => 0))), (q5, .inl (cI, 600, .inl (fun _ => 0))), (q6, .inl (cL, 600, .inr (.inl (fun _ => 0)))), (q7, .inl (cI, 600, .inl (fun _ => 0))), (q8, .inl (cI, 600, .inl (fun _ => 0))), (q9, .inl (cI, 600, .inl (fun _ => 0))), (q10, .inl (cI, 600, .inl (fun _ => 0)))] H := hP
  have hD : va_D A [(h0, .inr (4, [.null, .null, .null, .ref q1, .ref q4, .ref q5, .ref q6, .ref q7, .ref q8, .ref q9, .ref q10, .int 0, .int 0, .int 0, .int (jn 2120), .int 0, .int 0])), (h1, .inr (7, [.ref a0, .ref a1, .ref a2, .ref a3, .ref a4, .int 0, .int 0, .int 0, .int 0, .int 1])), (q1, .inr (8, [.ref q2, .ref q3, .int 0])), (q2, .inl (cI, 40, .inl (fun _ => 0))), (q3, .inl (cL, 40, .inr (.inl (fun _ => 0)))), (q4, .inl (cI, 600, .inl (fun _ => 0))), (q5, .inl (cI, 600, .inl (fun _ => 0))), (q6, .inl (cL, 600, .inr (.inl (fun _ => 0)))), (q7, .inl (cI, 600, .inl (fun _ => 0))), (q8, .inl (cI, 600, .inl (fun _ => 0))), (q9, .inl (cI, 600, .inl (fun _ => 0))), (q10, .inl (cI, 600, .inl (fun _ => 0)))] := hD
  refine lv_aload_n hx hb d_X4_100 rfl (lv_at hl 0 rfl) ?_
  refine lv_iconst (v := (-1)) hx hb d_X4_101 (by decide) ?_
  refine va_put (D := D) (ci := 4) (v := .int (-1)) (ty := .int) (C := RX4) (T := TX4) (N := 17) hx hb hts uw_4 tyX4 tyX4_ok nmX4 hown hK hP hD hS 0 rfl rfl 15 (by decide) (hts (.fieldLink RX4 54 "TermStrategies$Runner" "result" "I") (by decide +kernel)) (fun _ h9 => h9) rfl (by decide +kernel) rfl rfl (Nat.le_of_ble_eq_true rfl) d_X4_102 (fun H locs hP hD hS => ?_)
  have hP : va_P D vwCl [(h0, .inr (4, [.null, .null, .null, .ref q1, .ref q4, .ref q5, .ref q6, .ref q7, .ref q8, .ref q9, .ref q10, .int 0, .int 0, .int 0, .int (jn 2120), .int (-1), .int 0])), (h1, .inr (7, [.ref a0, .ref a1, .ref a2, .ref a3, .ref a4, .int 0, .int 0, .int 0, .int 0, .int 1])), (q1, .inr (8, [.ref q2, .ref q3, .int 0])), (q2, .inl (cI, 40, .inl (fun _ => 0))), (q3, .inl (cL, 40, .inr (.inl (fun _ => 0)))), (q4, .inl (cI, 600, .inl (fun _ => 0))), (q5, .inl (cI, 600, .inl (fun _ => 0))), (q6, .inl (cL, 600, .inr (.inl (fun _ => 0)))), (q7, .inl (cI, 600, .inl (fun _ => 0))), (q8, .inl (cI, 600, .inl (fun _ => 0))), (q9, .inl (cI, 600, .inl (fun _ => 0))), (q10, .inl (cI, 600, .inl (fun _ => 0)))] H := hP
  have hD : va_D A [(h0, .inr (4, [.null, .null, .null, .ref q1, .ref q4, .ref q5, .ref q6, .ref q7, .ref q8, .ref q9, .ref q10, .int 0, .int 0, .int 0, .int (jn 2120), .int (-1), .int 0])), (h1, .inr (7, [.ref a0, .ref a1, .ref a2, .ref a3, .ref a4, .int 0, .int 0, .int 0, .int 0, .int 1])), (q1, .inr (8, [.ref q2, .ref q3, .int 0])), (q2, .inl (cI, 40, .inl (fun _ => 0))), (q3, .inl (cL, 40, .inr (.inl (fun _ => 0)))), (q4, .inl (cI, 600, .inl (fun _ => 0))), (q5, .inl (cI, 600, .inl (fun _ => 0))), (q6, .inl (cL, 600, .inr (.inl (fun _ => 0)))), (q7, .inl (cI, 600, .inl (fun _ => 0))), (q8, .inl (cI, 600, .inl (fun _ => 0))), (q9, .inl (cI, 600, .inl (fun _ => 0))), (q10, .inl (cI, 600, .inl (fun _ => 0)))] := hD
  refine lv_aload_n hx hb d_X4_105 rfl (lv_at hl 0 rfl) ?_
  refine lv_iconst (v := 0) hx hb d_X4_106 (by decide) ?_
  refine va_put (D := D) (ci := 4) (v := .int 0) (ty := .boolean) (C := RX4) (T := TX4) (N := 17) hx hb hts uw_4 tyX4 tyX4_ok nmX4 hown hK hP hD hS 0 rfl rfl 16 (by decide) (hts (.fieldLink RX4 57 "TermStrategies$Runner" "ended" "Z") (by decide +kernel)) (fun _ h9 => h9) rfl (by decide +kernel) rfl rfl (Nat.le_of_ble_eq_true rfl) d_X4_107 (fun H locs hP hD hS => ?_)
  have hP : va_P D vwCl [(h0, .inr (4, [.null, .null, .null, .ref q1, .ref q4, .ref q5, .ref q6, .ref q7, .ref q8, .ref q9, .ref q10, .int 0, .int 0, .int 0, .int (jn 2120), .int (-1), .int 0])), (h1, .inr (7, [.ref a0, .ref a1, .ref a2, .ref a3, .ref a4, .int 0, .int 0, .int 0, .int 0, .int 1])), (q1, .inr (8, [.ref q2, .ref q3, .int 0])), (q2, .inl (cI, 40, .inl (fun _ => 0))), (q3, .inl (cL, 40, .inr (.inl (fun _ => 0)))), (q4, .inl (cI, 600, .inl (fun _ => 0))), (q5, .inl (cI, 600, .inl (fun _ => 0))), (q6, .inl (cL, 600, .inr (.inl (fun _ => 0)))), (q7, .inl (cI, 600, .inl (fun _ => 0))), (q8, .inl (cI, 600, .inl (fun _ => 0))), (q9, .inl (cI, 600, .inl (fun _ => 0))), (q10, .inl (cI, 600, .inl (fun _ => 0)))] H := hP
  have hD : va_D A [(h0, .inr (4, [.null, .null, .null, .ref q1, .ref q4, .ref q5, .ref q6, .ref q7, .ref q8, .ref q9, .ref q10, .int 0, .int 0, .int 0, .int (jn 2120), .int (-1), .int 0])), (h1, .inr (7, [.ref a0, .ref a1, .ref a2, .ref a3, .ref a4, .int 0, .int 0, .int 0, .int 0, .int 1])), (q1, .inr (8, [.ref q2, .ref q3, .int 0])), (q2, .inl (cI, 40, .inl (fun _ => 0))), (q3, .inl (cL, 40, .inr (.inl (fun _ => 0)))), (q4, .inl (cI, 600, .inl (fun _ => 0))), (q5, .inl (cI, 600, .inl (fun _ => 0))), (q6, .inl (cL, 600, .inr (.inl (fun _ => 0)))), (q7, .inl (cI, 600, .inl (fun _ => 0))), (q8, .inl (cI, 600, .inl (fun _ => 0))), (q9, .inl (cI, 600, .inl (fun _ => 0))), (q10, .inl (cI, 600, .inl (fun _ => 0)))] := hD
  refine lv_aload_n hx hb d_X4_110 rfl (lv_at hl 0 rfl) ?_
  refine lv_aload_n hx hb d_X4_111 rfl (lv_at hl 1 rfl) ?_
  refine va_putF (D := D) (ci := 4) (v := .ref h1) (ty := .object "TermStrategies$State") (C := RX4) (T := TX4) (N := 17) hx hb hts uw_4 tyX4 tyX4_ok nmX4 hown hK hP hD hS 0 rfl rfl 0 (by decide) (hts (.fieldLink RX4 61 "TermStrategies$Runner" "state" "LTermStrategies$State;") (by decide +kernel)) (fun _ h9 => h9) rfl hin rfl (by decide +kernel) rfl rfl (Nat.le_of_ble_eq_true rfl) d_X4_112 (fun H locs hP hD hS => ?_)
  have hP : va_P D vwCl [(h0, .inr (4, [.ref h1, .null, .null, .ref q1, .ref q4, .ref q5, .ref q6, .ref q7, .ref q8, .ref q9, .ref q10, .int 0, .int 0, .int 0, .int (jn 2120), .int (-1), .int 0])), (h1, .inr (7, [.ref a0, .ref a1, .ref a2, .ref a3, .ref a4, .int 0, .int 0, .int 0, .int 0, .int 1])), (q1, .inr (8, [.ref q2, .ref q3, .int 0])), (q2, .inl (cI, 40, .inl (fun _ => 0))), (q3, .inl (cL, 40, .inr (.inl (fun _ => 0)))), (q4, .inl (cI, 600, .inl (fun _ => 0))), (q5, .inl (cI, 600, .inl (fun _ => 0))), (q6, .inl (cL, 600, .inr (.inl (fun _ => 0)))), (q7, .inl (cI, 600, .inl (fun _ => 0))), (q8, .inl (cI, 600, .inl (fun _ => 0))), (q9, .inl (cI, 600, .inl (fun _ => 0))), (q10, .inl (cI, 600, .inl (fun _ => 0)))] H := hP
  have hD : va_D A [(h0, .inr (4, [.ref h1, .null, .null, .ref q1, .ref q4, .ref q5, .ref q6, .ref q7, .ref q8, .ref q9, .ref q10, .int 0, .int 0, .int 0, .int (jn 2120), .int (-1), .int 0])), (h1, .inr (7, [.ref a0, .ref a1, .ref a2, .ref a3, .ref a4, .int 0, .int 0, .int 0, .int 0, .int 1])), (q1, .inr (8, [.ref q2, .ref q3, .int 0])), (q2, .inl (cI, 40, .inl (fun _ => 0))), (q3, .inl (cL, 40, .inr (.inl (fun _ => 0)))), (q4, .inl (cI, 600, .inl (fun _ => 0))), (q5, .inl (cI, 600, .inl (fun _ => 0))), (q6, .inl (cL, 600, .inr (.inl (fun _ => 0)))), (q7, .inl (cI, 600, .inl (fun _ => 0))), (q8, .inl (cI, 600, .inl (fun _ => 0))), (q9, .inl (cI, 600, .inl (fun _ => 0))), (q10, .inl (cI, 600, .inl (fun _ => 0)))] := hD
  refine lv_aload_n hx hb d_X4_115 rfl (lv_at hl 0 rfl) ?_
  refine lv_aload_n hx hb d_X4_116 rfl (lv_at hl 1 rfl) ?_
  refine va_getN (D := D) (ci := 7) (v := .ref a0) (own := RX4) (ref := RX7) (C := RX7) (host := RX10) (T := TX7) (N := 10) hx hb hts uw_7 hown hK hP 1 rfl rfl 0 (by decide) (va_Nw.use rfl hN.2.2.2) (fun _ h9 => h9) rfl d_X4_117 ?_
  refine va_putF (D := D) (ci := 4) (v := .ref a0) (ty := .object "TermStrategies$Signs") (C := RX4) (T := TX4) (N := 17) hx hb hts uw_4 tyX4 tyX4_ok nmX4 hown hK hP hD hS 0 rfl rfl 1 (by decide) (hts (.fieldLink RX4 71 "TermStrategies$Runner" "signs" "LTermStrategies$Signs;") (by decide +kernel)) (fun _ h9 => h9) rfl hin rfl (by decide +kernel) rfl rfl (Nat.le_of_ble_eq_true rfl) d_X4_120 (fun H locs hP hD hS => ?_)
  have hP : va_P D vwCl [(h0, .inr (4, [.ref h1, .ref a0, .null, .ref q1, .ref q4, .ref q5, .ref q6, .ref q7, .ref q8, .ref q9, .ref q10, .int 0, .int 0, .int 0, .int (jn 2120), .int (-1), .int 0])), (h1, .inr (7, [.ref a0, .ref a1, .ref a2, .ref a3, .ref a4, .int 0, .int 0, .int 0, .int 0, .int 1])), (q1, .inr (8, [.ref q2, .ref q3, .int 0])), (q2, .inl (cI, 40, .inl (fun _ => 0))), (q3, .inl (cL, 40, .inr (.inl (fun _ => 0)))), (q4, .inl (cI, 600, .inl (fun _ => 0))), (q5, .inl (cI, 600, .inl (fun _ => 0))), (q6, .inl (cL, 600, .inr (.inl (fun _ => 0)))), (q7, .inl (cI, 600, .inl (fun _ => 0))), (q8, .inl (cI, 600, .inl (fun _ => 0))), (q9, .inl (cI, 600, .inl (fun _ => 0))), (q10, .inl (cI, 600, .inl (fun _ => 0)))] H := hP
  have hD : va_D A [(h0, .inr (4, [.ref h1, .ref a0, .null, .ref q1, .ref q4, .ref q5, .ref q6, .ref q7, .ref q8, .ref q9, .ref q10, .int 0, .int 0, .int 0, .int (jn 2120), .int (-1), .int 0])), (h1, .inr (7, [.ref a0, .ref a1, .ref a2, .ref a3, .ref a4, .int 0, .int 0, .int 0, .int 0, .int 1])), (q1, .inr (8, [.ref q2, .ref q3, .int 0])), (q2, .inl (cI, 40, .inl (fun _ => 0))), (q3, .inl (cL, 40, .inr (.inl (fun _ => 0)))), (q4, .inl (cI, 600, .inl (fun _ => 0))), (q5, .inl (cI, 600, .inl (fun _ => 0))), (q6, .inl (cL, 600, .inr (.inl (fun _ => 0)))), (q7, .inl (cI, 600, .inl (fun _ => 0))), (q8, .inl (cI, 600, .inl (fun _ => 0))), (q9, .inl (cI, 600, .inl (fun _ => 0))), (q10, .inl (cI, 600, .inl (fun _ => 0)))] := hD
  refine lv_aload_n hx hb d_X4_123 rfl (lv_at hl 0 rfl) ?_
  refine lv_aload_n hx hb d_X4_124 rfl (lv_at hl 2 rfl) ?_
  refine va_putF (D := D) (ci := 4) (v := .ref h2) (ty := .object "TermStrategies$Matching") (C := RX4) (T := TX4) (N := 17) hx hb hts uw_4 tyX4 tyX4_ok nmX4 hown hK hP hD hS 0 rfl rfl 2 (by decide) (hts (.fieldLink RX4 72 "TermStrategies$Runner" "matching" "LTermStrategies$Matching;") (by decide +kernel)) (fun _ h9 => h9) rfl hin rfl (by decide +kernel) rfl rfl (Nat.le_of_ble_eq_true rfl) d_X4_125 (fun H locs hP hD hS => ?_)
  have hP : va_P D vwCl [(h0, .inr (4, [.ref h1, .ref a0, .ref h2, .ref q1, .ref q4, .ref q5, .ref q6, .ref q7, .ref q8, .ref q9, .ref q10, .int 0, .int 0, .int 0, .int (jn 2120), .int (-1), .int 0])), (h1, .inr (7, [.ref a0, .ref a1, .ref a2, .ref a3, .ref a4, .int 0, .int 0, .int 0, .int 0, .int 1])), (q1, .inr (8, [.ref q2, .ref q3, .int 0])), (q2, .inl (cI, 40, .inl (fun _ => 0))), (q3, .inl (cL, 40, .inr (.inl (fun _ => 0)))), (q4, .inl (cI, 600, .inl (fun _ => 0))), (q5, .inl (cI, 600, .inl (fun _ => 0))), (q6, .inl (cL, 600, .inr (.inl (fun _ => 0)))), (q7, .inl (cI, 600, .inl (fun _ => 0))), (q8, .inl (cI, 600, .inl (fun _ => 0))), (q9, .inl (cI, 600, .inl (fun _ => 0))), (q10, .inl (cI, 600, .inl (fun _ => 0)))] H := hP
  have hD : va_D A [(h0, .inr (4, [.ref h1, .ref a0, .ref h2, .ref q1, .ref q4, .ref q5, .ref q6, .ref q7, .ref q8, .ref q9, .ref q10, .int 0, .int 0, .int 0, .int (jn 2120), .int (-1), .int 0])), (h1, .inr (7, [.ref a0, .ref a1, .ref a2, .ref a3, .ref a4, .int 0, .int 0, .int 0, .int 0, .int 1])), (q1, .inr (8, [.ref q2, .ref q3, .int 0])), (q2, .inl (cI, 40, .inl (fun _ => 0))), (q3, .inl (cL, 40, .inr (.inl (fun _ => 0)))), (q4, .inl (cI, 600, .inl (fun _ => 0))), (q5, .inl (cI, 600, .inl (fun _ => 0))), (q6, .inl (cL, 600, .inr (.inl (fun _ => 0)))), (q7, .inl (cI, 600, .inl (fun _ => 0))), (q8, .inl (cI, 600, .inl (fun _ => 0))), (q9, .inl (cI, 600, .inl (fun _ => 0))), (q10, .inl (cI, 600, .inl (fun _ => 0)))] := hD
  refine W.widen (k := 10) (n := 4283) (Nat.le_of_ble_eq_true rfl) (Nat.le_of_ble_eq_true rfl) ?_
  exact W.vret hx hb hr (fun t ht hW => ⟨⟨(), rfl, trivial, q1, q2, q3, q4, q5, q6, q7, q8, q9, q10, by rw [ht]; exact hP, va_K.moved hW.alike hK, hD⟩, hS.F ht⟩) hS.2.2 d_X4_128
