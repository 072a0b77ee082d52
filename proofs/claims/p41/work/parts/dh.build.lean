/-! the builder: made, its room (laid by wip/p41/gen/jdk6.py) -/
theorem shl_0 (x : Int32) : x <<< ((0 : Int32) &&& 31) = x := by
  apply Int32.toBitVec_inj.mp
  simp
theorem max_jn {a b : Nat} (ha : a < 2147483648) (hb : b < 2147483648) : (if jn a < jn b then jn b else jn a) = jn (max a b) := by
  by_cases c : jn a < jn b
  · rw [if_pos c]
    rw [jn_lt ha hb] at c
    rw [Nat.max_eq_right (by omega)]
  · rw [if_neg c]
    have : ¬ a < b := fun z => c (by rw [jn_lt ha hb]; exact z)
    rw [Nat.max_eq_left (by omega)]
theorem min_jn2 {a b : Nat} (h : a ≤ b) (hb : b < 2147483648) : (if jn b < jn a then jn b else jn a) = jn a := by
  rw [if_neg (by rw [jn_lt hb (by omega)]; omega)]
theorem jn_npos {n : Nat} (h0 : 0 < n) (h : n < 2147483648) : ¬ jn n ≤ 0 := by
  intro z
  have := Int32.le_iff_toInt_le.mp z
  rw [jn_toInt h] at this
  have e : (0 : Int32).toInt = 0 := rfl
  omega
theorem jn_nbig {n : Nat} (h : n ≤ 100000) : ¬ 2147483639 < jn n := by
  intro z
  have := Int32.lt_iff_toInt_lt.mp z
  rw [jn_toInt (by omega)] at this
  have e : (2147483639 : Int32).toInt = 2147483639 := rfl
  omega
theorem jn_nmax {n : Nat} (h : n ≤ 100000) : ¬ jn n = 2147483647 := by
  intro z
  have := congrArg Int32.toInt z
  rw [jn_toInt (by omega)] at this
  have e : (2147483647 : Int32).toInt = 2147483647 := rfl
  omega
theorem cpy_0 {n j : Nat} {f : Nat → Int32} : va_cpy f (fun _ => 0) 0 0 n j = if j < n then f j else 0 := by
  by_cases h : j < n
  · rw [if_pos h, pk_cpy_in (by omega) (by omega)]
    show f (0 + (j - 0)) = f j
    rw [Nat.zero_add, Nat.sub_zero]
  · rw [if_neg h, pk_cpy_out (by omega)]
set_option maxRecDepth 100000 in
theorem cw_J5_init_d00df : Jvm.Cond.code yJ5_init_d00df cJ5_init_d00df 2 none ∈ TW := TW_mem (List.mem_append_right _ (List.mem_append_right _ (List.mem_append_right _ (List.mem_append_right _ (List.mem_append_left _ (List.mem_of_getElem? (l := tables_1_4) (i := 84) rfl)))))) rfl
set_option maxRecDepth 100000 in
theorem cw_J8_newLength_cabcc : Jvm.Cond.code yJ8_newLength_cabcc cJ8_newLength_cabcc 4 (some .int) ∈ TW := TW_mem (List.mem_append_right _ (List.mem_append_right _ (List.mem_append_right _ (List.mem_append_right _ (List.mem_append_left _ (List.mem_of_getElem? (l := tables_1_4) (i := 130) rfl)))))) rfl
theorem d_J5_init_d00df_0 : decode cJ5_init_d00df 0 = .ok (.aload_n 0, 1) := by decide +kernel
theorem d_J5_init_d00df_1 : decode cJ5_init_d00df 1 = .ok (.invokespecial 3, 3) := by decide +kernel
theorem d_J5_init_d00df_4 : decode cJ5_init_d00df 4 = .ok (.getstatic 18, 3) := by decide +kernel
theorem d_J5_init_d00df_7 : decode cJ5_init_d00df 7 = .ok (.ifCond .eq (18), 3) := by decide +kernel
theorem d_J5_init_d00df_10 : decode cJ5_init_d00df 10 = .ok (.aload_n 0, 1) := by decide +kernel
theorem d_J5_init_d00df_11 : decode cJ5_init_d00df 11 = .ok (.iload_n 1, 1) := by decide +kernel
theorem d_J5_init_d00df_12 : decode cJ5_init_d00df 12 = .ok (.newarray .byte, 2) := by decide +kernel
theorem d_J5_init_d00df_14 : decode cJ5_init_d00df 14 = .ok (.putfield 15, 3) := by decide +kernel
theorem d_J5_init_d00df_17 : decode cJ5_init_d00df 17 = .ok (.aload_n 0, 1) := by decide +kernel
theorem d_J5_init_d00df_18 : decode cJ5_init_d00df 18 = .ok (.iconst 0, 1) := by decide +kernel
theorem d_J5_init_d00df_19 : decode cJ5_init_d00df 19 = .ok (.putfield 22, 3) := by decide +kernel
theorem d_J5_init_d00df_22 : decode cJ5_init_d00df 22 = .ok (.goto (16), 3) := by decide +kernel
theorem d_J5_init_d00df_38 : decode cJ5_init_d00df 38 = .ok (.return_, 1) := by decide +kernel
theorem d_J4_init_da8c8_0 : decode cJ4_init_da8c8 0 = .ok (.aload_n 0, 1) := by decide +kernel
theorem d_J4_init_da8c8_1 : decode cJ4_init_da8c8 1 = .ok (.bipush (16), 2) := by decide +kernel
theorem d_J4_init_da8c8_3 : decode cJ4_init_da8c8 3 = .ok (.invokespecial 1, 3) := by decide +kernel
theorem d_J4_init_da8c8_6 : decode cJ4_init_da8c8 6 = .ok (.return_, 1) := by decide +kernel
theorem d_J5_isLatin1_aae02_0 : decode cJ5_isLatin1_aae02 0 = .ok (.getstatic 18, 3) := by decide +kernel
theorem d_J5_isLatin1_aae02_3 : decode cJ5_isLatin1_aae02 3 = .ok (.ifCond .eq (14), 3) := by decide +kernel
theorem d_J5_isLatin1_aae02_6 : decode cJ5_isLatin1_aae02 6 = .ok (.aload_n 0, 1) := by decide +kernel
theorem d_J5_isLatin1_aae02_7 : decode cJ5_isLatin1_aae02 7 = .ok (.getfield 22, 3) := by decide +kernel
theorem d_J5_isLatin1_aae02_10 : decode cJ5_isLatin1_aae02 10 = .ok (.ifCond .ne (7), 3) := by decide +kernel
theorem d_J5_isLatin1_aae02_13 : decode cJ5_isLatin1_aae02 13 = .ok (.iconst 1, 1) := by decide +kernel
theorem d_J5_isLatin1_aae02_14 : decode cJ5_isLatin1_aae02 14 = .ok (.goto (4), 3) := by decide +kernel
theorem d_J5_isLatin1_aae02_18 : decode cJ5_isLatin1_aae02 18 = .ok (.ireturn, 1) := by decide +kernel
theorem d_J8_newLength_cabcc_0 : decode cJ8_newLength_cabcc 0 = .ok (.iload_n 0, 1) := by decide +kernel
theorem d_J8_newLength_cabcc_1 : decode cJ8_newLength_cabcc 1 = .ok (.iload_n 1, 1) := by decide +kernel
theorem d_J8_newLength_cabcc_2 : decode cJ8_newLength_cabcc 2 = .ok (.iload_n 2, 1) := by decide +kernel
theorem d_J8_newLength_cabcc_3 : decode cJ8_newLength_cabcc 3 = .ok (.invokestatic 194, 3) := by decide +kernel
theorem d_J8_newLength_cabcc_6 : decode cJ8_newLength_cabcc 6 = .ok (.iadd, 1) := by decide +kernel
theorem d_J8_newLength_cabcc_7 : decode cJ8_newLength_cabcc 7 = .ok (.istore_n 3, 1) := by decide +kernel
theorem d_J8_newLength_cabcc_8 : decode cJ8_newLength_cabcc 8 = .ok (.iconst 0, 1) := by decide +kernel
theorem d_J8_newLength_cabcc_9 : decode cJ8_newLength_cabcc 9 = .ok (.iload_n 3, 1) := by decide +kernel
theorem d_J8_newLength_cabcc_10 : decode cJ8_newLength_cabcc 10 = .ok (.if_icmp .ge (11), 3) := by decide +kernel
theorem d_J8_newLength_cabcc_13 : decode cJ8_newLength_cabcc 13 = .ok (.iload_n 3, 1) := by decide +kernel
theorem d_J8_newLength_cabcc_14 : decode cJ8_newLength_cabcc 14 = .ok (.ldc 200, 2) := by decide +kernel
theorem d_J8_newLength_cabcc_16 : decode cJ8_newLength_cabcc 16 = .ok (.if_icmp .gt (5), 3) := by decide +kernel
theorem d_J8_newLength_cabcc_19 : decode cJ8_newLength_cabcc 19 = .ok (.iload_n 3, 1) := by decide +kernel
theorem d_J8_newLength_cabcc_20 : decode cJ8_newLength_cabcc 20 = .ok (.ireturn, 1) := by decide +kernel
theorem d_J5_newCapacity_0f7a4_0 : decode cJ5_newCapacity_0f7a4 0 = .ok (.aload_n 0, 1) := by decide +kernel
theorem d_J5_newCapacity_0f7a4_1 : decode cJ5_newCapacity_0f7a4 1 = .ok (.getfield 15, 3) := by decide +kernel
theorem d_J5_newCapacity_0f7a4_4 : decode cJ5_newCapacity_0f7a4 4 = .ok (.arraylength, 1) := by decide +kernel
theorem d_J5_newCapacity_0f7a4_5 : decode cJ5_newCapacity_0f7a4 5 = .ok (.istore_n 2, 1) := by decide +kernel
theorem d_J5_newCapacity_0f7a4_6 : decode cJ5_newCapacity_0f7a4 6 = .ok (.iload_n 1, 1) := by decide +kernel
theorem d_J5_newCapacity_0f7a4_7 : decode cJ5_newCapacity_0f7a4 7 = .ok (.aload_n 0, 1) := by decide +kernel
theorem d_J5_newCapacity_0f7a4_8 : decode cJ5_newCapacity_0f7a4 8 = .ok (.getfield 22, 3) := by decide +kernel
theorem d_J5_newCapacity_0f7a4_11 : decode cJ5_newCapacity_0f7a4 11 = .ok (.ishl, 1) := by decide +kernel
theorem d_J5_newCapacity_0f7a4_12 : decode cJ5_newCapacity_0f7a4 12 = .ok (.istore_n 3, 1) := by decide +kernel
theorem d_J5_newCapacity_0f7a4_13 : decode cJ5_newCapacity_0f7a4 13 = .ok (.iload_n 3, 1) := by decide +kernel
theorem d_J5_newCapacity_0f7a4_14 : decode cJ5_newCapacity_0f7a4 14 = .ok (.iload_n 2, 1) := by decide +kernel
theorem d_J5_newCapacity_0f7a4_15 : decode cJ5_newCapacity_0f7a4 15 = .ok (.isub, 1) := by decide +kernel
theorem d_J5_newCapacity_0f7a4_16 : decode cJ5_newCapacity_0f7a4 16 = .ok (.istore 4, 2) := by decide +kernel
theorem d_J5_newCapacity_0f7a4_18 : decode cJ5_newCapacity_0f7a4 18 = .ok (.iload_n 2, 1) := by decide +kernel
theorem d_J5_newCapacity_0f7a4_19 : decode cJ5_newCapacity_0f7a4 19 = .ok (.iload 4, 2) := by decide +kernel
theorem d_J5_newCapacity_0f7a4_21 : decode cJ5_newCapacity_0f7a4 21 = .ok (.iload_n 2, 1) := by decide +kernel
theorem d_J5_newCapacity_0f7a4_22 : decode cJ5_newCapacity_0f7a4 22 = .ok (.iconst 2, 1) := by decide +kernel
theorem d_J5_newCapacity_0f7a4_23 : decode cJ5_newCapacity_0f7a4 23 = .ok (.aload_n 0, 1) := by decide +kernel
theorem d_J5_newCapacity_0f7a4_24 : decode cJ5_newCapacity_0f7a4 24 = .ok (.getfield 22, 3) := by decide +kernel
theorem d_J5_newCapacity_0f7a4_27 : decode cJ5_newCapacity_0f7a4 27 = .ok (.ishl, 1) := by decide +kernel
theorem d_J5_newCapacity_0f7a4_28 : decode cJ5_newCapacity_0f7a4 28 = .ok (.iadd, 1) := by decide +kernel
theorem d_J5_newCapacity_0f7a4_29 : decode cJ5_newCapacity_0f7a4 29 = .ok (.invokestatic 114, 3) := by decide +kernel
theorem d_J5_newCapacity_0f7a4_32 : decode cJ5_newCapacity_0f7a4 32 = .ok (.istore 5, 2) := by decide +kernel
theorem d_J5_newCapacity_0f7a4_34 : decode cJ5_newCapacity_0f7a4 34 = .ok (.iload 5, 2) := by decide +kernel
theorem d_J5_newCapacity_0f7a4_36 : decode cJ5_newCapacity_0f7a4 36 = .ok (.ldc 39, 2) := by decide +kernel
theorem d_J5_newCapacity_0f7a4_38 : decode cJ5_newCapacity_0f7a4 38 = .ok (.if_icmp .ne (13), 3) := by decide +kernel
theorem d_J5_newCapacity_0f7a4_51 : decode cJ5_newCapacity_0f7a4 51 = .ok (.iload 5, 2) := by decide +kernel
theorem d_J5_newCapacity_0f7a4_53 : decode cJ5_newCapacity_0f7a4 53 = .ok (.aload_n 0, 1) := by decide +kernel
theorem d_J5_newCapacity_0f7a4_54 : decode cJ5_newCapacity_0f7a4 54 = .ok (.getfield 22, 3) := by decide +kernel
theorem d_J5_newCapacity_0f7a4_57 : decode cJ5_newCapacity_0f7a4 57 = .ok (.ishr, 1) := by decide +kernel
theorem d_J5_newCapacity_0f7a4_58 : decode cJ5_newCapacity_0f7a4 58 = .ok (.ireturn, 1) := by decide +kernel
theorem d_J7_copyOf_9075b_0 : decode cJ7_copyOf_9075b 0 = .ok (.iload_n 1, 1) := by decide +kernel
theorem d_J7_copyOf_9075b_1 : decode cJ7_copyOf_9075b 1 = .ok (.aload_n 0, 1) := by decide +kernel
theorem d_J7_copyOf_9075b_2 : decode cJ7_copyOf_9075b 2 = .ok (.arraylength, 1) := by decide +kernel
theorem d_J7_copyOf_9075b_3 : decode cJ7_copyOf_9075b 3 = .ok (.if_icmp .ne (11), 3) := by decide +kernel
theorem d_J7_copyOf_9075b_14 : decode cJ7_copyOf_9075b 14 = .ok (.iload_n 1, 1) := by decide +kernel
theorem d_J7_copyOf_9075b_15 : decode cJ7_copyOf_9075b 15 = .ok (.newarray .byte, 2) := by decide +kernel
theorem d_J7_copyOf_9075b_17 : decode cJ7_copyOf_9075b 17 = .ok (.astore_n 2, 1) := by decide +kernel
theorem d_J7_copyOf_9075b_18 : decode cJ7_copyOf_9075b 18 = .ok (.aload_n 0, 1) := by decide +kernel
theorem d_J7_copyOf_9075b_19 : decode cJ7_copyOf_9075b 19 = .ok (.iconst 0, 1) := by decide +kernel
theorem d_J7_copyOf_9075b_20 : decode cJ7_copyOf_9075b 20 = .ok (.aload_n 2, 1) := by decide +kernel
theorem d_J7_copyOf_9075b_21 : decode cJ7_copyOf_9075b 21 = .ok (.iconst 0, 1) := by decide +kernel
theorem d_J7_copyOf_9075b_22 : decode cJ7_copyOf_9075b 22 = .ok (.aload_n 0, 1) := by decide +kernel
theorem d_J7_copyOf_9075b_23 : decode cJ7_copyOf_9075b 23 = .ok (.arraylength, 1) := by decide +kernel
theorem d_J7_copyOf_9075b_24 : decode cJ7_copyOf_9075b 24 = .ok (.iload_n 1, 1) := by decide +kernel
theorem d_J7_copyOf_9075b_25 : decode cJ7_copyOf_9075b 25 = .ok (.invokestatic 304, 3) := by decide +kernel
theorem d_J7_copyOf_9075b_28 : decode cJ7_copyOf_9075b 28 = .ok (.invokestatic 150, 3) := by decide +kernel
theorem d_J7_copyOf_9075b_31 : decode cJ7_copyOf_9075b 31 = .ok (.aload_n 2, 1) := by decide +kernel
theorem d_J7_copyOf_9075b_32 : decode cJ7_copyOf_9075b 32 = .ok (.areturn, 1) := by decide +kernel
set_option maxHeartbeats 4000000 in
set_option maxRecDepth 100000 in
theorem s_bInit0 (l : Launch) (D : va_G) (cB : ClassId) (sz : Nat) (q : Nat) : Met l yJ5_init_d00df (wD yJ5_init_d00df cJ5_init_d00df 2 none) ({ frames := 1, cells := 1, slots := 16, locals := 60 }) (va_Pc [.ref q, .int (jn 16)] (PrW D cB sz [] [(q, .inr (12, [.null, .int 0, .int 0, .int 0]))] (True)))
    (va_Qv (fun _ : Unit => True) (fun _ t => ∃ ar, va_P D vwCl [(q, .inr (12, [.ref ar, .int 0, .int 0, .int 0])), (ar, .inl (cB, 16, .inl (fun _ => 0)))] t.heap ∧ va_D (va_A [(q, .inr (12, [.null, .int 0, .int 0, .int 0]))] sz) [(q, .inr (12, [.ref ar, .int 0, .int 0, .int 0])), (ar, .inl (cB, 16, .inl (fun _ => 0)))]) (va_A [(q, .inr (12, [.null, .int 0, .int 0, .int 0]))] sz)) (1) (16) (va_A [(q, .inr (12, [.null, .int 0, .int 0, .int 0]))] sz) := by
  refine Met.ofW (cc := cJ5_init_d00df) (maxL := 2) (ret := none) (by decide) rfl ?_
  intro p e s m args below meth c s₁ B hml hv
  obtain ⟨rfl, ⟨hsz, hRO, hPP, hD0, hsep, hX⟩, hJ0⟩ := hv
  have hx := B.exec
  have hb := B.bytes
  have hr := B.returns
  have hts0 := atoms_spec (ws := wD yJ5_init_d00df cJ5_init_d00df 2 none) B.pre
  have hts : ∀ w ∈ TW, w.before _ s = true := fun w h => hts0 w (List.mem_cons_of_mem _ h)
  have hown : s.vm.findClass RJ5 = some m.cls := findClass_of_methodNamed B.named
  have hlocks := B.notSynchronized
  subst hsz
  have hJ := hJ0.inA hPP
  have hro := ro_inA hRO hsep
  have hD := hD0.self (sz := s.heap.size)
  have hA : ∀ x9 : Nat, s.heap.size ≤ x9 → va_A [(q, .inr (12, [.null, .int 0, .int 0, .int 0]))] s.heap.size x9 := fun x9 h => Or.inr h
  have hK := hJ.1
  generalize hAe : va_A [(q, .inr (12, [.null, .int 0, .int 0, .int 0]))] s.heap.size = A at hJ hro hD hA ⊢
  have hS : va_S A s.heap s.heap [] := va_S.rf
  have hP := hPP
  have hl := lv_entry ([.ref q, .int (jn 16)]) (n := 2) (Nat.le_of_ble_eq_true rfl)
  rw [lg_entry_eq]
  generalize (lg_sl ([.ref q, .int (jn 16)]) ++ List.replicate (2 - (lg_sl ([.ref q, .int (jn 16)])).length) Slot.unset).toArray = ls at hl ⊢
  have hl : lv_has ls 2 [(0, .ref q), (1, .int (jn 16))] := hl
  refine lv_aload_n hx hb d_J5_init_d00df_0 rfl (lv_at hl 0 rfl) ?_
  refine W.objInit hx hb hown (hts (.methodLink RJ5 3 objectInit) (by decide +kernel)) (hts (.instanceMethod objectInit) (by decide +kernel)) (hts (.code objectInit ⟨#[0xb1]⟩ 1 none) (by decide +kernel)) rfl (by rw [hml]; exact hl.1) rfl d_J5_init_d00df_1 (Nat.le_of_ble_eq_true rfl) (Nat.le_of_ble_eq_true rfl) ?_
  refine W.eq (g2 := F0 m 4 ls []) rfl ?_
  refine va_gets (v := .int 1) hx hb hJ.2.1 hS hown (hts (.fieldLink RJ5 18 "java/lang/String" "COMPACT_STRINGS" "Z") (by decide +kernel)) (fun _ h9 => h9) d_J5_init_d00df_4 ?_
  refine lv_if_eq (tgt := 25) hx hb d_J5_init_d00df_7 (by decide) (fun h9 => absurd h9 (by decide)) (fun _ => ?_)
  refine lv_aload_n hx hb d_J5_init_d00df_10 rfl (lv_at hl 0 rfl) ?_
  refine lv_iload_n hx hb d_J5_init_d00df_11 rfl (lv_at hl 1 rfl) ?_
  refine newaB (N := 16) hx hb (hts (.arrayClass .byte) (by decide +kernel)) hK hP hD hS hA (jn_nneg (by omega)) (jn_clamp (by omega)) (by show _ * 1 ≤ _; omega) (by show _ ≤ 1; omega) (by show _ ≤ 16; omega) d_J5_init_d00df_12 (fun q11 H hP hD hS => ?_)
  have hP : va_P D vwCl [(q, .inr (12, [.null, .int 0, .int 0, .int 0])), (q11, .inl (cB, 16, .inl (fun _ => 0)))] _ := hP
  have hD : va_D A [(q, .inr (12, [.null, .int 0, .int 0, .int 0])), (q11, .inl (cB, 16, .inl (fun _ => 0)))] := hD
  refine va_put (D := D) (ci := 12) (v := .ref q11) (ty := (.array .byte)) (C := RJ4) (T := TJ4) (N := 4) hx hb hts uw_12 tyJ4 tyJ4_ok nmJ4 hown hK hP hD hS 0 rfl rfl 0 (by decide) (hts (.fieldLink RJ5 15 "java/lang/AbstractStringBuilder" "value" "[B") (by decide +kernel)) (fun _ h9 => h9) rfl (by decide +kernel) rfl rfl (Nat.le_of_ble_eq_true rfl) d_J5_init_d00df_14 (fun H locs hP hD hS => ?_)
  have hP : va_P D vwCl [(q, .inr (12, [.ref q11, .int 0, .int 0, .int 0])), (q11, .inl (cB, 16, .inl (fun _ => 0)))] _ := hP
  have hD : va_D A [(q, .inr (12, [.ref q11, .int 0, .int 0, .int 0])), (q11, .inl (cB, 16, .inl (fun _ => 0)))] := hD
  refine lv_aload_n hx hb d_J5_init_d00df_17 rfl (lv_at hl 0 rfl) ?_
  refine lv_iconst (v := 0) hx hb d_J5_init_d00df_18 (by decide) ?_
  refine va_put (D := D) (ci := 12) (v := .int 0) (ty := .byte) (C := RJ4) (T := TJ4) (N := 4) hx hb hts uw_12 tyJ4 tyJ4_ok nmJ4 hown hK hP hD hS 0 rfl rfl 1 (by decide) (hts (.fieldLink RJ5 22 "java/lang/AbstractStringBuilder" "coder" "B") (by decide +kernel)) (fun _ h9 => h9) rfl (by decide +kernel) rfl rfl (Nat.le_of_ble_eq_true rfl) d_J5_init_d00df_19 (fun H locs hP hD hS => ?_)
  have hP : va_P D vwCl [(q, .inr (12, [.ref q11, .int 0, .int 0, .int 0])), (q11, .inl (cB, 16, .inl (fun _ => 0)))] _ := hP
  have hD : va_D A [(q, .inr (12, [.ref q11, .int 0, .int 0, .int 0])), (q11, .inl (cB, 16, .inl (fun _ => 0)))] := hD
  refine lv_goto (tgt := 38) hx hb d_J5_init_d00df_22 (by decide) ?_
  refine W.widen (k := 1) (n := 16) (by omega) (by omega) ?_
  exact W.vret hx hb hr (fun t ht hW => ⟨⟨(), rfl, trivial, q11, by rw [ht]; exact hP.sub (ws' := [(q, .inr (12, [.ref q11, .int 0, .int 0, .int 0])), (q11, .inl (cB, 16, .inl (fun _ => 0)))]) [0, 1] rfl, hD.sub (ws' := [(q, .inr (12, [.ref q11, .int 0, .int 0, .int 0])), (q11, .inl (cB, 16, .inl (fun _ => 0)))]) [0, 1] (by decide) rfl⟩, hS.F ht⟩) hS.2.2 d_J5_init_d00df_38
set_option maxHeartbeats 4000000 in
set_option maxRecDepth 100000 in
theorem s_bInit (l : Launch) (D : va_G) (cB : ClassId) (sz : Nat) (q : Nat) : Met l yJ4_init_da8c8 (wD yJ4_init_da8c8 cJ4_init_da8c8 1 none) ({ frames := 2, cells := 1, slots := 16, locals := 100 }) (va_Pc [.ref q] (PrW D cB sz [] [(q, .inr (12, [.null, .int 0, .int 0, .int 0]))] (True)))
    (va_Qv (fun _ : Unit => True) (fun _ t => ∃ ar, va_P D vwCl [(q, .inr (12, [.ref ar, .int 0, .int 0, .int 0])), (ar, .inl (cB, 16, .inl (fun _ => 0)))] t.heap ∧ va_D (va_A [(q, .inr (12, [.null, .int 0, .int 0, .int 0]))] sz) [(q, .inr (12, [.ref ar, .int 0, .int 0, .int 0])), (ar, .inl (cB, 16, .inl (fun _ => 0)))]) (va_A [(q, .inr (12, [.null, .int 0, .int 0, .int 0]))] sz)) (1) (16) (va_A [(q, .inr (12, [.null, .int 0, .int 0, .int 0]))] sz) := by
  refine Met.ofW (cc := cJ4_init_da8c8) (maxL := 1) (ret := none) (by decide) rfl ?_
  intro p e s m args below meth c s₁ B hml hv
  obtain ⟨rfl, ⟨hsz, hRO, hPP, hD0, hsep, hX⟩, hJ0⟩ := hv
  have hx := B.exec
  have hb := B.bytes
  have hr := B.returns
  have hts0 := atoms_spec (ws := wD yJ4_init_da8c8 cJ4_init_da8c8 1 none) B.pre
  have hts : ∀ w ∈ TW, w.before _ s = true := fun w h => hts0 w (List.mem_cons_of_mem _ h)
  have hown : s.vm.findClass RJ4 = some m.cls := findClass_of_methodNamed B.named
  have hlocks := B.notSynchronized
  subst hsz
  have hJ := hJ0.inA hPP
  have hro := ro_inA hRO hsep
  have hD := hD0.self (sz := s.heap.size)
  have hA : ∀ x9 : Nat, s.heap.size ≤ x9 → va_A [(q, .inr (12, [.null, .int 0, .int 0, .int 0]))] s.heap.size x9 := fun x9 h => Or.inr h
  have hK := hJ.1
  generalize hAe : va_A [(q, .inr (12, [.null, .int 0, .int 0, .int 0]))] s.heap.size = A at hJ hro hD hA ⊢
  have hS : va_S A s.heap s.heap [] := va_S.rf
  have hP := hPP
  have hl := lv_entry ([.ref q]) (n := 1) (Nat.le_of_ble_eq_true rfl)
  rw [lg_entry_eq]
  generalize (lg_sl ([.ref q]) ++ List.replicate (1 - (lg_sl ([.ref q])).length) Slot.unset).toArray = ls at hl ⊢
  have hl : lv_has ls 1 [(0, .ref q)] := hl
  refine lv_aload_n hx hb d_J4_init_da8c8_0 rfl (lv_at hl 0 rfl) ?_
  refine lv_bipush (v := (16)) hx hb d_J4_init_da8c8_1 (by decide) ?_
  refine W.eq (g2 := F0 m 3 ls [.int (jn 16), .ref q]) rfl ?_
  have hPc := hP.sub (ws' := [(q, .inr (12, [.null, .int 0, .int 0, .int 0]))]) [0] rfl
  have hDc := hD.sub (ws' := [(q, .inr (12, [.null, .int 0, .int 0, .int 0]))]) [0] (by decide) rfl
  have hFc := va_free (wc := [(q, .inr (12, [.null, .int 0, .int 0, .int 0]))]) hD hS hA [0] rfl
  refine va_callv (va_runI (As := [.int (jn 16)]) (rest := []) ⟨hx, hb, hml, hown, hts⟩ (s_bInit0 l D cB s.heap.size q) (cwI 1 hts (g_con cw_J5_init_d00df) rfl rfl rfl (hts (.initialized RJ5) (by decide +kernel)) (hts (.methodLink RJ4 1 yJ5_init_d00df) (by decide +kernel)) (hts (.instanceMethod yJ5_init_d00df) (by decide +kernel)) rfl (by decide +kernel) ⟨(Nat.le_of_ble_eq_true rfl), (Nat.le_of_ble_eq_true rfl)⟩) ⟨prw_blind, fun U hU hW => ⟨rfl, prw_call hU hW ro_nil hPc (hDc.weaken (fun _ _ _ _ => trivial)) rsep_l trivial (hJ.keep hS)⟩⟩ rfl rfl hl.1 rfl (lv_room (Nat.le_of_ble_eq_true rfl)) d_J4_init_da8c8_3 ⟨by show _ ≤ 1; omega, by show _ ≤ 16; omega⟩) hS (fun q _ h => hFc q h) hFc (fun u t9 H1 locs ht hvm hw hB hz1 hk1 hS => ?_)
  obtain ⟨ar, hP1, hD1⟩ := hB
  rw [ht] at hP1
  obtain ⟨hP, hD⟩ := va_join (wr := []) (w1 := [(q, .inr (12, [.ref ar, .int 0, .int 0, .int 0])), (ar, .inl (cB, 16, .inl (fun _ => 0)))]) hP hD [0] [] rfl rfl (by decide) (by decide) hk1 hFc hP1 hD1
  clear hP1 hD1 hk1 hz1 hFc hPc hDc
  generalize H1 = H at hP hS ⊢
  have hP : va_P D vwCl [(q, .inr (12, [.ref ar, .int 0, .int 0, .int 0])), (ar, .inl (cB, 16, .inl (fun _ => 0)))] _ := hP
  have hD : va_D A [(q, .inr (12, [.ref ar, .int 0, .int 0, .int 0])), (ar, .inl (cB, 16, .inl (fun _ => 0)))] := hD
  refine W.widen (k := 1) (n := 16) (by omega) (by omega) ?_
  exact W.vret hx hb hr (fun t ht hW => ⟨⟨(), rfl, trivial, ar, by rw [ht]; exact hP.sub (ws' := [(q, .inr (12, [.ref ar, .int 0, .int 0, .int 0])), (ar, .inl (cB, 16, .inl (fun _ => 0)))]) [0, 1] rfl, hD.sub (ws' := [(q, .inr (12, [.ref ar, .int 0, .int 0, .int 0])), (ar, .inl (cB, 16, .inl (fun _ => 0)))]) [0, 1] (by decide) rfl⟩, hS.F ht⟩) hS.2.2 d_J4_init_da8c8_6
set_option maxHeartbeats 4000000 in
set_option maxRecDepth 100000 in
theorem s_bLatin1 (l : Launch) (D : va_G) (cB : ClassId) (q ar : Nat) (k : Int32) : Met l yJ5_isLatin1_aae02 (wD yJ5_isLatin1_aae02 cJ5_isLatin1_aae02 1 (some .boolean)) ({ frames := 1, cells := 0, slots := 0, locals := 60 }) (va_Pc [.ref q] (PrJ D cB [] (fun H => va_P D vwCl [(q, .inr (12, [.ref ar, .int 0, .int 0, .int k]))] H))) (Sri (fun r => r = 1)) 0 0 (fun _ => False) := by
  refine Met.ofW (cc := cJ5_isLatin1_aae02) (maxL := 1) (ret := (some .boolean)) (by decide) rfl ?_
  intro p e s m args below meth c s₁ B hml hv
  obtain ⟨rfl, hX, hro, hJ⟩ := hv
  have hx := B.exec
  have hb := B.bytes
  have hr := B.returns
  have hts0 := atoms_spec (ws := wD yJ5_isLatin1_aae02 cJ5_isLatin1_aae02 1 (some .boolean)) B.pre
  have hts : ∀ w ∈ TW, w.before _ s = true := fun w h => hts0 w (List.mem_cons_of_mem _ h)
  have hown : s.vm.findClass RJ5 = some m.cls := findClass_of_methodNamed B.named
  have hlocks := B.notSynchronized
  have hS : va_S (fun _ => False) s.heap s.heap [] := va_S.rf
  have hK := hJ.1
  have hl := lv_entry ([.ref q]) (n := 1) (Nat.le_of_ble_eq_true rfl)
  rw [lg_entry_eq]
  generalize (lg_sl ([.ref q]) ++ List.replicate (1 - (lg_sl ([.ref q])).length) Slot.unset).toArray = ls at hl ⊢
  have hl : lv_has ls 1 [(0, .ref q)] := hl
  have hP := hX
  refine va_gets (v := .int 1) hx hb hJ.2.1 hS hown (hts (.fieldLink RJ5 18 "java/lang/String" "COMPACT_STRINGS" "Z") (by decide +kernel)) (fun _ h9 => h9) d_J5_isLatin1_aae02_0 ?_
  refine lv_if_eq (tgt := 17) hx hb d_J5_isLatin1_aae02_3 (by decide) (fun h9 => absurd h9 (by decide)) (fun _ => ?_)
  refine lv_aload_n hx hb d_J5_isLatin1_aae02_6 rfl (lv_at hl 0 rfl) ?_
  refine va_get (D := D) (ci := 12) (v := .int 0) (C := RJ4) (T := TJ4) (N := 4) hx hb hts uw_12 hown hK hP 0 rfl rfl 1 (by decide) (hts (.fieldLink RJ5 22 "java/lang/AbstractStringBuilder" "coder" "B") (by decide +kernel)) (fun _ h9 => h9) rfl d_J5_isLatin1_aae02_7 ?_
  refine lv_if_ne (tgt := 17) hx hb d_J5_isLatin1_aae02_10 (by decide) (fun h9 => absurd h9 (fun z9 => z9 rfl)) (fun _ => ?_)
  refine lv_iconst (v := 1) hx hb d_J5_isLatin1_aae02_13 (by decide) ?_
  refine lv_goto (tgt := 18) hx hb d_J5_isLatin1_aae02_14 (by decide) ?_
  exact W.zret hx hb hr rfl (fun t ht hW => ⟨_, rfl, rfl, ht⟩) (fun q h => by cases h) d_J5_isLatin1_aae02_18
set_option maxHeartbeats 4000000 in
set_option maxRecDepth 100000 in
theorem s_newLength (l : Launch) (D : va_G) (cB : ClassId) (x y w : Nat) : Met l yJ8_newLength_cabcc (wD yJ8_newLength_cabcc cJ8_newLength_cabcc 4 (some .int)) ({ frames := 1, cells := 0, slots := 0, locals := 60 }) (va_Pc [.int (jn x), .int (jn y), .int (jn w)] (PrJ D cB [] (fun H => x ≤ 10000 ∧ y ≤ 10000 ∧ w ≤ 10000 ∧ 0 < w))) (Sri (fun r => r = jn (x + max y w))) 0 0 (fun _ => False) := by
  refine Met.ofW (cc := cJ8_newLength_cabcc) (maxL := 4) (ret := (some .int)) (by decide) rfl ?_
  intro p e s m args below meth c s₁ B hml hv
  obtain ⟨rfl, hX, hro, hJ⟩ := hv
  have hx := B.exec
  have hb := B.bytes
  have hr := B.returns
  have hts0 := atoms_spec (ws := wD yJ8_newLength_cabcc cJ8_newLength_cabcc 4 (some .int)) B.pre
  have hts : ∀ w ∈ TW, w.before _ s = true := fun w h => hts0 w (List.mem_cons_of_mem _ h)
  have hown : s.vm.findClass RJ8 = some m.cls := findClass_of_methodNamed B.named
  have hlocks := B.notSynchronized
  have hS : va_S (fun _ => False) s.heap s.heap [] := va_S.rf
  have hK := hJ.1
  have hl := lv_entry ([.int (jn x), .int (jn y), .int (jn w)]) (n := 4) (Nat.le_of_ble_eq_true rfl)
  rw [lg_entry_eq]
  generalize (lg_sl ([.int (jn x), .int (jn y), .int (jn w)]) ++ List.replicate (4 - (lg_sl ([.int (jn x), .int (jn y), .int (jn w)])).length) Slot.unset).toArray = ls at hl ⊢
  have hl : lv_has ls 4 [(0, .int (jn x)), (1, .int (jn y)), (2, .int (jn w))] := hl
  obtain ⟨h1, h2, h3, h4⟩ := hX
  refine lv_iload_n hx hb d_J8_newLength_cabcc_0 rfl (lv_at hl 0 rfl) ?_
  refine lv_iload_n hx hb d_J8_newLength_cabcc_1 rfl (lv_at hl 1 rfl) ?_
  refine lv_iload_n hx hb d_J8_newLength_cabcc_2 rfl (lv_at hl 2 rfl) ?_
  refine va_mmax hx hb (by rw [hml]; exact hl.1.symm) hown (hts (.methodLink RJ8 194 Lib.Math.max.name) (by decide +kernel)) (hts (.static Lib.Math.max.name) (by decide +kernel)) (hts (.initialized "java/lang/Math") (by decide +kernel)) (hts (.code Lib.Math.max.name Lib.Math.max.code 2 (some .int)) (by decide +kernel)) (Nat.le_of_ble_eq_true rfl) (Nat.le_of_ble_eq_true rfl) (Nat.le_of_ble_eq_true rfl) (Nat.le_of_ble_eq_true rfl) d_J8_newLength_cabcc_3 ?_
  rw [max_jn (by omega) (by omega)]
  refine lv_iadd hx hb d_J8_newLength_cabcc_6 ?_
  rw [jn_add]
  refine lv_istore_n (lv' := [(3, .int (jn (x + max y w))), (0, .int (jn x)), (1, .int (jn y)), (2, .int (jn w))]) hx hb d_J8_newLength_cabcc_7 rfl hl (by decide) rfl (fun ls hl => ?_)
  refine lv_iconst (v := 0) hx hb d_J8_newLength_cabcc_8 (by decide) ?_
  refine lv_iload_n hx hb d_J8_newLength_cabcc_9 rfl (lv_at hl 0 rfl) ?_
  refine lv_icmp_ge (tgt := 21) hx hb d_J8_newLength_cabcc_10 (by decide) (fun h9 => absurd h9 (jn_npos (by omega) (by omega))) (fun _ => ?_)
  refine lv_iload_n hx hb d_J8_newLength_cabcc_13 rfl (lv_at hl 0 rfl) ?_
  refine lv_ldc (v := 2147483639) hx hb hown (hts (.constant RJ8 200 2147483639) (by decide +kernel)) d_J8_newLength_cabcc_14 ?_
  refine lv_icmp_gt (tgt := 21) hx hb d_J8_newLength_cabcc_16 (by decide) (fun h9 => absurd h9 (jn_nbig (by omega))) (fun _ => ?_)
  refine lv_iload_n hx hb d_J8_newLength_cabcc_19 rfl (lv_at hl 0 rfl) ?_
  exact W.iret hx hb hr (fun t ht hW => ⟨_, rfl, rfl, ht⟩) (fun q h => by cases h) d_J8_newLength_cabcc_20
set_option maxHeartbeats 4000000 in
set_option maxRecDepth 100000 in
theorem s_newCapacity (l : Launch) (D : va_G) (cB : ClassId) (q ar cap n : Nat) (k : Int32) (f : Nat → Int32) : Met l yJ5_newCapacity_0f7a4 (wD yJ5_newCapacity_0f7a4 cJ5_newCapacity_0f7a4 6 (some .int)) ({ frames := 2, cells := 0, slots := 0, locals := 100 }) (va_Pc [.ref q, .int (jn n)] (PrJ D cB [] (fun H => va_P D vwCl [(q, .inr (12, [.ref ar, .int 0, .int 0, .int k])), (ar, .inl (cB, cap, .inl f))] H ∧ cap ≤ n ∧ n ≤ 5000))) (Sri (fun r => r = jn (cap + max (n - cap) (cap + 2)))) 0 0 (fun _ => False) := by
  refine Met.ofW (cc := cJ5_newCapacity_0f7a4) (maxL := 6) (ret := (some .int)) (by decide) rfl ?_
  intro p e s m args below meth c s₁ B hml hv
  obtain ⟨rfl, hX, hro, hJ⟩ := hv
  have hx := B.exec
  have hb := B.bytes
  have hr := B.returns
  have hts0 := atoms_spec (ws := wD yJ5_newCapacity_0f7a4 cJ5_newCapacity_0f7a4 6 (some .int)) B.pre
  have hts : ∀ w ∈ TW, w.before _ s = true := fun w h => hts0 w (List.mem_cons_of_mem _ h)
  have hown : s.vm.findClass RJ5 = some m.cls := findClass_of_methodNamed B.named
  have hlocks := B.notSynchronized
  have hS : va_S (fun _ => False) s.heap s.heap [] := va_S.rf
  have hK := hJ.1
  have hl := lv_entry ([.ref q, .int (jn n)]) (n := 6) (Nat.le_of_ble_eq_true rfl)
  rw [lg_entry_eq]
  generalize (lg_sl ([.ref q, .int (jn n)]) ++ List.replicate (6 - (lg_sl ([.ref q, .int (jn n)])).length) Slot.unset).toArray = ls at hl ⊢
  have hl : lv_has ls 6 [(0, .ref q), (1, .int (jn n))] := hl
  obtain ⟨hP, h1, h2⟩ := hX
  refine lv_aload_n hx hb d_J5_newCapacity_0f7a4_0 rfl (lv_at hl 0 rfl) ?_
  refine va_get (D := D) (ci := 12) (v := .ref ar) (C := RJ4) (T := TJ4) (N := 4) hx hb hts uw_12 hown hK hP 0 rfl rfl 0 (by decide) (hts (.fieldLink RJ5 15 "java/lang/AbstractStringBuilder" "value" "[B") (by decide +kernel)) (fun _ h9 => h9) rfl d_J5_newCapacity_0f7a4_1 ?_
  refine va_alen (v := jn cap) hx hb hK hP 1 0 rfl rfl (ofNat_jn (by omega)) d_J5_newCapacity_0f7a4_4 ?_
  refine lv_istore_n (lv' := [(2, .int (jn cap)), (0, .ref q), (1, .int (jn n))]) hx hb d_J5_newCapacity_0f7a4_5 rfl hl (by decide) rfl (fun ls hl => ?_)
  refine lv_iload_n hx hb d_J5_newCapacity_0f7a4_6 rfl (lv_at hl 2 rfl) ?_
  refine lv_aload_n hx hb d_J5_newCapacity_0f7a4_7 rfl (lv_at hl 1 rfl) ?_
  refine va_get (D := D) (ci := 12) (v := .int 0) (C := RJ4) (T := TJ4) (N := 4) hx hb hts uw_12 hown hK hP 0 rfl rfl 1 (by decide) (hts (.fieldLink RJ5 22 "java/lang/AbstractStringBuilder" "coder" "B") (by decide +kernel)) (fun _ h9 => h9) rfl d_J5_newCapacity_0f7a4_8 ?_
  refine lv_ishl hx hb d_J5_newCapacity_0f7a4_11 ?_
  rw [shl_0]
  refine lv_istore_n (lv' := [(3, .int (jn n)), (2, .int (jn cap)), (0, .ref q), (1, .int (jn n))]) hx hb d_J5_newCapacity_0f7a4_12 rfl hl (by decide) rfl (fun ls hl => ?_)
  refine lv_iload_n hx hb d_J5_newCapacity_0f7a4_13 rfl (lv_at hl 0 rfl) ?_
  refine lv_iload_n hx hb d_J5_newCapacity_0f7a4_14 rfl (lv_at hl 1 rfl) ?_
  refine lv_isub hx hb d_J5_newCapacity_0f7a4_15 ?_
  rw [jn_sub h1]
  refine lv_istore (lv' := [(4, .int (jn (n - cap))), (3, .int (jn n)), (2, .int (jn cap)), (0, .ref q), (1, .int (jn n))]) hx hb d_J5_newCapacity_0f7a4_16 hl (by decide) rfl (fun ls hl => ?_)
  refine lv_iload_n hx hb d_J5_newCapacity_0f7a4_18 rfl (lv_at hl 2 rfl) ?_
  refine lv_iload hx hb d_J5_newCapacity_0f7a4_19 (lv_at hl 0 rfl) ?_
  refine lv_iload_n hx hb d_J5_newCapacity_0f7a4_21 rfl (lv_at hl 2 rfl) ?_
  refine lv_iconst (v := 2) hx hb d_J5_newCapacity_0f7a4_22 (by decide) ?_
  refine lv_aload_n hx hb d_J5_newCapacity_0f7a4_23 rfl (lv_at hl 3 rfl) ?_
  refine va_get (D := D) (ci := 12) (v := .int 0) (C := RJ4) (T := TJ4) (N := 4) hx hb hts uw_12 hown hK hP 0 rfl rfl 1 (by decide) (hts (.fieldLink RJ5 22 "java/lang/AbstractStringBuilder" "coder" "B") (by decide +kernel)) (fun _ h9 => h9) rfl d_J5_newCapacity_0f7a4_24 ?_
  refine lv_ishl hx hb d_J5_newCapacity_0f7a4_27 ?_
  rw [show (2 : Int32) <<< ((0 : Int32) &&& 31) = jn 2 by decide]
  refine lv_iadd hx hb d_J5_newCapacity_0f7a4_28 ?_
  rw [jn_add]
  refine sc_i (va_runS (As := [.int (jn cap), .int (jn (n - cap)), .int (jn (cap + 2))]) (rest := []) ⟨hx, hb, hml, hown, hts⟩ (s_newLength l D cB cap (n - cap) (cap + 2)) (va_cwS 3 hts (g_sta (own := RJ5) (ix := 114) (y := yJ8_newLength_cabcc) (by decide +kernel) (by decide +kernel) (by decide +kernel) (g_con cw_J8_newLength_cabcc)) rfl rfl rfl (by decide +kernel) ⟨(Nat.le_of_ble_eq_true rfl), (Nat.le_of_ble_eq_true rfl)⟩) ⟨pre_blind, fun U hU hW => ⟨rfl, pre_call hU hW ⟨by omega, by omega, by omega, by omega⟩ ro_nil hJ⟩⟩ rfl rfl hl.1 rfl (lv_room (Nat.le_of_ble_eq_true rfl)) d_J5_newCapacity_0f7a4_29 ⟨(Nat.le_of_ble_eq_true rfl), (Nat.le_of_ble_eq_true rfl)⟩) (fun r9 hr9 => ?_)
  obtain rfl : r9 = jn (cap + max (n - cap) (cap + 2)) := hr9
  refine lv_istore (lv' := [(5, .int (jn (cap + max (n - cap) (cap + 2)))), (4, .int (jn (n - cap))), (3, .int (jn n)), (2, .int (jn cap)), (0, .ref q), (1, .int (jn n))]) hx hb d_J5_newCapacity_0f7a4_32 hl (by decide) rfl (fun ls hl => ?_)
  refine lv_iload hx hb d_J5_newCapacity_0f7a4_34 (lv_at hl 0 rfl) ?_
  refine lv_ldc (v := 2147483647) hx hb hown (hts (.constant RJ5 39 2147483647) (by decide +kernel)) d_J5_newCapacity_0f7a4_36 ?_
  refine lv_icmp_ne (tgt := 51) hx hb d_J5_newCapacity_0f7a4_38 (by decide) (fun _ => ?_) (fun h9 => absurd h9 (jn_nmax (by omega)))
  refine lv_iload hx hb d_J5_newCapacity_0f7a4_51 (lv_at hl 0 rfl) ?_
  refine lv_aload_n hx hb d_J5_newCapacity_0f7a4_53 rfl (lv_at hl 4 rfl) ?_
  refine va_get (D := D) (ci := 12) (v := .int 0) (C := RJ4) (T := TJ4) (N := 4) hx hb hts uw_12 hown hK hP 0 rfl rfl 1 (by decide) (hts (.fieldLink RJ5 22 "java/lang/AbstractStringBuilder" "coder" "B") (by decide +kernel)) (fun _ h9 => h9) rfl d_J5_newCapacity_0f7a4_54 ?_
  refine lv_ishr hx hb d_J5_newCapacity_0f7a4_57 ?_
  exact W.iret hx hb hr (fun t ht hW => ⟨_, rfl, (shr_0 _), ht⟩) (fun q h => by cases h) d_J5_newCapacity_0f7a4_58
set_option maxHeartbeats 4000000 in
set_option maxRecDepth 100000 in
theorem s_copyOf (l : Launch) (D : va_G) (cB : ClassId) (sz : Nat) (b n N : Nat) (f : Nat → Int32) : Met l yJ7_copyOf_9075b (wD yJ7_copyOf_9075b cJ7_copyOf_9075b 3 (some (.array .byte))) ({ frames := 1, cells := 1, slots := N, locals := 60 }) (va_Pc [.ref b, .int (jn N)] (PrW D cB sz [.inr (b, n, f)] [] (n < N ∧ N ≤ 20000 ∧ fitB8 f n)))
    (va_Qr (fun _ : Unit => True) (fun _ ra t => va_P D vwCl [(ra, .inl (cB, N, .inl (fun j => if j < n then f j else 0)))] t.heap ∧ va_D (va_A [] sz) [(ra, .inl (cB, N, .inl (fun j => if j < n then f j else 0)))]) (va_A [] sz)) (1) (N) (va_A [] sz) := by
  refine Met.ofW (cc := cJ7_copyOf_9075b) (maxL := 3) (ret := (some (.array .byte))) (by decide) rfl ?_
  intro p e s m args below meth c s₁ B hml hv
  obtain ⟨rfl, ⟨hsz, hRO, hPP, hD0, hsep, hX⟩, hJ0⟩ := hv
  have hx := B.exec
  have hb := B.bytes
  have hr := B.returns
  have hts0 := atoms_spec (ws := wD yJ7_copyOf_9075b cJ7_copyOf_9075b 3 (some (.array .byte))) B.pre
  have hts : ∀ w ∈ TW, w.before _ s = true := fun w h => hts0 w (List.mem_cons_of_mem _ h)
  have hown : s.vm.findClass RJ7 = some m.cls := findClass_of_methodNamed B.named
  have hlocks := B.notSynchronized
  subst hsz
  have hJ := hJ0.inA hPP
  have hro := ro_inA hRO hsep
  have hD := hD0.self (sz := s.heap.size)
  have hA : ∀ x9 : Nat, s.heap.size ≤ x9 → va_A [] s.heap.size x9 := fun x9 h => Or.inr h
  have hK := hJ.1
  generalize hAe : va_A [] s.heap.size = A at hJ hro hD hA ⊢
  have hS : va_S A s.heap s.heap [] := va_S.rf
  have hP := hPP
  have hl := lv_entry ([.ref b, .int (jn N)]) (n := 3) (Nat.le_of_ble_eq_true rfl)
  rw [lg_entry_eq]
  generalize (lg_sl ([.ref b, .int (jn N)]) ++ List.replicate (3 - (lg_sl ([.ref b, .int (jn N)])).length) Slot.unset).toArray = ls at hl ⊢
  have hl : lv_has ls 3 [(0, .ref b), (1, .int (jn N))] := hl
  obtain ⟨hn, hN, hf⟩ := hX
  have hF0 : Tf b n f (A) s s.heap := ro_at hro 0 rfl
  refine lv_iload_n hx hb d_J7_copyOf_9075b_0 rfl (lv_at hl 1 rfl) ?_
  refine lv_aload_n hx hb d_J7_copyOf_9075b_1 rfl (lv_at hl 0 rfl) ?_
  refine va_tlen hx hb hF0 hS (ofNat_jn (by omega)) d_J7_copyOf_9075b_2 ?_
  refine lv_icmp_ne (tgt := 14) hx hb d_J7_copyOf_9075b_3 (by decide) (fun _ => ?_) (fun h9 => absurd h9 (fun e9 => by rw [jn_inj (by omega) (by omega)] at e9; omega))
  refine lv_iload_n hx hb d_J7_copyOf_9075b_14 rfl (lv_at hl 1 rfl) ?_
  refine newaB (N := N) hx hb (hts (.arrayClass .byte) (by decide +kernel)) hK hP hD hS hA (jn_nneg (by omega)) (jn_clamp (by omega)) (by show _ * 1 ≤ _; omega) (by show _ ≤ 1; omega) (by show _ ≤ N; omega) d_J7_copyOf_9075b_15 (fun q10 H hP hD hS => ?_)
  have hP : va_P D vwCl [(q10, .inl (cB, N, .inl (fun _ => 0)))] _ := hP
  have hD : va_D A [(q10, .inl (cB, N, .inl (fun _ => 0)))] := hD
  refine lv_astore_n (lv' := [(2, .ref q10), (0, .ref b), (1, .int (jn N))]) hx hb d_J7_copyOf_9075b_17 rfl hl (by decide) rfl (fun ls hl => ?_)
  refine lv_aload_n hx hb d_J7_copyOf_9075b_18 rfl (lv_at hl 1 rfl) ?_
  refine lv_iconst (v := 0) hx hb d_J7_copyOf_9075b_19 (by decide) ?_
  refine lv_aload_n hx hb d_J7_copyOf_9075b_20 rfl (lv_at hl 0 rfl) ?_
  refine lv_iconst (v := 0) hx hb d_J7_copyOf_9075b_21 (by decide) ?_
  refine lv_aload_n hx hb d_J7_copyOf_9075b_22 rfl (lv_at hl 1 rfl) ?_
  refine va_tlen hx hb hF0 hS (ofNat_jn (by omega)) d_J7_copyOf_9075b_23 ?_
  refine lv_iload_n hx hb d_J7_copyOf_9075b_24 rfl (lv_at hl 2 rfl) ?_
  refine va_mmin hx hb (by rw [hml]; exact hl.1.symm) hown (hts (.methodLink RJ7 304 Lib.Math.min.name) (by decide +kernel)) (hts (.static Lib.Math.min.name) (by decide +kernel)) (hts (.initialized "java/lang/Math") (by decide +kernel)) (hts (.code Lib.Math.min.name Lib.Math.min.code 2 (some .int)) (by decide +kernel)) (Nat.le_of_ble_eq_true rfl) (Nat.le_of_ble_eq_true rfl) (by show _ ≤ 1; omega) (by show _ ≤ N; omega) d_J7_copyOf_9075b_25 ?_
  rw [min_jn2 (a := n) (b := N) (by omega) (by omega)]
  refine vk_copyt (f := f) (n0 := n) (sp := jn 0) (dp := jn 0) (n := jn n) hx hb (by rw [hml]; exact hl.1.symm) hown (hts (.methodLink RJ7 150 arraycopyName) (by decide +kernel)) (hts (.native arraycopyName) (by decide +kernel)) (hts (.static arraycopyName) (by decide +kernel)) (hts (.initialized "java/lang/System") (by decide +kernel)) hK hP hD hS hF0 0 0 rfl rfl (jn_nneg (by omega)) (jn_nneg (by omega)) (jn_nneg (by omega)) (by rw [jn_clamp (by omega), jn_clamp (by omega)]; omega) (by rw [jn_clamp (by omega), jn_clamp (by omega)]; omega) (fun i9 h9 => by rw [jn_clamp (by omega)] at h9; rw [jn_clamp (by omega)]; exact (hf _ (by omega))) (Nat.le_of_ble_eq_true rfl) (Nat.le_of_ble_eq_true rfl) d_J7_copyOf_9075b_28 (fun H locs hP hD hS => ?_)
  simp only [jn_clamp (show 0 < 2147483648 by omega), jn_clamp (show 0 < 2147483648 by omega), jn_clamp (show n < 2147483648 by omega)] at hP hD
  have hP : va_P D vwCl [(q10, .inl (cB, N, .inl (va_cpy f (fun _ => 0) 0 0 n)))] _ := hP
  have hD : va_D A [(q10, .inl (cB, N, .inl (va_cpy f (fun _ => 0) 0 0 n)))] := hD
  have hP := va_as (g := (fun j => if j < n then f j else 0)) hP (q0 := 0) rfl (fun j hj => cpy_0)
  have hD := hD.set (p := 0) (e := .inl (cB, N, .inl (fun j => if j < n then f j else 0))) rfl
  have hP : va_P D vwCl [(q10, .inl (cB, N, .inl (fun j => if j < n then f j else 0)))] _ := hP
  have hD : va_D A [(q10, .inl (cB, N, .inl (fun j => if j < n then f j else 0)))] := hD
  refine lv_aload_n hx hb d_J7_copyOf_9075b_31 rfl (lv_at hl 0 rfl) ?_
  refine W.widen (k := 1) (n := N) (by omega) (by omega) ?_
  exact W.aret hx hb hr (Or.inr ⟨_, rfl⟩) (Or.inr ⟨_, rfl⟩) (fun t ht hW => ⟨⟨(), q10, rfl, trivial, by rw [ht]; exact hP.sub (ws' := [(q10, .inl (cB, N, .inl (fun j => if j < n then f j else 0)))]) [0] rfl, hD.sub (ws' := [(q10, .inl (cB, N, .inl (fun j => if j < n then f j else 0)))]) [0] (by decide) rfl⟩, hS.F ht⟩) hS.2.2 d_J7_copyOf_9075b_32
