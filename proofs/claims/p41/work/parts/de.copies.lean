/-! strings, what makes: copies (laid by wip/p41/gen/jdk3.py) -/
theorem min_jn {a b : Nat} (h : b ≤ a) (ha : a < 2147483648) : (if jn b < jn a then jn b else jn a) = jn b := by
  by_cases c : jn b < jn a
  · rw [if_pos c]
  · rw [if_neg c]
    have : ¬ b < a := fun z => c (by rw [jn_lt (by omega) ha]; exact z)
    rw [show a = b by omega]
set_option maxRecDepth 100000 in
theorem cw_J7_checkLength_df160 : Jvm.Cond.code yJ7_checkLength_df160 cJ7_checkLength_df160 2 none ∈ TW := TW_mem (List.mem_append_right _ (List.mem_append_right _ (List.mem_append_right _ (List.mem_append_right _ (List.mem_append_right _ (List.mem_append_left _ (List.mem_of_getElem? (l := tables_1_5) (i := 59) rfl))))))) rfl
theorem d_J7_checkLength_df160_0 : decode cJ7_checkLength_df160 0 = .ok (.iload_n 1, 1) := by decide +kernel
theorem d_J7_checkLength_df160_1 : decode cJ7_checkLength_df160 1 = .ok (.iload_n 0, 1) := by decide +kernel
theorem d_J7_checkLength_df160_2 : decode cJ7_checkLength_df160 2 = .ok (.if_icmp .ge (35), 3) := by decide +kernel
theorem d_J7_checkLength_df160_37 : decode cJ7_checkLength_df160 37 = .ok (.return_, 1) := by decide +kernel
theorem d_J7_copyOfRangeByte_39247_0 : decode cJ7_copyOfRangeByte_39247 0 = .ok (.iload_n 1, 1) := by decide +kernel
theorem d_J7_copyOfRangeByte_39247_1 : decode cJ7_copyOfRangeByte_39247 1 = .ok (.iload_n 2, 1) := by decide +kernel
theorem d_J7_copyOfRangeByte_39247_2 : decode cJ7_copyOfRangeByte_39247 2 = .ok (.invokestatic 343, 3) := by decide +kernel
theorem d_J7_copyOfRangeByte_39247_5 : decode cJ7_copyOfRangeByte_39247 5 = .ok (.iload_n 2, 1) := by decide +kernel
theorem d_J7_copyOfRangeByte_39247_6 : decode cJ7_copyOfRangeByte_39247 6 = .ok (.iload_n 1, 1) := by decide +kernel
theorem d_J7_copyOfRangeByte_39247_7 : decode cJ7_copyOfRangeByte_39247 7 = .ok (.isub, 1) := by decide +kernel
theorem d_J7_copyOfRangeByte_39247_8 : decode cJ7_copyOfRangeByte_39247 8 = .ok (.istore_n 3, 1) := by decide +kernel
theorem d_J7_copyOfRangeByte_39247_9 : decode cJ7_copyOfRangeByte_39247 9 = .ok (.iload_n 3, 1) := by decide +kernel
theorem d_J7_copyOfRangeByte_39247_10 : decode cJ7_copyOfRangeByte_39247 10 = .ok (.newarray .byte, 2) := by decide +kernel
theorem d_J7_copyOfRangeByte_39247_12 : decode cJ7_copyOfRangeByte_39247 12 = .ok (.astore 4, 2) := by decide +kernel
theorem d_J7_copyOfRangeByte_39247_14 : decode cJ7_copyOfRangeByte_39247 14 = .ok (.aload_n 0, 1) := by decide +kernel
theorem d_J7_copyOfRangeByte_39247_15 : decode cJ7_copyOfRangeByte_39247 15 = .ok (.iload_n 1, 1) := by decide +kernel
theorem d_J7_copyOfRangeByte_39247_16 : decode cJ7_copyOfRangeByte_39247 16 = .ok (.aload 4, 2) := by decide +kernel
theorem d_J7_copyOfRangeByte_39247_18 : decode cJ7_copyOfRangeByte_39247 18 = .ok (.iconst 0, 1) := by decide +kernel
theorem d_J7_copyOfRangeByte_39247_19 : decode cJ7_copyOfRangeByte_39247 19 = .ok (.aload_n 0, 1) := by decide +kernel
theorem d_J7_copyOfRangeByte_39247_20 : decode cJ7_copyOfRangeByte_39247 20 = .ok (.arraylength, 1) := by decide +kernel
theorem d_J7_copyOfRangeByte_39247_21 : decode cJ7_copyOfRangeByte_39247 21 = .ok (.iload_n 1, 1) := by decide +kernel
theorem d_J7_copyOfRangeByte_39247_22 : decode cJ7_copyOfRangeByte_39247 22 = .ok (.isub, 1) := by decide +kernel
theorem d_J7_copyOfRangeByte_39247_23 : decode cJ7_copyOfRangeByte_39247 23 = .ok (.iload_n 3, 1) := by decide +kernel
theorem d_J7_copyOfRangeByte_39247_24 : decode cJ7_copyOfRangeByte_39247 24 = .ok (.invokestatic 304, 3) := by decide +kernel
theorem d_J7_copyOfRangeByte_39247_27 : decode cJ7_copyOfRangeByte_39247 27 = .ok (.invokestatic 150, 3) := by decide +kernel
theorem d_J7_copyOfRangeByte_39247_30 : decode cJ7_copyOfRangeByte_39247 30 = .ok (.aload 4, 2) := by decide +kernel
theorem d_J7_copyOfRangeByte_39247_32 : decode cJ7_copyOfRangeByte_39247 32 = .ok (.areturn, 1) := by decide +kernel
set_option maxHeartbeats 4000000 in
set_option maxRecDepth 100000 in
theorem s_checkLength (l : Launch) (D : va_G) (cB : ClassId) (i j : Nat) : Met l yJ7_checkLength_df160 (wD yJ7_checkLength_df160 cJ7_checkLength_df160 2 none) ({ frames := 1, cells := 0, slots := 0, locals := 60 }) (va_Pc [.int (jn i), .int (jn j)] (PrJ D cB [] (fun H => i ≤ j ∧ j ≤ 10000))) (Srj) 0 0 (fun _ => False) := by
  refine Met.ofW (cc := cJ7_checkLength_df160) (maxL := 2) (ret := none) (by decide) rfl ?_
  intro p e s m args below meth c s₁ B hml hv
  obtain ⟨rfl, hX, hro, hJ⟩ := hv
  have hx := B.exec
  have hb := B.bytes
  have hr := B.returns
  have hts0 := atoms_spec (ws := wD yJ7_checkLength_df160 cJ7_checkLength_df160 2 none) B.pre
  have hts : ∀ w ∈ TW, w.before _ s = true := fun w h => hts0 w (List.mem_cons_of_mem _ h)
  have hown : s.vm.findClass RJ7 = some m.cls := findClass_of_methodNamed B.named
  have hlocks := B.notSynchronized
  have hS : va_S (fun _ => False) s.heap s.heap [] := va_S.rf
  have hK := hJ.1
  have hl := lv_entry ([.int (jn i), .int (jn j)]) (n := 2) (Nat.le_of_ble_eq_true rfl)
  rw [lg_entry_eq]
  generalize (lg_sl ([.int (jn i), .int (jn j)]) ++ List.replicate (2 - (lg_sl ([.int (jn i), .int (jn j)])).length) Slot.unset).toArray = ls at hl ⊢
  have hl : lv_has ls 2 [(0, .int (jn i)), (1, .int (jn j))] := hl
  obtain ⟨hi, hn⟩ := hX
  refine lv_iload_n hx hb d_J7_checkLength_df160_0 rfl (lv_at hl 1 rfl) ?_
  refine lv_iload_n hx hb d_J7_checkLength_df160_1 rfl (lv_at hl 0 rfl) ?_
  refine lv_icmp_ge (tgt := 37) hx hb d_J7_checkLength_df160_2 (by decide) (fun _ => ?_) (fun h9 => absurd (by rw [jn_le (by omega) (by omega)]; exact hi) h9)
  exact W.vret hx hb hr (fun t ht hW => ⟨rfl, ht⟩) (fun q h => by cases h) d_J7_checkLength_df160_37
set_option maxHeartbeats 4000000 in
set_option maxRecDepth 100000 in
theorem s_copyOfRangeByte (l : Launch) (D : va_G) (cB : ClassId) (sz : Nat) (b i j n : Nat) (f : Nat → Int32) : Met l yJ7_copyOfRangeByte_39247 (wD yJ7_copyOfRangeByte_39247 cJ7_copyOfRangeByte_39247 5 (some (.array .byte))) ({ frames := 2, cells := 1, slots := (j - i), locals := 100 }) (va_Pc [.ref b, .int (jn i), .int (jn j)] (PrW D cB sz [.inr (b, n, f)] [] (i ≤ j ∧ j ≤ n ∧ n ≤ 10000 ∧ fitB8 f n)))
    (va_Qr (fun _ : Unit => True) (fun _ ra t => va_P D vwCl [(ra, .inl (cB, j - i, .inl (fun k => f (i + k))))] t.heap ∧ va_D (va_A [] sz) [(ra, .inl (cB, j - i, .inl (fun k => f (i + k))))]) (va_A [] sz)) (1) ((j - i)) (va_A [] sz) := by
  refine Met.ofW (cc := cJ7_copyOfRangeByte_39247) (maxL := 5) (ret := (some (.array .byte))) (by decide) rfl ?_
  intro p e s m args below meth c s₁ B hml hv
  obtain ⟨rfl, ⟨hsz, hRO, hPP, hD0, hsep, hX⟩, hJ0⟩ := hv
  have hx := B.exec
  have hb := B.bytes
  have hr := B.returns
  have hts0 := atoms_spec (ws := wD yJ7_copyOfRangeByte_39247 cJ7_copyOfRangeByte_39247 5 (some (.array .byte))) B.pre
  have hts : ∀ w ∈ TW, w.before _ s = true := fun w h => hts0 w (List.mem_cons_of_mem _ h)
  have hown : s.vm.findClass RJ7 = some m.cls := findClass_of_methodNamed B.named
  have hlocks := B.notSynchronized
  subst hsz
  have hJ := hJ0.inA hPP
  have hro := ro_inA hRO hsep
  have hD := hD0.self (sz := s.heap.size)
  have hA : ∀ x9 : Nat, s.heap.size ≤ x9 → va_A [] s.heap.size x9 := fun x9 h => Or.inr h
  have hK := hJ.1
  generalize hAe : va_A [] s.heap.size = A at hJ hro hD hA ⊢
  have hS : va_S A s.heap s.heap [] := va_S.rf
  have hP := hPP
  have hl := lv_entry ([.ref b, .int (jn i), .int (jn j)]) (n := 5) (Nat.le_of_ble_eq_true rfl)
  rw [lg_entry_eq]
  generalize (lg_sl ([.ref b, .int (jn i), .int (jn j)]) ++ List.replicate (5 - (lg_sl ([.ref b, .int (jn i), .int (jn j)])).length) Slot.unset).toArray = ls at hl ⊢
  have hl : lv_has ls 5 [(0, .ref b), (1, .int (jn i)), (2, .int (jn j))] := hl
  obtain ⟨hij, hj, hn, hf⟩ := hX
  have hF0 : Tf b n f (A) s s.heap := ro_at hro 0 rfl
  refine lv_iload_n hx hb d_J7_copyOfRangeByte_39247_0 rfl (lv_at hl 1 rfl) ?_
  refine lv_iload_n hx hb d_J7_copyOfRangeByte_39247_1 rfl (lv_at hl 2 rfl) ?_
  refine sc_v (va_runS (As := [.int (jn i), .int (jn j)]) (rest := []) ⟨hx, hb, hml, hown, hts⟩ (s_checkLength l D cB i j) (va_cwS 2 hts (g_sta (own := RJ7) (ix := 343) (y := yJ7_checkLength_df160) (by decide +kernel) (by decide +kernel) (by decide +kernel) (g_con cw_J7_checkLength_df160)) rfl rfl rfl (by decide +kernel) ⟨(Nat.le_of_ble_eq_true rfl), (Nat.le_of_ble_eq_true rfl)⟩) ⟨pre_blind, fun U hU hW => ⟨rfl, pre_call hU hW ⟨hij, by omega⟩ ro_nil (hJ.keep hS)⟩⟩ rfl rfl hl.1 rfl (lv_room (Nat.le_of_ble_eq_true rfl)) d_J7_copyOfRangeByte_39247_2 ⟨(by show _ ≤ 1; omega), (by show _ ≤ (j - i); omega)⟩) ?_
  refine lv_iload_n hx hb d_J7_copyOfRangeByte_39247_5 rfl (lv_at hl 2 rfl) ?_
  refine lv_iload_n hx hb d_J7_copyOfRangeByte_39247_6 rfl (lv_at hl 1 rfl) ?_
  refine lv_isub hx hb d_J7_copyOfRangeByte_39247_7 ?_
  rw [jn_sub (by omega)]
  refine lv_istore_n (lv' := [(3, .int (jn (j - i))), (0, .ref b), (1, .int (jn i)), (2, .int (jn j))]) hx hb d_J7_copyOfRangeByte_39247_8 rfl hl (by decide) rfl (fun ls hl => ?_)
  refine lv_iload_n hx hb d_J7_copyOfRangeByte_39247_9 rfl (lv_at hl 0 rfl) ?_
  refine newaB (N := (j - i)) hx hb (hts (.arrayClass .byte) (by decide +kernel)) hK hP hD hS hA (jn_nneg (by omega)) (jn_clamp (by omega)) (by show _ * 1 ≤ _; omega) (by show _ ≤ 1; omega) (by show _ ≤ (j - i); omega) d_J7_copyOfRangeByte_39247_10 (fun q10 H hP hD hS => ?_)
  have hP : va_P D vwCl [(q10, .inl (cB, (j - i), .inl (fun _ => 0)))] _ := hP
  have hD : va_D A [(q10, .inl (cB, (j - i), .inl (fun _ => 0)))] := hD
  refine lv_astore (lv' := [(4, .ref q10), (3, .int (jn (j - i))), (0, .ref b), (1, .int (jn i)), (2, .int (jn j))]) hx hb d_J7_copyOfRangeByte_39247_12 hl (by decide) rfl (fun ls hl => ?_)
  refine lv_aload_n hx hb d_J7_copyOfRangeByte_39247_14 rfl (lv_at hl 2 rfl) ?_
  refine lv_iload_n hx hb d_J7_copyOfRangeByte_39247_15 rfl (lv_at hl 3 rfl) ?_
  refine lv_aload hx hb d_J7_copyOfRangeByte_39247_16 (lv_at hl 0 rfl) ?_
  refine lv_iconst (v := 0) hx hb d_J7_copyOfRangeByte_39247_18 (by decide) ?_
  refine lv_aload_n hx hb d_J7_copyOfRangeByte_39247_19 rfl (lv_at hl 2 rfl) ?_
  refine va_tlen hx hb hF0 hS (ofNat_jn (by omega)) d_J7_copyOfRangeByte_39247_20 ?_
  refine lv_iload_n hx hb d_J7_copyOfRangeByte_39247_21 rfl (lv_at hl 3 rfl) ?_
  refine lv_isub hx hb d_J7_copyOfRangeByte_39247_22 ?_
  rw [jn_sub (by omega)]
  refine lv_iload_n hx hb d_J7_copyOfRangeByte_39247_23 rfl (lv_at hl 1 rfl) ?_
  refine va_mmin hx hb (by rw [hml]; exact hl.1.symm) hown (hts (.methodLink RJ7 304 Lib.Math.min.name) (by decide +kernel)) (hts (.static Lib.Math.min.name) (by decide +kernel)) (hts (.initialized "java/lang/Math") (by decide +kernel)) (hts (.code Lib.Math.min.name Lib.Math.min.code 2 (some .int)) (by decide +kernel)) (Nat.le_of_ble_eq_true rfl) (Nat.le_of_ble_eq_true rfl) (by show _ ≤ 1; omega) (by show _ ≤ (j - i); omega) d_J7_copyOfRangeByte_39247_24 ?_
  rw [min_jn (a := n - i) (b := j - i) (by omega) (by omega)]
  refine vk_copyt (f := f) (n0 := n) (sp := jn i) (dp := jn 0) (n := jn (j - i)) hx hb (by rw [hml]; exact hl.1.symm) hown (hts (.methodLink RJ7 150 arraycopyName) (by decide +kernel)) (hts (.native arraycopyName) (by decide +kernel)) (hts (.static arraycopyName) (by decide +kernel)) (hts (.initialized "java/lang/System") (by decide +kernel)) hK hP hD hS hF0 0 0 rfl rfl (jn_nneg (by omega)) (jn_nneg (by omega)) (jn_nneg (by omega)) (by rw [jn_clamp (by omega), jn_clamp (by omega)]; omega) (by rw [jn_clamp (by omega), jn_clamp (by omega)]; omega) (fun i9 h9 => by rw [jn_clamp (by omega)] at h9; rw [jn_clamp (by omega)]; exact (hf _ (by omega))) (Nat.le_of_ble_eq_true rfl) (Nat.le_of_ble_eq_true rfl) d_J7_copyOfRangeByte_39247_27 (fun H locs hP hD hS => ?_)
  simp only [jn_clamp (show i < 2147483648 by omega), jn_clamp (show 0 < 2147483648 by omega), jn_clamp (show j - i < 2147483648 by omega)] at hP hD
  have hP : va_P D vwCl [(q10, .inl (cB, (j - i), .inl (va_cpy f (fun _ => 0) i 0 (j - i))))] _ := hP
  have hD : va_D A [(q10, .inl (cB, (j - i), .inl (va_cpy f (fun _ => 0) i 0 (j - i))))] := hD
  have hP := va_as (g := (fun k => f (i + k))) hP (q0 := 0) rfl (fun k hk => by rw [pk_cpy_in (by omega) (by omega)]; rfl)
  have hD := hD.set (p := 0) (e := .inl (cB, (j - i), .inl (fun k => f (i + k)))) rfl
  have hP : va_P D vwCl [(q10, .inl (cB, (j - i), .inl (fun k => f (i + k))))] _ := hP
  have hD : va_D A [(q10, .inl (cB, (j - i), .inl (fun k => f (i + k))))] := hD
  refine lv_aload hx hb d_J7_copyOfRangeByte_39247_30 (lv_at hl 0 rfl) ?_
  refine W.widen (k := 1) (n := (j - i)) (by omega) (by omega) ?_
  exact W.aret hx hb hr (Or.inr ⟨_, rfl⟩) (Or.inr ⟨_, rfl⟩) (fun t ht hW => ⟨⟨(), q10, rfl, trivial, by rw [ht]; exact hP.sub (ws' := [(q10, .inl (cB, (j - i), .inl (fun k => f (i + k))))]) [0] rfl, hD.sub (ws' := [(q10, .inl (cB, (j - i), .inl (fun k => f (i + k))))]) [0] (by decide) rfl⟩, hS.F ht⟩) hS.2.2 d_J7_copyOfRangeByte_39247_32
