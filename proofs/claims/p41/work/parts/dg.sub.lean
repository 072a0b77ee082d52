/-! strings, what makes: substring (laid by wip/p41/gen/jdk5.py) -/
def sbt (t : List Int32) (i j : Nat) : List Int32 := (t.drop i).take (j - i)
theorem sbt_len {t : List Int32} {i j : Nat} (h : j ≤ t.length) : (sbt t i j).length = j - i := by
  unfold sbt
  rw [List.length_take, List.length_drop]
  omega
theorem sbt_at {t : List Int32} {i j k : Nat} (h : j ≤ t.length) (hk : k < j - i) : bt (sbt t i j) k = bt t (i + k) := by
  unfold bt sbt
  rw [List.getD_eq_getElem?_getD, List.getD_eq_getElem?_getD, List.getElem?_take, if_pos hk, List.getElem?_drop]
theorem sbt_As {t : List Int32} {i j : Nat} (h : As t) : As (sbt t i j) := fun c hc => h c (List.mem_of_mem_drop (List.mem_of_mem_take hc))
set_option maxRecDepth 100000 in
theorem cw_J0_checkBoundsBeginEnd_23922 : Jvm.Cond.code yJ0_checkBoundsBeginEnd_23922 cJ0_checkBoundsBeginEnd_23922 3 none ∈ TW := TW_mem (List.mem_append_right _ (List.mem_append_right _ (List.mem_append_right _ (List.mem_append_right _ (List.mem_append_left _ (List.mem_of_getElem? (l := tables_1_4) (i := 165) rfl)))))) rfl
set_option maxRecDepth 100000 in
theorem cw_J0_substring_37a41 : Jvm.Cond.code yJ0_substring_37a41 cJ0_substring_37a41 5 (some (.object "java/lang/String")) ∈ TW := TW_mem (List.mem_append_right _ (List.mem_append_right _ (List.mem_append_right _ (List.mem_append_right _ (List.mem_append_right _ (List.mem_append_left _ (List.mem_of_getElem? (l := tables_1_5) (i := 139) rfl))))))) rfl
set_option maxRecDepth 100000 in
theorem cw_J1_newString_b4f7a : Jvm.Cond.code yJ1_newString_b4f7a cJ1_newString_b4f7a 3 (some (.object "java/lang/String")) ∈ TW := TW_mem (List.mem_append_right _ (List.mem_append_right _ (List.mem_append_right _ (List.mem_append_right _ (List.mem_append_right _ (List.mem_append_left _ (List.mem_of_getElem? (l := tables_1_5) (i := 143) rfl))))))) rfl
set_option maxRecDepth 100000 in
theorem cw_J3_checkFromToIndex_8c36e : Jvm.Cond.code yJ3_checkFromToIndex_8c36e cJ3_checkFromToIndex_8c36e 4 (some .int) ∈ TW := TW_mem (List.mem_append_right _ (List.mem_append_right _ (List.mem_append_right _ (List.mem_append_right _ (List.mem_append_left _ (List.mem_of_getElem? (l := tables_1_4) (i := 170) rfl)))))) rfl
theorem d_J3_checkFromToIndex_8c36e_0 : decode cJ3_checkFromToIndex_8c36e 0 = .ok (.iload_n 0, 1) := by decide +kernel
theorem d_J3_checkFromToIndex_8c36e_1 : decode cJ3_checkFromToIndex_8c36e 1 = .ok (.ifCond .lt (13), 3) := by decide +kernel
theorem d_J3_checkFromToIndex_8c36e_4 : decode cJ3_checkFromToIndex_8c36e 4 = .ok (.iload_n 0, 1) := by decide +kernel
theorem d_J3_checkFromToIndex_8c36e_5 : decode cJ3_checkFromToIndex_8c36e 5 = .ok (.iload_n 1, 1) := by decide +kernel
theorem d_J3_checkFromToIndex_8c36e_6 : decode cJ3_checkFromToIndex_8c36e 6 = .ok (.if_icmp .gt (8), 3) := by decide +kernel
theorem d_J3_checkFromToIndex_8c36e_9 : decode cJ3_checkFromToIndex_8c36e 9 = .ok (.iload_n 1, 1) := by decide +kernel
theorem d_J3_checkFromToIndex_8c36e_10 : decode cJ3_checkFromToIndex_8c36e 10 = .ok (.iload_n 2, 1) := by decide +kernel
theorem d_J3_checkFromToIndex_8c36e_11 : decode cJ3_checkFromToIndex_8c36e 11 = .ok (.if_icmp .le (11), 3) := by decide +kernel
theorem d_J3_checkFromToIndex_8c36e_22 : decode cJ3_checkFromToIndex_8c36e 22 = .ok (.iload_n 0, 1) := by decide +kernel
theorem d_J3_checkFromToIndex_8c36e_23 : decode cJ3_checkFromToIndex_8c36e 23 = .ok (.ireturn, 1) := by decide +kernel
theorem d_J0_checkBoundsBeginEnd_23922_0 : decode cJ0_checkBoundsBeginEnd_23922 0 = .ok (.iload_n 0, 1) := by decide +kernel
theorem d_J0_checkBoundsBeginEnd_23922_1 : decode cJ0_checkBoundsBeginEnd_23922 1 = .ok (.iload_n 1, 1) := by decide +kernel
theorem d_J0_checkBoundsBeginEnd_23922_2 : decode cJ0_checkBoundsBeginEnd_23922 2 = .ok (.iload_n 2, 1) := by decide +kernel
theorem d_J0_checkBoundsBeginEnd_23922_3 : decode cJ0_checkBoundsBeginEnd_23922 3 = .ok (.getstatic 1053, 3) := by decide +kernel
theorem d_J0_checkBoundsBeginEnd_23922_6 : decode cJ0_checkBoundsBeginEnd_23922 6 = .ok (.invokestatic 1062, 3) := by decide +kernel
theorem d_J0_checkBoundsBeginEnd_23922_9 : decode cJ0_checkBoundsBeginEnd_23922 9 = .ok (.pop, 1) := by decide +kernel
theorem d_J0_checkBoundsBeginEnd_23922_10 : decode cJ0_checkBoundsBeginEnd_23922 10 = .ok (.return_, 1) := by decide +kernel
theorem d_J0_substring_37a41_0 : decode cJ0_substring_37a41 0 = .ok (.aload_n 0, 1) := by decide +kernel
theorem d_J0_substring_37a41_1 : decode cJ0_substring_37a41 1 = .ok (.invokevirtual 505, 3) := by decide +kernel
theorem d_J0_substring_37a41_4 : decode cJ0_substring_37a41 4 = .ok (.istore_n 3, 1) := by decide +kernel
theorem d_J0_substring_37a41_5 : decode cJ0_substring_37a41 5 = .ok (.iload_n 1, 1) := by decide +kernel
theorem d_J0_substring_37a41_6 : decode cJ0_substring_37a41 6 = .ok (.iload_n 2, 1) := by decide +kernel
theorem d_J0_substring_37a41_7 : decode cJ0_substring_37a41 7 = .ok (.iload_n 3, 1) := by decide +kernel
theorem d_J0_substring_37a41_8 : decode cJ0_substring_37a41 8 = .ok (.invokestatic 521, 3) := by decide +kernel
theorem d_J0_substring_37a41_11 : decode cJ0_substring_37a41 11 = .ok (.iload_n 1, 1) := by decide +kernel
theorem d_J0_substring_37a41_12 : decode cJ0_substring_37a41 12 = .ok (.ifCond .ne (10), 3) := by decide +kernel
theorem d_J0_substring_37a41_15 : decode cJ0_substring_37a41 15 = .ok (.iload_n 2, 1) := by decide +kernel
theorem d_J0_substring_37a41_16 : decode cJ0_substring_37a41 16 = .ok (.iload_n 3, 1) := by decide +kernel
theorem d_J0_substring_37a41_17 : decode cJ0_substring_37a41 17 = .ok (.if_icmp .ne (5), 3) := by decide +kernel
theorem d_J0_substring_37a41_22 : decode cJ0_substring_37a41 22 = .ok (.iload_n 2, 1) := by decide +kernel
theorem d_J0_substring_37a41_23 : decode cJ0_substring_37a41 23 = .ok (.iload_n 1, 1) := by decide +kernel
theorem d_J0_substring_37a41_24 : decode cJ0_substring_37a41 24 = .ok (.isub, 1) := by decide +kernel
theorem d_J0_substring_37a41_25 : decode cJ0_substring_37a41 25 = .ok (.istore 4, 2) := by decide +kernel
theorem d_J0_substring_37a41_27 : decode cJ0_substring_37a41 27 = .ok (.aload_n 0, 1) := by decide +kernel
theorem d_J0_substring_37a41_28 : decode cJ0_substring_37a41 28 = .ok (.invokevirtual 492, 3) := by decide +kernel
theorem d_J0_substring_37a41_31 : decode cJ0_substring_37a41 31 = .ok (.ifCond .eq (16), 3) := by decide +kernel
theorem d_J0_substring_37a41_34 : decode cJ0_substring_37a41 34 = .ok (.aload_n 0, 1) := by decide +kernel
theorem d_J0_substring_37a41_35 : decode cJ0_substring_37a41 35 = .ok (.getfield 9, 3) := by decide +kernel
theorem d_J0_substring_37a41_38 : decode cJ0_substring_37a41 38 = .ok (.iload_n 1, 1) := by decide +kernel
theorem d_J0_substring_37a41_39 : decode cJ0_substring_37a41 39 = .ok (.iload 4, 2) := by decide +kernel
theorem d_J0_substring_37a41_41 : decode cJ0_substring_37a41 41 = .ok (.invokestatic 685, 3) := by decide +kernel
theorem d_J0_substring_37a41_44 : decode cJ0_substring_37a41 44 = .ok (.goto (13), 3) := by decide +kernel
theorem d_J0_substring_37a41_57 : decode cJ0_substring_37a41 57 = .ok (.areturn, 1) := by decide +kernel
theorem d_J0_substring_b52d3_0 : decode cJ0_substring_b52d3 0 = .ok (.aload_n 0, 1) := by decide +kernel
theorem d_J0_substring_b52d3_1 : decode cJ0_substring_b52d3 1 = .ok (.iload_n 1, 1) := by decide +kernel
theorem d_J0_substring_b52d3_2 : decode cJ0_substring_b52d3 2 = .ok (.aload_n 0, 1) := by decide +kernel
theorem d_J0_substring_b52d3_3 : decode cJ0_substring_b52d3 3 = .ok (.invokevirtual 505, 3) := by decide +kernel
theorem d_J0_substring_b52d3_6 : decode cJ0_substring_b52d3 6 = .ok (.invokevirtual 681, 3) := by decide +kernel
theorem d_J0_substring_b52d3_9 : decode cJ0_substring_b52d3 9 = .ok (.areturn, 1) := by decide +kernel
set_option maxHeartbeats 4000000 in
set_option maxRecDepth 100000 in
theorem s_pcft_n (l : Launch) (D : va_G) (cB : ClassId) (i j n : Nat) : Met l yJ3_checkFromToIndex_8c36e (wD yJ3_checkFromToIndex_8c36e cJ3_checkFromToIndex_8c36e 4 (some .int)) ({ frames := 1, cells := 0, slots := 0, locals := 60 }) (va_Pc [.int (jn i), .int (jn j), .int (jn n), .null] (PrJ D cB [] (fun H => i ≤ j ∧ j ≤ n ∧ n ≤ 1000))) (Sri (fun r => True)) 0 0 (fun _ => False) := by
  refine Met.ofW (cc := cJ3_checkFromToIndex_8c36e) (maxL := 4) (ret := (some .int)) (by decide) rfl ?_
  intro p e s m args below meth c s₁ B hml hv
  obtain ⟨rfl, hX, hro, hJ⟩ := hv
  have hx := B.exec
  have hb := B.bytes
  have hr := B.returns
  have hts0 := atoms_spec (ws := wD yJ3_checkFromToIndex_8c36e cJ3_checkFromToIndex_8c36e 4 (some .int)) B.pre
  have hts : ∀ w ∈ TW, w.before _ s = true := fun w h => hts0 w (List.mem_cons_of_mem _ h)
  have hown : s.vm.findClass RJ3 = some m.cls := findClass_of_methodNamed B.named
  have hlocks := B.notSynchronized
  have hS : va_S (fun _ => False) s.heap s.heap [] := va_S.rf
  have hK := hJ.1
  have hl := lv_entry ([.int (jn i), .int (jn j), .int (jn n), .null]) (n := 4) (Nat.le_of_ble_eq_true rfl)
  rw [lg_entry_eq]
  generalize (lg_sl ([.int (jn i), .int (jn j), .int (jn n), .null]) ++ List.replicate (4 - (lg_sl ([.int (jn i), .int (jn j), .int (jn n), .null])).length) Slot.unset).toArray = ls at hl ⊢
  have hl : lv_has ls 4 [(0, .int (jn i)), (1, .int (jn j)), (2, .int (jn n)), (3, .null)] := hl
  obtain ⟨hi, hj, hn⟩ := hX
  refine lv_iload_n hx hb d_J3_checkFromToIndex_8c36e_0 rfl (lv_at hl 0 rfl) ?_
  refine lv_if_lt (tgt := 14) hx hb d_J3_checkFromToIndex_8c36e_1 (by decide) (fun h9 => absurd h9 (jn_nneg (by omega))) (fun _ => ?_)
  refine lv_iload_n hx hb d_J3_checkFromToIndex_8c36e_4 rfl (lv_at hl 0 rfl) ?_
  refine lv_iload_n hx hb d_J3_checkFromToIndex_8c36e_5 rfl (lv_at hl 1 rfl) ?_
  refine lv_icmp_gt (tgt := 14) hx hb d_J3_checkFromToIndex_8c36e_6 (by decide) (fun h9 => absurd h9 (by rw [jn_lt (by omega) (by omega)]; omega)) (fun _ => ?_)
  refine lv_iload_n hx hb d_J3_checkFromToIndex_8c36e_9 rfl (lv_at hl 1 rfl) ?_
  refine lv_iload_n hx hb d_J3_checkFromToIndex_8c36e_10 rfl (lv_at hl 2 rfl) ?_
  refine lv_icmp_le (tgt := 22) hx hb d_J3_checkFromToIndex_8c36e_11 (by decide) (fun _ => ?_) (fun h9 => absurd (by rw [jn_le (by omega) (by omega)]; omega) h9)
  refine lv_iload_n hx hb d_J3_checkFromToIndex_8c36e_22 rfl (lv_at hl 0 rfl) ?_
  exact W.iret hx hb hr (fun t ht hW => ⟨_, rfl, trivial, ht⟩) (fun q h => by cases h) d_J3_checkFromToIndex_8c36e_23
set_option maxHeartbeats 4000000 in
set_option maxRecDepth 100000 in
theorem s_pcft_r (l : Launch) (D : va_G) (cB : ClassId) (i j n tz : Nat) : Met l yJ3_checkFromToIndex_8c36e (wD yJ3_checkFromToIndex_8c36e cJ3_checkFromToIndex_8c36e 4 (some .int)) ({ frames := 1, cells := 0, slots := 0, locals := 60 }) (va_Pc [.int (jn i), .int (jn j), .int (jn n), .ref tz] (PrJ D cB [] (fun H => i ≤ j ∧ j ≤ n ∧ n ≤ 1000))) (Sri (fun r => True)) 0 0 (fun _ => False) := by
  refine Met.ofW (cc := cJ3_checkFromToIndex_8c36e) (maxL := 4) (ret := (some .int)) (by decide) rfl ?_
  intro p e s m args below meth c s₁ B hml hv
  obtain ⟨rfl, hX, hro, hJ⟩ := hv
  have hx := B.exec
  have hb := B.bytes
  have hr := B.returns
  have hts0 := atoms_spec (ws := wD yJ3_checkFromToIndex_8c36e cJ3_checkFromToIndex_8c36e 4 (some .int)) B.pre
  have hts : ∀ w ∈ TW, w.before _ s = true := fun w h => hts0 w (List.mem_cons_of_mem _ h)
  have hown : s.vm.findClass RJ3 = some m.cls := findClass_of_methodNamed B.named
  have hlocks := B.notSynchronized
  have hS : va_S (fun _ => False) s.heap s.heap [] := va_S.rf
  have hK := hJ.1
  have hl := lv_entry ([.int (jn i), .int (jn j), .int (jn n), .ref tz]) (n := 4) (Nat.le_of_ble_eq_true rfl)
  rw [lg_entry_eq]
  generalize (lg_sl ([.int (jn i), .int (jn j), .int (jn n), .ref tz]) ++ List.replicate (4 - (lg_sl ([.int (jn i), .int (jn j), .int (jn n), .ref tz])).length) Slot.unset).toArray = ls at hl ⊢
  have hl : lv_has ls 4 [(0, .int (jn i)), (1, .int (jn j)), (2, .int (jn n)), (3, .ref tz)] := hl
  obtain ⟨hi, hj, hn⟩ := hX
  refine lv_iload_n hx hb d_J3_checkFromToIndex_8c36e_0 rfl (lv_at hl 0 rfl) ?_
  refine lv_if_lt (tgt := 14) hx hb d_J3_checkFromToIndex_8c36e_1 (by decide) (fun h9 => absurd h9 (jn_nneg (by omega))) (fun _ => ?_)
  refine lv_iload_n hx hb d_J3_checkFromToIndex_8c36e_4 rfl (lv_at hl 0 rfl) ?_
  refine lv_iload_n hx hb d_J3_checkFromToIndex_8c36e_5 rfl (lv_at hl 1 rfl) ?_
  refine lv_icmp_gt (tgt := 14) hx hb d_J3_checkFromToIndex_8c36e_6 (by decide) (fun h9 => absurd h9 (by rw [jn_lt (by omega) (by omega)]; omega)) (fun _ => ?_)
  refine lv_iload_n hx hb d_J3_checkFromToIndex_8c36e_9 rfl (lv_at hl 1 rfl) ?_
  refine lv_iload_n hx hb d_J3_checkFromToIndex_8c36e_10 rfl (lv_at hl 2 rfl) ?_
  refine lv_icmp_le (tgt := 22) hx hb d_J3_checkFromToIndex_8c36e_11 (by decide) (fun _ => ?_) (fun h9 => absurd (by rw [jn_le (by omega) (by omega)]; omega) h9)
  refine lv_iload_n hx hb d_J3_checkFromToIndex_8c36e_22 rfl (lv_at hl 0 rfl) ?_
  exact W.iret hx hb hr (fun t ht hW => ⟨_, rfl, trivial, ht⟩) (fun q h => by cases h) d_J3_checkFromToIndex_8c36e_23
set_option maxHeartbeats 4000000 in
set_option maxRecDepth 100000 in
theorem s_cbbe (l : Launch) (D : va_G) (cB : ClassId) (i j n : Nat) : Met l yJ0_checkBoundsBeginEnd_23922 (wD yJ0_checkBoundsBeginEnd_23922 cJ0_checkBoundsBeginEnd_23922 3 none) ({ frames := 2, cells := 0, slots := 0, locals := 100 }) (va_Pc [.int (jn i), .int (jn j), .int (jn n)] (PrJ D cB [] (fun H => i ≤ j ∧ j ≤ n ∧ n ≤ 1000))) (Srj) 0 0 (fun _ => False) := by
  refine Met.ofW (cc := cJ0_checkBoundsBeginEnd_23922) (maxL := 3) (ret := none) (by decide) rfl ?_
  intro p e s m args below meth c s₁ B hml hv
  obtain ⟨rfl, hX, hro, hJ⟩ := hv
  have hx := B.exec
  have hb := B.bytes
  have hr := B.returns
  have hts0 := atoms_spec (ws := wD yJ0_checkBoundsBeginEnd_23922 cJ0_checkBoundsBeginEnd_23922 3 none) B.pre
  have hts : ∀ w ∈ TW, w.before _ s = true := fun w h => hts0 w (List.mem_cons_of_mem _ h)
  have hown : s.vm.findClass RJ0 = some m.cls := findClass_of_methodNamed B.named
  have hlocks := B.notSynchronized
  have hS : va_S (fun _ => False) s.heap s.heap [] := va_S.rf
  have hK := hJ.1
  have hl := lv_entry ([.int (jn i), .int (jn j), .int (jn n)]) (n := 3) (Nat.le_of_ble_eq_true rfl)
  rw [lg_entry_eq]
  generalize (lg_sl ([.int (jn i), .int (jn j), .int (jn n)]) ++ List.replicate (3 - (lg_sl ([.int (jn i), .int (jn j), .int (jn n)])).length) Slot.unset).toArray = ls at hl ⊢
  have hl : lv_has ls 3 [(0, .int (jn i)), (1, .int (jn j)), (2, .int (jn n))] := hl
  rcases hJ.2.2.1 with hZq | ⟨tz, hZq⟩
  · refine lv_iload_n hx hb d_J0_checkBoundsBeginEnd_23922_0 rfl (lv_at hl 0 rfl) ?_
    refine lv_iload_n hx hb d_J0_checkBoundsBeginEnd_23922_1 rfl (lv_at hl 1 rfl) ?_
    refine lv_iload_n hx hb d_J0_checkBoundsBeginEnd_23922_2 rfl (lv_at hl 2 rfl) ?_
    refine va_gets (v := .null) hx hb hZq hS hown (hts (.fieldLink RJ0 1053 "jdk/internal/util/Preconditions" "SIOOBE_FORMATTER" "Ljava/util/function/BiFunction;") (by decide +kernel)) (fun _ h9 => h9) d_J0_checkBoundsBeginEnd_23922_3 ?_
    refine sc_i (va_runS (As := [.int (jn i), .int (jn j), .int (jn n), .null]) (rest := []) ⟨hx, hb, hml, hown, hts⟩ (s_pcft_n l D cB i j n) (va_cwS 4 hts (g_sta (own := RJ0) (ix := 1062) (y := yJ3_checkFromToIndex_8c36e) (by decide +kernel) (by decide +kernel) (by decide +kernel) (g_con cw_J3_checkFromToIndex_8c36e)) rfl rfl rfl (by decide +kernel) ⟨(Nat.le_of_ble_eq_true rfl), (Nat.le_of_ble_eq_true rfl)⟩) ⟨pre_blind, fun U hU hW => ⟨rfl, pre_call hU hW hX ro_nil hJ⟩⟩ rfl rfl hl.1 rfl (lv_room (Nat.le_of_ble_eq_true rfl)) d_J0_checkBoundsBeginEnd_23922_6 ⟨(Nat.le_of_ble_eq_true rfl), (Nat.le_of_ble_eq_true rfl)⟩) (fun r9 hr9 => ?_)
    refine lv_pop hx hb d_J0_checkBoundsBeginEnd_23922_9 rfl ?_
    exact W.vret hx hb hr (fun t ht hW => ⟨rfl, ht⟩) (fun q h => by cases h) d_J0_checkBoundsBeginEnd_23922_10
  · refine lv_iload_n hx hb d_J0_checkBoundsBeginEnd_23922_0 rfl (lv_at hl 0 rfl) ?_
    refine lv_iload_n hx hb d_J0_checkBoundsBeginEnd_23922_1 rfl (lv_at hl 1 rfl) ?_
    refine lv_iload_n hx hb d_J0_checkBoundsBeginEnd_23922_2 rfl (lv_at hl 2 rfl) ?_
    refine va_gets (v := .ref tz) hx hb hZq hS hown (hts (.fieldLink RJ0 1053 "jdk/internal/util/Preconditions" "SIOOBE_FORMATTER" "Ljava/util/function/BiFunction;") (by decide +kernel)) (fun _ h9 => h9) d_J0_checkBoundsBeginEnd_23922_3 ?_
    refine sc_i (va_runS (As := [.int (jn i), .int (jn j), .int (jn n), .ref tz]) (rest := []) ⟨hx, hb, hml, hown, hts⟩ (s_pcft_r l D cB i j n tz) (va_cwS 4 hts (g_sta (own := RJ0) (ix := 1062) (y := yJ3_checkFromToIndex_8c36e) (by decide +kernel) (by decide +kernel) (by decide +kernel) (g_con cw_J3_checkFromToIndex_8c36e)) rfl rfl rfl (by decide +kernel) ⟨(Nat.le_of_ble_eq_true rfl), (Nat.le_of_ble_eq_true rfl)⟩) ⟨pre_blind, fun U hU hW => ⟨rfl, pre_call hU hW hX ro_nil hJ⟩⟩ rfl rfl hl.1 rfl (lv_room (Nat.le_of_ble_eq_true rfl)) d_J0_checkBoundsBeginEnd_23922_6 ⟨(Nat.le_of_ble_eq_true rfl), (Nat.le_of_ble_eq_true rfl)⟩) (fun r9 hr9 => ?_)
    refine lv_pop hx hb d_J0_checkBoundsBeginEnd_23922_9 rfl ?_
    exact W.vret hx hb hr (fun t ht hW => ⟨rfl, ht⟩) (fun q h => by cases h) d_J0_checkBoundsBeginEnd_23922_10
set_option maxHeartbeats 4000000 in
set_option maxRecDepth 100000 in
theorem s_substring2 (l : Launch) (D : va_G) (cB : ClassId) (sz : Nat) (a b i j : Nat) (t : List Int32) : Met l yJ0_substring_37a41 (wD yJ0_substring_37a41 cJ0_substring_37a41 5 (some (.object "java/lang/String"))) ({ frames := 5, cells := 2, slots := ((j - i) + 4), locals := 250 }) (va_Pc [.ref a, .int (jn i), .int (jn j)] (PrW D cB sz [.inl (a, b, t)] [] (i < j ∧ j ≤ t.length ∧ (0 < i ∨ j < t.length) ∧ t.length ≤ 1000 ∧ As t)))
    (va_Qr (fun _ : Nat => True) (fun rb ra t9 => va_P D vwCl [(ra, .inr (11, [.ref rb, .int 0, .int 0, .int 0])), (rb, .inl (cB, (sbt t i j).length, .inl (bt (sbt t i j))))] t9.heap ∧ va_D (va_A [] sz) [(ra, .inr (11, [.ref rb, .int 0, .int 0, .int 0])), (rb, .inl (cB, (sbt t i j).length, .inl (bt (sbt t i j))))]) (va_A [] sz)) (2) (((j - i) + 4)) (va_A [] sz) := by
  refine Met.ofW (cc := cJ0_substring_37a41) (maxL := 5) (ret := (some (.object "java/lang/String"))) (by decide) rfl ?_
  intro p e s m args below meth c s₁ B hml hv
  obtain ⟨rfl, ⟨hsz, hRO, hPP, hD0, hsep, hX⟩, hJ0⟩ := hv
  have hx := B.exec
  have hb := B.bytes
  have hr := B.returns
  have hts0 := atoms_spec (ws := wD yJ0_substring_37a41 cJ0_substring_37a41 5 (some (.object "java/lang/String"))) B.pre
  have hts : ∀ w ∈ TW, w.before _ s = true := fun w h => hts0 w (List.mem_cons_of_mem _ h)
  have hown : s.vm.findClass RJ0 = some m.cls := findClass_of_methodNamed B.named
  have hlocks := B.notSynchronized
  subst hsz
  have hJ := hJ0.inA hPP
  have hro := ro_inA hRO hsep
  have hD := hD0.self (sz := s.heap.size)
  have hA : ∀ x9 : Nat, s.heap.size ≤ x9 → va_A [] s.heap.size x9 := fun x9 h => Or.inr h
  have hK := hJ.1
  generalize hAe : va_A [] s.heap.size = A at hJ hro hD hA ⊢
  have hS : va_S A s.heap s.heap [] := va_S.rf
  have hP := hPP
  have hl := lv_entry ([.ref a, .int (jn i), .int (jn j)]) (n := 5) (Nat.le_of_ble_eq_true rfl)
  rw [lg_entry_eq]
  generalize (lg_sl ([.ref a, .int (jn i), .int (jn j)]) ++ List.replicate (5 - (lg_sl ([.ref a, .int (jn i), .int (jn j)])).length) Slot.unset).toArray = ls at hl ⊢
  have hl : lv_has ls 5 [(0, .ref a), (1, .int (jn i)), (2, .int (jn j))] := hl
  obtain ⟨hij, hj, hne, hn, has⟩ := hX
  have hF0 : Sf a b t (A) s s.heap := ro_at hro 0 rfl
  refine lv_aload_n hx hb d_J0_substring_37a41_0 rfl (lv_at hl 0 rfl) ?_
  refine sc_i (va_runV (As := []) (rest := []) ⟨hx, hb, hml, hown, hts⟩ (s_length l D cB a b t) (cwV 0 hts (g_vir (own := RJ0) (ix := 505) (y := yJ0_length_8abf5) (C := RJ0) (by decide +kernel) (by decide +kernel) (by decide +kernel) (by decide +kernel) (g_con cw_J0_length_8abf5)) rfl rfl rfl (by decide +kernel) ⟨(Nat.le_of_ble_eq_true rfl), (Nat.le_of_ble_eq_true rfl)⟩) ⟨pre_blind, hF0.rec hS, fun U hU hW => ⟨rfl, pre_call hU hW hn (ro_cons (x := (.inl (a, b, t))) (RoF.at (x := (.inl (a, b, t))) hF0 hS) ro_nil) (hJ.keep hS)⟩⟩ rfl rfl hl.1 rfl (lv_room (Nat.le_of_ble_eq_true rfl)) d_J0_substring_37a41_1 ⟨(by show _ ≤ 2; omega), (by show _ ≤ ((j - i) + 4); omega)⟩) (fun r9 hr9 => ?_)
  obtain rfl : r9 = jn t.length := hr9
  refine lv_istore_n (lv' := [(3, .int (jn t.length)), (0, .ref a), (1, .int (jn i)), (2, .int (jn j))]) hx hb d_J0_substring_37a41_4 rfl hl (by decide) rfl (fun ls hl => ?_)
  refine lv_iload_n hx hb d_J0_substring_37a41_5 rfl (lv_at hl 2 rfl) ?_
  refine lv_iload_n hx hb d_J0_substring_37a41_6 rfl (lv_at hl 3 rfl) ?_
  refine lv_iload_n hx hb d_J0_substring_37a41_7 rfl (lv_at hl 0 rfl) ?_
  refine sc_v (va_runS (As := [.int (jn i), .int (jn j), .int (jn t.length)]) (rest := []) ⟨hx, hb, hml, hown, hts⟩ (s_cbbe l D cB i j t.length) (va_cwS 3 hts (g_sta (own := RJ0) (ix := 521) (y := yJ0_checkBoundsBeginEnd_23922) (by decide +kernel) (by decide +kernel) (by decide +kernel) (g_con cw_J0_checkBoundsBeginEnd_23922)) rfl rfl rfl (by decide +kernel) ⟨(Nat.le_of_ble_eq_true rfl), (Nat.le_of_ble_eq_true rfl)⟩) ⟨pre_blind, fun U hU hW => ⟨rfl, pre_call hU hW ⟨by omega, hj, hn⟩ ro_nil (hJ.keep hS)⟩⟩ rfl rfl hl.1 rfl (lv_room (Nat.le_of_ble_eq_true rfl)) d_J0_substring_37a41_8 ⟨(by show _ ≤ 2; omega), (by show _ ≤ ((j - i) + 4); omega)⟩) ?_
  refine lv_iload_n hx hb d_J0_substring_37a41_11 rfl (lv_at hl 2 rfl) ?_
  refine lv_if_ne (tgt := 22) hx hb d_J0_substring_37a41_12 (by decide) (fun h9 => ?_) (fun h9 => ?_)
  · refine lv_iload_n hx hb d_J0_substring_37a41_22 rfl (lv_at hl 3 rfl) ?_
    refine lv_iload_n hx hb d_J0_substring_37a41_23 rfl (lv_at hl 2 rfl) ?_
    refine lv_isub hx hb d_J0_substring_37a41_24 ?_
    rw [jn_sub (by omega)]
    refine lv_istore (lv' := [(4, .int (jn (j - i))), (3, .int (jn t.length)), (0, .ref a), (1, .int (jn i)), (2, .int (jn j))]) hx hb d_J0_substring_37a41_25 hl (by decide) rfl (fun ls hl => ?_)
    refine lv_aload_n hx hb d_J0_substring_37a41_27 rfl (lv_at hl 2 rfl) ?_
    refine sc_i (va_runV (As := []) (rest := []) ⟨hx, hb, hml, hown, hts⟩ (s_isLatin1 l D cB a b t) (cwV 0 hts (g_vir (own := RJ0) (ix := 492) (y := yJ0_isLatin1_aae02) (C := RJ0) (by decide +kernel) (by decide +kernel) (by decide +kernel) (by decide +kernel) (g_con cw_J0_isLatin1_aae02)) rfl rfl rfl (by decide +kernel) ⟨(Nat.le_of_ble_eq_true rfl), (Nat.le_of_ble_eq_true rfl)⟩) ⟨pre_blind, hF0.rec hS, fun U hU hW => ⟨rfl, pre_call hU hW hn (ro_cons (x := (.inl (a, b, t))) (RoF.at (x := (.inl (a, b, t))) hF0 hS) ro_nil) (hJ.keep hS)⟩⟩ rfl rfl hl.1 rfl (lv_room (Nat.le_of_ble_eq_true rfl)) d_J0_substring_37a41_28 ⟨(by show _ ≤ 2; omega), (by show _ ≤ ((j - i) + 4); omega)⟩) (fun r9 hr9 => ?_)
    obtain rfl : r9 = 1 := hr9
    refine lv_if_eq (tgt := 47) hx hb d_J0_substring_37a41_31 (by decide) (fun h9 => absurd h9 (by decide)) (fun _ => ?_)
    refine lv_aload_n hx hb d_J0_substring_37a41_34 rfl (lv_at hl 2 rfl) ?_
    refine vk_getf (v := .ref b) hx hb hF0.2.2.1 hS hown (hts (.fieldLink RJ0 9 "java/lang/String" "value" "[B") (by decide +kernel)) (fun _ h9 => h9) d_J0_substring_37a41_35 ?_
    refine lv_iload_n hx hb d_J0_substring_37a41_38 rfl (lv_at hl 3 rfl) ?_
    refine lv_iload hx hb d_J0_substring_37a41_39 (lv_at hl 0 rfl) ?_
    have hFc := va_free (wc := []) hD hS hA [] rfl
    refine va_callr (va_runS (As := [.ref b, .int (jn i), .int (jn (j - i))]) (rest := []) ⟨hx, hb, hml, hown, hts⟩ (s_newString l D cB s.heap.size b i (j - i) t.length (bt t)) (va_cwS 3 hts (g_sta (own := RJ0) (ix := 685) (y := yJ1_newString_b4f7a) (by decide +kernel) (by decide +kernel) (by decide +kernel) (g_con cw_J1_newString_b4f7a)) rfl rfl rfl (by decide +kernel) ⟨(Nat.le_of_ble_eq_true rfl), (Nat.le_of_ble_eq_true rfl)⟩) ⟨prw_blind, fun U hU hW => ⟨rfl, prw_call hU hW (ro_cons (x := (.inr (b, t.length, (bt t)))) (RoF.at (x := (.inr (b, t.length, (bt t)))) hF0.2.2.2 hS) ro_nil) P_0 D_0 rsep_0 ⟨by omega, by omega, by omega, by omega, as_fB has⟩ (hJ.keep hS)⟩⟩ rfl rfl hl.1 rfl (lv_room (Nat.le_of_ble_eq_true rfl)) d_J0_substring_37a41_41 ⟨by show _ ≤ 2; omega, by show _ ≤ ((j - i) + 4); omega⟩) hS (fun q _ h => hFc q h) hFc (fun u20 r20 t9 H1 locs ht hvm hw hB hz1 hk1 hS => ?_)
    obtain ⟨hP1, hD1⟩ := hB
    rw [ht] at hP1
    obtain ⟨hP, hD⟩ := va_join (wr := []) (w1 := [(r20, .inr (11, [.ref u20, .int 0, .int 0, .int 0])), (u20, .inl (cB, (j - i), .inl (fun k => bt t (i + k))))]) hP hD [] [] rfl rfl (by decide) (by decide) hk1 hFc hP1 hD1
    clear hP1 hD1 hk1 hz1 hFc
    generalize H1 = H at hP hS ⊢
    have hP : va_P D vwCl [(r20, .inr (11, [.ref u20, .int 0, .int 0, .int 0])), (u20, .inl (cB, (j - i), .inl (fun k => bt t (i + k))))] _ := hP
    have hD : va_D A [(r20, .inr (11, [.ref u20, .int 0, .int 0, .int 0])), (u20, .inl (cB, (j - i), .inl (fun k => bt t (i + k))))] := hD
    refine lv_goto (tgt := 57) hx hb d_J0_substring_37a41_44 (by decide) ?_
    have hP : va_P D vwCl [(r20, .inr (11, [.ref u20, .int 0, .int 0, .int 0])), (u20, .inl (cB, (sbt t i j).length, .inl (bt (sbt t i j))))] H := by
      rw [sbt_len hj]
      exact va_as hP (q0 := 1) rfl (fun k hk => (sbt_at hj hk).symm)
    have hD : va_D A [(r20, .inr (11, [.ref u20, .int 0, .int 0, .int 0])), (u20, .inl (cB, (sbt t i j).length, .inl (bt (sbt t i j))))] := by
      rw [sbt_len hj]
      exact hD.set (p := 1) (e := .inl (cB, (j - i), .inl (bt (sbt t i j)))) rfl
    refine W.widen (k := 2) (n := ((j - i) + 4)) (by omega) (by omega) ?_
    exact W.aret hx hb hr (Or.inl ⟨_, rfl⟩) (Or.inr ⟨_, rfl⟩) (fun t ht hW => ⟨⟨u20, r20, rfl, trivial, by rw [ht]; exact hP, hD⟩, hS.F ht⟩) hS.2.2 d_J0_substring_37a41_57
  · have hi0 : i = 0 := jn_0 (by omega) h9
    refine lv_iload_n hx hb d_J0_substring_37a41_15 rfl (lv_at hl 3 rfl) ?_
    refine lv_iload_n hx hb d_J0_substring_37a41_16 rfl (lv_at hl 0 rfl) ?_
    refine lv_icmp_ne (tgt := 22) hx hb d_J0_substring_37a41_17 (by decide) (fun _ => ?_) (fun h9 => absurd h9 (fun e9 => by rw [jn_inj (by omega) (by omega)] at e9; omega))
    refine lv_iload_n hx hb d_J0_substring_37a41_22 rfl (lv_at hl 3 rfl) ?_
    refine lv_iload_n hx hb d_J0_substring_37a41_23 rfl (lv_at hl 2 rfl) ?_
    refine lv_isub hx hb d_J0_substring_37a41_24 ?_
    rw [jn_sub (by omega)]
    refine lv_istore (lv' := [(4, .int (jn (j - i))), (3, .int (jn t.length)), (0, .ref a), (1, .int (jn i)), (2, .int (jn j))]) hx hb d_J0_substring_37a41_25 hl (by decide) rfl (fun ls hl => ?_)
    refine lv_aload_n hx hb d_J0_substring_37a41_27 rfl (lv_at hl 2 rfl) ?_
    refine sc_i (va_runV (As := []) (rest := []) ⟨hx, hb, hml, hown, hts⟩ (s_isLatin1 l D cB a b t) (cwV 0 hts (g_vir (own := RJ0) (ix := 492) (y := yJ0_isLatin1_aae02) (C := RJ0) (by decide +kernel) (by decide +kernel) (by decide +kernel) (by decide +kernel) (g_con cw_J0_isLatin1_aae02)) rfl rfl rfl (by decide +kernel) ⟨(Nat.le_of_ble_eq_true rfl), (Nat.le_of_ble_eq_true rfl)⟩) ⟨pre_blind, hF0.rec hS, fun U hU hW => ⟨rfl, pre_call hU hW hn (ro_cons (x := (.inl (a, b, t))) (RoF.at (x := (.inl (a, b, t))) hF0 hS) ro_nil) (hJ.keep hS)⟩⟩ rfl rfl hl.1 rfl (lv_room (Nat.le_of_ble_eq_true rfl)) d_J0_substring_37a41_28 ⟨(by show _ ≤ 2; omega), (by show _ ≤ ((j - i) + 4); omega)⟩) (fun r9 hr9 => ?_)
    obtain rfl : r9 = 1 := hr9
    refine lv_if_eq (tgt := 47) hx hb d_J0_substring_37a41_31 (by decide) (fun h9 => absurd h9 (by decide)) (fun _ => ?_)
    refine lv_aload_n hx hb d_J0_substring_37a41_34 rfl (lv_at hl 2 rfl) ?_
    refine vk_getf (v := .ref b) hx hb hF0.2.2.1 hS hown (hts (.fieldLink RJ0 9 "java/lang/String" "value" "[B") (by decide +kernel)) (fun _ h9 => h9) d_J0_substring_37a41_35 ?_
    refine lv_iload_n hx hb d_J0_substring_37a41_38 rfl (lv_at hl 3 rfl) ?_
    refine lv_iload hx hb d_J0_substring_37a41_39 (lv_at hl 0 rfl) ?_
    have hFc := va_free (wc := []) hD hS hA [] rfl
    refine va_callr (va_runS (As := [.ref b, .int (jn i), .int (jn (j - i))]) (rest := []) ⟨hx, hb, hml, hown, hts⟩ (s_newString l D cB s.heap.size b i (j - i) t.length (bt t)) (va_cwS 3 hts (g_sta (own := RJ0) (ix := 685) (y := yJ1_newString_b4f7a) (by decide +kernel) (by decide +kernel) (by decide +kernel) (g_con cw_J1_newString_b4f7a)) rfl rfl rfl (by decide +kernel) ⟨(Nat.le_of_ble_eq_true rfl), (Nat.le_of_ble_eq_true rfl)⟩) ⟨prw_blind, fun U hU hW => ⟨rfl, prw_call hU hW (ro_cons (x := (.inr (b, t.length, (bt t)))) (RoF.at (x := (.inr (b, t.length, (bt t)))) hF0.2.2.2 hS) ro_nil) P_0 D_0 rsep_0 ⟨by omega, by omega, by omega, by omega, as_fB has⟩ (hJ.keep hS)⟩⟩ rfl rfl hl.1 rfl (lv_room (Nat.le_of_ble_eq_true rfl)) d_J0_substring_37a41_41 ⟨by show _ ≤ 2; omega, by show _ ≤ ((j - i) + 4); omega⟩) hS (fun q _ h => hFc q h) hFc (fun u20 r20 t9 H1 locs ht hvm hw hB hz1 hk1 hS => ?_)
    obtain ⟨hP1, hD1⟩ := hB
    rw [ht] at hP1
    obtain ⟨hP, hD⟩ := va_join (wr := []) (w1 := [(r20, .inr (11, [.ref u20, .int 0, .int 0, .int 0])), (u20, .inl (cB, (j - i), .inl (fun k => bt t (i + k))))]) hP hD [] [] rfl rfl (by decide) (by decide) hk1 hFc hP1 hD1
    clear hP1 hD1 hk1 hz1 hFc
    generalize H1 = H at hP hS ⊢
    have hP : va_P D vwCl [(r20, .inr (11, [.ref u20, .int 0, .int 0, .int 0])), (u20, .inl (cB, (j - i), .inl (fun k => bt t (i + k))))] _ := hP
    have hD : va_D A [(r20, .inr (11, [.ref u20, .int 0, .int 0, .int 0])), (u20, .inl (cB, (j - i), .inl (fun k => bt t (i + k))))] := hD
    refine lv_goto (tgt := 57) hx hb d_J0_substring_37a41_44 (by decide) ?_
    have hP : va_P D vwCl [(r20, .inr (11, [.ref u20, .int 0, .int 0, .int 0])), (u20, .inl (cB, (sbt t i j).length, .inl (bt (sbt t i j))))] H := by
      rw [sbt_len hj]
      exact va_as hP (q0 := 1) rfl (fun k hk => (sbt_at hj hk).symm)
    have hD : va_D A [(r20, .inr (11, [.ref u20, .int 0, .int 0, .int 0])), (u20, .inl (cB, (sbt t i j).length, .inl (bt (sbt t i j))))] := by
      rw [sbt_len hj]
      exact hD.set (p := 1) (e := .inl (cB, (j - i), .inl (bt (sbt t i j)))) rfl
    refine W.widen (k := 2) (n := ((j - i) + 4)) (by omega) (by omega) ?_
    exact W.aret hx hb hr (Or.inl ⟨_, rfl⟩) (Or.inr ⟨_, rfl⟩) (fun t ht hW => ⟨⟨u20, r20, rfl, trivial, by rw [ht]; exact hP, hD⟩, hS.F ht⟩) hS.2.2 d_J0_substring_37a41_57
set_option maxHeartbeats 4000000 in
set_option maxRecDepth 100000 in
theorem s_substring1 (l : Launch) (D : va_G) (cB : ClassId) (sz : Nat) (a b i : Nat) (t : List Int32) : Met l yJ0_substring_b52d3 (wD yJ0_substring_b52d3 cJ0_substring_b52d3 2 (some (.object "java/lang/String"))) ({ frames := 6, cells := 2, slots := ((t.length - i) + 4), locals := 300 }) (va_Pc [.ref a, .int (jn i)] (PrW D cB sz [.inl (a, b, t)] [] (0 < i ∧ i < t.length ∧ t.length ≤ 1000 ∧ As t)))
    (va_Qr (fun _ : Nat => True) (fun rb ra t9 => va_P D vwCl [(ra, .inr (11, [.ref rb, .int 0, .int 0, .int 0])), (rb, .inl (cB, (sbt t i t.length).length, .inl (bt (sbt t i t.length))))] t9.heap ∧ va_D (va_A [] sz) [(ra, .inr (11, [.ref rb, .int 0, .int 0, .int 0])), (rb, .inl (cB, (sbt t i t.length).length, .inl (bt (sbt t i t.length))))]) (va_A [] sz)) (2) (((t.length - i) + 4)) (va_A [] sz) := by
  refine Met.ofW (cc := cJ0_substring_b52d3) (maxL := 2) (ret := (some (.object "java/lang/String"))) (by decide) rfl ?_
  intro p e s m args below meth c s₁ B hml hv
  obtain ⟨rfl, ⟨hsz, hRO, hPP, hD0, hsep, hX⟩, hJ0⟩ := hv
  have hx := B.exec
  have hb := B.bytes
  have hr := B.returns
  have hts0 := atoms_spec (ws := wD yJ0_substring_b52d3 cJ0_substring_b52d3 2 (some (.object "java/lang/String"))) B.pre
  have hts : ∀ w ∈ TW, w.before _ s = true := fun w h => hts0 w (List.mem_cons_of_mem _ h)
  have hown : s.vm.findClass RJ0 = some m.cls := findClass_of_methodNamed B.named
  have hlocks := B.notSynchronized
  subst hsz
  have hJ := hJ0.inA hPP
  have hro := ro_inA hRO hsep
  have hD := hD0.self (sz := s.heap.size)
  have hA : ∀ x9 : Nat, s.heap.size ≤ x9 → va_A [] s.heap.size x9 := fun x9 h => Or.inr h
  have hK := hJ.1
  generalize hAe : va_A [] s.heap.size = A at hJ hro hD hA ⊢
  have hS : va_S A s.heap s.heap [] := va_S.rf
  have hP := hPP
  have hl := lv_entry ([.ref a, .int (jn i)]) (n := 2) (Nat.le_of_ble_eq_true rfl)
  rw [lg_entry_eq]
  generalize (lg_sl ([.ref a, .int (jn i)]) ++ List.replicate (2 - (lg_sl ([.ref a, .int (jn i)])).length) Slot.unset).toArray = ls at hl ⊢
  have hl : lv_has ls 2 [(0, .ref a), (1, .int (jn i))] := hl
  obtain ⟨hi0, hi, hn, has⟩ := hX
  have hF0 : Sf a b t (A) s s.heap := ro_at hro 0 rfl
  refine lv_aload_n hx hb d_J0_substring_b52d3_0 rfl (lv_at hl 0 rfl) ?_
  refine lv_iload_n hx hb d_J0_substring_b52d3_1 rfl (lv_at hl 1 rfl) ?_
  refine lv_aload_n hx hb d_J0_substring_b52d3_2 rfl (lv_at hl 0 rfl) ?_
  refine sc_i (va_runV (As := []) (rest := [.int (jn i), .ref a]) ⟨hx, hb, hml, hown, hts⟩ (s_length l D cB a b t) (cwV 0 hts (g_vir (own := RJ0) (ix := 505) (y := yJ0_length_8abf5) (C := RJ0) (by decide +kernel) (by decide +kernel) (by decide +kernel) (by decide +kernel) (g_con cw_J0_length_8abf5)) rfl rfl rfl (by decide +kernel) ⟨(Nat.le_of_ble_eq_true rfl), (Nat.le_of_ble_eq_true rfl)⟩) ⟨pre_blind, hF0.rec hS, fun U hU hW => ⟨rfl, pre_call hU hW hn (ro_cons (x := (.inl (a, b, t))) (RoF.at (x := (.inl (a, b, t))) hF0 hS) ro_nil) (hJ.keep hS)⟩⟩ rfl rfl hl.1 rfl (lv_room (Nat.le_of_ble_eq_true rfl)) d_J0_substring_b52d3_3 ⟨(by show _ ≤ 2; omega), (by show _ ≤ ((t.length - i) + 4); omega)⟩) (fun r9 hr9 => ?_)
  obtain rfl : r9 = jn t.length := hr9
  have hFc := va_free (wc := []) hD hS hA [] rfl
  refine va_callr (va_runV (As := [.int (jn i), .int (jn t.length)]) (rest := []) ⟨hx, hb, hml, hown, hts⟩ (s_substring2 l D cB s.heap.size a b i t.length t) (cwV 2 hts (g_vir (own := RJ0) (ix := 681) (y := yJ0_substring_37a41) (C := RJ0) (by decide +kernel) (by decide +kernel) (by decide +kernel) (by decide +kernel) (g_con cw_J0_substring_37a41)) rfl rfl rfl (by decide +kernel) ⟨(Nat.le_of_ble_eq_true rfl), (Nat.le_of_ble_eq_true rfl)⟩) ⟨prw_blind, hF0.rec hS, fun U hU hW => ⟨rfl, prw_call hU hW (ro_cons (x := (.inl (a, b, t))) (RoF.at (x := (.inl (a, b, t))) hF0 hS) ro_nil) P_0 D_0 rsep_0 ⟨hi, Nat.le_refl _, Or.inl hi0, hn, has⟩ (hJ.keep hS)⟩⟩ rfl rfl hl.1 rfl (lv_room (Nat.le_of_ble_eq_true rfl)) d_J0_substring_b52d3_6 ⟨by show _ ≤ 2; omega, by show _ ≤ ((t.length - i) + 4); omega⟩) hS (fun q _ h => hFc q h) hFc (fun u20 r20 t9 H1 locs ht hvm hw hB hz1 hk1 hS => ?_)
  obtain ⟨hP1, hD1⟩ := hB
  rw [ht] at hP1
  obtain ⟨hP, hD⟩ := va_join (wr := []) (w1 := [(r20, .inr (11, [.ref u20, .int 0, .int 0, .int 0])), (u20, .inl (cB, (sbt t i t.length).length, .inl (bt (sbt t i t.length))))]) hP hD [] [] rfl rfl (by decide) (by decide) hk1 hFc hP1 hD1
  clear hP1 hD1 hk1 hz1 hFc
  generalize H1 = H at hP hS ⊢
  have hP : va_P D vwCl [(r20, .inr (11, [.ref u20, .int 0, .int 0, .int 0])), (u20, .inl (cB, (sbt t i t.length).length, .inl (bt (sbt t i t.length))))] _ := hP
  have hD : va_D A [(r20, .inr (11, [.ref u20, .int 0, .int 0, .int 0])), (u20, .inl (cB, (sbt t i t.length).length, .inl (bt (sbt t i t.length))))] := hD
  refine W.widen (k := 2) (n := ((t.length - i) + 4)) (by omega) (by omega) ?_
  exact W.aret hx hb hr (Or.inl ⟨_, rfl⟩) (Or.inr ⟨_, rfl⟩) (fun t ht hW => ⟨⟨u20, r20, rfl, trivial, by rw [ht]; exact hP, hD⟩, hS.F ht⟩) hS.2.2 d_J0_substring_b52d3_9
