/-! strings, what only reads: where a sign stands (laid by wip/p41/gen/jdk2.py) -/
def fiX (t : List Int32) (c : Int32) : Nat → Nat → Int32
  | 0, _ => jz 1
  | m + 1, i => if bt t i = c then jn i else fiX t c m (i + 1)
theorem jn_le {a b : Nat} (ha : a < 2147483648) (hb : b < 2147483648) : (jn a ≤ jn b) = (a ≤ b) := by
  apply propext
  rw [Int32.le_iff_toInt_le, jn_toInt ha, jn_toInt hb]
  omega
theorem jn_le255 {n : Nat} (h : n < 128) : ¬ 255 < jn n := by
  intro z
  have := Int32.lt_iff_toInt_lt.mp z
  rw [jn_toInt (by omega)] at this
  have e : (255 : Int32).toInt = 255 := rfl
  omega
theorem i2b_j {n : Nat} (h : n < 128) : (jn n).toInt8.toInt32 = jn n := by
  have : ∀ k, k < 128 → (jn k).toInt8.toInt32 = jn k := by decide +kernel
  exact this n h
set_option maxRecDepth 100000 in
theorem cw_J0_indexOf_7cf53 : Jvm.Cond.code yJ0_indexOf_7cf53 cJ0_indexOf_7cf53 3 (some .int) ∈ TW := TW_mem (List.mem_append_right _ (List.mem_append_right _ (List.mem_append_right _ (List.mem_append_right _ (List.mem_append_right _ (List.mem_append_left _ (List.mem_of_getElem? (l := tables_1_5) (i := 96) rfl))))))) rfl
set_option maxRecDepth 100000 in
theorem cw_J0_length_8abf5 : Jvm.Cond.code yJ0_length_8abf5 cJ0_length_8abf5 1 (some .int) ∈ TW := TW_mem (List.mem_append_right _ (List.mem_append_right _ (List.mem_append_right _ (List.mem_append_right _ (List.mem_append_left _ (List.mem_of_getElem? (l := tables_1_4) (i := 183) rfl)))))) rfl
set_option maxRecDepth 100000 in
theorem cw_J1_canEncode_9a6ad : Jvm.Cond.code yJ1_canEncode_9a6ad cJ1_canEncode_9a6ad 1 (some .boolean) ∈ TW := TW_mem (List.mem_append_right _ (List.mem_append_right _ (List.mem_append_right _ (List.mem_append_right _ (List.mem_append_right _ (List.mem_append_left _ (List.mem_of_getElem? (l := tables_1_5) (i := 103) rfl))))))) rfl
set_option maxRecDepth 100000 in
theorem cw_J1_indexOf_4cfef : Jvm.Cond.code yJ1_indexOf_4cfef cJ1_indexOf_4cfef 4 (some .int) ∈ TW := TW_mem (List.mem_append_right _ (List.mem_append_right _ (List.mem_append_right _ (List.mem_append_right _ (List.mem_append_right _ (List.mem_append_left _ (List.mem_of_getElem? (l := tables_1_5) (i := 100) rfl))))))) rfl
set_option maxRecDepth 100000 in
theorem cw_J1_indexOfChar_4cfef : Jvm.Cond.code yJ1_indexOfChar_4cfef cJ1_indexOfChar_4cfef 6 (some .int) ∈ TW := TW_mem (List.mem_append_right _ (List.mem_append_right _ (List.mem_append_right _ (List.mem_append_right _ (List.mem_append_right _ (List.mem_append_left _ (List.mem_of_getElem? (l := tables_1_5) (i := 108) rfl))))))) rfl
theorem d_J1_canEncode_9a6ad_0 : decode cJ1_canEncode_9a6ad 0 = .ok (.iload_n 0, 1) := by decide +kernel
theorem d_J1_canEncode_9a6ad_1 : decode cJ1_canEncode_9a6ad 1 = .ok (.ifCond .lt (14), 3) := by decide +kernel
theorem d_J1_canEncode_9a6ad_4 : decode cJ1_canEncode_9a6ad 4 = .ok (.iload_n 0, 1) := by decide +kernel
theorem d_J1_canEncode_9a6ad_5 : decode cJ1_canEncode_9a6ad 5 = .ok (.sipush (255), 3) := by decide +kernel
theorem d_J1_canEncode_9a6ad_8 : decode cJ1_canEncode_9a6ad 8 = .ok (.if_icmp .gt (7), 3) := by decide +kernel
theorem d_J1_canEncode_9a6ad_11 : decode cJ1_canEncode_9a6ad 11 = .ok (.iconst 1, 1) := by decide +kernel
theorem d_J1_canEncode_9a6ad_12 : decode cJ1_canEncode_9a6ad 12 = .ok (.goto (4), 3) := by decide +kernel
theorem d_J1_canEncode_9a6ad_16 : decode cJ1_canEncode_9a6ad 16 = .ok (.ireturn, 1) := by decide +kernel
theorem d_J1_indexOfChar_4cfef_0 : decode cJ1_indexOfChar_4cfef 0 = .ok (.iload_n 1, 1) := by decide +kernel
theorem d_J1_indexOfChar_4cfef_1 : decode cJ1_indexOfChar_4cfef 1 = .ok (.i2b, 1) := by decide +kernel
theorem d_J1_indexOfChar_4cfef_2 : decode cJ1_indexOfChar_4cfef 2 = .ok (.istore 4, 2) := by decide +kernel
theorem d_J1_indexOfChar_4cfef_4 : decode cJ1_indexOfChar_4cfef 4 = .ok (.iload_n 2, 1) := by decide +kernel
theorem d_J1_indexOfChar_4cfef_5 : decode cJ1_indexOfChar_4cfef 5 = .ok (.istore 5, 2) := by decide +kernel
theorem d_J1_indexOfChar_4cfef_7 : decode cJ1_indexOfChar_4cfef 7 = .ok (.iload 5, 2) := by decide +kernel
theorem d_J1_indexOfChar_4cfef_9 : decode cJ1_indexOfChar_4cfef 9 = .ok (.iload_n 3, 1) := by decide +kernel
theorem d_J1_indexOfChar_4cfef_10 : decode cJ1_indexOfChar_4cfef 10 = .ok (.if_icmp .ge (21), 3) := by decide +kernel
theorem d_J1_indexOfChar_4cfef_13 : decode cJ1_indexOfChar_4cfef 13 = .ok (.aload_n 0, 1) := by decide +kernel
theorem d_J1_indexOfChar_4cfef_14 : decode cJ1_indexOfChar_4cfef 14 = .ok (.iload 5, 2) := by decide +kernel
theorem d_J1_indexOfChar_4cfef_16 : decode cJ1_indexOfChar_4cfef 16 = .ok (.baload, 1) := by decide +kernel
theorem d_J1_indexOfChar_4cfef_17 : decode cJ1_indexOfChar_4cfef 17 = .ok (.iload 4, 2) := by decide +kernel
theorem d_J1_indexOfChar_4cfef_19 : decode cJ1_indexOfChar_4cfef 19 = .ok (.if_icmp .ne (6), 3) := by decide +kernel
theorem d_J1_indexOfChar_4cfef_22 : decode cJ1_indexOfChar_4cfef 22 = .ok (.iload 5, 2) := by decide +kernel
theorem d_J1_indexOfChar_4cfef_24 : decode cJ1_indexOfChar_4cfef 24 = .ok (.ireturn, 1) := by decide +kernel
theorem d_J1_indexOfChar_4cfef_25 : decode cJ1_indexOfChar_4cfef 25 = .ok (.iinc 5 (1), 3) := by decide +kernel
theorem d_J1_indexOfChar_4cfef_28 : decode cJ1_indexOfChar_4cfef 28 = .ok (.goto (-21), 3) := by decide +kernel
theorem d_J1_indexOfChar_4cfef_31 : decode cJ1_indexOfChar_4cfef 31 = .ok (.iconst (-1), 1) := by decide +kernel
theorem d_J1_indexOfChar_4cfef_32 : decode cJ1_indexOfChar_4cfef 32 = .ok (.ireturn, 1) := by decide +kernel
theorem d_J1_indexOf_4cfef_0 : decode cJ1_indexOf_4cfef 0 = .ok (.iload_n 1, 1) := by decide +kernel
theorem d_J1_indexOf_4cfef_1 : decode cJ1_indexOf_4cfef 1 = .ok (.invokestatic 88, 3) := by decide +kernel
theorem d_J1_indexOf_4cfef_4 : decode cJ1_indexOf_4cfef 4 = .ok (.ifCond .ne (5), 3) := by decide +kernel
theorem d_J1_indexOf_4cfef_9 : decode cJ1_indexOf_4cfef 9 = .ok (.iload_n 2, 1) := by decide +kernel
theorem d_J1_indexOf_4cfef_10 : decode cJ1_indexOf_4cfef 10 = .ok (.iconst 0, 1) := by decide +kernel
theorem d_J1_indexOf_4cfef_11 : decode cJ1_indexOf_4cfef 11 = .ok (.invokestatic 92, 3) := by decide +kernel
theorem d_J1_indexOf_4cfef_14 : decode cJ1_indexOf_4cfef 14 = .ok (.istore_n 2, 1) := by decide +kernel
theorem d_J1_indexOf_4cfef_15 : decode cJ1_indexOf_4cfef 15 = .ok (.iload_n 3, 1) := by decide +kernel
theorem d_J1_indexOf_4cfef_16 : decode cJ1_indexOf_4cfef 16 = .ok (.aload_n 0, 1) := by decide +kernel
theorem d_J1_indexOf_4cfef_17 : decode cJ1_indexOf_4cfef 17 = .ok (.arraylength, 1) := by decide +kernel
theorem d_J1_indexOf_4cfef_18 : decode cJ1_indexOf_4cfef 18 = .ok (.invokestatic 38, 3) := by decide +kernel
theorem d_J1_indexOf_4cfef_21 : decode cJ1_indexOf_4cfef 21 = .ok (.istore_n 3, 1) := by decide +kernel
theorem d_J1_indexOf_4cfef_22 : decode cJ1_indexOf_4cfef 22 = .ok (.iload_n 2, 1) := by decide +kernel
theorem d_J1_indexOf_4cfef_23 : decode cJ1_indexOf_4cfef 23 = .ok (.iload_n 3, 1) := by decide +kernel
theorem d_J1_indexOf_4cfef_24 : decode cJ1_indexOf_4cfef 24 = .ok (.if_icmp .lt (5), 3) := by decide +kernel
theorem d_J1_indexOf_4cfef_27 : decode cJ1_indexOf_4cfef 27 = .ok (.iconst (-1), 1) := by decide +kernel
theorem d_J1_indexOf_4cfef_28 : decode cJ1_indexOf_4cfef 28 = .ok (.ireturn, 1) := by decide +kernel
theorem d_J1_indexOf_4cfef_29 : decode cJ1_indexOf_4cfef 29 = .ok (.aload_n 0, 1) := by decide +kernel
theorem d_J1_indexOf_4cfef_30 : decode cJ1_indexOf_4cfef 30 = .ok (.iload_n 1, 1) := by decide +kernel
theorem d_J1_indexOf_4cfef_31 : decode cJ1_indexOf_4cfef 31 = .ok (.iload_n 2, 1) := by decide +kernel
theorem d_J1_indexOf_4cfef_32 : decode cJ1_indexOf_4cfef 32 = .ok (.iload_n 3, 1) := by decide +kernel
theorem d_J1_indexOf_4cfef_33 : decode cJ1_indexOf_4cfef 33 = .ok (.invokestatic 95, 3) := by decide +kernel
theorem d_J1_indexOf_4cfef_36 : decode cJ1_indexOf_4cfef 36 = .ok (.ireturn, 1) := by decide +kernel
theorem d_J0_indexOf_7cf53_0 : decode cJ0_indexOf_7cf53 0 = .ok (.aload_n 0, 1) := by decide +kernel
theorem d_J0_indexOf_7cf53_1 : decode cJ0_indexOf_7cf53 1 = .ok (.invokevirtual 492, 3) := by decide +kernel
theorem d_J0_indexOf_7cf53_4 : decode cJ0_indexOf_7cf53 4 = .ok (.ifCond .eq (19), 3) := by decide +kernel
theorem d_J0_indexOf_7cf53_7 : decode cJ0_indexOf_7cf53 7 = .ok (.aload_n 0, 1) := by decide +kernel
theorem d_J0_indexOf_7cf53_8 : decode cJ0_indexOf_7cf53 8 = .ok (.getfield 9, 3) := by decide +kernel
theorem d_J0_indexOf_7cf53_11 : decode cJ0_indexOf_7cf53 11 = .ok (.iload_n 1, 1) := by decide +kernel
theorem d_J0_indexOf_7cf53_12 : decode cJ0_indexOf_7cf53 12 = .ok (.iload_n 2, 1) := by decide +kernel
theorem d_J0_indexOf_7cf53_13 : decode cJ0_indexOf_7cf53 13 = .ok (.aload_n 0, 1) := by decide +kernel
theorem d_J0_indexOf_7cf53_14 : decode cJ0_indexOf_7cf53 14 = .ok (.invokevirtual 505, 3) := by decide +kernel
theorem d_J0_indexOf_7cf53_17 : decode cJ0_indexOf_7cf53 17 = .ok (.invokestatic 637, 3) := by decide +kernel
theorem d_J0_indexOf_7cf53_20 : decode cJ0_indexOf_7cf53 20 = .ok (.goto (16), 3) := by decide +kernel
theorem d_J0_indexOf_7cf53_36 : decode cJ0_indexOf_7cf53 36 = .ok (.ireturn, 1) := by decide +kernel
theorem d_J0_indexOf_0f7a4_0 : decode cJ0_indexOf_0f7a4 0 = .ok (.aload_n 0, 1) := by decide +kernel
theorem d_J0_indexOf_0f7a4_1 : decode cJ0_indexOf_0f7a4 1 = .ok (.iload_n 1, 1) := by decide +kernel
theorem d_J0_indexOf_0f7a4_2 : decode cJ0_indexOf_0f7a4 2 = .ok (.iconst 0, 1) := by decide +kernel
theorem d_J0_indexOf_0f7a4_3 : decode cJ0_indexOf_0f7a4 3 = .ok (.invokevirtual 633, 3) := by decide +kernel
theorem d_J0_indexOf_0f7a4_6 : decode cJ0_indexOf_0f7a4 6 = .ok (.ireturn, 1) := by decide +kernel
set_option maxHeartbeats 4000000 in
set_option maxRecDepth 100000 in
theorem s_canEncode (l : Launch) (D : va_G) (cB : ClassId) (ch : Nat) : Met l yJ1_canEncode_9a6ad (wD yJ1_canEncode_9a6ad cJ1_canEncode_9a6ad 1 (some .boolean)) ({ frames := 1, cells := 0, slots := 0, locals := 60 }) (va_Pc [.int (jn ch)] (PrJ D cB [] (fun H => ch < 128))) (Sri (fun r => r = 1)) 0 0 (fun _ => False) := by
  refine Met.ofW (cc := cJ1_canEncode_9a6ad) (maxL := 1) (ret := (some .boolean)) (by decide) rfl ?_
  intro p e s m args below meth c s₁ B hml hv
  obtain ⟨rfl, hX, hro, hJ⟩ := hv
  have hx := B.exec
  have hb := B.bytes
  have hr := B.returns
  have hts0 := atoms_spec (ws := wD yJ1_canEncode_9a6ad cJ1_canEncode_9a6ad 1 (some .boolean)) B.pre
  have hts : ∀ w ∈ TW, w.before _ s = true := fun w h => hts0 w (List.mem_cons_of_mem _ h)
  have hown : s.vm.findClass RJ1 = some m.cls := findClass_of_methodNamed B.named
  have hlocks := B.notSynchronized
  have hS : va_S (fun _ => False) s.heap s.heap [] := va_S.rf
  have hK := hJ.1
  have hl := lv_entry ([.int (jn ch)]) (n := 1) (Nat.le_of_ble_eq_true rfl)
  rw [lg_entry_eq]
  generalize (lg_sl ([.int (jn ch)]) ++ List.replicate (1 - (lg_sl ([.int (jn ch)])).length) Slot.unset).toArray = ls at hl ⊢
  have hl : lv_has ls 1 [(0, .int (jn ch))] := hl
  refine lv_iload_n hx hb d_J1_canEncode_9a6ad_0 rfl (lv_at hl 0 rfl) ?_
  refine lv_if_lt (tgt := 15) hx hb d_J1_canEncode_9a6ad_1 (by decide) (fun h9 => absurd h9 (jn_nneg (by omega))) (fun _ => ?_)
  refine lv_iload_n hx hb d_J1_canEncode_9a6ad_4 rfl (lv_at hl 0 rfl) ?_
  refine lv_sipush (v := (255)) hx hb d_J1_canEncode_9a6ad_5 (by decide) ?_
  refine lv_icmp_gt (tgt := 15) hx hb d_J1_canEncode_9a6ad_8 (by decide) (fun h9 => absurd h9 (jn_le255 hX)) (fun _ => ?_)
  refine lv_iconst (v := 1) hx hb d_J1_canEncode_9a6ad_11 (by decide) ?_
  refine lv_goto (tgt := 16) hx hb d_J1_canEncode_9a6ad_12 (by decide) ?_
  exact W.zret hx hb hr rfl (fun t ht hW => ⟨_, rfl, rfl, ht⟩) (fun q h => by cases h) d_J1_canEncode_9a6ad_16
set_option maxHeartbeats 4000000 in
set_option maxRecDepth 100000 in
theorem s_l1indexOfChar (l : Launch) (D : va_G) (cB : ClassId) (b ch f : Nat) (t : List Int32) : Met l yJ1_indexOfChar_4cfef (wD yJ1_indexOfChar_4cfef cJ1_indexOfChar_4cfef 6 (some .int)) ({ frames := 1, cells := 0, slots := 0, locals := 60 }) (va_Pc [.ref b, .int (jn ch), .int (jn f), .int (jn t.length)] (PrJ D cB [.inr (b, t.length, bt t)] (fun H => ch < 128 ∧ f ≤ t.length ∧ t.length ≤ 1000))) (Sri (fun r => r = fiX t (jn ch) (t.length - f) f)) 0 0 (fun _ => False) := by
  refine Met.ofW (cc := cJ1_indexOfChar_4cfef) (maxL := 6) (ret := (some .int)) (by decide) rfl ?_
  intro p e s m args below meth c s₁ B hml hv
  obtain ⟨rfl, hX, hro, hJ⟩ := hv
  have hx := B.exec
  have hb := B.bytes
  have hr := B.returns
  have hts0 := atoms_spec (ws := wD yJ1_indexOfChar_4cfef cJ1_indexOfChar_4cfef 6 (some .int)) B.pre
  have hts : ∀ w ∈ TW, w.before _ s = true := fun w h => hts0 w (List.mem_cons_of_mem _ h)
  have hown : s.vm.findClass RJ1 = some m.cls := findClass_of_methodNamed B.named
  have hlocks := B.notSynchronized
  have hS : va_S (fun _ => False) s.heap s.heap [] := va_S.rf
  have hK := hJ.1
  have hl := lv_entry ([.ref b, .int (jn ch), .int (jn f), .int (jn t.length)]) (n := 6) (Nat.le_of_ble_eq_true rfl)
  rw [lg_entry_eq]
  generalize (lg_sl ([.ref b, .int (jn ch), .int (jn f), .int (jn t.length)]) ++ List.replicate (6 - (lg_sl ([.ref b, .int (jn ch), .int (jn f), .int (jn t.length)])).length) Slot.unset).toArray = ls at hl ⊢
  have hl : lv_has ls 6 [(0, .ref b), (1, .int (jn ch)), (2, .int (jn f)), (3, .int (jn t.length))] := hl
  have hF0 : Tf b t.length (bt t) (fun _ => False) s s.heap := ro_at hro 0 rfl
  obtain ⟨hc, hf0, hn⟩ := hX
  refine lv_iload_n hx hb d_J1_indexOfChar_4cfef_0 rfl (lv_at hl 1 rfl) ?_
  refine lv_i2b (v := (jn ch).toInt8.toInt32) hx hb d_J1_indexOfChar_4cfef_1 rfl ?_
  rw [i2b_j hc]
  refine lv_istore (lv' := [(4, .int (jn ch)), (0, .ref b), (1, .int (jn ch)), (2, .int (jn f)), (3, .int (jn t.length))]) hx hb d_J1_indexOfChar_4cfef_2 hl (by decide) rfl (fun ls hl => ?_)
  refine lv_iload_n hx hb d_J1_indexOfChar_4cfef_4 rfl (lv_at hl 3 rfl) ?_
  refine lv_istore (lv' := [(5, .int (jn f)), (4, .int (jn ch)), (0, .ref b), (1, .int (jn ch)), (2, .int (jn f)), (3, .int (jn t.length))]) hx hb d_J1_indexOfChar_4cfef_5 hl (by decide) rfl (fun ls hl => ?_)
  revert hl
  intro hl0
  have hl : lv_has ls 6 [(5, .int (jn f)), (4, .int (jn ch)), (0, .ref b), (3, .int (jn t.length))] := lv_sub hl0 [0, 1, 2, 5] rfl
  clear hl0
  have hf : f + (t.length - f) = t.length := by omega
  generalize hv : fiX t (jn ch) (t.length - f) f = v
  generalize t.length - f = m' at hv hf
  obtain ⟨i, hi⟩ : ∃ i, f = i := ⟨f, rfl⟩
  rw [hi] at hv hf hl
  clear hi hf0
  induction m' generalizing i ls with
  | zero =>
    refine lv_iload hx hb d_J1_indexOfChar_4cfef_7 (lv_at hl 0 rfl) ?_
    refine lv_iload_n hx hb d_J1_indexOfChar_4cfef_9 rfl (lv_at hl 3 rfl) ?_
    refine lv_icmp_ge (tgt := 31) hx hb d_J1_indexOfChar_4cfef_10 (by decide) (fun _ => ?_) (fun h9 => absurd (by rw [jn_le (by omega) (by omega)]; omega) h9)
    refine lv_iconst (v := (-1)) hx hb d_J1_indexOfChar_4cfef_31 (by decide) ?_
    exact W.iret hx hb hr (fun t ht hW => ⟨_, rfl, hv, ht⟩) (fun q h => by cases h) d_J1_indexOfChar_4cfef_32
  | succ m' ih =>
    refine lv_iload hx hb d_J1_indexOfChar_4cfef_7 (lv_at hl 0 rfl) ?_
    refine lv_iload_n hx hb d_J1_indexOfChar_4cfef_9 rfl (lv_at hl 3 rfl) ?_
    refine lv_icmp_ge (tgt := 31) hx hb d_J1_indexOfChar_4cfef_10 (by decide) (fun h9 => absurd h9 (by rw [jn_le (by omega) (by omega)]; omega)) (fun _ => ?_)
    refine lv_aload_n hx hb d_J1_indexOfChar_4cfef_13 rfl (lv_at hl 2 rfl) ?_
    refine lv_iload hx hb d_J1_indexOfChar_4cfef_14 (lv_at hl 0 rfl) ?_
    refine va_tb (v := .int ((bt t) i)) hx hb hF0 hS (vin_j (by omega) (by omega)) (by show Value.int ((bt t) (jn i).toNatClampNeg) = _; rw [jn_clamp (by omega)]) d_J1_indexOfChar_4cfef_16 ?_
    refine lv_iload hx hb d_J1_indexOfChar_4cfef_17 (lv_at hl 1 rfl) ?_
    rw [fiX] at hv
    refine lv_icmp_ne (tgt := 25) hx hb d_J1_indexOfChar_4cfef_19 (by decide) (fun h9 => ?_) (fun h9 => ?_)
    · rw [if_neg h9] at hv
      refine lv_iinc (v := ((jn i) + 1)) (lv' := [(5, .int ((jn i) + 1)), (4, .int (jn ch)), (0, .ref b), (3, .int (jn t.length))]) hx hb d_J1_indexOfChar_4cfef_25 hl (k := 0) rfl rfl (by decide) rfl (fun ls hl => ?_)
      have hl : lv_has ls 6 [(5, .int (jn (i + 1))), (4, .int (jn ch)), (0, .ref b), (3, .int (jn t.length))] := by rw [← jn_add]; exact hl
      refine lv_goto (tgt := 7) hx hb d_J1_indexOfChar_4cfef_28 (by decide) ?_
      apply ih (i := i + 1) <;> first | assumption | omega
    · rw [if_pos h9] at hv
      refine lv_iload hx hb d_J1_indexOfChar_4cfef_22 (lv_at hl 0 rfl) ?_
      exact W.iret hx hb hr (fun t ht hW => ⟨_, rfl, hv, ht⟩) (fun q h => by cases h) d_J1_indexOfChar_4cfef_24
set_option maxHeartbeats 4000000 in
set_option maxRecDepth 100000 in
theorem s_l1indexOf (l : Launch) (D : va_G) (cB : ClassId) (b ch : Nat) (t : List Int32) : Met l yJ1_indexOf_4cfef (wD yJ1_indexOf_4cfef cJ1_indexOf_4cfef 4 (some .int)) ({ frames := 2, cells := 0, slots := 0, locals := 100 }) (va_Pc [.ref b, .int (jn ch), .int 0, .int (jn t.length)] (PrJ D cB [.inr (b, t.length, bt t)] (fun H => ch < 128 ∧ t.length ≤ 1000))) (Sri (fun r => r = fiX t (jn ch) t.length 0)) 0 0 (fun _ => False) := by
  refine Met.ofW (cc := cJ1_indexOf_4cfef) (maxL := 4) (ret := (some .int)) (by decide) rfl ?_
  intro p e s m args below meth c s₁ B hml hv
  obtain ⟨rfl, hX, hro, hJ⟩ := hv
  have hx := B.exec
  have hb := B.bytes
  have hr := B.returns
  have hts0 := atoms_spec (ws := wD yJ1_indexOf_4cfef cJ1_indexOf_4cfef 4 (some .int)) B.pre
  have hts : ∀ w ∈ TW, w.before _ s = true := fun w h => hts0 w (List.mem_cons_of_mem _ h)
  have hown : s.vm.findClass RJ1 = some m.cls := findClass_of_methodNamed B.named
  have hlocks := B.notSynchronized
  have hS : va_S (fun _ => False) s.heap s.heap [] := va_S.rf
  have hK := hJ.1
  have hl := lv_entry ([.ref b, .int (jn ch), .int 0, .int (jn t.length)]) (n := 4) (Nat.le_of_ble_eq_true rfl)
  rw [lg_entry_eq]
  generalize (lg_sl ([.ref b, .int (jn ch), .int 0, .int (jn t.length)]) ++ List.replicate (4 - (lg_sl ([.ref b, .int (jn ch), .int 0, .int (jn t.length)])).length) Slot.unset).toArray = ls at hl ⊢
  have hl : lv_has ls 4 [(0, .ref b), (1, .int (jn ch)), (2, .int 0), (3, .int (jn t.length))] := hl
  have hF0 : Tf b t.length (bt t) (fun _ => False) s s.heap := ro_at hro 0 rfl
  obtain ⟨hc, hn⟩ := hX
  refine lv_iload_n hx hb d_J1_indexOf_4cfef_0 rfl (lv_at hl 1 rfl) ?_
  refine sc_i (va_runS (As := [.int (jn ch)]) (rest := []) ⟨hx, hb, hml, hown, hts⟩ (s_canEncode l D cB ch) (va_cwS 1 hts (g_sta (own := RJ1) (ix := 88) (y := yJ1_canEncode_9a6ad) (by decide +kernel) (by decide +kernel) (by decide +kernel) (g_con cw_J1_canEncode_9a6ad)) rfl rfl rfl (by decide +kernel) ⟨(Nat.le_of_ble_eq_true rfl), (Nat.le_of_ble_eq_true rfl)⟩) ⟨pre_blind, fun U hU hW => ⟨rfl, pre_call hU hW hc ro_nil hJ⟩⟩ rfl rfl hl.1 rfl (lv_room (Nat.le_of_ble_eq_true rfl)) d_J1_indexOf_4cfef_1 ⟨(Nat.le_of_ble_eq_true rfl), (Nat.le_of_ble_eq_true rfl)⟩) (fun r9 hr9 => ?_)
  obtain rfl : r9 = 1 := hr9
  refine lv_if_ne (tgt := 9) hx hb d_J1_indexOf_4cfef_4 (by decide) (fun _ => ?_) (fun h9 => absurd h9 (by decide))
  refine lv_iload_n hx hb d_J1_indexOf_4cfef_9 rfl (lv_at hl 2 rfl) ?_
  refine lv_iconst (v := 0) hx hb d_J1_indexOf_4cfef_10 (by decide) ?_
  refine va_mmax hx hb (by rw [hml]; exact hl.1.symm) hown (hts (.methodLink RJ1 92 Lib.Math.max.name) (by decide +kernel)) (hts (.static Lib.Math.max.name) (by decide +kernel)) (hts (.initialized "java/lang/Math") (by decide +kernel)) (hts (.code Lib.Math.max.name Lib.Math.max.code 2 (some .int)) (by decide +kernel)) (Nat.le_of_ble_eq_true rfl) (Nat.le_of_ble_eq_true rfl) (Nat.le_of_ble_eq_true rfl) (Nat.le_of_ble_eq_true rfl) d_J1_indexOf_4cfef_11 ?_
  rw [if_neg (show ¬ (0 : Int32) < 0 by decide)]
  refine lv_istore_n (lv' := [(2, .int 0), (0, .ref b), (1, .int (jn ch)), (3, .int (jn t.length))]) hx hb d_J1_indexOf_4cfef_14 rfl hl (by decide) rfl (fun ls hl => ?_)
  refine lv_iload_n hx hb d_J1_indexOf_4cfef_15 rfl (lv_at hl 3 rfl) ?_
  refine lv_aload_n hx hb d_J1_indexOf_4cfef_16 rfl (lv_at hl 1 rfl) ?_
  refine va_tlen hx hb hF0 hS (ofNat_jn (by omega)) d_J1_indexOf_4cfef_17 ?_
  refine va_mmin hx hb (by rw [hml]; exact hl.1.symm) hown (hts (.methodLink RJ1 38 Lib.Math.min.name) (by decide +kernel)) (hts (.static Lib.Math.min.name) (by decide +kernel)) (hts (.initialized "java/lang/Math") (by decide +kernel)) (hts (.code Lib.Math.min.name Lib.Math.min.code 2 (some .int)) (by decide +kernel)) (Nat.le_of_ble_eq_true rfl) (Nat.le_of_ble_eq_true rfl) (Nat.le_of_ble_eq_true rfl) (Nat.le_of_ble_eq_true rfl) d_J1_indexOf_4cfef_18 ?_
  rw [if_neg (show ¬ jn t.length < jn t.length by rw [jn_lt (by omega) (by omega)]; omega)]
  refine lv_istore_n (lv' := [(3, .int (jn t.length)), (2, .int 0), (0, .ref b), (1, .int (jn ch))]) hx hb d_J1_indexOf_4cfef_21 rfl hl (by decide) rfl (fun ls hl => ?_)
  refine lv_iload_n hx hb d_J1_indexOf_4cfef_22 rfl (lv_at hl 1 rfl) ?_
  refine lv_iload_n hx hb d_J1_indexOf_4cfef_23 rfl (lv_at hl 0 rfl) ?_
  refine lv_icmp_lt (tgt := 29) hx hb d_J1_indexOf_4cfef_24 (by decide) (fun h9 => ?_) (fun h9 => ?_)
  · refine lv_aload_n hx hb d_J1_indexOf_4cfef_29 rfl (lv_at hl 2 rfl) ?_
    refine lv_iload_n hx hb d_J1_indexOf_4cfef_30 rfl (lv_at hl 3 rfl) ?_
    refine lv_iload_n hx hb d_J1_indexOf_4cfef_31 rfl (lv_at hl 1 rfl) ?_
    refine lv_iload_n hx hb d_J1_indexOf_4cfef_32 rfl (lv_at hl 0 rfl) ?_
    refine W.eq (g2 := F0 m 33 ls [.int (jn t.length), .int (jn 0), .int (jn ch), .ref b]) rfl ?_
    refine sc_i (va_runS (As := [.ref b, .int (jn ch), .int (jn 0), .int (jn t.length)]) (rest := []) ⟨hx, hb, hml, hown, hts⟩ (s_l1indexOfChar l D cB b ch 0 t) (va_cwS 4 hts (g_sta (own := RJ1) (ix := 95) (y := yJ1_indexOfChar_4cfef) (by decide +kernel) (by decide +kernel) (by decide +kernel) (g_con cw_J1_indexOfChar_4cfef)) rfl rfl rfl (by decide +kernel) ⟨(Nat.le_of_ble_eq_true rfl), (Nat.le_of_ble_eq_true rfl)⟩) ⟨pre_blind, fun U hU hW => ⟨rfl, pre_call hU hW ⟨hc, Nat.zero_le _, hn⟩ (ro_cons (x := (.inr (b, t.length, (bt t)))) hF0 ro_nil) hJ⟩⟩ rfl rfl hl.1 rfl (lv_room (Nat.le_of_ble_eq_true rfl)) d_J1_indexOf_4cfef_33 ⟨(Nat.le_of_ble_eq_true rfl), (Nat.le_of_ble_eq_true rfl)⟩) (fun r9 hr9 => ?_)
    exact W.iret hx hb hr (fun t ht hW => ⟨_, rfl, (by rw [hr9, Nat.sub_zero]), ht⟩) (fun q h => by cases h) d_J1_indexOf_4cfef_36
  · have h8 : t.length = 0 := by
      have h7 := h9
      rw [show (0 : Int32) = jn 0 from rfl, jn_lt (by omega) (by omega)] at h7
      omega
    refine lv_iconst (v := (-1)) hx hb d_J1_indexOf_4cfef_27 (by decide) ?_
    exact W.iret hx hb hr (fun t ht hW => ⟨_, rfl, (by rw [h8]; rfl), ht⟩) (fun q h => by cases h) d_J1_indexOf_4cfef_28
set_option maxHeartbeats 4000000 in
set_option maxRecDepth 100000 in
theorem s_indexOf2 (l : Launch) (D : va_G) (cB : ClassId) (a b ch : Nat) (t : List Int32) : Met l yJ0_indexOf_7cf53 (wD yJ0_indexOf_7cf53 cJ0_indexOf_7cf53 3 (some .int)) ({ frames := 3, cells := 0, slots := 0, locals := 150 }) (va_Pc [.ref a, .int (jn ch), .int 0] (PrJ D cB [.inl (a, b, t)] (fun H => ch < 128 ∧ t.length ≤ 1000))) (Sri (fun r => r = fiX t (jn ch) t.length 0)) 0 0 (fun _ => False) := by
  refine Met.ofW (cc := cJ0_indexOf_7cf53) (maxL := 3) (ret := (some .int)) (by decide) rfl ?_
  intro p e s m args below meth c s₁ B hml hv
  obtain ⟨rfl, hX, hro, hJ⟩ := hv
  have hx := B.exec
  have hb := B.bytes
  have hr := B.returns
  have hts0 := atoms_spec (ws := wD yJ0_indexOf_7cf53 cJ0_indexOf_7cf53 3 (some .int)) B.pre
  have hts : ∀ w ∈ TW, w.before _ s = true := fun w h => hts0 w (List.mem_cons_of_mem _ h)
  have hown : s.vm.findClass RJ0 = some m.cls := findClass_of_methodNamed B.named
  have hlocks := B.notSynchronized
  have hS : va_S (fun _ => False) s.heap s.heap [] := va_S.rf
  have hK := hJ.1
  have hl := lv_entry ([.ref a, .int (jn ch), .int 0]) (n := 3) (Nat.le_of_ble_eq_true rfl)
  rw [lg_entry_eq]
  generalize (lg_sl ([.ref a, .int (jn ch), .int 0]) ++ List.replicate (3 - (lg_sl ([.ref a, .int (jn ch), .int 0])).length) Slot.unset).toArray = ls at hl ⊢
  have hl : lv_has ls 3 [(0, .ref a), (1, .int (jn ch)), (2, .int 0)] := hl
  have hF0 : Sf a b t (fun _ => False) s s.heap := ro_at hro 0 rfl
  obtain ⟨hc, hn⟩ := hX
  refine lv_aload_n hx hb d_J0_indexOf_7cf53_0 rfl (lv_at hl 0 rfl) ?_
  refine sc_i (va_runV (As := []) (rest := []) ⟨hx, hb, hml, hown, hts⟩ (s_isLatin1 l D cB a b t) (cwV 0 hts (g_vir (own := RJ0) (ix := 492) (y := yJ0_isLatin1_aae02) (C := RJ0) (by decide +kernel) (by decide +kernel) (by decide +kernel) (by decide +kernel) (g_con cw_J0_isLatin1_aae02)) rfl rfl rfl (by decide +kernel) ⟨(Nat.le_of_ble_eq_true rfl), (Nat.le_of_ble_eq_true rfl)⟩) ⟨pre_blind, hF0.rec hS, fun U hU hW => ⟨rfl, pre_call hU hW hn (ro_cons (x := (.inl (a, b, t))) hF0 ro_nil) hJ⟩⟩ rfl rfl hl.1 rfl (lv_room (Nat.le_of_ble_eq_true rfl)) d_J0_indexOf_7cf53_1 ⟨(Nat.le_of_ble_eq_true rfl), (Nat.le_of_ble_eq_true rfl)⟩) (fun r9 hr9 => ?_)
  obtain rfl : r9 = 1 := hr9
  refine lv_if_eq (tgt := 23) hx hb d_J0_indexOf_7cf53_4 (by decide) (fun h9 => absurd h9 (by decide)) (fun _ => ?_)
  refine lv_aload_n hx hb d_J0_indexOf_7cf53_7 rfl (lv_at hl 0 rfl) ?_
  refine vk_getf (v := .ref b) hx hb hF0.2.2.1 hS hown (hts (.fieldLink RJ0 9 "java/lang/String" "value" "[B") (by decide +kernel)) (fun _ h9 => h9) d_J0_indexOf_7cf53_8 ?_
  refine lv_iload_n hx hb d_J0_indexOf_7cf53_11 rfl (lv_at hl 1 rfl) ?_
  refine lv_iload_n hx hb d_J0_indexOf_7cf53_12 rfl (lv_at hl 2 rfl) ?_
  refine lv_aload_n hx hb d_J0_indexOf_7cf53_13 rfl (lv_at hl 0 rfl) ?_
  refine sc_i (va_runV (As := []) (rest := [.int 0, .int (jn ch), .ref b]) ⟨hx, hb, hml, hown, hts⟩ (s_length l D cB a b t) (cwV 0 hts (g_vir (own := RJ0) (ix := 505) (y := yJ0_length_8abf5) (C := RJ0) (by decide +kernel) (by decide +kernel) (by decide +kernel) (by decide +kernel) (g_con cw_J0_length_8abf5)) rfl rfl rfl (by decide +kernel) ⟨(Nat.le_of_ble_eq_true rfl), (Nat.le_of_ble_eq_true rfl)⟩) ⟨pre_blind, hF0.rec hS, fun U hU hW => ⟨rfl, pre_call hU hW hn (ro_cons (x := (.inl (a, b, t))) hF0 ro_nil) hJ⟩⟩ rfl rfl hl.1 rfl (lv_room (Nat.le_of_ble_eq_true rfl)) d_J0_indexOf_7cf53_14 ⟨(Nat.le_of_ble_eq_true rfl), (Nat.le_of_ble_eq_true rfl)⟩) (fun r9 hr9 => ?_)
  obtain rfl : r9 = jn t.length := hr9
  refine sc_i (va_runS (As := [.ref b, .int (jn ch), .int 0, .int (jn t.length)]) (rest := []) ⟨hx, hb, hml, hown, hts⟩ (s_l1indexOf l D cB b ch t) (va_cwS 4 hts (g_sta (own := RJ0) (ix := 637) (y := yJ1_indexOf_4cfef) (by decide +kernel) (by decide +kernel) (by decide +kernel) (g_con cw_J1_indexOf_4cfef)) rfl rfl rfl (by decide +kernel) ⟨(Nat.le_of_ble_eq_true rfl), (Nat.le_of_ble_eq_true rfl)⟩) ⟨pre_blind, fun U hU hW => ⟨rfl, pre_call hU hW ⟨hc, hn⟩ (ro_cons (x := (.inr (b, t.length, (bt t)))) hF0.2.2.2 ro_nil) hJ⟩⟩ rfl rfl hl.1 rfl (lv_room (Nat.le_of_ble_eq_true rfl)) d_J0_indexOf_7cf53_17 ⟨(Nat.le_of_ble_eq_true rfl), (Nat.le_of_ble_eq_true rfl)⟩) (fun r9 hr9 => ?_)
  refine lv_goto (tgt := 36) hx hb d_J0_indexOf_7cf53_20 (by decide) ?_
  exact W.iret hx hb hr (fun t ht hW => ⟨_, rfl, hr9, ht⟩) (fun q h => by cases h) d_J0_indexOf_7cf53_36
set_option maxHeartbeats 4000000 in
set_option maxRecDepth 100000 in
theorem s_indexOf (l : Launch) (D : va_G) (cB : ClassId) (a b ch : Nat) (t : List Int32) : Met l yJ0_indexOf_0f7a4 (wD yJ0_indexOf_0f7a4 cJ0_indexOf_0f7a4 2 (some .int)) ({ frames := 4, cells := 0, slots := 0, locals := 200 }) (va_Pc [.ref a, .int (jn ch)] (PrJ D cB [.inl (a, b, t)] (fun H => ch < 128 ∧ t.length ≤ 1000))) (Sri (fun r => r = fiX t (jn ch) t.length 0)) 0 0 (fun _ => False) := by
  refine Met.ofW (cc := cJ0_indexOf_0f7a4) (maxL := 2) (ret := (some .int)) (by decide) rfl ?_
  intro p e s m args below meth c s₁ B hml hv
  obtain ⟨rfl, hX, hro, hJ⟩ := hv
  have hx := B.exec
  have hb := B.bytes
  have hr := B.returns
  have hts0 := atoms_spec (ws := wD yJ0_indexOf_0f7a4 cJ0_indexOf_0f7a4 2 (some .int)) B.pre
  have hts : ∀ w ∈ TW, w.before _ s = true := fun w h => hts0 w (List.mem_cons_of_mem _ h)
  have hown : s.vm.findClass RJ0 = some m.cls := findClass_of_methodNamed B.named
  have hlocks := B.notSynchronized
  have hS : va_S (fun _ => False) s.heap s.heap [] := va_S.rf
  have hK := hJ.1
  have hl := lv_entry ([.ref a, .int (jn ch)]) (n := 2) (Nat.le_of_ble_eq_true rfl)
  rw [lg_entry_eq]
  generalize (lg_sl ([.ref a, .int (jn ch)]) ++ List.replicate (2 - (lg_sl ([.ref a, .int (jn ch)])).length) Slot.unset).toArray = ls at hl ⊢
  have hl : lv_has ls 2 [(0, .ref a), (1, .int (jn ch))] := hl
  have hF0 : Sf a b t (fun _ => False) s s.heap := ro_at hro 0 rfl
  obtain ⟨hc, hn⟩ := hX
  refine lv_aload_n hx hb d_J0_indexOf_0f7a4_0 rfl (lv_at hl 0 rfl) ?_
  refine lv_iload_n hx hb d_J0_indexOf_0f7a4_1 rfl (lv_at hl 1 rfl) ?_
  refine lv_iconst (v := 0) hx hb d_J0_indexOf_0f7a4_2 (by decide) ?_
  refine sc_i (va_runV (As := [.int (jn ch), .int 0]) (rest := []) ⟨hx, hb, hml, hown, hts⟩ (s_indexOf2 l D cB a b ch t) (cwV 2 hts (g_vir (own := RJ0) (ix := 633) (y := yJ0_indexOf_7cf53) (C := RJ0) (by decide +kernel) (by decide +kernel) (by decide +kernel) (by decide +kernel) (g_con cw_J0_indexOf_7cf53)) rfl rfl rfl (by decide +kernel) ⟨(Nat.le_of_ble_eq_true rfl), (Nat.le_of_ble_eq_true rfl)⟩) ⟨pre_blind, hF0.rec hS, fun U hU hW => ⟨rfl, pre_call hU hW ⟨hc, hn⟩ (ro_cons (x := (.inl (a, b, t))) hF0 ro_nil) hJ⟩⟩ rfl rfl hl.1 rfl (lv_room (Nat.le_of_ble_eq_true rfl)) d_J0_indexOf_0f7a4_3 ⟨(Nat.le_of_ble_eq_true rfl), (Nat.le_of_ble_eq_true rfl)⟩) (fun r9 hr9 => ?_)
  exact W.iret hx hb hr (fun t ht hW => ⟨_, rfl, hr9, ht⟩) (fun q h => by cases h) d_J0_indexOf_0f7a4_6
