def fldB (z : PFT × Option Nat) : Bool := match z with
  | (q, i) => match vwCl[q.2.2.1]? with
    | some (_, T, N) => decide (q.2.2.2 < N) && (match i with
      | some i => decide (lw_tbl[i]? = some (Jvm.Cond.fieldLink (nmF q.1) q.2.1 (T q.2.2.2).1 (T q.2.2.2).2.1 (T q.2.2.2).2.2.1))
      | none => NFl.any (fun z => decide ((nmF q.1, q.2.1, (T q.2.2.2).1, (T q.2.2.2).2.1, (T q.2.2.2).2.2.1, z.2.2.2.2.2) = z)))
    | none => false
def mtB (z : MT × Nat × Nat × Nat × Nat) : Bool := match z with
  | (mt, i1, i2, i3, i4) => decide (nmF mt.1 = mt.2.1.cls) && (plainName mt.2.1.cls && (decide (mt.2.1.cls ≠ "java/lang/invoke/MethodHandle") && (decide (mt.2.1.cls ≠ "java/lang/invoke/VarHandle") && (decide ((parseMethodDescriptor mt.2.1.desc).map (fun d => d.parameters.length) = some mt.2.2.2.2.2.2.1) && (decide (mt.2.2.2.1 ≤ 22) && (decide (lw_tbl[i2]? = some (Jvm.Cond.initialized mt.2.1.cls)) && (if mt.2.2.2.2.2.1 = true then decide (lw_tbl[i3]? = some (Jvm.Cond.static mt.2.1)) else decide (lw_tbl[i3]? = some (Jvm.Cond.instanceMethod mt.2.1)) && decide (lw_tbl[i4]? = some (Jvm.Cond.selects mt.2.1.cls mt.2.1 mt.2.1)))))))))
def mthB (z : PMT × Option Nat) : Bool := match z with
  | (q, i) => if q.2.2.1 = 0 then q.2.2.2.1 && (q.2.2.2.2.1 == 5 && (q.2.2.2.2.2.1 == 0 && (decide (Jvm.Cond.methodLink (nmF q.1) q.2.1 arraycopyName ∈ lw_tbl) && (decide (Jvm.Cond.native arraycopyName ∈ lw_tbl) && (decide (Jvm.Cond.static arraycopyName ∈ lw_tbl) && decide (Jvm.Cond.initialized "java/lang/System" ∈ lw_tbl))))))
    else if q.2.2.1 = 1 then q.2.2.2.1 && (q.2.2.2.2.1 == 2 && (q.2.2.2.2.2.1 == 1 && (decide (Jvm.Cond.methodLink (nmF q.1) q.2.1 Lib.Math.max.name ∈ lw_tbl) && (decide (Jvm.Cond.static Lib.Math.max.name ∈ lw_tbl) && (decide (Jvm.Cond.initialized "java/lang/Math" ∈ lw_tbl) && decide (Jvm.Cond.code Lib.Math.max.name Lib.Math.max.code 2 (some .int) ∈ lw_tbl))))))
    else if q.2.2.1 = 2 then q.2.2.2.1 && (q.2.2.2.2.1 == 2 && (q.2.2.2.2.2.1 == 1 && (decide (Jvm.Cond.methodLink (nmF q.1) q.2.1 Lib.Math.min.name ∈ lw_tbl) && (decide (Jvm.Cond.static Lib.Math.min.name ∈ lw_tbl) && (decide (Jvm.Cond.initialized "java/lang/Math" ∈ lw_tbl) && decide (Jvm.Cond.code Lib.Math.min.name Lib.Math.min.code 2 (some .int) ∈ lw_tbl))))))
    else match GG q.2.2.1 with
      | some mt => decide (q.2.2.2.1 = mt.2.2.2.2.2.1) && (decide (q.2.2.2.2.2.1 = rk1 mt.2.2.2.2.1) && ((match i with
        | some i => decide (lw_tbl[i]? = some (Jvm.Cond.methodLink (nmF q.1) q.2.1 mt.2.1))
        | none => NMl.any (fun z => decide ((nmF q.1, q.2.1, mt.2.1, z.2.2.2) = z))) && (if mt.2.2.2.2.2.1 = true then decide (q.2.2.2.2.1 = mt.2.2.2.2.2.2.1) else decide (q.2.2.2.2.1 = mt.2.2.2.2.2.2.1 + 1) && (match vwCl[q.2.2.2.2.2.2]? with
        | some (C, _, _) => decide (C = mt.2.1.cls)
        | none => false))))
      | none => false
def cstB (z : PKT × Nat) : Bool := match z with
  | (q, i) => if q.2.2.1 = true then decide (lw_tbl[i]? = some (Jvm.Cond.constantLong (nmF q.1) q.2.1 (Int64.ofInt q.2.2.2))) else decide (lw_tbl[i]? = some (Jvm.Cond.constant (nmF q.1) q.2.1 (Int32.ofInt q.2.2.2)))
theorem TW_mem {w : Jvm.Cond} (h : w ∈ lw_tbl) (hg : goodWord w = true) : w ∈ TW := List.mem_filter.mpr ⟨h, hg⟩
theorem TW_at {w : Jvm.Cond} {i : Nat} (h : lw_tbl[i]? = some w) (hg : goodWord w = true) : w ∈ TW := TW_mem (List.mem_of_getElem? h) hg
theorem TW_good : ∀ w ∈ TW, goodWord w = true := fun w h => (List.mem_filter.mp h).2
theorem pfk_0 : ((pfc.drop 0).take 60).all fldB = true := by decide +kernel
theorem pfk_60 : ((pfc.drop 60).take 60).all fldB = true := by decide +kernel
theorem pfk_len : pfc.length ≤ 120 := by decide +kernel
theorem pfk : ∀ q ∈ pfc, fldB q = true := by
  intro q hq
  obtain ⟨i, hi⟩ := List.getElem?_of_mem hq
  have hl : i < pfc.length := (List.getElem?_eq_some_iff.mp hi).1
  have h0 := pfk_len
  by_cases c0 : i < 60
  · exact List.all_eq_true.mp pfk_0 q (List.mem_of_getElem? (i := i - 0) (by rw [List.getElem?_take, if_pos (by omega), List.getElem?_drop]; rw [show 0 + (i - 0) = i by omega]; exact hi))
  by_cases c60 : i < 120
  · exact List.all_eq_true.mp pfk_60 q (List.mem_of_getElem? (i := i - 60) (by rw [List.getElem?_take, if_pos (by omega), List.getElem?_drop]; rw [show 60 + (i - 60) = i by omega]; exact hi))
  omega
theorem pmk_0 : ((pmc.drop 0).take 60).all mthB = true := by decide +kernel
theorem pmk_60 : ((pmc.drop 60).take 60).all mthB = true := by decide +kernel
theorem pmk_120 : ((pmc.drop 120).take 60).all mthB = true := by decide +kernel
theorem pmk_180 : ((pmc.drop 180).take 60).all mthB = true := by decide +kernel
theorem pmk_len : pmc.length ≤ 240 := by decide +kernel
theorem pmk : ∀ q ∈ pmc, mthB q = true := by
  intro q hq
  obtain ⟨i, hi⟩ := List.getElem?_of_mem hq
  have hl : i < pmc.length := (List.getElem?_eq_some_iff.mp hi).1
  have h0 := pmk_len
  by_cases c0 : i < 60
  · exact List.all_eq_true.mp pmk_0 q (List.mem_of_getElem? (i := i - 0) (by rw [List.getElem?_take, if_pos (by omega), List.getElem?_drop]; rw [show 0 + (i - 0) = i by omega]; exact hi))
  by_cases c60 : i < 120
  · exact List.all_eq_true.mp pmk_60 q (List.mem_of_getElem? (i := i - 60) (by rw [List.getElem?_take, if_pos (by omega), List.getElem?_drop]; rw [show 60 + (i - 60) = i by omega]; exact hi))
  by_cases c120 : i < 180
  · exact List.all_eq_true.mp pmk_120 q (List.mem_of_getElem? (i := i - 120) (by rw [List.getElem?_take, if_pos (by omega), List.getElem?_drop]; rw [show 120 + (i - 120) = i by omega]; exact hi))
  by_cases c180 : i < 240
  · exact List.all_eq_true.mp pmk_180 q (List.mem_of_getElem? (i := i - 180) (by rw [List.getElem?_take, if_pos (by omega), List.getElem?_drop]; rw [show 180 + (i - 180) = i by omega]; exact hi))
  omega
theorem pkk_0 : ((pkc.drop 0).take 60).all cstB = true := by decide +kernel
theorem pkk_len : pkc.length ≤ 60 := by decide +kernel
theorem pkk : ∀ q ∈ pkc, cstB q = true := by
  intro q hq
  obtain ⟨i, hi⟩ := List.getElem?_of_mem hq
  have hl : i < pkc.length := (List.getElem?_eq_some_iff.mp hi).1
  have h0 := pkk_len
  by_cases c0 : i < 60
  · exact List.all_eq_true.mp pkk_0 q (List.mem_of_getElem? (i := i - 0) (by rw [List.getElem?_take, if_pos (by omega), List.getElem?_drop]; rw [show 0 + (i - 0) = i by omega]; exact hi))
  omega
theorem mtk_0 : (mtl_0.zip mps_0).all mtB = true := by decide +kernel
theorem mtn_0 : mtl_0.length = mps_0.length := by decide +kernel
theorem mtk_1 : (mtl_1.zip mps_1).all mtB = true := by decide +kernel
theorem mtn_1 : mtl_1.length = mps_1.length := by decide +kernel
theorem mtk_2 : (mtl_2.zip mps_2).all mtB = true := by decide +kernel
theorem mtn_2 : mtl_2.length = mps_2.length := by decide +kernel
theorem mtk_3 : (mtl_3.zip mps_3).all mtB = true := by decide +kernel
theorem mtn_3 : mtl_3.length = mps_3.length := by decide +kernel
theorem mtk_4 : (mtl_4.zip mps_4).all mtB = true := by decide +kernel
theorem mtn_4 : mtl_4.length = mps_4.length := by decide +kernel
theorem mtk_5 : (mtl_5.zip mps_5).all mtB = true := by decide +kernel
theorem mtn_5 : mtl_5.length = mps_5.length := by decide +kernel
theorem mtk_6 : (mtl_6.zip mps_6).all mtB = true := by decide +kernel
theorem mtn_6 : mtl_6.length = mps_6.length := by decide +kernel
theorem mtk_7 : (mtl_7.zip mps_7).all mtB = true := by decide +kernel
theorem mtn_7 : mtl_7.length = mps_7.length := by decide +kernel
theorem mtk_8 : (mtl_8.zip mps_8).all mtB = true := by decide +kernel
theorem mtn_8 : mtl_8.length = mps_8.length := by decide +kernel
theorem mtk_9 : (mtl_9.zip mps_9).all mtB = true := by decide +kernel
theorem mtn_9 : mtl_9.length = mps_9.length := by decide +kernel
theorem mtk_10 : (mtl_10.zip mps_10).all mtB = true := by decide +kernel
theorem mtn_10 : mtl_10.length = mps_10.length := by decide +kernel
set_option maxRecDepth 100000 in
theorem cw_3 : Jvm.Cond.code yX10_row cX10_row 4 (rty 1) ∈ lw_tbl := List.mem_append_right _ (List.mem_append_right _ (List.mem_append_left _ (List.mem_of_getElem? (l := tables_1_2) (i := 128) rfl)))
set_option maxRecDepth 100000 in
theorem cw_4 : Jvm.Cond.code yX10_set cX10_set 6 (rty 1) ∈ lw_tbl := List.mem_append_right _ (List.mem_append_right _ (List.mem_append_right _ (List.mem_append_right _ (List.mem_append_right _ (List.mem_append_left _ (List.mem_of_getElem? (l := tables_1_5) (i := 185) rfl))))))
set_option maxRecDepth 100000 in
theorem cw_12 : Jvm.Cond.code yX10_term cX10_term 3 (rty 1) ∈ lw_tbl := List.mem_append_right _ (List.mem_append_right _ (List.mem_append_right _ (List.mem_append_right _ (List.mem_append_right _ (List.mem_append_left _ (List.mem_of_getElem? (l := tables_1_5) (i := 208) rfl))))))
set_option maxRecDepth 100000 in
theorem cw_13 : Jvm.Cond.code yX10_fault cX10_fault 1 (rty 1) ∈ lw_tbl := List.mem_append_right _ (List.mem_append_right _ (List.mem_append_left _ (List.mem_of_getElem? (l := tables_1_2) (i := 153) rfl)))
set_option maxRecDepth 100000 in
theorem cw_14 : Jvm.Cond.code yX10_drop cX10_drop 1 (rty 1) ∈ lw_tbl := List.mem_append_right _ (List.mem_append_right _ (List.mem_append_right _ (List.mem_append_right _ (List.mem_append_right _ (List.mem_append_left _ (List.mem_of_getElem? (l := tables_1_5) (i := 239) rfl))))))
set_option maxRecDepth 100000 in
theorem cw_15 : Jvm.Cond.code yX10_commute cX10_commute 5 (rty 1) ∈ lw_tbl := List.mem_append_right _ (List.mem_append_right _ (List.mem_append_left _ (List.mem_of_getElem? (l := tables_1_2) (i := 157) rfl)))
set_option maxRecDepth 100000 in
theorem cw_16 : Jvm.Cond.code yX10_node cX10_node 3 (rty 1) ∈ lw_tbl := List.mem_append_right _ (List.mem_append_right _ (List.mem_append_right _ (List.mem_append_right _ (List.mem_append_right _ (List.mem_append_right _ (List.mem_append_left _ (List.mem_of_getElem? (l := tables_1_6) (i := 52) rfl)))))))
set_option maxRecDepth 100000 in
theorem cw_17 : Jvm.Cond.code yX10_termOf cX10_termOf 4 (rty 1) ∈ lw_tbl := List.mem_append_right _ (List.mem_append_right _ (List.mem_append_right _ (List.mem_append_right _ (List.mem_append_right _ (List.mem_append_right _ (List.mem_append_left _ (List.mem_of_getElem? (l := tables_1_6) (i := 18) rfl)))))))
set_option maxRecDepth 100000 in
theorem cw_18 : Jvm.Cond.code yX10_path cX10_path 3 (rty 3) ∈ lw_tbl := List.mem_append_right _ (List.mem_append_right _ (List.mem_append_right _ (List.mem_append_right _ (List.mem_append_right _ (List.mem_append_right _ (List.mem_append_left _ (List.mem_of_getElem? (l := tables_1_6) (i := 57) rfl)))))))
set_option maxRecDepth 100000 in
theorem cw_19 : Jvm.Cond.code yX10_same cX10_same 3 (rty 1) ∈ lw_tbl := List.mem_append_right _ (List.mem_append_right _ (List.mem_append_right _ (List.mem_append_right _ (List.mem_append_right _ (List.mem_append_right _ (List.mem_append_left _ (List.mem_of_getElem? (l := tables_1_6) (i := 73) rfl)))))))
set_option maxRecDepth 100000 in
theorem cw_20 : Jvm.Cond.code yX10_rule cX10_rule 4 (rty 1) ∈ lw_tbl := List.mem_append_right _ (List.mem_append_right _ (List.mem_append_left _ (List.mem_of_getElem? (l := tables_1_2) (i := 164) rfl)))
set_option maxRecDepth 100000 in
theorem cw_22 : Jvm.Cond.code yX10_bound cX10_bound 6 (rty 1) ∈ lw_tbl := List.mem_append_right _ (List.mem_append_right _ (List.mem_append_right _ (List.mem_append_right _ (List.mem_append_right _ (List.mem_append_right _ (List.mem_append_right _ (List.mem_of_getElem? (l := tables_1_7) (i := 14) rfl)))))))
set_option maxRecDepth 100000 in
theorem cw_23 : Jvm.Cond.code yX10_fits cX10_fits 4 (rty 1) ∈ lw_tbl := List.mem_append_right _ (List.mem_append_right _ (List.mem_append_right _ (List.mem_append_right _ (List.mem_append_right _ (List.mem_append_right _ (List.mem_append_left _ (List.mem_of_getElem? (l := tables_1_6) (i := 65) rfl)))))))
set_option maxRecDepth 100000 in
theorem cw_24 : Jvm.Cond.code yX10_countFits cX10_countFits 6 (rty 1) ∈ lw_tbl := List.mem_append_right _ (List.mem_append_right _ (List.mem_append_right _ (List.mem_append_right _ (List.mem_append_right _ (List.mem_append_right _ (List.mem_append_left _ (List.mem_of_getElem? (l := tables_1_6) (i := 69) rfl)))))))
set_option maxRecDepth 100000 in
theorem cw_25 : Jvm.Cond.code yX10_fittingNode cX10_fittingNode 7 (rty 1) ∈ lw_tbl := List.mem_append_right _ (List.mem_append_right _ (List.mem_append_right _ (List.mem_append_left _ (List.mem_of_getElem? (l := tables_1_3) (i := 233) rfl))))
set_option maxRecDepth 100000 in
theorem cw_26 : Jvm.Cond.code yX10_redexes cX10_redexes 2 (rty 3) ∈ lw_tbl := List.mem_append_right _ (List.mem_append_right _ (List.mem_append_right _ (List.mem_append_right _ (List.mem_append_right _ (List.mem_append_right _ (List.mem_append_left _ (List.mem_of_getElem? (l := tables_1_6) (i := 99) rfl)))))))
set_option maxRecDepth 100000 in
theorem cw_27 : Jvm.Cond.code yX10_redexesAt cX10_redexesAt 6 (rty 3) ∈ lw_tbl := List.mem_append_right _ (List.mem_append_right _ (List.mem_append_right _ (List.mem_append_right _ (List.mem_append_right _ (List.mem_append_right _ (List.mem_append_left _ (List.mem_of_getElem? (l := tables_1_6) (i := 44) rfl)))))))
set_option maxRecDepth 100000 in
theorem cw_28 : Jvm.Cond.code yX10_someRuleFits cX10_someRuleFits 3 (rty 2) ∈ lw_tbl := List.mem_append_right _ (List.mem_append_right _ (List.mem_append_right _ (List.mem_append_right _ (List.mem_append_right _ (List.mem_append_right _ (List.mem_append_left _ (List.mem_of_getElem? (l := tables_1_6) (i := 48) rfl)))))))
set_option maxRecDepth 100000 in
theorem cw_29 : Jvm.Cond.code yX10_rewrite cX10_rewrite 5 (rty 1) ∈ lw_tbl := List.mem_append_right _ (List.mem_append_right _ (List.mem_append_left _ (List.mem_of_getElem? (l := tables_1_2) (i := 214) rfl)))
set_option maxRecDepth 100000 in
theorem cw_30 : Jvm.Cond.code yX10_rewriteToWork cX10_rewriteToWork 7 (rty 1) ∈ lw_tbl := List.mem_append_right _ (List.mem_append_right _ (List.mem_append_left _ (List.mem_of_getElem? (l := tables_1_2) (i := 230) rfl)))
set_option maxRecDepth 100000 in
theorem cw_31 : Jvm.Cond.code yX10_strategy cX10_strategy 4 (rty 1) ∈ lw_tbl := List.mem_append_right _ (List.mem_append_right _ (List.mem_append_right _ (List.mem_append_left _ (List.mem_of_getElem? (l := tables_1_3) (i := 54) rfl))))
set_option maxRecDepth 100000 in
theorem cw_32 : Jvm.Cond.code yX10_isStrategyOver cX10_isStrategyOver 4 (rty 2) ∈ lw_tbl := List.mem_append_right _ (List.mem_append_right _ (List.mem_append_right _ (List.mem_append_left _ (List.mem_of_getElem? (l := tables_1_3) (i := 58) rfl))))
set_option maxRecDepth 100000 in
theorem cw_33 : Jvm.Cond.code yX10_strategyOf cX10_strategyOf 3 (rty 1) ∈ lw_tbl := List.mem_append_right _ (List.mem_append_right _ (List.mem_append_right _ (List.mem_append_right _ (List.mem_append_right _ (List.mem_append_right _ (List.mem_append_left _ (List.mem_of_getElem? (l := tables_1_6) (i := 103) rfl)))))))
set_option maxRecDepth 100000 in
theorem cw_34 : Jvm.Cond.code yX10_run cX10_run 4 (rty 1) ∈ lw_tbl := List.mem_append_right _ (List.mem_append_right _ (List.mem_append_right _ (List.mem_append_left _ (List.mem_of_getElem? (l := tables_1_3) (i := 87) rfl))))
set_option maxRecDepth 100000 in
theorem cw_35 : Jvm.Cond.code yX10_trial cX10_trial 5 (rty 1) ∈ lw_tbl := List.mem_append_right _ (List.mem_append_right _ (List.mem_append_right _ (List.mem_append_right _ (List.mem_append_right _ (List.mem_append_right _ (List.mem_append_left _ (List.mem_of_getElem? (l := tables_1_6) (i := 110) rfl)))))))
set_option maxRecDepth 100000 in
theorem cw_36 : Jvm.Cond.code yX10_trace cX10_trace 2 (rty 1) ∈ lw_tbl := List.mem_append_right _ (List.mem_append_right _ (List.mem_append_right _ (List.mem_append_right _ (List.mem_append_right _ (List.mem_append_right _ (List.mem_append_left _ (List.mem_of_getElem? (l := tables_1_6) (i := 222) rfl)))))))
set_option maxRecDepth 100000 in
theorem cw_37 : Jvm.Cond.code yX10_tracePath cX10_tracePath 2 (rty 3) ∈ lw_tbl := List.mem_append_right _ (List.mem_append_right _ (List.mem_append_right _ (List.mem_append_right _ (List.mem_append_right _ (List.mem_append_right _ (List.mem_append_left _ (List.mem_of_getElem? (l := tables_1_6) (i := 218) rfl)))))))
set_option maxRecDepth 100000 in
theorem cw_38 : Jvm.Cond.code yX10_replay cX10_replay 5 (rty 1) ∈ lw_tbl := List.mem_append_right _ (List.mem_append_right _ (List.mem_append_right _ (List.mem_append_right _ (List.mem_append_right _ (List.mem_append_right _ (List.mem_append_left _ (List.mem_of_getElem? (l := tables_1_6) (i := 204) rfl)))))))
set_option maxRecDepth 100000 in
theorem cw_39 : Jvm.Cond.code yX10_rewriteInHand cX10_rewriteInHand 6 (rty 1) ∈ lw_tbl := List.mem_append_right _ (List.mem_append_right _ (List.mem_append_right _ (List.mem_append_right _ (List.mem_append_right _ (List.mem_append_right _ (List.mem_append_left _ (List.mem_of_getElem? (l := tables_1_6) (i := 210) rfl)))))))
set_option maxRecDepth 100000 in
theorem cw_40 : Jvm.Cond.code yX10_unify cX10_unify 5 (rty 1) ∈ lw_tbl := List.mem_append_right _ (List.mem_append_right _ (List.mem_append_right _ (List.mem_append_right _ (List.mem_append_right _ (List.mem_append_right _ (List.mem_append_right _ (List.mem_of_getElem? (l := tables_1_7) (i := 10) rfl)))))))
set_option maxRecDepth 100000 in
theorem cw_41 : Jvm.Cond.code yX10_hasTooManyVariables cX10_hasTooManyVariables 2 (rty 2) ∈ lw_tbl := List.mem_append_right _ (List.mem_append_right _ (List.mem_append_right _ (List.mem_append_right _ (List.mem_append_right _ (List.mem_append_right _ (List.mem_append_left _ (List.mem_of_getElem? (l := tables_1_6) (i := 122) rfl)))))))
set_option maxRecDepth 100000 in
theorem cw_42 : Jvm.Cond.code yX10_overlaps cX10_overlaps 3 (rty 1) ∈ lw_tbl := List.mem_append_right _ (List.mem_append_right _ (List.mem_append_right _ (List.mem_append_right _ (List.mem_append_right _ (List.mem_append_right _ (List.mem_append_left _ (List.mem_of_getElem? (l := tables_1_6) (i := 114) rfl)))))))
set_option maxRecDepth 100000 in
theorem cw_43 : Jvm.Cond.code yX10_overlap cX10_overlap 5 (rty 1) ∈ lw_tbl := List.mem_append_right _ (List.mem_append_right _ (List.mem_append_right _ (List.mem_append_right _ (List.mem_append_right _ (List.mem_append_right _ (List.mem_append_left _ (List.mem_of_getElem? (l := tables_1_6) (i := 235) rfl)))))))
set_option maxRecDepth 100000 in
theorem cw_44 : Jvm.Cond.code yX10_meets cX10_meets 6 (rty 1) ∈ lw_tbl := List.mem_append_right _ (List.mem_append_right _ (List.mem_append_right _ (List.mem_append_right _ (List.mem_append_right _ (List.mem_append_right _ (List.mem_append_left _ (List.mem_of_getElem? (l := tables_1_6) (i := 239) rfl)))))))
set_option maxRecDepth 100000 in
theorem cw_45 : Jvm.Cond.code yX10_seekOverlap cX10_seekOverlap 7 (rty 1) ∈ lw_tbl := List.mem_append_right _ (List.mem_append_right _ (List.mem_append_right _ (List.mem_append_right _ (List.mem_append_right _ (List.mem_append_right _ (List.mem_append_left _ (List.mem_of_getElem? (l := tables_1_6) (i := 118) rfl)))))))
set_option maxRecDepth 100000 in
theorem cw_46 : Jvm.Cond.code yX10_layOverlap cX10_layOverlap 6 (rty 2) ∈ lw_tbl := List.mem_append_right _ (List.mem_append_right _ (List.mem_append_right _ (List.mem_append_right _ (List.mem_append_right _ (List.mem_append_right _ (List.mem_append_left _ (List.mem_of_getElem? (l := tables_1_6) (i := 132) rfl)))))))
set_option maxRecDepth 100000 in
theorem cw_49 : Jvm.Cond.code yX10_days cX10_days 6 (rty 1) ∈ lw_tbl := List.mem_append_right _ (List.mem_append_right _ (List.mem_append_right _ (List.mem_append_left _ (List.mem_of_getElem? (l := tables_1_3) (i := 220) rfl))))
set_option maxRecDepth 100000 in
theorem cw_50 : Jvm.Cond.code yX10_rewriteAtLeast cX10_rewriteAtLeast 4 (rty 2) ∈ lw_tbl := List.mem_append_right _ (List.mem_append_right _ (List.mem_append_right _ (List.mem_append_left _ (List.mem_of_getElem? (l := tables_1_3) (i := 229) rfl))))
set_option maxRecDepth 100000 in
theorem cw_51 : Jvm.Cond.code yX10_seed cX10_seed 3 (rty 1) ∈ lw_tbl := List.mem_append_right _ (List.mem_append_right _ (List.mem_append_right _ (List.mem_append_left _ (List.mem_of_getElem? (l := tables_1_3) (i := 238) rfl))))
set_option maxRecDepth 100000 in
theorem cw_52 : Jvm.Cond.code yX10_image cX10_image 1 (rty 1) ∈ lw_tbl := List.mem_append_right _ (List.mem_append_right _ (List.mem_append_right _ (List.mem_append_right _ (List.mem_append_left _ (List.mem_of_getElem? (l := tables_1_4) (i := 2) rfl)))))
set_option maxRecDepth 100000 in
theorem cw_53 : Jvm.Cond.code yX10_restore cX10_restore 1 (rty 1) ∈ lw_tbl := List.mem_append_right _ (List.mem_append_right _ (List.mem_append_right _ (List.mem_append_right _ (List.mem_append_left _ (List.mem_of_getElem? (l := tables_1_4) (i := 18) rfl)))))
set_option maxRecDepth 100000 in
theorem cw_54 : Jvm.Cond.code yX10_status cX10_status 2 (rty 1) ∈ lw_tbl := List.mem_append_right _ (List.mem_append_right _ (List.mem_append_right _ (List.mem_append_right _ (List.mem_append_left _ (List.mem_of_getElem? (l := tables_1_4) (i := 36) rfl)))))
set_option maxRecDepth 100000 in
theorem cw_55 : Jvm.Cond.code yX10_nodesOfAll cX10_nodesOfAll 3 (rty 1) ∈ lw_tbl := List.mem_append_right _ (List.mem_append_right _ (List.mem_append_right _ (List.mem_append_right _ (List.mem_append_left _ (List.mem_of_getElem? (l := tables_1_4) (i := 40) rfl)))))
set_option maxRecDepth 100000 in
theorem cw_56 : Jvm.Cond.code yX10_refuse cX10_refuse 2 (rty 1) ∈ lw_tbl := List.mem_append_right _ (List.mem_append_right _ (List.mem_append_left _ (List.mem_of_getElem? (l := tables_1_2) (i := 135) rfl)))
set_option maxRecDepth 100000 in
theorem cw_57 : Jvm.Cond.code yX10_newTerm cX10_newTerm 2 (rty 1) ∈ lw_tbl := List.mem_append_right _ (List.mem_append_right _ (List.mem_append_right _ (List.mem_append_left _ (List.mem_of_getElem? (l := tables_1_3) (i := 45) rfl))))
set_option maxRecDepth 100000 in
theorem cw_58 : Jvm.Cond.code yX10_hasNode cX10_hasNode 3 (rty 2) ∈ lw_tbl := List.mem_append_right _ (List.mem_append_right _ (List.mem_append_left _ (List.mem_of_getElem? (l := tables_1_2) (i := 222) rfl)))
set_option maxRecDepth 100000 in
theorem cw_59 : Jvm.Cond.code yX10_termPlace cX10_termPlace 1 (rty 1) ∈ lw_tbl := List.mem_append_right _ (List.mem_append_right _ (List.mem_append_left _ (List.mem_of_getElem? (l := tables_1_2) (i := 171) rfl)))
set_option maxRecDepth 100000 in
theorem cw_60 : Jvm.Cond.code yX10_leftPlace cX10_leftPlace 1 (rty 1) ∈ lw_tbl := List.mem_append_right _ (List.mem_append_right _ (List.mem_append_left _ (List.mem_of_getElem? (l := tables_1_2) (i := 195) rfl)))
set_option maxRecDepth 100000 in
theorem cw_61 : Jvm.Cond.code yX10_rightPlace cX10_rightPlace 1 (rty 1) ∈ lw_tbl := List.mem_append_right _ (List.mem_append_right _ (List.mem_append_left _ (List.mem_of_getElem? (l := tables_1_2) (i := 210) rfl)))
set_option maxRecDepth 100000 in
theorem cw_62 : Jvm.Cond.code yX10_isVariable cX10_isVariable 1 (rty 2) ∈ lw_tbl := List.mem_append_right _ (List.mem_append_right _ (List.mem_append_left _ (List.mem_of_getElem? (l := tables_1_2) (i := 186) rfl)))
set_option maxRecDepth 100000 in
theorem cw_63 : Jvm.Cond.code yX10_arity cX10_arity 1 (rty 1) ∈ lw_tbl := List.mem_append_right _ (List.mem_append_right _ (List.mem_append_left _ (List.mem_of_getElem? (l := tables_1_2) (i := 160) rfl)))
set_option maxRecDepth 100000 in
theorem cw_64 : Jvm.Cond.code yX10_isOverTwo cX10_isOverTwo 1 (rty 2) ∈ lw_tbl := List.mem_append_right _ (List.mem_append_right _ (List.mem_append_right _ (List.mem_append_left _ (List.mem_of_getElem? (l := tables_1_3) (i := 65) rfl))))
set_option maxRecDepth 100000 in
theorem cw_65 : Jvm.Cond.code yX10_get cX10_get 2 (rty 1) ∈ lw_tbl := List.mem_append_right _ (List.mem_append_right _ (List.mem_append_left _ (List.mem_of_getElem? (l := tables_1_2) (i := 138) rfl)))
set_option maxRecDepth 100000 in
theorem cw_66 : Jvm.Cond.code yX10_put cX10_put 3 (rty 0) ∈ lw_tbl := List.mem_append_right _ (List.mem_append_right _ (List.mem_append_left _ (List.mem_of_getElem? (l := tables_1_2) (i := 141) rfl)))
set_option maxRecDepth 100000 in
theorem cw_67 : Jvm.Cond.code yX10_getLong cX10_getLong 2 (rty 3) ∈ lw_tbl := List.mem_append_right _ (List.mem_append_right _ (List.mem_append_right _ (List.mem_append_left _ (List.mem_of_getElem? (l := tables_1_3) (i := 125) rfl))))
set_option maxRecDepth 100000 in
theorem cw_68 : Jvm.Cond.code yX10_putLong cX10_putLong 4 (rty 0) ∈ lw_tbl := List.mem_append_right _ (List.mem_append_right _ (List.mem_append_left _ (List.mem_of_getElem? (l := tables_1_2) (i := 149) rfl)))
set_option maxRecDepth 100000 in
theorem cw_69 : Jvm.Cond.code yL_arity cL_arity 1 (rty 1) ∈ lw_tbl := List.mem_append_right _ (List.mem_append_right _ (List.mem_append_right _ (List.mem_append_right _ (List.mem_append_right _ (List.mem_append_left _ (List.mem_of_getElem? (l := tables_1_5) (i := 169) rfl))))))
set_option maxRecDepth 100000 in
theorem cw_70 : Jvm.Cond.code yL_variable cL_variable 1 (rty 2) ∈ lw_tbl := List.mem_append_right _ (List.mem_append_right _ (List.mem_append_right _ (List.mem_append_right _ (List.mem_append_right _ (List.mem_append_left _ (List.mem_of_getElem? (l := tables_1_5) (i := 87) rfl))))))
set_option maxRecDepth 100000 in
theorem cw_71 : Jvm.Cond.code yL_some cL_some 3 (rty 1) ∈ lw_tbl := List.mem_append_right _ (List.mem_append_right _ (List.mem_append_right _ (List.mem_append_right _ (List.mem_append_left _ (List.mem_of_getElem? (l := tables_1_4) (i := 52) rfl)))))
set_option maxRecDepth 100000 in
theorem cw_72 : Jvm.Cond.code yL_adds cL_adds 6 (rty 2) ∈ lw_tbl := List.mem_append_right _ (List.mem_append_right _ (List.mem_append_right _ (List.mem_append_right _ (List.mem_append_right _ (List.mem_append_right _ (List.mem_append_left _ (List.mem_of_getElem? (l := tables_1_6) (i := 8) rfl)))))))
set_option maxRecDepth 100000 in
theorem cw_73 : Jvm.Cond.code yL_told cL_told 6 (rty 3) ∈ lw_tbl := List.mem_append_right _ (List.mem_append_right _ (List.mem_append_right _ (List.mem_append_right _ (List.mem_append_right _ (List.mem_append_right _ (List.mem_append_left _ (List.mem_of_getElem? (l := tables_1_6) (i := 12) rfl)))))))
set_option maxRecDepth 100000 in
theorem cw_74 : Jvm.Cond.code yL_ran cL_ran 11 (rty 2) ∈ lw_tbl := List.mem_append_right _ (List.mem_append_right _ (List.mem_append_right _ (List.mem_append_right _ (List.mem_append_right _ (List.mem_append_right _ (List.mem_append_left _ (List.mem_of_getElem? (l := tables_1_6) (i := 200) rfl)))))))
set_option maxRecDepth 100000 in
theorem cw_75 : Jvm.Cond.code yL_laws cL_laws 8 (rty 2) ∈ lw_tbl := List.mem_append_right _ (List.mem_append_right _ (List.mem_append_right _ (List.mem_append_right _ (List.mem_append_right _ (List.mem_append_right _ (List.mem_append_left _ (List.mem_of_getElem? (l := tables_1_6) (i := 225) rfl)))))))
set_option maxRecDepth 100000 in
theorem cw_76 : Jvm.Cond.code yL_fitted cL_fitted 14 (rty 2) ∈ lw_tbl := List.mem_append_right _ (List.mem_append_right _ (List.mem_append_right _ (List.mem_append_right _ (List.mem_append_right _ (List.mem_append_right _ (List.mem_append_left _ (List.mem_of_getElem? (l := tables_1_6) (i := 228) rfl)))))))
set_option maxRecDepth 100000 in
theorem cw_77 : Jvm.Cond.code yL_peaks cL_peaks 8 (rty 2) ∈ lw_tbl := List.mem_append_right _ (List.mem_append_right _ (List.mem_append_right _ (List.mem_append_right _ (List.mem_append_right _ (List.mem_append_right _ (List.mem_append_left _ (List.mem_of_getElem? (l := tables_1_6) (i := 231) rfl)))))))
set_option maxRecDepth 100000 in
theorem cw_78 : Jvm.Cond.code yL_unified cL_unified 5 (rty 2) ∈ lw_tbl := List.mem_append_right _ (List.mem_append_right _ (List.mem_append_right _ (List.mem_append_right _ (List.mem_append_right _ (List.mem_append_right _ (List.mem_append_right _ (List.mem_of_getElem? (l := tables_1_7) (i := 6) rfl)))))))
set_option maxRecDepth 100000 in
theorem cw_180 : Jvm.Cond.code yX0_makesAlike cX0_makesAlike 7 (rty 2) ∈ lw_tbl := List.mem_append_right _ (List.mem_append_right _ (List.mem_append_right _ (List.mem_append_right _ (List.mem_append_right _ (List.mem_append_right _ (List.mem_append_left _ (List.mem_of_getElem? (l := tables_1_6) (i := 78) rfl)))))))
set_option maxRecDepth 100000 in
theorem cw_181 : Jvm.Cond.code yX0_argumentsAlike cX0_argumentsAlike 8 (rty 2) ∈ lw_tbl := List.mem_append_right _ (List.mem_append_right _ (List.mem_append_right _ (List.mem_append_right _ (List.mem_append_right _ (List.mem_append_right _ (List.mem_append_left _ (List.mem_of_getElem? (l := tables_1_6) (i := 87) rfl)))))))
set_option maxRecDepth 100000 in
theorem cw_182 : Jvm.Cond.code yX0_isAlike cX0_isAlike 3 (rty 2) ∈ lw_tbl := List.mem_append_right _ (List.mem_append_right _ (List.mem_append_right _ (List.mem_append_right _ (List.mem_append_right _ (List.mem_append_right _ (List.mem_append_left _ (List.mem_of_getElem? (l := tables_1_6) (i := 92) rfl)))))))
set_option maxRecDepth 100000 in
theorem cw_183 : Jvm.Cond.code yX1_lay cX1_lay 4 (rty 0) ∈ lw_tbl := List.mem_append_right _ (List.mem_append_right _ (List.mem_append_right _ (List.mem_append_right _ (List.mem_append_right _ (List.mem_append_right _ (List.mem_append_left _ (List.mem_of_getElem? (l := tables_1_6) (i := 22) rfl)))))))
set_option maxRecDepth 100000 in
theorem cw_184 : Jvm.Cond.code yX1_layArgument cX1_layArgument 4 (rty 0) ∈ lw_tbl := List.mem_append_right _ (List.mem_append_right _ (List.mem_append_right _ (List.mem_append_right _ (List.mem_append_right _ (List.mem_append_right _ (List.mem_append_left _ (List.mem_of_getElem? (l := tables_1_6) (i := 31) rfl)))))))
set_option maxRecDepth 100000 in
theorem cw_185 : Jvm.Cond.code yX1_deepest cX1_deepest 3 (rty 1) ∈ lw_tbl := List.mem_append_right _ (List.mem_append_right _ (List.mem_append_right _ (List.mem_append_right _ (List.mem_append_right _ (List.mem_append_right _ (List.mem_append_left _ (List.mem_of_getElem? (l := tables_1_6) (i := 39) rfl)))))))
set_option maxRecDepth 100000 in
theorem cw_186 : Jvm.Cond.code yX1_pathAt cX1_pathAt 2 (rty 3) ∈ lw_tbl := List.mem_append_right _ (List.mem_append_right _ (List.mem_append_right _ (List.mem_append_right _ (List.mem_append_right _ (List.mem_append_right _ (List.mem_append_left _ (List.mem_of_getElem? (l := tables_1_6) (i := 61) rfl)))))))
set_option maxRecDepth 100000 in
theorem cw_187 : Jvm.Cond.code yX1_nodeAt cX1_nodeAt 4 (rty 1) ∈ lw_tbl := List.mem_append_right _ (List.mem_append_right _ (List.mem_append_right _ (List.mem_append_right _ (List.mem_append_right _ (List.mem_append_right _ (List.mem_append_left _ (List.mem_of_getElem? (l := tables_1_6) (i := 214) rfl)))))))
set_option maxRecDepth 100000 in
theorem cw_188 : Jvm.Cond.code yX2_matches cX2_matches 8 (rty 2) ∈ lw_tbl := List.mem_append_right _ (List.mem_append_right _ (List.mem_append_left _ (List.mem_of_getElem? (l := tables_1_2) (i := 235) rfl)))
set_option maxRecDepth 100000 in
theorem cw_189 : Jvm.Cond.code yX2_countTurns cX2_countTurns 5 (rty 0) ∈ lw_tbl := List.mem_append_right _ (List.mem_append_right _ (List.mem_append_right _ (List.mem_append_left _ (List.mem_of_getElem? (l := tables_1_3) (i := 0) rfl))))
set_option maxRecDepth 100000 in
theorem cw_190 : Jvm.Cond.code yX2_mayTurn cX2_mayTurn 2 (rty 2) ∈ lw_tbl := List.mem_append_right _ (List.mem_append_right _ (List.mem_append_right _ (List.mem_append_left _ (List.mem_of_getElem? (l := tables_1_3) (i := 5) rfl))))
set_option maxRecDepth 100000 in
theorem cw_191 : Jvm.Cond.code yX2_attempt cX2_attempt 8 (rty 2) ∈ lw_tbl := List.mem_append_right _ (List.mem_append_right _ (List.mem_append_right _ (List.mem_append_left _ (List.mem_of_getElem? (l := tables_1_3) (i := 9) rfl))))
set_option maxRecDepth 100000 in
theorem cw_192 : Jvm.Cond.code yX2_faceArguments cX2_faceArguments 9 (rty 0) ∈ lw_tbl := List.mem_append_right _ (List.mem_append_right _ (List.mem_append_right _ (List.mem_append_left _ (List.mem_of_getElem? (l := tables_1_3) (i := 22) rfl))))
set_option maxRecDepth 100000 in
theorem cw_193 : Jvm.Cond.code yX2_boundTo cX2_boundTo 2 (rty 1) ∈ lw_tbl := List.mem_append_right _ (List.mem_append_right _ (List.mem_append_right _ (List.mem_append_left _ (List.mem_of_getElem? (l := tables_1_3) (i := 33) rfl))))
set_option maxRecDepth 100000 in
theorem cw_194 : Jvm.Cond.code yX2_sizeOf cX2_sizeOf 6 (rty 1) ∈ lw_tbl := List.mem_append_right _ (List.mem_append_right _ (List.mem_append_right _ (List.mem_append_left _ (List.mem_of_getElem? (l := tables_1_3) (i := 29) rfl))))
set_option maxRecDepth 100000 in
theorem cw_195 : Jvm.Cond.code yX2_append cX2_append 7 (rty 1) ∈ lw_tbl := List.mem_append_right _ (List.mem_append_right _ (List.mem_append_right _ (List.mem_append_left _ (List.mem_of_getElem? (l := tables_1_3) (i := 38) rfl))))
set_option maxRecDepth 100000 in
theorem cw_196 : Jvm.Cond.code yX3_readInto cX3_readInto 6 (rty 1) ∈ lw_tbl := List.mem_append_right _ (List.mem_append_right _ (List.mem_append_right _ (List.mem_append_right _ (List.mem_append_right _ (List.mem_append_left _ (List.mem_of_getElem? (l := tables_1_5) (i := 212) rfl))))))
set_option maxRecDepth 100000 in
theorem cw_197 : Jvm.Cond.code yX3_next cX3_next 4 (rty 1) ∈ lw_tbl := List.mem_append_right _ (List.mem_append_right _ (List.mem_append_right _ (List.mem_append_right _ (List.mem_append_right _ (List.mem_append_left _ (List.mem_of_getElem? (l := tables_1_5) (i := 227) rfl))))))
set_option maxRecDepth 100000 in
theorem cw_198 : Jvm.Cond.code yX3_nextToSign cX3_nextToSign 4 (rty 1) ∈ lw_tbl := List.mem_append_right _ (List.mem_append_right _ (List.mem_append_right _ (List.mem_append_right _ (List.mem_append_right _ (List.mem_append_left _ (List.mem_of_getElem? (l := tables_1_5) (i := 231) rfl))))))
set_option maxRecDepth 100000 in
theorem cw_199 : Jvm.Cond.code yX4_forgetCounts cX4_forgetCounts 1 (rty 0) ∈ lw_tbl := List.mem_append_right _ (List.mem_append_right _ (List.mem_append_right _ (List.mem_append_left _ (List.mem_of_getElem? (l := tables_1_3) (i := 91) rfl))))
set_option maxRecDepth 100000 in
theorem cw_200 : Jvm.Cond.code yX4_go cX4_go 5 (rty 1) ∈ lw_tbl := List.mem_append_right _ (List.mem_append_right _ (List.mem_append_right _ (List.mem_append_left _ (List.mem_of_getElem? (l := tables_1_3) (i := 95) rfl))))
set_option maxRecDepth 100000 in
theorem cw_201 : Jvm.Cond.code yX4_ask cX4_ask 7 (rty 0) ∈ lw_tbl := List.mem_append_right _ (List.mem_append_right _ (List.mem_append_right _ (List.mem_append_left _ (List.mem_of_getElem? (l := tables_1_3) (i := 103) rfl))))
set_option maxRecDepth 100000 in
theorem cw_202 : Jvm.Cond.code yX4_countBegun cX4_countBegun 1 (rty 2) ∈ lw_tbl := List.mem_append_right _ (List.mem_append_right _ (List.mem_append_right _ (List.mem_append_left _ (List.mem_of_getElem? (l := tables_1_3) (i := 108) rfl))))
set_option maxRecDepth 100000 in
theorem cw_203 : Jvm.Cond.code yX4_goOnWith cX4_goOnWith 3 (rty 0) ∈ lw_tbl := List.mem_append_right _ (List.mem_append_right _ (List.mem_append_right _ (List.mem_append_left _ (List.mem_of_getElem? (l := tables_1_3) (i := 149) rfl))))
set_option maxRecDepth 100000 in
theorem cw_204 : Jvm.Cond.code yX4_askWhole cX4_askWhole 5 (rty 0) ∈ lw_tbl := List.mem_append_right _ (List.mem_append_right _ (List.mem_append_right _ (List.mem_append_left _ (List.mem_of_getElem? (l := tables_1_3) (i := 173) rfl))))
set_option maxRecDepth 100000 in
theorem cw_205 : Jvm.Cond.code yX4_finish cX4_finish 3 (rty 0) ∈ lw_tbl := List.mem_append_right _ (List.mem_append_right _ (List.mem_append_right _ (List.mem_append_left _ (List.mem_of_getElem? (l := tables_1_3) (i := 145) rfl))))
set_option maxRecDepth 100000 in
theorem cw_206 : Jvm.Cond.code yX4_start cX4_start 4 (rty 0) ∈ lw_tbl := List.mem_append_right _ (List.mem_append_right _ (List.mem_append_right _ (List.mem_append_left _ (List.mem_of_getElem? (l := tables_1_3) (i := 114) rfl))))
set_option maxRecDepth 100000 in
theorem cw_207 : Jvm.Cond.code yX4_rewritten cX4_rewritten 6 (rty 1) ∈ lw_tbl := List.mem_append_right _ (List.mem_append_right _ (List.mem_append_right _ (List.mem_append_left _ (List.mem_of_getElem? (l := tables_1_3) (i := 129) rfl))))
set_option maxRecDepth 100000 in
theorem cw_208 : Jvm.Cond.code yX4_goOnFromWhole cX4_goOnFromWhole 5 (rty 0) ∈ lw_tbl := List.mem_append_right _ (List.mem_append_right _ (List.mem_append_right _ (List.mem_append_left _ (List.mem_of_getElem? (l := tables_1_3) (i := 177) rfl))))
set_option maxRecDepth 100000 in
theorem cw_209 : Jvm.Cond.code yX4_walk cX4_walk 3 (rty 0) ∈ lw_tbl := List.mem_append_right _ (List.mem_append_right _ (List.mem_append_right _ (List.mem_append_left _ (List.mem_of_getElem? (l := tables_1_3) (i := 154) rfl))))
set_option maxRecDepth 100000 in
theorem cw_210 : Jvm.Cond.code yX4_endWalk cX4_endWalk 3 (rty 0) ∈ lw_tbl := List.mem_append_right _ (List.mem_append_right _ (List.mem_append_right _ (List.mem_append_left _ (List.mem_of_getElem? (l := tables_1_3) (i := 169) rfl))))
set_option maxRecDepth 100000 in
theorem cw_211 : Jvm.Cond.code yX4_walkerOf cX4_walkerOf 3 (rty 1) ∈ lw_tbl := List.mem_append_right _ (List.mem_append_right _ (List.mem_append_right _ (List.mem_append_left _ (List.mem_of_getElem? (l := tables_1_3) (i := 160) rfl))))
set_option maxRecDepth 100000 in
theorem cw_212 : Jvm.Cond.code yX4_mayPassOver cX4_mayPassOver 3 (rty 2) ∈ lw_tbl := List.mem_append_right _ (List.mem_append_right _ (List.mem_append_right _ (List.mem_append_left _ (List.mem_of_getElem? (l := tables_1_3) (i := 165) rfl))))
set_option maxRecDepth 100000 in
theorem cw_213 : Jvm.Cond.code yX4_goOnFromFirst cX4_goOnFromFirst 5 (rty 0) ∈ lw_tbl := List.mem_append_right _ (List.mem_append_right _ (List.mem_append_right _ (List.mem_append_left _ (List.mem_of_getElem? (l := tables_1_3) (i := 185) rfl))))
set_option maxRecDepth 100000 in
theorem cw_214 : Jvm.Cond.code yX4_goOnFromSecond cX4_goOnFromSecond 2 (rty 0) ∈ lw_tbl := List.mem_append_right _ (List.mem_append_right _ (List.mem_append_right _ (List.mem_append_left _ (List.mem_of_getElem? (l := tables_1_3) (i := 197) rfl))))
set_option maxRecDepth 100000 in
theorem cw_215 : Jvm.Cond.code yX4_join cX4_join 9 (rty 0) ∈ lw_tbl := List.mem_append_right _ (List.mem_append_right _ (List.mem_append_right _ (List.mem_append_left _ (List.mem_of_getElem? (l := tables_1_3) (i := 191) rfl))))
set_option maxRecDepth 100000 in
theorem cw_216 : Jvm.Cond.code yX4_goOnFromWalk cX4_goOnFromWalk 3 (rty 0) ∈ lw_tbl := List.mem_append_right _ (List.mem_append_right _ (List.mem_append_right _ (List.mem_append_left _ (List.mem_of_getElem? (l := tables_1_3) (i := 201) rfl))))
set_option maxRecDepth 100000 in
theorem cw_217 : Jvm.Cond.code yX5_isThere cX5_isThere 1 (rty 2) ∈ lw_tbl := List.mem_append_right _ (List.mem_append_right _ (List.mem_append_left _ (List.mem_of_getElem? (l := tables_1_2) (i := 131) rfl)))
set_option maxRecDepth 100000 in
theorem cw_218 : Jvm.Cond.code yX5_heldBy cX5_heldBy 2 (rty 1) ∈ lw_tbl := List.mem_append_right _ (List.mem_append_right _ (List.mem_append_right _ (List.mem_append_right _ (List.mem_append_left _ (List.mem_of_getElem? (l := tables_1_4) (i := 30) rfl)))))
set_option maxRecDepth 100000 in
theorem cw_219 : Jvm.Cond.code yX5_holdsRow cX5_holdsRow 2 (rty 2) ∈ lw_tbl := List.mem_append_right _ (List.mem_append_right _ (List.mem_append_right _ (List.mem_append_right _ (List.mem_append_right _ (List.mem_append_left _ (List.mem_of_getElem? (l := tables_1_5) (i := 193) rfl))))))
set_option maxRecDepth 100000 in
theorem cw_220 : Jvm.Cond.code yX5_holdsStrategy cX5_holdsStrategy 2 (rty 2) ∈ lw_tbl := List.mem_append_right _ (List.mem_append_right _ (List.mem_append_right _ (List.mem_append_right _ (List.mem_append_left _ (List.mem_of_getElem? (l := tables_1_4) (i := 26) rfl)))))
set_option maxRecDepth 100000 in
theorem cw_221 : Jvm.Cond.code yX5_rowRefusal cX5_rowRefusal 2 (rty 1) ∈ lw_tbl := List.mem_append_right _ (List.mem_append_right _ (List.mem_append_right _ (List.mem_append_right _ (List.mem_append_right _ (List.mem_append_left _ (List.mem_of_getElem? (l := tables_1_5) (i := 189) rfl))))))
set_option maxRecDepth 100000 in
theorem cw_222 : Jvm.Cond.code yX5_sizeOf cX5_sizeOf 2 (rty 1) ∈ lw_tbl := List.mem_append_right _ (List.mem_append_right _ (List.mem_append_right _ (List.mem_append_right _ (List.mem_append_right _ (List.mem_append_left _ (List.mem_of_getElem? (l := tables_1_5) (i := 197) rfl))))))
set_option maxRecDepth 100000 in
theorem cw_223 : Jvm.Cond.code yX5_lay cX5_lay 5 (rty 0) ∈ lw_tbl := List.mem_append_right _ (List.mem_append_right _ (List.mem_append_left _ (List.mem_of_getElem? (l := tables_1_2) (i := 145) rfl)))
set_option maxRecDepth 100000 in
theorem cw_225 : Jvm.Cond.code yX5_elementAt cX5_elementAt 3 (rty 3) ∈ lw_tbl := List.mem_append_right _ (List.mem_append_right _ (List.mem_append_right _ (List.mem_append_right _ (List.mem_append_right _ (List.mem_append_left _ (List.mem_of_getElem? (l := tables_1_5) (i := 221) rfl))))))
set_option maxRecDepth 100000 in
theorem cw_226 : Jvm.Cond.code yX5_intAt cX5_intAt 3 (rty 1) ∈ lw_tbl := List.mem_append_right _ (List.mem_append_right _ (List.mem_append_right _ (List.mem_append_right _ (List.mem_append_right _ (List.mem_append_left _ (List.mem_of_getElem? (l := tables_1_5) (i := 217) rfl))))))
set_option maxRecDepth 100000 in
theorem cw_227 : Jvm.Cond.code yX5_change cX5_change 5 (rty 0) ∈ lw_tbl := List.mem_append_right _ (List.mem_append_right _ (List.mem_append_right _ (List.mem_append_right _ (List.mem_append_right _ (List.mem_append_left _ (List.mem_of_getElem? (l := tables_1_5) (i := 201) rfl))))))
set_option maxRecDepth 100000 in
theorem cw_228 : Jvm.Cond.code yX5_lowestBits cX5_lowestBits 3 (rty 3) ∈ lw_tbl := List.mem_append_right _ (List.mem_append_right _ (List.mem_append_right _ (List.mem_append_right _ (List.mem_append_right _ (List.mem_append_left _ (List.mem_of_getElem? (l := tables_1_5) (i := 204) rfl))))))
set_option maxRecDepth 100000 in
theorem cw_230 : Jvm.Cond.code yX5_forgetStrategiesFrom cX5_forgetStrategiesFrom 3 (rty 0) ∈ lw_tbl := List.mem_append_right _ (List.mem_append_right _ (List.mem_append_right _ (List.mem_append_right _ (List.mem_append_left _ (List.mem_of_getElem? (l := tables_1_4) (i := 22) rfl)))))
set_option maxRecDepth 100000 in
theorem cw_231 : Jvm.Cond.code yX6_at cX6_at 2 (rty 1) ∈ lw_tbl := List.mem_append_right _ (List.mem_append_right _ (List.mem_append_left _ (List.mem_of_getElem? (l := tables_1_2) (i := 183) rfl)))
set_option maxRecDepth 100000 in
theorem cw_232 : Jvm.Cond.code yX6_write cX6_write 3 (rty 0) ∈ lw_tbl := List.mem_append_right _ (List.mem_append_right _ (List.mem_append_left _ (List.mem_of_getElem? (l := tables_1_2) (i := 207) rfl)))
set_option maxRecDepth 100000 in
theorem cw_233 : Jvm.Cond.code yX6_end cX6_end 5 (rty 1) ∈ lw_tbl := List.mem_append_right _ (List.mem_append_right _ (List.mem_append_left _ (List.mem_of_getElem? (l := tables_1_2) (i := 179) rfl)))
set_option maxRecDepth 100000 in
theorem cw_234 : Jvm.Cond.code yX6_sizeAt cX6_sizeAt 2 (rty 1) ∈ lw_tbl := List.mem_append_right _ (List.mem_append_right _ (List.mem_append_left _ (List.mem_of_getElem? (l := tables_1_2) (i := 226) rfl)))
set_option maxRecDepth 100000 in
theorem cw_235 : Jvm.Cond.code yX6_alike cX6_alike 6 (rty 2) ∈ lw_tbl := List.mem_append_right _ (List.mem_append_right _ (List.mem_append_right _ (List.mem_append_left _ (List.mem_of_getElem? (l := tables_1_3) (i := 17) rfl))))
set_option maxRecDepth 100000 in
theorem cw_236 : Jvm.Cond.code yX6_variablesAt cX6_variablesAt 5 (rty 1) ∈ lw_tbl := List.mem_append_right _ (List.mem_append_right _ (List.mem_append_left _ (List.mem_of_getElem? (l := tables_1_2) (i := 175) rfl)))
set_option maxRecDepth 100000 in
theorem cw_237 : Jvm.Cond.code yX6_append cX6_append 3 (rty 1) ∈ lw_tbl := List.mem_append_right _ (List.mem_append_right _ (List.mem_append_left _ (List.mem_of_getElem? (l := tables_1_2) (i := 199) rfl)))
set_option maxRecDepth 100000 in
theorem cw_238 : Jvm.Cond.code yX6_appendCells cX6_appendCells 5 (rty 1) ∈ lw_tbl := List.mem_append_right _ (List.mem_append_right _ (List.mem_append_left _ (List.mem_of_getElem? (l := tables_1_2) (i := 203) rfl)))
set_option maxRecDepth 100000 in
theorem cw_239 : Jvm.Cond.code yX6_takeFrom cX6_takeFrom 5 (rty 0) ∈ lw_tbl := List.mem_append_right _ (List.mem_append_right _ (List.mem_append_right _ (List.mem_append_right _ (List.mem_append_left _ (List.mem_of_getElem? (l := tables_1_4) (i := 10) rfl)))))
set_option maxRecDepth 100000 in
theorem cw_240 : Jvm.Cond.code yX7_hasTerm cX7_hasTerm 2 (rty 2) ∈ lw_tbl := List.mem_append_right _ (List.mem_append_right _ (List.mem_append_left _ (List.mem_of_getElem? (l := tables_1_2) (i := 168) rfl)))
set_option maxRecDepth 100000 in
theorem cw_241 : Jvm.Cond.code yX7_hasRule cX7_hasRule 2 (rty 2) ∈ lw_tbl := List.mem_append_right _ (List.mem_append_right _ (List.mem_append_left _ (List.mem_of_getElem? (l := tables_1_2) (i := 218) rfl)))
set_option maxRecDepth 100000 in
theorem cw_242 : Jvm.Cond.code yX7_hasStrategy cX7_hasStrategy 2 (rty 2) ∈ lw_tbl := List.mem_append_right _ (List.mem_append_right _ (List.mem_append_right _ (List.mem_append_left _ (List.mem_of_getElem? (l := tables_1_3) (i := 62) rfl))))
set_option maxRecDepth 100000 in
theorem cw_243 : Jvm.Cond.code yX7_addTerm cX7_addTerm 2 (rty 1) ∈ lw_tbl := List.mem_append_right _ (List.mem_append_right _ (List.mem_append_right _ (List.mem_append_left _ (List.mem_of_getElem? (l := tables_1_3) (i := 49) rfl))))
set_option maxRecDepth 100000 in
theorem cw_244 : Jvm.Cond.code yX7_addRule cX7_addRule 3 (rty 1) ∈ lw_tbl := List.mem_append_right _ (List.mem_append_right _ (List.mem_append_left _ (List.mem_of_getElem? (l := tables_1_2) (i := 192) rfl)))
set_option maxRecDepth 100000 in
theorem cw_245 : Jvm.Cond.code yX7_addStrategy cX7_addStrategy 4 (rty 1) ∈ lw_tbl := List.mem_append_right _ (List.mem_append_right _ (List.mem_append_right _ (List.mem_append_left _ (List.mem_of_getElem? (l := tables_1_3) (i := 69) rfl))))
set_option maxRecDepth 100000 in
theorem cw_246 : Jvm.Cond.code yX7_writeStrategy cX7_writeStrategy 8 (rty 0) ∈ lw_tbl := List.mem_append_right _ (List.mem_append_right _ (List.mem_append_right _ (List.mem_append_left _ (List.mem_of_getElem? (l := tables_1_3) (i := 73) rfl))))
set_option maxRecDepth 100000 in
theorem cw_247 : Jvm.Cond.code yX7_buildInnermost cX7_buildInnermost 3 (rty 1) ∈ lw_tbl := List.mem_append_right _ (List.mem_append_right _ (List.mem_append_right _ (List.mem_append_right _ (List.mem_append_right _ (List.mem_append_right _ (List.mem_append_right _ (List.mem_of_getElem? (l := tables_1_7) (i := 3) rfl)))))))
set_option maxRecDepth 100000 in
theorem cw_248 : Jvm.Cond.code yX7_kindOf cX7_kindOf 2 (rty 1) ∈ lw_tbl := List.mem_append_right _ (List.mem_append_right _ (List.mem_append_right _ (List.mem_append_left _ (List.mem_of_getElem? (l := tables_1_3) (i := 118) rfl))))
set_option maxRecDepth 100000 in
theorem cw_249 : Jvm.Cond.code yX7_firstOf cX7_firstOf 2 (rty 1) ∈ lw_tbl := List.mem_append_right _ (List.mem_append_right _ (List.mem_append_right _ (List.mem_append_left _ (List.mem_of_getElem? (l := tables_1_3) (i := 122) rfl))))
set_option maxRecDepth 100000 in
theorem cw_250 : Jvm.Cond.code yX7_secondOf cX7_secondOf 2 (rty 1) ∈ lw_tbl := List.mem_append_right _ (List.mem_append_right _ (List.mem_append_right _ (List.mem_append_left _ (List.mem_of_getElem? (l := tables_1_3) (i := 181) rfl))))
set_option maxRecDepth 100000 in
theorem cw_251 : Jvm.Cond.code yX7_weightOf cX7_weightOf 2 (rty 1) ∈ lw_tbl := List.mem_append_right _ (List.mem_append_right _ (List.mem_append_right _ (List.mem_append_left _ (List.mem_of_getElem? (l := tables_1_3) (i := 78) rfl))))
set_option maxRecDepth 100000 in
theorem cw_252 : Jvm.Cond.code yX7_draw cX7_draw 2 (rty 1) ∈ lw_tbl := List.mem_append_right _ (List.mem_append_right _ (List.mem_append_right _ (List.mem_append_left _ (List.mem_of_getElem? (l := tables_1_3) (i := 224) rfl))))
set_option maxRecDepth 100000 in
theorem cw_253 : Jvm.Cond.code yX7_takeFrom cX7_takeFrom 2 (rty 0) ∈ lw_tbl := List.mem_append_right _ (List.mem_append_right _ (List.mem_append_right _ (List.mem_append_right _ (List.mem_append_left _ (List.mem_of_getElem? (l := tables_1_4) (i := 6) rfl)))))
set_option maxRecDepth 100000 in
theorem cw_254 : Jvm.Cond.code yX8_add cX8_add 4 (rty 0) ∈ lw_tbl := List.mem_append_right _ (List.mem_append_right _ (List.mem_append_right _ (List.mem_append_left _ (List.mem_of_getElem? (l := tables_1_3) (i := 137) rfl))))
set_option maxRecDepth 100000 in
theorem cw_255 : Jvm.Cond.code yX8_cut cX8_cut 2 (rty 0) ∈ lw_tbl := List.mem_append_right _ (List.mem_append_right _ (List.mem_append_right _ (List.mem_append_left _ (List.mem_of_getElem? (l := tables_1_3) (i := 99) rfl))))
set_option maxRecDepth 100000 in
theorem cw_256 : Jvm.Cond.code yX8_ruleAt cX8_ruleAt 2 (rty 1) ∈ lw_tbl := List.mem_append_right _ (List.mem_append_right _ (List.mem_append_right _ (List.mem_append_left _ (List.mem_of_getElem? (l := tables_1_3) (i := 209) rfl))))
set_option maxRecDepth 100000 in
theorem cw_257 : Jvm.Cond.code yX8_pathAt cX8_pathAt 2 (rty 3) ∈ lw_tbl := List.mem_append_right _ (List.mem_append_right _ (List.mem_append_right _ (List.mem_append_left _ (List.mem_of_getElem? (l := tables_1_3) (i := 214) rfl))))
set_option maxRecDepth 100000 in
theorem cw_258 : Jvm.Cond.code yX8_takeFrom cX8_takeFrom 3 (rty 0) ∈ lw_tbl := List.mem_append_right _ (List.mem_append_right _ (List.mem_append_right _ (List.mem_append_left _ (List.mem_of_getElem? (l := tables_1_3) (i := 205) rfl))))
set_option maxRecDepth 100000 in
theorem cw_259 : Jvm.Cond.code yX9_unifies cX9_unifies 5 (rty 2) ∈ lw_tbl := List.mem_append_right _ (List.mem_append_right _ (List.mem_append_right _ (List.mem_append_right _ (List.mem_append_right _ (List.mem_append_right _ (List.mem_append_left _ (List.mem_of_getElem? (l := tables_1_6) (i := 136) rfl)))))))
set_option maxRecDepth 100000 in
theorem cw_260 : Jvm.Cond.code yX9_clear cX9_clear 2 (rty 0) ∈ lw_tbl := List.mem_append_right _ (List.mem_append_right _ (List.mem_append_right _ (List.mem_append_right _ (List.mem_append_right _ (List.mem_append_right _ (List.mem_append_left _ (List.mem_of_getElem? (l := tables_1_6) (i := 140) rfl)))))))
set_option maxRecDepth 100000 in
theorem cw_261 : Jvm.Cond.code yX9_load cX9_load 6 (rty 0) ∈ lw_tbl := List.mem_append_right _ (List.mem_append_right _ (List.mem_append_right _ (List.mem_append_right _ (List.mem_append_right _ (List.mem_append_right _ (List.mem_append_left _ (List.mem_of_getElem? (l := tables_1_6) (i := 146) rfl)))))))
set_option maxRecDepth 100000 in
theorem cw_262 : Jvm.Cond.code yX9_putOff cX9_putOff 3 (rty 0) ∈ lw_tbl := List.mem_append_right _ (List.mem_append_right _ (List.mem_append_right _ (List.mem_append_right _ (List.mem_append_right _ (List.mem_append_right _ (List.mem_append_left _ (List.mem_of_getElem? (l := tables_1_6) (i := 154) rfl)))))))
set_option maxRecDepth 100000 in
theorem cw_263 : Jvm.Cond.code yX9_joins cX9_joins 8 (rty 2) ∈ lw_tbl := List.mem_append_right _ (List.mem_append_right _ (List.mem_append_right _ (List.mem_append_right _ (List.mem_append_right _ (List.mem_append_right _ (List.mem_append_left _ (List.mem_of_getElem? (l := tables_1_6) (i := 159) rfl)))))))
set_option maxRecDepth 100000 in
theorem cw_264 : Jvm.Cond.code yX9_idOf cX9_idOf 3 (rty 1) ∈ lw_tbl := List.mem_append_right _ (List.mem_append_right _ (List.mem_append_right _ (List.mem_append_right _ (List.mem_append_right _ (List.mem_append_right _ (List.mem_append_left _ (List.mem_of_getElem? (l := tables_1_6) (i := 163) rfl)))))))
set_option maxRecDepth 100000 in
theorem cw_265 : Jvm.Cond.code yX9_root cX9_root 4 (rty 1) ∈ lw_tbl := List.mem_append_right _ (List.mem_append_right _ (List.mem_append_right _ (List.mem_append_right _ (List.mem_append_right _ (List.mem_append_right _ (List.mem_append_left _ (List.mem_of_getElem? (l := tables_1_6) (i := 168) rfl)))))))
set_option maxRecDepth 100000 in
theorem cw_266 : Jvm.Cond.code yX9_isWithoutCircle cX9_isWithoutCircle 5 (rty 2) ∈ lw_tbl := List.mem_append_right _ (List.mem_append_right _ (List.mem_append_right _ (List.mem_append_right _ (List.mem_append_right _ (List.mem_append_right _ (List.mem_append_left _ (List.mem_of_getElem? (l := tables_1_6) (i := 172) rfl)))))))
set_option maxRecDepth 100000 in
theorem cw_267 : Jvm.Cond.code yX9_settles cX9_settles 4 (rty 2) ∈ lw_tbl := List.mem_append_right _ (List.mem_append_right _ (List.mem_append_right _ (List.mem_append_right _ (List.mem_append_right _ (List.mem_append_right _ (List.mem_append_left _ (List.mem_of_getElem? (l := tables_1_6) (i := 176) rfl)))))))
set_option maxRecDepth 100000 in
theorem cw_268 : Jvm.Cond.code yX9_writeTo cX9_writeTo 2 (rty 0) ∈ lw_tbl := List.mem_append_right _ (List.mem_append_right _ (List.mem_append_right _ (List.mem_append_right _ (List.mem_append_right _ (List.mem_append_right _ (List.mem_append_left _ (List.mem_of_getElem? (l := tables_1_6) (i := 180) rfl)))))))
set_option maxRecDepth 100000 in
theorem cw_269 : Jvm.Cond.code yX9_write cX9_write 6 (rty 0) ∈ lw_tbl := List.mem_append_right _ (List.mem_append_right _ (List.mem_append_right _ (List.mem_append_right _ (List.mem_append_right _ (List.mem_append_right _ (List.mem_append_left _ (List.mem_of_getElem? (l := tables_1_6) (i := 184) rfl)))))))
set_option maxRecDepth 100000 in
theorem cw_270 : Jvm.Cond.code yX9_writeSign cX9_writeSign 2 (rty 0) ∈ lw_tbl := List.mem_append_right _ (List.mem_append_right _ (List.mem_append_right _ (List.mem_append_right _ (List.mem_append_right _ (List.mem_append_right _ (List.mem_append_left _ (List.mem_of_getElem? (l := tables_1_6) (i := 196) rfl)))))))
set_option maxRecDepth 100000 in
theorem cw_271 : Jvm.Cond.code yX9_writeClass cX9_writeClass 7 (rty 0) ∈ lw_tbl := List.mem_append_right _ (List.mem_append_right _ (List.mem_append_right _ (List.mem_append_right _ (List.mem_append_right _ (List.mem_append_right _ (List.mem_append_left _ (List.mem_of_getElem? (l := tables_1_6) (i := 188) rfl)))))))
set_option maxRecDepth 100000 in
theorem cw_272 : Jvm.Cond.code yX9_nameOf cX9_nameOf 2 (rty 1) ∈ lw_tbl := List.mem_append_right _ (List.mem_append_right _ (List.mem_append_right _ (List.mem_append_right _ (List.mem_append_right _ (List.mem_append_right _ (List.mem_append_left _ (List.mem_of_getElem? (l := tables_1_6) (i := 192) rfl)))))))
set_option maxRecDepth 100000 in
theorem cw_273 : Jvm.Cond.code yJ6_bitCount_0f7a4 cJ6_bitCount_0f7a4 1 (rty 1) ∈ lw_tbl := List.mem_append_right _ (List.mem_append_right _ (List.mem_append_right _ (List.mem_append_right _ (List.mem_append_right _ (List.mem_append_right _ (List.mem_append_left _ (List.mem_of_getElem? (l := tables_1_6) (i := 125) rfl)))))))
set_option maxRecDepth 100000 in
theorem cw_274 : Jvm.Cond.code yJ7_fill_53178 cJ7_fill_53178 4 (rty 0) ∈ lw_tbl := List.mem_append_right _ (List.mem_append_left _ (List.mem_of_getElem? (l := tables_1_1) (i := 99) rfl))
set_option maxRecDepth 100000 in
theorem cw_275 : Jvm.Cond.code yJ7_fill_d0a16 cJ7_fill_d0a16 5 (rty 0) ∈ lw_tbl := List.mem_append_right _ (List.mem_append_right _ (List.mem_append_right _ (List.mem_append_right _ (List.mem_append_right _ (List.mem_append_right _ (List.mem_append_left _ (List.mem_of_getElem? (l := tables_1_6) (i := 81) rfl)))))))
theorem cwa_0 : ∀ mt ∈ mtl_0, Jvm.Cond.code mt.2.1 mt.2.2.1 mt.2.2.2.1 (rty mt.2.2.2.2.1) ∈ TW := List.forall_mem_cons.mpr ⟨TW_mem cw_3 rfl, List.forall_mem_cons.mpr ⟨TW_mem cw_4 rfl, List.forall_mem_cons.mpr ⟨TW_mem cw_3 rfl, List.forall_mem_cons.mpr ⟨TW_mem cw_3 rfl, List.forall_mem_cons.mpr ⟨TW_mem cw_3 rfl, List.forall_mem_cons.mpr ⟨TW_mem cw_3 rfl, List.forall_mem_cons.mpr ⟨TW_mem cw_3 rfl, List.forall_mem_cons.mpr ⟨TW_mem cw_3 rfl, List.forall_mem_cons.mpr ⟨TW_mem cw_3 rfl, List.forall_mem_cons.mpr ⟨TW_mem cw_12 rfl, List.forall_mem_cons.mpr ⟨TW_mem cw_13 rfl, List.forall_mem_cons.mpr ⟨TW_mem cw_14 rfl, List.forall_mem_cons.mpr ⟨TW_mem cw_15 rfl, List.forall_mem_cons.mpr ⟨TW_mem cw_16 rfl, List.forall_mem_cons.mpr ⟨TW_mem cw_17 rfl, List.forall_mem_cons.mpr ⟨TW_mem cw_18 rfl, List.forall_mem_cons.mpr ⟨TW_mem cw_19 rfl, List.forall_mem_cons.mpr ⟨TW_mem cw_20 rfl, List.forall_mem_cons.mpr ⟨TW_mem cw_3 rfl, List.forall_mem_cons.mpr ⟨TW_mem cw_22 rfl, List.forall_mem_cons.mpr ⟨TW_mem cw_23 rfl, List.forall_mem_cons.mpr ⟨TW_mem cw_24 rfl, List.forall_mem_cons.mpr ⟨TW_mem cw_25 rfl, List.forall_mem_cons.mpr ⟨TW_mem cw_26 rfl, List.forall_mem_cons.mpr ⟨TW_mem cw_27 rfl, fun _ h => absurd h List.not_mem_nil⟩⟩⟩⟩⟩⟩⟩⟩⟩⟩⟩⟩⟩⟩⟩⟩⟩⟩⟩⟩⟩⟩⟩⟩⟩
theorem cwa_1 : ∀ mt ∈ mtl_1, Jvm.Cond.code mt.2.1 mt.2.2.1 mt.2.2.2.1 (rty mt.2.2.2.2.1) ∈ TW := List.forall_mem_cons.mpr ⟨TW_mem cw_28 rfl, List.forall_mem_cons.mpr ⟨TW_mem cw_29 rfl, List.forall_mem_cons.mpr ⟨TW_mem cw_30 rfl, List.forall_mem_cons.mpr ⟨TW_mem cw_31 rfl, List.forall_mem_cons.mpr ⟨TW_mem cw_32 rfl, List.forall_mem_cons.mpr ⟨TW_mem cw_33 rfl, List.forall_mem_cons.mpr ⟨TW_mem cw_34 rfl, List.forall_mem_cons.mpr ⟨TW_mem cw_35 rfl, List.forall_mem_cons.mpr ⟨TW_mem cw_36 rfl, List.forall_mem_cons.mpr ⟨TW_mem cw_37 rfl, List.forall_mem_cons.mpr ⟨TW_mem cw_38 rfl, List.forall_mem_cons.mpr ⟨TW_mem cw_39 rfl, List.forall_mem_cons.mpr ⟨TW_mem cw_40 rfl, List.forall_mem_cons.mpr ⟨TW_mem cw_41 rfl, List.forall_mem_cons.mpr ⟨TW_mem cw_42 rfl, List.forall_mem_cons.mpr ⟨TW_mem cw_43 rfl, List.forall_mem_cons.mpr ⟨TW_mem cw_44 rfl, List.forall_mem_cons.mpr ⟨TW_mem cw_45 rfl, List.forall_mem_cons.mpr ⟨TW_mem cw_46 rfl, List.forall_mem_cons.mpr ⟨TW_mem cw_3 rfl, List.forall_mem_cons.mpr ⟨TW_mem cw_3 rfl, List.forall_mem_cons.mpr ⟨TW_mem cw_49 rfl, List.forall_mem_cons.mpr ⟨TW_mem cw_50 rfl, List.forall_mem_cons.mpr ⟨TW_mem cw_51 rfl, List.forall_mem_cons.mpr ⟨TW_mem cw_52 rfl, fun _ h => absurd h List.not_mem_nil⟩⟩⟩⟩⟩⟩⟩⟩⟩⟩⟩⟩⟩⟩⟩⟩⟩⟩⟩⟩⟩⟩⟩⟩⟩
theorem cwa_2 : ∀ mt ∈ mtl_2, Jvm.Cond.code mt.2.1 mt.2.2.1 mt.2.2.2.1 (rty mt.2.2.2.2.1) ∈ TW := List.forall_mem_cons.mpr ⟨TW_mem cw_53 rfl, List.forall_mem_cons.mpr ⟨TW_mem cw_54 rfl, List.forall_mem_cons.mpr ⟨TW_mem cw_55 rfl, List.forall_mem_cons.mpr ⟨TW_mem cw_56 rfl, List.forall_mem_cons.mpr ⟨TW_mem cw_57 rfl, List.forall_mem_cons.mpr ⟨TW_mem cw_58 rfl, List.forall_mem_cons.mpr ⟨TW_mem cw_59 rfl, List.forall_mem_cons.mpr ⟨TW_mem cw_60 rfl, List.forall_mem_cons.mpr ⟨TW_mem cw_61 rfl, List.forall_mem_cons.mpr ⟨TW_mem cw_62 rfl, List.forall_mem_cons.mpr ⟨TW_mem cw_63 rfl, List.forall_mem_cons.mpr ⟨TW_mem cw_64 rfl, List.forall_mem_cons.mpr ⟨TW_mem cw_65 rfl, List.forall_mem_cons.mpr ⟨TW_mem cw_66 rfl, List.forall_mem_cons.mpr ⟨TW_mem cw_67 rfl, List.forall_mem_cons.mpr ⟨TW_mem cw_68 rfl, List.forall_mem_cons.mpr ⟨TW_mem cw_69 rfl, List.forall_mem_cons.mpr ⟨TW_mem cw_70 rfl, List.forall_mem_cons.mpr ⟨TW_mem cw_71 rfl, List.forall_mem_cons.mpr ⟨TW_mem cw_72 rfl, List.forall_mem_cons.mpr ⟨TW_mem cw_73 rfl, List.forall_mem_cons.mpr ⟨TW_mem cw_74 rfl, List.forall_mem_cons.mpr ⟨TW_mem cw_75 rfl, List.forall_mem_cons.mpr ⟨TW_mem cw_76 rfl, List.forall_mem_cons.mpr ⟨TW_mem cw_77 rfl, fun _ h => absurd h List.not_mem_nil⟩⟩⟩⟩⟩⟩⟩⟩⟩⟩⟩⟩⟩⟩⟩⟩⟩⟩⟩⟩⟩⟩⟩⟩⟩
theorem cwa_3 : ∀ mt ∈ mtl_3, Jvm.Cond.code mt.2.1 mt.2.2.1 mt.2.2.2.1 (rty mt.2.2.2.2.1) ∈ TW := List.forall_mem_cons.mpr ⟨TW_mem cw_78 rfl, List.forall_mem_cons.mpr ⟨TW_mem cw_3 rfl, List.forall_mem_cons.mpr ⟨TW_mem cw_3 rfl, List.forall_mem_cons.mpr ⟨TW_mem cw_3 rfl, List.forall_mem_cons.mpr ⟨TW_mem cw_3 rfl, List.forall_mem_cons.mpr ⟨TW_mem cw_3 rfl, List.forall_mem_cons.mpr ⟨TW_mem cw_3 rfl, List.forall_mem_cons.mpr ⟨TW_mem cw_3 rfl, List.forall_mem_cons.mpr ⟨TW_mem cw_3 rfl, List.forall_mem_cons.mpr ⟨TW_mem cw_3 rfl, List.forall_mem_cons.mpr ⟨TW_mem cw_3 rfl, List.forall_mem_cons.mpr ⟨TW_mem cw_3 rfl, List.forall_mem_cons.mpr ⟨TW_mem cw_3 rfl, List.forall_mem_cons.mpr ⟨TW_mem cw_3 rfl, List.forall_mem_cons.mpr ⟨TW_mem cw_3 rfl, List.forall_mem_cons.mpr ⟨TW_mem cw_3 rfl, List.forall_mem_cons.mpr ⟨TW_mem cw_3 rfl, List.forall_mem_cons.mpr ⟨TW_mem cw_3 rfl, List.forall_mem_cons.mpr ⟨TW_mem cw_3 rfl, List.forall_mem_cons.mpr ⟨TW_mem cw_3 rfl, List.forall_mem_cons.mpr ⟨TW_mem cw_3 rfl, List.forall_mem_cons.mpr ⟨TW_mem cw_3 rfl, List.forall_mem_cons.mpr ⟨TW_mem cw_3 rfl, List.forall_mem_cons.mpr ⟨TW_mem cw_3 rfl, List.forall_mem_cons.mpr ⟨TW_mem cw_3 rfl, fun _ h => absurd h List.not_mem_nil⟩⟩⟩⟩⟩⟩⟩⟩⟩⟩⟩⟩⟩⟩⟩⟩⟩⟩⟩⟩⟩⟩⟩⟩⟩
theorem cwa_4 : ∀ mt ∈ mtl_4, Jvm.Cond.code mt.2.1 mt.2.2.1 mt.2.2.2.1 (rty mt.2.2.2.2.1) ∈ TW := List.forall_mem_cons.mpr ⟨TW_mem cw_3 rfl, List.forall_mem_cons.mpr ⟨TW_mem cw_3 rfl, List.forall_mem_cons.mpr ⟨TW_mem cw_3 rfl, List.forall_mem_cons.mpr ⟨TW_mem cw_3 rfl, List.forall_mem_cons.mpr ⟨TW_mem cw_3 rfl, List.forall_mem_cons.mpr ⟨TW_mem cw_3 rfl, List.forall_mem_cons.mpr ⟨TW_mem cw_3 rfl, List.forall_mem_cons.mpr ⟨TW_mem cw_3 rfl, List.forall_mem_cons.mpr ⟨TW_mem cw_3 rfl, List.forall_mem_cons.mpr ⟨TW_mem cw_3 rfl, List.forall_mem_cons.mpr ⟨TW_mem cw_3 rfl, List.forall_mem_cons.mpr ⟨TW_mem cw_3 rfl, List.forall_mem_cons.mpr ⟨TW_mem cw_3 rfl, List.forall_mem_cons.mpr ⟨TW_mem cw_3 rfl, List.forall_mem_cons.mpr ⟨TW_mem cw_3 rfl, List.forall_mem_cons.mpr ⟨TW_mem cw_3 rfl, List.forall_mem_cons.mpr ⟨TW_mem cw_3 rfl, List.forall_mem_cons.mpr ⟨TW_mem cw_3 rfl, List.forall_mem_cons.mpr ⟨TW_mem cw_3 rfl, List.forall_mem_cons.mpr ⟨TW_mem cw_3 rfl, List.forall_mem_cons.mpr ⟨TW_mem cw_3 rfl, List.forall_mem_cons.mpr ⟨TW_mem cw_3 rfl, List.forall_mem_cons.mpr ⟨TW_mem cw_3 rfl, List.forall_mem_cons.mpr ⟨TW_mem cw_3 rfl, List.forall_mem_cons.mpr ⟨TW_mem cw_3 rfl, fun _ h => absurd h List.not_mem_nil⟩⟩⟩⟩⟩⟩⟩⟩⟩⟩⟩⟩⟩⟩⟩⟩⟩⟩⟩⟩⟩⟩⟩⟩⟩
theorem cwa_5 : ∀ mt ∈ mtl_5, Jvm.Cond.code mt.2.1 mt.2.2.1 mt.2.2.2.1 (rty mt.2.2.2.2.1) ∈ TW := List.forall_mem_cons.mpr ⟨TW_mem cw_3 rfl, List.forall_mem_cons.mpr ⟨TW_mem cw_3 rfl, List.forall_mem_cons.mpr ⟨TW_mem cw_3 rfl, List.forall_mem_cons.mpr ⟨TW_mem cw_3 rfl, List.forall_mem_cons.mpr ⟨TW_mem cw_3 rfl, List.forall_mem_cons.mpr ⟨TW_mem cw_3 rfl, List.forall_mem_cons.mpr ⟨TW_mem cw_3 rfl, List.forall_mem_cons.mpr ⟨TW_mem cw_3 rfl, List.forall_mem_cons.mpr ⟨TW_mem cw_3 rfl, List.forall_mem_cons.mpr ⟨TW_mem cw_3 rfl, List.forall_mem_cons.mpr ⟨TW_mem cw_3 rfl, List.forall_mem_cons.mpr ⟨TW_mem cw_3 rfl, List.forall_mem_cons.mpr ⟨TW_mem cw_3 rfl, List.forall_mem_cons.mpr ⟨TW_mem cw_3 rfl, List.forall_mem_cons.mpr ⟨TW_mem cw_3 rfl, List.forall_mem_cons.mpr ⟨TW_mem cw_3 rfl, List.forall_mem_cons.mpr ⟨TW_mem cw_3 rfl, List.forall_mem_cons.mpr ⟨TW_mem cw_3 rfl, List.forall_mem_cons.mpr ⟨TW_mem cw_3 rfl, List.forall_mem_cons.mpr ⟨TW_mem cw_3 rfl, List.forall_mem_cons.mpr ⟨TW_mem cw_3 rfl, List.forall_mem_cons.mpr ⟨TW_mem cw_3 rfl, List.forall_mem_cons.mpr ⟨TW_mem cw_3 rfl, List.forall_mem_cons.mpr ⟨TW_mem cw_3 rfl, List.forall_mem_cons.mpr ⟨TW_mem cw_3 rfl, fun _ h => absurd h List.not_mem_nil⟩⟩⟩⟩⟩⟩⟩⟩⟩⟩⟩⟩⟩⟩⟩⟩⟩⟩⟩⟩⟩⟩⟩⟩⟩
theorem cwa_6 : ∀ mt ∈ mtl_6, Jvm.Cond.code mt.2.1 mt.2.2.1 mt.2.2.2.1 (rty mt.2.2.2.2.1) ∈ TW := List.forall_mem_cons.mpr ⟨TW_mem cw_3 rfl, List.forall_mem_cons.mpr ⟨TW_mem cw_3 rfl, List.forall_mem_cons.mpr ⟨TW_mem cw_3 rfl, List.forall_mem_cons.mpr ⟨TW_mem cw_3 rfl, List.forall_mem_cons.mpr ⟨TW_mem cw_3 rfl, List.forall_mem_cons.mpr ⟨TW_mem cw_3 rfl, List.forall_mem_cons.mpr ⟨TW_mem cw_3 rfl, List.forall_mem_cons.mpr ⟨TW_mem cw_3 rfl, List.forall_mem_cons.mpr ⟨TW_mem cw_3 rfl, List.forall_mem_cons.mpr ⟨TW_mem cw_3 rfl, List.forall_mem_cons.mpr ⟨TW_mem cw_3 rfl, List.forall_mem_cons.mpr ⟨TW_mem cw_3 rfl, List.forall_mem_cons.mpr ⟨TW_mem cw_3 rfl, List.forall_mem_cons.mpr ⟨TW_mem cw_3 rfl, List.forall_mem_cons.mpr ⟨TW_mem cw_3 rfl, List.forall_mem_cons.mpr ⟨TW_mem cw_3 rfl, List.forall_mem_cons.mpr ⟨TW_mem cw_3 rfl, List.forall_mem_cons.mpr ⟨TW_mem cw_3 rfl, List.forall_mem_cons.mpr ⟨TW_mem cw_3 rfl, List.forall_mem_cons.mpr ⟨TW_mem cw_3 rfl, List.forall_mem_cons.mpr ⟨TW_mem cw_3 rfl, List.forall_mem_cons.mpr ⟨TW_mem cw_3 rfl, List.forall_mem_cons.mpr ⟨TW_mem cw_3 rfl, List.forall_mem_cons.mpr ⟨TW_mem cw_3 rfl, List.forall_mem_cons.mpr ⟨TW_mem cw_3 rfl, fun _ h => absurd h List.not_mem_nil⟩⟩⟩⟩⟩⟩⟩⟩⟩⟩⟩⟩⟩⟩⟩⟩⟩⟩⟩⟩⟩⟩⟩⟩⟩
theorem cwa_7 : ∀ mt ∈ mtl_7, Jvm.Cond.code mt.2.1 mt.2.2.1 mt.2.2.2.1 (rty mt.2.2.2.2.1) ∈ TW := List.forall_mem_cons.mpr ⟨TW_mem cw_3 rfl, List.forall_mem_cons.mpr ⟨TW_mem cw_3 rfl, List.forall_mem_cons.mpr ⟨TW_mem cw_180 rfl, List.forall_mem_cons.mpr ⟨TW_mem cw_181 rfl, List.forall_mem_cons.mpr ⟨TW_mem cw_182 rfl, List.forall_mem_cons.mpr ⟨TW_mem cw_183 rfl, List.forall_mem_cons.mpr ⟨TW_mem cw_184 rfl, List.forall_mem_cons.mpr ⟨TW_mem cw_185 rfl, List.forall_mem_cons.mpr ⟨TW_mem cw_186 rfl, List.forall_mem_cons.mpr ⟨TW_mem cw_187 rfl, List.forall_mem_cons.mpr ⟨TW_mem cw_188 rfl, List.forall_mem_cons.mpr ⟨TW_mem cw_189 rfl, List.forall_mem_cons.mpr ⟨TW_mem cw_190 rfl, List.forall_mem_cons.mpr ⟨TW_mem cw_191 rfl, List.forall_mem_cons.mpr ⟨TW_mem cw_192 rfl, List.forall_mem_cons.mpr ⟨TW_mem cw_193 rfl, List.forall_mem_cons.mpr ⟨TW_mem cw_194 rfl, List.forall_mem_cons.mpr ⟨TW_mem cw_195 rfl, List.forall_mem_cons.mpr ⟨TW_mem cw_196 rfl, List.forall_mem_cons.mpr ⟨TW_mem cw_197 rfl, List.forall_mem_cons.mpr ⟨TW_mem cw_198 rfl, List.forall_mem_cons.mpr ⟨TW_mem cw_199 rfl, List.forall_mem_cons.mpr ⟨TW_mem cw_200 rfl, List.forall_mem_cons.mpr ⟨TW_mem cw_201 rfl, List.forall_mem_cons.mpr ⟨TW_mem cw_202 rfl, fun _ h => absurd h List.not_mem_nil⟩⟩⟩⟩⟩⟩⟩⟩⟩⟩⟩⟩⟩⟩⟩⟩⟩⟩⟩⟩⟩⟩⟩⟩⟩
theorem cwa_8 : ∀ mt ∈ mtl_8, Jvm.Cond.code mt.2.1 mt.2.2.1 mt.2.2.2.1 (rty mt.2.2.2.2.1) ∈ TW := List.forall_mem_cons.mpr ⟨TW_mem cw_203 rfl, List.forall_mem_cons.mpr ⟨TW_mem cw_204 rfl, List.forall_mem_cons.mpr ⟨TW_mem cw_205 rfl, List.forall_mem_cons.mpr ⟨TW_mem cw_206 rfl, List.forall_mem_cons.mpr ⟨TW_mem cw_207 rfl, List.forall_mem_cons.mpr ⟨TW_mem cw_208 rfl, List.forall_mem_cons.mpr ⟨TW_mem cw_209 rfl, List.forall_mem_cons.mpr ⟨TW_mem cw_210 rfl, List.forall_mem_cons.mpr ⟨TW_mem cw_211 rfl, List.forall_mem_cons.mpr ⟨TW_mem cw_212 rfl, List.forall_mem_cons.mpr ⟨TW_mem cw_213 rfl, List.forall_mem_cons.mpr ⟨TW_mem cw_214 rfl, List.forall_mem_cons.mpr ⟨TW_mem cw_215 rfl, List.forall_mem_cons.mpr ⟨TW_mem cw_216 rfl, List.forall_mem_cons.mpr ⟨TW_mem cw_217 rfl, List.forall_mem_cons.mpr ⟨TW_mem cw_218 rfl, List.forall_mem_cons.mpr ⟨TW_mem cw_219 rfl, List.forall_mem_cons.mpr ⟨TW_mem cw_220 rfl, List.forall_mem_cons.mpr ⟨TW_mem cw_221 rfl, List.forall_mem_cons.mpr ⟨TW_mem cw_222 rfl, List.forall_mem_cons.mpr ⟨TW_mem cw_223 rfl, List.forall_mem_cons.mpr ⟨TW_mem cw_3 rfl, List.forall_mem_cons.mpr ⟨TW_mem cw_225 rfl, List.forall_mem_cons.mpr ⟨TW_mem cw_226 rfl, List.forall_mem_cons.mpr ⟨TW_mem cw_227 rfl, fun _ h => absurd h List.not_mem_nil⟩⟩⟩⟩⟩⟩⟩⟩⟩⟩⟩⟩⟩⟩⟩⟩⟩⟩⟩⟩⟩⟩⟩⟩⟩
theorem cwa_9 : ∀ mt ∈ mtl_9, Jvm.Cond.code mt.2.1 mt.2.2.1 mt.2.2.2.1 (rty mt.2.2.2.2.1) ∈ TW := List.forall_mem_cons.mpr ⟨TW_mem cw_228 rfl, List.forall_mem_cons.mpr ⟨TW_mem cw_3 rfl, List.forall_mem_cons.mpr ⟨TW_mem cw_230 rfl, List.forall_mem_cons.mpr ⟨TW_mem cw_231 rfl, List.forall_mem_cons.mpr ⟨TW_mem cw_232 rfl, List.forall_mem_cons.mpr ⟨TW_mem cw_233 rfl, List.forall_mem_cons.mpr ⟨TW_mem cw_234 rfl, List.forall_mem_cons.mpr ⟨TW_mem cw_235 rfl, List.forall_mem_cons.mpr ⟨TW_mem cw_236 rfl, List.forall_mem_cons.mpr ⟨TW_mem cw_237 rfl, List.forall_mem_cons.mpr ⟨TW_mem cw_238 rfl, List.forall_mem_cons.mpr ⟨TW_mem cw_239 rfl, List.forall_mem_cons.mpr ⟨TW_mem cw_240 rfl, List.forall_mem_cons.mpr ⟨TW_mem cw_241 rfl, List.forall_mem_cons.mpr ⟨TW_mem cw_242 rfl, List.forall_mem_cons.mpr ⟨TW_mem cw_243 rfl, List.forall_mem_cons.mpr ⟨TW_mem cw_244 rfl, List.forall_mem_cons.mpr ⟨TW_mem cw_245 rfl, List.forall_mem_cons.mpr ⟨TW_mem cw_246 rfl, List.forall_mem_cons.mpr ⟨TW_mem cw_247 rfl, List.forall_mem_cons.mpr ⟨TW_mem cw_248 rfl, List.forall_mem_cons.mpr ⟨TW_mem cw_249 rfl, List.forall_mem_cons.mpr ⟨TW_mem cw_250 rfl, List.forall_mem_cons.mpr ⟨TW_mem cw_251 rfl, List.forall_mem_cons.mpr ⟨TW_mem cw_252 rfl, fun _ h => absurd h List.not_mem_nil⟩⟩⟩⟩⟩⟩⟩⟩⟩⟩⟩⟩⟩⟩⟩⟩⟩⟩⟩⟩⟩⟩⟩⟩⟩
theorem cwa_10 : ∀ mt ∈ mtl_10, Jvm.Cond.code mt.2.1 mt.2.2.1 mt.2.2.2.1 (rty mt.2.2.2.2.1) ∈ TW := List.forall_mem_cons.mpr ⟨TW_mem cw_253 rfl, List.forall_mem_cons.mpr ⟨TW_mem cw_254 rfl, List.forall_mem_cons.mpr ⟨TW_mem cw_255 rfl, List.forall_mem_cons.mpr ⟨TW_mem cw_256 rfl, List.forall_mem_cons.mpr ⟨TW_mem cw_257 rfl, List.forall_mem_cons.mpr ⟨TW_mem cw_258 rfl, List.forall_mem_cons.mpr ⟨TW_mem cw_259 rfl, List.forall_mem_cons.mpr ⟨TW_mem cw_260 rfl, List.forall_mem_cons.mpr ⟨TW_mem cw_261 rfl, List.forall_mem_cons.mpr ⟨TW_mem cw_262 rfl, List.forall_mem_cons.mpr ⟨TW_mem cw_263 rfl, List.forall_mem_cons.mpr ⟨TW_mem cw_264 rfl, List.forall_mem_cons.mpr ⟨TW_mem cw_265 rfl, List.forall_mem_cons.mpr ⟨TW_mem cw_266 rfl, List.forall_mem_cons.mpr ⟨TW_mem cw_267 rfl, List.forall_mem_cons.mpr ⟨TW_mem cw_268 rfl, List.forall_mem_cons.mpr ⟨TW_mem cw_269 rfl, List.forall_mem_cons.mpr ⟨TW_mem cw_270 rfl, List.forall_mem_cons.mpr ⟨TW_mem cw_271 rfl, List.forall_mem_cons.mpr ⟨TW_mem cw_272 rfl, List.forall_mem_cons.mpr ⟨TW_mem cw_273 rfl, List.forall_mem_cons.mpr ⟨TW_mem cw_274 rfl, List.forall_mem_cons.mpr ⟨TW_mem cw_275 rfl, fun _ h => absurd h List.not_mem_nil⟩⟩⟩⟩⟩⟩⟩⟩⟩⟩⟩⟩⟩⟩⟩⟩⟩⟩⟩⟩⟩⟩⟩
theorem zip_of {α β : Type} : ∀ (l : List α) (r : List β), l.length = r.length → ∀ x ∈ l, ∃ y, (x, y) ∈ l.zip r
  | [], _, _, x, h => absurd h List.not_mem_nil
  | a :: l, [], h, _, _ => by simp at h
  | a :: l, b :: r, h, x, hx => by
    rcases List.mem_cons.mp hx with rfl | hx
    · exact ⟨b, List.mem_cons_self⟩
    · obtain ⟨y, hy⟩ := zip_of l r (by simpa using h) x hx
      exact ⟨y, List.mem_cons_of_mem _ hy⟩
theorem mt_spec {z : MT × Nat × Nat × Nat × Nat} (hc : Jvm.Cond.code z.1.2.1 z.1.2.2.1 z.1.2.2.2.1 (rty z.1.2.2.2.2.1) ∈ TW) (h : mtB z = true) : MtP nmF TW z.1 := by
  obtain ⟨mt, i1, i2, i3, i4⟩ := z
  simp only [mtB, Bool.and_eq_true, decide_eq_true_eq] at h
  obtain ⟨h1, h2, h3, h4, h5, h6, h8, h9⟩ := h
  refine ⟨h1, h2, ⟨h3, h4, h5⟩, h6, hc, TW_at h8 rfl, ?_⟩
  show if mt.2.2.2.2.2.1 = true then _ else _
  split at h9
  · rename_i hs
    rw [if_pos hs]
    exact TW_at (of_decide_eq_true h9) rfl
  · rename_i hs
    rw [if_neg hs]
    simp only [Bool.and_eq_true, decide_eq_true_eq] at h9
    exact ⟨TW_at h9.1 rfl, TW_at h9.2 rfl⟩
theorem pf_ok : ∀ q ∈ pfl, FldP nmF TW NFl q := by
  intro q hq
  obtain ⟨⟨q2, i⟩, hz, rfl⟩ := List.mem_map.mp hq
  have h := pfk _ hz
  simp only [fldB] at h
  split at h
  · rename_i C T N hc
    simp only [Bool.and_eq_true, decide_eq_true_eq] at h
    refine ⟨C, T, N, hc, h.1, ?_⟩
    have h2 := h.2
    split at h2
    · exact Or.inl (TW_at (of_decide_eq_true h2) rfl)
    · obtain ⟨z, hz1, hz2⟩ := List.any_eq_true.mp h2
      exact Or.inr ⟨z.2.2.2.2.2, by rw [of_decide_eq_true hz2]; exact hz1⟩
  · cases h
theorem pk_ok : ∀ q ∈ pkl, CstP nmF TW q := by
  intro q hq
  obtain ⟨⟨q2, i⟩, hz, rfl⟩ := List.mem_map.mp hq
  have h := pkk _ hz
  simp only [cstB] at h
  unfold CstP
  split at h
  · rename_i hb
    rw [if_pos hb]
    exact TW_at (of_decide_eq_true h) rfl
  · rename_i hb
    rw [if_neg hb]
    exact TW_at (of_decide_eq_true h) rfl
theorem pm_ok : ∀ q ∈ pml, MthP nmF TW NMl GG q := by
  intro q hq
  obtain ⟨⟨q2, i⟩, hz, rfl⟩ := List.mem_map.mp hq
  have h := pmk _ hz
  simp only [mthB] at h
  unfold MthP
  split at h
  · rename_i hb
    rw [if_pos hb]
    simp only [Bool.and_eq_true, decide_eq_true_eq, beq_iff_eq] at h
    obtain ⟨h1, h2, h3, h4, h5, h6, h7⟩ := h
    exact ⟨h1, h2, h3, TW_mem h4 rfl, TW_mem h5 rfl, TW_mem h6 rfl, TW_mem h7 rfl⟩
  rename_i hb
  rw [if_neg hb]
  split at h
  · rename_i hb
    rw [if_pos hb]
    simp only [Bool.and_eq_true, decide_eq_true_eq, beq_iff_eq] at h
    obtain ⟨h1, h2, h3, h4, h5, h6, h7⟩ := h
    exact ⟨h1, h2, h3, TW_mem h4 rfl, TW_mem h5 rfl, TW_mem h6 rfl, TW_mem h7 rfl⟩
  rename_i hb
  rw [if_neg hb]
  split at h
  · rename_i hb
    rw [if_pos hb]
    simp only [Bool.and_eq_true, decide_eq_true_eq, beq_iff_eq] at h
    obtain ⟨h1, h2, h3, h4, h5, h6, h7⟩ := h
    exact ⟨h1, h2, h3, TW_mem h4 rfl, TW_mem h5 rfl, TW_mem h6 rfl, TW_mem h7 rfl⟩
  · rename_i hb
    rw [if_neg hb]
    split at h
    · rename_i mt hG
      simp only [Bool.and_eq_true, decide_eq_true_eq] at h
      obtain ⟨h1, h2, h3, h4⟩ := h
      refine ⟨mt, hG, h1, h2, ?_, ?_⟩
      · split at h3
        · exact Or.inl (TW_at (of_decide_eq_true h3) rfl)
        · obtain ⟨z, hz1, hz2⟩ := List.any_eq_true.mp h3
          exact Or.inr ⟨z.2.2.2, by rw [of_decide_eq_true hz2]; exact hz1⟩
      · split at h4
        · rename_i hs
          rw [if_pos hs]
          exact of_decide_eq_true h4
        · rename_i hs
          rw [if_neg hs]
          simp only [Bool.and_eq_true, decide_eq_true_eq] at h4
          refine ⟨h4.1, ?_⟩
          have h5 := h4.2
          split at h5
          · rename_i C T N hc
            have h6 : C = mt.2.1.cls := of_decide_eq_true h5
            subst h6
            exact ⟨T, N, hc⟩
          · cases h5
    · cases h
theorem GG_mem {id : Nat} {mt : MT} (h : GG id = some mt) : mt ∈ mtl := by
  unfold GG at h
  split at h
  · exact List.mem_of_getElem? h
  · cases h
theorem mtl_all {Pr : MT → Prop} (h0 : ∀ mt ∈ mtl_0, Pr mt) (h1 : ∀ mt ∈ mtl_1, Pr mt) (h2 : ∀ mt ∈ mtl_2, Pr mt) (h3 : ∀ mt ∈ mtl_3, Pr mt) (h4 : ∀ mt ∈ mtl_4, Pr mt) (h5 : ∀ mt ∈ mtl_5, Pr mt) (h6 : ∀ mt ∈ mtl_6, Pr mt) (h7 : ∀ mt ∈ mtl_7, Pr mt) (h8 : ∀ mt ∈ mtl_8, Pr mt) (h9 : ∀ mt ∈ mtl_9, Pr mt) (h10 : ∀ mt ∈ mtl_10, Pr mt) : ∀ mt ∈ mtl, Pr mt := by
  intro mt h
  rcases List.mem_append.mp h with h | h
  · exact h0 mt h
  rcases List.mem_append.mp h with h | h
  · exact h1 mt h
  rcases List.mem_append.mp h with h | h
  · exact h2 mt h
  rcases List.mem_append.mp h with h | h
  · exact h3 mt h
  rcases List.mem_append.mp h with h | h
  · exact h4 mt h
  rcases List.mem_append.mp h with h | h
  · exact h5 mt h
  rcases List.mem_append.mp h with h | h
  · exact h6 mt h
  rcases List.mem_append.mp h with h | h
  · exact h7 mt h
  rcases List.mem_append.mp h with h | h
  · exact h8 mt h
  rcases List.mem_append.mp h with h | h
  · exact h9 mt h
  exact h10 mt h
theorem mt_ok : ∀ mt ∈ mtl, MtP nmF TW mt := mtl_all (fun mt h => by obtain ⟨y, hy⟩ := zip_of _ _ mtn_0 mt h; exact mt_spec (cwa_0 mt h) (List.all_eq_true.mp mtk_0 _ hy)) (fun mt h => by obtain ⟨y, hy⟩ := zip_of _ _ mtn_1 mt h; exact mt_spec (cwa_1 mt h) (List.all_eq_true.mp mtk_1 _ hy)) (fun mt h => by obtain ⟨y, hy⟩ := zip_of _ _ mtn_2 mt h; exact mt_spec (cwa_2 mt h) (List.all_eq_true.mp mtk_2 _ hy)) (fun mt h => by obtain ⟨y, hy⟩ := zip_of _ _ mtn_3 mt h; exact mt_spec (cwa_3 mt h) (List.all_eq_true.mp mtk_3 _ hy)) (fun mt h => by obtain ⟨y, hy⟩ := zip_of _ _ mtn_4 mt h; exact mt_spec (cwa_4 mt h) (List.all_eq_true.mp mtk_4 _ hy)) (fun mt h => by obtain ⟨y, hy⟩ := zip_of _ _ mtn_5 mt h; exact mt_spec (cwa_5 mt h) (List.all_eq_true.mp mtk_5 _ hy)) (fun mt h => by obtain ⟨y, hy⟩ := zip_of _ _ mtn_6 mt h; exact mt_spec (cwa_6 mt h) (List.all_eq_true.mp mtk_6 _ hy)) (fun mt h => by obtain ⟨y, hy⟩ := zip_of _ _ mtn_7 mt h; exact mt_spec (cwa_7 mt h) (List.all_eq_true.mp mtk_7 _ hy)) (fun mt h => by obtain ⟨y, hy⟩ := zip_of _ _ mtn_8 mt h; exact mt_spec (cwa_8 mt h) (List.all_eq_true.mp mtk_8 _ hy)) (fun mt h => by obtain ⟨y, hy⟩ := zip_of _ _ mtn_9 mt h; exact mt_spec (cwa_9 mt h) (List.all_eq_true.mp mtk_9 _ hy)) (fun mt h => by obtain ⟨y, hy⟩ := zip_of _ _ mtn_10 mt h; exact mt_spec (cwa_10 mt h) (List.all_eq_true.mp mtk_10 _ hy))
theorem cl_ok : ClOk TW := by
  intro ci C T N h
  have hm : ∀ {w : Jvm.Cond} {C : String} {T : u_T} {N : Nat}, ((List.range N).map (u_lay C T)).all (fun w => decide (w ∈ lw_tbl) && goodWord w) = true → w ∈ u_ws C T N → w ∈ TW := by
    intro w C T N h1 h2
    have h3 := List.all_eq_true.mp h1 w h2
    simp only [Bool.and_eq_true, decide_eq_true_eq] at h3
    exact TW_mem h3.1 h3.2
  match ci, h with
  | 0, h => cases h; exact ⟨fun w hw => hm (by decide +kernel) hw, nmX0, tyX0, tyX0_ok⟩
  | 1, h => cases h; exact ⟨fun w hw => hm (by decide +kernel) hw, nmX1, tyX1, tyX1_ok⟩
  | 2, h => cases h; exact ⟨fun w hw => hm (by decide +kernel) hw, nmX2, tyX2, tyX2_ok⟩
  | 3, h => cases h; exact ⟨fun w hw => hm (by decide +kernel) hw, nmX3, tyX3, tyX3_ok⟩
  | 4, h => cases h; exact ⟨fun w hw => hm (by decide +kernel) hw, nmX4, tyX4, tyX4_ok⟩
  | 5, h => cases h; exact ⟨fun w hw => hm (by decide +kernel) hw, nmX5, tyX5, tyX5_ok⟩
  | 6, h => cases h; exact ⟨fun w hw => hm (by decide +kernel) hw, nmX6, tyX6, tyX6_ok⟩
  | 7, h => cases h; exact ⟨fun w hw => hm (by decide +kernel) hw, nmX7, tyX7, tyX7_ok⟩
  | 8, h => cases h; exact ⟨fun w hw => hm (by decide +kernel) hw, nmX8, tyX8, tyX8_ok⟩
  | 9, h => cases h; exact ⟨fun w hw => hm (by decide +kernel) hw, nmX9, tyX9, tyX9_ok⟩
  | 10, h => cases h; exact ⟨fun w hw => hm (by decide +kernel) hw, nmX10, tyX10, tyX10_ok⟩
  | 11, h => cases h; exact ⟨fun w hw => hm (by decide +kernel) hw, nmJ0, tyJ0, tyJ0_ok⟩
  | 12, h => cases h; exact ⟨fun w hw => hm (by decide +kernel) hw, nmJ4, tyJ4, tyJ4_ok⟩
  | k + 13, h => cases h
def layB (x : SH) : Bool := match x with
  | .inl (ci, ks) => match vwCl[ci]? with
    | some (_, T, N) => decide (ks.length = N) && (List.range N).all (fun j => match ks[j]? with
      | some kd => if kd < 3 then (!(T j).2.2.2) && decide (parseFieldDescriptor (T j).2.2.1 = some (kty kd)) else true
      | none => false)
    | none => false
  | _ => true
theorem lay_okl {l : List SH} (hl : l.all layB = true) : LayOk l := by
  intro k ci ks h
  have h1 := List.all_eq_true.mp hl _ (List.mem_of_getElem? h)
  simp only [layB] at h1
  split at h1
  · rename_i C T N hc
    simp only [Bool.and_eq_true, decide_eq_true_eq] at h1
    obtain ⟨h2, h3⟩ := h1
    refine ⟨C, T, N, hc, h2, fun j kd hj hk => ?_⟩
    have hl : j < ks.length := (List.getElem?_eq_some_iff.mp hj).1
    have h4 := List.all_eq_true.mp h3 j (List.mem_range.mpr (by omega))
    rw [hj] at h4
    simp only [if_pos hk, Bool.and_eq_true, decide_eq_true_eq, Bool.not_eq_true'] at h4
    exact h4
  · cases h1
/-- the system's cells and the law's row of 80 ints behind them -/
def laz : List SH := lay ++ [.inr (false, 80)]
theorem lay_ok : LayOk lay := lay_okl (by decide +kernel)
theorem laz_ok : LayOk laz := lay_okl (by decide +kernel)
