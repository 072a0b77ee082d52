/-! constructors: what those that call others stand on (laid by wip/gen/con3.py) -/
theorem uw_0 : ∀ w ∈ u_ws RX0 TX0 4, w ∈ TW := (tk.2.2.2.1 0 _ _ _ rfl).1
theorem uw_1 : ∀ w ∈ u_ws RX1 TX1 4, w ∈ TW := (tk.2.2.2.1 1 _ _ _ rfl).1
theorem uw_2 : ∀ w ∈ u_ws RX2 TX2 6, w ∈ TW := (tk.2.2.2.1 2 _ _ _ rfl).1
theorem uw_3 : ∀ w ∈ u_ws RX3 TX3 5, w ∈ TW := (tk.2.2.2.1 3 _ _ _ rfl).1
theorem uw_4 : ∀ w ∈ u_ws RX4 TX4 17, w ∈ TW := (tk.2.2.2.1 4 _ _ _ rfl).1
theorem uw_5 : ∀ w ∈ u_ws RX5 TX5 3, w ∈ TW := (tk.2.2.2.1 5 _ _ _ rfl).1
theorem uw_6 : ∀ w ∈ u_ws RX6 TX6 1, w ∈ TW := (tk.2.2.2.1 6 _ _ _ rfl).1
theorem uw_7 : ∀ w ∈ u_ws RX7 TX7 10, w ∈ TW := (tk.2.2.2.1 7 _ _ _ rfl).1
theorem uw_8 : ∀ w ∈ u_ws RX8 TX8 3, w ∈ TW := (tk.2.2.2.1 8 _ _ _ rfl).1
theorem uw_9 : ∀ w ∈ u_ws RX9 TX9 13, w ∈ TW := (tk.2.2.2.1 9 _ _ _ rfl).1
theorem uw_10 : ∀ w ∈ u_ws RX10 TX10 14, w ∈ TW := (tk.2.2.2.1 10 _ _ _ rfl).1
set_option maxRecDepth 100000 in
theorem cw_X10 : Jvm.Cond.code yX10_init cX10_init 1 none ∈ TW := TW_mem (List.mem_append_right _ (List.mem_append_left _ (List.mem_of_getElem? (l := tables_1_1) (i := 28) rfl))) rfl
set_option maxRecDepth 100000 in
theorem cw_X7 : Jvm.Cond.code yX7_init cX7_init 2 none ∈ TW := TW_mem (List.mem_append_right _ (List.mem_append_left _ (List.mem_of_getElem? (l := tables_1_1) (i := 36) rfl))) rfl
set_option maxRecDepth 100000 in
theorem cw_X6 : Jvm.Cond.code yX6_init cX6_init 2 none ∈ TW := TW_mem (List.mem_append_right _ (List.mem_append_left _ (List.mem_of_getElem? (l := tables_1_1) (i := 42) rfl))) rfl
set_option maxRecDepth 100000 in
theorem cw_X5 : Jvm.Cond.code yX5_init cX5_init 1 none ∈ TW := TW_mem (List.mem_append_right _ (List.mem_append_left _ (List.mem_of_getElem? (l := tables_1_1) (i := 95) rfl))) rfl
set_option maxRecDepth 100000 in
theorem cw_X3 : Jvm.Cond.code yX3_init cX3_init 3 none ∈ TW := TW_mem (List.mem_append_right _ (List.mem_append_left _ (List.mem_of_getElem? (l := tables_1_1) (i := 115) rfl))) rfl
set_option maxRecDepth 100000 in
theorem cw_X1 : Jvm.Cond.code yX1_init cX1_init 2 none ∈ TW := TW_mem (List.mem_append_right _ (List.mem_append_left _ (List.mem_of_getElem? (l := tables_1_1) (i := 137) rfl))) rfl
set_option maxRecDepth 100000 in
theorem cw_X0 : Jvm.Cond.code yX0_init cX0_init 2 none ∈ TW := TW_mem (List.mem_append_right _ (List.mem_append_left _ (List.mem_of_getElem? (l := tables_1_1) (i := 156) rfl))) rfl
set_option maxRecDepth 100000 in
theorem cw_X2 : Jvm.Cond.code yX2_init cX2_init 2 none ∈ TW := TW_mem (List.mem_append_right _ (List.mem_append_left _ (List.mem_of_getElem? (l := tables_1_1) (i := 175) rfl))) rfl
set_option maxRecDepth 100000 in
theorem cw_X4 : Jvm.Cond.code yX4_init cX4_init 3 none ∈ TW := TW_mem (List.mem_append_right _ (List.mem_append_left _ (List.mem_of_getElem? (l := tables_1_1) (i := 200) rfl))) rfl
set_option maxRecDepth 100000 in
theorem cw_X8 : Jvm.Cond.code yX8_init cX8_init 1 none ∈ TW := TW_mem (List.mem_append_right _ (List.mem_append_left _ (List.mem_of_getElem? (l := tables_1_1) (i := 206) rfl))) rfl
set_option maxRecDepth 100000 in
theorem cw_X9 : Jvm.Cond.code yX9_init cX9_init 2 none ∈ TW := TW_mem (List.mem_append_right _ (List.mem_append_right _ (List.mem_append_left _ (List.mem_of_getElem? (l := tables_1_2) (i := 37) rfl)))) rfl
theorem cw_fill : Jvm.Cond.code yJ7_fill_53178 cJ7_fill_53178 4 none ∈ TW := TW_mem cw_274 rfl
/-- what the constructors use of their nest mates -/
def Nst (U : State) : Prop := va_Nw (.methodLinkNest RX4 11 yX8_init RX10) U ∧ va_Nw (.methodLinkNest RX10 83 yX8_init RX10) U ∧ va_Nw (.fieldLinkNest RX10 21 RX7 "signs" "LTermStrategies$Signs;" RX10) U ∧ va_Nw (.fieldLinkNest RX4 65 RX7 "signs" "LTermStrategies$Signs;" RX10) U
theorem Nst.same {u U : State} (h : u.vm = U.vm) (hN : Nst u) : Nst U := ⟨va_Nw.same rfl h hN.1, va_Nw.same rfl h hN.2.1, va_Nw.same rfl h hN.2.2.1, va_Nw.same rfl h hN.2.2.2⟩
theorem Nst.warm {s U : State} (hW : s.WarmedH U.vm) (hN : Nst s) : Nst U := ⟨va_Nw.warmM hW hN.1, va_Nw.warmM hW hN.2.1, va_Nw.warmF hW hN.2.2.1, va_Nw.warmF hW hN.2.2.2⟩
def fl8 (v : Int32) : Nat → Int32 := fun j => if j < 8 then v else 0
theorem fl8_is (v : Int32) : (upd (upd (upd (upd (upd (upd (upd (upd (fun _ => 0) 0 v) 1 v) 2 v) 3 v) 4 v) 5 v) 6 v) 7 v) = fl8 v := by
  funext j
  unfold fl8 upd
  by_cases h : j < 8
  · rw [if_pos h]
    have h : j = 0 ∨ j = 1 ∨ j = 2 ∨ j = 3 ∨ j = 4 ∨ j = 5 ∨ j = 6 ∨ j = 7 := by omega
    rcases h with rfl | rfl | rfl | rfl | rfl | rfl | rfl | rfl <;> rfl
  · rw [if_neg h]
    repeat rw [if_neg (by omega)]
theorem d_fill_0 : decode cJ7_fill_53178 0 = .ok (.iconst 0, 1) := by decide +kernel
theorem d_fill_1 : decode cJ7_fill_53178 1 = .ok (.istore_n 2, 1) := by decide +kernel
theorem d_fill_2 : decode cJ7_fill_53178 2 = .ok (.aload_n 0, 1) := by decide +kernel
theorem d_fill_3 : decode cJ7_fill_53178 3 = .ok (.arraylength, 1) := by decide +kernel
theorem d_fill_4 : decode cJ7_fill_53178 4 = .ok (.istore_n 3, 1) := by decide +kernel
theorem d_fill_5 : decode cJ7_fill_53178 5 = .ok (.iload_n 2, 1) := by decide +kernel
theorem d_fill_6 : decode cJ7_fill_53178 6 = .ok (.iload_n 3, 1) := by decide +kernel
theorem d_fill_7 : decode cJ7_fill_53178 7 = .ok (.if_icmp .ge 13, 3) := by decide +kernel
theorem d_fill_10 : decode cJ7_fill_53178 10 = .ok (.aload_n 0, 1) := by decide +kernel
theorem d_fill_11 : decode cJ7_fill_53178 11 = .ok (.iload_n 2, 1) := by decide +kernel
theorem d_fill_12 : decode cJ7_fill_53178 12 = .ok (.iload_n 1, 1) := by decide +kernel
theorem d_fill_13 : decode cJ7_fill_53178 13 = .ok (.iastore, 1) := by decide +kernel
theorem d_fill_14 : decode cJ7_fill_53178 14 = .ok (.iinc 2 1, 3) := by decide +kernel
theorem d_fill_17 : decode cJ7_fill_53178 17 = .ok (.goto (-12), 3) := by decide +kernel
theorem d_fill_20 : decode cJ7_fill_53178 20 = .ok (.return_, 1) := by decide +kernel
set_option maxHeartbeats 4000000 in
set_option maxRecDepth 100000 in
theorem c_fill8 (l : Launch) (D : va_G) (cI cL : ClassId) (h0 sz : Nat) (v : Int32) : Met l yJ7_fill_53178 (wC yJ7_fill_53178 cJ7_fill_53178 4) ({ frames := 1, cells := 0, slots := 0, locals := 40 }) (va_Pc [.ref h0, .int v] (fun U => U.heap.size = sz ∧ va_P D vwCl [(h0, .inl (cI, 8, .inl (fun _ => 0)))] U.heap ∧ va_K D vwCl [(cI, .int), (cL, .long)] U ∧ va_D (fun _ => True) [(h0, .inl (cI, 8, .inl (fun _ => 0)))]))
    (va_Qv (fun _ : Unit => True) (fun _ t => va_P D vwCl [(h0, .inl (cI, 8, .inl (fl8 v)))] t.heap ∧ va_K D vwCl [(cI, .int), (cL, .long)] t ∧ va_D (va_A [(h0, .inl (cI, 8, .inl (fun _ => 0)))] sz) [(h0, .inl (cI, 8, .inl (fl8 v)))]) (va_A [(h0, .inl (cI, 8, .inl (fun _ => 0)))] sz)) 0 0 (va_A [(h0, .inl (cI, 8, .inl (fun _ => 0)))] sz) := by
  refine Met.ofW (cc := cJ7_fill_53178) (maxL := 4) (ret := none) (by decide) rfl ?_
  intro p e s m args below meth c s₁ B hml hv
  obtain ⟨rfl, hsz, hP, hK, hD0⟩ := hv
  have hx := B.exec
  have hb := B.bytes
  have hr := B.returns
  have hlocks := B.notSynchronized
  subst hsz
  have hD := hD0.self (sz := s.heap.size)
  generalize hAe : va_A [(h0, .inl (cI, 8, .inl (fun _ => 0)))] s.heap.size = A at hD ⊢
  have hA : ∀ q : Nat, s.heap.size ≤ q → A q := fun q h => by rw [← hAe]; exact Or.inr h
  have hS : va_S A s.heap s.heap [] := va_S.rf
  have hl := lv_entry ([.ref h0, .int v]) (n := 4) (Nat.le_of_ble_eq_true rfl)
  rw [lg_entry_eq]
  generalize (lg_sl ([.ref h0, .int v]) ++ List.replicate (4 - (lg_sl ([.ref h0, .int v])).length) Slot.unset).toArray = ls at hl ⊢
  have hl : lv_has ls 4 [(0, .ref h0), (1, .int v)] := hl
  refine lv_iconst (v := 0) hx hb d_fill_0 (by decide) ?_
  refine lv_istore_n (lv' := [(2, .int 0), (0, .ref h0), (1, .int v)]) hx hb d_fill_1 rfl hl (by decide) rfl (fun ls hl => ?_)
  refine lv_aload_n hx hb d_fill_2 rfl (lv_at hl 1 rfl) ?_
  refine va_alen (v := 8) hx hb hK hP 0 0 rfl rfl rfl d_fill_3 ?_
  refine lv_istore_n (lv' := [(3, .int 8), (2, .int 0), (0, .ref h0), (1, .int v)]) hx hb d_fill_4 rfl hl (by decide) rfl (fun ls hl => ?_)
  have hl : lv_has ls 4 [(2, .int 0), (3, .int 8), (0, .ref h0), (1, .int v)] := lv_sub hl [1, 0, 2, 3] rfl
  refine lv_iload_n hx hb d_fill_5 rfl (lv_at hl 0 rfl) ?_
  refine lv_iload_n hx hb d_fill_6 rfl (lv_at hl 1 rfl) ?_
  refine lv_icmp_ge (tgt := 20) hx hb d_fill_7 (by decide) (fun h9 => absurd h9 (by decide)) (fun _ => ?_)
  refine lv_aload_n hx hb d_fill_10 rfl (lv_at hl 2 rfl) ?_
  refine lv_iload_n hx hb d_fill_11 rfl (lv_at hl 0 rfl) ?_
  refine lv_iload_n hx hb d_fill_12 rfl (lv_at hl 3 rfl) ?_
  refine va_iast hx hb hK hP hD hS 0 0 rfl rfl (by unfold vp_in; decide) d_fill_13 (fun H locs hP hD hS => ?_)
  have hP : va_P D vwCl [(h0, .inl (cI, 8, .inl (upd (fun _ => 0) 0 v)))] H := hP
  have hD : va_D A [(h0, .inl (cI, 8, .inl (upd (fun _ => 0) 0 v)))] := hD
  refine lv_iinc (v := 1) (lv' := [(2, .int 1), (3, .int 8), (0, .ref h0), (1, .int v)]) hx hb d_fill_14 hl (k := 0) rfl (by decide) (by decide) rfl (fun ls hl => ?_)
  refine lv_goto (tgt := 5) hx hb d_fill_17 (by decide) ?_
  refine lv_iload_n hx hb d_fill_5 rfl (lv_at hl 0 rfl) ?_
  refine lv_iload_n hx hb d_fill_6 rfl (lv_at hl 1 rfl) ?_
  refine lv_icmp_ge (tgt := 20) hx hb d_fill_7 (by decide) (fun h9 => absurd h9 (by decide)) (fun _ => ?_)
  refine lv_aload_n hx hb d_fill_10 rfl (lv_at hl 2 rfl) ?_
  refine lv_iload_n hx hb d_fill_11 rfl (lv_at hl 0 rfl) ?_
  refine lv_iload_n hx hb d_fill_12 rfl (lv_at hl 3 rfl) ?_
  refine va_iast hx hb hK hP hD hS 0 0 rfl rfl (by unfold vp_in; decide) d_fill_13 (fun H locs hP hD hS => ?_)
  have hP : va_P D vwCl [(h0, .inl (cI, 8, .inl (upd (upd (fun _ => 0) 0 v) 1 v)))] H := hP
  have hD : va_D A [(h0, .inl (cI, 8, .inl (upd (upd (fun _ => 0) 0 v) 1 v)))] := hD
  refine lv_iinc (v := 2) (lv' := [(2, .int 2), (3, .int 8), (0, .ref h0), (1, .int v)]) hx hb d_fill_14 hl (k := 0) rfl (by decide) (by decide) rfl (fun ls hl => ?_)
  refine lv_goto (tgt := 5) hx hb d_fill_17 (by decide) ?_
  refine lv_iload_n hx hb d_fill_5 rfl (lv_at hl 0 rfl) ?_
  refine lv_iload_n hx hb d_fill_6 rfl (lv_at hl 1 rfl) ?_
  refine lv_icmp_ge (tgt := 20) hx hb d_fill_7 (by decide) (fun h9 => absurd h9 (by decide)) (fun _ => ?_)
  refine lv_aload_n hx hb d_fill_10 rfl (lv_at hl 2 rfl) ?_
  refine lv_iload_n hx hb d_fill_11 rfl (lv_at hl 0 rfl) ?_
  refine lv_iload_n hx hb d_fill_12 rfl (lv_at hl 3 rfl) ?_
  refine va_iast hx hb hK hP hD hS 0 0 rfl rfl (by unfold vp_in; decide) d_fill_13 (fun H locs hP hD hS => ?_)
  have hP : va_P D vwCl [(h0, .inl (cI, 8, .inl (upd (upd (upd (fun _ => 0) 0 v) 1 v) 2 v)))] H := hP
  have hD : va_D A [(h0, .inl (cI, 8, .inl (upd (upd (upd (fun _ => 0) 0 v) 1 v) 2 v)))] := hD
  refine lv_iinc (v := 3) (lv' := [(2, .int 3), (3, .int 8), (0, .ref h0), (1, .int v)]) hx hb d_fill_14 hl (k := 0) rfl (by decide) (by decide) rfl (fun ls hl => ?_)
  refine lv_goto (tgt := 5) hx hb d_fill_17 (by decide) ?_
  refine lv_iload_n hx hb d_fill_5 rfl (lv_at hl 0 rfl) ?_
  refine lv_iload_n hx hb d_fill_6 rfl (lv_at hl 1 rfl) ?_
  refine lv_icmp_ge (tgt := 20) hx hb d_fill_7 (by decide) (fun h9 => absurd h9 (by decide)) (fun _ => ?_)
  refine lv_aload_n hx hb d_fill_10 rfl (lv_at hl 2 rfl) ?_
  refine lv_iload_n hx hb d_fill_11 rfl (lv_at hl 0 rfl) ?_
  refine lv_iload_n hx hb d_fill_12 rfl (lv_at hl 3 rfl) ?_
  refine va_iast hx hb hK hP hD hS 0 0 rfl rfl (by unfold vp_in; decide) d_fill_13 (fun H locs hP hD hS => ?_)
  have hP : va_P D vwCl [(h0, .inl (cI, 8, .inl (upd (upd (upd (upd (fun _ => 0) 0 v) 1 v) 2 v) 3 v)))] H := hP
  have hD : va_D A [(h0, .inl (cI, 8, .inl (upd (upd (upd (upd (fun _ => 0) 0 v) 1 v) 2 v) 3 v)))] := hD
  refine lv_iinc (v := 4) (lv' := [(2, .int 4), (3, .int 8), (0, .ref h0), (1, .int v)]) hx hb d_fill_14 hl (k := 0) rfl (by decide) (by decide) rfl (fun ls hl => ?_)
  refine lv_goto (tgt := 5) hx hb d_fill_17 (by decide) ?_
  refine lv_iload_n hx hb d_fill_5 rfl (lv_at hl 0 rfl) ?_
  refine lv_iload_n hx hb d_fill_6 rfl (lv_at hl 1 rfl) ?_
  refine lv_icmp_ge (tgt := 20) hx hb d_fill_7 (by decide) (fun h9 => absurd h9 (by decide)) (fun _ => ?_)
  refine lv_aload_n hx hb d_fill_10 rfl (lv_at hl 2 rfl) ?_
  refine lv_iload_n hx hb d_fill_11 rfl (lv_at hl 0 rfl) ?_
  refine lv_iload_n hx hb d_fill_12 rfl (lv_at hl 3 rfl) ?_
  refine va_iast hx hb hK hP hD hS 0 0 rfl rfl (by unfold vp_in; decide) d_fill_13 (fun H locs hP hD hS => ?_)
  have hP : va_P D vwCl [(h0, .inl (cI, 8, .inl (upd (upd (upd (upd (upd (fun _ => 0) 0 v) 1 v) 2 v) 3 v) 4 v)))] H := hP
  have hD : va_D A [(h0, .inl (cI, 8, .inl (upd (upd (upd (upd (upd (fun _ => 0) 0 v) 1 v) 2 v) 3 v) 4 v)))] := hD
  refine lv_iinc (v := 5) (lv' := [(2, .int 5), (3, .int 8), (0, .ref h0), (1, .int v)]) hx hb d_fill_14 hl (k := 0) rfl (by decide) (by decide) rfl (fun ls hl => ?_)
  refine lv_goto (tgt := 5) hx hb d_fill_17 (by decide) ?_
  refine lv_iload_n hx hb d_fill_5 rfl (lv_at hl 0 rfl) ?_
  refine lv_iload_n hx hb d_fill_6 rfl (lv_at hl 1 rfl) ?_
  refine lv_icmp_ge (tgt := 20) hx hb d_fill_7 (by decide) (fun h9 => absurd h9 (by decide)) (fun _ => ?_)
  refine lv_aload_n hx hb d_fill_10 rfl (lv_at hl 2 rfl) ?_
  refine lv_iload_n hx hb d_fill_11 rfl (lv_at hl 0 rfl) ?_
  refine lv_iload_n hx hb d_fill_12 rfl (lv_at hl 3 rfl) ?_
  refine va_iast hx hb hK hP hD hS 0 0 rfl rfl (by unfold vp_in; decide) d_fill_13 (fun H locs hP hD hS => ?_)
  have hP : va_P D vwCl [(h0, .inl (cI, 8, .inl (upd (upd (upd (upd (upd (upd (fun _ => 0) 0 v) 1 v) 2 v) 3 v) 4 v) 5 v)))] H := hP
  have hD : va_D A [(h0, .inl (cI, 8, .inl (upd (upd (upd (upd (upd (upd (fun _ => 0) 0 v) 1 v) 2 v) 3 v) 4 v) 5 v)))] := hD
  refine lv_iinc (v := 6) (lv' := [(2, .int 6), (3, .int 8), (0, .ref h0), (1, .int v)]) hx hb d_fill_14 hl (k := 0) rfl (by decide) (by decide) rfl (fun ls hl => ?_)
  refine lv_goto (tgt := 5) hx hb d_fill_17 (by decide) ?_
  refine lv_iload_n hx hb d_fill_5 rfl (lv_at hl 0 rfl) ?_
  refine lv_iload_n hx hb d_fill_6 rfl (lv_at hl 1 rfl) ?_
  refine lv_icmp_ge (tgt := 20) hx hb d_fill_7 (by decide) (fun h9 => absurd h9 (by decide)) (fun _ => ?_)
  refine lv_aload_n hx hb d_fill_10 rfl (lv_at hl 2 rfl) ?_
  refine lv_iload_n hx hb d_fill_11 rfl (lv_at hl 0 rfl) ?_
  refine lv_iload_n hx hb d_fill_12 rfl (lv_at hl 3 rfl) ?_
  refine va_iast hx hb hK hP hD hS 0 0 rfl rfl (by unfold vp_in; decide) d_fill_13 (fun H locs hP hD hS => ?_)
  have hP : va_P D vwCl [(h0, .inl (cI, 8, .inl (upd (upd (upd (upd (upd (upd (upd (fun _ => 0) 0 v) 1 v) 2 v) 3 v) 4 v) 5 v) 6 v)))] H := hP
  have hD : va_D A [(h0, .inl (cI, 8, .inl (upd (upd (upd (upd (upd (upd (upd (fun _ => 0) 0 v) 1 v) 2 v) 3 v) 4 v) 5 v) 6 v)))] := hD
  refine lv_iinc (v := 7) (lv' := [(2, .int 7), (3, .int 8), (0, .ref h0), (1, .int v)]) hx hb d_fill_14 hl (k := 0) rfl (by decide) (by decide) rfl (fun ls hl => ?_)
  refine lv_goto (tgt := 5) hx hb d_fill_17 (by decide) ?_
  refine lv_iload_n hx hb d_fill_5 rfl (lv_at hl 0 rfl) ?_
  refine lv_iload_n hx hb d_fill_6 rfl (lv_at hl 1 rfl) ?_
  refine lv_icmp_ge (tgt := 20) hx hb d_fill_7 (by decide) (fun h9 => absurd h9 (by decide)) (fun _ => ?_)
  refine lv_aload_n hx hb d_fill_10 rfl (lv_at hl 2 rfl) ?_
  refine lv_iload_n hx hb d_fill_11 rfl (lv_at hl 0 rfl) ?_
  refine lv_iload_n hx hb d_fill_12 rfl (lv_at hl 3 rfl) ?_
  refine va_iast hx hb hK hP hD hS 0 0 rfl rfl (by unfold vp_in; decide) d_fill_13 (fun H locs hP hD hS => ?_)
  have hP : va_P D vwCl [(h0, .inl (cI, 8, .inl (upd (upd (upd (upd (upd (upd (upd (upd (fun _ => 0) 0 v) 1 v) 2 v) 3 v) 4 v) 5 v) 6 v) 7 v)))] H := hP
  have hD : va_D A [(h0, .inl (cI, 8, .inl (upd (upd (upd (upd (upd (upd (upd (upd (fun _ => 0) 0 v) 1 v) 2 v) 3 v) 4 v) 5 v) 6 v) 7 v)))] := hD
  refine lv_iinc (v := 8) (lv' := [(2, .int 8), (3, .int 8), (0, .ref h0), (1, .int v)]) hx hb d_fill_14 hl (k := 0) rfl (by decide) (by decide) rfl (fun ls hl => ?_)
  refine lv_goto (tgt := 5) hx hb d_fill_17 (by decide) ?_
  refine lv_iload_n hx hb d_fill_5 rfl (lv_at hl 0 rfl) ?_
  refine lv_iload_n hx hb d_fill_6 rfl (lv_at hl 1 rfl) ?_
  refine lv_icmp_ge (tgt := 20) hx hb d_fill_7 (by decide) (fun _ => ?_) (fun h9 => absurd (by decide) h9)
  rw [fl8_is] at hP hD
  exact W.vret hx hb hr (fun t ht hW => ⟨⟨(), rfl, trivial, by rw [ht]; exact hP, va_K.moved hW.alike hK, hD⟩, hS.F ht⟩) hS.2.2 d_fill_20
theorem d_X5_0 : decode cX5_init 0 = .ok (.aload_n 0, 1) := by decide +kernel
theorem d_X5_1 : decode cX5_init 1 = .ok (.invokespecial 3, 3) := by decide +kernel
theorem d_X5_4 : decode cX5_init 4 = .ok (.aload_n 0, 1) := by decide +kernel
theorem d_X5_5 : decode cX5_init 5 = .ok (.bipush 8, 2) := by decide +kernel
theorem d_X5_7 : decode cX5_init 7 = .ok (.newarray .int, 2) := by decide +kernel
theorem d_X5_9 : decode cX5_init 9 = .ok (.putfield 9, 3) := by decide +kernel
theorem d_X5_12 : decode cX5_init 12 = .ok (.aload_n 0, 1) := by decide +kernel
theorem d_X5_13 : decode cX5_init 13 = .ok (.bipush 8, 2) := by decide +kernel
theorem d_X5_15 : decode cX5_init 15 = .ok (.newarray .int, 2) := by decide +kernel
theorem d_X5_17 : decode cX5_init 17 = .ok (.putfield 15, 3) := by decide +kernel
theorem d_X5_20 : decode cX5_init 20 = .ok (.aload_n 0, 1) := by decide +kernel
theorem d_X5_21 : decode cX5_init 21 = .ok (.sipush 1280, 3) := by decide +kernel
theorem d_X5_24 : decode cX5_init 24 = .ok (.newarray .long, 2) := by decide +kernel
theorem d_X5_26 : decode cX5_init 26 = .ok (.putfield 18, 3) := by decide +kernel
theorem d_X5_29 : decode cX5_init 29 = .ok (.aload_n 0, 1) := by decide +kernel
theorem d_X5_30 : decode cX5_init 30 = .ok (.getfield 9, 3) := by decide +kernel
theorem d_X5_33 : decode cX5_init 33 = .ok (.iconst (-1), 1) := by decide +kernel
theorem d_X5_34 : decode cX5_init 34 = .ok (.invokestatic 22, 3) := by decide +kernel
theorem d_X5_37 : decode cX5_init 37 = .ok (.return_, 1) := by decide +kernel
set_option maxHeartbeats 16000000 in
set_option maxRecDepth 100000 in
theorem c_X5_init (l : Launch) (D : va_G) (cI cL : ClassId) (h0 sz : Nat) : Met l yX5_init (wC yX5_init cX5_init 1) ({ frames := 2, cells := 3, slots := 1296, locals := 100 }) (va_Pc [.ref h0] (fun U => U.heap.size = sz ∧ va_P D vwCl [(h0, .inr (5, [.null, .null, .null]))] U.heap ∧ va_K D vwCl [(cI, .int), (cL, .long)] U ∧ va_D (fun _ => True) [(h0, .inr (5, [.null, .null, .null]))]))
    (va_Qv (fun _ : Unit => True) (fun _ t => ∃ q1 q2 q3, va_P D vwCl [(h0, .inr (5, [.ref q1, .ref q2, .ref q3])), (q1, .inl (cI, 8, .inl (fl8 (-1)))), (q2, .inl (cI, 8, .inl (fun _ => 0))), (q3, .inl (cL, 1280, .inr (.inl (fun _ => 0))))] t.heap ∧ va_K D vwCl [(cI, .int), (cL, .long)] t ∧ va_D (va_A [(h0, .inr (5, [.null, .null, .null]))] sz) [(h0, .inr (5, [.ref q1, .ref q2, .ref q3])), (q1, .inl (cI, 8, .inl (fl8 (-1)))), (q2, .inl (cI, 8, .inl (fun _ => 0))), (q3, .inl (cL, 1280, .inr (.inl (fun _ => 0))))]) (va_A [(h0, .inr (5, [.null, .null, .null]))] sz)) 3 1296 (va_A [(h0, .inr (5, [.null, .null, .null]))] sz) := by
  refine Met.ofW (cc := cX5_init) (maxL := 1) (ret := none) (by decide) rfl ?_
  intro p e s m args below meth c s₁ B hml hv
  obtain ⟨rfl, hsz, hP, hK, hD0⟩ := hv
  have hx := B.exec
  have hb := B.bytes
  have hr := B.returns
  have hts0 := atoms_spec (ws := wC yX5_init cX5_init 1) B.pre
  have hts : ∀ w ∈ TW, w.before _ s = true := fun w h => hts0 w (List.mem_cons_of_mem _ h)
  have hown : s.vm.findClass RX5 = some m.cls := findClass_of_methodNamed B.named
  have hlocks := B.notSynchronized
  have hin : meth.name = "<init>" := (name_of_methodNamed B.named B.method).1
  subst hsz
  have hD := hD0.self (sz := s.heap.size)
  generalize hAe : va_A [(h0, .inr (5, [.null, .null, .null]))] s.heap.size = A at hD ⊢
  have hA : ∀ q : Nat, s.heap.size ≤ q → A q := fun q h => by rw [← hAe]; exact Or.inr h
  have hS : va_S A s.heap s.heap [] := va_S.rf
  have hl := lv_entry ([.ref h0]) (n := 1) (Nat.le_of_ble_eq_true rfl)
  rw [lg_entry_eq]
  generalize (lg_sl ([.ref h0]) ++ List.replicate (1 - (lg_sl ([.ref h0])).length) Slot.unset).toArray = ls at hl ⊢
  have hl : lv_has ls 1 [(0, .ref h0)] := hl
  refine lv_aload_n hx hb d_X5_0 rfl (lv_at hl 0 rfl) ?_
  refine W.objInit hx hb hown (hts (.methodLink RX5 3 objectInit) (by decide +kernel)) (hts (.instanceMethod objectInit) (by decide +kernel)) (hts (.code objectInit ⟨#[0xb1]⟩ 1 none) (by decide +kernel)) rfl (by rw [hml]; exact hl.1) rfl d_X5_1 (Nat.le_of_ble_eq_true rfl) (Nat.le_of_ble_eq_true rfl) ?_
  refine W.eq (g2 := F0 m 4 ls []) rfl ?_
  refine lv_aload_n hx hb d_X5_4 rfl (lv_at hl 0 rfl) ?_
  refine lv_bipush (v := jn 8) hx hb d_X5_5 (by decide) ?_
  refine newaI (N := 8) hx hb (hts (.arrayClass .int) (by decide +kernel)) hK hP hD hS hA (by decide) (by decide) (Nat.le_of_ble_eq_true rfl) (Nat.le_of_ble_eq_true rfl) (Nat.le_of_ble_eq_true rfl) d_X5_7 (fun q1 H hP hD hS => ?_)
  refine va_putF (D := D) (ci := 5) (v := .ref q1) (ty := .array .int) (C := RX5) (T := TX5) (N := 3) hx hb hts uw_5 tyX5 tyX5_ok nmX5 hown hK hP hD hS 0 rfl rfl 0 (by decide) (hts (.fieldLink RX5 9 "TermStrategies$Shelves" "held" "[I") (by decide +kernel)) (fun _ h9 => h9) rfl hin rfl (by decide +kernel) rfl rfl (Nat.le_of_ble_eq_true rfl) d_X5_9 (fun H locs hP hD hS => ?_)
  have hP : va_P D vwCl [(h0, .inr (5, [.ref q1, .null, .null])), (q1, .inl (cI, 8, .inl (fun _ => 0)))] H := hP
  have hD : va_D A [(h0, .inr (5, [.ref q1, .null, .null])), (q1, .inl (cI, 8, .inl (fun _ => 0)))] := hD
  refine lv_aload_n hx hb d_X5_12 rfl (lv_at hl 0 rfl) ?_
  refine lv_bipush (v := jn 8) hx hb d_X5_13 (by decide) ?_
  refine newaI (N := 8) hx hb (hts (.arrayClass .int) (by decide +kernel)) hK hP hD hS hA (by decide) (by decide) (Nat.le_of_ble_eq_true rfl) (Nat.le_of_ble_eq_true rfl) (Nat.le_of_ble_eq_true rfl) d_X5_15 (fun q2 H hP hD hS => ?_)
  refine va_putF (D := D) (ci := 5) (v := .ref q2) (ty := .array .int) (C := RX5) (T := TX5) (N := 3) hx hb hts uw_5 tyX5 tyX5_ok nmX5 hown hK hP hD hS 0 rfl rfl 1 (by decide) (hts (.fieldLink RX5 15 "TermStrategies$Shelves" "sizes" "[I") (by decide +kernel)) (fun _ h9 => h9) rfl hin rfl (by decide +kernel) rfl rfl (Nat.le_of_ble_eq_true rfl) d_X5_17 (fun H locs hP hD hS => ?_)
  have hP : va_P D vwCl [(h0, .inr (5, [.ref q1, .ref q2, .null])), (q1, .inl (cI, 8, .inl (fun _ => 0))), (q2, .inl (cI, 8, .inl (fun _ => 0)))] H := hP
  have hD : va_D A [(h0, .inr (5, [.ref q1, .ref q2, .null])), (q1, .inl (cI, 8, .inl (fun _ => 0))), (q2, .inl (cI, 8, .inl (fun _ => 0)))] := hD
  refine lv_aload_n hx hb d_X5_20 rfl (lv_at hl 0 rfl) ?_
  refine lv_sipush (v := jn 1280) hx hb d_X5_21 (by decide) ?_
  refine newaL (N := 1280) hx hb (hts (.arrayClass .long) (by decide +kernel)) hK hP hD hS hA (by decide) (by decide) (Nat.le_of_ble_eq_true rfl) (Nat.le_of_ble_eq_true rfl) (Nat.le_of_ble_eq_true rfl) d_X5_24 (fun q3 H hP hD hS => ?_)
  refine va_putF (D := D) (ci := 5) (v := .ref q3) (ty := .array .long) (C := RX5) (T := TX5) (N := 3) hx hb hts uw_5 tyX5 tyX5_ok nmX5 hown hK hP hD hS 0 rfl rfl 2 (by decide) (hts (.fieldLink RX5 18 "TermStrategies$Shelves" "elements" "[J") (by decide +kernel)) (fun _ h9 => h9) rfl hin rfl (by decide +kernel) rfl rfl (Nat.le_of_ble_eq_true rfl) d_X5_26 (fun H locs hP hD hS => ?_)
  have hP : va_P D vwCl [(h0, .inr (5, [.ref q1, .ref q2, .ref q3])), (q1, .inl (cI, 8, .inl (fun _ => 0))), (q2, .inl (cI, 8, .inl (fun _ => 0))), (q3, .inl (cL, 1280, .inr (.inl (fun _ => 0))))] H := hP
  have hD : va_D A [(h0, .inr (5, [.ref q1, .ref q2, .ref q3])), (q1, .inl (cI, 8, .inl (fun _ => 0))), (q2, .inl (cI, 8, .inl (fun _ => 0))), (q3, .inl (cL, 1280, .inr (.inl (fun _ => 0))))] := hD
  refine lv_aload_n hx hb d_X5_29 rfl (lv_at hl 0 rfl) ?_
  refine va_get (D := D) (ci := 5) (v := .ref q1) (C := RX5) (T := TX5) (N := 3) hx hb hts uw_5 hown hK hP 0 rfl rfl 0 (by decide) (hts (.fieldLink RX5 9 "TermStrategies$Shelves" "held" "[I") (by decide +kernel)) (fun _ h9 => h9) rfl d_X5_30 ?_
  refine lv_iconst (v := (-1)) hx hb d_X5_33 (by decide) ?_
  have hPc := hP.sub (ws' := [(q1, .inl (cI, 8, .inl (fun _ => 0)))]) [1] rfl
  have hDc := hD.sub (ws' := [(q1, .inl (cI, 8, .inl (fun _ => 0)))]) [1] (by decide) rfl
  have hFc := va_free (wc := [(q1, .inl (cI, 8, .inl (fun _ => 0)))]) hD hS hA [1] rfl
  refine va_callv (va_runS (As := [.ref q1, .int (-1)]) (rest := []) ⟨hx, hb, hml, hown, hts⟩ (c_fill8 l D cI cL q1 H.size (-1)) (va_cwS 2 hts (g_sta (own := RX5) (ix := 22) (y := yJ7_fill_53178) (by decide +kernel) (by decide +kernel) (by decide +kernel) (g_con cw_fill)) rfl rfl rfl (by decide +kernel) ⟨Nat.le_of_ble_eq_true rfl, Nat.le_of_ble_eq_true rfl⟩) ⟨fun a U g mk q => by obtain ⟨q0, q1, qP, qK, qD⟩ := q; exact ⟨q0, q1, qP, va_K.moved (u := U) (U := U.calling g mk a) (Vm.Alike.refl U.vm) qK, qD⟩, fun U hU hW => ⟨rfl, by rw [hU], by rw [hU]; exact hPc, va_K.moved hW.alike hK, hDc.weaken (fun _ _ _ _ => trivial)⟩⟩ rfl rfl hl.1 rfl (lv_room (Nat.le_of_ble_eq_true rfl)) d_X5_34 ⟨Nat.le_of_ble_eq_true rfl, Nat.le_of_ble_eq_true rfl⟩) hS (fun q _ h => hFc q h) hFc (fun u t H1 locs ht hvm hw hB hz1 hk1 hS => ?_)
  obtain ⟨hP1, hK1, hD1⟩ := hB
  rw [ht] at hP1
  obtain ⟨hP, hD⟩ := va_join (wr := [(h0, .inr (5, [.ref q1, .ref q2, .ref q3])), (q2, .inl (cI, 8, .inl (fun _ => 0))), (q3, .inl (cL, 1280, .inr (.inl (fun _ => 0))))]) (w1 := [(q1, .inl (cI, 8, .inl (fl8 (-1))))]) hP hD [1] [0, 2, 3] rfl rfl (by decide) (by decide) hk1 hFc hP1 hD1
  clear hK1 hP1 hD1 hk1 hz1 hFc hPc hDc
  generalize H1 = H at hP hS ⊢
  have hP : va_P D vwCl [(h0, .inr (5, [.ref q1, .ref q2, .ref q3])), (q2, .inl (cI, 8, .inl (fun _ => 0))), (q3, .inl (cL, 1280, .inr (.inl (fun _ => 0)))), (q1, .inl (cI, 8, .inl (fl8 (-1))))] H := hP
  have hD : va_D A [(h0, .inr (5, [.ref q1, .ref q2, .ref q3])), (q2, .inl (cI, 8, .inl (fun _ => 0))), (q3, .inl (cL, 1280, .inr (.inl (fun _ => 0)))), (q1, .inl (cI, 8, .inl (fl8 (-1))))] := hD
  have hP := hP.sub (ws' := [(h0, .inr (5, [.ref q1, .ref q2, .ref q3])), (q1, .inl (cI, 8, .inl (fl8 (-1)))), (q2, .inl (cI, 8, .inl (fun _ => 0))), (q3, .inl (cL, 1280, .inr (.inl (fun _ => 0))))]) [0, 3, 1, 2] rfl
  have hD := hD.sub (ws' := [(h0, .inr (5, [.ref q1, .ref q2, .ref q3])), (q1, .inl (cI, 8, .inl (fl8 (-1)))), (q2, .inl (cI, 8, .inl (fun _ => 0))), (q3, .inl (cL, 1280, .inr (.inl (fun _ => 0))))]) [0, 3, 1, 2] (by decide) rfl
  refine W.widen (k := 3) (n := 1296) (Nat.le_of_ble_eq_true rfl) (Nat.le_of_ble_eq_true rfl) ?_
  exact W.vret hx hb hr (fun t ht hW => ⟨⟨(), rfl, trivial, q1, q2, q3, by rw [ht]; exact hP, va_K.moved hW.alike hK, hD⟩, hS.F ht⟩) hS.2.2 d_X5_37
