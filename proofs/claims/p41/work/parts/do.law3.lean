/-! the law: at, some, arity, variable, part (laid by wip/p41/gen/law1.py) -/
theorem ge_z {x : Int32} (h : 0 ≤ x) : ¬ x < 0 := Int32.not_lt.mpr h
theorem nge_z {x : Int32} (h : ¬ 0 ≤ x) : x < 0 := Int32.not_le.mp h
theorem c_lt {x y : Int32} {n : Int} (e : y.toInt = n) (h : x < y) : x.toInt < n := by rw [← e]; exact Int32.lt_iff_toInt_lt.mp h
theorem c_ltn {x y : Int32} {n : Int} (e : y.toInt = n) (h : ¬ x < y) : ¬ x.toInt < n := by rw [← e]; exact fun z => h (Int32.lt_iff_toInt_lt.mpr z)
theorem c_gt {x y : Int32} {n : Int} (e : y.toInt = n) (h : y < x) : n < x.toInt := by rw [← e]; exact Int32.lt_iff_toInt_lt.mp h
theorem c_gtn {x y : Int32} {n : Int} (e : y.toInt = n) (h : ¬ y < x) : ¬ n < x.toInt := by rw [← e]; exact fun z => h (Int32.lt_iff_toInt_lt.mpr z)
theorem c_le {x y : Int32} {n : Int} (e : y.toInt = n) (h : x ≤ y) : x.toInt ≤ n := by rw [← e]; exact Int32.le_iff_toInt_le.mp h
theorem c_len {x y : Int32} {n : Int} (e : y.toInt = n) (h : ¬ x ≤ y) : ¬ x.toInt ≤ n := by rw [← e]; exact fun z => h (Int32.le_iff_toInt_le.mpr z)
theorem arR_n {c : Int32} (h2 : ¬ is2 c) (h1 : ¬ is1 c) (h0 : ¬ is0 c) : arR c = -1 := by
  unfold arR
  rw [if_neg h2, if_neg h1, if_neg h0]
  decide
theorem pt_step {T : Tm} {F : List Tm} (h : wf T) (hF : ∀ T8 ∈ F, wf T8) : ∃ (x : Int32) (G : List Tm), enF (T :: F) = x :: enF G ∧ (∀ T8 ∈ G, wf T8) ∧ jn (T :: F).length + (arR x - 1) = jn G.length := by
  have e1 : (jn 1 - 1 : Int32) = jn 0 := by decide
  have e2 : (jn 2 - 1 : Int32) = jn 1 := by decide
  have e0 : (jn 0 - 1 : Int32) = jz 1 := by decide
  revert h
  refine wf_ind (P := fun T => ∃ (x : Int32) (G : List Tm), enF (T :: F) = x :: enF G ∧ (∀ T8 ∈ G, wf T8) ∧ jn (T :: F).length + (arR x - 1) = jn G.length) (fun c hc => ?_) (fun c a hc ha _ => ?_) (fun c a b hc ha hb _ _ => ?_) T
  · refine ⟨c, F, rfl, hF, ?_⟩
    rw [arR_0 hc, e0, List.length_cons, jn_addz (by omega), Nat.add_sub_cancel]
  · refine ⟨c, a :: F, by rw [enF, en_1]; rfl, fun T8 h8 => ?_, ?_⟩
    · rcases List.mem_cons.mp h8 with rfl | h8
      · exact ha
      · exact hF T8 h8
    · rw [arR_1 hc, e1, jn_add]
      rfl
  · refine ⟨c, a :: b :: F, by rw [enF, en_2, enF, enF]; simp only [List.cons_append, List.append_assoc], fun T8 h8 => ?_, ?_⟩
    · rcases List.mem_cons.mp h8 with rfl | h8
      · exact ha
      rcases List.mem_cons.mp h8 with rfl | h8
      · exact hb
      · exact hF T8 h8
    · rw [arR_2 hc, e2, jn_add]
      rfl
theorem ff_len {F : List Tm} {n : Nat} (h : ∀ T ∈ F, wf T) (hn : (enF F).length ≤ n) : F.length ≤ n := by
  refine Nat.le_trans ?_ hn
  clear hn
  induction F with
  | nil => exact Nat.zero_le _
  | cons T F ih =>
    have h7 : 0 < (en T).length := sz_pos T (h T List.mem_cons_self)
    have := ih (fun T8 h8 => h T8 (List.mem_cons_of_mem _ h8))
    rw [enF, List.length_append, List.length_cons]
    omega
set_option maxRecDepth 100000 in
theorem cw_L_arity : Jvm.Cond.code yL_arity cL_arity 1 (some .int) ∈ TW := TW_mem (List.mem_append_right _ (List.mem_append_right _ (List.mem_append_right _ (List.mem_append_right _ (List.mem_append_right _ (List.mem_append_left _ (List.mem_of_getElem? (l := tables_1_5) (i := 169) rfl))))))) rfl
theorem d_L_at_0 : decode cL_at 0 = .ok (.iload_n 1, 1) := by decide +kernel
theorem d_L_at_1 : decode cL_at 1 = .ok (.aload_n 0, 1) := by decide +kernel
theorem d_L_at_2 : decode cL_at 2 = .ok (.arraylength, 1) := by decide +kernel
theorem d_L_at_3 : decode cL_at 3 = .ok (.if_icmp .ge (9), 3) := by decide +kernel
theorem d_L_at_6 : decode cL_at 6 = .ok (.aload_n 0, 1) := by decide +kernel
theorem d_L_at_7 : decode cL_at 7 = .ok (.iload_n 1, 1) := by decide +kernel
theorem d_L_at_8 : decode cL_at 8 = .ok (.iaload, 1) := by decide +kernel
theorem d_L_at_9 : decode cL_at 9 = .ok (.goto (4), 3) := by decide +kernel
theorem d_L_at_12 : decode cL_at 12 = .ok (.iconst 0, 1) := by decide +kernel
theorem d_L_at_13 : decode cL_at 13 = .ok (.ireturn, 1) := by decide +kernel
theorem d_L_some_0 : decode cL_some 0 = .ok (.iload_n 0, 1) := by decide +kernel
theorem d_L_some_1 : decode cL_some 1 = .ok (.iload_n 1, 1) := by decide +kernel
theorem d_L_some_2 : decode cL_some 2 = .ok (.irem, 1) := by decide +kernel
theorem d_L_some_3 : decode cL_some 3 = .ok (.istore_n 2, 1) := by decide +kernel
theorem d_L_some_4 : decode cL_some 4 = .ok (.iload_n 2, 1) := by decide +kernel
theorem d_L_some_5 : decode cL_some 5 = .ok (.ifCond .ge (9), 3) := by decide +kernel
theorem d_L_some_8 : decode cL_some 8 = .ok (.iload_n 2, 1) := by decide +kernel
theorem d_L_some_9 : decode cL_some 9 = .ok (.iload_n 1, 1) := by decide +kernel
theorem d_L_some_10 : decode cL_some 10 = .ok (.iadd, 1) := by decide +kernel
theorem d_L_some_11 : decode cL_some 11 = .ok (.goto (4), 3) := by decide +kernel
theorem d_L_some_14 : decode cL_some 14 = .ok (.iload_n 2, 1) := by decide +kernel
theorem d_L_some_15 : decode cL_some 15 = .ok (.ireturn, 1) := by decide +kernel
theorem d_L_arity_0 : decode cL_arity 0 = .ok (.iload_n 0, 1) := by decide +kernel
theorem d_L_arity_1 : decode cL_arity 1 = .ok (.bipush (105), 2) := by decide +kernel
theorem d_L_arity_3 : decode cL_arity 3 = .ok (.if_icmp .lt (13), 3) := by decide +kernel
theorem d_L_arity_6 : decode cL_arity 6 = .ok (.iload_n 0, 1) := by decide +kernel
theorem d_L_arity_7 : decode cL_arity 7 = .ok (.bipush (108), 2) := by decide +kernel
theorem d_L_arity_9 : decode cL_arity 9 = .ok (.if_icmp .gt (7), 3) := by decide +kernel
theorem d_L_arity_12 : decode cL_arity 12 = .ok (.iconst 2, 1) := by decide +kernel
theorem d_L_arity_13 : decode cL_arity 13 = .ok (.goto (48), 3) := by decide +kernel
theorem d_L_arity_16 : decode cL_arity 16 = .ok (.iload_n 0, 1) := by decide +kernel
theorem d_L_arity_17 : decode cL_arity 17 = .ok (.bipush (101), 2) := by decide +kernel
theorem d_L_arity_19 : decode cL_arity 19 = .ok (.if_icmp .lt (13), 3) := by decide +kernel
theorem d_L_arity_22 : decode cL_arity 22 = .ok (.iload_n 0, 1) := by decide +kernel
theorem d_L_arity_23 : decode cL_arity 23 = .ok (.bipush (104), 2) := by decide +kernel
theorem d_L_arity_25 : decode cL_arity 25 = .ok (.if_icmp .gt (7), 3) := by decide +kernel
theorem d_L_arity_28 : decode cL_arity 28 = .ok (.iconst 1, 1) := by decide +kernel
theorem d_L_arity_29 : decode cL_arity 29 = .ok (.goto (32), 3) := by decide +kernel
theorem d_L_arity_32 : decode cL_arity 32 = .ok (.iload_n 0, 1) := by decide +kernel
theorem d_L_arity_33 : decode cL_arity 33 = .ok (.bipush (97), 2) := by decide +kernel
theorem d_L_arity_35 : decode cL_arity 35 = .ok (.if_icmp .lt (9), 3) := by decide +kernel
theorem d_L_arity_38 : decode cL_arity 38 = .ok (.iload_n 0, 1) := by decide +kernel
theorem d_L_arity_39 : decode cL_arity 39 = .ok (.bipush (100), 2) := by decide +kernel
theorem d_L_arity_41 : decode cL_arity 41 = .ok (.if_icmp .le (15), 3) := by decide +kernel
theorem d_L_arity_44 : decode cL_arity 44 = .ok (.iload_n 0, 1) := by decide +kernel
theorem d_L_arity_45 : decode cL_arity 45 = .ok (.bipush (117), 2) := by decide +kernel
theorem d_L_arity_47 : decode cL_arity 47 = .ok (.if_icmp .lt (13), 3) := by decide +kernel
theorem d_L_arity_50 : decode cL_arity 50 = .ok (.iload_n 0, 1) := by decide +kernel
theorem d_L_arity_51 : decode cL_arity 51 = .ok (.bipush (122), 2) := by decide +kernel
theorem d_L_arity_53 : decode cL_arity 53 = .ok (.if_icmp .gt (7), 3) := by decide +kernel
theorem d_L_arity_56 : decode cL_arity 56 = .ok (.iconst 0, 1) := by decide +kernel
theorem d_L_arity_57 : decode cL_arity 57 = .ok (.goto (4), 3) := by decide +kernel
theorem d_L_arity_60 : decode cL_arity 60 = .ok (.iconst (-1), 1) := by decide +kernel
theorem d_L_arity_61 : decode cL_arity 61 = .ok (.ireturn, 1) := by decide +kernel
theorem d_L_variable_0 : decode cL_variable 0 = .ok (.iload_n 0, 1) := by decide +kernel
theorem d_L_variable_1 : decode cL_variable 1 = .ok (.bipush (117), 2) := by decide +kernel
theorem d_L_variable_3 : decode cL_variable 3 = .ok (.if_icmp .lt (13), 3) := by decide +kernel
theorem d_L_variable_6 : decode cL_variable 6 = .ok (.iload_n 0, 1) := by decide +kernel
theorem d_L_variable_7 : decode cL_variable 7 = .ok (.bipush (122), 2) := by decide +kernel
theorem d_L_variable_9 : decode cL_variable 9 = .ok (.if_icmp .gt (7), 3) := by decide +kernel
theorem d_L_variable_12 : decode cL_variable 12 = .ok (.iconst 1, 1) := by decide +kernel
theorem d_L_variable_13 : decode cL_variable 13 = .ok (.goto (4), 3) := by decide +kernel
theorem d_L_variable_16 : decode cL_variable 16 = .ok (.iconst 0, 1) := by decide +kernel
theorem d_L_variable_17 : decode cL_variable 17 = .ok (.ireturn, 1) := by decide +kernel
theorem d_L_part_0 : decode cL_part 0 = .ok (.iconst 1, 1) := by decide +kernel
theorem d_L_part_1 : decode cL_part 1 = .ok (.istore_n 2, 1) := by decide +kernel
theorem d_L_part_2 : decode cL_part 2 = .ok (.iload_n 1, 1) := by decide +kernel
theorem d_L_part_3 : decode cL_part 3 = .ok (.istore_n 3, 1) := by decide +kernel
theorem d_L_part_4 : decode cL_part 4 = .ok (.iload_n 2, 1) := by decide +kernel
theorem d_L_part_5 : decode cL_part 5 = .ok (.ifCond .le (22), 3) := by decide +kernel
theorem d_L_part_8 : decode cL_part 8 = .ok (.iload_n 2, 1) := by decide +kernel
theorem d_L_part_9 : decode cL_part 9 = .ok (.aload_n 0, 1) := by decide +kernel
theorem d_L_part_10 : decode cL_part 10 = .ok (.iload_n 3, 1) := by decide +kernel
theorem d_L_part_11 : decode cL_part 11 = .ok (.invokevirtual 7, 3) := by decide +kernel
theorem d_L_part_14 : decode cL_part 14 = .ok (.invokestatic 13, 3) := by decide +kernel
theorem d_L_part_17 : decode cL_part 17 = .ok (.iconst 1, 1) := by decide +kernel
theorem d_L_part_18 : decode cL_part 18 = .ok (.isub, 1) := by decide +kernel
theorem d_L_part_19 : decode cL_part 19 = .ok (.iadd, 1) := by decide +kernel
theorem d_L_part_20 : decode cL_part 20 = .ok (.istore_n 2, 1) := by decide +kernel
theorem d_L_part_21 : decode cL_part 21 = .ok (.iinc 3 (1), 3) := by decide +kernel
theorem d_L_part_24 : decode cL_part 24 = .ok (.goto (-20), 3) := by decide +kernel
theorem d_L_part_27 : decode cL_part 27 = .ok (.aload_n 0, 1) := by decide +kernel
theorem d_L_part_28 : decode cL_part 28 = .ok (.iload_n 1, 1) := by decide +kernel
theorem d_L_part_29 : decode cL_part 29 = .ok (.iload_n 3, 1) := by decide +kernel
theorem d_L_part_30 : decode cL_part 30 = .ok (.invokevirtual 19, 3) := by decide +kernel
theorem d_L_part_33 : decode cL_part 33 = .ok (.areturn, 1) := by decide +kernel
set_option maxHeartbeats 4000000 in
set_option maxRecDepth 100000 in
theorem t_at (l : Launch) (g : GQ) (hg : g.2.2.2.2.2.1 ≤ 260) (k : Nat) : MetI l g yL_at cL_at 2 (some .int) ({ frames := 1, cells := 0, slots := 0, locals := 60 } : Room) [.ref g.2.2.2.2.1, .int (jn k)] [] (k < 2147483648) (fun _ => True) := by
  intro sz0 Z
  refine Met.ofW (cc := cL_at) (maxL := 2) (ret := (some .int)) (by decide) rfl ?_
  intro p e s m args below meth c s₁ B hml hv
  obtain ⟨rfl, hv⟩ := hv
  have hX := hv.1.2.2.2.2
  have hx := B.exec
  have hb := B.bytes
  have hr := B.returns
  have hts0 := atoms_spec (ws := wD yL_at cL_at 2 (some .int)) B.pre
  have hts : ∀ w ∈ TW, w.before _ s = true := fun w h => hts0 w (List.mem_cons_of_mem _ h)
  have hown : s.vm.findClass RL = some m.cls := findClass_of_methodNamed B.named
  have hlocks := B.notSynchronized
  have hsz : s.heap.size = sz0 := hv.1.1
  subst hsz
  have h := lq_entry (U := 200) hv
  have S : CallFix p m c cL_at 2 s _ TW RL := ⟨hx, hb, hml, hown, hts⟩
  have hl := lv_entry ([.ref g.2.2.2.2.1, .int (jn k)]) (n := 2) (Nat.le_of_ble_eq_true rfl)
  rw [lg_entry_eq]
  generalize (lg_sl ([.ref g.2.2.2.2.1, .int (jn k)]) ++ List.replicate (2 - (lg_sl ([.ref g.2.2.2.2.1, .int (jn k)])).length) Slot.unset).toArray = ls at hl ⊢
  have hl : lv_has ls 2 [(0, .ref g.2.2.2.2.1), (1, .int (jn k))] := hl
  have hT := hv.2.2.2.2.1
  have h : LQ g 200 s _ Z [] [] [] s.heap [] := h
  refine lv_iload_n hx hb d_L_at_0 rfl (lv_at hl 1 rfl) ?_
  refine lv_aload_n hx hb d_L_at_1 rfl (lv_at hl 0 rfl) ?_
  refine va_tlen hx hb hT va_S.rf (v := jn g.2.2.2.2.2.1) (ofNat_jn (by omega)) d_L_at_2 ?_
  refine lv_icmp_ge (tgt := 12) hx hb d_L_at_3 (by decide) (fun h9 => ?_) (fun h9 => ?_)
  · refine lv_iconst (v := 0) hx hb d_L_at_12 (by decide) ?_
    exact W.iret hx hb hr (fun t8 ht hW => ⟨_, rfl, trivial, ht⟩) (fun q h => by cases h) d_L_at_13
  · refine lv_aload_n hx hb d_L_at_6 rfl (lv_at hl 0 rfl) ?_
    refine lv_iload_n hx hb d_L_at_7 rfl (lv_at hl 1 rfl) ?_
    have hk : k < g.2.2.2.2.2.1 := by
      rw [jn_le (by omega) hX] at h9
      omega
    refine va_ti hx hb hT va_S.rf (vin_j hk (by omega)) rfl d_L_at_8 ?_
    refine lv_goto (tgt := 13) hx hb d_L_at_9 (by decide) ?_
    exact W.iret hx hb hr (fun t8 ht hW => ⟨_, rfl, trivial, ht⟩) (fun q h => by cases h) d_L_at_13
set_option maxHeartbeats 4000000 in
set_option maxRecDepth 100000 in
theorem t_some (l : Launch) (g : GQ) (v : Int32) (n : Nat) : MetI l g yL_some cL_some 3 (some .int) ({ frames := 1, cells := 0, slots := 0, locals := 60 } : Room) [.int v, .int (jn n)] [] (0 < n ∧ n ≤ 1000) (fun r => ∃ k, k < n ∧ r = jn k) := by
  intro sz0 Z
  refine Met.ofW (cc := cL_some) (maxL := 3) (ret := (some .int)) (by decide) rfl ?_
  intro p e s m args below meth c s₁ B hml hv
  obtain ⟨rfl, hv⟩ := hv
  have hX := hv.1.2.2.2.2
  have hx := B.exec
  have hb := B.bytes
  have hr := B.returns
  have hts0 := atoms_spec (ws := wD yL_some cL_some 3 (some .int)) B.pre
  have hts : ∀ w ∈ TW, w.before _ s = true := fun w h => hts0 w (List.mem_cons_of_mem _ h)
  have hown : s.vm.findClass RL = some m.cls := findClass_of_methodNamed B.named
  have hlocks := B.notSynchronized
  have hsz : s.heap.size = sz0 := hv.1.1
  subst hsz
  have h := lq_entry (U := 200) hv
  have S : CallFix p m c cL_some 3 s _ TW RL := ⟨hx, hb, hml, hown, hts⟩
  have hl := lv_entry ([.int v, .int (jn n)]) (n := 3) (Nat.le_of_ble_eq_true rfl)
  rw [lg_entry_eq]
  generalize (lg_sl ([.int v, .int (jn n)]) ++ List.replicate (3 - (lg_sl ([.int v, .int (jn n)])).length) Slot.unset).toArray = ls at hl ⊢
  have hl : lv_has ls 3 [(0, .int v), (1, .int (jn n))] := hl
  obtain ⟨h0, hn⟩ := hX
  have h : LQ g 200 s _ Z [] [] [] s.heap [] := h
  refine lv_iload_n hx hb d_L_some_0 rfl (lv_at hl 0 rfl) ?_
  refine lv_iload_n hx hb d_L_some_1 rfl (lv_at hl 1 rfl) ?_
  refine lv_irem hx hb d_L_some_2 (jn_nz h0 (by omega)) ?_
  refine lv_istore_n (lv' := [(2, .int (v - v / (jn n) * (jn n))), (0, .int v), (1, .int (jn n))]) hx hb d_L_some_3 rfl hl (by decide) rfl (fun ls hl => ?_)
  refine lv_iload_n hx hb d_L_some_4 rfl (lv_at hl 0 rfl) ?_
  refine lv_if_ge (tgt := 14) hx hb d_L_some_5 (by decide) (fun h9 => ?_) (fun h9 => ?_)
  · have h8 := (rem_jn (x := v) h0 (show n < 2147483648 by omega)).2 (ge_z h9)
    refine lv_iload_n hx hb d_L_some_14 rfl (lv_at hl 0 rfl) ?_
    exact W.iret hx hb hr (fun t8 ht hW => ⟨_, rfl, h8, ht⟩) (fun q h => by cases h) d_L_some_15
  · have h8 := (rem_jn (x := v) h0 (show n < 2147483648 by omega)).1 (nge_z h9)
    refine lv_iload_n hx hb d_L_some_8 rfl (lv_at hl 0 rfl) ?_
    refine lv_iload_n hx hb d_L_some_9 rfl (lv_at hl 2 rfl) ?_
    refine lv_iadd hx hb d_L_some_10 ?_
    refine lv_goto (tgt := 15) hx hb d_L_some_11 (by decide) ?_
    exact W.iret hx hb hr (fun t8 ht hW => ⟨_, rfl, h8, ht⟩) (fun q h => by cases h) d_L_some_15
set_option maxHeartbeats 4000000 in
set_option maxRecDepth 100000 in
theorem t_arity (l : Launch) (g : GQ) (x : Int32) : MetI l g yL_arity cL_arity 1 (some .int) ({ frames := 1, cells := 0, slots := 0, locals := 60 } : Room) [.int x] [] (True) (fun r => r = arR x) := by
  intro sz0 Z
  refine Met.ofW (cc := cL_arity) (maxL := 1) (ret := (some .int)) (by decide) rfl ?_
  intro p e s m args below meth c s₁ B hml hv
  obtain ⟨rfl, hv⟩ := hv
  have hX := hv.1.2.2.2.2
  have hx := B.exec
  have hb := B.bytes
  have hr := B.returns
  have hts0 := atoms_spec (ws := wD yL_arity cL_arity 1 (some .int)) B.pre
  have hts : ∀ w ∈ TW, w.before _ s = true := fun w h => hts0 w (List.mem_cons_of_mem _ h)
  have hown : s.vm.findClass RL = some m.cls := findClass_of_methodNamed B.named
  have hlocks := B.notSynchronized
  have hsz : s.heap.size = sz0 := hv.1.1
  subst hsz
  have h := lq_entry (U := 200) hv
  have S : CallFix p m c cL_arity 1 s _ TW RL := ⟨hx, hb, hml, hown, hts⟩
  have hl := lv_entry ([.int x]) (n := 1) (Nat.le_of_ble_eq_true rfl)
  rw [lg_entry_eq]
  generalize (lg_sl ([.int x]) ++ List.replicate (1 - (lg_sl ([.int x])).length) Slot.unset).toArray = ls at hl ⊢
  have hl : lv_has ls 1 [(0, .int x)] := hl
  have h : LQ g 200 s _ Z [] [] [] s.heap [] := h
  refine lv_iload_n hx hb d_L_arity_0 rfl (lv_at hl 0 rfl) ?_
  refine lv_bipush (v := (105)) hx hb d_L_arity_1 (by decide) ?_
  refine lv_icmp_lt (tgt := 16) hx hb d_L_arity_3 (by decide) (fun h9 => ?_) (fun h9 => ?_)
  · have g1 : x.toInt < 105 := c_lt (n := 105) rfl h9
    refine lv_iload_n hx hb d_L_arity_16 rfl (lv_at hl 0 rfl) ?_
    refine lv_bipush (v := (101)) hx hb d_L_arity_17 (by decide) ?_
    refine lv_icmp_lt (tgt := 32) hx hb d_L_arity_19 (by decide) (fun h9 => ?_) (fun h9 => ?_)
    · have g2 : x.toInt < 101 := c_lt (n := 101) rfl h9
      refine lv_iload_n hx hb d_L_arity_32 rfl (lv_at hl 0 rfl) ?_
      refine lv_bipush (v := (97)) hx hb d_L_arity_33 (by decide) ?_
      refine lv_icmp_lt (tgt := 44) hx hb d_L_arity_35 (by decide) (fun h9 => ?_) (fun h9 => ?_)
      · have g3 : x.toInt < 97 := c_lt (n := 97) rfl h9
        refine lv_iload_n hx hb d_L_arity_44 rfl (lv_at hl 0 rfl) ?_
        refine lv_bipush (v := (117)) hx hb d_L_arity_45 (by decide) ?_
        refine lv_icmp_lt (tgt := 60) hx hb d_L_arity_47 (by decide) (fun h9 => ?_) (fun h9 => ?_)
        · have g4 : x.toInt < 117 := c_lt (n := 117) rfl h9
          refine lv_iconst (v := (-1)) hx hb d_L_arity_60 (by decide) ?_
          exact W.iret hx hb hr (fun t8 ht hW => ⟨_, rfl, (arR_n (by omega) (by omega) (by omega)).symm, ht⟩) (fun q h => by cases h) d_L_arity_61
        · have g5 : ¬ (x.toInt < 117) := c_ltn (n := 117) rfl h9
          refine lv_iload_n hx hb d_L_arity_50 rfl (lv_at hl 0 rfl) ?_
          refine lv_bipush (v := (122)) hx hb d_L_arity_51 (by decide) ?_
          refine lv_icmp_gt (tgt := 60) hx hb d_L_arity_53 (by decide) (fun h9 => ?_) (fun h9 => ?_)
          · have g6 : 122 < x.toInt := c_gt (n := 122) rfl h9
            refine lv_iconst (v := (-1)) hx hb d_L_arity_60 (by decide) ?_
            exact W.iret hx hb hr (fun t8 ht hW => ⟨_, rfl, (arR_n (by omega) (by omega) (by omega)).symm, ht⟩) (fun q h => by cases h) d_L_arity_61
          · have g7 : ¬ (122 < x.toInt) := c_gtn (n := 122) rfl h9
            refine lv_iconst (v := 0) hx hb d_L_arity_56 (by decide) ?_
            refine lv_goto (tgt := 61) hx hb d_L_arity_57 (by decide) ?_
            exact W.iret hx hb hr (fun t8 ht hW => ⟨_, rfl, (arR_0 (by omega)).symm, ht⟩) (fun q h => by cases h) d_L_arity_61
      · have g8 : ¬ (x.toInt < 97) := c_ltn (n := 97) rfl h9
        refine lv_iload_n hx hb d_L_arity_38 rfl (lv_at hl 0 rfl) ?_
        refine lv_bipush (v := (100)) hx hb d_L_arity_39 (by decide) ?_
        refine lv_icmp_le (tgt := 56) hx hb d_L_arity_41 (by decide) (fun h9 => ?_) (fun h9 => ?_)
        · have g9 : x.toInt ≤ 100 := c_le (n := 100) rfl h9
          refine lv_iconst (v := 0) hx hb d_L_arity_56 (by decide) ?_
          refine lv_goto (tgt := 61) hx hb d_L_arity_57 (by decide) ?_
          exact W.iret hx hb hr (fun t8 ht hW => ⟨_, rfl, (arR_0 (by omega)).symm, ht⟩) (fun q h => by cases h) d_L_arity_61
        · have g10 : ¬ (x.toInt ≤ 100) := c_len (n := 100) rfl h9
          refine lv_iload_n hx hb d_L_arity_44 rfl (lv_at hl 0 rfl) ?_
          refine lv_bipush (v := (117)) hx hb d_L_arity_45 (by decide) ?_
          refine lv_icmp_lt (tgt := 60) hx hb d_L_arity_47 (by decide) (fun h9 => ?_) (fun h9 => ?_)
          · have g11 : x.toInt < 117 := c_lt (n := 117) rfl h9
            refine lv_iconst (v := (-1)) hx hb d_L_arity_60 (by decide) ?_
            exact W.iret hx hb hr (fun t8 ht hW => ⟨_, rfl, (arR_n (by omega) (by omega) (by omega)).symm, ht⟩) (fun q h => by cases h) d_L_arity_61
          · have g12 : ¬ (x.toInt < 117) := c_ltn (n := 117) rfl h9
            refine lv_iload_n hx hb d_L_arity_50 rfl (lv_at hl 0 rfl) ?_
            refine lv_bipush (v := (122)) hx hb d_L_arity_51 (by decide) ?_
            refine lv_icmp_gt (tgt := 60) hx hb d_L_arity_53 (by decide) (fun h9 => ?_) (fun h9 => ?_)
            · have g13 : 122 < x.toInt := c_gt (n := 122) rfl h9
              refine lv_iconst (v := (-1)) hx hb d_L_arity_60 (by decide) ?_
              exact W.iret hx hb hr (fun t8 ht hW => ⟨_, rfl, (arR_n (by omega) (by omega) (by omega)).symm, ht⟩) (fun q h => by cases h) d_L_arity_61
            · have g14 : ¬ (122 < x.toInt) := c_gtn (n := 122) rfl h9
              refine lv_iconst (v := 0) hx hb d_L_arity_56 (by decide) ?_
              refine lv_goto (tgt := 61) hx hb d_L_arity_57 (by decide) ?_
              exact W.iret hx hb hr (fun t8 ht hW => ⟨_, rfl, (arR_0 (by omega)).symm, ht⟩) (fun q h => by cases h) d_L_arity_61
    · have g15 : ¬ (x.toInt < 101) := c_ltn (n := 101) rfl h9
      refine lv_iload_n hx hb d_L_arity_22 rfl (lv_at hl 0 rfl) ?_
      refine lv_bipush (v := (104)) hx hb d_L_arity_23 (by decide) ?_
      refine lv_icmp_gt (tgt := 32) hx hb d_L_arity_25 (by decide) (fun h9 => ?_) (fun h9 => ?_)
      · have g16 : 104 < x.toInt := c_gt (n := 104) rfl h9
        refine lv_iload_n hx hb d_L_arity_32 rfl (lv_at hl 0 rfl) ?_
        refine lv_bipush (v := (97)) hx hb d_L_arity_33 (by decide) ?_
        refine lv_icmp_lt (tgt := 44) hx hb d_L_arity_35 (by decide) (fun h9 => ?_) (fun h9 => ?_)
        · have g17 : x.toInt < 97 := c_lt (n := 97) rfl h9
          refine lv_iload_n hx hb d_L_arity_44 rfl (lv_at hl 0 rfl) ?_
          refine lv_bipush (v := (117)) hx hb d_L_arity_45 (by decide) ?_
          refine lv_icmp_lt (tgt := 60) hx hb d_L_arity_47 (by decide) (fun h9 => ?_) (fun h9 => ?_)
          · have g18 : x.toInt < 117 := c_lt (n := 117) rfl h9
            refine lv_iconst (v := (-1)) hx hb d_L_arity_60 (by decide) ?_
            exact W.iret hx hb hr (fun t8 ht hW => ⟨_, rfl, (arR_n (by omega) (by omega) (by omega)).symm, ht⟩) (fun q h => by cases h) d_L_arity_61
          · have g19 : ¬ (x.toInt < 117) := c_ltn (n := 117) rfl h9
            refine lv_iload_n hx hb d_L_arity_50 rfl (lv_at hl 0 rfl) ?_
            refine lv_bipush (v := (122)) hx hb d_L_arity_51 (by decide) ?_
            refine lv_icmp_gt (tgt := 60) hx hb d_L_arity_53 (by decide) (fun h9 => ?_) (fun h9 => ?_)
            · have g20 : 122 < x.toInt := c_gt (n := 122) rfl h9
              refine lv_iconst (v := (-1)) hx hb d_L_arity_60 (by decide) ?_
              exact W.iret hx hb hr (fun t8 ht hW => ⟨_, rfl, (arR_n (by omega) (by omega) (by omega)).symm, ht⟩) (fun q h => by cases h) d_L_arity_61
            · have g21 : ¬ (122 < x.toInt) := c_gtn (n := 122) rfl h9
              refine lv_iconst (v := 0) hx hb d_L_arity_56 (by decide) ?_
              refine lv_goto (tgt := 61) hx hb d_L_arity_57 (by decide) ?_
              exact W.iret hx hb hr (fun t8 ht hW => ⟨_, rfl, (arR_0 (by omega)).symm, ht⟩) (fun q h => by cases h) d_L_arity_61
        · have g22 : ¬ (x.toInt < 97) := c_ltn (n := 97) rfl h9
          refine lv_iload_n hx hb d_L_arity_38 rfl (lv_at hl 0 rfl) ?_
          refine lv_bipush (v := (100)) hx hb d_L_arity_39 (by decide) ?_
          refine lv_icmp_le (tgt := 56) hx hb d_L_arity_41 (by decide) (fun h9 => ?_) (fun h9 => ?_)
          · have g23 : x.toInt ≤ 100 := c_le (n := 100) rfl h9
            refine lv_iconst (v := 0) hx hb d_L_arity_56 (by decide) ?_
            refine lv_goto (tgt := 61) hx hb d_L_arity_57 (by decide) ?_
            exact W.iret hx hb hr (fun t8 ht hW => ⟨_, rfl, (arR_0 (by omega)).symm, ht⟩) (fun q h => by cases h) d_L_arity_61
          · have g24 : ¬ (x.toInt ≤ 100) := c_len (n := 100) rfl h9
            refine lv_iload_n hx hb d_L_arity_44 rfl (lv_at hl 0 rfl) ?_
            refine lv_bipush (v := (117)) hx hb d_L_arity_45 (by decide) ?_
            refine lv_icmp_lt (tgt := 60) hx hb d_L_arity_47 (by decide) (fun h9 => ?_) (fun h9 => ?_)
            · have g25 : x.toInt < 117 := c_lt (n := 117) rfl h9
              refine lv_iconst (v := (-1)) hx hb d_L_arity_60 (by decide) ?_
              exact W.iret hx hb hr (fun t8 ht hW => ⟨_, rfl, (arR_n (by omega) (by omega) (by omega)).symm, ht⟩) (fun q h => by cases h) d_L_arity_61
            · have g26 : ¬ (x.toInt < 117) := c_ltn (n := 117) rfl h9
              refine lv_iload_n hx hb d_L_arity_50 rfl (lv_at hl 0 rfl) ?_
              refine lv_bipush (v := (122)) hx hb d_L_arity_51 (by decide) ?_
              refine lv_icmp_gt (tgt := 60) hx hb d_L_arity_53 (by decide) (fun h9 => ?_) (fun h9 => ?_)
              · have g27 : 122 < x.toInt := c_gt (n := 122) rfl h9
                refine lv_iconst (v := (-1)) hx hb d_L_arity_60 (by decide) ?_
                exact W.iret hx hb hr (fun t8 ht hW => ⟨_, rfl, (arR_n (by omega) (by omega) (by omega)).symm, ht⟩) (fun q h => by cases h) d_L_arity_61
              · have g28 : ¬ (122 < x.toInt) := c_gtn (n := 122) rfl h9
                refine lv_iconst (v := 0) hx hb d_L_arity_56 (by decide) ?_
                refine lv_goto (tgt := 61) hx hb d_L_arity_57 (by decide) ?_
                exact W.iret hx hb hr (fun t8 ht hW => ⟨_, rfl, (arR_0 (by omega)).symm, ht⟩) (fun q h => by cases h) d_L_arity_61
      · have g29 : ¬ (104 < x.toInt) := c_gtn (n := 104) rfl h9
        refine lv_iconst (v := 1) hx hb d_L_arity_28 (by decide) ?_
        refine lv_goto (tgt := 61) hx hb d_L_arity_29 (by decide) ?_
        exact W.iret hx hb hr (fun t8 ht hW => ⟨_, rfl, (arR_1 (by omega)).symm, ht⟩) (fun q h => by cases h) d_L_arity_61
  · have g30 : ¬ (x.toInt < 105) := c_ltn (n := 105) rfl h9
    refine lv_iload_n hx hb d_L_arity_6 rfl (lv_at hl 0 rfl) ?_
    refine lv_bipush (v := (108)) hx hb d_L_arity_7 (by decide) ?_
    refine lv_icmp_gt (tgt := 16) hx hb d_L_arity_9 (by decide) (fun h9 => ?_) (fun h9 => ?_)
    · have g31 : 108 < x.toInt := c_gt (n := 108) rfl h9
      refine lv_iload_n hx hb d_L_arity_16 rfl (lv_at hl 0 rfl) ?_
      refine lv_bipush (v := (101)) hx hb d_L_arity_17 (by decide) ?_
      refine lv_icmp_lt (tgt := 32) hx hb d_L_arity_19 (by decide) (fun h9 => ?_) (fun h9 => ?_)
      · have g32 : x.toInt < 101 := c_lt (n := 101) rfl h9
        refine lv_iload_n hx hb d_L_arity_32 rfl (lv_at hl 0 rfl) ?_
        refine lv_bipush (v := (97)) hx hb d_L_arity_33 (by decide) ?_
        refine lv_icmp_lt (tgt := 44) hx hb d_L_arity_35 (by decide) (fun h9 => ?_) (fun h9 => ?_)
        · have g33 : x.toInt < 97 := c_lt (n := 97) rfl h9
          refine lv_iload_n hx hb d_L_arity_44 rfl (lv_at hl 0 rfl) ?_
          refine lv_bipush (v := (117)) hx hb d_L_arity_45 (by decide) ?_
          refine lv_icmp_lt (tgt := 60) hx hb d_L_arity_47 (by decide) (fun h9 => ?_) (fun h9 => ?_)
          · have g34 : x.toInt < 117 := c_lt (n := 117) rfl h9
            refine lv_iconst (v := (-1)) hx hb d_L_arity_60 (by decide) ?_
            exact W.iret hx hb hr (fun t8 ht hW => ⟨_, rfl, (arR_n (by omega) (by omega) (by omega)).symm, ht⟩) (fun q h => by cases h) d_L_arity_61
          · have g35 : ¬ (x.toInt < 117) := c_ltn (n := 117) rfl h9
            refine lv_iload_n hx hb d_L_arity_50 rfl (lv_at hl 0 rfl) ?_
            refine lv_bipush (v := (122)) hx hb d_L_arity_51 (by decide) ?_
            refine lv_icmp_gt (tgt := 60) hx hb d_L_arity_53 (by decide) (fun h9 => ?_) (fun h9 => ?_)
            · have g36 : 122 < x.toInt := c_gt (n := 122) rfl h9
              refine lv_iconst (v := (-1)) hx hb d_L_arity_60 (by decide) ?_
              exact W.iret hx hb hr (fun t8 ht hW => ⟨_, rfl, (arR_n (by omega) (by omega) (by omega)).symm, ht⟩) (fun q h => by cases h) d_L_arity_61
            · have g37 : ¬ (122 < x.toInt) := c_gtn (n := 122) rfl h9
              refine lv_iconst (v := 0) hx hb d_L_arity_56 (by decide) ?_
              refine lv_goto (tgt := 61) hx hb d_L_arity_57 (by decide) ?_
              exact W.iret hx hb hr (fun t8 ht hW => ⟨_, rfl, (arR_0 (by omega)).symm, ht⟩) (fun q h => by cases h) d_L_arity_61
        · have g38 : ¬ (x.toInt < 97) := c_ltn (n := 97) rfl h9
          refine lv_iload_n hx hb d_L_arity_38 rfl (lv_at hl 0 rfl) ?_
          refine lv_bipush (v := (100)) hx hb d_L_arity_39 (by decide) ?_
          refine lv_icmp_le (tgt := 56) hx hb d_L_arity_41 (by decide) (fun h9 => ?_) (fun h9 => ?_)
          · have g39 : x.toInt ≤ 100 := c_le (n := 100) rfl h9
            refine lv_iconst (v := 0) hx hb d_L_arity_56 (by decide) ?_
            refine lv_goto (tgt := 61) hx hb d_L_arity_57 (by decide) ?_
            exact W.iret hx hb hr (fun t8 ht hW => ⟨_, rfl, (arR_0 (by omega)).symm, ht⟩) (fun q h => by cases h) d_L_arity_61
          · have g40 : ¬ (x.toInt ≤ 100) := c_len (n := 100) rfl h9
            refine lv_iload_n hx hb d_L_arity_44 rfl (lv_at hl 0 rfl) ?_
            refine lv_bipush (v := (117)) hx hb d_L_arity_45 (by decide) ?_
            refine lv_icmp_lt (tgt := 60) hx hb d_L_arity_47 (by decide) (fun h9 => ?_) (fun h9 => ?_)
            · have g41 : x.toInt < 117 := c_lt (n := 117) rfl h9
              refine lv_iconst (v := (-1)) hx hb d_L_arity_60 (by decide) ?_
              exact W.iret hx hb hr (fun t8 ht hW => ⟨_, rfl, (arR_n (by omega) (by omega) (by omega)).symm, ht⟩) (fun q h => by cases h) d_L_arity_61
            · have g42 : ¬ (x.toInt < 117) := c_ltn (n := 117) rfl h9
              refine lv_iload_n hx hb d_L_arity_50 rfl (lv_at hl 0 rfl) ?_
              refine lv_bipush (v := (122)) hx hb d_L_arity_51 (by decide) ?_
              refine lv_icmp_gt (tgt := 60) hx hb d_L_arity_53 (by decide) (fun h9 => ?_) (fun h9 => ?_)
              · have g43 : 122 < x.toInt := c_gt (n := 122) rfl h9
                refine lv_iconst (v := (-1)) hx hb d_L_arity_60 (by decide) ?_
                exact W.iret hx hb hr (fun t8 ht hW => ⟨_, rfl, (arR_n (by omega) (by omega) (by omega)).symm, ht⟩) (fun q h => by cases h) d_L_arity_61
              · have g44 : ¬ (122 < x.toInt) := c_gtn (n := 122) rfl h9
                refine lv_iconst (v := 0) hx hb d_L_arity_56 (by decide) ?_
                refine lv_goto (tgt := 61) hx hb d_L_arity_57 (by decide) ?_
                exact W.iret hx hb hr (fun t8 ht hW => ⟨_, rfl, (arR_0 (by omega)).symm, ht⟩) (fun q h => by cases h) d_L_arity_61
      · have g45 : ¬ (x.toInt < 101) := c_ltn (n := 101) rfl h9
        refine lv_iload_n hx hb d_L_arity_22 rfl (lv_at hl 0 rfl) ?_
        refine lv_bipush (v := (104)) hx hb d_L_arity_23 (by decide) ?_
        refine lv_icmp_gt (tgt := 32) hx hb d_L_arity_25 (by decide) (fun h9 => ?_) (fun h9 => ?_)
        · have g46 : 104 < x.toInt := c_gt (n := 104) rfl h9
          refine lv_iload_n hx hb d_L_arity_32 rfl (lv_at hl 0 rfl) ?_
          refine lv_bipush (v := (97)) hx hb d_L_arity_33 (by decide) ?_
          refine lv_icmp_lt (tgt := 44) hx hb d_L_arity_35 (by decide) (fun h9 => ?_) (fun h9 => ?_)
          · have g47 : x.toInt < 97 := c_lt (n := 97) rfl h9
            refine lv_iload_n hx hb d_L_arity_44 rfl (lv_at hl 0 rfl) ?_
            refine lv_bipush (v := (117)) hx hb d_L_arity_45 (by decide) ?_
            refine lv_icmp_lt (tgt := 60) hx hb d_L_arity_47 (by decide) (fun h9 => ?_) (fun h9 => ?_)
            · have g48 : x.toInt < 117 := c_lt (n := 117) rfl h9
              refine lv_iconst (v := (-1)) hx hb d_L_arity_60 (by decide) ?_
              exact W.iret hx hb hr (fun t8 ht hW => ⟨_, rfl, (arR_n (by omega) (by omega) (by omega)).symm, ht⟩) (fun q h => by cases h) d_L_arity_61
            · have g49 : ¬ (x.toInt < 117) := c_ltn (n := 117) rfl h9
              refine lv_iload_n hx hb d_L_arity_50 rfl (lv_at hl 0 rfl) ?_
              refine lv_bipush (v := (122)) hx hb d_L_arity_51 (by decide) ?_
              refine lv_icmp_gt (tgt := 60) hx hb d_L_arity_53 (by decide) (fun h9 => ?_) (fun h9 => ?_)
              · have g50 : 122 < x.toInt := c_gt (n := 122) rfl h9
                refine lv_iconst (v := (-1)) hx hb d_L_arity_60 (by decide) ?_
                exact W.iret hx hb hr (fun t8 ht hW => ⟨_, rfl, (arR_n (by omega) (by omega) (by omega)).symm, ht⟩) (fun q h => by cases h) d_L_arity_61
              · have g51 : ¬ (122 < x.toInt) := c_gtn (n := 122) rfl h9
                refine lv_iconst (v := 0) hx hb d_L_arity_56 (by decide) ?_
                refine lv_goto (tgt := 61) hx hb d_L_arity_57 (by decide) ?_
                exact W.iret hx hb hr (fun t8 ht hW => ⟨_, rfl, (arR_0 (by omega)).symm, ht⟩) (fun q h => by cases h) d_L_arity_61
          · have g52 : ¬ (x.toInt < 97) := c_ltn (n := 97) rfl h9
            refine lv_iload_n hx hb d_L_arity_38 rfl (lv_at hl 0 rfl) ?_
            refine lv_bipush (v := (100)) hx hb d_L_arity_39 (by decide) ?_
            refine lv_icmp_le (tgt := 56) hx hb d_L_arity_41 (by decide) (fun h9 => ?_) (fun h9 => ?_)
            · have g53 : x.toInt ≤ 100 := c_le (n := 100) rfl h9
              refine lv_iconst (v := 0) hx hb d_L_arity_56 (by decide) ?_
              refine lv_goto (tgt := 61) hx hb d_L_arity_57 (by decide) ?_
              exact W.iret hx hb hr (fun t8 ht hW => ⟨_, rfl, (arR_0 (by omega)).symm, ht⟩) (fun q h => by cases h) d_L_arity_61
            · have g54 : ¬ (x.toInt ≤ 100) := c_len (n := 100) rfl h9
              refine lv_iload_n hx hb d_L_arity_44 rfl (lv_at hl 0 rfl) ?_
              refine lv_bipush (v := (117)) hx hb d_L_arity_45 (by decide) ?_
              refine lv_icmp_lt (tgt := 60) hx hb d_L_arity_47 (by decide) (fun h9 => ?_) (fun h9 => ?_)
              · have g55 : x.toInt < 117 := c_lt (n := 117) rfl h9
                refine lv_iconst (v := (-1)) hx hb d_L_arity_60 (by decide) ?_
                exact W.iret hx hb hr (fun t8 ht hW => ⟨_, rfl, (arR_n (by omega) (by omega) (by omega)).symm, ht⟩) (fun q h => by cases h) d_L_arity_61
              · have g56 : ¬ (x.toInt < 117) := c_ltn (n := 117) rfl h9
                refine lv_iload_n hx hb d_L_arity_50 rfl (lv_at hl 0 rfl) ?_
                refine lv_bipush (v := (122)) hx hb d_L_arity_51 (by decide) ?_
                refine lv_icmp_gt (tgt := 60) hx hb d_L_arity_53 (by decide) (fun h9 => ?_) (fun h9 => ?_)
                · have g57 : 122 < x.toInt := c_gt (n := 122) rfl h9
                  refine lv_iconst (v := (-1)) hx hb d_L_arity_60 (by decide) ?_
                  exact W.iret hx hb hr (fun t8 ht hW => ⟨_, rfl, (arR_n (by omega) (by omega) (by omega)).symm, ht⟩) (fun q h => by cases h) d_L_arity_61
                · have g58 : ¬ (122 < x.toInt) := c_gtn (n := 122) rfl h9
                  refine lv_iconst (v := 0) hx hb d_L_arity_56 (by decide) ?_
                  refine lv_goto (tgt := 61) hx hb d_L_arity_57 (by decide) ?_
                  exact W.iret hx hb hr (fun t8 ht hW => ⟨_, rfl, (arR_0 (by omega)).symm, ht⟩) (fun q h => by cases h) d_L_arity_61
        · have g59 : ¬ (104 < x.toInt) := c_gtn (n := 104) rfl h9
          refine lv_iconst (v := 1) hx hb d_L_arity_28 (by decide) ?_
          refine lv_goto (tgt := 61) hx hb d_L_arity_29 (by decide) ?_
          exact W.iret hx hb hr (fun t8 ht hW => ⟨_, rfl, (arR_1 (by omega)).symm, ht⟩) (fun q h => by cases h) d_L_arity_61
    · have g60 : ¬ (108 < x.toInt) := c_gtn (n := 108) rfl h9
      refine lv_iconst (v := 2) hx hb d_L_arity_12 (by decide) ?_
      refine lv_goto (tgt := 61) hx hb d_L_arity_13 (by decide) ?_
      exact W.iret hx hb hr (fun t8 ht hW => ⟨_, rfl, (arR_2 (by omega)).symm, ht⟩) (fun q h => by cases h) d_L_arity_61
set_option maxHeartbeats 4000000 in
set_option maxRecDepth 100000 in
theorem t_variable (l : Launch) (g : GQ) (x : Int32) : MetI l g yL_variable cL_variable 1 (some .boolean) ({ frames := 1, cells := 0, slots := 0, locals := 60 } : Room) [.int x] [] (True) (fun r => isV x ∧ r = 1 ∨ ¬ isV x ∧ r = 0) := by
  intro sz0 Z
  refine Met.ofW (cc := cL_variable) (maxL := 1) (ret := (some .boolean)) (by decide) rfl ?_
  intro p e s m args below meth c s₁ B hml hv
  obtain ⟨rfl, hv⟩ := hv
  have hX := hv.1.2.2.2.2
  have hx := B.exec
  have hb := B.bytes
  have hr := B.returns
  have hts0 := atoms_spec (ws := wD yL_variable cL_variable 1 (some .boolean)) B.pre
  have hts : ∀ w ∈ TW, w.before _ s = true := fun w h => hts0 w (List.mem_cons_of_mem _ h)
  have hown : s.vm.findClass RL = some m.cls := findClass_of_methodNamed B.named
  have hlocks := B.notSynchronized
  have hsz : s.heap.size = sz0 := hv.1.1
  subst hsz
  have h := lq_entry (U := 200) hv
  have S : CallFix p m c cL_variable 1 s _ TW RL := ⟨hx, hb, hml, hown, hts⟩
  have hl := lv_entry ([.int x]) (n := 1) (Nat.le_of_ble_eq_true rfl)
  rw [lg_entry_eq]
  generalize (lg_sl ([.int x]) ++ List.replicate (1 - (lg_sl ([.int x])).length) Slot.unset).toArray = ls at hl ⊢
  have hl : lv_has ls 1 [(0, .int x)] := hl
  have h : LQ g 200 s _ Z [] [] [] s.heap [] := h
  refine lv_iload_n hx hb d_L_variable_0 rfl (lv_at hl 0 rfl) ?_
  refine lv_bipush (v := (117)) hx hb d_L_variable_1 (by decide) ?_
  refine lv_icmp_lt (tgt := 16) hx hb d_L_variable_3 (by decide) (fun h9 => ?_) (fun h9 => ?_)
  · have g61 : x.toInt < 117 := c_lt (n := 117) rfl h9
    refine lv_iconst (v := 0) hx hb d_L_variable_16 (by decide) ?_
    exact W.zret hx hb hr rfl (fun t8 ht hW => ⟨_, rfl, Or.inr ⟨by omega, rfl⟩, ht⟩) (fun q h => by cases h) d_L_variable_17
  · have g62 : ¬ (x.toInt < 117) := c_ltn (n := 117) rfl h9
    refine lv_iload_n hx hb d_L_variable_6 rfl (lv_at hl 0 rfl) ?_
    refine lv_bipush (v := (122)) hx hb d_L_variable_7 (by decide) ?_
    refine lv_icmp_gt (tgt := 16) hx hb d_L_variable_9 (by decide) (fun h9 => ?_) (fun h9 => ?_)
    · have g63 : 122 < x.toInt := c_gt (n := 122) rfl h9
      refine lv_iconst (v := 0) hx hb d_L_variable_16 (by decide) ?_
      exact W.zret hx hb hr rfl (fun t8 ht hW => ⟨_, rfl, Or.inr ⟨by omega, rfl⟩, ht⟩) (fun q h => by cases h) d_L_variable_17
    · have g64 : ¬ (122 < x.toInt) := c_gtn (n := 122) rfl h9
      refine lv_iconst (v := 1) hx hb d_L_variable_12 (by decide) ?_
      refine lv_goto (tgt := 17) hx hb d_L_variable_13 (by decide) ?_
      exact W.zret hx hb hr rfl (fun t8 ht hW => ⟨_, rfl, Or.inl ⟨by omega, rfl⟩, ht⟩) (fun q h => by cases h) d_L_variable_17
set_option maxHeartbeats 4000000 in
set_option maxRecDepth 100000 in
theorem t_part (l : Launch) (g : GQ) (a b i : Nat) (t sf : List Int32) (T : Tm) : MetS l g yL_part cL_part 4 ({ frames := 8, cells := 2, slots := (sz T + 4), locals := 400 } : Room) (2) ((sz T + 4)) [.ref a, .int (jn i)] [.inl (a, b, t)] (t.drop i = en T ++ sf ∧ wf T ∧ 0 < i ∧ As t ∧ t.length ≤ 1000) (fun x => x = en T) := by
  intro sz0 Z
  refine Met.ofW (cc := cL_part) (maxL := 4) (ret := (some (.object "java/lang/String"))) (by decide) rfl ?_
  intro p e s m args below meth c s₁ B hml hv
  obtain ⟨rfl, hv⟩ := hv
  have hX := hv.1.2.2.2.2
  have hx := B.exec
  have hb := B.bytes
  have hr := B.returns
  have hts0 := atoms_spec (ws := wD yL_part cL_part 4 (some (.object "java/lang/String"))) B.pre
  have hts : ∀ w ∈ TW, w.before _ s = true := fun w h => hts0 w (List.mem_cons_of_mem _ h)
  have hown : s.vm.findClass RL = some m.cls := findClass_of_methodNamed B.named
  have hlocks := B.notSynchronized
  have hsz : s.heap.size = sz0 := hv.1.1
  subst hsz
  have h := lq_entry (U := 200) hv
  have S : CallFix p m c cL_part 4 s _ TW RL := ⟨hx, hb, hml, hown, hts⟩
  have hl := lv_entry ([.ref a, .int (jn i)]) (n := 4) (Nat.le_of_ble_eq_true rfl)
  rw [lg_entry_eq]
  generalize (lg_sl ([.ref a, .int (jn i)]) ++ List.replicate (4 - (lg_sl ([.ref a, .int (jn i)])).length) Slot.unset).toArray = ls at hl ⊢
  have hl : lv_has ls 4 [(0, .ref a), (1, .int (jn i))] := hl
  obtain ⟨hd0, hw, hi, has, hn⟩ := hX
  have h : LQ g 200 s _ Z [] [.inl (a, b, t)] [] s.heap [] := h
  refine lv_iconst (v := 1) hx hb d_L_part_0 (by decide) ?_
  refine lv_istore_n (lv' := [(2, .int 1), (0, .ref a), (1, .int (jn i))]) hx hb d_L_part_1 rfl hl (by decide) rfl (fun ls hl => ?_)
  refine lv_iload_n hx hb d_L_part_2 rfl (lv_at hl 2 rfl) ?_
  refine lv_istore_n (lv' := [(3, .int (jn i)), (2, .int 1), (0, .ref a), (1, .int (jn i))]) hx hb d_L_part_3 rfl hl (by decide) rfl (fun ls hl => ?_)
  have hlen : t.length - i = sz T + sf.length := by
    have := congrArg List.length hd0
    rw [List.length_drop, List.length_append] at this
    exact this
  have hpos := sz_pos T hw
  suffices loop : ∀ (n : Nat) (F : List Tm) (k : Nat) (ls : Array Slot), (enF F).length ≤ n → (∀ T9 ∈ F, wf T9) → t.drop k = enF F ++ sf → k ≤ t.length → lv_has ls 4 [(3, .int (jn k)), (2, .int (jn F.length)), (0, .ref a), (1, .int (jn i))] → W p l e _ s m _ below meth c s.heap [] 0 0 _ (F0 m 4 ls []) from loop (sz T) [T] i ls (by rw [enF, enF, List.append_nil]; exact Nat.le_refl _) (fun T9 h9 => by rw [List.mem_singleton.mp h9]; exact hw) (by rw [enF, enF, List.append_nil]; exact hd0) (by omega) hl
  clear hl ls
  intro n
  induction n with
  | zero =>
    intro F k ls hF hwF hdk hkt hl
    cases F with
    | nil =>
      have hl : lv_has ls 4 [(3, .int (jn k)), (2, .int 0), (0, .ref a), (1, .int (jn i))] := hl
      refine lv_iload_n hx hb d_L_part_4 rfl (lv_at hl 1 rfl) ?_
      refine lv_if_le (tgt := 27) hx hb d_L_part_5 (by decide) (fun _ => ?_) (fun h9 => absurd (Int32.le_refl 0) h9)
      have hk2 : k = i + sz T := by
        have h1 := congrArg List.length hdk
        rw [List.length_drop, enF, List.nil_append] at h1
        omega
      refine lv_aload_n hx hb d_L_part_27 rfl (lv_at hl 2 rfl) ?_
      refine lv_iload_n hx hb d_L_part_28 rfl (lv_at hl 3 rfl) ?_
      refine lv_iload_n hx hb d_L_part_29 rfl (lv_at hl 0 rfl) ?_
      refine lq_sub2 S hl.1 h (List.mem_of_getElem? (i := 0) rfl) hn has (i := i) (j := k) (by omega) hkt (Or.inl hi) ⟨by show 6 ≤ 8; omega, by show 274 ≤ 400; omega, by show _ ≤ 2; omega, by show _ ≤ (sz T + 4); omega⟩ (Nat.le_of_ble_eq_true rfl) d_L_part_30 (fun a1 b2 H locs h => ?_)
      have h : LQ g 200 s _ Z [] [.inl (a, b, t), .inl (a1, b2, (sbt t i k))] [] H locs := h
      rw [show (sbt t i k) = en T from sbt_drop hd0 hk2] at h
      have h : LQ g 200 s _ Z [] [.inl (a, b, t), .inl (a1, b2, en T)] [] H locs := h
      refine W.widen (k := 2) (n := (sz T + 4)) (by omega) (by omega) ?_
      exact W.aret hx hb hr (Or.inl ⟨_, rfl⟩) (Or.inr ⟨_, rfl⟩) (fun t8 ht hW => lq_post (P := fun x => x = en T) h (List.mem_of_getElem? (i := 1) rfl) rfl ht hW) h.lo d_L_part_33
    | cons T9 F => exact absurd hF (by have h7 : 0 < (en T9).length := sz_pos T9 (hwF T9 List.mem_cons_self); rw [enF, List.length_append]; omega)
  | succ n ih =>
    intro F k ls hF hwF hdk hkt hl
    cases F with
    | nil =>
      have hl : lv_has ls 4 [(3, .int (jn k)), (2, .int 0), (0, .ref a), (1, .int (jn i))] := hl
      refine lv_iload_n hx hb d_L_part_4 rfl (lv_at hl 1 rfl) ?_
      refine lv_if_le (tgt := 27) hx hb d_L_part_5 (by decide) (fun _ => ?_) (fun h9 => absurd (Int32.le_refl 0) h9)
      have hk2 : k = i + sz T := by
        have h1 := congrArg List.length hdk
        rw [List.length_drop, enF, List.nil_append] at h1
        omega
      refine lv_aload_n hx hb d_L_part_27 rfl (lv_at hl 2 rfl) ?_
      refine lv_iload_n hx hb d_L_part_28 rfl (lv_at hl 3 rfl) ?_
      refine lv_iload_n hx hb d_L_part_29 rfl (lv_at hl 0 rfl) ?_
      refine lq_sub2 S hl.1 h (List.mem_of_getElem? (i := 0) rfl) hn has (i := i) (j := k) (by omega) hkt (Or.inl hi) ⟨by show 6 ≤ 8; omega, by show 274 ≤ 400; omega, by show _ ≤ 2; omega, by show _ ≤ (sz T + 4); omega⟩ (Nat.le_of_ble_eq_true rfl) d_L_part_30 (fun a3 b4 H locs h => ?_)
      have h : LQ g 200 s _ Z [] [.inl (a, b, t), .inl (a3, b4, (sbt t i k))] [] H locs := h
      rw [show (sbt t i k) = en T from sbt_drop hd0 hk2] at h
      have h : LQ g 200 s _ Z [] [.inl (a, b, t), .inl (a3, b4, en T)] [] H locs := h
      refine W.widen (k := 2) (n := (sz T + 4)) (by omega) (by omega) ?_
      exact W.aret hx hb hr (Or.inl ⟨_, rfl⟩) (Or.inr ⟨_, rfl⟩) (fun t8 ht hW => lq_post (P := fun x => x = en T) h (List.mem_of_getElem? (i := 1) rfl) rfl ht hW) h.lo d_L_part_33
    | cons T9 F =>
      have hw9 := hwF T9 List.mem_cons_self
      have hwF' : ∀ T8 ∈ F, wf T8 := fun T8 h8 => hwF T8 (List.mem_cons_of_mem _ h8)
      have key : ∃ (x : Int32) (G : List Tm), enF (T9 :: F) = x :: enF G ∧ (∀ T8 ∈ G, wf T8) ∧ jn (T9 :: F).length + (arR x - 1) = jn G.length := pt_step hw9 hwF'
      obtain ⟨x, G, ke, kw, ka⟩ := key
      rw [ke, List.cons_append] at hdk
      obtain ⟨b1, b2, b3⟩ := bt_drop hdk
      have hFl : (T9 :: F).length ≤ 1000 := ff_len hwF (by rw [ke] at hF ⊢; have := congrArg List.length hdk; rw [List.length_drop, List.length_cons, List.length_append] at this; rw [List.length_cons]; omega)
      refine lv_iload_n hx hb d_L_part_4 rfl (lv_at hl 1 rfl) ?_
      refine lv_if_le (tgt := 27) hx hb d_L_part_5 (by decide) (fun h9 => absurd h9 (jn_npos (by rw [List.length_cons]; omega) (by omega))) (fun _ => ?_)
      refine lv_iload_n hx hb d_L_part_8 rfl (lv_at hl 1 rfl) ?_
      refine lv_aload_n hx hb d_L_part_9 rfl (lv_at hl 2 rfl) ?_
      refine lv_iload_n hx hb d_L_part_10 rfl (lv_at hl 0 rfl) ?_
      refine lq_chr S hl.1 h (List.mem_of_getElem? (i := 0) rfl) hn has (i := k) b2 ⟨by show 5 ≤ 8; omega, by show 221 ≤ 400; omega, by show _ ≤ 2; omega, by show _ ≤ (sz T + 4); omega⟩ (Nat.le_of_ble_eq_true rfl) d_L_part_11 ?_
      rw [b1]
      refine lq_callI (As := [.int x]) (rest := [.int (jn (T9 :: F).length)]) S hl.1 h (t_arity l g x) (fun x9 hx9 => absurd hx9 List.not_mem_nil) trivial (va_cwS 1 hts (g_sta (own := RL) (ix := 13) (y := yL_arity) (by decide +kernel) (by decide +kernel) (by decide +kernel) (g_con cw_L_arity)) rfl rfl rfl (by decide +kernel) ⟨by show 1 + 1 ≤ 8; omega, by show 8 + (1 + 11) + 60 ≤ 400; omega⟩) rfl rfl (Nat.le_of_ble_eq_true rfl) d_L_part_14 ⟨by show _ ≤ 2; omega, by show _ ≤ (sz T + 4); omega⟩ (fun r5 hr5 => ?_)
      obtain rfl := hr5
      refine lv_iconst (v := 1) hx hb d_L_part_17 (by decide) ?_
      refine lv_isub hx hb d_L_part_18 ?_
      refine lv_iadd hx hb d_L_part_19 ?_
      rw [ka]
      refine lv_istore_n (lv' := [(2, .int (jn G.length)), (3, .int (jn k)), (0, .ref a), (1, .int (jn i))]) hx hb d_L_part_20 rfl hl (by decide) rfl (fun ls hl => ?_)
      refine lv_iinc (v := ((jn k) + 1)) (lv' := [(3, .int ((jn k) + 1)), (2, .int (jn G.length)), (0, .ref a), (1, .int (jn i))]) hx hb d_L_part_21 hl (k := 1) rfl rfl (by decide) rfl (fun ls hl => ?_)
      rw [jn_1p] at hl
      refine lv_goto (tgt := 4) hx hb d_L_part_24 (by decide) ?_
      exact ih G (k + 1) ls (by rw [ke, List.length_cons] at hF; omega) kw b3 (by omega) hl
