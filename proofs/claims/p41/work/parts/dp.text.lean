/-! the law: argument, text (laid by wip/p41/gen/law2.py) -/
theorem one_jn {n : Nat} : 1 + jn n = jn (1 + n) := jn_add 1 n
theorem drop_app {t l r : List Int32} {i : Nat} (h : t.drop i = l ++ r) : t.drop (i + l.length) = r := by
  rw [← List.drop_drop, h, List.drop_left]
set_option maxRecDepth 100000 in
theorem cw_L_argument : Jvm.Cond.code yL_argument cL_argument 3 (some (.object "java/lang/String")) ∈ TW := TW_mem (List.mem_append_right _ (List.mem_append_right _ (List.mem_append_right _ (List.mem_append_right _ (List.mem_append_right _ (List.mem_append_left _ (List.mem_of_getElem? (l := tables_1_5) (i := 173) rfl))))))) rfl
set_option maxRecDepth 100000 in
theorem cw_L_part : Jvm.Cond.code yL_part cL_part 4 (some (.object "java/lang/String")) ∈ TW := TW_mem (List.mem_append_right _ (List.mem_append_right _ (List.mem_append_right _ (List.mem_append_right _ (List.mem_append_right _ (List.mem_append_left _ (List.mem_of_getElem? (l := tables_1_5) (i := 176) rfl))))))) rfl
set_option maxRecDepth 100000 in
theorem cw_L_text : Jvm.Cond.code yL_text cL_text 3 (some (.object "java/lang/String")) ∈ TW := TW_mem (List.mem_append_right _ (List.mem_append_right _ (List.mem_append_right _ (List.mem_append_right _ (List.mem_append_right _ (List.mem_append_left _ (List.mem_of_getElem? (l := tables_1_5) (i := 166) rfl))))))) rfl
theorem d_L_argument_0 : decode cL_argument 0 = .ok (.aload_n 0, 1) := by decide +kernel
theorem d_L_argument_1 : decode cL_argument 1 = .ok (.iconst 1, 1) := by decide +kernel
theorem d_L_argument_2 : decode cL_argument 2 = .ok (.invokestatic 23, 3) := by decide +kernel
theorem d_L_argument_5 : decode cL_argument 5 = .ok (.astore_n 2, 1) := by decide +kernel
theorem d_L_argument_6 : decode cL_argument 6 = .ok (.iload_n 1, 1) := by decide +kernel
theorem d_L_argument_7 : decode cL_argument 7 = .ok (.ifCond .ne (7), 3) := by decide +kernel
theorem d_L_argument_10 : decode cL_argument 10 = .ok (.aload_n 2, 1) := by decide +kernel
theorem d_L_argument_11 : decode cL_argument 11 = .ok (.goto (13), 3) := by decide +kernel
theorem d_L_argument_14 : decode cL_argument 14 = .ok (.aload_n 0, 1) := by decide +kernel
theorem d_L_argument_15 : decode cL_argument 15 = .ok (.iconst 1, 1) := by decide +kernel
theorem d_L_argument_16 : decode cL_argument 16 = .ok (.aload_n 2, 1) := by decide +kernel
theorem d_L_argument_17 : decode cL_argument 17 = .ok (.invokevirtual 27, 3) := by decide +kernel
theorem d_L_argument_20 : decode cL_argument 20 = .ok (.iadd, 1) := by decide +kernel
theorem d_L_argument_21 : decode cL_argument 21 = .ok (.invokestatic 23, 3) := by decide +kernel
theorem d_L_argument_24 : decode cL_argument 24 = .ok (.areturn, 1) := by decide +kernel
theorem d_L_text_0 : decode cL_text 0 = .ok (.aload_n 0, 1) := by decide +kernel
theorem d_L_text_1 : decode cL_text 1 = .ok (.iconst 0, 1) := by decide +kernel
theorem d_L_text_2 : decode cL_text 2 = .ok (.invokevirtual 7, 3) := by decide +kernel
theorem d_L_text_5 : decode cL_text 5 = .ok (.istore_n 1, 1) := by decide +kernel
theorem d_L_text_6 : decode cL_text 6 = .ok (.iload_n 1, 1) := by decide +kernel
theorem d_L_text_7 : decode cL_text 7 = .ok (.invokestatic 13, 3) := by decide +kernel
theorem d_L_text_10 : decode cL_text 10 = .ok (.istore_n 2, 1) := by decide +kernel
theorem d_L_text_11 : decode cL_text 11 = .ok (.iload_n 2, 1) := by decide +kernel
theorem d_L_text_12 : decode cL_text 12 = .ok (.ifCond .ne (5), 3) := by decide +kernel
theorem d_L_text_15 : decode cL_text 15 = .ok (.aload_n 0, 1) := by decide +kernel
theorem d_L_text_16 : decode cL_text 16 = .ok (.areturn, 1) := by decide +kernel
theorem d_L_text_17 : decode cL_text 17 = .ok (.new 35, 3) := by decide +kernel
theorem d_L_text_20 : decode cL_text 20 = .ok (.dup, 1) := by decide +kernel
theorem d_L_text_21 : decode cL_text 21 = .ok (.invokespecial 37, 3) := by decide +kernel
theorem d_L_text_24 : decode cL_text 24 = .ok (.iload_n 1, 1) := by decide +kernel
theorem d_L_text_25 : decode cL_text 25 = .ok (.invokevirtual 38, 3) := by decide +kernel
theorem d_L_text_28 : decode cL_text 28 = .ok (.ldc 42, 2) := by decide +kernel
theorem d_L_text_30 : decode cL_text 30 = .ok (.invokevirtual 44, 3) := by decide +kernel
theorem d_L_text_33 : decode cL_text 33 = .ok (.aload_n 0, 1) := by decide +kernel
theorem d_L_text_34 : decode cL_text 34 = .ok (.iconst 0, 1) := by decide +kernel
theorem d_L_text_35 : decode cL_text 35 = .ok (.invokestatic 47, 3) := by decide +kernel
theorem d_L_text_38 : decode cL_text 38 = .ok (.invokestatic 50, 3) := by decide +kernel
theorem d_L_text_41 : decode cL_text 41 = .ok (.invokevirtual 44, 3) := by decide +kernel
theorem d_L_text_44 : decode cL_text 44 = .ok (.iload_n 2, 1) := by decide +kernel
theorem d_L_text_45 : decode cL_text 45 = .ok (.iconst 1, 1) := by decide +kernel
theorem d_L_text_46 : decode cL_text 46 = .ok (.if_icmp .ne (8), 3) := by decide +kernel
theorem d_L_text_49 : decode cL_text 49 = .ok (.ldc 54, 2) := by decide +kernel
theorem d_L_text_51 : decode cL_text 51 = .ok (.goto (29), 3) := by decide +kernel
theorem d_L_text_54 : decode cL_text 54 = .ok (.new 35, 3) := by decide +kernel
theorem d_L_text_57 : decode cL_text 57 = .ok (.dup, 1) := by decide +kernel
theorem d_L_text_58 : decode cL_text 58 = .ok (.invokespecial 37, 3) := by decide +kernel
theorem d_L_text_61 : decode cL_text 61 = .ok (.ldc 56, 2) := by decide +kernel
theorem d_L_text_63 : decode cL_text 63 = .ok (.invokevirtual 44, 3) := by decide +kernel
theorem d_L_text_66 : decode cL_text 66 = .ok (.aload_n 0, 1) := by decide +kernel
theorem d_L_text_67 : decode cL_text 67 = .ok (.iconst 1, 1) := by decide +kernel
theorem d_L_text_68 : decode cL_text 68 = .ok (.invokestatic 47, 3) := by decide +kernel
theorem d_L_text_71 : decode cL_text 71 = .ok (.invokestatic 50, 3) := by decide +kernel
theorem d_L_text_74 : decode cL_text 74 = .ok (.invokevirtual 44, 3) := by decide +kernel
theorem d_L_text_77 : decode cL_text 77 = .ok (.invokevirtual 58, 3) := by decide +kernel
theorem d_L_text_80 : decode cL_text 80 = .ok (.invokevirtual 44, 3) := by decide +kernel
theorem d_L_text_83 : decode cL_text 83 = .ok (.ldc 62, 2) := by decide +kernel
theorem d_L_text_85 : decode cL_text 85 = .ok (.invokevirtual 44, 3) := by decide +kernel
theorem d_L_text_88 : decode cL_text 88 = .ok (.invokevirtual 58, 3) := by decide +kernel
theorem d_L_text_91 : decode cL_text 91 = .ok (.areturn, 1) := by decide +kernel
set_option maxHeartbeats 4000000 in
set_option maxRecDepth 100000 in
theorem t_arg0 (l : Launch) (g : GQ) (a b : Nat) (t sf : List Int32) (T : Tm) : MetS l g yL_argument cL_argument 3 ({ frames := 10, cells := 2, slots := (sz T + 4), locals := 450 } : Room) (2) ((sz T + 4)) [.ref a, .int 0] [.inl (a, b, t)] (t.drop 1 = en T ++ sf ∧ wf T ∧ As t ∧ t.length ≤ 1000) (fun x => x = en T) := by
  intro sz0 Z
  refine Met.ofW (cc := cL_argument) (maxL := 3) (ret := (some (.object "java/lang/String"))) (by decide) rfl ?_
  intro p e s m args below meth c s₁ B hml hv
  obtain ⟨rfl, hv⟩ := hv
  have hX := hv.1.2.2.2.2
  have hx := B.exec
  have hb := B.bytes
  have hr := B.returns
  have hts0 := atoms_spec (ws := wD yL_argument cL_argument 3 (some (.object "java/lang/String"))) B.pre
  have hts : ∀ w ∈ TW, w.before _ s = true := fun w h => hts0 w (List.mem_cons_of_mem _ h)
  have hown : s.vm.findClass RL = some m.cls := findClass_of_methodNamed B.named
  have hlocks := B.notSynchronized
  have hsz : s.heap.size = sz0 := hv.1.1
  subst hsz
  have h := lq_entry (U := 200) hv
  have S : CallFix p m c cL_argument 3 s _ TW RL := ⟨hx, hb, hml, hown, hts⟩
  have hl := lv_entry ([.ref a, .int 0]) (n := 3) (Nat.le_of_ble_eq_true rfl)
  rw [lg_entry_eq]
  generalize (lg_sl ([.ref a, .int 0]) ++ List.replicate (3 - (lg_sl ([.ref a, .int 0])).length) Slot.unset).toArray = ls at hl ⊢
  have hl : lv_has ls 3 [(0, .ref a), (1, .int 0)] := hl
  obtain ⟨hd0, hw, has, hn⟩ := hX
  have h : LQ g 200 s _ Z [] [.inl (a, b, t)] [] s.heap [] := h
  refine lv_aload_n hx hb d_L_argument_0 rfl (lv_at hl 0 rfl) ?_
  refine lv_iconst (v := 1) hx hb d_L_argument_1 (by decide) ?_
  refine lq_callS (As := [.ref a, .int 1]) (rest := []) S hl.1 h (t_part l g a b 1 t sf T) (fun x9 hx9 => by rw [List.mem_singleton] at hx9; rw [hx9]; exact List.mem_of_getElem? (i := 0) rfl) ⟨hd0, hw, by decide, has, hn⟩ (va_cwS 2 hts (g_sta (own := RL) (ix := 23) (y := yL_part) (by decide +kernel) (by decide +kernel) (by decide +kernel) (g_con cw_L_part)) rfl rfl rfl (by decide +kernel) ⟨by show 8 + 1 ≤ 10; omega, by show 8 + (4 + 11) + 400 ≤ 450; omega⟩) rfl rfl (Nat.le_of_ble_eq_true rfl) d_L_argument_2 ⟨by show _ ≤ 2; omega, by show _ ≤ (sz T + 4); omega⟩ (fun a1 b2 t9 H locs ha1 h => ?_)
  have h : LQ g 200 s _ Z [] [.inl (a, b, t), .inl (a1, b2, t9)] [] H locs := h
  rw [show t9 = (en T) from ha1] at h
  have h : LQ g 200 s _ Z [] [.inl (a, b, t), .inl (a1, b2, (en T))] [] H locs := h
  refine lv_astore_n (lv' := [(2, .ref a1), (0, .ref a), (1, .int 0)]) hx hb d_L_argument_5 rfl hl (by decide) rfl (fun ls hl => ?_)
  refine lv_iload_n hx hb d_L_argument_6 rfl (lv_at hl 2 rfl) ?_
  refine lv_if_ne (tgt := 14) hx hb d_L_argument_7 (by decide) (fun h9 => absurd h9 (fun z9 => z9 rfl)) (fun _ => ?_)
  refine lv_aload_n hx hb d_L_argument_10 rfl (lv_at hl 0 rfl) ?_
  refine lv_goto (tgt := 24) hx hb d_L_argument_11 (by decide) ?_
  refine W.widen (k := 2) (n := (sz T + 4)) (by omega) (by omega) ?_
  exact W.aret hx hb hr (Or.inl ⟨_, rfl⟩) (Or.inr ⟨_, rfl⟩) (fun t8 ht hW => lq_post (P := fun x => x = en T) h (List.mem_of_getElem? (i := 1) rfl) rfl ht hW) h.lo d_L_argument_24
set_option maxHeartbeats 4000000 in
set_option maxRecDepth 100000 in
theorem t_arg1 (l : Launch) (g : GQ) (a b : Nat) (t sf : List Int32) (T T2 : Tm) : MetS l g yL_argument cL_argument 3 ({ frames := 10, cells := 4, slots := (sz T + sz T2 + 8), locals := 450 } : Room) (4) ((sz T + sz T2 + 8)) [.ref a, .int 1] [.inl (a, b, t)] (t.drop 1 = en T ++ (en T2 ++ sf) ∧ wf T ∧ wf T2 ∧ As t ∧ t.length ≤ 1000) (fun x => x = en T2) := by
  intro sz0 Z
  refine Met.ofW (cc := cL_argument) (maxL := 3) (ret := (some (.object "java/lang/String"))) (by decide) rfl ?_
  intro p e s m args below meth c s₁ B hml hv
  obtain ⟨rfl, hv⟩ := hv
  have hX := hv.1.2.2.2.2
  have hx := B.exec
  have hb := B.bytes
  have hr := B.returns
  have hts0 := atoms_spec (ws := wD yL_argument cL_argument 3 (some (.object "java/lang/String"))) B.pre
  have hts : ∀ w ∈ TW, w.before _ s = true := fun w h => hts0 w (List.mem_cons_of_mem _ h)
  have hown : s.vm.findClass RL = some m.cls := findClass_of_methodNamed B.named
  have hlocks := B.notSynchronized
  have hsz : s.heap.size = sz0 := hv.1.1
  subst hsz
  have h := lq_entry (U := 200) hv
  have S : CallFix p m c cL_argument 3 s _ TW RL := ⟨hx, hb, hml, hown, hts⟩
  have hl := lv_entry ([.ref a, .int 1]) (n := 3) (Nat.le_of_ble_eq_true rfl)
  rw [lg_entry_eq]
  generalize (lg_sl ([.ref a, .int 1]) ++ List.replicate (3 - (lg_sl ([.ref a, .int 1])).length) Slot.unset).toArray = ls at hl ⊢
  have hl : lv_has ls 3 [(0, .ref a), (1, .int 1)] := hl
  obtain ⟨hd0, hw, hw2, has, hn⟩ := hX
  have h : LQ g 200 s _ Z [] [.inl (a, b, t)] [] s.heap [] := h
  have hlT : (en T).length ≤ 1000 := by
    have h7 := congrArg List.length hd0
    rw [List.length_drop, List.length_append] at h7
    omega
  refine lv_aload_n hx hb d_L_argument_0 rfl (lv_at hl 0 rfl) ?_
  refine lv_iconst (v := 1) hx hb d_L_argument_1 (by decide) ?_
  refine lq_callS (As := [.ref a, .int 1]) (rest := []) S hl.1 h (t_part l g a b 1 t (en T2 ++ sf) T) (fun x9 hx9 => by rw [List.mem_singleton] at hx9; rw [hx9]; exact List.mem_of_getElem? (i := 0) rfl) ⟨hd0, hw, by decide, has, hn⟩ (va_cwS 2 hts (g_sta (own := RL) (ix := 23) (y := yL_part) (by decide +kernel) (by decide +kernel) (by decide +kernel) (g_con cw_L_part)) rfl rfl rfl (by decide +kernel) ⟨by show 8 + 1 ≤ 10; omega, by show 8 + (4 + 11) + 400 ≤ 450; omega⟩) rfl rfl (Nat.le_of_ble_eq_true rfl) d_L_argument_2 ⟨by show _ ≤ 4; omega, by show _ ≤ (sz T + sz T2 + 8); omega⟩ (fun a1 b2 t9 H locs ha1 h => ?_)
  have h : LQ g 200 s _ Z [] [.inl (a, b, t), .inl (a1, b2, t9)] [] H locs := h
  rw [show t9 = (en T) from ha1] at h
  have h : LQ g 200 s _ Z [] [.inl (a, b, t), .inl (a1, b2, (en T))] [] H locs := h
  refine lv_astore_n (lv' := [(2, .ref a1), (0, .ref a), (1, .int 1)]) hx hb d_L_argument_5 rfl hl (by decide) rfl (fun ls hl => ?_)
  refine lv_iload_n hx hb d_L_argument_6 rfl (lv_at hl 2 rfl) ?_
  refine lv_if_ne (tgt := 14) hx hb d_L_argument_7 (by decide) (fun _ => ?_) (fun h9 => absurd h9 (by decide))
  refine lv_aload_n hx hb d_L_argument_14 rfl (lv_at hl 1 rfl) ?_
  refine lv_iconst (v := 1) hx hb d_L_argument_15 (by decide) ?_
  refine lv_aload_n hx hb d_L_argument_16 rfl (lv_at hl 0 rfl) ?_
  refine lq_len S hl.1 h (List.mem_of_getElem? (i := 1) rfl) hlT ⟨by show _ ≤ 10; omega, by show _ ≤ 450; omega, by show _ ≤ 4; omega, by show _ ≤ (sz T + sz T2 + 8); omega⟩ (Nat.le_of_ble_eq_true rfl) d_L_argument_17 ?_
  refine lv_iadd hx hb d_L_argument_20 ?_
  rw [one_jn]
  refine lq_callS (As := [.ref a, .int (jn (1 + (en T).length))]) (rest := []) S hl.1 h (t_part l g a b (1 + (en T).length) t sf T2) (fun x9 hx9 => by rw [List.mem_singleton] at hx9; rw [hx9]; exact List.mem_of_getElem? (i := 0) rfl) ⟨drop_app hd0, hw2, by omega, has, hn⟩ (va_cwS 2 hts (g_sta (own := RL) (ix := 23) (y := yL_part) (by decide +kernel) (by decide +kernel) (by decide +kernel) (g_con cw_L_part)) rfl rfl rfl (by decide +kernel) ⟨by show 8 + 1 ≤ 10; omega, by show 8 + (4 + 11) + 400 ≤ 450; omega⟩) rfl rfl (Nat.le_of_ble_eq_true rfl) d_L_argument_21 ⟨by show _ ≤ 4; omega, by show _ ≤ (sz T + sz T2 + 8); omega⟩ (fun a3 b4 t9 H locs ha3 h => ?_)
  have h : LQ g 200 s _ Z [] [.inl (a, b, t), .inl (a1, b2, (en T)), .inl (a3, b4, t9)] [] H locs := h
  rw [show t9 = (en T2) from ha3] at h
  have h : LQ g 200 s _ Z [] [.inl (a, b, t), .inl (a1, b2, (en T)), .inl (a3, b4, (en T2))] [] H locs := h
  refine W.widen (k := 4) (n := (sz T + sz T2 + 8)) (by omega) (by omega) ?_
  exact W.aret hx hb hr (Or.inl ⟨_, rfl⟩) (Or.inr ⟨_, rfl⟩) (fun t8 ht hW => lq_post (P := fun x => x = en T2) h (List.mem_of_getElem? (i := 2) rfl) rfl ht hW) h.lo d_L_argument_24
set_option maxHeartbeats 4000000 in
set_option maxRecDepth 100000 in
theorem t_text0 (l : Launch) (g : GQ) (k : Nat) (hk : k < 128) (hc : is0 (jn k)) (a b : Nat) : MetS l g yL_text cL_text 3 ({ frames := 12 + 1, cells := 24 * 1, slots := 4000 * 1, locals := 600 + 100 * 1 } : Room) (24 * 1) (4000 * 1) [.ref a] [.inl (a, b, [jn k])] (True) (fun x => x = [jn k]) := by
  intro sz0 Z
  refine Met.ofW (cc := cL_text) (maxL := 3) (ret := (some (.object "java/lang/String"))) (by decide) rfl ?_
  intro p e s m args below meth c s₁ B hml hv
  obtain ⟨rfl, hv⟩ := hv
  have hX := hv.1.2.2.2.2
  have hx := B.exec
  have hb := B.bytes
  have hr := B.returns
  have hts0 := atoms_spec (ws := wD yL_text cL_text 3 (some (.object "java/lang/String"))) B.pre
  have hts : ∀ w ∈ TW, w.before _ s = true := fun w h => hts0 w (List.mem_cons_of_mem _ h)
  have hown : s.vm.findClass RL = some m.cls := findClass_of_methodNamed B.named
  have hlocks := B.notSynchronized
  have hsz : s.heap.size = sz0 := hv.1.1
  subst hsz
  have h := lq_entry (U := 200) hv
  have S : CallFix p m c cL_text 3 s _ TW RL := ⟨hx, hb, hml, hown, hts⟩
  have hl := lv_entry ([.ref a]) (n := 3) (Nat.le_of_ble_eq_true rfl)
  rw [lg_entry_eq]
  generalize (lg_sl ([.ref a]) ++ List.replicate (3 - (lg_sl ([.ref a])).length) Slot.unset).toArray = ls at hl ⊢
  have hl : lv_has ls 3 [(0, .ref a)] := hl
  have hlt : [jn k].length ≤ 1000 := by simp
  have hat : As [jn k] := As_one hk
  have hl0 : 0 < [jn k].length := by simp
  have h : LQ g 200 s _ Z [] [.inl (a, b, [jn k])] [] s.heap [] := h
  refine lv_aload_n hx hb d_L_text_0 rfl (lv_at hl 0 rfl) ?_
  refine lv_iconst (v := 0) hx hb d_L_text_1 (by decide) ?_
  refine lq_chr S hl.1 h (List.mem_of_getElem? (i := 0) rfl) hlt hat (i := 0) hl0 ⟨by show _ ≤ 12 + 1; omega, by show _ ≤ 600 + 100 * 1; omega, by show _ ≤ 24 * 1; omega, by show _ ≤ 4000 * 1; omega⟩ (Nat.le_of_ble_eq_true rfl) d_L_text_2 ?_
  rw [show bt ([jn k]) 0 = jn k from rfl]
  refine lv_istore_n (lv' := [(1, .int (jn k)), (0, .ref a)]) hx hb d_L_text_5 rfl hl (by decide) rfl (fun ls hl => ?_)
  refine lv_iload_n hx hb d_L_text_6 rfl (lv_at hl 0 rfl) ?_
  refine lq_callI (As := [.int (jn k)]) (rest := []) S hl.1 h (t_arity l g (jn k)) (fun x9 hx9 => absurd hx9 List.not_mem_nil) trivial (va_cwS 1 hts (g_sta (own := RL) (ix := 13) (y := yL_arity) (by decide +kernel) (by decide +kernel) (by decide +kernel) (g_con cw_L_arity)) rfl rfl rfl (by decide +kernel) ⟨by show 1 + 1 ≤ 12 + 1; omega, by show 8 + (1 + 11) + 60 ≤ 600 + 100 * 1; omega⟩) rfl rfl (Nat.le_of_ble_eq_true rfl) d_L_text_7 ⟨by show _ ≤ 24 * 1; omega, by show _ ≤ 4000 * 1; omega⟩ (fun r1 hr1 => ?_)
  obtain rfl := hr1
  rw [arR_0 hc]
  refine lv_istore_n (lv' := [(2, .int (jn 0)), (1, .int (jn k)), (0, .ref a)]) hx hb d_L_text_10 rfl hl (by decide) rfl (fun ls hl => ?_)
  refine lv_iload_n hx hb d_L_text_11 rfl (lv_at hl 0 rfl) ?_
  refine lv_if_ne (tgt := 17) hx hb d_L_text_12 (by decide) (fun h9 => absurd h9 (fun z9 => z9 rfl)) (fun _ => ?_)
  refine lv_aload_n hx hb d_L_text_15 rfl (lv_at hl 2 rfl) ?_
  refine W.widen (k := 24 * 1) (n := 4000 * 1) (by omega) (by omega) ?_
  exact W.aret hx hb hr (Or.inl ⟨_, rfl⟩) (Or.inr ⟨_, rfl⟩) (fun t8 ht hW => lq_post (P := fun x => x = [jn k]) h (List.mem_of_getElem? (i := 0) rfl) rfl ht hW) h.lo d_L_text_16
set_option maxHeartbeats 4000000 in
set_option maxRecDepth 100000 in
theorem t_text1 (l : Launch) (g : GQ) (k : Nat) (hk : k < 128) (hc : is1 (jn k)) (P : Tm) (hP : wf P) (np : Nat) (hnp : sz P = np) (hs : np + 1 ≤ 40) (ihP : ∀ a b : Nat, MetS l g yL_text cL_text 3 ({ frames := 12 + np, cells := 24 * np, slots := 4000 * np, locals := 600 + 100 * np } : Room) (24 * np) (4000 * np) [.ref a] [.inl (a, b, en P)] (True) (fun x => x = txt P)) (a b : Nat) : MetS l g yL_text cL_text 3 ({ frames := 12 + (np + 1), cells := 24 * (np + 1), slots := 4000 * (np + 1), locals := 600 + 100 * (np + 1) } : Room) (24 * (np + 1)) (4000 * (np + 1)) [.ref a] [.inl (a, b, (jn k :: en P))] (True) (fun x => x = (jn k :: jn 40 :: (txt P ++ [jn 41]))) := by
  intro sz0 Z
  refine Met.ofW (cc := cL_text) (maxL := 3) (ret := (some (.object "java/lang/String"))) (by decide) rfl ?_
  intro p e s m args below meth c s₁ B hml hv
  obtain ⟨rfl, hv⟩ := hv
  have hX := hv.1.2.2.2.2
  have hx := B.exec
  have hb := B.bytes
  have hr := B.returns
  have hts0 := atoms_spec (ws := wD yL_text cL_text 3 (some (.object "java/lang/String"))) B.pre
  have hts : ∀ w ∈ TW, w.before _ s = true := fun w h => hts0 w (List.mem_cons_of_mem _ h)
  have hown : s.vm.findClass RL = some m.cls := findClass_of_methodNamed B.named
  have hlocks := B.notSynchronized
  have hsz : s.heap.size = sz0 := hv.1.1
  subst hsz
  have h := lq_entry (U := 200) hv
  have S : CallFix p m c cL_text 3 s _ TW RL := ⟨hx, hb, hml, hown, hts⟩
  have hl := lv_entry ([.ref a]) (n := 3) (Nat.le_of_ble_eq_true rfl)
  rw [lg_entry_eq]
  generalize (lg_sl ([.ref a]) ++ List.replicate (3 - (lg_sl ([.ref a])).length) Slot.unset).toArray = ls at hl ⊢
  have hl : lv_has ls 3 [(0, .ref a)] := hl
  have hlP : (txt P).length ≤ 4 * np := by rw [← hnp]; exact (txt_len P hP).1
  have hle : (en P).length = np := hnp
  have hlt : (jn k :: en P).length ≤ 1000 := by rw [List.length_cons]; omega
  have hat : As (jn k :: en P) := As_app (As_one hk) (As_en hP)
  have hl0 : 0 < (jn k :: en P).length := by simp
  have h : LQ g 200 s _ Z [] [.inl (a, b, (jn k :: en P))] [] s.heap [] := h
  refine lv_aload_n hx hb d_L_text_0 rfl (lv_at hl 0 rfl) ?_
  refine lv_iconst (v := 0) hx hb d_L_text_1 (by decide) ?_
  refine lq_chr S hl.1 h (List.mem_of_getElem? (i := 0) rfl) hlt hat (i := 0) hl0 ⟨by show _ ≤ 12 + (np + 1); omega, by show _ ≤ 600 + 100 * (np + 1); omega, by show _ ≤ 24 * (np + 1); omega, by show _ ≤ 4000 * (np + 1); omega⟩ (Nat.le_of_ble_eq_true rfl) d_L_text_2 ?_
  rw [show bt (jn k :: en P) 0 = jn k from rfl]
  refine lv_istore_n (lv' := [(1, .int (jn k)), (0, .ref a)]) hx hb d_L_text_5 rfl hl (by decide) rfl (fun ls hl => ?_)
  refine lv_iload_n hx hb d_L_text_6 rfl (lv_at hl 0 rfl) ?_
  refine lq_callI (As := [.int (jn k)]) (rest := []) S hl.1 h (t_arity l g (jn k)) (fun x9 hx9 => absurd hx9 List.not_mem_nil) trivial (va_cwS 1 hts (g_sta (own := RL) (ix := 13) (y := yL_arity) (by decide +kernel) (by decide +kernel) (by decide +kernel) (g_con cw_L_arity)) rfl rfl rfl (by decide +kernel) ⟨by show 1 + 1 ≤ 12 + (np + 1); omega, by show 8 + (1 + 11) + 60 ≤ 600 + 100 * (np + 1); omega⟩) rfl rfl (Nat.le_of_ble_eq_true rfl) d_L_text_7 ⟨by show _ ≤ 24 * (np + 1); omega, by show _ ≤ 4000 * (np + 1); omega⟩ (fun r1 hr1 => ?_)
  obtain rfl := hr1
  rw [arR_1 hc]
  refine lv_istore_n (lv' := [(2, .int (jn 1)), (1, .int (jn k)), (0, .ref a)]) hx hb d_L_text_10 rfl hl (by decide) rfl (fun ls hl => ?_)
  refine lv_iload_n hx hb d_L_text_11 rfl (lv_at hl 0 rfl) ?_
  refine lv_if_ne (tgt := 17) hx hb d_L_text_12 (by decide) (fun _ => ?_) (fun h9 => absurd h9 (by decide))
  refine lq_new S hl.1 h ⟨by show _ ≤ 12 + (np + 1); omega, by show _ ≤ 600 + 100 * (np + 1); omega, by show _ ≤ 24 * (np + 1); omega, by show _ ≤ 4000 * (np + 1); omega⟩ (Nat.le_of_ble_eq_true rfl) d_L_text_17 d_L_text_20 d_L_text_21 (fun q2 H locs h => ?_)
  have h : LQ g 200 s _ Z [] [.inl (a, b, (jn k :: en P))] [(q2, [])] H locs := h
  refine lv_iload_n hx hb d_L_text_24 rfl (lv_at hl 1 rfl) ?_
  refine lq_appC (k := k) S hl.1 h (by first | omega | (simp only [List.length_append, List.length_cons, List.length_nil]; omega)) (by omega) hk ⟨by show _ ≤ 12 + (np + 1); omega, by show _ ≤ 600 + 100 * (np + 1); omega, by show _ ≤ 24 * (np + 1); omega, by show _ ≤ 4000 * (np + 1); omega⟩ (Nat.le_of_ble_eq_true rfl) d_L_text_25 (fun H locs h => ?_)
  have h : LQ g 200 s _ Z [] [.inl (a, b, (jn k :: en P))] [(q2, ([] ++ [jn k]))] H locs := h
  refine lq_ldc S h (ix := 42) (tx := "(") (t := [40]) (by decide) d_L_text_28 (fun a3 b4 h => ?_)
  have h : LQ g 200 s _ Z [] [.inl (a, b, (jn k :: en P)), .inl (a3, b4, [40])] [(q2, ([] ++ [jn k]))] H locs := h
  refine lq_appS S hl.1 h (List.mem_of_getElem? (i := 1) rfl) (by first | omega | (simp only [List.length_append, List.length_cons, List.length_nil]; omega)) (As_k (by decide)) (by first | omega | (simp only [List.length_append, List.length_cons, List.length_nil]; omega)) (by omega) ⟨by show _ ≤ 12 + (np + 1); omega, by show _ ≤ 600 + 100 * (np + 1); omega, by show _ ≤ 24 * (np + 1); omega, by show _ ≤ 4000 * (np + 1); omega⟩ (Nat.le_of_ble_eq_true rfl) d_L_text_30 (fun H locs h => ?_)
  have h : LQ g 200 s _ Z [] [.inl (a, b, (jn k :: en P)), .inl (a3, b4, [40])] [(q2, (([] ++ [jn k]) ++ ([40])))] H locs := h
  refine lv_aload_n hx hb d_L_text_33 rfl (lv_at hl 2 rfl) ?_
  refine lv_iconst (v := 0) hx hb d_L_text_34 (by decide) ?_
  refine lq_callS (As := [.ref a, .int 0]) (rest := [.ref q2]) S hl.1 h (t_arg0 l g a b (jn k :: en P) [] P) (fun x9 hx9 => by rw [List.mem_singleton] at hx9; rw [hx9]; exact List.mem_of_getElem? (i := 0) rfl) ⟨by simp, hP, hat, hlt⟩ (va_cwS 2 hts (g_sta (own := RL) (ix := 47) (y := yL_argument) (by decide +kernel) (by decide +kernel) (by decide +kernel) (g_con cw_L_argument)) rfl rfl rfl (by decide +kernel) ⟨by show 10 + 1 ≤ 12 + (np + 1); omega, by show 8 + (3 + 11) + 450 ≤ 600 + 100 * (np + 1); omega⟩) rfl rfl (Nat.le_of_ble_eq_true rfl) d_L_text_35 ⟨by show _ ≤ 24 * (np + 1); omega, by show _ ≤ 4000 * (np + 1); omega⟩ (fun a5 b6 t9 H locs ha5 h => ?_)
  have h : LQ g 200 s _ Z [] [.inl (a, b, (jn k :: en P)), .inl (a3, b4, [40]), .inl (a5, b6, t9)] [(q2, (([] ++ [jn k]) ++ ([40])))] H locs := h
  rw [show t9 = (en P) from ha5] at h
  have h : LQ g 200 s _ Z [] [.inl (a, b, (jn k :: en P)), .inl (a3, b4, [40]), .inl (a5, b6, (en P))] [(q2, (([] ++ [jn k]) ++ ([40])))] H locs := h
  refine lq_callS (As := [.ref a5]) (rest := [.ref q2]) S hl.1 h (ihP a5 b6) (fun x9 hx9 => by rw [List.mem_singleton] at hx9; rw [hx9]; exact List.mem_of_getElem? (i := 2) rfl) trivial (va_cwS 1 hts (g_sta (own := RL) (ix := 50) (y := yL_text) (by decide +kernel) (by decide +kernel) (by decide +kernel) (g_con cw_L_text)) rfl rfl rfl (by decide +kernel) ⟨by show (12 + np) + 1 ≤ 12 + (np + 1); omega, by show 8 + (3 + 11) + (600 + 100 * np) ≤ 600 + 100 * (np + 1); omega⟩) rfl rfl (Nat.le_of_ble_eq_true rfl) d_L_text_38 ⟨by show _ ≤ 24 * (np + 1); omega, by show _ ≤ 4000 * (np + 1); omega⟩ (fun a7 b8 t9 H locs ha7 h => ?_)
  have h : LQ g 200 s _ Z [] [.inl (a, b, (jn k :: en P)), .inl (a3, b4, [40]), .inl (a5, b6, (en P)), .inl (a7, b8, t9)] [(q2, (([] ++ [jn k]) ++ ([40])))] H locs := h
  rw [show t9 = (txt P) from ha7] at h
  have h : LQ g 200 s _ Z [] [.inl (a, b, (jn k :: en P)), .inl (a3, b4, [40]), .inl (a5, b6, (en P)), .inl (a7, b8, (txt P))] [(q2, (([] ++ [jn k]) ++ ([40])))] H locs := h
  refine lq_appS S hl.1 h (List.mem_of_getElem? (i := 3) rfl) (by first | omega | (simp only [List.length_append, List.length_cons, List.length_nil]; omega)) (As_txt hP) (by first | omega | (simp only [List.length_append, List.length_cons, List.length_nil]; omega)) (by omega) ⟨by show _ ≤ 12 + (np + 1); omega, by show _ ≤ 600 + 100 * (np + 1); omega, by show _ ≤ 24 * (np + 1); omega, by show _ ≤ 4000 * (np + 1); omega⟩ (Nat.le_of_ble_eq_true rfl) d_L_text_41 (fun H locs h => ?_)
  have h : LQ g 200 s _ Z [] [.inl (a, b, (jn k :: en P)), .inl (a3, b4, [40]), .inl (a5, b6, (en P)), .inl (a7, b8, (txt P))] [(q2, ((([] ++ [jn k]) ++ ([40])) ++ (txt P)))] H locs := h
  refine lv_iload_n hx hb d_L_text_44 rfl (lv_at hl 0 rfl) ?_
  refine lv_iconst (v := 1) hx hb d_L_text_45 (by decide) ?_
  refine lv_icmp_ne (tgt := 54) hx hb d_L_text_46 (by decide) (fun h9 => absurd h9 (fun z9 => z9 rfl)) (fun _ => ?_)
  refine lq_ldc S h (ix := 54) (tx := "") (t := []) (by decide) d_L_text_49 (fun a9 b10 h => ?_)
  have h : LQ g 200 s _ Z [] [.inl (a, b, (jn k :: en P)), .inl (a3, b4, [40]), .inl (a5, b6, (en P)), .inl (a7, b8, (txt P)), .inl (a9, b10, [])] [(q2, ((([] ++ [jn k]) ++ ([40])) ++ (txt P)))] H locs := h
  refine lv_goto (tgt := 80) hx hb d_L_text_51 (by decide) ?_
  refine lq_appS S hl.1 h (List.mem_of_getElem? (i := 4) rfl) (by first | omega | (simp only [List.length_append, List.length_cons, List.length_nil]; omega)) As_nil (by first | omega | (simp only [List.length_append, List.length_cons, List.length_nil]; omega)) (by omega) ⟨by show _ ≤ 12 + (np + 1); omega, by show _ ≤ 600 + 100 * (np + 1); omega, by show _ ≤ 24 * (np + 1); omega, by show _ ≤ 4000 * (np + 1); omega⟩ (Nat.le_of_ble_eq_true rfl) d_L_text_80 (fun H locs h => ?_)
  have h : LQ g 200 s _ Z [] [.inl (a, b, (jn k :: en P)), .inl (a3, b4, [40]), .inl (a5, b6, (en P)), .inl (a7, b8, (txt P)), .inl (a9, b10, [])] [(q2, (((([] ++ [jn k]) ++ ([40])) ++ (txt P)) ++ ([])))] H locs := h
  refine lq_ldc S h (ix := 62) (tx := ")") (t := [41]) (by decide) d_L_text_83 (fun a11 b12 h => ?_)
  have h : LQ g 200 s _ Z [] [.inl (a, b, (jn k :: en P)), .inl (a3, b4, [40]), .inl (a5, b6, (en P)), .inl (a7, b8, (txt P)), .inl (a9, b10, []), .inl (a11, b12, [41])] [(q2, (((([] ++ [jn k]) ++ ([40])) ++ (txt P)) ++ ([])))] H locs := h
  refine lq_appS S hl.1 h (List.mem_of_getElem? (i := 5) rfl) (by first | omega | (simp only [List.length_append, List.length_cons, List.length_nil]; omega)) (As_k (by decide)) (by first | omega | (simp only [List.length_append, List.length_cons, List.length_nil]; omega)) (by omega) ⟨by show _ ≤ 12 + (np + 1); omega, by show _ ≤ 600 + 100 * (np + 1); omega, by show _ ≤ 24 * (np + 1); omega, by show _ ≤ 4000 * (np + 1); omega⟩ (Nat.le_of_ble_eq_true rfl) d_L_text_85 (fun H locs h => ?_)
  have h : LQ g 200 s _ Z [] [.inl (a, b, (jn k :: en P)), .inl (a3, b4, [40]), .inl (a5, b6, (en P)), .inl (a7, b8, (txt P)), .inl (a9, b10, []), .inl (a11, b12, [41])] [(q2, ((((([] ++ [jn k]) ++ ([40])) ++ (txt P)) ++ ([])) ++ ([41])))] H locs := h
  refine lq_toT S hl.1 h (by omega) ⟨by show _ ≤ 12 + (np + 1); omega, by show _ ≤ 600 + 100 * (np + 1); omega, by show _ ≤ 24 * (np + 1); omega, by show _ ≤ 4000 * (np + 1); omega⟩ (Nat.le_of_ble_eq_true rfl) d_L_text_88 (fun a13 b14 H locs h => ?_)
  have h : LQ g 200 s _ Z [] [.inl (a, b, (jn k :: en P)), .inl (a3, b4, [40]), .inl (a5, b6, (en P)), .inl (a7, b8, (txt P)), .inl (a9, b10, []), .inl (a11, b12, [41]), .inl (a13, b14, ((((([] ++ [jn k]) ++ ([40])) ++ (txt P)) ++ ([])) ++ ([41])))] [] H locs := h
  rw [show ((((([] ++ [jn k]) ++ ([40])) ++ (txt P)) ++ ([])) ++ ([41])) = (jn k :: jn 40 :: (txt P ++ [jn 41])) from (by simp only [List.nil_append, List.append_assoc, List.cons_append, List.append_nil]; rfl)] at h
  have h : LQ g 200 s _ Z [] [.inl (a, b, (jn k :: en P)), .inl (a3, b4, [40]), .inl (a5, b6, (en P)), .inl (a7, b8, (txt P)), .inl (a9, b10, []), .inl (a11, b12, [41]), .inl (a13, b14, (jn k :: jn 40 :: (txt P ++ [jn 41])))] [] H locs := h
  refine W.widen (k := 24 * (np + 1)) (n := 4000 * (np + 1)) (by omega) (by omega) ?_
  exact W.aret hx hb hr (Or.inl ⟨_, rfl⟩) (Or.inr ⟨_, rfl⟩) (fun t8 ht hW => lq_post (P := fun x => x = (jn k :: jn 40 :: (txt P ++ [jn 41]))) h (List.mem_of_getElem? (i := 6) rfl) rfl ht hW) h.lo d_L_text_91
set_option maxHeartbeats 4000000 in
set_option maxRecDepth 100000 in
theorem t_text2 (l : Launch) (g : GQ) (k : Nat) (hk : k < 128) (hc : is2 (jn k)) (P V : Tm) (hP : wf P) (hV : wf V) (np nv : Nat) (hnp : sz P = np) (hnv : sz V = nv) (hs : np + nv + 1 ≤ 40) (ihP : ∀ a b : Nat, MetS l g yL_text cL_text 3 ({ frames := 12 + np, cells := 24 * np, slots := 4000 * np, locals := 600 + 100 * np } : Room) (24 * np) (4000 * np) [.ref a] [.inl (a, b, en P)] (True) (fun x => x = txt P)) (ihV : ∀ a b : Nat, MetS l g yL_text cL_text 3 ({ frames := 12 + nv, cells := 24 * nv, slots := 4000 * nv, locals := 600 + 100 * nv } : Room) (24 * nv) (4000 * nv) [.ref a] [.inl (a, b, en V)] (True) (fun x => x = txt V)) (a b : Nat) : MetS l g yL_text cL_text 3 ({ frames := 12 + (np + nv + 1), cells := 24 * (np + nv + 1), slots := 4000 * (np + nv + 1), locals := 600 + 100 * (np + nv + 1) } : Room) (24 * (np + nv + 1)) (4000 * (np + nv + 1)) [.ref a] [.inl (a, b, (jn k :: (en P ++ en V)))] (True) (fun x => x = (jn k :: jn 40 :: (txt P ++ jn 44 :: (txt V ++ [jn 41])))) := by
  intro sz0 Z
  refine Met.ofW (cc := cL_text) (maxL := 3) (ret := (some (.object "java/lang/String"))) (by decide) rfl ?_
  intro p e s m args below meth c s₁ B hml hv
  obtain ⟨rfl, hv⟩ := hv
  have hX := hv.1.2.2.2.2
  have hx := B.exec
  have hb := B.bytes
  have hr := B.returns
  have hts0 := atoms_spec (ws := wD yL_text cL_text 3 (some (.object "java/lang/String"))) B.pre
  have hts : ∀ w ∈ TW, w.before _ s = true := fun w h => hts0 w (List.mem_cons_of_mem _ h)
  have hown : s.vm.findClass RL = some m.cls := findClass_of_methodNamed B.named
  have hlocks := B.notSynchronized
  have hsz : s.heap.size = sz0 := hv.1.1
  subst hsz
  have h := lq_entry (U := 200) hv
  have S : CallFix p m c cL_text 3 s _ TW RL := ⟨hx, hb, hml, hown, hts⟩
  have hl := lv_entry ([.ref a]) (n := 3) (Nat.le_of_ble_eq_true rfl)
  rw [lg_entry_eq]
  generalize (lg_sl ([.ref a]) ++ List.replicate (3 - (lg_sl ([.ref a])).length) Slot.unset).toArray = ls at hl ⊢
  have hl : lv_has ls 3 [(0, .ref a)] := hl
  have hlP : (txt P).length ≤ 4 * np := by rw [← hnp]; exact (txt_len P hP).1
  have hle : (en P).length = np := hnp
  have hlV : (txt V).length ≤ 4 * nv := by rw [← hnv]; exact (txt_len V hV).1
  have hlf : (en V).length = nv := hnv
  have hlt : (jn k :: (en P ++ en V)).length ≤ 1000 := by rw [List.length_cons, List.length_append]; omega
  have hat : As (jn k :: (en P ++ en V)) := As_app (As_one hk) (As_app (As_en hP) (As_en hV))
  have hl0 : 0 < (jn k :: (en P ++ en V)).length := by simp
  have h : LQ g 200 s _ Z [] [.inl (a, b, (jn k :: (en P ++ en V)))] [] s.heap [] := h
  refine lv_aload_n hx hb d_L_text_0 rfl (lv_at hl 0 rfl) ?_
  refine lv_iconst (v := 0) hx hb d_L_text_1 (by decide) ?_
  refine lq_chr S hl.1 h (List.mem_of_getElem? (i := 0) rfl) hlt hat (i := 0) hl0 ⟨by show _ ≤ 12 + (np + nv + 1); omega, by show _ ≤ 600 + 100 * (np + nv + 1); omega, by show _ ≤ 24 * (np + nv + 1); omega, by show _ ≤ 4000 * (np + nv + 1); omega⟩ (Nat.le_of_ble_eq_true rfl) d_L_text_2 ?_
  rw [show bt (jn k :: (en P ++ en V)) 0 = jn k from rfl]
  refine lv_istore_n (lv' := [(1, .int (jn k)), (0, .ref a)]) hx hb d_L_text_5 rfl hl (by decide) rfl (fun ls hl => ?_)
  refine lv_iload_n hx hb d_L_text_6 rfl (lv_at hl 0 rfl) ?_
  refine lq_callI (As := [.int (jn k)]) (rest := []) S hl.1 h (t_arity l g (jn k)) (fun x9 hx9 => absurd hx9 List.not_mem_nil) trivial (va_cwS 1 hts (g_sta (own := RL) (ix := 13) (y := yL_arity) (by decide +kernel) (by decide +kernel) (by decide +kernel) (g_con cw_L_arity)) rfl rfl rfl (by decide +kernel) ⟨by show 1 + 1 ≤ 12 + (np + nv + 1); omega, by show 8 + (1 + 11) + 60 ≤ 600 + 100 * (np + nv + 1); omega⟩) rfl rfl (Nat.le_of_ble_eq_true rfl) d_L_text_7 ⟨by show _ ≤ 24 * (np + nv + 1); omega, by show _ ≤ 4000 * (np + nv + 1); omega⟩ (fun r1 hr1 => ?_)
  obtain rfl := hr1
  rw [arR_2 hc]
  refine lv_istore_n (lv' := [(2, .int (jn 2)), (1, .int (jn k)), (0, .ref a)]) hx hb d_L_text_10 rfl hl (by decide) rfl (fun ls hl => ?_)
  refine lv_iload_n hx hb d_L_text_11 rfl (lv_at hl 0 rfl) ?_
  refine lv_if_ne (tgt := 17) hx hb d_L_text_12 (by decide) (fun _ => ?_) (fun h9 => absurd h9 (by decide))
  refine lq_new S hl.1 h ⟨by show _ ≤ 12 + (np + nv + 1); omega, by show _ ≤ 600 + 100 * (np + nv + 1); omega, by show _ ≤ 24 * (np + nv + 1); omega, by show _ ≤ 4000 * (np + nv + 1); omega⟩ (Nat.le_of_ble_eq_true rfl) d_L_text_17 d_L_text_20 d_L_text_21 (fun q2 H locs h => ?_)
  have h : LQ g 200 s _ Z [] [.inl (a, b, (jn k :: (en P ++ en V)))] [(q2, [])] H locs := h
  refine lv_iload_n hx hb d_L_text_24 rfl (lv_at hl 1 rfl) ?_
  refine lq_appC (k := k) S hl.1 h (by first | omega | (simp only [List.length_append, List.length_cons, List.length_nil]; omega)) (by omega) hk ⟨by show _ ≤ 12 + (np + nv + 1); omega, by show _ ≤ 600 + 100 * (np + nv + 1); omega, by show _ ≤ 24 * (np + nv + 1); omega, by show _ ≤ 4000 * (np + nv + 1); omega⟩ (Nat.le_of_ble_eq_true rfl) d_L_text_25 (fun H locs h => ?_)
  have h : LQ g 200 s _ Z [] [.inl (a, b, (jn k :: (en P ++ en V)))] [(q2, ([] ++ [jn k]))] H locs := h
  refine lq_ldc S h (ix := 42) (tx := "(") (t := [40]) (by decide) d_L_text_28 (fun a3 b4 h => ?_)
  have h : LQ g 200 s _ Z [] [.inl (a, b, (jn k :: (en P ++ en V))), .inl (a3, b4, [40])] [(q2, ([] ++ [jn k]))] H locs := h
  refine lq_appS S hl.1 h (List.mem_of_getElem? (i := 1) rfl) (by first | omega | (simp only [List.length_append, List.length_cons, List.length_nil]; omega)) (As_k (by decide)) (by first | omega | (simp only [List.length_append, List.length_cons, List.length_nil]; omega)) (by omega) ⟨by show _ ≤ 12 + (np + nv + 1); omega, by show _ ≤ 600 + 100 * (np + nv + 1); omega, by show _ ≤ 24 * (np + nv + 1); omega, by show _ ≤ 4000 * (np + nv + 1); omega⟩ (Nat.le_of_ble_eq_true rfl) d_L_text_30 (fun H locs h => ?_)
  have h : LQ g 200 s _ Z [] [.inl (a, b, (jn k :: (en P ++ en V))), .inl (a3, b4, [40])] [(q2, (([] ++ [jn k]) ++ ([40])))] H locs := h
  refine lv_aload_n hx hb d_L_text_33 rfl (lv_at hl 2 rfl) ?_
  refine lv_iconst (v := 0) hx hb d_L_text_34 (by decide) ?_
  refine lq_callS (As := [.ref a, .int 0]) (rest := [.ref q2]) S hl.1 h (t_arg0 l g a b (jn k :: (en P ++ en V)) (en V) P) (fun x9 hx9 => by rw [List.mem_singleton] at hx9; rw [hx9]; exact List.mem_of_getElem? (i := 0) rfl) ⟨rfl, hP, hat, hlt⟩ (va_cwS 2 hts (g_sta (own := RL) (ix := 47) (y := yL_argument) (by decide +kernel) (by decide +kernel) (by decide +kernel) (g_con cw_L_argument)) rfl rfl rfl (by decide +kernel) ⟨by show 10 + 1 ≤ 12 + (np + nv + 1); omega, by show 8 + (3 + 11) + 450 ≤ 600 + 100 * (np + nv + 1); omega⟩) rfl rfl (Nat.le_of_ble_eq_true rfl) d_L_text_35 ⟨by show _ ≤ 24 * (np + nv + 1); omega, by show _ ≤ 4000 * (np + nv + 1); omega⟩ (fun a5 b6 t9 H locs ha5 h => ?_)
  have h : LQ g 200 s _ Z [] [.inl (a, b, (jn k :: (en P ++ en V))), .inl (a3, b4, [40]), .inl (a5, b6, t9)] [(q2, (([] ++ [jn k]) ++ ([40])))] H locs := h
  rw [show t9 = (en P) from ha5] at h
  have h : LQ g 200 s _ Z [] [.inl (a, b, (jn k :: (en P ++ en V))), .inl (a3, b4, [40]), .inl (a5, b6, (en P))] [(q2, (([] ++ [jn k]) ++ ([40])))] H locs := h
  refine lq_callS (As := [.ref a5]) (rest := [.ref q2]) S hl.1 h (ihP a5 b6) (fun x9 hx9 => by rw [List.mem_singleton] at hx9; rw [hx9]; exact List.mem_of_getElem? (i := 2) rfl) trivial (va_cwS 1 hts (g_sta (own := RL) (ix := 50) (y := yL_text) (by decide +kernel) (by decide +kernel) (by decide +kernel) (g_con cw_L_text)) rfl rfl rfl (by decide +kernel) ⟨by show (12 + np) + 1 ≤ 12 + (np + nv + 1); omega, by show 8 + (3 + 11) + (600 + 100 * np) ≤ 600 + 100 * (np + nv + 1); omega⟩) rfl rfl (Nat.le_of_ble_eq_true rfl) d_L_text_38 ⟨by show _ ≤ 24 * (np + nv + 1); omega, by show _ ≤ 4000 * (np + nv + 1); omega⟩ (fun a7 b8 t9 H locs ha7 h => ?_)
  have h : LQ g 200 s _ Z [] [.inl (a, b, (jn k :: (en P ++ en V))), .inl (a3, b4, [40]), .inl (a5, b6, (en P)), .inl (a7, b8, t9)] [(q2, (([] ++ [jn k]) ++ ([40])))] H locs := h
  rw [show t9 = (txt P) from ha7] at h
  have h : LQ g 200 s _ Z [] [.inl (a, b, (jn k :: (en P ++ en V))), .inl (a3, b4, [40]), .inl (a5, b6, (en P)), .inl (a7, b8, (txt P))] [(q2, (([] ++ [jn k]) ++ ([40])))] H locs := h
  refine lq_appS S hl.1 h (List.mem_of_getElem? (i := 3) rfl) (by first | omega | (simp only [List.length_append, List.length_cons, List.length_nil]; omega)) (As_txt hP) (by first | omega | (simp only [List.length_append, List.length_cons, List.length_nil]; omega)) (by omega) ⟨by show _ ≤ 12 + (np + nv + 1); omega, by show _ ≤ 600 + 100 * (np + nv + 1); omega, by show _ ≤ 24 * (np + nv + 1); omega, by show _ ≤ 4000 * (np + nv + 1); omega⟩ (Nat.le_of_ble_eq_true rfl) d_L_text_41 (fun H locs h => ?_)
  have h : LQ g 200 s _ Z [] [.inl (a, b, (jn k :: (en P ++ en V))), .inl (a3, b4, [40]), .inl (a5, b6, (en P)), .inl (a7, b8, (txt P))] [(q2, ((([] ++ [jn k]) ++ ([40])) ++ (txt P)))] H locs := h
  refine lv_iload_n hx hb d_L_text_44 rfl (lv_at hl 0 rfl) ?_
  refine lv_iconst (v := 1) hx hb d_L_text_45 (by decide) ?_
  refine lv_icmp_ne (tgt := 54) hx hb d_L_text_46 (by decide) (fun _ => ?_) (fun h9 => absurd h9 (by decide))
  refine lq_new S hl.1 h ⟨by show _ ≤ 12 + (np + nv + 1); omega, by show _ ≤ 600 + 100 * (np + nv + 1); omega, by show _ ≤ 24 * (np + nv + 1); omega, by show _ ≤ 4000 * (np + nv + 1); omega⟩ (Nat.le_of_ble_eq_true rfl) d_L_text_54 d_L_text_57 d_L_text_58 (fun q9 H locs h => ?_)
  have h : LQ g 200 s _ Z [] [.inl (a, b, (jn k :: (en P ++ en V))), .inl (a3, b4, [40]), .inl (a5, b6, (en P)), .inl (a7, b8, (txt P))] [(q9, []), (q2, ((([] ++ [jn k]) ++ ([40])) ++ (txt P)))] H locs := h
  refine lq_ldc S h (ix := 56) (tx := ",") (t := [44]) (by decide) d_L_text_61 (fun a10 b11 h => ?_)
  have h : LQ g 200 s _ Z [] [.inl (a, b, (jn k :: (en P ++ en V))), .inl (a3, b4, [40]), .inl (a5, b6, (en P)), .inl (a7, b8, (txt P)), .inl (a10, b11, [44])] [(q9, []), (q2, ((([] ++ [jn k]) ++ ([40])) ++ (txt P)))] H locs := h
  refine lq_appS S hl.1 h (List.mem_of_getElem? (i := 4) rfl) (by first | omega | (simp only [List.length_append, List.length_cons, List.length_nil]; omega)) (As_k (by decide)) (by first | omega | (simp only [List.length_append, List.length_cons, List.length_nil]; omega)) (by omega) ⟨by show _ ≤ 12 + (np + nv + 1); omega, by show _ ≤ 600 + 100 * (np + nv + 1); omega, by show _ ≤ 24 * (np + nv + 1); omega, by show _ ≤ 4000 * (np + nv + 1); omega⟩ (Nat.le_of_ble_eq_true rfl) d_L_text_63 (fun H locs h => ?_)
  have h : LQ g 200 s _ Z [] [.inl (a, b, (jn k :: (en P ++ en V))), .inl (a3, b4, [40]), .inl (a5, b6, (en P)), .inl (a7, b8, (txt P)), .inl (a10, b11, [44])] [(q9, ([] ++ ([44]))), (q2, ((([] ++ [jn k]) ++ ([40])) ++ (txt P)))] H locs := h
  refine lv_aload_n hx hb d_L_text_66 rfl (lv_at hl 2 rfl) ?_
  refine lv_iconst (v := 1) hx hb d_L_text_67 (by decide) ?_
  refine lq_callS (As := [.ref a, .int 1]) (rest := [.ref q9, .ref q2]) S hl.1 h (t_arg1 l g a b (jn k :: (en P ++ en V)) [] P V) (fun x9 hx9 => by rw [List.mem_singleton] at hx9; rw [hx9]; exact List.mem_of_getElem? (i := 0) rfl) ⟨by simp, hP, hV, hat, hlt⟩ (va_cwS 2 hts (g_sta (own := RL) (ix := 47) (y := yL_argument) (by decide +kernel) (by decide +kernel) (by decide +kernel) (g_con cw_L_argument)) rfl rfl rfl (by decide +kernel) ⟨by show 10 + 1 ≤ 12 + (np + nv + 1); omega, by show 8 + (3 + 11) + 450 ≤ 600 + 100 * (np + nv + 1); omega⟩) rfl rfl (Nat.le_of_ble_eq_true rfl) d_L_text_68 ⟨by show _ ≤ 24 * (np + nv + 1); omega, by show _ ≤ 4000 * (np + nv + 1); omega⟩ (fun a12 b13 t9 H locs ha12 h => ?_)
  have h : LQ g 200 s _ Z [] [.inl (a, b, (jn k :: (en P ++ en V))), .inl (a3, b4, [40]), .inl (a5, b6, (en P)), .inl (a7, b8, (txt P)), .inl (a10, b11, [44]), .inl (a12, b13, t9)] [(q9, ([] ++ ([44]))), (q2, ((([] ++ [jn k]) ++ ([40])) ++ (txt P)))] H locs := h
  rw [show t9 = (en V) from ha12] at h
  have h : LQ g 200 s _ Z [] [.inl (a, b, (jn k :: (en P ++ en V))), .inl (a3, b4, [40]), .inl (a5, b6, (en P)), .inl (a7, b8, (txt P)), .inl (a10, b11, [44]), .inl (a12, b13, (en V))] [(q9, ([] ++ ([44]))), (q2, ((([] ++ [jn k]) ++ ([40])) ++ (txt P)))] H locs := h
  refine lq_callS (As := [.ref a12]) (rest := [.ref q9, .ref q2]) S hl.1 h (ihV a12 b13) (fun x9 hx9 => by rw [List.mem_singleton] at hx9; rw [hx9]; exact List.mem_of_getElem? (i := 5) rfl) trivial (va_cwS 1 hts (g_sta (own := RL) (ix := 50) (y := yL_text) (by decide +kernel) (by decide +kernel) (by decide +kernel) (g_con cw_L_text)) rfl rfl rfl (by decide +kernel) ⟨by show (12 + nv) + 1 ≤ 12 + (np + nv + 1); omega, by show 8 + (3 + 11) + (600 + 100 * nv) ≤ 600 + 100 * (np + nv + 1); omega⟩) rfl rfl (Nat.le_of_ble_eq_true rfl) d_L_text_71 ⟨by show _ ≤ 24 * (np + nv + 1); omega, by show _ ≤ 4000 * (np + nv + 1); omega⟩ (fun a14 b15 t9 H locs ha14 h => ?_)
  have h : LQ g 200 s _ Z [] [.inl (a, b, (jn k :: (en P ++ en V))), .inl (a3, b4, [40]), .inl (a5, b6, (en P)), .inl (a7, b8, (txt P)), .inl (a10, b11, [44]), .inl (a12, b13, (en V)), .inl (a14, b15, t9)] [(q9, ([] ++ ([44]))), (q2, ((([] ++ [jn k]) ++ ([40])) ++ (txt P)))] H locs := h
  rw [show t9 = (txt V) from ha14] at h
  have h : LQ g 200 s _ Z [] [.inl (a, b, (jn k :: (en P ++ en V))), .inl (a3, b4, [40]), .inl (a5, b6, (en P)), .inl (a7, b8, (txt P)), .inl (a10, b11, [44]), .inl (a12, b13, (en V)), .inl (a14, b15, (txt V))] [(q9, ([] ++ ([44]))), (q2, ((([] ++ [jn k]) ++ ([40])) ++ (txt P)))] H locs := h
  refine lq_appS S hl.1 h (List.mem_of_getElem? (i := 6) rfl) (by first | omega | (simp only [List.length_append, List.length_cons, List.length_nil]; omega)) (As_txt hV) (by first | omega | (simp only [List.length_append, List.length_cons, List.length_nil]; omega)) (by omega) ⟨by show _ ≤ 12 + (np + nv + 1); omega, by show _ ≤ 600 + 100 * (np + nv + 1); omega, by show _ ≤ 24 * (np + nv + 1); omega, by show _ ≤ 4000 * (np + nv + 1); omega⟩ (Nat.le_of_ble_eq_true rfl) d_L_text_74 (fun H locs h => ?_)
  have h : LQ g 200 s _ Z [] [.inl (a, b, (jn k :: (en P ++ en V))), .inl (a3, b4, [40]), .inl (a5, b6, (en P)), .inl (a7, b8, (txt P)), .inl (a10, b11, [44]), .inl (a12, b13, (en V)), .inl (a14, b15, (txt V))] [(q9, (([] ++ ([44])) ++ (txt V))), (q2, ((([] ++ [jn k]) ++ ([40])) ++ (txt P)))] H locs := h
  refine lq_toT S hl.1 h (by omega) ⟨by show _ ≤ 12 + (np + nv + 1); omega, by show _ ≤ 600 + 100 * (np + nv + 1); omega, by show _ ≤ 24 * (np + nv + 1); omega, by show _ ≤ 4000 * (np + nv + 1); omega⟩ (Nat.le_of_ble_eq_true rfl) d_L_text_77 (fun a16 b17 H locs h => ?_)
  have h : LQ g 200 s _ Z [] [.inl (a, b, (jn k :: (en P ++ en V))), .inl (a3, b4, [40]), .inl (a5, b6, (en P)), .inl (a7, b8, (txt P)), .inl (a10, b11, [44]), .inl (a12, b13, (en V)), .inl (a14, b15, (txt V)), .inl (a16, b17, (([] ++ ([44])) ++ (txt V)))] [(q2, ((([] ++ [jn k]) ++ ([40])) ++ (txt P)))] H locs := h
  refine lq_appS S hl.1 h (List.mem_of_getElem? (i := 7) rfl) (by first | omega | (simp only [List.length_append, List.length_cons, List.length_nil]; omega)) (As_app (As_app As_nil (As_k (by decide))) (As_txt hV)) (by first | omega | (simp only [List.length_append, List.length_cons, List.length_nil]; omega)) (by omega) ⟨by show _ ≤ 12 + (np + nv + 1); omega, by show _ ≤ 600 + 100 * (np + nv + 1); omega, by show _ ≤ 24 * (np + nv + 1); omega, by show _ ≤ 4000 * (np + nv + 1); omega⟩ (Nat.le_of_ble_eq_true rfl) d_L_text_80 (fun H locs h => ?_)
  have h : LQ g 200 s _ Z [] [.inl (a, b, (jn k :: (en P ++ en V))), .inl (a3, b4, [40]), .inl (a5, b6, (en P)), .inl (a7, b8, (txt P)), .inl (a10, b11, [44]), .inl (a12, b13, (en V)), .inl (a14, b15, (txt V)), .inl (a16, b17, (([] ++ ([44])) ++ (txt V)))] [(q2, (((([] ++ [jn k]) ++ ([40])) ++ (txt P)) ++ (([] ++ ([44])) ++ (txt V))))] H locs := h
  refine lq_ldc S h (ix := 62) (tx := ")") (t := [41]) (by decide) d_L_text_83 (fun a18 b19 h => ?_)
  have h : LQ g 200 s _ Z [] [.inl (a, b, (jn k :: (en P ++ en V))), .inl (a3, b4, [40]), .inl (a5, b6, (en P)), .inl (a7, b8, (txt P)), .inl (a10, b11, [44]), .inl (a12, b13, (en V)), .inl (a14, b15, (txt V)), .inl (a16, b17, (([] ++ ([44])) ++ (txt V))), .inl (a18, b19, [41])] [(q2, (((([] ++ [jn k]) ++ ([40])) ++ (txt P)) ++ (([] ++ ([44])) ++ (txt V))))] H locs := h
  refine lq_appS S hl.1 h (List.mem_of_getElem? (i := 8) rfl) (by first | omega | (simp only [List.length_append, List.length_cons, List.length_nil]; omega)) (As_k (by decide)) (by first | omega | (simp only [List.length_append, List.length_cons, List.length_nil]; omega)) (by omega) ⟨by show _ ≤ 12 + (np + nv + 1); omega, by show _ ≤ 600 + 100 * (np + nv + 1); omega, by show _ ≤ 24 * (np + nv + 1); omega, by show _ ≤ 4000 * (np + nv + 1); omega⟩ (Nat.le_of_ble_eq_true rfl) d_L_text_85 (fun H locs h => ?_)
  have h : LQ g 200 s _ Z [] [.inl (a, b, (jn k :: (en P ++ en V))), .inl (a3, b4, [40]), .inl (a5, b6, (en P)), .inl (a7, b8, (txt P)), .inl (a10, b11, [44]), .inl (a12, b13, (en V)), .inl (a14, b15, (txt V)), .inl (a16, b17, (([] ++ ([44])) ++ (txt V))), .inl (a18, b19, [41])] [(q2, ((((([] ++ [jn k]) ++ ([40])) ++ (txt P)) ++ (([] ++ ([44])) ++ (txt V))) ++ ([41])))] H locs := h
  refine lq_toT S hl.1 h (by omega) ⟨by show _ ≤ 12 + (np + nv + 1); omega, by show _ ≤ 600 + 100 * (np + nv + 1); omega, by show _ ≤ 24 * (np + nv + 1); omega, by show _ ≤ 4000 * (np + nv + 1); omega⟩ (Nat.le_of_ble_eq_true rfl) d_L_text_88 (fun a20 b21 H locs h => ?_)
  have h : LQ g 200 s _ Z [] [.inl (a, b, (jn k :: (en P ++ en V))), .inl (a3, b4, [40]), .inl (a5, b6, (en P)), .inl (a7, b8, (txt P)), .inl (a10, b11, [44]), .inl (a12, b13, (en V)), .inl (a14, b15, (txt V)), .inl (a16, b17, (([] ++ ([44])) ++ (txt V))), .inl (a18, b19, [41]), .inl (a20, b21, ((((([] ++ [jn k]) ++ ([40])) ++ (txt P)) ++ (([] ++ ([44])) ++ (txt V))) ++ ([41])))] [] H locs := h
  rw [show ((((([] ++ [jn k]) ++ ([40])) ++ (txt P)) ++ (([] ++ ([44])) ++ (txt V))) ++ ([41])) = (jn k :: jn 40 :: (txt P ++ jn 44 :: (txt V ++ [jn 41]))) from (by simp only [List.nil_append, List.append_assoc, List.cons_append, List.append_nil]; rfl)] at h
  have h : LQ g 200 s _ Z [] [.inl (a, b, (jn k :: (en P ++ en V))), .inl (a3, b4, [40]), .inl (a5, b6, (en P)), .inl (a7, b8, (txt P)), .inl (a10, b11, [44]), .inl (a12, b13, (en V)), .inl (a14, b15, (txt V)), .inl (a16, b17, (([] ++ ([44])) ++ (txt V))), .inl (a18, b19, [41]), .inl (a20, b21, (jn k :: jn 40 :: (txt P ++ jn 44 :: (txt V ++ [jn 41]))))] [] H locs := h
  refine W.widen (k := 24 * (np + nv + 1)) (n := 4000 * (np + nv + 1)) (by omega) (by omega) ?_
  exact W.aret hx hb hr (Or.inl ⟨_, rfl⟩) (Or.inr ⟨_, rfl⟩) (fun t8 ht hW => lq_post (P := fun x => x = (jn k :: jn 40 :: (txt P ++ jn 44 :: (txt V ++ [jn 41])))) h (List.mem_of_getElem? (i := 9) rfl) rfl ht hW) h.lo d_L_text_91
theorem t_text (l : Launch) (g : GQ) : ∀ T, wf T → ∀ n, sz T = n → n ≤ 40 → ∀ a b : Nat, MetS l g yL_text cL_text 3 ({ frames := 12 + n, cells := 24 * n, slots := 4000 * n, locals := 600 + 100 * n } : Room) (24 * n) (4000 * n) [.ref a] [.inl (a, b, en T)] (True) (fun x => x = txt T) := by
  have kk : ∀ c : Int32, sg c → ∃ k, c = jn k ∧ k < 128 := fun c hc => by
    obtain ⟨k, e, -, hk, -⟩ := ch_sg hc
    exact ⟨k, e, hk⟩
  refine wf_ind (fun c hc => ?_) (fun c P hc hP ihP => ?_) (fun c P V hc hP hV ihP ihV => ?_)
  · intro n hn hs a b
    obtain ⟨k, rfl, hk⟩ := kk c (Or.inl hc)
    obtain rfl : 1 = n := hn
    rw [txt_0 hc]
    exact t_text0 l g k hk hc a b
  · intro n hn hs a b
    obtain ⟨k, rfl, hk⟩ := kk c (Or.inr (Or.inl hc))
    rw [sz_1] at hn
    subst hn
    rw [txt_1 hc, en_1]
    exact t_text1 l g k hk hc P hP (sz P) rfl hs (ihP (sz P) rfl (by omega)) a b
  · intro n hn hs a b
    obtain ⟨k, rfl, hk⟩ := kk c (Or.inr (Or.inr hc))
    rw [sz_2] at hn
    subst hn
    rw [txt_2 hc, en_2]
    exact t_text2 l g k hk hc P V hP hV (sz P) (sz V) rfl rfl hs (ihP (sz P) rfl (by omega)) (ihV (sz V) rfl (by omega)) a b
