/-! the law: grow (laid by wip/p41/gen/law3.py) -/
section
variable {p : Program} {l : Launch} {e : Env} {R : Room} {s : State} {m : MethodId} {args : Array Value} {below : List Frame} {meth : Method} {c : Code} {H : Heap} {locs : List Loc} {cells slots : Nat} {Q : State → Prop}
/-- roads that meet: what is behind is walked once -/
theorem w_tail {ι : Type} {Hf : ι → Heap} {Jf : ι → List Loc} {kf nf : ι → Nat} {gf : ι → JFrame} {g0 : JFrame} {PN : ι → Prop} (h1 : (∀ i, PN i → W p l e R s m args below meth c (Hf i) (Jf i) (kf i) (nf i) Q (gf i)) → W p l e R s m args below meth c H locs cells slots Q g0) (h2 : ∀ i, PN i → W p l e R s m args below meth c (Hf i) (Jf i) (kf i) (nf i) Q (gf i)) : W p l e R s m args below meth c H locs cells slots Q g0 := h1 h2
end
theorem abuv_k : ∀ k, k < 4 → ∃ j, bt [97, 98, 117, 118] k = jn j ∧ j < 128 ∧ is0 (jn j) := by
  intro k hk
  rcases (show k = 0 ∨ k = 1 ∨ k = 2 ∨ k = 3 by omega) with rfl | rfl | rfl | rfl
  · exact ⟨97, rfl, by decide, by decide⟩
  · exact ⟨98, rfl, by decide, by decide⟩
  · exact ⟨117, rfl, by decide, by decide⟩
  · exact ⟨118, rfl, by decide, by decide⟩
set_option maxRecDepth 100000 in
theorem cw_L_grow : Jvm.Cond.code yL_grow cL_grow 6 (some (.object "java/lang/String")) ∈ TW := TW_mem (List.mem_append_right _ (List.mem_append_right _ (List.mem_append_right _ (List.mem_append_right _ (List.mem_append_left _ (List.mem_of_getElem? (l := tables_1_4) (i := 76) rfl)))))) rfl
set_option maxRecDepth 100000 in
theorem cw_L_some : Jvm.Cond.code yL_some cL_some 3 (some .int) ∈ TW := TW_mem (List.mem_append_right _ (List.mem_append_right _ (List.mem_append_right _ (List.mem_append_right _ (List.mem_append_left _ (List.mem_of_getElem? (l := tables_1_4) (i := 52) rfl)))))) rfl
theorem d_L_grow_0 : decode cL_grow 0 = .ok (.iload_n 0, 1) := by decide +kernel
theorem d_L_grow_1 : decode cL_grow 1 = .ok (.iload_n 2, 1) := by decide +kernel
theorem d_L_grow_2 : decode cL_grow 2 = .ok (.iconst 3, 1) := by decide +kernel
theorem d_L_grow_3 : decode cL_grow 3 = .ok (.if_icmp .le (7), 3) := by decide +kernel
theorem d_L_grow_6 : decode cL_grow 6 = .ok (.iconst 4, 1) := by decide +kernel
theorem d_L_grow_7 : decode cL_grow 7 = .ok (.goto (14), 3) := by decide +kernel
theorem d_L_grow_10 : decode cL_grow 10 = .ok (.iload_n 2, 1) := by decide +kernel
theorem d_L_grow_11 : decode cL_grow 11 = .ok (.ifCond .ne (8), 3) := by decide +kernel
theorem d_L_grow_14 : decode cL_grow 14 = .ok (.bipush (11), 2) := by decide +kernel
theorem d_L_grow_16 : decode cL_grow 16 = .ok (.goto (5), 3) := by decide +kernel
theorem d_L_grow_19 : decode cL_grow 19 = .ok (.bipush (9), 2) := by decide +kernel
theorem d_L_grow_21 : decode cL_grow 21 = .ok (.invokestatic 64, 3) := by decide +kernel
theorem d_L_grow_24 : decode cL_grow 24 = .ok (.istore_n 3, 1) := by decide +kernel
theorem d_L_grow_25 : decode cL_grow 25 = .ok (.iload_n 3, 1) := by decide +kernel
theorem d_L_grow_26 : decode cL_grow 26 = .ok (.iconst 4, 1) := by decide +kernel
theorem d_L_grow_27 : decode cL_grow 27 = .ok (.if_icmp .ge (28), 3) := by decide +kernel
theorem d_L_grow_30 : decode cL_grow 30 = .ok (.new 35, 3) := by decide +kernel
theorem d_L_grow_33 : decode cL_grow 33 = .ok (.dup, 1) := by decide +kernel
theorem d_L_grow_34 : decode cL_grow 34 = .ok (.invokespecial 37, 3) := by decide +kernel
theorem d_L_grow_37 : decode cL_grow 37 = .ok (.ldc 54, 2) := by decide +kernel
theorem d_L_grow_39 : decode cL_grow 39 = .ok (.invokevirtual 44, 3) := by decide +kernel
theorem d_L_grow_42 : decode cL_grow 42 = .ok (.ldc 67, 2) := by decide +kernel
theorem d_L_grow_44 : decode cL_grow 44 = .ok (.iload_n 3, 1) := by decide +kernel
theorem d_L_grow_45 : decode cL_grow 45 = .ok (.invokevirtual 7, 3) := by decide +kernel
theorem d_L_grow_48 : decode cL_grow 48 = .ok (.invokevirtual 38, 3) := by decide +kernel
theorem d_L_grow_51 : decode cL_grow 51 = .ok (.invokevirtual 58, 3) := by decide +kernel
theorem d_L_grow_54 : decode cL_grow 54 = .ok (.areturn, 1) := by decide +kernel
theorem d_L_grow_55 : decode cL_grow 55 = .ok (.iload_n 0, 1) := by decide +kernel
theorem d_L_grow_56 : decode cL_grow 56 = .ok (.iconst 4, 1) := by decide +kernel
theorem d_L_grow_57 : decode cL_grow 57 = .ok (.ishr, 1) := by decide +kernel
theorem d_L_grow_58 : decode cL_grow 58 = .ok (.bipush (31), 2) := by decide +kernel
theorem d_L_grow_60 : decode cL_grow 60 = .ok (.imul, 1) := by decide +kernel
theorem d_L_grow_61 : decode cL_grow 61 = .ok (.iload_n 1, 1) := by decide +kernel
theorem d_L_grow_62 : decode cL_grow 62 = .ok (.iconst 2, 1) := by decide +kernel
theorem d_L_grow_63 : decode cL_grow 63 = .ok (.ishr, 1) := by decide +kernel
theorem d_L_grow_64 : decode cL_grow 64 = .ok (.ixor, 1) := by decide +kernel
theorem d_L_grow_65 : decode cL_grow 65 = .ok (.istore 4, 2) := by decide +kernel
theorem d_L_grow_67 : decode cL_grow 67 = .ok (.iload_n 1, 1) := by decide +kernel
theorem d_L_grow_68 : decode cL_grow 68 = .ok (.iconst 3, 1) := by decide +kernel
theorem d_L_grow_69 : decode cL_grow 69 = .ok (.ishr, 1) := by decide +kernel
theorem d_L_grow_70 : decode cL_grow 70 = .ok (.bipush (17), 2) := by decide +kernel
theorem d_L_grow_72 : decode cL_grow 72 = .ok (.imul, 1) := by decide +kernel
theorem d_L_grow_73 : decode cL_grow 73 = .ok (.iload_n 0, 1) := by decide +kernel
theorem d_L_grow_74 : decode cL_grow 74 = .ok (.iconst 5, 1) := by decide +kernel
theorem d_L_grow_75 : decode cL_grow 75 = .ok (.ishr, 1) := by decide +kernel
theorem d_L_grow_76 : decode cL_grow 76 = .ok (.ixor, 1) := by decide +kernel
theorem d_L_grow_77 : decode cL_grow 77 = .ok (.istore 5, 2) := by decide +kernel
theorem d_L_grow_79 : decode cL_grow 79 = .ok (.iload_n 3, 1) := by decide +kernel
theorem d_L_grow_80 : decode cL_grow 80 = .ok (.bipush (6), 2) := by decide +kernel
theorem d_L_grow_82 : decode cL_grow 82 = .ok (.if_icmp .ge (42), 3) := by decide +kernel
theorem d_L_grow_85 : decode cL_grow 85 = .ok (.new 35, 3) := by decide +kernel
theorem d_L_grow_88 : decode cL_grow 88 = .ok (.dup, 1) := by decide +kernel
theorem d_L_grow_89 : decode cL_grow 89 = .ok (.invokespecial 37, 3) := by decide +kernel
theorem d_L_grow_92 : decode cL_grow 92 = .ok (.iload_n 3, 1) := by decide +kernel
theorem d_L_grow_93 : decode cL_grow 93 = .ok (.iconst 4, 1) := by decide +kernel
theorem d_L_grow_94 : decode cL_grow 94 = .ok (.if_icmp .ne (8), 3) := by decide +kernel
theorem d_L_grow_97 : decode cL_grow 97 = .ok (.ldc 69, 2) := by decide +kernel
theorem d_L_grow_99 : decode cL_grow 99 = .ok (.goto (5), 3) := by decide +kernel
theorem d_L_grow_102 : decode cL_grow 102 = .ok (.ldc 71, 2) := by decide +kernel
theorem d_L_grow_104 : decode cL_grow 104 = .ok (.invokevirtual 44, 3) := by decide +kernel
theorem d_L_grow_107 : decode cL_grow 107 = .ok (.iload 4, 2) := by decide +kernel
theorem d_L_grow_109 : decode cL_grow 109 = .ok (.iload 5, 2) := by decide +kernel
theorem d_L_grow_111 : decode cL_grow 111 = .ok (.iload_n 2, 1) := by decide +kernel
theorem d_L_grow_112 : decode cL_grow 112 = .ok (.iconst 1, 1) := by decide +kernel
theorem d_L_grow_113 : decode cL_grow 113 = .ok (.iadd, 1) := by decide +kernel
theorem d_L_grow_114 : decode cL_grow 114 = .ok (.invokestatic 73, 3) := by decide +kernel
theorem d_L_grow_117 : decode cL_grow 117 = .ok (.invokevirtual 44, 3) := by decide +kernel
theorem d_L_grow_120 : decode cL_grow 120 = .ok (.invokevirtual 58, 3) := by decide +kernel
theorem d_L_grow_123 : decode cL_grow 123 = .ok (.areturn, 1) := by decide +kernel
theorem d_L_grow_124 : decode cL_grow 124 = .ok (.new 35, 3) := by decide +kernel
theorem d_L_grow_127 : decode cL_grow 127 = .ok (.dup, 1) := by decide +kernel
theorem d_L_grow_128 : decode cL_grow 128 = .ok (.invokespecial 37, 3) := by decide +kernel
theorem d_L_grow_131 : decode cL_grow 131 = .ok (.iload_n 3, 1) := by decide +kernel
theorem d_L_grow_132 : decode cL_grow 132 = .ok (.bipush (8), 2) := by decide +kernel
theorem d_L_grow_134 : decode cL_grow 134 = .ok (.if_icmp .eq (9), 3) := by decide +kernel
theorem d_L_grow_137 : decode cL_grow 137 = .ok (.iload_n 3, 1) := by decide +kernel
theorem d_L_grow_138 : decode cL_grow 138 = .ok (.bipush (10), 2) := by decide +kernel
theorem d_L_grow_140 : decode cL_grow 140 = .ok (.if_icmp .ne (8), 3) := by decide +kernel
theorem d_L_grow_143 : decode cL_grow 143 = .ok (.ldc 77, 2) := by decide +kernel
theorem d_L_grow_145 : decode cL_grow 145 = .ok (.goto (5), 3) := by decide +kernel
theorem d_L_grow_148 : decode cL_grow 148 = .ok (.ldc 79, 2) := by decide +kernel
theorem d_L_grow_150 : decode cL_grow 150 = .ok (.invokevirtual 44, 3) := by decide +kernel
theorem d_L_grow_153 : decode cL_grow 153 = .ok (.iload 4, 2) := by decide +kernel
theorem d_L_grow_155 : decode cL_grow 155 = .ok (.iload 5, 2) := by decide +kernel
theorem d_L_grow_157 : decode cL_grow 157 = .ok (.iload_n 2, 1) := by decide +kernel
theorem d_L_grow_158 : decode cL_grow 158 = .ok (.iconst 1, 1) := by decide +kernel
theorem d_L_grow_159 : decode cL_grow 159 = .ok (.iadd, 1) := by decide +kernel
theorem d_L_grow_160 : decode cL_grow 160 = .ok (.invokestatic 73, 3) := by decide +kernel
theorem d_L_grow_163 : decode cL_grow 163 = .ok (.invokevirtual 44, 3) := by decide +kernel
theorem d_L_grow_166 : decode cL_grow 166 = .ok (.iload 5, 2) := by decide +kernel
theorem d_L_grow_168 : decode cL_grow 168 = .ok (.iload 4, 2) := by decide +kernel
theorem d_L_grow_170 : decode cL_grow 170 = .ok (.bipush (7), 2) := by decide +kernel
theorem d_L_grow_172 : decode cL_grow 172 = .ok (.imul, 1) := by decide +kernel
theorem d_L_grow_173 : decode cL_grow 173 = .ok (.iload_n 2, 1) := by decide +kernel
theorem d_L_grow_174 : decode cL_grow 174 = .ok (.iconst 1, 1) := by decide +kernel
theorem d_L_grow_175 : decode cL_grow 175 = .ok (.iadd, 1) := by decide +kernel
theorem d_L_grow_176 : decode cL_grow 176 = .ok (.invokestatic 73, 3) := by decide +kernel
theorem d_L_grow_179 : decode cL_grow 179 = .ok (.invokevirtual 44, 3) := by decide +kernel
theorem d_L_grow_182 : decode cL_grow 182 = .ok (.invokevirtual 58, 3) := by decide +kernel
theorem d_L_grow_185 : decode cL_grow 185 = .ok (.areturn, 1) := by decide +kernel
set_option maxHeartbeats 4000000 in
set_option maxRecDepth 100000 in
theorem t_grow0 (l : Launch) (g : GQ)  (x y : Int32) : MetS l g yL_grow cL_grow 6 ({ frames := 12 + 0, cells := 12 * 1, slots := 500 * 1, locals := 600 + 100 * 0 } : Room) (12 * 1) (500 * 1) [.int x, .int y, .int (jn 4)] [] (True) (fun t => ∃ T, wf T ∧ sz T ≤ 1 ∧ t = en T) := by
  intro sz0 Z
  refine Met.ofW (cc := cL_grow) (maxL := 6) (ret := (some (.object "java/lang/String"))) (by decide) rfl ?_
  intro p e s m args below meth c s₁ B hml hv
  obtain ⟨rfl, hv⟩ := hv
  have hX := hv.1.2.2.2.2
  have hx := B.exec
  have hb := B.bytes
  have hr := B.returns
  have hts0 := atoms_spec (ws := wD yL_grow cL_grow 6 (some (.object "java/lang/String"))) B.pre
  have hts : ∀ w ∈ TW, w.before _ s = true := fun w h => hts0 w (List.mem_cons_of_mem _ h)
  have hown : s.vm.findClass RL = some m.cls := findClass_of_methodNamed B.named
  have hlocks := B.notSynchronized
  have hsz : s.heap.size = sz0 := hv.1.1
  subst hsz
  have h := lq_entry (U := 40) hv
  have S : CallFix p m c cL_grow 6 s _ TW RL := ⟨hx, hb, hml, hown, hts⟩
  have hl := lv_entry ([.int x, .int y, .int (jn 4)]) (n := 6) (Nat.le_of_ble_eq_true rfl)
  rw [lg_entry_eq]
  generalize (lg_sl ([.int x, .int y, .int (jn 4)]) ++ List.replicate (6 - (lg_sl ([.int x, .int y, .int (jn 4)])).length) Slot.unset).toArray = ls at hl ⊢
  have hl : lv_has ls 6 [(0, .int x), (1, .int y), (2, .int (jn 4))] := hl
  have h : LQ g 40 s _ Z [] [] [] s.heap [] := h
  refine lv_iload_n hx hb d_L_grow_0 rfl (lv_at hl 0 rfl) ?_
  refine lv_iload_n hx hb d_L_grow_1 rfl (lv_at hl 2 rfl) ?_
  refine lv_iconst (v := 3) hx hb d_L_grow_2 (by decide) ?_
  refine lv_icmp_le (tgt := 10) hx hb d_L_grow_3 (by decide) (fun h9 => absurd h9 (by decide)) (fun _ => ?_)
  refine lv_iconst (v := 4) hx hb d_L_grow_6 (by decide) ?_
  refine lv_goto (tgt := 21) hx hb d_L_grow_7 (by decide) ?_
  have hN0 : 0 < 4 := by decide
  have hN : 4 ≤ 1000 := by decide
  refine lq_callI (As := [.int x, .int 4]) (rest := []) S hl.1 h (t_some l g x 4) (fun x9 hx9 => absurd hx9 List.not_mem_nil) ⟨hN0, hN⟩ (va_cwS 2 hts (g_sta (own := RL) (ix := 64) (y := yL_some) (by decide +kernel) (by decide +kernel) (by decide +kernel) (g_con cw_L_some)) rfl rfl rfl (by decide +kernel) ⟨by show 1 + 1 ≤ 12 + 0; omega, by show 8 + (3 + 11) + 60 ≤ 600 + 100 * 0; omega⟩) rfl rfl (Nat.le_of_ble_eq_true rfl) d_L_grow_21 ⟨by show _ ≤ 12 * 1; omega, by show _ ≤ 500 * 1; omega⟩ (fun r1 hr1 => ?_)
  obtain ⟨k, hk, rfl⟩ := hr1
  refine lv_istore_n (lv' := [(3, .int (jn k)), (0, .int x), (1, .int y), (2, .int (jn 4))]) hx hb d_L_grow_24 rfl hl (by decide) rfl (fun ls hl => ?_)
  refine lv_iload_n hx hb d_L_grow_25 rfl (lv_at hl 0 rfl) ?_
  refine lv_iconst (v := 4) hx hb d_L_grow_26 (by decide) ?_
  refine lv_icmp_ge (tgt := 55) hx hb d_L_grow_27 (by decide) (fun h9 => ?_) (fun h9 => ?_)
  · exfalso
    rw [show (4 : Int32) = jn 4 from rfl, jn_le (by omega) (by omega)] at h9
    omega
  · rw [show (4 : Int32) = jn 4 from rfl, jn_le (by omega) (by omega)] at h9
    have h9 : k < 4 := by omega
    refine lq_new S hl.1 h ⟨by show _ ≤ 12 + 0; omega, by show _ ≤ 600 + 100 * 0; omega, by show _ ≤ 12 * 1; omega, by show _ ≤ 500 * 1; omega⟩ (Nat.le_of_ble_eq_true rfl) d_L_grow_30 d_L_grow_33 d_L_grow_34 (fun q2 H locs h => ?_)
    have h : LQ g 40 s _ Z [] [] [(q2, [])] H locs := h
    refine lq_ldc S h (ix := 54) (tx := "") (t := []) (by decide) d_L_grow_37 (fun a3 b4 h => ?_)
    have h : LQ g 40 s _ Z [] [.inl (a3, b4, [])] [(q2, [])] H locs := h
    refine lq_appS S hl.1 h (List.mem_of_getElem? (i := 0) rfl) (by first | omega | (simp only [List.length_append, List.length_cons, List.length_nil]; omega)) As_nil (by first | omega | (simp only [List.length_append, List.length_cons, List.length_nil]; omega)) (by omega) ⟨by show _ ≤ 12 + 0; omega, by show _ ≤ 600 + 100 * 0; omega, by show _ ≤ 12 * 1; omega, by show _ ≤ 500 * 1; omega⟩ (Nat.le_of_ble_eq_true rfl) d_L_grow_39 (fun H locs h => ?_)
    have h : LQ g 40 s _ Z [] [.inl (a3, b4, [])] [(q2, ([] ++ ([])))] H locs := h
    refine lq_ldc S h (ix := 67) (tx := "abuv") (t := [97, 98, 117, 118]) (by decide) d_L_grow_42 (fun a5 b6 h => ?_)
    have h : LQ g 40 s _ Z [] [.inl (a3, b4, []), .inl (a5, b6, [97, 98, 117, 118])] [(q2, ([] ++ ([])))] H locs := h
    refine lv_iload_n hx hb d_L_grow_44 rfl (lv_at hl 0 rfl) ?_
    refine lq_chr S hl.1 h (List.mem_of_getElem? (i := 1) rfl) (by decide) (As_k (by decide)) (i := k) h9 ⟨by show _ ≤ 12 + 0; omega, by show _ ≤ 600 + 100 * 0; omega, by show _ ≤ 12 * 1; omega, by show _ ≤ 500 * 1; omega⟩ (Nat.le_of_ble_eq_true rfl) d_L_grow_45 ?_
    obtain ⟨j, ej, hj, hi0⟩ := abuv_k k h9
    rw [ej]
    refine lq_appC (k := j) S hl.1 h (by first | omega | (simp only [List.length_append, List.length_cons, List.length_nil]; omega)) (by omega) hj ⟨by show _ ≤ 12 + 0; omega, by show _ ≤ 600 + 100 * 0; omega, by show _ ≤ 12 * 1; omega, by show _ ≤ 500 * 1; omega⟩ (Nat.le_of_ble_eq_true rfl) d_L_grow_48 (fun H locs h => ?_)
    have h : LQ g 40 s _ Z [] [.inl (a3, b4, []), .inl (a5, b6, [97, 98, 117, 118])] [(q2, (([] ++ ([])) ++ [jn j]))] H locs := h
    refine lq_toT S hl.1 h (by omega) ⟨by show _ ≤ 12 + 0; omega, by show _ ≤ 600 + 100 * 0; omega, by show _ ≤ 12 * 1; omega, by show _ ≤ 500 * 1; omega⟩ (Nat.le_of_ble_eq_true rfl) d_L_grow_51 (fun a7 b8 H locs h => ?_)
    have h : LQ g 40 s _ Z [] [.inl (a3, b4, []), .inl (a5, b6, [97, 98, 117, 118]), .inl (a7, b8, (([] ++ ([])) ++ [jn j]))] [] H locs := h
    rw [show (([] ++ ([])) ++ [jn j]) = (en (Nd (jn j) Lf Lf)) from rfl] at h
    have h : LQ g 40 s _ Z [] [.inl (a3, b4, []), .inl (a5, b6, [97, 98, 117, 118]), .inl (a7, b8, (en (Nd (jn j) Lf Lf)))] [] H locs := h
    refine W.widen (k := 12 * 1) (n := 500 * 1) (by omega) (by omega) ?_
    exact W.aret hx hb hr (Or.inl ⟨_, rfl⟩) (Or.inr ⟨_, rfl⟩) (fun t8 ht hW => lq_post (P := fun t => ∃ T, wf T ∧ sz T ≤ 1 ∧ t = en T) h (List.mem_of_getElem? (i := 2) rfl) ⟨_, wf_0 hi0, by rw [sz_0]; omega, rfl⟩ ht hW) h.lo d_L_grow_54
set_option maxHeartbeats 4000000 in
set_option maxRecDepth 100000 in
theorem t_growS (l : Launch) (g : GQ) (z d dp : Nat) (hz : 1 ≤ z) (hz2 : z ≤ 15) (hdp : dp ≤ 3) (ih : ∀ x y : Int32, MetS l g yL_grow cL_grow 6 ({ frames := 12 + d, cells := 12 * z, slots := 500 * z, locals := 600 + 100 * d } : Room) (12 * z) (500 * z) [.int x, .int y, .int (jn (dp + 1))] [] (True) (fun t => ∃ T, wf T ∧ sz T ≤ z ∧ t = en T)) (x y : Int32) : MetS l g yL_grow cL_grow 6 ({ frames := 12 + (d + 1), cells := 12 * (2 * z + 1), slots := 500 * (2 * z + 1), locals := 600 + 100 * (d + 1) } : Room) (12 * (2 * z + 1)) (500 * (2 * z + 1)) [.int x, .int y, .int (jn dp)] [] (True) (fun t => ∃ T, wf T ∧ sz T ≤ (2 * z + 1) ∧ t = en T) := by
  intro sz0 Z
  refine Met.ofW (cc := cL_grow) (maxL := 6) (ret := (some (.object "java/lang/String"))) (by decide) rfl ?_
  intro p e s m args below meth c s₁ B hml hv
  obtain ⟨rfl, hv⟩ := hv
  have hX := hv.1.2.2.2.2
  have hx := B.exec
  have hb := B.bytes
  have hr := B.returns
  have hts0 := atoms_spec (ws := wD yL_grow cL_grow 6 (some (.object "java/lang/String"))) B.pre
  have hts : ∀ w ∈ TW, w.before _ s = true := fun w h => hts0 w (List.mem_cons_of_mem _ h)
  have hown : s.vm.findClass RL = some m.cls := findClass_of_methodNamed B.named
  have hlocks := B.notSynchronized
  have hsz : s.heap.size = sz0 := hv.1.1
  subst hsz
  have h := lq_entry (U := 40) hv
  have S : CallFix p m c cL_grow 6 s _ TW RL := ⟨hx, hb, hml, hown, hts⟩
  have hl := lv_entry ([.int x, .int y, .int (jn dp)]) (n := 6) (Nat.le_of_ble_eq_true rfl)
  rw [lg_entry_eq]
  generalize (lg_sl ([.int x, .int y, .int (jn dp)]) ++ List.replicate (6 - (lg_sl ([.int x, .int y, .int (jn dp)])).length) Slot.unset).toArray = ls at hl ⊢
  have hl : lv_has ls 6 [(0, .int x), (1, .int y), (2, .int (jn dp))] := hl
  have h : LQ g 40 s _ Z [] [] [] s.heap [] := h
  refine lv_iload_n hx hb d_L_grow_0 rfl (lv_at hl 0 rfl) ?_
  refine lv_iload_n hx hb d_L_grow_1 rfl (lv_at hl 2 rfl) ?_
  refine lv_iconst (v := 3) hx hb d_L_grow_2 (by decide) ?_
  refine lv_icmp_le (tgt := 10) hx hb d_L_grow_3 (by decide) (fun _ => ?_) (fun h9 => absurd (by rw [show (3 : Int32) = jn 3 from rfl, jn_le (by omega) (by omega)]; exact hdp) h9)
  refine w_tail (ι := Nat) (Hf := fun _ => s.heap) (Jf := fun _ => []) (kf := fun _ => 0) (nf := fun _ => 0) (gf := fun N => F0 m 21 ls [.int (jn N), .int x]) (PN := fun N => 0 < N ∧ N ≤ 1000) (fun tail => ?_) (fun N hN => ?_)
  · refine lv_iload_n hx hb d_L_grow_10 rfl (lv_at hl 2 rfl) ?_
    refine lv_if_ne (tgt := 19) hx hb d_L_grow_11 (by decide) (fun h9 => ?_) (fun h9 => ?_)
    · refine lv_bipush (v := (9)) hx hb d_L_grow_19 (by decide) ?_
      exact tail 9 ⟨by decide, by decide⟩
    · refine lv_bipush (v := (11)) hx hb d_L_grow_14 (by decide) ?_
      refine lv_goto (tgt := 21) hx hb d_L_grow_16 (by decide) ?_
      exact tail 11 ⟨by decide, by decide⟩
  · obtain ⟨hN0, hN⟩ := hN
    show W p l e _ s m _ below meth c s.heap [] 0 0 _ (F0 m 21 ls [.int (jn N), .int x])
    refine lq_callI (As := [.int x, .int (jn N)]) (rest := []) S hl.1 h (t_some l g x N) (fun x9 hx9 => absurd hx9 List.not_mem_nil) ⟨hN0, hN⟩ (va_cwS 2 hts (g_sta (own := RL) (ix := 64) (y := yL_some) (by decide +kernel) (by decide +kernel) (by decide +kernel) (g_con cw_L_some)) rfl rfl rfl (by decide +kernel) ⟨by show 1 + 1 ≤ 12 + (d + 1); omega, by show 8 + (3 + 11) + 60 ≤ 600 + 100 * (d + 1); omega⟩) rfl rfl (Nat.le_of_ble_eq_true rfl) d_L_grow_21 ⟨by show _ ≤ 12 * (2 * z + 1); omega, by show _ ≤ 500 * (2 * z + 1); omega⟩ (fun r1 hr1 => ?_)
    obtain ⟨k, hk, rfl⟩ := hr1
    refine lv_istore_n (lv' := [(3, .int (jn k)), (0, .int x), (1, .int y), (2, .int (jn dp))]) hx hb d_L_grow_24 rfl hl (by decide) rfl (fun ls hl => ?_)
    refine lv_iload_n hx hb d_L_grow_25 rfl (lv_at hl 0 rfl) ?_
    refine lv_iconst (v := 4) hx hb d_L_grow_26 (by decide) ?_
    refine lv_icmp_ge (tgt := 55) hx hb d_L_grow_27 (by decide) (fun h9 => ?_) (fun h9 => ?_)
    · clear h9
      refine lv_iload_n hx hb d_L_grow_55 rfl (lv_at hl 1 rfl) ?_
      refine lv_iconst (v := 4) hx hb d_L_grow_56 (by decide) ?_
      refine lv_ishr hx hb d_L_grow_57 ?_
      refine lv_bipush (v := (31)) hx hb d_L_grow_58 (by decide) ?_
      refine lv_imul hx hb d_L_grow_60 ?_
      refine lv_iload_n hx hb d_L_grow_61 rfl (lv_at hl 2 rfl) ?_
      refine lv_iconst (v := 2) hx hb d_L_grow_62 (by decide) ?_
      refine lv_ishr hx hb d_L_grow_63 ?_
      refine lv_ixor hx hb d_L_grow_64 ?_
      refine lv_istore (lv' := [(4, .int (((x >>> ((4 : Int32) &&& 31)) * (31)) ^^^ (y >>> ((2 : Int32) &&& 31)))), (3, .int (jn k)), (0, .int x), (1, .int y), (2, .int (jn dp))]) hx hb d_L_grow_65 hl (by decide) rfl (fun ls hl => ?_)
      refine lv_iload_n hx hb d_L_grow_67 rfl (lv_at hl 3 rfl) ?_
      refine lv_iconst (v := 3) hx hb d_L_grow_68 (by decide) ?_
      refine lv_ishr hx hb d_L_grow_69 ?_
      refine lv_bipush (v := (17)) hx hb d_L_grow_70 (by decide) ?_
      refine lv_imul hx hb d_L_grow_72 ?_
      refine lv_iload_n hx hb d_L_grow_73 rfl (lv_at hl 2 rfl) ?_
      refine lv_iconst (v := 5) hx hb d_L_grow_74 (by decide) ?_
      refine lv_ishr hx hb d_L_grow_75 ?_
      refine lv_ixor hx hb d_L_grow_76 ?_
      refine lv_istore (lv' := [(5, .int (((y >>> ((3 : Int32) &&& 31)) * (17)) ^^^ (x >>> ((5 : Int32) &&& 31)))), (4, .int (((x >>> ((4 : Int32) &&& 31)) * (31)) ^^^ (y >>> ((2 : Int32) &&& 31)))), (3, .int (jn k)), (0, .int x), (1, .int y), (2, .int (jn dp))]) hx hb d_L_grow_77 hl (by decide) rfl (fun ls hl => ?_)
      generalize (((x >>> ((4 : Int32) &&& 31)) * (31)) ^^^ (y >>> ((2 : Int32) &&& 31))) = v at hl
      generalize (((y >>> ((3 : Int32) &&& 31)) * (17)) ^^^ (x >>> ((5 : Int32) &&& 31))) = w at hl
      refine lv_iload_n hx hb d_L_grow_79 rfl (lv_at hl 2 rfl) ?_
      refine lv_bipush (v := (6)) hx hb d_L_grow_80 (by decide) ?_
      refine lv_icmp_ge (tgt := 124) hx hb d_L_grow_82 (by decide) (fun h9 => ?_) (fun h9 => ?_)
      · refine lq_new S hl.1 h ⟨by show _ ≤ 12 + (d + 1); omega, by show _ ≤ 600 + 100 * (d + 1); omega, by show _ ≤ 12 * (2 * z + 1); omega, by show _ ≤ 500 * (2 * z + 1); omega⟩ (Nat.le_of_ble_eq_true rfl) d_L_grow_124 d_L_grow_127 d_L_grow_128 (fun q2 H locs h => ?_)
        have h : LQ g 40 s _ Z [] [] [(q2, [])] H locs := h
        refine lv_iload_n hx hb d_L_grow_131 rfl (lv_at hl 2 rfl) ?_
        refine lv_bipush (v := (8)) hx hb d_L_grow_132 (by decide) ?_
        refine lv_icmp_eq (tgt := 143) hx hb d_L_grow_134 (by decide) (fun h9 => ?_) (fun h9 => ?_)
        · refine lq_ldc S h (ix := 77) (tx := "j") (t := [106]) (by decide) d_L_grow_143 (fun a3 b4 h => ?_)
          have h : LQ g 40 s _ Z [] [.inl (a3, b4, [106])] [(q2, [])] H locs := h
          refine lv_goto (tgt := 150) hx hb d_L_grow_145 (by decide) ?_
          refine lq_appS S hl.1 h (List.mem_of_getElem? (i := 0) rfl) (by first | omega | (simp only [List.length_append, List.length_cons, List.length_nil]; omega)) (As_k (by decide)) (by first | omega | (simp only [List.length_append, List.length_cons, List.length_nil]; omega)) (by omega) ⟨by show _ ≤ 12 + (d + 1); omega, by show _ ≤ 600 + 100 * (d + 1); omega, by show _ ≤ 12 * (2 * z + 1); omega, by show _ ≤ 500 * (2 * z + 1); omega⟩ (Nat.le_of_ble_eq_true rfl) d_L_grow_150 (fun H locs h => ?_)
          have h : LQ g 40 s _ Z [] [.inl (a3, b4, [106])] [(q2, ([] ++ ([106])))] H locs := h
          refine lv_iload hx hb d_L_grow_153 (lv_at hl 1 rfl) ?_
          refine lv_iload hx hb d_L_grow_155 (lv_at hl 0 rfl) ?_
          refine lv_iload_n hx hb d_L_grow_157 rfl (lv_at hl 5 rfl) ?_
          refine lv_iconst (v := 1) hx hb d_L_grow_158 (by decide) ?_
          refine lv_iadd hx hb d_L_grow_159 ?_
          rw [jn_1p]
          refine lq_callS (As := [.int v, .int w, .int (jn (dp + 1))]) (rest := [.ref q2]) S hl.1 h (ih v w) (fun x9 hx9 => absurd hx9 List.not_mem_nil) trivial (va_cwS 3 hts (g_sta (own := RL) (ix := 73) (y := yL_grow) (by decide +kernel) (by decide +kernel) (by decide +kernel) (g_con cw_L_grow)) rfl rfl rfl (by decide +kernel) ⟨by show (12 + d) + 1 ≤ 12 + (d + 1); omega, by show 8 + (6 + 11) + (600 + 100 * d) ≤ 600 + 100 * (d + 1); omega⟩) rfl rfl (Nat.le_of_ble_eq_true rfl) d_L_grow_160 ⟨by show _ ≤ 12 * (2 * z + 1); omega, by show _ ≤ 500 * (2 * z + 1); omega⟩ (fun a5 b6 t7 H locs ha5 h => ?_)
          have h : LQ g 40 s _ Z [] [.inl (a3, b4, [106]), .inl (a5, b6, t7)] [(q2, ([] ++ ([106])))] H locs := h
          obtain ⟨P, hwP, hsP, eP⟩ := ha5
          subst eP
          have h : LQ g 40 s _ Z [] [.inl (a3, b4, [106]), .inl (a5, b6, (en P))] [(q2, ([] ++ ([106])))] H locs := h
          have hlP : (en P).length ≤ z := hsP
          refine lq_appS S hl.1 h (List.mem_of_getElem? (i := 1) rfl) (by omega) (As_en hwP) (by first | omega | (simp only [List.length_append, List.length_cons, List.length_nil]; omega)) (by omega) ⟨by show _ ≤ 12 + (d + 1); omega, by show _ ≤ 600 + 100 * (d + 1); omega, by show _ ≤ 12 * (2 * z + 1); omega, by show _ ≤ 500 * (2 * z + 1); omega⟩ (Nat.le_of_ble_eq_true rfl) d_L_grow_163 (fun H locs h => ?_)
          have h : LQ g 40 s _ Z [] [.inl (a3, b4, [106]), .inl (a5, b6, (en P))] [(q2, (([] ++ ([106])) ++ (en P)))] H locs := h
          refine lv_iload hx hb d_L_grow_166 (lv_at hl 0 rfl) ?_
          refine lv_iload hx hb d_L_grow_168 (lv_at hl 1 rfl) ?_
          refine lv_bipush (v := (7)) hx hb d_L_grow_170 (by decide) ?_
          refine lv_imul hx hb d_L_grow_172 ?_
          refine lv_iload_n hx hb d_L_grow_173 rfl (lv_at hl 5 rfl) ?_
          refine lv_iconst (v := 1) hx hb d_L_grow_174 (by decide) ?_
          refine lv_iadd hx hb d_L_grow_175 ?_
          rw [jn_1p]
          refine lq_callS (As := [.int w, .int (v * (7)), .int (jn (dp + 1))]) (rest := [.ref q2]) S hl.1 h (ih w (v * (7))) (fun x9 hx9 => absurd hx9 List.not_mem_nil) trivial (va_cwS 3 hts (g_sta (own := RL) (ix := 73) (y := yL_grow) (by decide +kernel) (by decide +kernel) (by decide +kernel) (g_con cw_L_grow)) rfl rfl rfl (by decide +kernel) ⟨by show (12 + d) + 1 ≤ 12 + (d + 1); omega, by show 8 + (6 + 11) + (600 + 100 * d) ≤ 600 + 100 * (d + 1); omega⟩) rfl rfl (Nat.le_of_ble_eq_true rfl) d_L_grow_176 ⟨by show _ ≤ 12 * (2 * z + 1); omega, by show _ ≤ 500 * (2 * z + 1); omega⟩ (fun a8 b9 t10 H locs ha8 h => ?_)
          have h : LQ g 40 s _ Z [] [.inl (a3, b4, [106]), .inl (a5, b6, (en P)), .inl (a8, b9, t10)] [(q2, (([] ++ ([106])) ++ (en P)))] H locs := h
          obtain ⟨V, hwV, hsV, eV⟩ := ha8
          subst eV
          have h : LQ g 40 s _ Z [] [.inl (a3, b4, [106]), .inl (a5, b6, (en P)), .inl (a8, b9, (en V))] [(q2, (([] ++ ([106])) ++ (en P)))] H locs := h
          have hlV : (en V).length ≤ z := hsV
          refine lq_appS S hl.1 h (List.mem_of_getElem? (i := 2) rfl) (by omega) (As_en hwV) (by first | omega | (simp only [List.length_append, List.length_cons, List.length_nil]; omega)) (by omega) ⟨by show _ ≤ 12 + (d + 1); omega, by show _ ≤ 600 + 100 * (d + 1); omega, by show _ ≤ 12 * (2 * z + 1); omega, by show _ ≤ 500 * (2 * z + 1); omega⟩ (Nat.le_of_ble_eq_true rfl) d_L_grow_179 (fun H locs h => ?_)
          have h : LQ g 40 s _ Z [] [.inl (a3, b4, [106]), .inl (a5, b6, (en P)), .inl (a8, b9, (en V))] [(q2, ((([] ++ ([106])) ++ (en P)) ++ (en V)))] H locs := h
          refine lq_toT S hl.1 h (by omega) ⟨by show _ ≤ 12 + (d + 1); omega, by show _ ≤ 600 + 100 * (d + 1); omega, by show _ ≤ 12 * (2 * z + 1); omega, by show _ ≤ 500 * (2 * z + 1); omega⟩ (Nat.le_of_ble_eq_true rfl) d_L_grow_182 (fun a11 b12 H locs h => ?_)
          have h : LQ g 40 s _ Z [] [.inl (a3, b4, [106]), .inl (a5, b6, (en P)), .inl (a8, b9, (en V)), .inl (a11, b12, ((([] ++ ([106])) ++ (en P)) ++ (en V)))] [] H locs := h
          rw [show ((([] ++ ([106])) ++ (en P)) ++ (en V)) = (en (Nd (jn 106) P V)) from by rw [en_2]; simp only [List.nil_append, List.append_assoc, List.cons_append]; rfl] at h
          have h : LQ g 40 s _ Z [] [.inl (a3, b4, [106]), .inl (a5, b6, (en P)), .inl (a8, b9, (en V)), .inl (a11, b12, (en (Nd (jn 106) P V)))] [] H locs := h
          refine W.widen (k := 12 * (2 * z + 1)) (n := 500 * (2 * z + 1)) (by omega) (by omega) ?_
          exact W.aret hx hb hr (Or.inl ⟨_, rfl⟩) (Or.inr ⟨_, rfl⟩) (fun t8 ht hW => lq_post (P := fun t => ∃ T, wf T ∧ sz T ≤ (2 * z + 1) ∧ t = en T) h (List.mem_of_getElem? (i := 3) rfl) ⟨_, wf_2 (by decide) hwP hwV, by rw [sz_2]; omega, rfl⟩ ht hW) h.lo d_L_grow_185
        · refine lv_iload_n hx hb d_L_grow_137 rfl (lv_at hl 2 rfl) ?_
          refine lv_bipush (v := (10)) hx hb d_L_grow_138 (by decide) ?_
          refine lv_icmp_ne (tgt := 148) hx hb d_L_grow_140 (by decide) (fun h9 => ?_) (fun h9 => ?_)
          · refine lq_ldc S h (ix := 79) (tx := "i") (t := [105]) (by decide) d_L_grow_148 (fun a13 b14 h => ?_)
            have h : LQ g 40 s _ Z [] [.inl (a13, b14, [105])] [(q2, [])] H locs := h
            refine lq_appS S hl.1 h (List.mem_of_getElem? (i := 0) rfl) (by first | omega | (simp only [List.length_append, List.length_cons, List.length_nil]; omega)) (As_k (by decide)) (by first | omega | (simp only [List.length_append, List.length_cons, List.length_nil]; omega)) (by omega) ⟨by show _ ≤ 12 + (d + 1); omega, by show _ ≤ 600 + 100 * (d + 1); omega, by show _ ≤ 12 * (2 * z + 1); omega, by show _ ≤ 500 * (2 * z + 1); omega⟩ (Nat.le_of_ble_eq_true rfl) d_L_grow_150 (fun H locs h => ?_)
            have h : LQ g 40 s _ Z [] [.inl (a13, b14, [105])] [(q2, ([] ++ ([105])))] H locs := h
            refine lv_iload hx hb d_L_grow_153 (lv_at hl 1 rfl) ?_
            refine lv_iload hx hb d_L_grow_155 (lv_at hl 0 rfl) ?_
            refine lv_iload_n hx hb d_L_grow_157 rfl (lv_at hl 5 rfl) ?_
            refine lv_iconst (v := 1) hx hb d_L_grow_158 (by decide) ?_
            refine lv_iadd hx hb d_L_grow_159 ?_
            rw [jn_1p]
            refine lq_callS (As := [.int v, .int w, .int (jn (dp + 1))]) (rest := [.ref q2]) S hl.1 h (ih v w) (fun x9 hx9 => absurd hx9 List.not_mem_nil) trivial (va_cwS 3 hts (g_sta (own := RL) (ix := 73) (y := yL_grow) (by decide +kernel) (by decide +kernel) (by decide +kernel) (g_con cw_L_grow)) rfl rfl rfl (by decide +kernel) ⟨by show (12 + d) + 1 ≤ 12 + (d + 1); omega, by show 8 + (6 + 11) + (600 + 100 * d) ≤ 600 + 100 * (d + 1); omega⟩) rfl rfl (Nat.le_of_ble_eq_true rfl) d_L_grow_160 ⟨by show _ ≤ 12 * (2 * z + 1); omega, by show _ ≤ 500 * (2 * z + 1); omega⟩ (fun a15 b16 t17 H locs ha15 h => ?_)
            have h : LQ g 40 s _ Z [] [.inl (a13, b14, [105]), .inl (a15, b16, t17)] [(q2, ([] ++ ([105])))] H locs := h
            obtain ⟨P, hwP, hsP, eP⟩ := ha15
            subst eP
            have h : LQ g 40 s _ Z [] [.inl (a13, b14, [105]), .inl (a15, b16, (en P))] [(q2, ([] ++ ([105])))] H locs := h
            have hlP : (en P).length ≤ z := hsP
            refine lq_appS S hl.1 h (List.mem_of_getElem? (i := 1) rfl) (by omega) (As_en hwP) (by first | omega | (simp only [List.length_append, List.length_cons, List.length_nil]; omega)) (by omega) ⟨by show _ ≤ 12 + (d + 1); omega, by show _ ≤ 600 + 100 * (d + 1); omega, by show _ ≤ 12 * (2 * z + 1); omega, by show _ ≤ 500 * (2 * z + 1); omega⟩ (Nat.le_of_ble_eq_true rfl) d_L_grow_163 (fun H locs h => ?_)
            have h : LQ g 40 s _ Z [] [.inl (a13, b14, [105]), .inl (a15, b16, (en P))] [(q2, (([] ++ ([105])) ++ (en P)))] H locs := h
            refine lv_iload hx hb d_L_grow_166 (lv_at hl 0 rfl) ?_
            refine lv_iload hx hb d_L_grow_168 (lv_at hl 1 rfl) ?_
            refine lv_bipush (v := (7)) hx hb d_L_grow_170 (by decide) ?_
            refine lv_imul hx hb d_L_grow_172 ?_
            refine lv_iload_n hx hb d_L_grow_173 rfl (lv_at hl 5 rfl) ?_
            refine lv_iconst (v := 1) hx hb d_L_grow_174 (by decide) ?_
            refine lv_iadd hx hb d_L_grow_175 ?_
            rw [jn_1p]
            refine lq_callS (As := [.int w, .int (v * (7)), .int (jn (dp + 1))]) (rest := [.ref q2]) S hl.1 h (ih w (v * (7))) (fun x9 hx9 => absurd hx9 List.not_mem_nil) trivial (va_cwS 3 hts (g_sta (own := RL) (ix := 73) (y := yL_grow) (by decide +kernel) (by decide +kernel) (by decide +kernel) (g_con cw_L_grow)) rfl rfl rfl (by decide +kernel) ⟨by show (12 + d) + 1 ≤ 12 + (d + 1); omega, by show 8 + (6 + 11) + (600 + 100 * d) ≤ 600 + 100 * (d + 1); omega⟩) rfl rfl (Nat.le_of_ble_eq_true rfl) d_L_grow_176 ⟨by show _ ≤ 12 * (2 * z + 1); omega, by show _ ≤ 500 * (2 * z + 1); omega⟩ (fun a18 b19 t20 H locs ha18 h => ?_)
            have h : LQ g 40 s _ Z [] [.inl (a13, b14, [105]), .inl (a15, b16, (en P)), .inl (a18, b19, t20)] [(q2, (([] ++ ([105])) ++ (en P)))] H locs := h
            obtain ⟨V, hwV, hsV, eV⟩ := ha18
            subst eV
            have h : LQ g 40 s _ Z [] [.inl (a13, b14, [105]), .inl (a15, b16, (en P)), .inl (a18, b19, (en V))] [(q2, (([] ++ ([105])) ++ (en P)))] H locs := h
            have hlV : (en V).length ≤ z := hsV
            refine lq_appS S hl.1 h (List.mem_of_getElem? (i := 2) rfl) (by omega) (As_en hwV) (by first | omega | (simp only [List.length_append, List.length_cons, List.length_nil]; omega)) (by omega) ⟨by show _ ≤ 12 + (d + 1); omega, by show _ ≤ 600 + 100 * (d + 1); omega, by show _ ≤ 12 * (2 * z + 1); omega, by show _ ≤ 500 * (2 * z + 1); omega⟩ (Nat.le_of_ble_eq_true rfl) d_L_grow_179 (fun H locs h => ?_)
            have h : LQ g 40 s _ Z [] [.inl (a13, b14, [105]), .inl (a15, b16, (en P)), .inl (a18, b19, (en V))] [(q2, ((([] ++ ([105])) ++ (en P)) ++ (en V)))] H locs := h
            refine lq_toT S hl.1 h (by omega) ⟨by show _ ≤ 12 + (d + 1); omega, by show _ ≤ 600 + 100 * (d + 1); omega, by show _ ≤ 12 * (2 * z + 1); omega, by show _ ≤ 500 * (2 * z + 1); omega⟩ (Nat.le_of_ble_eq_true rfl) d_L_grow_182 (fun a21 b22 H locs h => ?_)
            have h : LQ g 40 s _ Z [] [.inl (a13, b14, [105]), .inl (a15, b16, (en P)), .inl (a18, b19, (en V)), .inl (a21, b22, ((([] ++ ([105])) ++ (en P)) ++ (en V)))] [] H locs := h
            rw [show ((([] ++ ([105])) ++ (en P)) ++ (en V)) = (en (Nd (jn 105) P V)) from by rw [en_2]; simp only [List.nil_append, List.append_assoc, List.cons_append]; rfl] at h
            have h : LQ g 40 s _ Z [] [.inl (a13, b14, [105]), .inl (a15, b16, (en P)), .inl (a18, b19, (en V)), .inl (a21, b22, (en (Nd (jn 105) P V)))] [] H locs := h
            refine W.widen (k := 12 * (2 * z + 1)) (n := 500 * (2 * z + 1)) (by omega) (by omega) ?_
            exact W.aret hx hb hr (Or.inl ⟨_, rfl⟩) (Or.inr ⟨_, rfl⟩) (fun t8 ht hW => lq_post (P := fun t => ∃ T, wf T ∧ sz T ≤ (2 * z + 1) ∧ t = en T) h (List.mem_of_getElem? (i := 3) rfl) ⟨_, wf_2 (by decide) hwP hwV, by rw [sz_2]; omega, rfl⟩ ht hW) h.lo d_L_grow_185
          · refine lq_ldc S h (ix := 77) (tx := "j") (t := [106]) (by decide) d_L_grow_143 (fun a23 b24 h => ?_)
            have h : LQ g 40 s _ Z [] [.inl (a23, b24, [106])] [(q2, [])] H locs := h
            refine lv_goto (tgt := 150) hx hb d_L_grow_145 (by decide) ?_
            refine lq_appS S hl.1 h (List.mem_of_getElem? (i := 0) rfl) (by first | omega | (simp only [List.length_append, List.length_cons, List.length_nil]; omega)) (As_k (by decide)) (by first | omega | (simp only [List.length_append, List.length_cons, List.length_nil]; omega)) (by omega) ⟨by show _ ≤ 12 + (d + 1); omega, by show _ ≤ 600 + 100 * (d + 1); omega, by show _ ≤ 12 * (2 * z + 1); omega, by show _ ≤ 500 * (2 * z + 1); omega⟩ (Nat.le_of_ble_eq_true rfl) d_L_grow_150 (fun H locs h => ?_)
            have h : LQ g 40 s _ Z [] [.inl (a23, b24, [106])] [(q2, ([] ++ ([106])))] H locs := h
            refine lv_iload hx hb d_L_grow_153 (lv_at hl 1 rfl) ?_
            refine lv_iload hx hb d_L_grow_155 (lv_at hl 0 rfl) ?_
            refine lv_iload_n hx hb d_L_grow_157 rfl (lv_at hl 5 rfl) ?_
            refine lv_iconst (v := 1) hx hb d_L_grow_158 (by decide) ?_
            refine lv_iadd hx hb d_L_grow_159 ?_
            rw [jn_1p]
            refine lq_callS (As := [.int v, .int w, .int (jn (dp + 1))]) (rest := [.ref q2]) S hl.1 h (ih v w) (fun x9 hx9 => absurd hx9 List.not_mem_nil) trivial (va_cwS 3 hts (g_sta (own := RL) (ix := 73) (y := yL_grow) (by decide +kernel) (by decide +kernel) (by decide +kernel) (g_con cw_L_grow)) rfl rfl rfl (by decide +kernel) ⟨by show (12 + d) + 1 ≤ 12 + (d + 1); omega, by show 8 + (6 + 11) + (600 + 100 * d) ≤ 600 + 100 * (d + 1); omega⟩) rfl rfl (Nat.le_of_ble_eq_true rfl) d_L_grow_160 ⟨by show _ ≤ 12 * (2 * z + 1); omega, by show _ ≤ 500 * (2 * z + 1); omega⟩ (fun a25 b26 t27 H locs ha25 h => ?_)
            have h : LQ g 40 s _ Z [] [.inl (a23, b24, [106]), .inl (a25, b26, t27)] [(q2, ([] ++ ([106])))] H locs := h
            obtain ⟨P, hwP, hsP, eP⟩ := ha25
            subst eP
            have h : LQ g 40 s _ Z [] [.inl (a23, b24, [106]), .inl (a25, b26, (en P))] [(q2, ([] ++ ([106])))] H locs := h
            have hlP : (en P).length ≤ z := hsP
            refine lq_appS S hl.1 h (List.mem_of_getElem? (i := 1) rfl) (by omega) (As_en hwP) (by first | omega | (simp only [List.length_append, List.length_cons, List.length_nil]; omega)) (by omega) ⟨by show _ ≤ 12 + (d + 1); omega, by show _ ≤ 600 + 100 * (d + 1); omega, by show _ ≤ 12 * (2 * z + 1); omega, by show _ ≤ 500 * (2 * z + 1); omega⟩ (Nat.le_of_ble_eq_true rfl) d_L_grow_163 (fun H locs h => ?_)
            have h : LQ g 40 s _ Z [] [.inl (a23, b24, [106]), .inl (a25, b26, (en P))] [(q2, (([] ++ ([106])) ++ (en P)))] H locs := h
            refine lv_iload hx hb d_L_grow_166 (lv_at hl 0 rfl) ?_
            refine lv_iload hx hb d_L_grow_168 (lv_at hl 1 rfl) ?_
            refine lv_bipush (v := (7)) hx hb d_L_grow_170 (by decide) ?_
            refine lv_imul hx hb d_L_grow_172 ?_
            refine lv_iload_n hx hb d_L_grow_173 rfl (lv_at hl 5 rfl) ?_
            refine lv_iconst (v := 1) hx hb d_L_grow_174 (by decide) ?_
            refine lv_iadd hx hb d_L_grow_175 ?_
            rw [jn_1p]
            refine lq_callS (As := [.int w, .int (v * (7)), .int (jn (dp + 1))]) (rest := [.ref q2]) S hl.1 h (ih w (v * (7))) (fun x9 hx9 => absurd hx9 List.not_mem_nil) trivial (va_cwS 3 hts (g_sta (own := RL) (ix := 73) (y := yL_grow) (by decide +kernel) (by decide +kernel) (by decide +kernel) (g_con cw_L_grow)) rfl rfl rfl (by decide +kernel) ⟨by show (12 + d) + 1 ≤ 12 + (d + 1); omega, by show 8 + (6 + 11) + (600 + 100 * d) ≤ 600 + 100 * (d + 1); omega⟩) rfl rfl (Nat.le_of_ble_eq_true rfl) d_L_grow_176 ⟨by show _ ≤ 12 * (2 * z + 1); omega, by show _ ≤ 500 * (2 * z + 1); omega⟩ (fun a28 b29 t30 H locs ha28 h => ?_)
            have h : LQ g 40 s _ Z [] [.inl (a23, b24, [106]), .inl (a25, b26, (en P)), .inl (a28, b29, t30)] [(q2, (([] ++ ([106])) ++ (en P)))] H locs := h
            obtain ⟨V, hwV, hsV, eV⟩ := ha28
            subst eV
            have h : LQ g 40 s _ Z [] [.inl (a23, b24, [106]), .inl (a25, b26, (en P)), .inl (a28, b29, (en V))] [(q2, (([] ++ ([106])) ++ (en P)))] H locs := h
            have hlV : (en V).length ≤ z := hsV
            refine lq_appS S hl.1 h (List.mem_of_getElem? (i := 2) rfl) (by omega) (As_en hwV) (by first | omega | (simp only [List.length_append, List.length_cons, List.length_nil]; omega)) (by omega) ⟨by show _ ≤ 12 + (d + 1); omega, by show _ ≤ 600 + 100 * (d + 1); omega, by show _ ≤ 12 * (2 * z + 1); omega, by show _ ≤ 500 * (2 * z + 1); omega⟩ (Nat.le_of_ble_eq_true rfl) d_L_grow_179 (fun H locs h => ?_)
            have h : LQ g 40 s _ Z [] [.inl (a23, b24, [106]), .inl (a25, b26, (en P)), .inl (a28, b29, (en V))] [(q2, ((([] ++ ([106])) ++ (en P)) ++ (en V)))] H locs := h
            refine lq_toT S hl.1 h (by omega) ⟨by show _ ≤ 12 + (d + 1); omega, by show _ ≤ 600 + 100 * (d + 1); omega, by show _ ≤ 12 * (2 * z + 1); omega, by show _ ≤ 500 * (2 * z + 1); omega⟩ (Nat.le_of_ble_eq_true rfl) d_L_grow_182 (fun a31 b32 H locs h => ?_)
            have h : LQ g 40 s _ Z [] [.inl (a23, b24, [106]), .inl (a25, b26, (en P)), .inl (a28, b29, (en V)), .inl (a31, b32, ((([] ++ ([106])) ++ (en P)) ++ (en V)))] [] H locs := h
            rw [show ((([] ++ ([106])) ++ (en P)) ++ (en V)) = (en (Nd (jn 106) P V)) from by rw [en_2]; simp only [List.nil_append, List.append_assoc, List.cons_append]; rfl] at h
            have h : LQ g 40 s _ Z [] [.inl (a23, b24, [106]), .inl (a25, b26, (en P)), .inl (a28, b29, (en V)), .inl (a31, b32, (en (Nd (jn 106) P V)))] [] H locs := h
            refine W.widen (k := 12 * (2 * z + 1)) (n := 500 * (2 * z + 1)) (by omega) (by omega) ?_
            exact W.aret hx hb hr (Or.inl ⟨_, rfl⟩) (Or.inr ⟨_, rfl⟩) (fun t8 ht hW => lq_post (P := fun t => ∃ T, wf T ∧ sz T ≤ (2 * z + 1) ∧ t = en T) h (List.mem_of_getElem? (i := 3) rfl) ⟨_, wf_2 (by decide) hwP hwV, by rw [sz_2]; omega, rfl⟩ ht hW) h.lo d_L_grow_185
      · refine lq_new S hl.1 h ⟨by show _ ≤ 12 + (d + 1); omega, by show _ ≤ 600 + 100 * (d + 1); omega, by show _ ≤ 12 * (2 * z + 1); omega, by show _ ≤ 500 * (2 * z + 1); omega⟩ (Nat.le_of_ble_eq_true rfl) d_L_grow_85 d_L_grow_88 d_L_grow_89 (fun q33 H locs h => ?_)
        have h : LQ g 40 s _ Z [] [] [(q33, [])] H locs := h
        refine lv_iload_n hx hb d_L_grow_92 rfl (lv_at hl 2 rfl) ?_
        refine lv_iconst (v := 4) hx hb d_L_grow_93 (by decide) ?_
        refine lv_icmp_ne (tgt := 102) hx hb d_L_grow_94 (by decide) (fun h9 => ?_) (fun h9 => ?_)
        · refine lq_ldc S h (ix := 71) (tx := "f") (t := [102]) (by decide) d_L_grow_102 (fun a34 b35 h => ?_)
          have h : LQ g 40 s _ Z [] [.inl (a34, b35, [102])] [(q33, [])] H locs := h
          refine lq_appS S hl.1 h (List.mem_of_getElem? (i := 0) rfl) (by first | omega | (simp only [List.length_append, List.length_cons, List.length_nil]; omega)) (As_k (by decide)) (by first | omega | (simp only [List.length_append, List.length_cons, List.length_nil]; omega)) (by omega) ⟨by show _ ≤ 12 + (d + 1); omega, by show _ ≤ 600 + 100 * (d + 1); omega, by show _ ≤ 12 * (2 * z + 1); omega, by show _ ≤ 500 * (2 * z + 1); omega⟩ (Nat.le_of_ble_eq_true rfl) d_L_grow_104 (fun H locs h => ?_)
          have h : LQ g 40 s _ Z [] [.inl (a34, b35, [102])] [(q33, ([] ++ ([102])))] H locs := h
          refine lv_iload hx hb d_L_grow_107 (lv_at hl 1 rfl) ?_
          refine lv_iload hx hb d_L_grow_109 (lv_at hl 0 rfl) ?_
          refine lv_iload_n hx hb d_L_grow_111 rfl (lv_at hl 5 rfl) ?_
          refine lv_iconst (v := 1) hx hb d_L_grow_112 (by decide) ?_
          refine lv_iadd hx hb d_L_grow_113 ?_
          rw [jn_1p]
          refine lq_callS (As := [.int v, .int w, .int (jn (dp + 1))]) (rest := [.ref q33]) S hl.1 h (ih v w) (fun x9 hx9 => absurd hx9 List.not_mem_nil) trivial (va_cwS 3 hts (g_sta (own := RL) (ix := 73) (y := yL_grow) (by decide +kernel) (by decide +kernel) (by decide +kernel) (g_con cw_L_grow)) rfl rfl rfl (by decide +kernel) ⟨by show (12 + d) + 1 ≤ 12 + (d + 1); omega, by show 8 + (6 + 11) + (600 + 100 * d) ≤ 600 + 100 * (d + 1); omega⟩) rfl rfl (Nat.le_of_ble_eq_true rfl) d_L_grow_114 ⟨by show _ ≤ 12 * (2 * z + 1); omega, by show _ ≤ 500 * (2 * z + 1); omega⟩ (fun a36 b37 t38 H locs ha36 h => ?_)
          have h : LQ g 40 s _ Z [] [.inl (a34, b35, [102]), .inl (a36, b37, t38)] [(q33, ([] ++ ([102])))] H locs := h
          obtain ⟨P, hwP, hsP, eP⟩ := ha36
          subst eP
          have h : LQ g 40 s _ Z [] [.inl (a34, b35, [102]), .inl (a36, b37, (en P))] [(q33, ([] ++ ([102])))] H locs := h
          have hlP : (en P).length ≤ z := hsP
          refine lq_appS S hl.1 h (List.mem_of_getElem? (i := 1) rfl) (by omega) (As_en hwP) (by first | omega | (simp only [List.length_append, List.length_cons, List.length_nil]; omega)) (by omega) ⟨by show _ ≤ 12 + (d + 1); omega, by show _ ≤ 600 + 100 * (d + 1); omega, by show _ ≤ 12 * (2 * z + 1); omega, by show _ ≤ 500 * (2 * z + 1); omega⟩ (Nat.le_of_ble_eq_true rfl) d_L_grow_117 (fun H locs h => ?_)
          have h : LQ g 40 s _ Z [] [.inl (a34, b35, [102]), .inl (a36, b37, (en P))] [(q33, (([] ++ ([102])) ++ (en P)))] H locs := h
          refine lq_toT S hl.1 h (by omega) ⟨by show _ ≤ 12 + (d + 1); omega, by show _ ≤ 600 + 100 * (d + 1); omega, by show _ ≤ 12 * (2 * z + 1); omega, by show _ ≤ 500 * (2 * z + 1); omega⟩ (Nat.le_of_ble_eq_true rfl) d_L_grow_120 (fun a39 b40 H locs h => ?_)
          have h : LQ g 40 s _ Z [] [.inl (a34, b35, [102]), .inl (a36, b37, (en P)), .inl (a39, b40, (([] ++ ([102])) ++ (en P)))] [] H locs := h
          rw [show (([] ++ ([102])) ++ (en P)) = (en (Nd (jn 102) P Lf)) from by rw [en_1]; rfl] at h
          have h : LQ g 40 s _ Z [] [.inl (a34, b35, [102]), .inl (a36, b37, (en P)), .inl (a39, b40, (en (Nd (jn 102) P Lf)))] [] H locs := h
          refine W.widen (k := 12 * (2 * z + 1)) (n := 500 * (2 * z + 1)) (by omega) (by omega) ?_
          exact W.aret hx hb hr (Or.inl ⟨_, rfl⟩) (Or.inr ⟨_, rfl⟩) (fun t8 ht hW => lq_post (P := fun t => ∃ T, wf T ∧ sz T ≤ (2 * z + 1) ∧ t = en T) h (List.mem_of_getElem? (i := 2) rfl) ⟨_, wf_1 (by decide) hwP, by rw [sz_1]; omega, rfl⟩ ht hW) h.lo d_L_grow_123
        · refine lq_ldc S h (ix := 69) (tx := "e") (t := [101]) (by decide) d_L_grow_97 (fun a41 b42 h => ?_)
          have h : LQ g 40 s _ Z [] [.inl (a41, b42, [101])] [(q33, [])] H locs := h
          refine lv_goto (tgt := 104) hx hb d_L_grow_99 (by decide) ?_
          refine lq_appS S hl.1 h (List.mem_of_getElem? (i := 0) rfl) (by first | omega | (simp only [List.length_append, List.length_cons, List.length_nil]; omega)) (As_k (by decide)) (by first | omega | (simp only [List.length_append, List.length_cons, List.length_nil]; omega)) (by omega) ⟨by show _ ≤ 12 + (d + 1); omega, by show _ ≤ 600 + 100 * (d + 1); omega, by show _ ≤ 12 * (2 * z + 1); omega, by show _ ≤ 500 * (2 * z + 1); omega⟩ (Nat.le_of_ble_eq_true rfl) d_L_grow_104 (fun H locs h => ?_)
          have h : LQ g 40 s _ Z [] [.inl (a41, b42, [101])] [(q33, ([] ++ ([101])))] H locs := h
          refine lv_iload hx hb d_L_grow_107 (lv_at hl 1 rfl) ?_
          refine lv_iload hx hb d_L_grow_109 (lv_at hl 0 rfl) ?_
          refine lv_iload_n hx hb d_L_grow_111 rfl (lv_at hl 5 rfl) ?_
          refine lv_iconst (v := 1) hx hb d_L_grow_112 (by decide) ?_
          refine lv_iadd hx hb d_L_grow_113 ?_
          rw [jn_1p]
          refine lq_callS (As := [.int v, .int w, .int (jn (dp + 1))]) (rest := [.ref q33]) S hl.1 h (ih v w) (fun x9 hx9 => absurd hx9 List.not_mem_nil) trivial (va_cwS 3 hts (g_sta (own := RL) (ix := 73) (y := yL_grow) (by decide +kernel) (by decide +kernel) (by decide +kernel) (g_con cw_L_grow)) rfl rfl rfl (by decide +kernel) ⟨by show (12 + d) + 1 ≤ 12 + (d + 1); omega, by show 8 + (6 + 11) + (600 + 100 * d) ≤ 600 + 100 * (d + 1); omega⟩) rfl rfl (Nat.le_of_ble_eq_true rfl) d_L_grow_114 ⟨by show _ ≤ 12 * (2 * z + 1); omega, by show _ ≤ 500 * (2 * z + 1); omega⟩ (fun a43 b44 t45 H locs ha43 h => ?_)
          have h : LQ g 40 s _ Z [] [.inl (a41, b42, [101]), .inl (a43, b44, t45)] [(q33, ([] ++ ([101])))] H locs := h
          obtain ⟨P, hwP, hsP, eP⟩ := ha43
          subst eP
          have h : LQ g 40 s _ Z [] [.inl (a41, b42, [101]), .inl (a43, b44, (en P))] [(q33, ([] ++ ([101])))] H locs := h
          have hlP : (en P).length ≤ z := hsP
          refine lq_appS S hl.1 h (List.mem_of_getElem? (i := 1) rfl) (by omega) (As_en hwP) (by first | omega | (simp only [List.length_append, List.length_cons, List.length_nil]; omega)) (by omega) ⟨by show _ ≤ 12 + (d + 1); omega, by show _ ≤ 600 + 100 * (d + 1); omega, by show _ ≤ 12 * (2 * z + 1); omega, by show _ ≤ 500 * (2 * z + 1); omega⟩ (Nat.le_of_ble_eq_true rfl) d_L_grow_117 (fun H locs h => ?_)
          have h : LQ g 40 s _ Z [] [.inl (a41, b42, [101]), .inl (a43, b44, (en P))] [(q33, (([] ++ ([101])) ++ (en P)))] H locs := h
          refine lq_toT S hl.1 h (by omega) ⟨by show _ ≤ 12 + (d + 1); omega, by show _ ≤ 600 + 100 * (d + 1); omega, by show _ ≤ 12 * (2 * z + 1); omega, by show _ ≤ 500 * (2 * z + 1); omega⟩ (Nat.le_of_ble_eq_true rfl) d_L_grow_120 (fun a46 b47 H locs h => ?_)
          have h : LQ g 40 s _ Z [] [.inl (a41, b42, [101]), .inl (a43, b44, (en P)), .inl (a46, b47, (([] ++ ([101])) ++ (en P)))] [] H locs := h
          rw [show (([] ++ ([101])) ++ (en P)) = (en (Nd (jn 101) P Lf)) from by rw [en_1]; rfl] at h
          have h : LQ g 40 s _ Z [] [.inl (a41, b42, [101]), .inl (a43, b44, (en P)), .inl (a46, b47, (en (Nd (jn 101) P Lf)))] [] H locs := h
          refine W.widen (k := 12 * (2 * z + 1)) (n := 500 * (2 * z + 1)) (by omega) (by omega) ?_
          exact W.aret hx hb hr (Or.inl ⟨_, rfl⟩) (Or.inr ⟨_, rfl⟩) (fun t8 ht hW => lq_post (P := fun t => ∃ T, wf T ∧ sz T ≤ (2 * z + 1) ∧ t = en T) h (List.mem_of_getElem? (i := 2) rfl) ⟨_, wf_1 (by decide) hwP, by rw [sz_1]; omega, rfl⟩ ht hW) h.lo d_L_grow_123
    · rw [show (4 : Int32) = jn 4 from rfl, jn_le (by omega) (by omega)] at h9
      have h9 : k < 4 := by omega
      refine lq_new S hl.1 h ⟨by show _ ≤ 12 + (d + 1); omega, by show _ ≤ 600 + 100 * (d + 1); omega, by show _ ≤ 12 * (2 * z + 1); omega, by show _ ≤ 500 * (2 * z + 1); omega⟩ (Nat.le_of_ble_eq_true rfl) d_L_grow_30 d_L_grow_33 d_L_grow_34 (fun q48 H locs h => ?_)
      have h : LQ g 40 s _ Z [] [] [(q48, [])] H locs := h
      refine lq_ldc S h (ix := 54) (tx := "") (t := []) (by decide) d_L_grow_37 (fun a49 b50 h => ?_)
      have h : LQ g 40 s _ Z [] [.inl (a49, b50, [])] [(q48, [])] H locs := h
      refine lq_appS S hl.1 h (List.mem_of_getElem? (i := 0) rfl) (by first | omega | (simp only [List.length_append, List.length_cons, List.length_nil]; omega)) As_nil (by first | omega | (simp only [List.length_append, List.length_cons, List.length_nil]; omega)) (by omega) ⟨by show _ ≤ 12 + (d + 1); omega, by show _ ≤ 600 + 100 * (d + 1); omega, by show _ ≤ 12 * (2 * z + 1); omega, by show _ ≤ 500 * (2 * z + 1); omega⟩ (Nat.le_of_ble_eq_true rfl) d_L_grow_39 (fun H locs h => ?_)
      have h : LQ g 40 s _ Z [] [.inl (a49, b50, [])] [(q48, ([] ++ ([])))] H locs := h
      refine lq_ldc S h (ix := 67) (tx := "abuv") (t := [97, 98, 117, 118]) (by decide) d_L_grow_42 (fun a51 b52 h => ?_)
      have h : LQ g 40 s _ Z [] [.inl (a49, b50, []), .inl (a51, b52, [97, 98, 117, 118])] [(q48, ([] ++ ([])))] H locs := h
      refine lv_iload_n hx hb d_L_grow_44 rfl (lv_at hl 0 rfl) ?_
      refine lq_chr S hl.1 h (List.mem_of_getElem? (i := 1) rfl) (by decide) (As_k (by decide)) (i := k) h9 ⟨by show _ ≤ 12 + (d + 1); omega, by show _ ≤ 600 + 100 * (d + 1); omega, by show _ ≤ 12 * (2 * z + 1); omega, by show _ ≤ 500 * (2 * z + 1); omega⟩ (Nat.le_of_ble_eq_true rfl) d_L_grow_45 ?_
      obtain ⟨j, ej, hj, hi0⟩ := abuv_k k h9
      rw [ej]
      refine lq_appC (k := j) S hl.1 h (by first | omega | (simp only [List.length_append, List.length_cons, List.length_nil]; omega)) (by omega) hj ⟨by show _ ≤ 12 + (d + 1); omega, by show _ ≤ 600 + 100 * (d + 1); omega, by show _ ≤ 12 * (2 * z + 1); omega, by show _ ≤ 500 * (2 * z + 1); omega⟩ (Nat.le_of_ble_eq_true rfl) d_L_grow_48 (fun H locs h => ?_)
      have h : LQ g 40 s _ Z [] [.inl (a49, b50, []), .inl (a51, b52, [97, 98, 117, 118])] [(q48, (([] ++ ([])) ++ [jn j]))] H locs := h
      refine lq_toT S hl.1 h (by omega) ⟨by show _ ≤ 12 + (d + 1); omega, by show _ ≤ 600 + 100 * (d + 1); omega, by show _ ≤ 12 * (2 * z + 1); omega, by show _ ≤ 500 * (2 * z + 1); omega⟩ (Nat.le_of_ble_eq_true rfl) d_L_grow_51 (fun a53 b54 H locs h => ?_)
      have h : LQ g 40 s _ Z [] [.inl (a49, b50, []), .inl (a51, b52, [97, 98, 117, 118]), .inl (a53, b54, (([] ++ ([])) ++ [jn j]))] [] H locs := h
      rw [show (([] ++ ([])) ++ [jn j]) = (en (Nd (jn j) Lf Lf)) from rfl] at h
      have h : LQ g 40 s _ Z [] [.inl (a49, b50, []), .inl (a51, b52, [97, 98, 117, 118]), .inl (a53, b54, (en (Nd (jn j) Lf Lf)))] [] H locs := h
      refine W.widen (k := 12 * (2 * z + 1)) (n := 500 * (2 * z + 1)) (by omega) (by omega) ?_
      exact W.aret hx hb hr (Or.inl ⟨_, rfl⟩) (Or.inr ⟨_, rfl⟩) (fun t8 ht hW => lq_post (P := fun t => ∃ T, wf T ∧ sz T ≤ (2 * z + 1) ∧ t = en T) h (List.mem_of_getElem? (i := 2) rfl) ⟨_, wf_0 hi0, by rw [sz_0]; omega, rfl⟩ ht hW) h.lo d_L_grow_54
def gz : Nat → Nat
  | 0 => 1
  | n + 1 => 2 * gz n + 1
theorem gz_pos : ∀ n, 1 ≤ gz n
  | 0 => Nat.le_refl 1
  | n + 1 => by rw [gz]; omega
theorem t_grow (l : Launch) (g : GQ) : ∀ d dp : Nat, d + dp = 4 → ∀ x y : Int32, MetS l g yL_grow cL_grow 6 ({ frames := 12 + d, cells := 12 * (gz d), slots := 500 * (gz d), locals := 600 + 100 * d } : Room) (12 * (gz d)) (500 * (gz d)) [.int x, .int y, .int (jn dp)] [] (True) (fun t => ∃ T, wf T ∧ sz T ≤ (gz d) ∧ t = en T) := by
  intro d
  induction d with
  | zero =>
    intro dp h x y
    obtain rfl : dp = 4 := by omega
    exact t_grow0 l g x y
  | succ d ih =>
    intro dp h x y
    exact t_growS l g (gz d) d dp (gz_pos d) (by rcases (show d = 0 ∨ d = 1 ∨ d = 2 ∨ d = 3 by omega) with rfl | rfl | rfl | rfl <;> decide) (by omega) (ih (dp + 1) (by omega)) x y
