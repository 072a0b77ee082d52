/-! the law: rules (laid by wip/p41/gen/law6.py) -/
theorem no_sg {T : Tm} {c : Int32} (h : wf T) (hc : ¬ sg c) : c ∉ en T := fun z => hc (en_ch T h c z)
theorem sub_allb : ∀ a, a < 64 → ∀ b, b < 64 → (∀ i, i < 6 → a.testBit i = true → b.testBit i = true) → jn a &&& (jn b ^^^ jz 1) = jn 0 := by decide +kernel
theorem sub_vb {l l' : List Int32} (h : ∀ c ∈ l, isV c → c ∈ l') : vb l &&& (vb l' ^^^ jz 1) = jn 0 := by
  obtain ⟨a, a1, a2, a3⟩ := vb_spec l
  obtain ⟨b, b1, b2, b3⟩ := vb_spec l'
  rw [a2, b2]
  exact sub_allb a a1 b b1 (fun i hi z => (b3 i hi).mpr (h _ ((a3 i hi).mp z) (k_isV hi)))
theorem rule_ok {A : AT} {L R : Tm} (hts : tsA A = [L, R]) (hr : (rsA A).length < 12) (hl : LawR L R) : F_rule A (jn 0) (jn 1) = (jn (rsA A).length, setK A (tsA A, rsA A ++ [(L, R)], A.1.2.2)) := by
  obtain ⟨wL, wV, sL, sV, nv, vars⟩ := hl
  have e0 : lk (tsA A) (jn 0) = some L := by rw [hts]; rfl
  have e1 : lk (tsA A) (jn 1) = some R := by rw [hts]; rfl
  unfold F_rule
  rw [e0, e1]
  simp only
  rw [if_neg (by
    rintro (z | z)
    · exact nv z
    · exact z (sub_vb vars)), if_neg (by omega)]
theorem drop_ok {A : AT} {ts : List Tm} {t : Tm} (h : tsA A = ts ++ [t]) : F_drop A = (jn ts.length, setK A (ts, A.1.2)) := by
  unfold F_drop
  rw [h, if_neg (by rw [List.length_append, List.length_singleton]; omega), List.length_append, List.length_singleton, Nat.add_sub_cancel, List.dropLast_concat]
set_option maxRecDepth 100000 in
theorem cw_L_at : Jvm.Cond.code yL_at cL_at 2 (some .int) ∈ TW := TW_mem (List.mem_append_right _ (List.mem_append_right _ (List.mem_append_right _ (List.mem_append_right _ (List.mem_append_left _ (List.mem_of_getElem? (l := tables_1_4) (i := 49) rfl)))))) rfl
set_option maxRecDepth 100000 in
theorem cw_L_comes : Jvm.Cond.code yL_comes cL_comes 5 (some .boolean) ∈ TW := TW_mem (List.mem_append_right _ (List.mem_append_right _ (List.mem_append_right _ (List.mem_append_right _ (List.mem_append_right _ (List.mem_append_left _ (List.mem_of_getElem? (l := tables_1_5) (i := 181) rfl))))))) rfl
set_option maxRecDepth 100000 in
theorem cw_L_law : Jvm.Cond.code yL_law cL_law 6 (some (.object "java/lang/String")) ∈ TW := TW_mem (List.mem_append_right _ (List.mem_append_right _ (List.mem_append_right _ (List.mem_append_right _ (List.mem_append_left _ (List.mem_of_getElem? (l := tables_1_4) (i := 59) rfl)))))) rfl
theorem d_L_rules_0 : decode cL_rules 0 = .ok (.ldc 54, 2) := by decide +kernel
theorem d_L_rules_2 : decode cL_rules 2 = .ok (.astore 4, 2) := by decide +kernel
theorem d_L_rules_4 : decode cL_rules 4 = .ok (.iconst 0, 1) := by decide +kernel
theorem d_L_rules_5 : decode cL_rules 5 = .ok (.istore 5, 2) := by decide +kernel
theorem d_L_rules_7 : decode cL_rules 7 = .ok (.iload 5, 2) := by decide +kernel
theorem d_L_rules_9 : decode cL_rules 9 = .ok (.iload_n 3, 1) := by decide +kernel
theorem d_L_rules_10 : decode cL_rules 10 = .ok (.if_icmp .ge (175), 3) := by decide +kernel
theorem d_L_rules_13 : decode cL_rules 13 = .ok (.aload_n 1, 1) := by decide +kernel
theorem d_L_rules_14 : decode cL_rules 14 = .ok (.iload_n 2, 1) := by decide +kernel
theorem d_L_rules_15 : decode cL_rules 15 = .ok (.iload 5, 2) := by decide +kernel
theorem d_L_rules_17 : decode cL_rules 17 = .ok (.iadd, 1) := by decide +kernel
theorem d_L_rules_18 : decode cL_rules 18 = .ok (.invokestatic 137, 3) := by decide +kernel
theorem d_L_rules_21 : decode cL_rules 21 = .ok (.istore 6, 2) := by decide +kernel
theorem d_L_rules_23 : decode cL_rules 23 = .ok (.iload 6, 2) := by decide +kernel
theorem d_L_rules_25 : decode cL_rules 25 = .ok (.aload_n 1, 1) := by decide +kernel
theorem d_L_rules_26 : decode cL_rules 26 = .ok (.iload_n 2, 1) := by decide +kernel
theorem d_L_rules_27 : decode cL_rules 27 = .ok (.iload 5, 2) := by decide +kernel
theorem d_L_rules_29 : decode cL_rules 29 = .ok (.iadd, 1) := by decide +kernel
theorem d_L_rules_30 : decode cL_rules 30 = .ok (.iconst 1, 1) := by decide +kernel
theorem d_L_rules_31 : decode cL_rules 31 = .ok (.iadd, 1) := by decide +kernel
theorem d_L_rules_32 : decode cL_rules 32 = .ok (.invokestatic 137, 3) := by decide +kernel
theorem d_L_rules_35 : decode cL_rules 35 = .ok (.invokestatic 141, 3) := by decide +kernel
theorem d_L_rules_38 : decode cL_rules 38 = .ok (.astore 7, 2) := by decide +kernel
theorem d_L_rules_40 : decode cL_rules 40 = .ok (.aload 7, 2) := by decide +kernel
theorem d_L_rules_42 : decode cL_rules 42 = .ok (.iconst 0, 1) := by decide +kernel
theorem d_L_rules_43 : decode cL_rules 43 = .ok (.aload 7, 2) := by decide +kernel
theorem d_L_rules_45 : decode cL_rules 45 = .ok (.bipush (62), 2) := by decide +kernel
theorem d_L_rules_47 : decode cL_rules 47 = .ok (.invokevirtual 113, 3) := by decide +kernel
theorem d_L_rules_50 : decode cL_rules 50 = .ok (.invokevirtual 19, 3) := by decide +kernel
theorem d_L_rules_53 : decode cL_rules 53 = .ok (.astore 8, 2) := by decide +kernel
theorem d_L_rules_55 : decode cL_rules 55 = .ok (.aload 7, 2) := by decide +kernel
theorem d_L_rules_57 : decode cL_rules 57 = .ok (.aload 7, 2) := by decide +kernel
theorem d_L_rules_59 : decode cL_rules 59 = .ok (.bipush (62), 2) := by decide +kernel
theorem d_L_rules_61 : decode cL_rules 61 = .ok (.invokevirtual 113, 3) := by decide +kernel
theorem d_L_rules_64 : decode cL_rules 64 = .ok (.iconst 1, 1) := by decide +kernel
theorem d_L_rules_65 : decode cL_rules 65 = .ok (.iadd, 1) := by decide +kernel
theorem d_L_rules_66 : decode cL_rules 66 = .ok (.invokevirtual 121, 3) := by decide +kernel
theorem d_L_rules_69 : decode cL_rules 69 = .ok (.astore 9, 2) := by decide +kernel
theorem d_L_rules_71 : decode cL_rules 71 = .ok (.aload 8, 2) := by decide +kernel
theorem d_L_rules_73 : decode cL_rules 73 = .ok (.invokestatic 50, 3) := by decide +kernel
theorem d_L_rules_76 : decode cL_rules 76 = .ok (.invokevirtual 27, 3) := by decide +kernel
theorem d_L_rules_79 : decode cL_rules 79 = .ok (.sipush (160), 3) := by decide +kernel
theorem d_L_rules_82 : decode cL_rules 82 = .ok (.if_icmp .gt (49), 3) := by decide +kernel
theorem d_L_rules_85 : decode cL_rules 85 = .ok (.aload_n 0, 1) := by decide +kernel
theorem d_L_rules_86 : decode cL_rules 86 = .ok (.aload 8, 2) := by decide +kernel
theorem d_L_rules_88 : decode cL_rules 88 = .ok (.iconst 0, 1) := by decide +kernel
theorem d_L_rules_89 : decode cL_rules 89 = .ok (.invokestatic 144, 3) := by decide +kernel
theorem d_L_rules_92 : decode cL_rules 92 = .ok (.ifCond .eq (39), 3) := by decide +kernel
theorem d_L_rules_95 : decode cL_rules 95 = .ok (.aload_n 0, 1) := by decide +kernel
theorem d_L_rules_96 : decode cL_rules 96 = .ok (.aload 9, 2) := by decide +kernel
theorem d_L_rules_98 : decode cL_rules 98 = .ok (.iconst 1, 1) := by decide +kernel
theorem d_L_rules_99 : decode cL_rules 99 = .ok (.invokestatic 144, 3) := by decide +kernel
theorem d_L_rules_102 : decode cL_rules 102 = .ok (.ifCond .eq (29), 3) := by decide +kernel
theorem d_L_rules_105 : decode cL_rules 105 = .ok (.aload_n 0, 1) := by decide +kernel
theorem d_L_rules_106 : decode cL_rules 106 = .ok (.iconst 0, 1) := by decide +kernel
theorem d_L_rules_107 : decode cL_rules 107 = .ok (.iconst 1, 1) := by decide +kernel
theorem d_L_rules_108 : decode cL_rules 108 = .ok (.invokevirtual 148, 3) := by decide +kernel
theorem d_L_rules_111 : decode cL_rules 111 = .ok (.iload 5, 2) := by decide +kernel
theorem d_L_rules_113 : decode cL_rules 113 = .ok (.if_icmp .ne (18), 3) := by decide +kernel
theorem d_L_rules_116 : decode cL_rules 116 = .ok (.aload_n 0, 1) := by decide +kernel
theorem d_L_rules_117 : decode cL_rules 117 = .ok (.invokevirtual 151, 3) := by decide +kernel
theorem d_L_rules_120 : decode cL_rules 120 = .ok (.iconst 1, 1) := by decide +kernel
theorem d_L_rules_121 : decode cL_rules 121 = .ok (.if_icmp .ne (10), 3) := by decide +kernel
theorem d_L_rules_124 : decode cL_rules 124 = .ok (.aload_n 0, 1) := by decide +kernel
theorem d_L_rules_125 : decode cL_rules 125 = .ok (.invokevirtual 151, 3) := by decide +kernel
theorem d_L_rules_128 : decode cL_rules 128 = .ok (.ifCond .eq (24), 3) := by decide +kernel
theorem d_L_rules_152 : decode cL_rules 152 = .ok (.new 35, 3) := by decide +kernel
theorem d_L_rules_155 : decode cL_rules 155 = .ok (.dup, 1) := by decide +kernel
theorem d_L_rules_156 : decode cL_rules 156 = .ok (.invokespecial 37, 3) := by decide +kernel
theorem d_L_rules_159 : decode cL_rules 159 = .ok (.aload 4, 2) := by decide +kernel
theorem d_L_rules_161 : decode cL_rules 161 = .ok (.invokevirtual 44, 3) := by decide +kernel
theorem d_L_rules_164 : decode cL_rules 164 = .ok (.aload 7, 2) := by decide +kernel
theorem d_L_rules_166 : decode cL_rules 166 = .ok (.invokevirtual 44, 3) := by decide +kernel
theorem d_L_rules_169 : decode cL_rules 169 = .ok (.ldc 156, 2) := by decide +kernel
theorem d_L_rules_171 : decode cL_rules 171 = .ok (.invokevirtual 44, 3) := by decide +kernel
theorem d_L_rules_174 : decode cL_rules 174 = .ok (.invokevirtual 58, 3) := by decide +kernel
theorem d_L_rules_177 : decode cL_rules 177 = .ok (.astore 4, 2) := by decide +kernel
theorem d_L_rules_179 : decode cL_rules 179 = .ok (.iinc 5 (1), 3) := by decide +kernel
theorem d_L_rules_182 : decode cL_rules 182 = .ok (.goto (-175), 3) := by decide +kernel
theorem d_L_rules_185 : decode cL_rules 185 = .ok (.aload 4, 2) := by decide +kernel
theorem d_L_rules_187 : decode cL_rules 187 = .ok (.areturn, 1) := by decide +kernel
set_option maxHeartbeats 4000000 in
set_option maxRecDepth 100000 in
theorem t_rules (l : Launch) (g : GQ) (hg : g.2.2.2.2.2.1 ≤ 260) (ad : Nat → Nat) (A0 : AT) (M : PM) (k0 many : Nat) : MetX l g yL_rules cL_rules 10 ({ frames := 70, cells := 12000, slots := 1800000, locals := 6000 } : Room) (12000) (1800000) [.ref (ad 0), .ref g.2.2.2.2.1, .int (jn k0), .int (jn many)] [] (WL g ad M) (k0 ≤ 100 ∧ many ≤ 4 ∧ RX A0 M ∧ AOk A0 ∧ tsA A0 = [] ∧ rsA A0 = []) (fun tx W1 => As tx ∧ jn 33 ∉ tx ∧ tx.length ≤ 70 * many ∧ many ≤ tx.length ∧ ∃ (A1 : AT) (M1 : PM), W1 = WL g ad M1 ∧ RX A1 M1 ∧ AOk A1 ∧ Hi M M1 ∧ tsA A1 = [] ∧ (rsA A1).length = many ∧ ssA A1 = ssA A0) := by
  intro sz0 Z
  refine Met.ofW (cc := cL_rules) (maxL := 10) (ret := (some (.object "java/lang/String"))) (by decide) rfl ?_
  intro p e s m args below meth c s₁ B hml hv
  obtain ⟨rfl, hv⟩ := hv
  have hX := hv.1.2.2.2.2
  have hx := B.exec
  have hb := B.bytes
  have hr := B.returns
  have hts0 := atoms_spec (ws := wD yL_rules cL_rules 10 (some (.object "java/lang/String"))) B.pre
  have hts : ∀ w ∈ TW, w.before _ s = true := fun w h => hts0 w (List.mem_cons_of_mem _ h)
  have hown : s.vm.findClass RL = some m.cls := findClass_of_methodNamed B.named
  have hlocks := B.notSynchronized
  have hsz : s.heap.size = sz0 := hv.1.1
  subst hsz
  have h := lq_entry (U := 400) hv
  have S : CallFix p m c cL_rules 10 s _ TW RL := ⟨hx, hb, hml, hown, hts⟩
  have hl := lv_entry ([.ref (ad 0), .ref g.2.2.2.2.1, .int (jn k0), .int (jn many)]) (n := 10) (Nat.le_of_ble_eq_true rfl)
  rw [lg_entry_eq]
  generalize (lg_sl ([.ref (ad 0), .ref g.2.2.2.2.1, .int (jn k0), .int (jn many)]) ++ List.replicate (10 - (lg_sl ([.ref (ad 0), .ref g.2.2.2.2.1, .int (jn k0), .int (jn many)])).length) Slot.unset).toArray = ls at hl ⊢
  have hl : lv_has ls 10 [(0, .ref (ad 0)), (1, .ref g.2.2.2.2.1), (2, .int (jn k0)), (3, .int (jn many))] := hl
  obtain ⟨hk0, hmany, hRX, hA, hts0, hrs0⟩ := hX
  have h : LQ g 400 s _ Z (WL g ad M) [] [] s.heap [] := h
  refine lq_ldc S h (ix := 54) (tx := "") (t := []) (by decide) d_L_rules_0 (fun a1 b2 h => ?_)
  have h : LQ g 400 s _ Z (WL g ad M) [.inl (a1, b2, [])] [] s.heap [] := h
  refine lv_astore (lv' := [(4, .ref a1), (0, .ref (ad 0)), (1, .ref g.2.2.2.2.1), (2, .int (jn k0)), (3, .int (jn many))]) hx hb d_L_rules_2 hl (by decide) rfl (fun ls hl => ?_)
  refine lv_iconst (v := 0) hx hb d_L_rules_4 (by decide) ?_
  refine lv_istore (lv' := [(5, .int 0), (4, .ref a1), (0, .ref (ad 0)), (1, .ref g.2.2.2.2.1), (2, .int (jn k0)), (3, .int (jn many))]) hx hb d_L_rules_5 hl (by decide) rfl (fun ls hl => ?_)
  have hl : lv_has ls 10 [(4, .ref a1), (5, .int 0), (0, .ref (ad 0)), (1, .ref g.2.2.2.2.1), (2, .int (jn k0)), (3, .int (jn many))] := lv_sub hl [1, 0, 2, 3, 4, 5] rfl
  refine w_tail (ι := (Heap × List Loc × Array Slot) × Nat × Nat × Nat × Nat) (Hf := fun i => i.1.1) (Jf := fun i => i.1.2.1) (kf := fun i => 3000 * i.2.2.1) (nf := fun i => 450000 * i.2.2.1) (gf := fun i => F0 m 7 i.1.2.2 []) (PN := fun i => ∃ (A2 : AT) (M2 : PM) (X : List Int32), i.2.1 + i.2.2.1 = many ∧ RX A2 M2 ∧ AOk A2 ∧ Hi M M2 ∧ tsA A2 = [] ∧ (rsA A2).length = i.2.2.1 ∧ ssA A2 = ssA A0 ∧ As X ∧ jn 33 ∉ X ∧ X.length ≤ 70 * i.2.2.1 ∧ i.2.2.1 ≤ X.length ∧ LQ g 400 s (va_A (WL g ad M) s.heap.size) Z (WL g ad M2) [.inl (i.2.2.2.1, i.2.2.2.2, X)] [] i.1.1 i.1.2.1 ∧ lv_has i.1.2.2 10 [(4, .ref i.2.2.2.1), (5, .int (jn i.2.2.1)), (0, .ref (ad 0)), (1, .ref g.2.2.2.2.1), (2, .int (jn k0)), (3, .int (jn many))]) (fun tail => ?_) ?_
  · exact W.widen (by omega) (by omega) (tail ((s.heap, [], ls), many, 0, a1, b2) ⟨A0, M, [], rfl, hRX, hA, Hi.rf, hts0, by rw [hrs0]; rfl, rfl, As_nil, List.not_mem_nil, Nat.zero_le _, Nat.le_refl _, h, hl⟩)
  · rintro ⟨⟨H, locs, ls⟩, n2, i, ax, bx⟩ hi
    show W p l e _ s m _ below meth c H locs (3000 * i) (450000 * i) _ (F0 m 7 ls [])
    clear h hl
    induction n2 generalizing H locs ls i ax bx with
    | zero =>
      obtain ⟨A2, M2, X, hni, r2, k2, hi2, ets, ers, ess, hX1, hX2, hX3, hX4, h, hl⟩ := hi
      have hni : 0 + i = many := hni
      have ers : (rsA A2).length = i := ers
      have hX3 : X.length ≤ 70 * i := hX3
      have hX4 : i ≤ X.length := hX4
      have hl : lv_has ls 10 [(4, .ref ax), (5, .int (jn i)), (0, .ref (ad 0)), (1, .ref g.2.2.2.2.1), (2, .int (jn k0)), (3, .int (jn many))] := hl
      have h : LQ g 400 s _ Z (WL g ad M2) [.inl (ax, bx, X)] [] H locs := h
      refine lv_iload hx hb d_L_rules_7 (lv_at hl 1 rfl) ?_
      refine lv_iload_n hx hb d_L_rules_9 rfl (lv_at hl 5 rfl) ?_
      refine lv_icmp_ge (tgt := 185) hx hb d_L_rules_10 (by decide) (fun _ => ?_) (fun h9 => absurd (by rw [jn_le (by omega) (by omega)]; omega) h9)
      refine lv_aload hx hb d_L_rules_185 (lv_at hl 0 rfl) ?_
      refine W.widen (k := 12000) (n := 1800000) (by omega) (by omega) ?_
      exact W.aret hx hb hr (Or.inl ⟨_, rfl⟩) (Or.inr ⟨_, rfl⟩) (fun t8 ht hW => lq_postX (post := fun tx W1 => As tx ∧ jn 33 ∉ tx ∧ tx.length ≤ 70 * many ∧ many ≤ tx.length ∧ ∃ (A1 : AT) (M1 : PM), W1 = WL g ad M1 ∧ RX A1 M1 ∧ AOk A1 ∧ Hi M M1 ∧ tsA A1 = [] ∧ (rsA A1).length = many ∧ ssA A1 = ssA A0) h (List.mem_of_getElem? (i := 0) rfl) ⟨hX1, hX2, by omega, by omega, A2, M2, rfl, r2, k2, hi2, ets, by omega, ess⟩ ht hW) h.lo d_L_rules_187
    | succ n2 ih =>
      obtain ⟨A2, M2, X, hni, r2, k2, hi2, ets, ers, ess, hX1, hX2, hX3, hX4, h, hl⟩ := hi
      have hni : n2 + 1 + i = many := hni
      have ers : (rsA A2).length = i := ers
      have hX3 : X.length ≤ 70 * i := hX3
      have hX4 : i ≤ X.length := hX4
      have hl : lv_has ls 10 [(4, .ref ax), (5, .int (jn i)), (0, .ref (ad 0)), (1, .ref g.2.2.2.2.1), (2, .int (jn k0)), (3, .int (jn many))] := hl
      have h : LQ g 400 s _ Z (WL g ad M2) [.inl (ax, bx, X)] [] H locs := h
      refine lv_iload hx hb d_L_rules_7 (lv_at hl 1 rfl) ?_
      refine lv_iload_n hx hb d_L_rules_9 rfl (lv_at hl 5 rfl) ?_
      refine lv_icmp_ge (tgt := 185) hx hb d_L_rules_10 (by decide) (fun h9 => absurd h9 (by rw [jn_le (by omega) (by omega)]; omega)) (fun _ => ?_)
      refine lv_aload_n hx hb d_L_rules_13 rfl (lv_at hl 3 rfl) ?_
      refine lv_iload_n hx hb d_L_rules_14 rfl (lv_at hl 4 rfl) ?_
      refine lv_iload hx hb d_L_rules_15 (lv_at hl 1 rfl) ?_
      refine lv_iadd hx hb d_L_rules_17 ?_
      rw [jn_add]
      refine lq_callI (As := [.ref g.2.2.2.2.1, .int (jn (k0 + i))]) (rest := []) S hl.1 h (t_at l g hg (k0 + i)) (fun x9 hx9 => absurd hx9 List.not_mem_nil) (by omega) (va_cwS 2 hts (g_sta (own := RL) (ix := 137) (y := yL_at) (by decide +kernel) (by decide +kernel) (by decide +kernel) (g_con cw_L_at)) rfl rfl rfl (by decide +kernel) ⟨by show 1 + 1 ≤ 70; omega, by show 8 + (2 + 11) + 60 ≤ 6000; omega⟩) rfl rfl (Nat.le_of_ble_eq_true rfl) d_L_rules_18 ⟨by show _ ≤ 12000; omega, by show _ ≤ 1800000; omega⟩ (fun xi1 hxi1 => ?_)
      refine lv_istore (lv' := [(6, .int xi1), (4, .ref ax), (5, .int (jn i)), (0, .ref (ad 0)), (1, .ref g.2.2.2.2.1), (2, .int (jn k0)), (3, .int (jn many))]) hx hb d_L_rules_21 hl (by decide) rfl (fun ls hl => ?_)
      refine lv_iload hx hb d_L_rules_23 (lv_at hl 0 rfl) ?_
      refine lv_aload_n hx hb d_L_rules_25 rfl (lv_at hl 4 rfl) ?_
      refine lv_iload_n hx hb d_L_rules_26 rfl (lv_at hl 5 rfl) ?_
      refine lv_iload hx hb d_L_rules_27 (lv_at hl 2 rfl) ?_
      refine lv_iadd hx hb d_L_rules_29 ?_
      rw [jn_add]
      refine lv_iconst (v := 1) hx hb d_L_rules_30 (by decide) ?_
      refine lv_iadd hx hb d_L_rules_31 ?_
      rw [jn_1p]
      refine lq_callI (As := [.ref g.2.2.2.2.1, .int (jn (k0 + i + 1))]) (rest := [.int xi1]) S hl.1 h (t_at l g hg (k0 + i + 1)) (fun x9 hx9 => absurd hx9 List.not_mem_nil) (by omega) (va_cwS 2 hts (g_sta (own := RL) (ix := 137) (y := yL_at) (by decide +kernel) (by decide +kernel) (by decide +kernel) (g_con cw_L_at)) rfl rfl rfl (by decide +kernel) ⟨by show 1 + 1 ≤ 70; omega, by show 8 + (2 + 11) + 60 ≤ 6000; omega⟩) rfl rfl (Nat.le_of_ble_eq_true rfl) d_L_rules_32 ⟨by show _ ≤ 12000; omega, by show _ ≤ 1800000; omega⟩ (fun xi2 hxi2 => ?_)
      refine lq_callS (As := [.int xi1, .int xi2]) (rest := []) S hl.1 h (t_law l g xi1 xi2) (fun x9 hx9 => absurd hx9 List.not_mem_nil) trivial (va_cwS 2 hts (g_sta (own := RL) (ix := 141) (y := yL_law) (by decide +kernel) (by decide +kernel) (by decide +kernel) (g_con cw_L_law)) rfl rfl rfl (by decide +kernel) ⟨by show 20 + 1 ≤ 70; omega, by show 8 + (6 + 11) + 1200 ≤ 6000; omega⟩) rfl rfl (Nat.le_of_ble_eq_true rfl) d_L_rules_35 ⟨by show _ ≤ 12000; omega, by show _ ≤ 1800000; omega⟩ (fun a3 b4 t5 H locs ha3 h => ?_)
      have h : LQ g 400 s _ Z (WL g ad M2) [.inl (ax, bx, X), .inl (a3, b4, t5)] [] H locs := h
      obtain ⟨L, V, hlaw, et⟩ := ha3
      obtain ⟨wL, wV, sL, sV, nvL, vars⟩ := hlaw
      have lL : (en L).length ≤ 32 := sL
      have lV : (en V).length ≤ 31 := sV
      have pL : 0 < (en L).length := sz_pos L wL
      have pV : 0 < (en V).length := sz_pos V wV
      have lt : t5.length = (en L).length + (en V).length + 1 := by rw [et, List.length_append, List.length_cons]; omega
      have aT : As t5 := by rw [et]; exact As_app (As_en wL) (As_app (As_one (k := 62) (by decide)) (As_en wV))
      have fT : fiX t5 (jn 62) t5.length 0 = jn (en L).length := fi_first et (no_sg wL (by decide))
      refine lv_astore (lv' := [(7, .ref a3), (6, .int xi1), (4, .ref ax), (5, .int (jn i)), (0, .ref (ad 0)), (1, .ref g.2.2.2.2.1), (2, .int (jn k0)), (3, .int (jn many))]) hx hb d_L_rules_38 hl (by decide) rfl (fun ls hl => ?_)
      refine lv_aload hx hb d_L_rules_40 (lv_at hl 0 rfl) ?_
      refine lv_iconst (v := 0) hx hb d_L_rules_42 (by decide) ?_
      refine lv_aload hx hb d_L_rules_43 (lv_at hl 0 rfl) ?_
      refine lv_bipush (v := (62)) hx hb d_L_rules_45 (by decide) ?_
      refine lq_idx S hl.1 h (List.mem_of_getElem? (i := 1) rfl) (by omega) (ch := 62) (by decide) ⟨by show _ ≤ 70; omega, by show _ ≤ 6000; omega, by show _ ≤ 12000; omega, by show _ ≤ 1800000; omega⟩ (Nat.le_of_ble_eq_true rfl) d_L_rules_47 ?_
      rw [fT]
      refine lq_sub2 S hl.1 h (List.mem_of_getElem? (i := 1) rfl) (by omega) aT (i := 0) (j := (en L).length) pL (by omega) (Or.inr (by omega)) ⟨by show _ ≤ 70; omega, by show _ ≤ 6000; omega, by show _ ≤ 12000; omega, by show _ ≤ 1800000; omega⟩ (Nat.le_of_ble_eq_true rfl) d_L_rules_50 (fun a6 b7 H locs h => ?_)
      have h : LQ g 400 s _ Z (WL g ad M2) [.inl (ax, bx, X), .inl (a3, b4, t5), .inl (a6, b7, (sbt t5 0 ((en L).length)))] [] H locs := h
      rw [show (sbt t5 0 ((en L).length)) = (en L) from sbt_drop (s := jn 62 :: en V) (by rw [et]; rfl) (by omega)] at h
      have h : LQ g 400 s _ Z (WL g ad M2) [.inl (ax, bx, X), .inl (a3, b4, t5), .inl (a6, b7, (en L))] [] H locs := h
      refine lv_astore (lv' := [(8, .ref a6), (7, .ref a3), (6, .int xi1), (4, .ref ax), (5, .int (jn i)), (0, .ref (ad 0)), (1, .ref g.2.2.2.2.1), (2, .int (jn k0)), (3, .int (jn many))]) hx hb d_L_rules_53 hl (by decide) rfl (fun ls hl => ?_)
      refine lv_aload hx hb d_L_rules_55 (lv_at hl 1 rfl) ?_
      refine lv_aload hx hb d_L_rules_57 (lv_at hl 1 rfl) ?_
      refine lv_bipush (v := (62)) hx hb d_L_rules_59 (by decide) ?_
      refine lq_idx S hl.1 h (List.mem_of_getElem? (i := 1) rfl) (by omega) (ch := 62) (by decide) ⟨by show _ ≤ 70; omega, by show _ ≤ 6000; omega, by show _ ≤ 12000; omega, by show _ ≤ 1800000; omega⟩ (Nat.le_of_ble_eq_true rfl) d_L_rules_61 ?_
      rw [fT]
      refine lv_iconst (v := 1) hx hb d_L_rules_64 (by decide) ?_
      refine lv_iadd hx hb d_L_rules_65 ?_
      rw [jn_1p]
      refine lq_sub1 S hl.1 h (List.mem_of_getElem? (i := 1) rfl) (by omega) aT (i := ((en L).length + 1)) (by omega) (by omega) ⟨by show _ ≤ 70; omega, by show _ ≤ 6000; omega, by show _ ≤ 12000; omega, by show _ ≤ 1800000; omega⟩ (Nat.le_of_ble_eq_true rfl) d_L_rules_66 (fun a8 b9 H locs h => ?_)
      have h : LQ g 400 s _ Z (WL g ad M2) [.inl (ax, bx, X), .inl (a3, b4, t5), .inl (a6, b7, (en L)), .inl (a8, b9, (sbt t5 ((en L).length + 1) t5.length))] [] H locs := h
      rw [show (sbt t5 ((en L).length + 1) t5.length) = (en V) from sbt_drop (s := []) (by rw [et, show (en L).length + 1 = (en L).length + [jn 62].length from rfl, ← List.drop_drop, List.drop_left]; exact (List.append_nil _).symm) (by omega)] at h
      have h : LQ g 400 s _ Z (WL g ad M2) [.inl (ax, bx, X), .inl (a3, b4, t5), .inl (a6, b7, (en L)), .inl (a8, b9, (en V))] [] H locs := h
      refine lv_astore (lv' := [(9, .ref a8), (8, .ref a6), (7, .ref a3), (6, .int xi1), (4, .ref ax), (5, .int (jn i)), (0, .ref (ad 0)), (1, .ref g.2.2.2.2.1), (2, .int (jn k0)), (3, .int (jn many))]) hx hb d_L_rules_69 hl (by decide) rfl (fun ls hl => ?_)
      refine lv_aload hx hb d_L_rules_71 (lv_at hl 1 rfl) ?_
      refine lq_callS (As := [.ref a6]) (rest := []) S hl.1 h (t_text l g L wL (sz L) rfl (by omega) a6 b7) (fun x9 hx9 => by rw [List.mem_singleton] at hx9; rw [hx9]; exact List.mem_of_getElem? (i := 2) rfl) trivial (va_cwS 1 hts (g_sta (own := RL) (ix := 50) (y := yL_text) (by decide +kernel) (by decide +kernel) (by decide +kernel) (g_con cw_L_text)) rfl rfl rfl (by decide +kernel) ⟨by show (12 + sz L) + 1 ≤ 70; omega, by show 8 + (3 + 11) + (600 + 100 * sz L) ≤ 6000; omega⟩) rfl rfl (Nat.le_of_ble_eq_true rfl) d_L_rules_73 ⟨by show _ ≤ 12000; omega, by show _ ≤ 1800000; omega⟩ (fun a10 b11 t9 H locs ha10 h => ?_)
      have h : LQ g 400 s _ Z (WL g ad M2) [.inl (ax, bx, X), .inl (a3, b4, t5), .inl (a6, b7, (en L)), .inl (a8, b9, (en V)), .inl (a10, b11, t9)] [] H locs := h
      rw [show t9 = (txt L) from ha10] at h
      have h : LQ g 400 s _ Z (WL g ad M2) [.inl (ax, bx, X), .inl (a3, b4, t5), .inl (a6, b7, (en L)), .inl (a8, b9, (en V)), .inl (a10, b11, (txt L))] [] H locs := h
      have ltx : (txt L).length ≤ 128 := by have := (txt_len L wL).1; omega
      refine lq_len S hl.1 h (List.mem_of_getElem? (i := 4) rfl) (by omega) ⟨by show _ ≤ 70; omega, by show _ ≤ 6000; omega, by show _ ≤ 12000; omega, by show _ ≤ 1800000; omega⟩ (Nat.le_of_ble_eq_true rfl) d_L_rules_76 ?_
      refine lv_sipush (v := (160)) hx hb d_L_rules_79 (by decide) ?_
      refine lv_icmp_gt (tgt := 131) hx hb d_L_rules_82 (by decide) (fun h9 => absurd h9 (by rw [show (160 : Int32) = jn 160 from rfl, jn_lt (by omega) (by omega)]; omega)) (fun _ => ?_)
      refine lv_aload_n hx hb d_L_rules_85 rfl (lv_at hl 6 rfl) ?_
      refine lv_aload hx hb d_L_rules_86 (lv_at hl 1 rfl) ?_
      refine lv_iconst (v := 0) hx hb d_L_rules_88 (by decide) ?_
      refine lq_callW (As := [.ref (ad 0), .ref a6, .int 0]) (rest := []) S hl.1 h (t_comes l g ad A2 M2 L wL (sz L) 0 rfl a6 b7) (fun x9 hx9 => by rw [List.mem_singleton] at hx9; rw [hx9]; exact List.mem_of_getElem? (i := 2) rfl) ⟨by omega, r2, k2, by rw [ets]; rfl, by omega⟩ (va_cwS 3 hts (g_sta (own := RL) (ix := 144) (y := yL_comes) (by decide +kernel) (by decide +kernel) (by decide +kernel) (g_con cw_L_comes)) rfl rfl rfl (by decide +kernel) ⟨by show 60 + 1 ≤ 70; omega, by show 8 + (5 + 11) + 5000 ≤ 6000; omega⟩) rfl rfl (Nat.le_of_ble_eq_true rfl) d_L_rules_89 ⟨by show _ ≤ 12000; omega, by show _ ≤ 1800000; omega⟩ (fun r9 W9 H locs hp9 h => ?_)
      obtain ⟨rfl, A3, M3, rfl, r3, k3, hi3, et3, er3⟩ := hp9
      have h : LQ g 400 s _ Z (WL g ad M3) [.inl (ax, bx, X), .inl (a3, b4, t5), .inl (a6, b7, (en L)), .inl (a8, b9, (en V)), .inl (a10, b11, (txt L))] [] H locs := h
      refine lv_if_eq (tgt := 131) hx hb d_L_rules_92 (by decide) (fun h9 => absurd h9 (by decide)) (fun _ => ?_)
      rw [ets, List.nil_append] at et3
      refine lv_aload_n hx hb d_L_rules_95 rfl (lv_at hl 6 rfl) ?_
      refine lv_aload hx hb d_L_rules_96 (lv_at hl 0 rfl) ?_
      refine lv_iconst (v := 1) hx hb d_L_rules_98 (by decide) ?_
      refine lq_callW (As := [.ref (ad 0), .ref a8, .int 1]) (rest := []) S hl.1 h (t_comes l g ad A3 M3 V wV (sz V) 1 rfl a8 b9) (fun x9 hx9 => by rw [List.mem_singleton] at hx9; rw [hx9]; exact List.mem_of_getElem? (i := 3) rfl) ⟨by omega, r3, k3, by rw [et3]; rfl, by omega⟩ (va_cwS 3 hts (g_sta (own := RL) (ix := 144) (y := yL_comes) (by decide +kernel) (by decide +kernel) (by decide +kernel) (g_con cw_L_comes)) rfl rfl rfl (by decide +kernel) ⟨by show 60 + 1 ≤ 70; omega, by show 8 + (5 + 11) + 5000 ≤ 6000; omega⟩) rfl rfl (Nat.le_of_ble_eq_true rfl) d_L_rules_99 ⟨by show _ ≤ 12000; omega, by show _ ≤ 1800000; omega⟩ (fun r9 W9 H locs hp9 h => ?_)
      obtain ⟨rfl, A4, M4, rfl, r4, k4, hi4, et4, er4⟩ := hp9
      have h : LQ g 400 s _ Z (WL g ad M4) [.inl (ax, bx, X), .inl (a3, b4, t5), .inl (a6, b7, (en L)), .inl (a8, b9, (en V)), .inl (a10, b11, (txt L))] [] H locs := h
      refine lv_if_eq (tgt := 131) hx hb d_L_rules_102 (by decide) (fun h9 => absurd h9 (by decide)) (fun _ => ?_)
      rw [et3] at et4
      have et4 : tsA A4 = [L, V] := et4
      have er2 : A4.1.2 = A2.1.2 := er4.trans er3
      have ers4 : (rsA A4).length = i := by rw [show rsA A4 = rsA A2 from congrArg Prod.fst er2]; exact ers
      have eR := rule_ok (A := A4) et4 (by omega) ⟨wL, wV, sL, sV, nvL, vars⟩
      have x := x_rule (d := 10) (a := jn 0) (b := jn 1) (by omega) k4 r4
      rw [eR, ers4] at x
      obtain ⟨M5, p5, r5, hi5⟩ := x.up
      have k5 : AOk (setK A4 (tsA A4, rsA A4 ++ [(L, V)], A4.1.2.2)) := by have := k_rule (a := jn 0) (b := jn 1) k4; rw [eR] at this; exact this
      refine lv_aload_n hx hb d_L_rules_105 rfl (lv_at hl 6 rfl) ?_
      refine lv_iconst (v := 0) hx hb d_L_rules_106 (by decide) ?_
      refine lv_iconst (v := 1) hx hb d_L_rules_107 (by decide) ?_
      refine lq_ask (ix := 148) (id := 20) (vs := [.int (jn 0), .int (jn 1)]) (d := 10) (mt := t_20) (rest := []) S hl.1 h rfl (by decide) rfl rfl rfl (by decide +kernel) p5 ⟨by show _ ≤ 70; omega, by show _ ≤ 6000; omega, by show _ ≤ 12000; omega, by show _ ≤ 1800000; omega⟩ rfl (Nat.le_of_ble_eq_true rfl) d_L_rules_108 (fun H locs h => ?_)
      have h : LQ g 400 s _ Z (WL g ad M5) [.inl (ax, bx, X), .inl (a3, b4, t5), .inl (a6, b7, (en L)), .inl (a8, b9, (en V)), .inl (a10, b11, (txt L))] [] H locs := h
      refine lv_iload hx hb d_L_rules_111 (lv_at hl 5 rfl) ?_
      refine lv_icmp_ne (tgt := 131) hx hb d_L_rules_113 (by decide) (fun h9 => absurd h9 (fun z9 => z9 rfl)) (fun _ => ?_)
      generalize hA5 : setK A4 (tsA A4, rsA A4 ++ [(L, V)], A4.1.2.2) = A5 at r5 k5
      have et5 : tsA A5 = [L] ++ [V] := by rw [← hA5]; exact et4
      have eD := drop_ok (A := A5) (ts := [L]) (t := V) et5
      have x := x_drop (d := 10) (by omega) k5 r5
      rw [eD] at x
      obtain ⟨M6, p6, r6, hi6⟩ := x.up
      have k6 : AOk (setK A5 ([L], A5.1.2)) := by have := k_drop k5; rw [eD] at this; exact this
      clear eD x
      refine lv_aload_n hx hb d_L_rules_116 rfl (lv_at hl 6 rfl) ?_
      refine lq_ask (ix := 151) (id := 14) (vs := []) (d := 10) (mt := t_14) (rest := []) S hl.1 h rfl (by decide) rfl rfl rfl (by decide +kernel) p6 ⟨by show _ ≤ 70; omega, by show _ ≤ 6000; omega, by show _ ≤ 12000; omega, by show _ ≤ 1800000; omega⟩ rfl (Nat.le_of_ble_eq_true rfl) d_L_rules_117 (fun H locs h => ?_)
      have h : LQ g 400 s _ Z (WL g ad M6) [.inl (ax, bx, X), .inl (a3, b4, t5), .inl (a6, b7, (en L)), .inl (a8, b9, (en V)), .inl (a10, b11, (txt L))] [] H locs := h
      refine lv_iconst (v := 1) hx hb d_L_rules_120 (by decide) ?_
      refine lv_icmp_ne (tgt := 131) hx hb d_L_rules_121 (by decide) (fun h9 => absurd h9 (fun z9 => z9 rfl)) (fun _ => ?_)
      generalize hA6 : setK A5 ([L], A5.1.2) = A6 at r6 k6
      have et6 : tsA A6 = [] ++ [L] := by rw [← hA6]; rfl
      have eD := drop_ok (A := A6) (ts := []) (t := L) et6
      have x := x_drop (d := 10) (by omega) k6 r6
      rw [eD] at x
      obtain ⟨M7, p7, r7, hi7⟩ := x.up
      have k7 : AOk (setK A6 ([], A6.1.2)) := by have := k_drop k6; rw [eD] at this; exact this
      clear eD x
      refine lv_aload_n hx hb d_L_rules_124 rfl (lv_at hl 6 rfl) ?_
      refine lq_ask (ix := 151) (id := 14) (vs := []) (d := 10) (mt := t_14) (rest := []) S hl.1 h rfl (by decide) rfl rfl rfl (by decide +kernel) p7 ⟨by show _ ≤ 70; omega, by show _ ≤ 6000; omega, by show _ ≤ 12000; omega, by show _ ≤ 1800000; omega⟩ rfl (Nat.le_of_ble_eq_true rfl) d_L_rules_125 (fun H locs h => ?_)
      have h : LQ g 400 s _ Z (WL g ad M7) [.inl (ax, bx, X), .inl (a3, b4, t5), .inl (a6, b7, (en L)), .inl (a8, b9, (en V)), .inl (a10, b11, (txt L))] [] H locs := h
      refine lv_if_eq (tgt := 152) hx hb d_L_rules_128 (by decide) (fun _ => ?_) (fun h9 => absurd rfl h9)
      refine lq_new S hl.1 h ⟨by show _ ≤ 70; omega, by show _ ≤ 6000; omega, by show _ ≤ 12000; omega, by show _ ≤ 1800000; omega⟩ (Nat.le_of_ble_eq_true rfl) d_L_rules_152 d_L_rules_155 d_L_rules_156 (fun q12 H locs h => ?_)
      have h : LQ g 400 s _ Z (WL g ad M7) [.inl (ax, bx, X), .inl (a3, b4, t5), .inl (a6, b7, (en L)), .inl (a8, b9, (en V)), .inl (a10, b11, (txt L))] [(q12, [])] H locs := h
      refine lv_aload hx hb d_L_rules_159 (lv_at hl 4 rfl) ?_
      refine lq_appS S hl.1 h (List.mem_of_getElem? (i := 0) rfl) (by omega) hX1 (by first | omega | (simp only [List.length_append, List.length_cons, List.length_nil]; omega)) (by omega) ⟨by show _ ≤ 70; omega, by show _ ≤ 6000; omega, by show _ ≤ 12000; omega, by show _ ≤ 1800000; omega⟩ (Nat.le_of_ble_eq_true rfl) d_L_rules_161 (fun H locs h => ?_)
      have h : LQ g 400 s _ Z (WL g ad M7) [.inl (ax, bx, X), .inl (a3, b4, t5), .inl (a6, b7, (en L)), .inl (a8, b9, (en V)), .inl (a10, b11, (txt L))] [(q12, ([] ++ X))] H locs := h
      refine lv_aload hx hb d_L_rules_164 (lv_at hl 2 rfl) ?_
      refine lq_appS S hl.1 h (List.mem_of_getElem? (i := 1) rfl) (by omega) aT (by first | omega | (simp only [List.length_append, List.length_cons, List.length_nil]; omega)) (by omega) ⟨by show _ ≤ 70; omega, by show _ ≤ 6000; omega, by show _ ≤ 12000; omega, by show _ ≤ 1800000; omega⟩ (Nat.le_of_ble_eq_true rfl) d_L_rules_166 (fun H locs h => ?_)
      have h : LQ g 400 s _ Z (WL g ad M7) [.inl (ax, bx, X), .inl (a3, b4, t5), .inl (a6, b7, (en L)), .inl (a8, b9, (en V)), .inl (a10, b11, (txt L))] [(q12, (([] ++ X) ++ t5))] H locs := h
      refine lq_ldc S h (ix := 156) (tx := ";") (t := [59]) (by decide) d_L_rules_169 (fun a13 b14 h => ?_)
      have h : LQ g 400 s _ Z (WL g ad M7) [.inl (ax, bx, X), .inl (a3, b4, t5), .inl (a6, b7, (en L)), .inl (a8, b9, (en V)), .inl (a10, b11, (txt L)), .inl (a13, b14, [59])] [(q12, (([] ++ X) ++ t5))] H locs := h
      refine lq_appS S hl.1 h (List.mem_of_getElem? (i := 5) rfl) (by first | omega | (simp only [List.length_append, List.length_cons, List.length_nil]; omega)) (As_k (by decide)) (by first | omega | (simp only [List.length_append, List.length_cons, List.length_nil]; omega)) (by omega) ⟨by show _ ≤ 70; omega, by show _ ≤ 6000; omega, by show _ ≤ 12000; omega, by show _ ≤ 1800000; omega⟩ (Nat.le_of_ble_eq_true rfl) d_L_rules_171 (fun H locs h => ?_)
      have h : LQ g 400 s _ Z (WL g ad M7) [.inl (ax, bx, X), .inl (a3, b4, t5), .inl (a6, b7, (en L)), .inl (a8, b9, (en V)), .inl (a10, b11, (txt L)), .inl (a13, b14, [59])] [(q12, ((([] ++ X) ++ t5) ++ ([59])))] H locs := h
      refine lq_toT S hl.1 h (by omega) ⟨by show _ ≤ 70; omega, by show _ ≤ 6000; omega, by show _ ≤ 12000; omega, by show _ ≤ 1800000; omega⟩ (Nat.le_of_ble_eq_true rfl) d_L_rules_174 (fun a15 b16 H locs h => ?_)
      have h : LQ g 400 s _ Z (WL g ad M7) [.inl (ax, bx, X), .inl (a3, b4, t5), .inl (a6, b7, (en L)), .inl (a8, b9, (en V)), .inl (a10, b11, (txt L)), .inl (a13, b14, [59]), .inl (a15, b16, ((([] ++ X) ++ t5) ++ ([59])))] [] H locs := h
      refine lv_astore (lv' := [(4, .ref a15), (9, .ref a8), (8, .ref a6), (7, .ref a3), (6, .int xi1), (5, .int (jn i)), (0, .ref (ad 0)), (1, .ref g.2.2.2.2.1), (2, .int (jn k0)), (3, .int (jn many))]) hx hb d_L_rules_177 hl (by decide) rfl (fun ls hl => ?_)
      refine lv_iinc (v := ((jn i) + 1)) (lv' := [(5, .int ((jn i) + 1)), (4, .ref a15), (9, .ref a8), (8, .ref a6), (7, .ref a3), (6, .int xi1), (0, .ref (ad 0)), (1, .ref g.2.2.2.2.1), (2, .int (jn k0)), (3, .int (jn many))]) hx hb d_L_rules_179 hl (k := 5) rfl rfl (by decide) rfl (fun ls hl => ?_)
      rw [jn_1p] at hl
      refine lv_goto (tgt := 7) hx hb d_L_rules_182 (by decide) ?_
      have h := h.less (RO' := [.inl (a15, b16, ((([] ++ X) ++ t5) ++ ([59])))]) (fun x9 hx9 => by simp only [List.mem_cons, List.not_mem_nil, or_false, List.append_assoc, List.cons_append, List.nil_append] at hx9 ⊢; simp [hx9])
      have h : LQ g 400 s _ Z (WL g ad M7) [.inl (a15, b16, ((([] ++ X) ++ t5) ++ ([59])))] [] H locs := h
      have hl : lv_has ls 10 [(4, .ref a15), (5, .int (jn (i + 1))), (0, .ref (ad 0)), (1, .ref g.2.2.2.2.1), (2, .int (jn k0)), (3, .int (jn many))] := lv_sub hl [1, 0, 6, 7, 8, 9] rfl
      have er7 : (setK A6 ([], A6.1.2)).1.2 = (rsA A4 ++ [(L, V)], A4.1.2.2) := by rw [← hA6, ← hA5]; rfl
      refine W.widen (by omega) (by omega) (ih H locs ls (i + 1) a15 b16 ⟨_, M7, _, by show n2 + (i + 1) = many; omega, r7, k7, hi2.trans (hi3.trans (hi4.trans (hi5.trans (hi6.trans hi7)))), rfl, by show (setK A6 ([], A6.1.2)).1.2.1.length = i + 1; rw [er7, List.length_append, ers4]; rfl, by show (setK A6 ([], A6.1.2)).1.2.2.1 = _; rw [er7]; show A4.1.2.2.1 = _; rw [er2]; exact ess, As_app (As_app (As_app As_nil hX1) aT) (As_k (by decide)), ?_, by show List.length _ ≤ 70 * (i + 1); simp only [List.length_append, List.length_cons, List.length_nil]; omega, by show i + 1 ≤ List.length _; simp only [List.length_append, List.length_cons, List.length_nil]; omega, h, hl⟩)
      simp only [List.nil_append, List.mem_append, not_or]
      refine ⟨⟨hX2, ?_⟩, by decide⟩
      rw [et]
      intro hm
      rcases List.mem_append.mp hm with hm | hm
      · exact no_sg wL (by decide) hm
      rcases List.mem_cons.mp hm with hm | hm
      · exact absurd hm (by decide)
      · exact no_sg wV (by decide) hm
