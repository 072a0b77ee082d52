/-! the law: terms (laid by wip/p41/gen/law7.py) -/
theorem d_L_terms_0 : decode cL_terms 0 = .ok (.ldc 54, 2) := by decide +kernel
theorem d_L_terms_2 : decode cL_terms 2 = .ok (.astore 4, 2) := by decide +kernel
theorem d_L_terms_4 : decode cL_terms 4 = .ok (.iconst 0, 1) := by decide +kernel
theorem d_L_terms_5 : decode cL_terms 5 = .ok (.istore 5, 2) := by decide +kernel
theorem d_L_terms_7 : decode cL_terms 7 = .ok (.iload 5, 2) := by decide +kernel
theorem d_L_terms_9 : decode cL_terms 9 = .ok (.iload_n 3, 1) := by decide +kernel
theorem d_L_terms_10 : decode cL_terms 10 = .ok (.if_icmp .ge (106), 3) := by decide +kernel
theorem d_L_terms_13 : decode cL_terms 13 = .ok (.aload_n 1, 1) := by decide +kernel
theorem d_L_terms_14 : decode cL_terms 14 = .ok (.iload_n 2, 1) := by decide +kernel
theorem d_L_terms_15 : decode cL_terms 15 = .ok (.iload 5, 2) := by decide +kernel
theorem d_L_terms_17 : decode cL_terms 17 = .ok (.iadd, 1) := by decide +kernel
theorem d_L_terms_18 : decode cL_terms 18 = .ok (.invokestatic 137, 3) := by decide +kernel
theorem d_L_terms_21 : decode cL_terms 21 = .ok (.aload_n 1, 1) := by decide +kernel
theorem d_L_terms_22 : decode cL_terms 22 = .ok (.iload_n 2, 1) := by decide +kernel
theorem d_L_terms_23 : decode cL_terms 23 = .ok (.iload 5, 2) := by decide +kernel
theorem d_L_terms_25 : decode cL_terms 25 = .ok (.iadd, 1) := by decide +kernel
theorem d_L_terms_26 : decode cL_terms 26 = .ok (.iconst 2, 1) := by decide +kernel
theorem d_L_terms_27 : decode cL_terms 27 = .ok (.iadd, 1) := by decide +kernel
theorem d_L_terms_28 : decode cL_terms 28 = .ok (.invokestatic 137, 3) := by decide +kernel
theorem d_L_terms_31 : decode cL_terms 31 = .ok (.iconst 0, 1) := by decide +kernel
theorem d_L_terms_32 : decode cL_terms 32 = .ok (.invokestatic 73, 3) := by decide +kernel
theorem d_L_terms_35 : decode cL_terms 35 = .ok (.astore 6, 2) := by decide +kernel
theorem d_L_terms_37 : decode cL_terms 37 = .ok (.aload 6, 2) := by decide +kernel
theorem d_L_terms_39 : decode cL_terms 39 = .ok (.invokevirtual 27, 3) := by decide +kernel
theorem d_L_terms_42 : decode cL_terms 42 = .ok (.bipush (40), 2) := by decide +kernel
theorem d_L_terms_44 : decode cL_terms 44 = .ok (.if_icmp .le (7), 3) := by decide +kernel
theorem d_L_terms_51 : decode cL_terms 51 = .ok (.aload_n 0, 1) := by decide +kernel
theorem d_L_terms_52 : decode cL_terms 52 = .ok (.aload 6, 2) := by decide +kernel
theorem d_L_terms_54 : decode cL_terms 54 = .ok (.iload 5, 2) := by decide +kernel
theorem d_L_terms_56 : decode cL_terms 56 = .ok (.invokestatic 144, 3) := by decide +kernel
theorem d_L_terms_59 : decode cL_terms 59 = .ok (.ifCond .ne (24), 3) := by decide +kernel
theorem d_L_terms_83 : decode cL_terms 83 = .ok (.new 35, 3) := by decide +kernel
theorem d_L_terms_86 : decode cL_terms 86 = .ok (.dup, 1) := by decide +kernel
theorem d_L_terms_87 : decode cL_terms 87 = .ok (.invokespecial 37, 3) := by decide +kernel
theorem d_L_terms_90 : decode cL_terms 90 = .ok (.aload 4, 2) := by decide +kernel
theorem d_L_terms_92 : decode cL_terms 92 = .ok (.invokevirtual 44, 3) := by decide +kernel
theorem d_L_terms_95 : decode cL_terms 95 = .ok (.aload 6, 2) := by decide +kernel
theorem d_L_terms_97 : decode cL_terms 97 = .ok (.invokevirtual 44, 3) := by decide +kernel
theorem d_L_terms_100 : decode cL_terms 100 = .ok (.ldc 156, 2) := by decide +kernel
theorem d_L_terms_102 : decode cL_terms 102 = .ok (.invokevirtual 44, 3) := by decide +kernel
theorem d_L_terms_105 : decode cL_terms 105 = .ok (.invokevirtual 58, 3) := by decide +kernel
theorem d_L_terms_108 : decode cL_terms 108 = .ok (.astore 4, 2) := by decide +kernel
theorem d_L_terms_110 : decode cL_terms 110 = .ok (.iinc 5 (1), 3) := by decide +kernel
theorem d_L_terms_113 : decode cL_terms 113 = .ok (.goto (-106), 3) := by decide +kernel
theorem d_L_terms_116 : decode cL_terms 116 = .ok (.aload 4, 2) := by decide +kernel
theorem d_L_terms_118 : decode cL_terms 118 = .ok (.areturn, 1) := by decide +kernel
set_option maxHeartbeats 4000000 in
set_option maxRecDepth 100000 in
theorem t_terms (l : Launch) (g : GQ) (hg : g.2.2.2.2.2.1 ≤ 260) (ad : Nat → Nat) (A0 : AT) (M : PM) (k0 many : Nat) : MetX l g yL_terms cL_terms 7 ({ frames := 70, cells := 5000, slots := 700000, locals := 6000 } : Room) (5000) (700000) [.ref (ad 0), .ref g.2.2.2.2.1, .int (jn k0), .int (jn many)] [] (WL g ad M) (k0 ≤ 100 ∧ many ≤ 4 ∧ RX A0 M ∧ AOk A0 ∧ tsA A0 = []) (fun tx W1 => As tx ∧ jn 33 ∉ tx ∧ tx.length ≤ 40 * many ∧ ∃ (A1 : AT) (M1 : PM), W1 = WL g ad M1 ∧ RX A1 M1 ∧ AOk A1 ∧ Hi M M1 ∧ (tsA A1).length = many ∧ rsA A1 = rsA A0 ∧ ssA A1 = ssA A0) := by
  intro sz0 Z
  refine Met.ofW (cc := cL_terms) (maxL := 7) (ret := (some (.object "java/lang/String"))) (by decide) rfl ?_
  intro p e s m args below meth c s₁ B hml hv
  obtain ⟨rfl, hv⟩ := hv
  have hX := hv.1.2.2.2.2
  have hx := B.exec
  have hb := B.bytes
  have hr := B.returns
  have hts0 := atoms_spec (ws := wD yL_terms cL_terms 7 (some (.object "java/lang/String"))) B.pre
  have hts : ∀ w ∈ TW, w.before _ s = true := fun w h => hts0 w (List.mem_cons_of_mem _ h)
  have hown : s.vm.findClass RL = some m.cls := findClass_of_methodNamed B.named
  have hlocks := B.notSynchronized
  have hsz : s.heap.size = sz0 := hv.1.1
  subst hsz
  have h := lq_entry (U := 400) hv
  have S : CallFix p m c cL_terms 7 s _ TW RL := ⟨hx, hb, hml, hown, hts⟩
  have hl := lv_entry ([.ref (ad 0), .ref g.2.2.2.2.1, .int (jn k0), .int (jn many)]) (n := 7) (Nat.le_of_ble_eq_true rfl)
  rw [lg_entry_eq]
  generalize (lg_sl ([.ref (ad 0), .ref g.2.2.2.2.1, .int (jn k0), .int (jn many)]) ++ List.replicate (7 - (lg_sl ([.ref (ad 0), .ref g.2.2.2.2.1, .int (jn k0), .int (jn many)])).length) Slot.unset).toArray = ls at hl ⊢
  have hl : lv_has ls 7 [(0, .ref (ad 0)), (1, .ref g.2.2.2.2.1), (2, .int (jn k0)), (3, .int (jn many))] := hl
  obtain ⟨hk0, hmany, hRX, hA, hts0⟩ := hX
  have h : LQ g 400 s _ Z (WL g ad M) [] [] s.heap [] := h
  refine lq_ldc S h (ix := 54) (tx := "") (t := []) (by decide) d_L_terms_0 (fun a1 b2 h => ?_)
  have h : LQ g 400 s _ Z (WL g ad M) [.inl (a1, b2, [])] [] s.heap [] := h
  refine lv_astore (lv' := [(4, .ref a1), (0, .ref (ad 0)), (1, .ref g.2.2.2.2.1), (2, .int (jn k0)), (3, .int (jn many))]) hx hb d_L_terms_2 hl (by decide) rfl (fun ls hl => ?_)
  refine lv_iconst (v := 0) hx hb d_L_terms_4 (by decide) ?_
  refine lv_istore (lv' := [(5, .int 0), (4, .ref a1), (0, .ref (ad 0)), (1, .ref g.2.2.2.2.1), (2, .int (jn k0)), (3, .int (jn many))]) hx hb d_L_terms_5 hl (by decide) rfl (fun ls hl => ?_)
  have hl : lv_has ls 7 [(4, .ref a1), (5, .int 0), (0, .ref (ad 0)), (1, .ref g.2.2.2.2.1), (2, .int (jn k0)), (3, .int (jn many))] := lv_sub hl [1, 0, 2, 3, 4, 5] rfl
  refine w_tail (ι := (Heap × List Loc × Array Slot) × Nat × Nat × Nat × Nat) (Hf := fun i => i.1.1) (Jf := fun i => i.1.2.1) (kf := fun i => 1200 * i.2.2.1) (nf := fun i => 160000 * i.2.2.1) (gf := fun i => F0 m 7 i.1.2.2 []) (PN := fun i => ∃ (A2 : AT) (M2 : PM) (X : List Int32), i.2.1 + i.2.2.1 = many ∧ RX A2 M2 ∧ AOk A2 ∧ Hi M M2 ∧ (tsA A2).length = i.2.2.1 ∧ A2.1.2 = A0.1.2 ∧ As X ∧ jn 33 ∉ X ∧ X.length ≤ 40 * i.2.2.1 ∧ LQ g 400 s (va_A (WL g ad M) s.heap.size) Z (WL g ad M2) [.inl (i.2.2.2.1, i.2.2.2.2, X)] [] i.1.1 i.1.2.1 ∧ lv_has i.1.2.2 7 [(4, .ref i.2.2.2.1), (5, .int (jn i.2.2.1)), (0, .ref (ad 0)), (1, .ref g.2.2.2.2.1), (2, .int (jn k0)), (3, .int (jn many))]) (fun tail => ?_) ?_
  · exact W.widen (by omega) (by omega) (tail ((s.heap, [], ls), many, 0, a1, b2) ⟨A0, M, [], rfl, hRX, hA, Hi.rf, by rw [hts0]; rfl, rfl, As_nil, List.not_mem_nil, Nat.zero_le _, h, hl⟩)
  · rintro ⟨⟨H, locs, ls⟩, n2, i, ax, bx⟩ hi
    show W p l e _ s m _ below meth c H locs (1200 * i) (160000 * i) _ (F0 m 7 ls [])
    clear h hl
    induction n2 generalizing H locs ls i ax bx with
    | zero =>
      obtain ⟨A2, M2, X, hni, r2, k2, hi2, ets, ers, hX1, hX2, hX3, h, hl⟩ := hi
      have hni : 0 + i = many := hni
      have ets : (tsA A2).length = i := ets
      have hX3 : X.length ≤ 40 * i := hX3
      have hl : lv_has ls 7 [(4, .ref ax), (5, .int (jn i)), (0, .ref (ad 0)), (1, .ref g.2.2.2.2.1), (2, .int (jn k0)), (3, .int (jn many))] := hl
      have h : LQ g 400 s _ Z (WL g ad M2) [.inl (ax, bx, X)] [] H locs := h
      refine lv_iload hx hb d_L_terms_7 (lv_at hl 1 rfl) ?_
      refine lv_iload_n hx hb d_L_terms_9 rfl (lv_at hl 5 rfl) ?_
      refine lv_icmp_ge (tgt := 116) hx hb d_L_terms_10 (by decide) (fun _ => ?_) (fun h9 => absurd (by rw [jn_le (by omega) (by omega)]; omega) h9)
      refine lv_aload hx hb d_L_terms_116 (lv_at hl 0 rfl) ?_
      refine W.widen (k := 5000) (n := 700000) (by omega) (by omega) ?_
      exact W.aret hx hb hr (Or.inl ⟨_, rfl⟩) (Or.inr ⟨_, rfl⟩) (fun t8 ht hW => lq_postX (post := fun tx W1 => As tx ∧ jn 33 ∉ tx ∧ tx.length ≤ 40 * many ∧ ∃ (A1 : AT) (M1 : PM), W1 = WL g ad M1 ∧ RX A1 M1 ∧ AOk A1 ∧ Hi M M1 ∧ (tsA A1).length = many ∧ rsA A1 = rsA A0 ∧ ssA A1 = ssA A0) h (List.mem_of_getElem? (i := 0) rfl) ⟨hX1, hX2, by omega, A2, M2, rfl, r2, k2, hi2, by omega, congrArg Prod.fst ers, congrArg (fun q => q.2.1) ers⟩ ht hW) h.lo d_L_terms_118
    | succ n2 ih =>
      obtain ⟨A2, M2, X, hni, r2, k2, hi2, ets, ers, hX1, hX2, hX3, h, hl⟩ := hi
      have hni : n2 + 1 + i = many := hni
      have ets : (tsA A2).length = i := ets
      have hX3 : X.length ≤ 40 * i := hX3
      have hz4 : gz 4 = 31 := rfl
      have hl : lv_has ls 7 [(4, .ref ax), (5, .int (jn i)), (0, .ref (ad 0)), (1, .ref g.2.2.2.2.1), (2, .int (jn k0)), (3, .int (jn many))] := hl
      have h : LQ g 400 s _ Z (WL g ad M2) [.inl (ax, bx, X)] [] H locs := h
      refine lv_iload hx hb d_L_terms_7 (lv_at hl 1 rfl) ?_
      refine lv_iload_n hx hb d_L_terms_9 rfl (lv_at hl 5 rfl) ?_
      refine lv_icmp_ge (tgt := 116) hx hb d_L_terms_10 (by decide) (fun h9 => absurd h9 (by rw [jn_le (by omega) (by omega)]; omega)) (fun _ => ?_)
      refine lv_aload_n hx hb d_L_terms_13 rfl (lv_at hl 3 rfl) ?_
      refine lv_iload_n hx hb d_L_terms_14 rfl (lv_at hl 4 rfl) ?_
      refine lv_iload hx hb d_L_terms_15 (lv_at hl 1 rfl) ?_
      refine lv_iadd hx hb d_L_terms_17 ?_
      rw [jn_add]
      refine lq_callI (As := [.ref g.2.2.2.2.1, .int (jn (k0 + i))]) (rest := []) S hl.1 h (t_at l g hg (k0 + i)) (fun x9 hx9 => absurd hx9 List.not_mem_nil) (by omega) (va_cwS 2 hts (g_sta (own := RL) (ix := 137) (y := yL_at) (by decide +kernel) (by decide +kernel) (by decide +kernel) (g_con cw_L_at)) rfl rfl rfl (by decide +kernel) ⟨by show 1 + 1 ≤ 70; omega, by show 8 + (2 + 11) + 60 ≤ 6000; omega⟩) rfl rfl (Nat.le_of_ble_eq_true rfl) d_L_terms_18 ⟨by show _ ≤ 5000; omega, by show _ ≤ 700000; omega⟩ (fun xi3 hxi3 => ?_)
      refine lv_aload_n hx hb d_L_terms_21 rfl (lv_at hl 3 rfl) ?_
      refine lv_iload_n hx hb d_L_terms_22 rfl (lv_at hl 4 rfl) ?_
      refine lv_iload hx hb d_L_terms_23 (lv_at hl 1 rfl) ?_
      refine lv_iadd hx hb d_L_terms_25 ?_
      rw [jn_add]
      refine lv_iconst (v := 2) hx hb d_L_terms_26 (by decide) ?_
      refine lv_iadd hx hb d_L_terms_27 ?_
      rw [show (2 : Int32) = jn 2 from rfl, jn_add]
      refine lq_callI (As := [.ref g.2.2.2.2.1, .int (jn (k0 + i + 2))]) (rest := [.int xi3]) S hl.1 h (t_at l g hg (k0 + i + 2)) (fun x9 hx9 => absurd hx9 List.not_mem_nil) (by omega) (va_cwS 2 hts (g_sta (own := RL) (ix := 137) (y := yL_at) (by decide +kernel) (by decide +kernel) (by decide +kernel) (g_con cw_L_at)) rfl rfl rfl (by decide +kernel) ⟨by show 1 + 1 ≤ 70; omega, by show 8 + (2 + 11) + 60 ≤ 6000; omega⟩) rfl rfl (Nat.le_of_ble_eq_true rfl) d_L_terms_28 ⟨by show _ ≤ 5000; omega, by show _ ≤ 700000; omega⟩ (fun xi4 hxi4 => ?_)
      refine lv_iconst (v := 0) hx hb d_L_terms_31 (by decide) ?_
      refine lq_callS (As := [.int xi3, .int xi4, .int 0]) (rest := []) S hl.1 h (t_grow l g 4 0 rfl xi3 xi4) (fun x9 hx9 => absurd hx9 List.not_mem_nil) trivial (va_cwS 3 hts (g_sta (own := RL) (ix := 73) (y := yL_grow) (by decide +kernel) (by decide +kernel) (by decide +kernel) (g_con cw_L_grow)) rfl rfl rfl (by decide +kernel) ⟨by show (12 + 4) + 1 ≤ 70; omega, by show 8 + (6 + 11) + (600 + 100 * 4) ≤ 6000; omega⟩) rfl rfl (Nat.le_of_ble_eq_true rfl) d_L_terms_32 ⟨by show _ ≤ 5000; omega, by show _ ≤ 700000; omega⟩ (fun a3 b4 t5 H locs ha3 h => ?_)
      have h : LQ g 400 s _ Z (WL g ad M2) [.inl (ax, bx, X), .inl (a3, b4, t5)] [] H locs := h
      obtain ⟨T, hT, hsT, eT⟩ := ha3
      subst eT
      have h : LQ g 400 s _ Z (WL g ad M2) [.inl (ax, bx, X), .inl (a3, b4, (en T))] [] H locs := h
      have lT : (en T).length ≤ 31 := hsT
      refine lv_astore (lv' := [(6, .ref a3), (4, .ref ax), (5, .int (jn i)), (0, .ref (ad 0)), (1, .ref g.2.2.2.2.1), (2, .int (jn k0)), (3, .int (jn many))]) hx hb d_L_terms_35 hl (by decide) rfl (fun ls hl => ?_)
      refine lv_aload hx hb d_L_terms_37 (lv_at hl 0 rfl) ?_
      refine lq_len S hl.1 h (List.mem_of_getElem? (i := 1) rfl) (by omega) ⟨by show _ ≤ 70; omega, by show _ ≤ 6000; omega, by show _ ≤ 5000; omega, by show _ ≤ 700000; omega⟩ (Nat.le_of_ble_eq_true rfl) d_L_terms_39 ?_
      refine lv_bipush (v := (40)) hx hb d_L_terms_42 (by decide) ?_
      refine lv_icmp_le (tgt := 51) hx hb d_L_terms_44 (by decide) (fun _ => ?_) (fun h9 => absurd (by rw [show (40 : Int32) = jn 40 from rfl, jn_le (by omega) (by omega)]; omega) h9)
      refine lv_aload_n hx hb d_L_terms_51 rfl (lv_at hl 3 rfl) ?_
      refine lv_aload hx hb d_L_terms_52 (lv_at hl 0 rfl) ?_
      refine lv_iload hx hb d_L_terms_54 (lv_at hl 2 rfl) ?_
      refine lq_callW (As := [.ref (ad 0), .ref a3, .int (jn i)]) (rest := []) S hl.1 h (t_comes l g ad A2 M2 T hT (sz T) i rfl a3 b4) (fun x9 hx9 => by rw [List.mem_singleton] at hx9; rw [hx9]; exact List.mem_of_getElem? (i := 1) rfl) ⟨by omega, r2, k2, ets, by omega⟩ (va_cwS 3 hts (g_sta (own := RL) (ix := 144) (y := yL_comes) (by decide +kernel) (by decide +kernel) (by decide +kernel) (g_con cw_L_comes)) rfl rfl rfl (by decide +kernel) ⟨by show 60 + 1 ≤ 70; omega, by show 8 + (5 + 11) + 5000 ≤ 6000; omega⟩) rfl rfl (Nat.le_of_ble_eq_true rfl) d_L_terms_56 ⟨by show _ ≤ 5000; omega, by show _ ≤ 700000; omega⟩ (fun r9 W9 H locs hp9 h => ?_)
      obtain ⟨rfl, A3, M3, rfl, r3, k3, hi3, et3, er3⟩ := hp9
      have h : LQ g 400 s _ Z (WL g ad M3) [.inl (ax, bx, X), .inl (a3, b4, (en T))] [] H locs := h
      refine lv_if_ne (tgt := 83) hx hb d_L_terms_59 (by decide) (fun _ => ?_) (fun h9 => absurd h9 (by decide))
      refine lq_new S hl.1 h ⟨by show _ ≤ 70; omega, by show _ ≤ 6000; omega, by show _ ≤ 5000; omega, by show _ ≤ 700000; omega⟩ (Nat.le_of_ble_eq_true rfl) d_L_terms_83 d_L_terms_86 d_L_terms_87 (fun q6 H locs h => ?_)
      have h : LQ g 400 s _ Z (WL g ad M3) [.inl (ax, bx, X), .inl (a3, b4, (en T))] [(q6, [])] H locs := h
      refine lv_aload hx hb d_L_terms_90 (lv_at hl 1 rfl) ?_
      refine lq_appS S hl.1 h (List.mem_of_getElem? (i := 0) rfl) (by omega) hX1 (by first | omega | (simp only [List.length_append, List.length_cons, List.length_nil]; omega)) (by omega) ⟨by show _ ≤ 70; omega, by show _ ≤ 6000; omega, by show _ ≤ 5000; omega, by show _ ≤ 700000; omega⟩ (Nat.le_of_ble_eq_true rfl) d_L_terms_92 (fun H locs h => ?_)
      have h : LQ g 400 s _ Z (WL g ad M3) [.inl (ax, bx, X), .inl (a3, b4, (en T))] [(q6, ([] ++ X))] H locs := h
      refine lv_aload hx hb d_L_terms_95 (lv_at hl 0 rfl) ?_
      refine lq_appS S hl.1 h (List.mem_of_getElem? (i := 1) rfl) (by omega) (As_en hT) (by first | omega | (simp only [List.length_append, List.length_cons, List.length_nil]; omega)) (by omega) ⟨by show _ ≤ 70; omega, by show _ ≤ 6000; omega, by show _ ≤ 5000; omega, by show _ ≤ 700000; omega⟩ (Nat.le_of_ble_eq_true rfl) d_L_terms_97 (fun H locs h => ?_)
      have h : LQ g 400 s _ Z (WL g ad M3) [.inl (ax, bx, X), .inl (a3, b4, (en T))] [(q6, (([] ++ X) ++ (en T)))] H locs := h
      refine lq_ldc S h (ix := 156) (tx := ";") (t := [59]) (by decide) d_L_terms_100 (fun a7 b8 h => ?_)
      have h : LQ g 400 s _ Z (WL g ad M3) [.inl (ax, bx, X), .inl (a3, b4, (en T)), .inl (a7, b8, [59])] [(q6, (([] ++ X) ++ (en T)))] H locs := h
      refine lq_appS S hl.1 h (List.mem_of_getElem? (i := 2) rfl) (by first | omega | (simp only [List.length_append, List.length_cons, List.length_nil]; omega)) (As_k (by decide)) (by first | omega | (simp only [List.length_append, List.length_cons, List.length_nil]; omega)) (by omega) ⟨by show _ ≤ 70; omega, by show _ ≤ 6000; omega, by show _ ≤ 5000; omega, by show _ ≤ 700000; omega⟩ (Nat.le_of_ble_eq_true rfl) d_L_terms_102 (fun H locs h => ?_)
      have h : LQ g 400 s _ Z (WL g ad M3) [.inl (ax, bx, X), .inl (a3, b4, (en T)), .inl (a7, b8, [59])] [(q6, ((([] ++ X) ++ (en T)) ++ ([59])))] H locs := h
      refine lq_toT S hl.1 h (by omega) ⟨by show _ ≤ 70; omega, by show _ ≤ 6000; omega, by show _ ≤ 5000; omega, by show _ ≤ 700000; omega⟩ (Nat.le_of_ble_eq_true rfl) d_L_terms_105 (fun a9 b10 H locs h => ?_)
      have h : LQ g 400 s _ Z (WL g ad M3) [.inl (ax, bx, X), .inl (a3, b4, (en T)), .inl (a7, b8, [59]), .inl (a9, b10, ((([] ++ X) ++ (en T)) ++ ([59])))] [] H locs := h
      refine lv_astore (lv' := [(4, .ref a9), (6, .ref a3), (5, .int (jn i)), (0, .ref (ad 0)), (1, .ref g.2.2.2.2.1), (2, .int (jn k0)), (3, .int (jn many))]) hx hb d_L_terms_108 hl (by decide) rfl (fun ls hl => ?_)
      refine lv_iinc (v := ((jn i) + 1)) (lv' := [(5, .int ((jn i) + 1)), (4, .ref a9), (6, .ref a3), (0, .ref (ad 0)), (1, .ref g.2.2.2.2.1), (2, .int (jn k0)), (3, .int (jn many))]) hx hb d_L_terms_110 hl (k := 2) rfl rfl (by decide) rfl (fun ls hl => ?_)
      rw [jn_1p] at hl
      refine lv_goto (tgt := 7) hx hb d_L_terms_113 (by decide) ?_
      have h := h.less (RO' := [.inl (a9, b10, ((([] ++ X) ++ (en T)) ++ ([59])))]) (fun x9 hx9 => by simp only [List.mem_cons, List.not_mem_nil, or_false, List.append_assoc, List.cons_append, List.nil_append] at hx9 ⊢; simp [hx9])
      have h : LQ g 400 s _ Z (WL g ad M3) [.inl (a9, b10, ((([] ++ X) ++ (en T)) ++ ([59])))] [] H locs := h
      have hl : lv_has ls 7 [(4, .ref a9), (5, .int (jn (i + 1))), (0, .ref (ad 0)), (1, .ref g.2.2.2.2.1), (2, .int (jn k0)), (3, .int (jn many))] := lv_sub hl [1, 0, 3, 4, 5, 6] rfl
      refine W.widen (by omega) (by omega) (ih H locs ls (i + 1) a9 b10 ⟨A3, M3, _, by show n2 + (i + 1) = many; omega, r3, k3, hi2.trans hi3, by show (tsA A3).length = i + 1; rw [et3, List.length_append, ets]; rfl, er3.trans ers, As_app (As_app (As_app As_nil hX1) (As_en hT)) (As_k (by decide)), ?_, by show List.length _ ≤ 40 * (i + 1); simp only [List.length_append, List.length_cons, List.length_nil]; omega, h, hl⟩)
      simp only [List.nil_append, List.mem_append, not_or]
      exact ⟨⟨hX2, no_sg hT (by decide)⟩, by decide⟩
