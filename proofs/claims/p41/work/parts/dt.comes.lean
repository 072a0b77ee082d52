/-! the law: comes (laid by wip/p41/gen/law5.py) -/
theorem d_L_comes_0 : decode cL_comes 0 = .ok (.aload_n 1, 1) := by decide +kernel
theorem d_L_comes_1 : decode cL_comes 1 = .ok (.invokestatic 50, 3) := by decide +kernel
theorem d_L_comes_4 : decode cL_comes 4 = .ok (.astore_n 3, 1) := by decide +kernel
theorem d_L_comes_5 : decode cL_comes 5 = .ok (.aload_n 0, 1) := by decide +kernel
theorem d_L_comes_6 : decode cL_comes 6 = .ok (.bipush (7), 2) := by decide +kernel
theorem d_L_comes_8 : decode cL_comes 8 = .ok (.iconst 0, 1) := by decide +kernel
theorem d_L_comes_9 : decode cL_comes 9 = .ok (.aload_n 3, 1) := by decide +kernel
theorem d_L_comes_10 : decode cL_comes 10 = .ok (.invokevirtual 27, 3) := by decide +kernel
theorem d_L_comes_13 : decode cL_comes 13 = .ok (.invokevirtual 124, 3) := by decide +kernel
theorem d_L_comes_16 : decode cL_comes 16 = .ok (.iconst 1, 1) := by decide +kernel
theorem d_L_comes_17 : decode cL_comes 17 = .ok (.if_icmp .eq (5), 3) := by decide +kernel
theorem d_L_comes_22 : decode cL_comes 22 = .ok (.iconst 0, 1) := by decide +kernel
theorem d_L_comes_23 : decode cL_comes 23 = .ok (.istore 4, 2) := by decide +kernel
theorem d_L_comes_25 : decode cL_comes 25 = .ok (.iload 4, 2) := by decide +kernel
theorem d_L_comes_27 : decode cL_comes 27 = .ok (.aload_n 3, 1) := by decide +kernel
theorem d_L_comes_28 : decode cL_comes 28 = .ok (.invokevirtual 27, 3) := by decide +kernel
theorem d_L_comes_31 : decode cL_comes 31 = .ok (.if_icmp .ge (30), 3) := by decide +kernel
theorem d_L_comes_34 : decode cL_comes 34 = .ok (.aload_n 0, 1) := by decide +kernel
theorem d_L_comes_35 : decode cL_comes 35 = .ok (.bipush (7), 2) := by decide +kernel
theorem d_L_comes_37 : decode cL_comes 37 = .ok (.iload 4, 2) := by decide +kernel
theorem d_L_comes_39 : decode cL_comes 39 = .ok (.aload_n 3, 1) := by decide +kernel
theorem d_L_comes_40 : decode cL_comes 40 = .ok (.iload 4, 2) := by decide +kernel
theorem d_L_comes_42 : decode cL_comes 42 = .ok (.invokevirtual 7, 3) := by decide +kernel
theorem d_L_comes_45 : decode cL_comes 45 = .ok (.i2l, 1) := by decide +kernel
theorem d_L_comes_46 : decode cL_comes 46 = .ok (.invokevirtual 130, 3) := by decide +kernel
theorem d_L_comes_49 : decode cL_comes 49 = .ok (.iconst 1, 1) := by decide +kernel
theorem d_L_comes_50 : decode cL_comes 50 = .ok (.if_icmp .eq (5), 3) := by decide +kernel
theorem d_L_comes_55 : decode cL_comes 55 = .ok (.iinc 4 (1), 3) := by decide +kernel
theorem d_L_comes_58 : decode cL_comes 58 = .ok (.goto (-33), 3) := by decide +kernel
theorem d_L_comes_61 : decode cL_comes 61 = .ok (.aload_n 0, 1) := by decide +kernel
theorem d_L_comes_62 : decode cL_comes 62 = .ok (.bipush (7), 2) := by decide +kernel
theorem d_L_comes_64 : decode cL_comes 64 = .ok (.invokevirtual 134, 3) := by decide +kernel
theorem d_L_comes_67 : decode cL_comes 67 = .ok (.iload_n 2, 1) := by decide +kernel
theorem d_L_comes_68 : decode cL_comes 68 = .ok (.if_icmp .ne (7), 3) := by decide +kernel
theorem d_L_comes_71 : decode cL_comes 71 = .ok (.iconst 1, 1) := by decide +kernel
theorem d_L_comes_72 : decode cL_comes 72 = .ok (.goto (4), 3) := by decide +kernel
theorem d_L_comes_76 : decode cL_comes 76 = .ok (.ireturn, 1) := by decide +kernel
set_option maxHeartbeats 4000000 in
set_option maxRecDepth 100000 in
theorem t_comes (l : Launch) (g : GQ) (ad : Nat → Nat) (A0 : AT) (M : PM) (T : Tm) (hT : wf T) (n w : Nat) (hn : sz T = n) (a b : Nat) : MetW l g yL_comes cL_comes 5 ({ frames := 60, cells := 24 * n, slots := 4000 * n, locals := 5000 } : Room) (24 * n) (4000 * n) [.ref (ad 0), .ref a, .int (jn w)] [.inl (a, b, en T)] (WL g ad M) (n ≤ 40 ∧ RX A0 M ∧ AOk A0 ∧ (tsA A0).length = w ∧ w < 24) (fun r W1 => r = 1 ∧ ∃ (A1 : AT) (M1 : PM), W1 = WL g ad M1 ∧ RX A1 M1 ∧ AOk A1 ∧ Hi M M1 ∧ tsA A1 = tsA A0 ++ [T] ∧ A1.1.2 = A0.1.2) := by
  intro sz0 Z
  refine Met.ofW (cc := cL_comes) (maxL := 5) (ret := (some .boolean)) (by decide) rfl ?_
  intro p e s m args below meth c s₁ B hml hv
  obtain ⟨rfl, hv⟩ := hv
  have hX := hv.1.2.2.2.2
  have hx := B.exec
  have hb := B.bytes
  have hr := B.returns
  have hts0 := atoms_spec (ws := wD yL_comes cL_comes 5 (some .boolean)) B.pre
  have hts : ∀ w ∈ TW, w.before _ s = true := fun w h => hts0 w (List.mem_cons_of_mem _ h)
  have hown : s.vm.findClass RL = some m.cls := findClass_of_methodNamed B.named
  have hlocks := B.notSynchronized
  have hsz : s.heap.size = sz0 := hv.1.1
  subst hsz
  have h := lq_entry (U := 200) hv
  have S : CallFix p m c cL_comes 5 s _ TW RL := ⟨hx, hb, hml, hown, hts⟩
  have hl := lv_entry ([.ref (ad 0), .ref a, .int (jn w)]) (n := 5) (Nat.le_of_ble_eq_true rfl)
  rw [lg_entry_eq]
  generalize (lg_sl ([.ref (ad 0), .ref a, .int (jn w)]) ++ List.replicate (5 - (lg_sl ([.ref (ad 0), .ref a, .int (jn w)])).length) Slot.unset).toArray = ls at hl ⊢
  have hl : lv_has ls 5 [(0, .ref (ad 0)), (1, .ref a), (2, .int (jn w))] := hl
  obtain ⟨hn40, hRX, hA, hw, hw24⟩ := hX
  have h : LQ g 200 s _ Z (WL g ad M) [.inl (a, b, en T)] [] s.heap [] := h
  have hlen : (txt T).length ≤ 160 := by
    have := (txt_len T hT).1
    rw [hn] at this
    omega
  refine lv_aload_n hx hb d_L_comes_0 rfl (lv_at hl 1 rfl) ?_
  refine lq_callS (As := [.ref a]) (rest := []) S hl.1 h (t_text l g T hT n hn hn40 a b) (fun x9 hx9 => by rw [List.mem_singleton] at hx9; rw [hx9]; exact List.mem_of_getElem? (i := 0) rfl) trivial (va_cwS 1 hts (g_sta (own := RL) (ix := 50) (y := yL_text) (by decide +kernel) (by decide +kernel) (by decide +kernel) (g_con cw_L_text)) rfl rfl rfl (by decide +kernel) ⟨by show (12 + n) + 1 ≤ 60; omega, by show 8 + (3 + 11) + (600 + 100 * n) ≤ 5000; omega⟩) rfl rfl (Nat.le_of_ble_eq_true rfl) d_L_comes_1 ⟨by show _ ≤ 24 * n; omega, by show _ ≤ 4000 * n; omega⟩ (fun a1 b2 t9 H locs ha1 h => ?_)
  have h : LQ g 200 s _ Z (WL g ad M) [.inl (a, b, en T), .inl (a1, b2, t9)] [] H locs := h
  rw [show t9 = (txt T) from ha1] at h
  have h : LQ g 200 s _ Z (WL g ad M) [.inl (a, b, en T), .inl (a1, b2, (txt T))] [] H locs := h
  refine lv_astore_n (lv' := [(3, .ref a1), (0, .ref (ad 0)), (1, .ref a), (2, .int (jn w))]) hx hb d_L_comes_4 rfl hl (by decide) rfl (fun ls hl => ?_)
  refine lv_aload_n hx hb d_L_comes_5 rfl (lv_at hl 1 rfl) ?_
  refine lv_bipush (v := (7)) hx hb d_L_comes_6 (by decide) ?_
  refine lv_iconst (v := 0) hx hb d_L_comes_8 (by decide) ?_
  refine lv_aload_n hx hb d_L_comes_9 rfl (lv_at hl 0 rfl) ?_
  refine lq_len S hl.1 h (List.mem_of_getElem? (i := 1) rfl) (by omega) ⟨by show _ ≤ 60; omega, by show _ ≤ 5000; omega, by show _ ≤ 24 * n; omega, by show _ ≤ 4000 * n; omega⟩ (Nat.le_of_ble_eq_true rfl) d_L_comes_10 ?_
  obtain ⟨A1, eF, eA, sh⟩ := F_row_7 (A := A0) (n := (txt T).length) hlen
  have x := x_row (d := 10) (a := jn 7) (b := jn 0) (c := jn (txt T).length) (by omega) hA hRX
  rw [eF] at x
  obtain ⟨M1, p1, r1, hi1⟩ := x.up
  have k1 : AOk A1 := by have := k_row (a := jn 7) (b := jn 0) (c := jn (txt T).length) hA; rw [eF] at this; exact this
  refine lq_ask (ix := 124) (id := 3) (vs := [.int (jn 7), .int (jn 0), .int (jn (txt T).length)]) (d := 10) (mt := t_3) (rest := []) S hl.1 h rfl (by decide) rfl rfl rfl (by decide +kernel) p1 ⟨by show _ ≤ 60; omega, by show _ ≤ 5000; omega, by show _ ≤ 24 * n; omega, by show _ ≤ 4000 * n; omega⟩ rfl (Nat.le_of_ble_eq_true rfl) d_L_comes_13 (fun H locs h => ?_)
  have h : LQ g 200 s _ Z (WL g ad M1) [.inl (a, b, en T), .inl (a1, b2, (txt T))] [] H locs := h
  refine lv_iconst (v := 1) hx hb d_L_comes_16 (by decide) ?_
  refine lv_icmp_eq (tgt := 22) hx hb d_L_comes_17 (by decide) (fun _ => ?_) (fun h9 => absurd rfl h9)
  refine lv_iconst (v := 0) hx hb d_L_comes_22 (by decide) ?_
  refine lv_istore (lv' := [(4, .int 0), (3, .ref a1), (0, .ref (ad 0)), (1, .ref a), (2, .int (jn w))]) hx hb d_L_comes_23 hl (by decide) rfl (fun ls hl => ?_)
  have h := h.less (RO' := [.inl (a1, b2, (txt T))]) (fun x9 hx9 => by simp only [List.mem_cons, List.not_mem_nil, or_false, List.append_assoc, List.cons_append, List.nil_append] at hx9 ⊢; simp [hx9])
  have h : LQ g 200 s _ Z (WL g ad M1) [.inl (a1, b2, (txt T))] [] H locs := h
  have hl : lv_has ls 5 [(4, .int 0), (3, .ref a1), (0, .ref (ad 0)), (2, .int (jn w))] := lv_sub hl [0, 1, 2, 4] rfl
  refine w_tail (ι := (Heap × List Loc × Array Slot) × Nat × Nat) (Hf := fun i => i.1.1) (Jf := fun i => i.1.2.1) (kf := fun _ => 24 * n) (nf := fun _ => 4000 * n) (gf := fun i => F0 m 25 i.1.2.2 []) (PN := fun i => ∃ (A2 : AT) (M2 : PM), i.2.1 + i.2.2 = (txt T).length ∧ RX A2 M2 ∧ AOk A2 ∧ Hi M M2 ∧ A2.1 = A0.1 ∧ Sh7 A2 (txt T).length ∧ (∀ j, j < i.2.2 → ele A2 7 j = lowB (jn 100) (bt (txt T) j).toInt64) ∧ LQ g 200 s (va_A (WL g ad M) s.heap.size) Z (WL g ad M2) [.inl (a1, b2, (txt T))] [] i.1.1 i.1.2.1 ∧ lv_has i.1.2.2 5 [(4, .int (jn i.2.2)), (3, .ref a1), (0, .ref (ad 0)), (2, .int (jn w))]) (fun tail => ?_) ?_
  · exact W.widen (by omega) (by omega) (tail ((H, locs, ls), (txt T).length, 0) ⟨A1, M1, rfl, r1, k1, hi1, eA, sh, fun j hj => absurd hj (Nat.not_lt_zero j), h, hl⟩)
  · rintro ⟨⟨H, locs, ls⟩, n2, i⟩ hi
    show W p l e _ s m _ below meth c H locs (24 * n) (4000 * n) _ (F0 m 25 ls [])
    clear h hl
    induction n2 generalizing H locs ls i with
    | zero =>
      obtain ⟨A2, M2, hni, r2, k2, hi2, e2, sh2, el2, h, hl⟩ := hi
      have hni : 0 + i = (txt T).length := hni
      have hl : lv_has ls 5 [(4, .int (jn i)), (3, .ref a1), (0, .ref (ad 0)), (2, .int (jn w))] := hl
      have h : LQ g 200 s _ Z (WL g ad M2) [.inl (a1, b2, (txt T))] [] H locs := h
      refine lv_iload hx hb d_L_comes_25 (lv_at hl 0 rfl) ?_
      refine lv_aload_n hx hb d_L_comes_27 rfl (lv_at hl 1 rfl) ?_
      refine lq_len S hl.1 h (List.mem_of_getElem? (i := 0) rfl) (by omega) ⟨by show _ ≤ 60; omega, by show _ ≤ 5000; omega, by show _ ≤ 24 * n; omega, by show _ ≤ 4000 * n; omega⟩ (Nat.le_of_ble_eq_true rfl) d_L_comes_28 ?_
      refine lv_icmp_ge (tgt := 61) hx hb d_L_comes_31 (by decide) (fun _ => ?_) (fun h9 => absurd (by rw [jn_le (by omega) (by omega)]; omega) h9)
      refine lv_aload_n hx hb d_L_comes_61 rfl (lv_at hl 2 rfl) ?_
      refine lv_bipush (v := (7)) hx hb d_L_comes_62 (by decide) ?_
      have et : tsA A2 = tsA A0 := congrArg Prod.fst e2
      have eT := F_term_7 (A := A2) hT (by omega) sh2 (fun j c9 hj => by
        obtain ⟨hj1, hj2⟩ := List.getElem?_eq_some_iff.mp hj
        rw [el2 j (by show j < i; omega), show bt (txt T) j = c9 by unfold bt; rw [List.getD_eq_getElem?_getD, hj]; rfl]) (by rw [et]; omega)
      have x := x_term (d := 10) (a := jn 7) (by omega) k2 r2
      rw [eT, et, hw] at x
      obtain ⟨M3, p3, r3, hi3⟩ := x.up
      have k3 : AOk (pt (setF A2 (jz 1)) T) := by have := k_term (a := jn 7) k2; rw [eT] at this; exact this
      refine lq_ask (ix := 134) (id := 12) (vs := [.int (jn 7)]) (d := 10) (mt := t_12) (rest := []) S hl.1 h rfl (by decide) rfl rfl rfl (by decide +kernel) p3 ⟨by show _ ≤ 60; omega, by show _ ≤ 5000; omega, by show _ ≤ 24 * n; omega, by show _ ≤ 4000 * n; omega⟩ rfl (Nat.le_of_ble_eq_true rfl) d_L_comes_64 (fun H locs h => ?_)
      have h : LQ g 200 s _ Z (WL g ad M3) [.inl (a1, b2, (txt T))] [] H locs := h
      refine lv_iload_n hx hb d_L_comes_67 rfl (lv_at hl 3 rfl) ?_
      refine lv_icmp_ne (tgt := 75) hx hb d_L_comes_68 (by decide) (fun h9 => absurd h9 (fun z9 => z9 rfl)) (fun _ => ?_)
      refine lv_iconst (v := 1) hx hb d_L_comes_71 (by decide) ?_
      refine lv_goto (tgt := 76) hx hb d_L_comes_72 (by decide) ?_
      refine W.widen (k := 24 * n) (n := 4000 * n) (by omega) (by omega) ?_
      exact W.zret hx hb hr rfl (fun t8 ht hW => lq_postW (post := fun r W1 => r = 1 ∧ ∃ (A1 : AT) (M1 : PM), W1 = WL g ad M1 ∧ RX A1 M1 ∧ AOk A1 ∧ Hi M M1 ∧ tsA A1 = tsA A0 ++ [T] ∧ A1.1.2 = A0.1.2) h ⟨rfl, _, M3, rfl, r3, k3, hi2.trans hi3, by show tsA A2 ++ [T] = _; rw [et], by show A2.1.2 = _; rw [e2]⟩ ht) h.lo d_L_comes_76
    | succ n2 ih =>
      obtain ⟨A2, M2, hni, r2, k2, hi2, e2, sh2, el2, h, hl⟩ := hi
      have hni : n2 + 1 + i = (txt T).length := hni
      have hl : lv_has ls 5 [(4, .int (jn i)), (3, .ref a1), (0, .ref (ad 0)), (2, .int (jn w))] := hl
      have h : LQ g 200 s _ Z (WL g ad M2) [.inl (a1, b2, (txt T))] [] H locs := h
      refine lv_iload hx hb d_L_comes_25 (lv_at hl 0 rfl) ?_
      refine lv_aload_n hx hb d_L_comes_27 rfl (lv_at hl 1 rfl) ?_
      refine lq_len S hl.1 h (List.mem_of_getElem? (i := 0) rfl) (by omega) ⟨by show _ ≤ 60; omega, by show _ ≤ 5000; omega, by show _ ≤ 24 * n; omega, by show _ ≤ 4000 * n; omega⟩ (Nat.le_of_ble_eq_true rfl) d_L_comes_28 ?_
      refine lv_icmp_ge (tgt := 61) hx hb d_L_comes_31 (by decide) (fun h9 => absurd h9 (by rw [jn_le (by omega) (by omega)]; omega)) (fun _ => ?_)
      refine lv_aload_n hx hb d_L_comes_34 rfl (lv_at hl 2 rfl) ?_
      refine lv_bipush (v := (7)) hx hb d_L_comes_35 (by decide) ?_
      refine lv_iload hx hb d_L_comes_37 (lv_at hl 0 rfl) ?_
      refine lv_aload_n hx hb d_L_comes_39 rfl (lv_at hl 1 rfl) ?_
      refine lv_iload hx hb d_L_comes_40 (lv_at hl 0 rfl) ?_
      refine lq_chr S hl.1 h (List.mem_of_getElem? (i := 0) rfl) (by omega) (As_txt hT) (i := i) (by omega) ⟨by show _ ≤ 60; omega, by show _ ≤ 5000; omega, by show _ ≤ 24 * n; omega, by show _ ≤ 4000 * n; omega⟩ (Nat.le_of_ble_eq_true rfl) d_L_comes_42 ?_
      refine lv_i2l hx hb d_L_comes_45 rfl ?_
      obtain ⟨A3, eF3, eA3, sh3, el3⟩ := F_set_7 (v := (bt (txt T) i).toInt64) sh2 (show i < (txt T).length by omega) hlen
      have x := x_set (d := 10) (a := jn 7) (b := jn i) (v := (bt (txt T) i).toInt64) (by omega) k2 r2
      rw [eF3] at x
      obtain ⟨M3, p3, r3, hi3⟩ := x.up
      have k3 : AOk A3 := by have := k_set (a := jn 7) (b := jn i) (v := (bt (txt T) i).toInt64) k2; rw [eF3] at this; exact this
      refine lq_ask (ix := 130) (id := 4) (vs := [.int (jn 7), .int (jn i), .long (bt (txt T) i).toInt64]) (d := 10) (mt := t_4) (rest := []) S hl.1 h rfl (by decide) rfl rfl rfl (by decide +kernel) p3 ⟨by show _ ≤ 60; omega, by show _ ≤ 5000; omega, by show _ ≤ 24 * n; omega, by show _ ≤ 4000 * n; omega⟩ rfl (Nat.le_of_ble_eq_true rfl) d_L_comes_46 (fun H locs h => ?_)
      have h : LQ g 200 s _ Z (WL g ad M3) [.inl (a1, b2, (txt T))] [] H locs := h
      refine lv_iconst (v := 1) hx hb d_L_comes_49 (by decide) ?_
      refine lv_icmp_eq (tgt := 55) hx hb d_L_comes_50 (by decide) (fun _ => ?_) (fun h9 => absurd rfl h9)
      refine lv_iinc (v := ((jn i) + 1)) (lv' := [(4, .int ((jn i) + 1)), (3, .ref a1), (0, .ref (ad 0)), (2, .int (jn w))]) hx hb d_L_comes_55 hl (k := 0) rfl rfl (by decide) rfl (fun ls hl => ?_)
      rw [jn_1p] at hl
      refine lv_goto (tgt := 25) hx hb d_L_comes_58 (by decide) ?_
      have hl : lv_has ls 5 [(4, .int (jn (i + 1))), (3, .ref a1), (0, .ref (ad 0)), (2, .int (jn w))] := lv_sub hl [0, 1, 2, 3] rfl
      exact ih H locs ls (i + 1) ⟨A3, M3, by show n2 + (i + 1) = _; omega, r3, k3, hi2.trans hi3, eA3.trans e2, sh3, fun j hj => by
        have hj : j < i + 1 := hj
        rw [el3 j]
        by_cases ej : j = i
        · rw [if_pos ej, ej]
        · rw [if_neg ej]
          exact el2 j (by show j < i; omega), h, hl⟩
