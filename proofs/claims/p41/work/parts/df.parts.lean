/-! strings, what makes: a part of a row as a string (laid by wip/p41/gen/jdk4.py) -/
theorem jn_0 {n : Nat} (h : n < 2147483648) (e : jn n = 0) : n = 0 := by
  have : jn n = jn 0 := e
  rw [jn_inj h (by omega)] at this
  exact this
theorem jn_nz {n : Nat} (h0 : 0 < n) (h : n < 2147483648) : ¬ jn n = 0 := fun e => by
  have := jn_0 h e
  omega
theorem D_1 {A : Nat → Prop} {q : Nat} {e : va_E} (h : A q) : va_D A [(q, e)] := by
  refine ⟨fun i j x y hx hy _ => ?_, fun k x hk => ?_⟩
  · have := (List.getElem?_eq_some_iff.mp hx).1
    have := (List.getElem?_eq_some_iff.mp hy).1
    simp only [List.length_cons, List.length_nil] at *
    omega
  · match k, hk with
    | 0, hk => cases hk; exact h
set_option maxRecDepth 100000 in
theorem cw_J0_init_031fb : Jvm.Cond.code yJ0_init_031fb cJ0_init_031fb 3 none ∈ TW := TW_mem (List.mem_append_right _ (List.mem_append_right _ (List.mem_append_right _ (List.mem_append_right _ (List.mem_append_right _ (List.mem_append_left _ (List.mem_of_getElem? (l := tables_1_5) (i := 149) rfl))))))) rfl
set_option maxRecDepth 100000 in
theorem cw_J7_copyOfRange_39247 : Jvm.Cond.code yJ7_copyOfRange_39247 cJ7_copyOfRange_39247 3 (some (.array .byte)) ∈ TW := TW_mem (List.mem_append_right _ (List.mem_append_right _ (List.mem_append_right _ (List.mem_append_right _ (List.mem_append_right _ (List.mem_append_left _ (List.mem_of_getElem? (l := tables_1_5) (i := 53) rfl))))))) rfl
set_option maxRecDepth 100000 in
theorem cw_J7_copyOfRangeByte_39247 : Jvm.Cond.code yJ7_copyOfRangeByte_39247 cJ7_copyOfRangeByte_39247 5 (some (.array .byte)) ∈ TW := TW_mem (List.mem_append_right _ (List.mem_append_right _ (List.mem_append_right _ (List.mem_append_right _ (List.mem_append_right _ (List.mem_append_left _ (List.mem_of_getElem? (l := tables_1_5) (i := 56) rfl))))))) rfl
theorem d_J7_copyOfRange_39247_0 : decode cJ7_copyOfRange_39247 0 = .ok (.iload_n 1, 1) := by decide +kernel
theorem d_J7_copyOfRange_39247_1 : decode cJ7_copyOfRange_39247 1 = .ok (.ifCond .ne (9), 3) := by decide +kernel
theorem d_J7_copyOfRange_39247_4 : decode cJ7_copyOfRange_39247 4 = .ok (.iload_n 2, 1) := by decide +kernel
theorem d_J7_copyOfRange_39247_5 : decode cJ7_copyOfRange_39247 5 = .ok (.aload_n 0, 1) := by decide +kernel
theorem d_J7_copyOfRange_39247_6 : decode cJ7_copyOfRange_39247 6 = .ok (.arraylength, 1) := by decide +kernel
theorem d_J7_copyOfRange_39247_7 : decode cJ7_copyOfRange_39247 7 = .ok (.if_icmp .eq (10), 3) := by decide +kernel
theorem d_J7_copyOfRange_39247_10 : decode cJ7_copyOfRange_39247 10 = .ok (.aload_n 0, 1) := by decide +kernel
theorem d_J7_copyOfRange_39247_11 : decode cJ7_copyOfRange_39247 11 = .ok (.iload_n 1, 1) := by decide +kernel
theorem d_J7_copyOfRange_39247_12 : decode cJ7_copyOfRange_39247 12 = .ok (.iload_n 2, 1) := by decide +kernel
theorem d_J7_copyOfRange_39247_13 : decode cJ7_copyOfRange_39247 13 = .ok (.invokestatic 339, 3) := by decide +kernel
theorem d_J7_copyOfRange_39247_16 : decode cJ7_copyOfRange_39247 16 = .ok (.areturn, 1) := by decide +kernel
theorem d_J0_init_031fb_0 : decode cJ0_init_031fb 0 = .ok (.aload_n 0, 1) := by decide +kernel
theorem d_J0_init_031fb_1 : decode cJ0_init_031fb 1 = .ok (.invokespecial 1, 3) := by decide +kernel
theorem d_J0_init_031fb_4 : decode cJ0_init_031fb 4 = .ok (.aload_n 0, 1) := by decide +kernel
theorem d_J0_init_031fb_5 : decode cJ0_init_031fb 5 = .ok (.aload_n 1, 1) := by decide +kernel
theorem d_J0_init_031fb_6 : decode cJ0_init_031fb 6 = .ok (.putfield 9, 3) := by decide +kernel
theorem d_J0_init_031fb_9 : decode cJ0_init_031fb 9 = .ok (.aload_n 0, 1) := by decide +kernel
theorem d_J0_init_031fb_10 : decode cJ0_init_031fb 10 = .ok (.iload_n 2, 1) := by decide +kernel
theorem d_J0_init_031fb_11 : decode cJ0_init_031fb 11 = .ok (.putfield 15, 3) := by decide +kernel
theorem d_J0_init_031fb_14 : decode cJ0_init_031fb 14 = .ok (.return_, 1) := by decide +kernel
theorem d_J1_newString_b4f7a_0 : decode cJ1_newString_b4f7a 0 = .ok (.iload_n 2, 1) := by decide +kernel
theorem d_J1_newString_b4f7a_1 : decode cJ1_newString_b4f7a 1 = .ok (.ifCond .ne (6), 3) := by decide +kernel
theorem d_J1_newString_b4f7a_7 : decode cJ1_newString_b4f7a 7 = .ok (.new 1, 3) := by decide +kernel
theorem d_J1_newString_b4f7a_10 : decode cJ1_newString_b4f7a 10 = .ok (.dup, 1) := by decide +kernel
theorem d_J1_newString_b4f7a_11 : decode cJ1_newString_b4f7a 11 = .ok (.aload_n 0, 1) := by decide +kernel
theorem d_J1_newString_b4f7a_12 : decode cJ1_newString_b4f7a 12 = .ok (.iload_n 1, 1) := by decide +kernel
theorem d_J1_newString_b4f7a_13 : decode cJ1_newString_b4f7a 13 = .ok (.iload_n 1, 1) := by decide +kernel
theorem d_J1_newString_b4f7a_14 : decode cJ1_newString_b4f7a 14 = .ok (.iload_n 2, 1) := by decide +kernel
theorem d_J1_newString_b4f7a_15 : decode cJ1_newString_b4f7a 15 = .ok (.iadd, 1) := by decide +kernel
theorem d_J1_newString_b4f7a_16 : decode cJ1_newString_b4f7a 16 = .ok (.invokestatic 232, 3) := by decide +kernel
theorem d_J1_newString_b4f7a_19 : decode cJ1_newString_b4f7a 19 = .ok (.iconst 0, 1) := by decide +kernel
theorem d_J1_newString_b4f7a_20 : decode cJ1_newString_b4f7a 20 = .ok (.invokespecial 112, 3) := by decide +kernel
theorem d_J1_newString_b4f7a_23 : decode cJ1_newString_b4f7a 23 = .ok (.areturn, 1) := by decide +kernel
set_option maxHeartbeats 4000000 in
set_option maxRecDepth 100000 in
theorem s_copyOfRange (l : Launch) (D : va_G) (cB : ClassId) (sz : Nat) (b i j n : Nat) (f : Nat → Int32) : Met l yJ7_copyOfRange_39247 (wD yJ7_copyOfRange_39247 cJ7_copyOfRange_39247 3 (some (.array .byte))) ({ frames := 3, cells := 1, slots := (j - i), locals := 150 }) (va_Pc [.ref b, .int (jn i), .int (jn j)] (PrW D cB sz [.inr (b, n, f)] [] (i ≤ j ∧ j ≤ n ∧ (0 < i ∨ j < n) ∧ n ≤ 10000 ∧ fitB8 f n)))
    (va_Qr (fun _ : Unit => True) (fun _ ra t => va_P D vwCl [(ra, .inl (cB, j - i, .inl (fun k => f (i + k))))] t.heap ∧ va_D (va_A [] sz) [(ra, .inl (cB, j - i, .inl (fun k => f (i + k))))]) (va_A [] sz)) (1) ((j - i)) (va_A [] sz) := by
  refine Met.ofW (cc := cJ7_copyOfRange_39247) (maxL := 3) (ret := (some (.array .byte))) (by decide) rfl ?_
  intro p e s m args below meth c s₁ B hml hv
  obtain ⟨rfl, ⟨hsz, hRO, hPP, hD0, hsep, hX⟩, hJ0⟩ := hv
  have hx := B.exec
  have hb := B.bytes
  have hr := B.returns
  have hts0 := atoms_spec (ws := wD yJ7_copyOfRange_39247 cJ7_copyOfRange_39247 3 (some (.array .byte))) B.pre
  have hts : ∀ w ∈ TW, w.before _ s = true := fun w h => hts0 w (List.mem_cons_of_mem _ h)
  have hown : s.vm.findClass RJ7 = some m.cls := findClass_of_methodNamed B.named
  have hlocks := B.notSynchronized
  subst hsz
  have hJ := hJ0.inA hPP
  have hro := ro_inA hRO hsep
  have hD := hD0.self (sz := s.heap.size)
  have hA : ∀ x9 : Nat, s.heap.size ≤ x9 → va_A [] s.heap.size x9 := fun x9 h => Or.inr h
  have hK := hJ.1
  generalize hAe : va_A [] s.heap.size = A at hJ hro hD hA ⊢
  have hS : va_S A s.heap s.heap [] := va_S.rf
  have hP := hPP
  have hl := lv_entry ([.ref b, .int (jn i), .int (jn j)]) (n := 3) (Nat.le_of_ble_eq_true rfl)
  rw [lg_entry_eq]
  generalize (lg_sl ([.ref b, .int (jn i), .int (jn j)]) ++ List.replicate (3 - (lg_sl ([.ref b, .int (jn i), .int (jn j)])).length) Slot.unset).toArray = ls at hl ⊢
  have hl : lv_has ls 3 [(0, .ref b), (1, .int (jn i)), (2, .int (jn j))] := hl
  obtain ⟨hij, hj, hne, hn, hf⟩ := hX
  have hF0 : Tf b n f (A) s s.heap := ro_at hro 0 rfl
  refine lv_iload_n hx hb d_J7_copyOfRange_39247_0 rfl (lv_at hl 1 rfl) ?_
  refine lv_if_ne (tgt := 10) hx hb d_J7_copyOfRange_39247_1 (by decide) (fun h9 => ?_) (fun h9 => ?_)
  · refine lv_aload_n hx hb d_J7_copyOfRange_39247_10 rfl (lv_at hl 0 rfl) ?_
    refine lv_iload_n hx hb d_J7_copyOfRange_39247_11 rfl (lv_at hl 1 rfl) ?_
    refine lv_iload_n hx hb d_J7_copyOfRange_39247_12 rfl (lv_at hl 2 rfl) ?_
    have hFc := va_free (wc := []) hD hS hA [] rfl
    refine va_callr (va_runS (As := [.ref b, .int (jn i), .int (jn j)]) (rest := []) ⟨hx, hb, hml, hown, hts⟩ (s_copyOfRangeByte l D cB s.heap.size b i j n f) (va_cwS 3 hts (g_sta (own := RJ7) (ix := 339) (y := yJ7_copyOfRangeByte_39247) (by decide +kernel) (by decide +kernel) (by decide +kernel) (g_con cw_J7_copyOfRangeByte_39247)) rfl rfl rfl (by decide +kernel) ⟨(Nat.le_of_ble_eq_true rfl), (Nat.le_of_ble_eq_true rfl)⟩) ⟨prw_blind, fun U hU hW => ⟨rfl, prw_call hU hW (ro_cons (x := (.inr (b, n, f))) (RoF.at (x := (.inr (b, n, f))) hF0 hS) ro_nil) P_0 D_0 rsep_0 ⟨hij, hj, hn, hf⟩ (hJ.keep hS)⟩⟩ rfl rfl hl.1 rfl (lv_room (Nat.le_of_ble_eq_true rfl)) d_J7_copyOfRange_39247_13 ⟨by show _ ≤ 1; omega, by show _ ≤ (j - i); omega⟩) hS (fun q _ h => hFc q h) hFc (fun u20 r20 t9 H1 locs ht hvm hw hB hz1 hk1 hS => ?_)
    obtain ⟨hP1, hD1⟩ := hB
    rw [ht] at hP1
    obtain ⟨hP, hD⟩ := va_join (wr := []) (w1 := [(r20, .inl (cB, j - i, .inl (fun k => f (i + k))))]) hP hD [] [] rfl rfl (by decide) (by decide) hk1 hFc hP1 hD1
    clear hP1 hD1 hk1 hz1 hFc
    generalize H1 = H at hP hS ⊢
    have hP : va_P D vwCl [(r20, .inl (cB, j - i, .inl (fun k => f (i + k))))] _ := hP
    have hD : va_D A [(r20, .inl (cB, j - i, .inl (fun k => f (i + k))))] := hD
    refine W.widen (k := 1) (n := (j - i)) (by omega) (by omega) ?_
    exact W.aret hx hb hr (Or.inr ⟨_, rfl⟩) (Or.inr ⟨_, rfl⟩) (fun t ht hW => ⟨⟨(), r20, rfl, trivial, by rw [ht]; exact hP.sub (ws' := [(r20, .inl (cB, j - i, .inl (fun k => f (i + k))))]) [0] rfl, hD.sub (ws' := [(r20, .inl (cB, j - i, .inl (fun k => f (i + k))))]) [0] (by decide) rfl⟩, hS.F ht⟩) hS.2.2 d_J7_copyOfRange_39247_16
  · have hi0 : i = 0 := jn_0 (by omega) h9
    refine lv_iload_n hx hb d_J7_copyOfRange_39247_4 rfl (lv_at hl 2 rfl) ?_
    refine lv_aload_n hx hb d_J7_copyOfRange_39247_5 rfl (lv_at hl 0 rfl) ?_
    refine va_tlen hx hb hF0 hS (ofNat_jn (by omega)) d_J7_copyOfRange_39247_6 ?_
    refine lv_icmp_eq (tgt := 17) hx hb d_J7_copyOfRange_39247_7 (by decide) (fun h9 => absurd h9 (fun e9 => by rw [jn_inj (by omega) (by omega)] at e9; omega)) (fun _ => ?_)
    refine lv_aload_n hx hb d_J7_copyOfRange_39247_10 rfl (lv_at hl 0 rfl) ?_
    refine lv_iload_n hx hb d_J7_copyOfRange_39247_11 rfl (lv_at hl 1 rfl) ?_
    refine lv_iload_n hx hb d_J7_copyOfRange_39247_12 rfl (lv_at hl 2 rfl) ?_
    have hFc := va_free (wc := []) hD hS hA [] rfl
    refine va_callr (va_runS (As := [.ref b, .int (jn i), .int (jn j)]) (rest := []) ⟨hx, hb, hml, hown, hts⟩ (s_copyOfRangeByte l D cB s.heap.size b i j n f) (va_cwS 3 hts (g_sta (own := RJ7) (ix := 339) (y := yJ7_copyOfRangeByte_39247) (by decide +kernel) (by decide +kernel) (by decide +kernel) (g_con cw_J7_copyOfRangeByte_39247)) rfl rfl rfl (by decide +kernel) ⟨(Nat.le_of_ble_eq_true rfl), (Nat.le_of_ble_eq_true rfl)⟩) ⟨prw_blind, fun U hU hW => ⟨rfl, prw_call hU hW (ro_cons (x := (.inr (b, n, f))) (RoF.at (x := (.inr (b, n, f))) hF0 hS) ro_nil) P_0 D_0 rsep_0 ⟨hij, hj, hn, hf⟩ (hJ.keep hS)⟩⟩ rfl rfl hl.1 rfl (lv_room (Nat.le_of_ble_eq_true rfl)) d_J7_copyOfRange_39247_13 ⟨by show _ ≤ 1; omega, by show _ ≤ (j - i); omega⟩) hS (fun q _ h => hFc q h) hFc (fun u20 r20 t9 H1 locs ht hvm hw hB hz1 hk1 hS => ?_)
    obtain ⟨hP1, hD1⟩ := hB
    rw [ht] at hP1
    obtain ⟨hP, hD⟩ := va_join (wr := []) (w1 := [(r20, .inl (cB, j - i, .inl (fun k => f (i + k))))]) hP hD [] [] rfl rfl (by decide) (by decide) hk1 hFc hP1 hD1
    clear hP1 hD1 hk1 hz1 hFc
    generalize H1 = H at hP hS ⊢
    have hP : va_P D vwCl [(r20, .inl (cB, j - i, .inl (fun k => f (i + k))))] _ := hP
    have hD : va_D A [(r20, .inl (cB, j - i, .inl (fun k => f (i + k))))] := hD
    refine W.widen (k := 1) (n := (j - i)) (by omega) (by omega) ?_
    exact W.aret hx hb hr (Or.inr ⟨_, rfl⟩) (Or.inr ⟨_, rfl⟩) (fun t ht hW => ⟨⟨(), r20, rfl, trivial, by rw [ht]; exact hP.sub (ws' := [(r20, .inl (cB, j - i, .inl (fun k => f (i + k))))]) [0] rfl, hD.sub (ws' := [(r20, .inl (cB, j - i, .inl (fun k => f (i + k))))]) [0] (by decide) rfl⟩, hS.F ht⟩) hS.2.2 d_J7_copyOfRange_39247_16
set_option maxHeartbeats 4000000 in
set_option maxRecDepth 100000 in
theorem s_strInit (l : Launch) (D : va_G) (cB : ClassId) (sz : Nat) (a v : Nat) : Met l yJ0_init_031fb (wD yJ0_init_031fb cJ0_init_031fb 3 none) ({ frames := 1, cells := 0, slots := 0, locals := 60 }) (va_Pc [.ref a, .ref v, .int 0] (PrW D cB sz [] [(a, .inr (11, [.null, .int 0, .int 0, .int 0]))] (True)))
    (va_Qv (fun _ : Unit => True) (fun _ t => va_P D vwCl [(a, .inr (11, [.ref v, .int 0, .int 0, .int 0]))] t.heap ∧ va_D (va_A [(a, .inr (11, [.null, .int 0, .int 0, .int 0]))] sz) [(a, .inr (11, [.ref v, .int 0, .int 0, .int 0]))]) (va_A [(a, .inr (11, [.null, .int 0, .int 0, .int 0]))] sz)) (0) (0) (va_A [(a, .inr (11, [.null, .int 0, .int 0, .int 0]))] sz) := by
  refine Met.ofW (cc := cJ0_init_031fb) (maxL := 3) (ret := none) (by decide) rfl ?_
  intro p e s m args below meth c s₁ B hml hv
  obtain ⟨rfl, ⟨hsz, hRO, hPP, hD0, hsep, hX⟩, hJ0⟩ := hv
  have hx := B.exec
  have hb := B.bytes
  have hr := B.returns
  have hts0 := atoms_spec (ws := wD yJ0_init_031fb cJ0_init_031fb 3 none) B.pre
  have hts : ∀ w ∈ TW, w.before _ s = true := fun w h => hts0 w (List.mem_cons_of_mem _ h)
  have hown : s.vm.findClass RJ0 = some m.cls := findClass_of_methodNamed B.named
  have hlocks := B.notSynchronized
  subst hsz
  have hJ := hJ0.inA hPP
  have hro := ro_inA hRO hsep
  have hD := hD0.self (sz := s.heap.size)
  have hA : ∀ x9 : Nat, s.heap.size ≤ x9 → va_A [(a, .inr (11, [.null, .int 0, .int 0, .int 0]))] s.heap.size x9 := fun x9 h => Or.inr h
  have hK := hJ.1
  generalize hAe : va_A [(a, .inr (11, [.null, .int 0, .int 0, .int 0]))] s.heap.size = A at hJ hro hD hA ⊢
  have hS : va_S A s.heap s.heap [] := va_S.rf
  have hP := hPP
  have hl := lv_entry ([.ref a, .ref v, .int 0]) (n := 3) (Nat.le_of_ble_eq_true rfl)
  rw [lg_entry_eq]
  generalize (lg_sl ([.ref a, .ref v, .int 0]) ++ List.replicate (3 - (lg_sl ([.ref a, .ref v, .int 0])).length) Slot.unset).toArray = ls at hl ⊢
  have hl : lv_has ls 3 [(0, .ref a), (1, .ref v), (2, .int 0)] := hl
  have hin : meth.name = "<init>" := (name_of_methodNamed B.named B.method).1
  refine lv_aload_n hx hb d_J0_init_031fb_0 rfl (lv_at hl 0 rfl) ?_
  refine W.objInit hx hb hown (hts (.methodLink RJ0 1 objectInit) (by decide +kernel)) (hts (.instanceMethod objectInit) (by decide +kernel)) (hts (.code objectInit ⟨#[0xb1]⟩ 1 none) (by decide +kernel)) rfl (by rw [hml]; exact hl.1) rfl d_J0_init_031fb_1 (Nat.le_of_ble_eq_true rfl) (Nat.le_of_ble_eq_true rfl) ?_
  refine W.eq (g2 := F0 m 4 ls []) rfl ?_
  refine lv_aload_n hx hb d_J0_init_031fb_4 rfl (lv_at hl 0 rfl) ?_
  refine lv_aload_n hx hb d_J0_init_031fb_5 rfl (lv_at hl 1 rfl) ?_
  refine va_putF (D := D) (ci := 11) (v := .ref v) (ty := (.array .byte)) (C := RJ0) (T := TJ0) (N := 4) hx hb hts uw_11 tyJ0 tyJ0_ok nmJ0 hown hK hP hD hS 0 rfl rfl 0 (by decide) (hts (.fieldLink RJ0 9 "java/lang/String" "value" "[B") (by decide +kernel)) (fun _ h9 => h9) rfl hin rfl (by decide +kernel) rfl rfl (Nat.le_of_ble_eq_true rfl) d_J0_init_031fb_6 (fun H locs hP hD hS => ?_)
  have hP : va_P D vwCl [(a, .inr (11, [.ref v, .int 0, .int 0, .int 0]))] _ := hP
  have hD : va_D A [(a, .inr (11, [.ref v, .int 0, .int 0, .int 0]))] := hD
  refine lv_aload_n hx hb d_J0_init_031fb_9 rfl (lv_at hl 0 rfl) ?_
  refine lv_iload_n hx hb d_J0_init_031fb_10 rfl (lv_at hl 2 rfl) ?_
  refine va_putF (D := D) (ci := 11) (v := .int 0) (ty := .byte) (C := RJ0) (T := TJ0) (N := 4) hx hb hts uw_11 tyJ0 tyJ0_ok nmJ0 hown hK hP hD hS 0 rfl rfl 1 (by decide) (hts (.fieldLink RJ0 15 "java/lang/String" "coder" "B") (by decide +kernel)) (fun _ h9 => h9) rfl hin rfl (by decide +kernel) rfl rfl (Nat.le_of_ble_eq_true rfl) d_J0_init_031fb_11 (fun H locs hP hD hS => ?_)
  have hP : va_P D vwCl [(a, .inr (11, [.ref v, .int 0, .int 0, .int 0]))] _ := hP
  have hD : va_D A [(a, .inr (11, [.ref v, .int 0, .int 0, .int 0]))] := hD
  refine W.widen (k := 0) (n := 0) (by omega) (by omega) ?_
  exact W.vret hx hb hr (fun t ht hW => ⟨⟨(), rfl, trivial, by rw [ht]; exact hP.sub (ws' := [(a, .inr (11, [.ref v, .int 0, .int 0, .int 0]))]) [0] rfl, hD.sub (ws' := [(a, .inr (11, [.ref v, .int 0, .int 0, .int 0]))]) [0] (by decide) rfl⟩, hS.F ht⟩) hS.2.2 d_J0_init_031fb_14
set_option maxHeartbeats 4000000 in
set_option maxRecDepth 100000 in
theorem s_newString (l : Launch) (D : va_G) (cB : ClassId) (sz : Nat) (b i k n : Nat) (f : Nat → Int32) : Met l yJ1_newString_b4f7a (wD yJ1_newString_b4f7a cJ1_newString_b4f7a 3 (some (.object "java/lang/String"))) ({ frames := 4, cells := 2, slots := (k + 4), locals := 200 }) (va_Pc [.ref b, .int (jn i), .int (jn k)] (PrW D cB sz [.inr (b, n, f)] [] (0 < k ∧ i + k ≤ n ∧ (0 < i ∨ i + k < n) ∧ n ≤ 10000 ∧ fitB8 f n)))
    (va_Qr (fun _ : Nat => True) (fun rb ra t => va_P D vwCl [(ra, .inr (11, [.ref rb, .int 0, .int 0, .int 0])), (rb, .inl (cB, k, .inl (fun k => f (i + k))))] t.heap ∧ va_D (va_A [] sz) [(ra, .inr (11, [.ref rb, .int 0, .int 0, .int 0])), (rb, .inl (cB, k, .inl (fun k => f (i + k))))]) (va_A [] sz)) (2) ((k + 4)) (va_A [] sz) := by
  refine Met.ofW (cc := cJ1_newString_b4f7a) (maxL := 3) (ret := (some (.object "java/lang/String"))) (by decide) rfl ?_
  intro p e s m args below meth c s₁ B hml hv
  obtain ⟨rfl, ⟨hsz, hRO, hPP, hD0, hsep, hX⟩, hJ0⟩ := hv
  have hx := B.exec
  have hb := B.bytes
  have hr := B.returns
  have hts0 := atoms_spec (ws := wD yJ1_newString_b4f7a cJ1_newString_b4f7a 3 (some (.object "java/lang/String"))) B.pre
  have hts : ∀ w ∈ TW, w.before _ s = true := fun w h => hts0 w (List.mem_cons_of_mem _ h)
  have hown : s.vm.findClass RJ1 = some m.cls := findClass_of_methodNamed B.named
  have hlocks := B.notSynchronized
  subst hsz
  have hJ := hJ0.inA hPP
  have hro := ro_inA hRO hsep
  have hD := hD0.self (sz := s.heap.size)
  have hA : ∀ x9 : Nat, s.heap.size ≤ x9 → va_A [] s.heap.size x9 := fun x9 h => Or.inr h
  have hK := hJ.1
  generalize hAe : va_A [] s.heap.size = A at hJ hro hD hA ⊢
  have hS : va_S A s.heap s.heap [] := va_S.rf
  have hP := hPP
  have hl := lv_entry ([.ref b, .int (jn i), .int (jn k)]) (n := 3) (Nat.le_of_ble_eq_true rfl)
  rw [lg_entry_eq]
  generalize (lg_sl ([.ref b, .int (jn i), .int (jn k)]) ++ List.replicate (3 - (lg_sl ([.ref b, .int (jn i), .int (jn k)])).length) Slot.unset).toArray = ls at hl ⊢
  have hl : lv_has ls 3 [(0, .ref b), (1, .int (jn i)), (2, .int (jn k))] := hl
  obtain ⟨hk, hik, hne, hn, hf⟩ := hX
  have hF0 : Tf b n f (A) s s.heap := ro_at hro 0 rfl
  refine lv_iload_n hx hb d_J1_newString_b4f7a_0 rfl (lv_at hl 2 rfl) ?_
  refine lv_if_ne (tgt := 7) hx hb d_J1_newString_b4f7a_1 (by decide) (fun _ => ?_) (fun h9 => absurd h9 (jn_nz hk (by omega)))
  refine va_new (ci := 11) (fs := [.null, .int 0, .int 0, .int 0]) (C := RJ0) (T := TJ0) (N := 4) hx hb hts uw_11 tyJ0 tyJ0_ok hown (hts (.classLink RJ1 1 RJ0) (by decide +kernel)) (hts (.instantiable RJ0 4) (by decide +kernel)) (hts (.initialized RJ0) (by decide +kernel)) hK hP hD hS hA rfl (fun j hj => by rcases (show j = 0 ∨ j = 1 ∨ j = 2 ∨ j = 3 by omega) with rfl | rfl | rfl | rfl <;> rfl) (by show _ ≤ 2; omega) (by show _ ≤ (k + 4); omega) d_J1_newString_b4f7a_7 (fun q10 H hP hD hS => ?_)
  have hP : va_P D vwCl [(q10, .inr (11, [.null, .int 0, .int 0, .int 0]))] _ := hP
  have hD : va_D A [(q10, .inr (11, [.null, .int 0, .int 0, .int 0]))] := hD
  refine lv_dup hx hb d_J1_newString_b4f7a_10 rfl ?_
  refine lv_aload_n hx hb d_J1_newString_b4f7a_11 rfl (lv_at hl 0 rfl) ?_
  refine lv_iload_n hx hb d_J1_newString_b4f7a_12 rfl (lv_at hl 1 rfl) ?_
  refine lv_iload_n hx hb d_J1_newString_b4f7a_13 rfl (lv_at hl 1 rfl) ?_
  refine lv_iload_n hx hb d_J1_newString_b4f7a_14 rfl (lv_at hl 2 rfl) ?_
  refine lv_iadd hx hb d_J1_newString_b4f7a_15 ?_
  rw [jn_add]
  have hFc := va_free (wc := []) hD hS hA [] rfl
  refine va_callr (va_runS (As := [.ref b, .int (jn i), .int (jn (i + k))]) (rest := [.ref q10, .ref q10]) ⟨hx, hb, hml, hown, hts⟩ (s_copyOfRange l D cB H.size b i (i + k) n f) (va_cwS 3 hts (g_sta (own := RJ1) (ix := 232) (y := yJ7_copyOfRange_39247) (by decide +kernel) (by decide +kernel) (by decide +kernel) (g_con cw_J7_copyOfRange_39247)) rfl rfl rfl (by decide +kernel) ⟨(Nat.le_of_ble_eq_true rfl), (Nat.le_of_ble_eq_true rfl)⟩) ⟨prw_blind, fun U hU hW => ⟨rfl, prw_call hU hW (ro_cons (x := (.inr (b, n, f))) (RoF.at (x := (.inr (b, n, f))) hF0 hS) ro_nil) P_0 D_0 rsep_0 ⟨by omega, hik, hne, hn, hf⟩ (hJ.keep hS)⟩⟩ rfl rfl hl.1 rfl (lv_room (Nat.le_of_ble_eq_true rfl)) d_J1_newString_b4f7a_16 ⟨by show _ ≤ 2; omega, by show _ ≤ (k + 4); omega⟩) hS (fun q _ h => hFc q h) hFc (fun u21 r21 t9 H1 locs ht hvm hw hB hz1 hk1 hS => ?_)
  obtain ⟨hP1, hD1⟩ := hB
  rw [ht] at hP1
  obtain ⟨hP, hD⟩ := va_join (wr := [(q10, .inr (11, [.null, .int 0, .int 0, .int 0]))]) (w1 := [(r21, .inl (cB, (i + k) - i, .inl (fun k => f (i + k))))]) hP hD [] [0] rfl rfl (by decide) (by decide) hk1 hFc hP1 hD1
  clear hP1 hD1 hk1 hz1 hFc
  generalize H1 = H at hP hS ⊢
  have hP : va_P D vwCl [(q10, .inr (11, [.null, .int 0, .int 0, .int 0])), (r21, .inl (cB, (i + k) - i, .inl (fun k => f (i + k))))] _ := hP
  have hD : va_D A [(q10, .inr (11, [.null, .int 0, .int 0, .int 0])), (r21, .inl (cB, (i + k) - i, .inl (fun k => f (i + k))))] := hD
  refine lv_iconst (v := 0) hx hb d_J1_newString_b4f7a_19 (by decide) ?_
  have hPc := hP.sub (ws' := [(q10, .inr (11, [.null, .int 0, .int 0, .int 0]))]) [0] rfl
  have hDc := hD.sub (ws' := [(q10, .inr (11, [.null, .int 0, .int 0, .int 0]))]) [0] (by decide) rfl
  have hFc := va_free (wc := [(q10, .inr (11, [.null, .int 0, .int 0, .int 0]))]) hD hS hA [0] rfl
  refine va_callv (va_runI (As := [.ref r21, .int 0]) (rest := [.ref q10]) ⟨hx, hb, hml, hown, hts⟩ (s_strInit l D cB H.size q10 r21) (cwI 2 hts (g_con cw_J0_init_031fb) rfl rfl rfl (hts (.initialized RJ0) (by decide +kernel)) (hts (.methodLink RJ1 112 yJ0_init_031fb) (by decide +kernel)) (hts (.instanceMethod yJ0_init_031fb) (by decide +kernel)) rfl (by decide +kernel) ⟨(Nat.le_of_ble_eq_true rfl), (Nat.le_of_ble_eq_true rfl)⟩) ⟨prw_blind, fun U hU hW => ⟨rfl, prw_call hU hW ro_nil hPc (hDc.weaken (fun _ _ _ _ => trivial)) rsep_l trivial (hJ.keep hS)⟩⟩ rfl rfl hl.1 rfl (lv_room (Nat.le_of_ble_eq_true rfl)) d_J1_newString_b4f7a_20 ⟨by show _ ≤ 2; omega, by show _ ≤ (k + 4); omega⟩) hS (fun q _ h => hFc q h) hFc (fun u t9 H1 locs ht hvm hw hB hz1 hk1 hS => ?_)
  obtain ⟨hP1, hD1⟩ := hB
  rw [ht] at hP1
  obtain ⟨hP, hD⟩ := va_join (wr := [(r21, .inl (cB, (i + k) - i, .inl (fun k => f (i + k))))]) (w1 := [(q10, .inr (11, [.ref r21, .int 0, .int 0, .int 0]))]) hP hD [0] [1] rfl rfl (by decide) (by decide) hk1 hFc hP1 hD1
  clear hP1 hD1 hk1 hz1 hFc hPc hDc
  generalize H1 = H at hP hS ⊢
  have hP : va_P D vwCl [(r21, .inl (cB, (i + k) - i, .inl (fun k => f (i + k)))), (q10, .inr (11, [.ref r21, .int 0, .int 0, .int 0]))] _ := hP
  have hD : va_D A [(r21, .inl (cB, (i + k) - i, .inl (fun k => f (i + k)))), (q10, .inr (11, [.ref r21, .int 0, .int 0, .int 0]))] := hD
  rw [show i + k - i = k by omega] at hP hD
  have hP : va_P D vwCl [(r21, .inl (cB, k, .inl (fun k => f (i + k)))), (q10, .inr (11, [.ref r21, .int 0, .int 0, .int 0]))] _ := hP
  have hD : va_D A [(r21, .inl (cB, k, .inl (fun k => f (i + k)))), (q10, .inr (11, [.ref r21, .int 0, .int 0, .int 0]))] := hD
  refine W.widen (k := 2) (n := (k + 4)) (by omega) (by omega) ?_
  exact W.aret hx hb hr (Or.inl ⟨_, rfl⟩) (Or.inr ⟨_, rfl⟩) (fun t ht hW => ⟨⟨r21, q10, rfl, trivial, by rw [ht]; exact hP.sub (ws' := [(q10, .inr (11, [.ref r21, .int 0, .int 0, .int 0])), (r21, .inl (cB, k, .inl (fun k => f (i + k))))]) [1, 0] rfl, hD.sub (ws' := [(q10, .inr (11, [.ref r21, .int 0, .int 0, .int 0])), (r21, .inl (cB, k, .inl (fun k => f (i + k))))]) [1, 0] (by decide) rfl⟩, hS.F ht⟩) hS.2.2 d_J1_newString_b4f7a_23
