/-! the builder: its room made sure of (laid by wip/p41/gen/jdk7.py) -/
/-- what a builder holds -/
def Bc (u : List Int32) (cap : Nat) (f : Nat → Int32) : Prop := u.length ≤ cap ∧ fitB8 f cap ∧ ∀ j, j < u.length → f j = bt u j
theorem Bc_grow {u : List Int32} {cap N : Nat} {f : Nat → Int32} (h : Bc u cap f) (hN : cap ≤ N) : Bc u N (fun j => if j < cap then f j else 0) := by
  obtain ⟨h1, h2, h3⟩ := h
  refine ⟨by omega, fun k hk => ?_, fun j hj => ?_⟩
  · show fits .byte (.int (if k < cap then f k else 0)) = true
    by_cases c : k < cap
    · rw [if_pos c]; exact h2 k c
    · rw [if_neg c]; decide
  · show (if j < cap then f j else 0) = bt u j
    rw [if_pos (by omega)]
    exact h3 j hj
theorem jz_le0 {n : Nat} (h : n ≤ 2147483648) : jz n ≤ 0 := by
  rw [Int32.le_iff_toInt_le, jz_toInt h]
  have e : (0 : Int32).toInt = 0 := rfl
  omega
set_option maxRecDepth 100000 in
theorem cw_J5_newCapacity_0f7a4 : Jvm.Cond.code yJ5_newCapacity_0f7a4 cJ5_newCapacity_0f7a4 6 (some .int) ∈ TW := TW_mem (List.mem_append_right _ (List.mem_append_right _ (List.mem_append_right _ (List.mem_append_right _ (List.mem_append_left _ (List.mem_of_getElem? (l := tables_1_4) (i := 127) rfl)))))) rfl
set_option maxRecDepth 100000 in
theorem cw_J7_copyOf_9075b : Jvm.Cond.code yJ7_copyOf_9075b cJ7_copyOf_9075b 3 (some (.array .byte)) ∈ TW := TW_mem (List.mem_append_right _ (List.mem_append_right _ (List.mem_append_right _ (List.mem_append_right _ (List.mem_append_left _ (List.mem_of_getElem? (l := tables_1_4) (i := 139) rfl)))))) rfl
theorem d_J5_ensureCapacityInternal_d00df_0 : decode cJ5_ensureCapacityInternal_d00df 0 = .ok (.aload_n 0, 1) := by decide +kernel
theorem d_J5_ensureCapacityInternal_d00df_1 : decode cJ5_ensureCapacityInternal_d00df 1 = .ok (.getfield 15, 3) := by decide +kernel
theorem d_J5_ensureCapacityInternal_d00df_4 : decode cJ5_ensureCapacityInternal_d00df 4 = .ok (.arraylength, 1) := by decide +kernel
theorem d_J5_ensureCapacityInternal_d00df_5 : decode cJ5_ensureCapacityInternal_d00df 5 = .ok (.aload_n 0, 1) := by decide +kernel
theorem d_J5_ensureCapacityInternal_d00df_6 : decode cJ5_ensureCapacityInternal_d00df 6 = .ok (.getfield 22, 3) := by decide +kernel
theorem d_J5_ensureCapacityInternal_d00df_9 : decode cJ5_ensureCapacityInternal_d00df 9 = .ok (.ishr, 1) := by decide +kernel
theorem d_J5_ensureCapacityInternal_d00df_10 : decode cJ5_ensureCapacityInternal_d00df 10 = .ok (.istore_n 2, 1) := by decide +kernel
theorem d_J5_ensureCapacityInternal_d00df_11 : decode cJ5_ensureCapacityInternal_d00df 11 = .ok (.iload_n 1, 1) := by decide +kernel
theorem d_J5_ensureCapacityInternal_d00df_12 : decode cJ5_ensureCapacityInternal_d00df 12 = .ok (.iload_n 2, 1) := by decide +kernel
theorem d_J5_ensureCapacityInternal_d00df_13 : decode cJ5_ensureCapacityInternal_d00df 13 = .ok (.isub, 1) := by decide +kernel
theorem d_J5_ensureCapacityInternal_d00df_14 : decode cJ5_ensureCapacityInternal_d00df 14 = .ok (.ifCond .le (24), 3) := by decide +kernel
theorem d_J5_ensureCapacityInternal_d00df_17 : decode cJ5_ensureCapacityInternal_d00df 17 = .ok (.aload_n 0, 1) := by decide +kernel
theorem d_J5_ensureCapacityInternal_d00df_18 : decode cJ5_ensureCapacityInternal_d00df 18 = .ok (.aload_n 0, 1) := by decide +kernel
theorem d_J5_ensureCapacityInternal_d00df_19 : decode cJ5_ensureCapacityInternal_d00df 19 = .ok (.getfield 15, 3) := by decide +kernel
theorem d_J5_ensureCapacityInternal_d00df_22 : decode cJ5_ensureCapacityInternal_d00df 22 = .ok (.aload_n 0, 1) := by decide +kernel
theorem d_J5_ensureCapacityInternal_d00df_23 : decode cJ5_ensureCapacityInternal_d00df 23 = .ok (.iload_n 1, 1) := by decide +kernel
theorem d_J5_ensureCapacityInternal_d00df_24 : decode cJ5_ensureCapacityInternal_d00df 24 = .ok (.invokevirtual 104, 3) := by decide +kernel
theorem d_J5_ensureCapacityInternal_d00df_27 : decode cJ5_ensureCapacityInternal_d00df 27 = .ok (.aload_n 0, 1) := by decide +kernel
theorem d_J5_ensureCapacityInternal_d00df_28 : decode cJ5_ensureCapacityInternal_d00df 28 = .ok (.getfield 22, 3) := by decide +kernel
theorem d_J5_ensureCapacityInternal_d00df_31 : decode cJ5_ensureCapacityInternal_d00df 31 = .ok (.ishl, 1) := by decide +kernel
theorem d_J5_ensureCapacityInternal_d00df_32 : decode cJ5_ensureCapacityInternal_d00df 32 = .ok (.invokestatic 108, 3) := by decide +kernel
theorem d_J5_ensureCapacityInternal_d00df_35 : decode cJ5_ensureCapacityInternal_d00df 35 = .ok (.putfield 15, 3) := by decide +kernel
theorem d_J5_ensureCapacityInternal_d00df_38 : decode cJ5_ensureCapacityInternal_d00df 38 = .ok (.return_, 1) := by decide +kernel
set_option maxHeartbeats 4000000 in
set_option maxRecDepth 100000 in
theorem s_ensure (l : Launch) (D : va_G) (cB : ClassId) (sz : Nat) (q ar cap N U : Nat) (u : List Int32) (f : Nat → Int32) : Met l yJ5_ensureCapacityInternal_d00df (wD yJ5_ensureCapacityInternal_d00df cJ5_ensureCapacityInternal_d00df 3 none) ({ frames := 3, cells := 1, slots := (2 * U + 16), locals := 150 }) (va_Pc [.ref q, .int (jn N)] (PrW D cB sz [] [(q, .inr (12, [.ref ar, .int 0, .int 0, .int (jn u.length)])), (ar, .inl (cB, cap, .inl f))] (N ≤ U ∧ U ≤ 2000 ∧ cap ≤ 2 * U + 16 ∧ Bc u cap f)))
    (va_Qv (fun _ : Unit => True) (fun _ t => ∃ (ar1 cap1 : Nat) (f1 : Nat → Int32), va_P D vwCl [(q, .inr (12, [.ref ar1, .int 0, .int 0, .int (jn u.length)])), (ar1, .inl (cB, cap1, .inl f1))] t.heap ∧ va_D (va_A [(q, .inr (12, [.ref ar, .int 0, .int 0, .int (jn u.length)])), (ar, .inl (cB, cap, .inl f))] sz) [(q, .inr (12, [.ref ar1, .int 0, .int 0, .int (jn u.length)])), (ar1, .inl (cB, cap1, .inl f1))] ∧ Bc u cap1 f1 ∧ N ≤ cap1 ∧ cap1 ≤ 2 * U + 16) (va_A [(q, .inr (12, [.ref ar, .int 0, .int 0, .int (jn u.length)])), (ar, .inl (cB, cap, .inl f))] sz)) (1) ((2 * U + 16)) (va_A [(q, .inr (12, [.ref ar, .int 0, .int 0, .int (jn u.length)])), (ar, .inl (cB, cap, .inl f))] sz) := by
  refine Met.ofW (cc := cJ5_ensureCapacityInternal_d00df) (maxL := 3) (ret := none) (by decide) rfl ?_
  intro p e s m args below meth c s₁ B hml hv
  obtain ⟨rfl, ⟨hsz, hRO, hPP, hD0, hsep, hX⟩, hJ0⟩ := hv
  have hx := B.exec
  have hb := B.bytes
  have hr := B.returns
  have hts0 := atoms_spec (ws := wD yJ5_ensureCapacityInternal_d00df cJ5_ensureCapacityInternal_d00df 3 none) B.pre
  have hts : ∀ w ∈ TW, w.before _ s = true := fun w h => hts0 w (List.mem_cons_of_mem _ h)
  have hown : s.vm.findClass RJ5 = some m.cls := findClass_of_methodNamed B.named
  have hlocks := B.notSynchronized
  subst hsz
  have hJ := hJ0.inA hPP
  have hro := ro_inA hRO hsep
  have hD := hD0.self (sz := s.heap.size)
  have hA : ∀ x9 : Nat, s.heap.size ≤ x9 → va_A [(q, .inr (12, [.ref ar, .int 0, .int 0, .int (jn u.length)])), (ar, .inl (cB, cap, .inl f))] s.heap.size x9 := fun x9 h => Or.inr h
  have hK := hJ.1
  generalize hAe : va_A [(q, .inr (12, [.ref ar, .int 0, .int 0, .int (jn u.length)])), (ar, .inl (cB, cap, .inl f))] s.heap.size = A at hJ hro hD hA ⊢
  have hS : va_S A s.heap s.heap [] := va_S.rf
  have hP := hPP
  have hl := lv_entry ([.ref q, .int (jn N)]) (n := 3) (Nat.le_of_ble_eq_true rfl)
  rw [lg_entry_eq]
  generalize (lg_sl ([.ref q, .int (jn N)]) ++ List.replicate (3 - (lg_sl ([.ref q, .int (jn N)])).length) Slot.unset).toArray = ls at hl ⊢
  have hl : lv_has ls 3 [(0, .ref q), (1, .int (jn N))] := hl
  obtain ⟨hNU, hU, hcU, hb1, hb2, hb3⟩ := hX
  refine lv_aload_n hx hb d_J5_ensureCapacityInternal_d00df_0 rfl (lv_at hl 0 rfl) ?_
  refine va_get (D := D) (ci := 12) (v := .ref ar) (C := RJ4) (T := TJ4) (N := 4) hx hb hts uw_12 hown hK hP 0 rfl rfl 0 (by decide) (hts (.fieldLink RJ5 15 "java/lang/AbstractStringBuilder" "value" "[B") (by decide +kernel)) (fun _ h9 => h9) rfl d_J5_ensureCapacityInternal_d00df_1 ?_
  refine va_alen (v := jn cap) hx hb hK hP 1 0 rfl rfl (ofNat_jn (by omega)) d_J5_ensureCapacityInternal_d00df_4 ?_
  refine lv_aload_n hx hb d_J5_ensureCapacityInternal_d00df_5 rfl (lv_at hl 0 rfl) ?_
  refine va_get (D := D) (ci := 12) (v := .int 0) (C := RJ4) (T := TJ4) (N := 4) hx hb hts uw_12 hown hK hP 0 rfl rfl 1 (by decide) (hts (.fieldLink RJ5 22 "java/lang/AbstractStringBuilder" "coder" "B") (by decide +kernel)) (fun _ h9 => h9) rfl d_J5_ensureCapacityInternal_d00df_6 ?_
  refine lv_ishr hx hb d_J5_ensureCapacityInternal_d00df_9 ?_
  rw [shr_0]
  refine lv_istore_n (lv' := [(2, .int (jn cap)), (0, .ref q), (1, .int (jn N))]) hx hb d_J5_ensureCapacityInternal_d00df_10 rfl hl (by decide) rfl (fun ls hl => ?_)
  refine lv_iload_n hx hb d_J5_ensureCapacityInternal_d00df_11 rfl (lv_at hl 2 rfl) ?_
  refine lv_iload_n hx hb d_J5_ensureCapacityInternal_d00df_12 rfl (lv_at hl 0 rfl) ?_
  refine lv_isub hx hb d_J5_ensureCapacityInternal_d00df_13 ?_
  by_cases hc : N ≤ cap
  · rw [jn_subz hc]
    refine lv_if_le (tgt := 38) hx hb d_J5_ensureCapacityInternal_d00df_14 (by decide) (fun _ => ?_) (fun h9 => absurd (jz_le0 (by omega)) h9)
    refine W.widen (k := 1) (n := (2 * U + 16)) (by omega) (by omega) ?_
    exact W.vret hx hb hr (fun t ht hW => ⟨⟨(), rfl, trivial, ar, cap, f, by rw [ht]; exact hP.sub (ws' := [(q, .inr (12, [.ref ar, .int 0, .int 0, .int (jn u.length)])), (ar, .inl (cB, cap, .inl f))]) [0, 1] rfl, hD.sub (ws' := [(q, .inr (12, [.ref ar, .int 0, .int 0, .int (jn u.length)])), (ar, .inl (cB, cap, .inl f))]) [0, 1] (by decide) rfl, ⟨hb1, hb2, hb3⟩, hc, hcU⟩, hS.F ht⟩) hS.2.2 d_J5_ensureCapacityInternal_d00df_38
  · rw [jn_sub (by omega)]
    refine lv_if_le (tgt := 38) hx hb d_J5_ensureCapacityInternal_d00df_14 (by decide) (fun h9 => absurd h9 (jn_npos (by omega) (by omega))) (fun _ => ?_)
    refine lv_aload_n hx hb d_J5_ensureCapacityInternal_d00df_17 rfl (lv_at hl 1 rfl) ?_
    refine lv_aload_n hx hb d_J5_ensureCapacityInternal_d00df_18 rfl (lv_at hl 1 rfl) ?_
    refine va_get (D := D) (ci := 12) (v := .ref ar) (C := RJ4) (T := TJ4) (N := 4) hx hb hts uw_12 hown hK hP 0 rfl rfl 0 (by decide) (hts (.fieldLink RJ5 15 "java/lang/AbstractStringBuilder" "value" "[B") (by decide +kernel)) (fun _ h9 => h9) rfl d_J5_ensureCapacityInternal_d00df_19 ?_
    refine lv_aload_n hx hb d_J5_ensureCapacityInternal_d00df_22 rfl (lv_at hl 1 rfl) ?_
    refine lv_iload_n hx hb d_J5_ensureCapacityInternal_d00df_23 rfl (lv_at hl 2 rfl) ?_
    refine sc_i (va_runU (As := [.int (jn N)]) (rest := [.ref ar, .ref q]) ⟨hx, hb, hml, hown, hts⟩ (s_newCapacity l D cB q ar cap N (jn u.length) f) (cw_priv 1 (own := RJ5) (ix := 104) (y := yJ5_newCapacity_0f7a4) hts (g_con cw_J5_newCapacity_0f7a4) rfl rfl (by decide +kernel) (by decide +kernel) (by decide +kernel) (by decide +kernel) hJ.2.2.2.2 (by simp) rfl (by decide +kernel) ⟨(Nat.le_of_ble_eq_true rfl), (Nat.le_of_ble_eq_true rfl)⟩) ⟨pre_blind, va_recv hK hP (ci := 12) (q0 := 0) rfl rfl, fun U hU hW => ⟨rfl, pre_call hU hW ⟨hP, by omega, by omega⟩ ro_nil (hJ.keep hS)⟩⟩ rfl rfl hl.1 rfl (lv_room (Nat.le_of_ble_eq_true rfl)) d_J5_ensureCapacityInternal_d00df_24 ⟨(by show _ ≤ 1; omega), (by show _ ≤ (2 * U + 16); omega)⟩) (fun r9 hr9 => ?_)
    obtain rfl : r9 = jn (cap + max (N - cap) (cap + 2)) := hr9
    refine lv_aload_n hx hb d_J5_ensureCapacityInternal_d00df_27 rfl (lv_at hl 1 rfl) ?_
    refine va_get (D := D) (ci := 12) (v := .int 0) (C := RJ4) (T := TJ4) (N := 4) hx hb hts uw_12 hown hK hP 0 rfl rfl 1 (by decide) (hts (.fieldLink RJ5 22 "java/lang/AbstractStringBuilder" "coder" "B") (by decide +kernel)) (fun _ h9 => h9) rfl d_J5_ensureCapacityInternal_d00df_28 ?_
    refine lv_ishl hx hb d_J5_ensureCapacityInternal_d00df_31 ?_
    rw [shl_0]
    have hFc := va_free (wc := []) hD hS hA [] rfl
    refine va_callr (va_runS (As := [.ref ar, .int (jn (cap + max (N - cap) (cap + 2)))]) (rest := [.ref q]) ⟨hx, hb, hml, hown, hts⟩ (s_copyOf l D cB s.heap.size ar cap (cap + max (N - cap) (cap + 2)) f) (va_cwS 2 hts (g_sta (own := RJ5) (ix := 108) (y := yJ7_copyOf_9075b) (by decide +kernel) (by decide +kernel) (by decide +kernel) (g_con cw_J7_copyOf_9075b)) rfl rfl rfl (by decide +kernel) ⟨(Nat.le_of_ble_eq_true rfl), (Nat.le_of_ble_eq_true rfl)⟩) ⟨prw_blind, fun U hU hW => ⟨rfl, prw_call hU hW (ro_cons (x := (.inr (ar, cap, f))) (P_T 1 hK hP rfl) ro_nil) P_0 D_0 rsep_0 ⟨by omega, by omega, hb2⟩ (hJ.keep hS)⟩⟩ rfl rfl hl.1 rfl (lv_room (Nat.le_of_ble_eq_true rfl)) d_J5_ensureCapacityInternal_d00df_32 ⟨by show _ ≤ 1; omega, by show _ ≤ (2 * U + 16); omega⟩) hS (fun q _ h => hFc q h) hFc (fun u22 r22 t9 H1 locs ht hvm hw hB hz1 hk1 hS => ?_)
    obtain ⟨hP1, hD1⟩ := hB
    rw [ht] at hP1
    obtain ⟨hP, hD⟩ := va_join (wr := [(q, .inr (12, [.ref ar, .int 0, .int 0, .int (jn u.length)])), (ar, .inl (cB, cap, .inl f))]) (w1 := [(r22, .inl (cB, (cap + max (N - cap) (cap + 2)), .inl (fun j => if j < cap then f j else 0)))]) hP hD [] [0, 1] rfl rfl (by decide) (by decide) hk1 hFc hP1 hD1
    clear hP1 hD1 hk1 hz1 hFc
    generalize H1 = H at hP hS ⊢
    have hP : va_P D vwCl [(q, .inr (12, [.ref ar, .int 0, .int 0, .int (jn u.length)])), (ar, .inl (cB, cap, .inl f)), (r22, .inl (cB, (cap + max (N - cap) (cap + 2)), .inl (fun j => if j < cap then f j else 0)))] _ := hP
    have hD : va_D A [(q, .inr (12, [.ref ar, .int 0, .int 0, .int (jn u.length)])), (ar, .inl (cB, cap, .inl f)), (r22, .inl (cB, (cap + max (N - cap) (cap + 2)), .inl (fun j => if j < cap then f j else 0)))] := hD
    refine va_put (D := D) (ci := 12) (v := .ref r22) (ty := (.array .byte)) (C := RJ4) (T := TJ4) (N := 4) hx hb hts uw_12 tyJ4 tyJ4_ok nmJ4 hown hK hP hD hS 0 rfl rfl 0 (by decide) (hts (.fieldLink RJ5 15 "java/lang/AbstractStringBuilder" "value" "[B") (by decide +kernel)) (fun _ h9 => h9) rfl (by decide +kernel) rfl rfl (Nat.le_of_ble_eq_true rfl) d_J5_ensureCapacityInternal_d00df_35 (fun H locs hP hD hS => ?_)
    have hP : va_P D vwCl [(q, .inr (12, [.ref r22, .int 0, .int 0, .int (jn u.length)])), (ar, .inl (cB, cap, .inl f)), (r22, .inl (cB, (cap + max (N - cap) (cap + 2)), .inl (fun j => if j < cap then f j else 0)))] _ := hP
    have hD : va_D A [(q, .inr (12, [.ref r22, .int 0, .int 0, .int (jn u.length)])), (ar, .inl (cB, cap, .inl f)), (r22, .inl (cB, (cap + max (N - cap) (cap + 2)), .inl (fun j => if j < cap then f j else 0)))] := hD
    refine W.widen (k := 1) (n := (2 * U + 16)) (by omega) (by omega) ?_
    exact W.vret hx hb hr (fun t ht hW => ⟨⟨(), rfl, trivial, r22, (cap + max (N - cap) (cap + 2)), (fun j => if j < cap then f j else 0), by rw [ht]; exact hP.sub (ws' := [(q, .inr (12, [.ref r22, .int 0, .int 0, .int (jn u.length)])), (r22, .inl (cB, (cap + max (N - cap) (cap + 2)), .inl (fun j => if j < cap then f j else 0)))]) [0, 2] rfl, hD.sub (ws' := [(q, .inr (12, [.ref r22, .int 0, .int 0, .int (jn u.length)])), (r22, .inl (cB, (cap + max (N - cap) (cap + 2)), .inl (fun j => if j < cap then f j else 0)))]) [0, 2] (by decide) rfl, Bc_grow ⟨hb1, hb2, hb3⟩ (by omega), by omega, by omega⟩, hS.F ht⟩) hS.2.2 d_J5_ensureCapacityInternal_d00df_38
