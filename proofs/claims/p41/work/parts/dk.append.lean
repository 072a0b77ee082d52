/-! the builder: append, toString; equals (laid by wip/p41/gen/jdk8.py) -/
def Srr (a0 : Nat) : Array Value → State → Outcome → State → Prop := fun _ st oc t => oc = .returned (some (.ref a0)) ∧ t.heap = st.heap
section
variable {p : Program} {l : Launch} {e : Env} {R : Room} {s : State} {m : MethodId} {args : Array Value} {below : List Frame} {meth : Method} {c : Code} {H : Heap} {locs : List Loc} {cells slots : Nat} {Q : State → Prop}
variable {pc : Nat} {ls : Array Slot} {rest st0 : List Value} {a : Array Value}
theorem sc_r {a0 : Nat} (hr : va_Run p l e R s m args below meth c H locs cells slots 0 0 (F0 m pc ls st0) rest (Srr a0 a) (fun _ => False))
    (kk : W p l e R s m args below meth c H locs cells slots Q (F0 m (pc + 3) ls (.ref a0 :: rest))) : W p l e R s m args below meth c H locs cells slots Q (F0 m pc ls st0) := by
  intro T hT X
  obtain ⟨v, st₀, t, T', L, h0, X', hL, e1, -, ⟨hv, hh⟩, st⟩ := hr T hT X
  cases hv
  obtain ⟨t2, a1, b1⟩ := kk T' (by rw [e1, hh, h0]) (Stand.forget X' (fun q h => (hL q h).elim))
  exact ⟨t2, st t2 a1, b1⟩
end
theorem g_sup {own : String} {ix : Nat} {y : MethodName} {ws : List Jvm.Cond} (h1 : Jvm.Cond.methodLink own ix y ∈ TW) (h2 : Jvm.Cond.sameMethod y.cls y.cls y.name y.desc ∈ TW) (h3 : Jvm.Cond.superclass own y.cls ∈ TW) (h4 : Jvm.Cond.instanceMethod y ∈ TW) (h5 : Jvm.Cond.initialized y.cls ∈ TW) (h : GoodIn TW ws) : GoodIn TW (va_wsSU own ix y ws) := by
  intro w hw
  unfold va_wsSU at hw
  rcases List.mem_append.mp hw with hw | hw
  · rcases List.mem_cons.mp hw with rfl | hw
    · exact ⟨h1, good_of_word (TW_good _ h1)⟩
    rcases List.mem_cons.mp hw with rfl | hw
    · exact ⟨h2, good_of_word (TW_good _ h2)⟩
    rcases List.mem_cons.mp hw with rfl | hw
    · exact ⟨h3, good_of_word (TW_good _ h3)⟩
    rcases List.mem_cons.mp hw with rfl | hw
    · exact ⟨h4, good_of_word (TW_good _ h4)⟩
    rcases List.mem_cons.mp hw with rfl | hw
    · exact ⟨h5, good_of_word (TW_good _ h5)⟩
    · cases hw
  · exact h w hw
theorem g_ovr {own C : String} {ix : Nat} {x y : MethodName} {ws : List Jvm.Cond} (h1 : Jvm.Cond.methodLink own ix x ∈ TW) (h2 : Jvm.Cond.sameMethod x.cls x.cls x.name x.desc ∈ TW) (h3 : Jvm.Cond.instanceMethod x ∈ TW) (h4 : Jvm.Cond.selects C x y ∈ TW) (h5 : Jvm.Cond.instanceMethod y ∈ TW) (h6 : Jvm.Cond.initialized y.cls ∈ TW) (h : GoodIn TW ws) : GoodIn TW (va_wsO own ix C x.cls x y ws) := by
  intro w hw
  unfold va_wsO at hw
  rcases List.mem_append.mp hw with hw | hw
  · rcases List.mem_cons.mp hw with rfl | hw
    · exact ⟨h1, good_of_word (TW_good _ h1)⟩
    rcases List.mem_cons.mp hw with rfl | hw
    · exact ⟨h2, good_of_word (TW_good _ h2)⟩
    rcases List.mem_cons.mp hw with rfl | hw
    · exact ⟨h3, good_of_word (TW_good _ h3)⟩
    rcases List.mem_cons.mp hw with rfl | hw
    · exact ⟨h4, good_of_word (TW_good _ h4)⟩
    rcases List.mem_cons.mp hw with rfl | hw
    · exact ⟨h5, good_of_word (TW_good _ h5)⟩
    rcases List.mem_cons.mp hw with rfl | hw
    · exact ⟨h6, good_of_word (TW_good _ h6)⟩
    · cases hw
  · exact h w hw
theorem jn_1p {n : Nat} : jn n + 1 = jn (n + 1) := jn_add n 1
theorem jn_n255 {n : Nat} (h : n < 128) : ¬ 255 < jn n := by
  intro z
  have := Int32.lt_iff_toInt_lt.mp z
  rw [jn_toInt (by omega)] at this
  have e : (255 : Int32).toInt = 255 := rfl
  omega
theorem nar8 : ∀ k, k < 128 → vp_nar .byte ((jn k).toInt8.toInt32) = jn k := by decide +kernel
theorem bt_l {u t : List Int32} {j : Nat} (h : j < u.length) : bt (u ++ t) j = bt u j := by
  unfold bt
  rw [List.getD_eq_getElem?_getD, List.getD_eq_getElem?_getD, List.getElem?_append_left h]
theorem bt_r {u t : List Int32} {j : Nat} (h : u.length ≤ j) : bt (u ++ t) j = bt t (j - u.length) := by
  unfold bt
  rw [List.getD_eq_getElem?_getD, List.getD_eq_getElem?_getD, List.getElem?_append_right h]
theorem Bc_c {u : List Int32} {cap k : Nat} {f : Nat → Int32} (h : Bc u cap f) (hN : u.length + 1 ≤ cap) (hk : k < 128) : Bc (u ++ [jn k]) cap (upd f u.length (jn k)) := by
  obtain ⟨h1, h2, h3⟩ := h
  refine ⟨by rw [List.length_append]; exact hN, fun j hj => ?_, fun j hj => ?_⟩
  · by_cases e : j = u.length
    · subst e
      rw [pk_us]
      exact fit_128 k hk
    · rw [pk_un e]
      exact h2 j hj
  · rw [List.length_append, List.length_singleton] at hj
    by_cases e : j = u.length
    · subst e
      rw [pk_us, bt_r (Nat.le_refl _), Nat.sub_self]
      rfl
    · rw [pk_un e, h3 j (by omega), bt_l (by omega)]
theorem Bc_s {u t : List Int32} {cap : Nat} {f : Nat → Int32} (h : Bc u cap f) (hN : u.length + t.length ≤ cap) (ht : As t) : Bc (u ++ t) cap (va_cpy (bt t) f 0 u.length t.length) := by
  obtain ⟨h1, h2, h3⟩ := h
  refine ⟨by rw [List.length_append]; exact hN, fun j hj => ?_, fun j hj => ?_⟩
  · by_cases e : u.length ≤ j ∧ j < u.length + t.length
    · rw [pk_cpy_in e.1 e.2]
      exact as_fB ht _ (by omega)
    · rw [pk_cpy_out (by omega)]
      exact h2 j hj
  · rw [List.length_append] at hj
    by_cases e : u.length ≤ j
    · rw [pk_cpy_in e hj, bt_r e, Nat.zero_add]
    · rw [pk_cpy_out (by omega), h3 j (by omega), bt_l (by omega)]
theorem clone_P {D : va_G} {cB : ClassId} {b q1 n : Nat} {f : Nat → Int32} {H H1 : Heap} (h0 : va_P D vwCl [(b, .inl (cB, n, .inl f))] H) (h1 : va_P D vwCl [(q1, .inl (cB, n, .inl f))] H1) (hk : ∀ q : Nat, q < H.size → H1[q]? = H[q]?) : va_P D vwCl [(b, .inl (cB, n, .inl f)), (q1, .inl (cB, n, .inl f))] H1 :=
  va_P.app (w1 := [(b, .inl (cB, n, .inl f))]) (h0.kept (fun k q hq => hk _ (va_lt h0 hq))) h1
theorem clone_D {D : va_G} {cB : ClassId} {b q1 n : Nat} {f : Nat → Int32} {H : Heap} (h0 : va_P D vwCl [(b, .inl (cB, n, .inl f))] H) (hq : H.size ≤ q1) : va_D (va_A [(b, .inl (cB, n, .inl f))] H.size) [(b, .inl (cB, n, .inl f)), (q1, .inl (cB, n, .inl f))] := by
  have hb := va_lt h0 (k := 0) rfl
  have hb : b < H.size := hb
  refine va_D.app (w1 := [(b, .inl (cB, n, .inl f))]) (D_1 (Or.inl ⟨0, _, rfl⟩)) (D_1 (Or.inr hq)) (fun i j x y hx hy hxy => ?_)
  match i, hx, j, hy with
  | 0, hx, 0, hy =>
    cases hx
    cases hy
    simp only at hxy
    omega
theorem Sf_len {a b b2 : Nat} {t t2 : List Int32} {A : Nat → Prop} {s : State} {H : Heap} (h : Sf a b t A s H) (h2 : Sf a b2 t2 A s H) (hn : t.length ≤ 1000) (hn2 : t2.length ≤ 1000) : t.length = t2.length := by
  obtain ⟨-, -, ⟨cf, k, i, fd, c1, e1, -, e3, -, e5, -⟩, ⟨cell, g1, -, -, -, g5, -⟩⟩ := h
  obtain ⟨-, -, ⟨cf', k', i', fd', c1', e1', -, e3', -, e5', -⟩, ⟨cell', g1', -, -, -, g5', -⟩⟩ := h2
  cases e1.symm.trans e1'
  cases e3.symm.trans e3'
  cases e5.symm.trans e5'
  cases g1.symm.trans g1'
  have e := g5.symm.trans g5'
  rw [ofNat_jn (by omega), ofNat_jn (by omega), jn_inj (by omega) (by omega)] at e
  exact e
set_option maxRecDepth 100000 in
theorem cw_J5_append_3fe6f : Jvm.Cond.code yJ5_append_3fe6f cJ5_append_3fe6f 2 (some (.object "java/lang/AbstractStringBuilder")) ∈ TW := TW_mem (List.mem_append_right _ (List.mem_append_right _ (List.mem_append_right _ (List.mem_append_right _ (List.mem_append_right _ (List.mem_append_left _ (List.mem_of_getElem? (l := tables_1_5) (i := 17) rfl))))))) rfl
set_option maxRecDepth 100000 in
theorem cw_J5_append_cf1ce : Jvm.Cond.code yJ5_append_cf1ce cJ5_append_cf1ce 3 (some (.object "java/lang/AbstractStringBuilder")) ∈ TW := TW_mem (List.mem_append_right _ (List.mem_append_right _ (List.mem_append_right _ (List.mem_append_right _ (List.mem_append_left _ (List.mem_of_getElem? (l := tables_1_4) (i := 115) rfl)))))) rfl
set_option maxRecDepth 100000 in
theorem cw_J5_ensureCapacityInternal_d00df : Jvm.Cond.code yJ5_ensureCapacityInternal_d00df cJ5_ensureCapacityInternal_d00df 3 none ∈ TW := TW_mem (List.mem_append_right _ (List.mem_append_right _ (List.mem_append_right _ (List.mem_append_right _ (List.mem_append_left _ (List.mem_of_getElem? (l := tables_1_4) (i := 123) rfl)))))) rfl
set_option maxRecDepth 100000 in
theorem cw_J5_getValue_6d5f1 : Jvm.Cond.code yJ5_getValue_6d5f1 cJ5_getValue_6d5f1 1 (some (.array .byte)) ∈ TW := TW_mem (List.mem_append_right _ (List.mem_append_right _ (List.mem_append_right _ (List.mem_append_right _ (List.mem_append_right _ (List.mem_append_left _ (List.mem_of_getElem? (l := tables_1_5) (i := 41) rfl))))))) rfl
set_option maxRecDepth 100000 in
theorem cw_J5_inflateIfNeededFor_a7421 : Jvm.Cond.code yJ5_inflateIfNeededFor_a7421 cJ5_inflateIfNeededFor_a7421 2 none ∈ TW := TW_mem (List.mem_append_right _ (List.mem_append_right _ (List.mem_append_right _ (List.mem_append_right _ (List.mem_append_left _ (List.mem_of_getElem? (l := tables_1_4) (i := 196) rfl)))))) rfl
set_option maxRecDepth 100000 in
theorem cw_J5_isLatin1_aae02 : Jvm.Cond.code yJ5_isLatin1_aae02 cJ5_isLatin1_aae02 1 (some .boolean) ∈ TW := TW_mem (List.mem_append_right _ (List.mem_append_right _ (List.mem_append_right _ (List.mem_append_right _ (List.mem_append_left _ (List.mem_of_getElem? (l := tables_1_4) (i := 153) rfl)))))) rfl
set_option maxRecDepth 100000 in
theorem cw_J5_length_8abf5 : Jvm.Cond.code yJ5_length_8abf5 cJ5_length_8abf5 1 (some .int) ∈ TW := TW_mem (List.mem_append_right _ (List.mem_append_right _ (List.mem_append_right _ (List.mem_append_right _ (List.mem_append_right _ (List.mem_append_left _ (List.mem_of_getElem? (l := tables_1_5) (i := 49) rfl))))))) rfl
set_option maxRecDepth 100000 in
theorem cw_J5_putStringAt_47b60 : Jvm.Cond.code yJ5_putStringAt_47b60 cJ5_putStringAt_47b60 3 none ∈ TW := TW_mem (List.mem_append_right _ (List.mem_append_right _ (List.mem_append_right _ (List.mem_append_right _ (List.mem_append_left _ (List.mem_of_getElem? (l := tables_1_4) (i := 192) rfl)))))) rfl
set_option maxRecDepth 100000 in
theorem cw_J0_init_db425 : Jvm.Cond.code yJ0_init_db425 cJ0_init_db425 5 none ∈ TW := TW_mem (List.mem_append_right _ (List.mem_append_right _ (List.mem_append_right _ (List.mem_append_right _ (List.mem_append_right _ (List.mem_append_left _ (List.mem_of_getElem? (l := tables_1_5) (i := 35) rfl))))))) rfl
set_option maxRecDepth 100000 in
theorem cw_J0_init_81219 : Jvm.Cond.code yJ0_init_81219 cJ0_init_81219 2 none ∈ TW := TW_mem (List.mem_append_right _ (List.mem_append_right _ (List.mem_append_right _ (List.mem_append_right _ (List.mem_append_right _ (List.mem_append_left _ (List.mem_of_getElem? (l := tables_1_5) (i := 32) rfl))))))) rfl
set_option maxRecDepth 100000 in
theorem cw_J0_getBytes_840e7 : Jvm.Cond.code yJ0_getBytes_840e7 cJ0_getBytes_840e7 4 none ∈ TW := TW_mem (List.mem_append_right _ (List.mem_append_right _ (List.mem_append_right _ (List.mem_append_right _ (List.mem_append_left _ (List.mem_of_getElem? (l := tables_1_4) (i := 220) rfl)))))) rfl
set_option maxRecDepth 100000 in
theorem cw_J4_length_8abf5 : Jvm.Cond.code yJ4_length_8abf5 cJ4_length_8abf5 1 (some .int) ∈ TW := TW_mem (List.mem_append_right _ (List.mem_append_right _ (List.mem_append_right _ (List.mem_append_right _ (List.mem_append_right _ (List.mem_append_left _ (List.mem_of_getElem? (l := tables_1_5) (i := 47) rfl))))))) rfl
set_option maxRecDepth 100000 in
theorem cw_J1_canEncode_fc78d : Jvm.Cond.code yJ1_canEncode_fc78d cJ1_canEncode_fc78d 1 (some .boolean) ∈ TW := TW_mem (List.mem_append_right _ (List.mem_append_right _ (List.mem_append_right _ (List.mem_append_right _ (List.mem_append_right _ (List.mem_append_left _ (List.mem_of_getElem? (l := tables_1_5) (i := 20) rfl))))))) rfl
set_option maxRecDepth 100000 in
theorem cw_J1_equals_b5fdf : Jvm.Cond.code yJ1_equals_b5fdf cJ1_equals_b5fdf 3 (some .boolean) ∈ TW := TW_mem (List.mem_append_right _ (List.mem_append_right _ (List.mem_append_right _ (List.mem_append_right _ (List.mem_append_right _ (List.mem_append_right _ (List.mem_append_right _ (List.mem_of_getElem? (l := tables_1_7) (i := 23) rfl)))))))) rfl
theorem d_J1_canEncode_fc78d_0 : decode cJ1_canEncode_fc78d 0 = .ok (.iload_n 0, 1) := by decide +kernel
theorem d_J1_canEncode_fc78d_1 : decode cJ1_canEncode_fc78d 1 = .ok (.sipush (255), 3) := by decide +kernel
theorem d_J1_canEncode_fc78d_4 : decode cJ1_canEncode_fc78d 4 = .ok (.if_icmp .gt (7), 3) := by decide +kernel
theorem d_J1_canEncode_fc78d_7 : decode cJ1_canEncode_fc78d 7 = .ok (.iconst 1, 1) := by decide +kernel
theorem d_J1_canEncode_fc78d_8 : decode cJ1_canEncode_fc78d 8 = .ok (.goto (4), 3) := by decide +kernel
theorem d_J1_canEncode_fc78d_12 : decode cJ1_canEncode_fc78d 12 = .ok (.ireturn, 1) := by decide +kernel
theorem d_J5_append_3fe6f_0 : decode cJ5_append_3fe6f 0 = .ok (.aload_n 0, 1) := by decide +kernel
theorem d_J5_append_3fe6f_1 : decode cJ5_append_3fe6f 1 = .ok (.aload_n 0, 1) := by decide +kernel
theorem d_J5_append_3fe6f_2 : decode cJ5_append_3fe6f 2 = .ok (.getfield 79, 3) := by decide +kernel
theorem d_J5_append_3fe6f_5 : decode cJ5_append_3fe6f 5 = .ok (.iconst 1, 1) := by decide +kernel
theorem d_J5_append_3fe6f_6 : decode cJ5_append_3fe6f 6 = .ok (.iadd, 1) := by decide +kernel
theorem d_J5_append_3fe6f_7 : decode cJ5_append_3fe6f 7 = .ok (.invokevirtual 100, 3) := by decide +kernel
theorem d_J5_append_3fe6f_10 : decode cJ5_append_3fe6f 10 = .ok (.aload_n 0, 1) := by decide +kernel
theorem d_J5_append_3fe6f_11 : decode cJ5_append_3fe6f 11 = .ok (.invokevirtual 83, 3) := by decide +kernel
theorem d_J5_append_3fe6f_14 : decode cJ5_append_3fe6f 14 = .ok (.ifCond .eq (31), 3) := by decide +kernel
theorem d_J5_append_3fe6f_17 : decode cJ5_append_3fe6f 17 = .ok (.iload_n 1, 1) := by decide +kernel
theorem d_J5_append_3fe6f_18 : decode cJ5_append_3fe6f 18 = .ok (.invokestatic 191, 3) := by decide +kernel
theorem d_J5_append_3fe6f_21 : decode cJ5_append_3fe6f 21 = .ok (.ifCond .eq (24), 3) := by decide +kernel
theorem d_J5_append_3fe6f_24 : decode cJ5_append_3fe6f 24 = .ok (.aload_n 0, 1) := by decide +kernel
theorem d_J5_append_3fe6f_25 : decode cJ5_append_3fe6f 25 = .ok (.getfield 15, 3) := by decide +kernel
theorem d_J5_append_3fe6f_28 : decode cJ5_append_3fe6f 28 = .ok (.aload_n 0, 1) := by decide +kernel
theorem d_J5_append_3fe6f_29 : decode cJ5_append_3fe6f 29 = .ok (.dup, 1) := by decide +kernel
theorem d_J5_append_3fe6f_30 : decode cJ5_append_3fe6f 30 = .ok (.getfield 79, 3) := by decide +kernel
theorem d_J5_append_3fe6f_33 : decode cJ5_append_3fe6f 33 = .ok (.dup_x1, 1) := by decide +kernel
theorem d_J5_append_3fe6f_34 : decode cJ5_append_3fe6f 34 = .ok (.iconst 1, 1) := by decide +kernel
theorem d_J5_append_3fe6f_35 : decode cJ5_append_3fe6f 35 = .ok (.iadd, 1) := by decide +kernel
theorem d_J5_append_3fe6f_36 : decode cJ5_append_3fe6f 36 = .ok (.putfield 79, 3) := by decide +kernel
theorem d_J5_append_3fe6f_39 : decode cJ5_append_3fe6f 39 = .ok (.iload_n 1, 1) := by decide +kernel
theorem d_J5_append_3fe6f_40 : decode cJ5_append_3fe6f 40 = .ok (.i2b, 1) := by decide +kernel
theorem d_J5_append_3fe6f_41 : decode cJ5_append_3fe6f 41 = .ok (.bastore, 1) := by decide +kernel
theorem d_J5_append_3fe6f_42 : decode cJ5_append_3fe6f 42 = .ok (.goto (33), 3) := by decide +kernel
theorem d_J5_append_3fe6f_75 : decode cJ5_append_3fe6f 75 = .ok (.aload_n 0, 1) := by decide +kernel
theorem d_J5_append_3fe6f_76 : decode cJ5_append_3fe6f 76 = .ok (.areturn, 1) := by decide +kernel
theorem d_J4_append_cf468_0 : decode cJ4_append_cf468 0 = .ok (.aload_n 0, 1) := by decide +kernel
theorem d_J4_append_cf468_1 : decode cJ4_append_cf468 1 = .ok (.iload_n 1, 1) := by decide +kernel
theorem d_J4_append_cf468_2 : decode cJ4_append_cf468 2 = .ok (.invokespecial 50, 3) := by decide +kernel
theorem d_J4_append_cf468_5 : decode cJ4_append_cf468 5 = .ok (.pop, 1) := by decide +kernel
theorem d_J4_append_cf468_6 : decode cJ4_append_cf468 6 = .ok (.aload_n 0, 1) := by decide +kernel
theorem d_J4_append_cf468_7 : decode cJ4_append_cf468 7 = .ok (.areturn, 1) := by decide +kernel
theorem d_J5_inflateIfNeededFor_a7421_0 : decode cJ5_inflateIfNeededFor_a7421 0 = .ok (.getstatic 18, 3) := by decide +kernel
theorem d_J5_inflateIfNeededFor_a7421_3 : decode cJ5_inflateIfNeededFor_a7421 3 = .ok (.ifCond .eq (18), 3) := by decide +kernel
theorem d_J5_inflateIfNeededFor_a7421_6 : decode cJ5_inflateIfNeededFor_a7421 6 = .ok (.aload_n 0, 1) := by decide +kernel
theorem d_J5_inflateIfNeededFor_a7421_7 : decode cJ5_inflateIfNeededFor_a7421 7 = .ok (.getfield 22, 3) := by decide +kernel
theorem d_J5_inflateIfNeededFor_a7421_10 : decode cJ5_inflateIfNeededFor_a7421 10 = .ok (.aload_n 1, 1) := by decide +kernel
theorem d_J5_inflateIfNeededFor_a7421_11 : decode cJ5_inflateIfNeededFor_a7421 11 = .ok (.invokevirtual 40, 3) := by decide +kernel
theorem d_J5_inflateIfNeededFor_a7421_14 : decode cJ5_inflateIfNeededFor_a7421 14 = .ok (.if_icmp .eq (7), 3) := by decide +kernel
theorem d_J5_inflateIfNeededFor_a7421_21 : decode cJ5_inflateIfNeededFor_a7421 21 = .ok (.return_, 1) := by decide +kernel
theorem d_J0_getBytes_840e7_0 : decode cJ0_getBytes_840e7 0 = .ok (.aload_n 0, 1) := by decide +kernel
theorem d_J0_getBytes_840e7_1 : decode cJ0_getBytes_840e7 1 = .ok (.invokevirtual 335, 3) := by decide +kernel
theorem d_J0_getBytes_840e7_4 : decode cJ0_getBytes_840e7 4 = .ok (.iload_n 3, 1) := by decide +kernel
theorem d_J0_getBytes_840e7_5 : decode cJ0_getBytes_840e7 5 = .ok (.if_icmp .ne (23), 3) := by decide +kernel
theorem d_J0_getBytes_840e7_8 : decode cJ0_getBytes_840e7 8 = .ok (.aload_n 0, 1) := by decide +kernel
theorem d_J0_getBytes_840e7_9 : decode cJ0_getBytes_840e7 9 = .ok (.getfield 9, 3) := by decide +kernel
theorem d_J0_getBytes_840e7_12 : decode cJ0_getBytes_840e7 12 = .ok (.iconst 0, 1) := by decide +kernel
theorem d_J0_getBytes_840e7_13 : decode cJ0_getBytes_840e7 13 = .ok (.aload_n 1, 1) := by decide +kernel
theorem d_J0_getBytes_840e7_14 : decode cJ0_getBytes_840e7 14 = .ok (.iload_n 2, 1) := by decide +kernel
theorem d_J0_getBytes_840e7_15 : decode cJ0_getBytes_840e7 15 = .ok (.iload_n 3, 1) := by decide +kernel
theorem d_J0_getBytes_840e7_16 : decode cJ0_getBytes_840e7 16 = .ok (.ishl, 1) := by decide +kernel
theorem d_J0_getBytes_840e7_17 : decode cJ0_getBytes_840e7 17 = .ok (.aload_n 0, 1) := by decide +kernel
theorem d_J0_getBytes_840e7_18 : decode cJ0_getBytes_840e7 18 = .ok (.getfield 9, 3) := by decide +kernel
theorem d_J0_getBytes_840e7_21 : decode cJ0_getBytes_840e7 21 = .ok (.arraylength, 1) := by decide +kernel
theorem d_J0_getBytes_840e7_22 : decode cJ0_getBytes_840e7 22 = .ok (.invokestatic 212, 3) := by decide +kernel
theorem d_J0_getBytes_840e7_25 : decode cJ0_getBytes_840e7 25 = .ok (.goto (18), 3) := by decide +kernel
theorem d_J0_getBytes_840e7_43 : decode cJ0_getBytes_840e7 43 = .ok (.return_, 1) := by decide +kernel
theorem d_J5_putStringAt_47b60_0 : decode cJ5_putStringAt_47b60 0 = .ok (.aload_n 0, 1) := by decide +kernel
theorem d_J5_putStringAt_47b60_1 : decode cJ5_putStringAt_47b60 1 = .ok (.aload_n 2, 1) := by decide +kernel
theorem d_J5_putStringAt_47b60_2 : decode cJ5_putStringAt_47b60 2 = .ok (.invokevirtual 397, 3) := by decide +kernel
theorem d_J5_putStringAt_47b60_5 : decode cJ5_putStringAt_47b60 5 = .ok (.aload_n 2, 1) := by decide +kernel
theorem d_J5_putStringAt_47b60_6 : decode cJ5_putStringAt_47b60 6 = .ok (.aload_n 0, 1) := by decide +kernel
theorem d_J5_putStringAt_47b60_7 : decode cJ5_putStringAt_47b60 7 = .ok (.getfield 15, 3) := by decide +kernel
theorem d_J5_putStringAt_47b60_10 : decode cJ5_putStringAt_47b60 10 = .ok (.iload_n 1, 1) := by decide +kernel
theorem d_J5_putStringAt_47b60_11 : decode cJ5_putStringAt_47b60 11 = .ok (.aload_n 0, 1) := by decide +kernel
theorem d_J5_putStringAt_47b60_12 : decode cJ5_putStringAt_47b60 12 = .ok (.getfield 22, 3) := by decide +kernel
theorem d_J5_putStringAt_47b60_15 : decode cJ5_putStringAt_47b60 15 = .ok (.invokevirtual 399, 3) := by decide +kernel
theorem d_J5_putStringAt_47b60_18 : decode cJ5_putStringAt_47b60 18 = .ok (.return_, 1) := by decide +kernel
theorem d_J5_append_cf1ce_0 : decode cJ5_append_cf1ce 0 = .ok (.aload_n 1, 1) := by decide +kernel
theorem d_J5_append_cf1ce_1 : decode cJ5_append_cf1ce 1 = .ok (.ifnonnull (8), 3) := by decide +kernel
theorem d_J5_append_cf1ce_9 : decode cJ5_append_cf1ce 9 = .ok (.aload_n 1, 1) := by decide +kernel
theorem d_J5_append_cf1ce_10 : decode cJ5_append_cf1ce 10 = .ok (.invokevirtual 32, 3) := by decide +kernel
theorem d_J5_append_cf1ce_13 : decode cJ5_append_cf1ce 13 = .ok (.istore_n 2, 1) := by decide +kernel
theorem d_J5_append_cf1ce_14 : decode cJ5_append_cf1ce 14 = .ok (.aload_n 0, 1) := by decide +kernel
theorem d_J5_append_cf1ce_15 : decode cJ5_append_cf1ce 15 = .ok (.aload_n 0, 1) := by decide +kernel
theorem d_J5_append_cf1ce_16 : decode cJ5_append_cf1ce 16 = .ok (.getfield 79, 3) := by decide +kernel
theorem d_J5_append_cf1ce_19 : decode cJ5_append_cf1ce 19 = .ok (.iload_n 2, 1) := by decide +kernel
theorem d_J5_append_cf1ce_20 : decode cJ5_append_cf1ce 20 = .ok (.iadd, 1) := by decide +kernel
theorem d_J5_append_cf1ce_21 : decode cJ5_append_cf1ce 21 = .ok (.invokevirtual 100, 3) := by decide +kernel
theorem d_J5_append_cf1ce_24 : decode cJ5_append_cf1ce 24 = .ok (.aload_n 0, 1) := by decide +kernel
theorem d_J5_append_cf1ce_25 : decode cJ5_append_cf1ce 25 = .ok (.aload_n 0, 1) := by decide +kernel
theorem d_J5_append_cf1ce_26 : decode cJ5_append_cf1ce 26 = .ok (.getfield 79, 3) := by decide +kernel
theorem d_J5_append_cf1ce_29 : decode cJ5_append_cf1ce 29 = .ok (.aload_n 1, 1) := by decide +kernel
theorem d_J5_append_cf1ce_30 : decode cJ5_append_cf1ce 30 = .ok (.invokevirtual 208, 3) := by decide +kernel
theorem d_J5_append_cf1ce_33 : decode cJ5_append_cf1ce 33 = .ok (.aload_n 0, 1) := by decide +kernel
theorem d_J5_append_cf1ce_34 : decode cJ5_append_cf1ce 34 = .ok (.dup, 1) := by decide +kernel
theorem d_J5_append_cf1ce_35 : decode cJ5_append_cf1ce 35 = .ok (.getfield 79, 3) := by decide +kernel
theorem d_J5_append_cf1ce_38 : decode cJ5_append_cf1ce 38 = .ok (.iload_n 2, 1) := by decide +kernel
theorem d_J5_append_cf1ce_39 : decode cJ5_append_cf1ce 39 = .ok (.iadd, 1) := by decide +kernel
theorem d_J5_append_cf1ce_40 : decode cJ5_append_cf1ce 40 = .ok (.putfield 79, 3) := by decide +kernel
theorem d_J5_append_cf1ce_43 : decode cJ5_append_cf1ce 43 = .ok (.aload_n 0, 1) := by decide +kernel
theorem d_J5_append_cf1ce_44 : decode cJ5_append_cf1ce 44 = .ok (.areturn, 1) := by decide +kernel
theorem d_J4_append_15ec4_0 : decode cJ4_append_15ec4 0 = .ok (.aload_n 0, 1) := by decide +kernel
theorem d_J4_append_15ec4_1 : decode cJ4_append_15ec4 1 = .ok (.aload_n 1, 1) := by decide +kernel
theorem d_J4_append_15ec4_2 : decode cJ4_append_15ec4 2 = .ok (.invokespecial 29, 3) := by decide +kernel
theorem d_J4_append_15ec4_5 : decode cJ4_append_15ec4 5 = .ok (.pop, 1) := by decide +kernel
theorem d_J4_append_15ec4_6 : decode cJ4_append_15ec4 6 = .ok (.aload_n 0, 1) := by decide +kernel
theorem d_J4_append_15ec4_7 : decode cJ4_append_15ec4 7 = .ok (.areturn, 1) := by decide +kernel
theorem d_J5_getValue_6d5f1_0 : decode cJ5_getValue_6d5f1 0 = .ok (.aload_n 0, 1) := by decide +kernel
theorem d_J5_getValue_6d5f1_1 : decode cJ5_getValue_6d5f1 1 = .ok (.getfield 15, 3) := by decide +kernel
theorem d_J5_getValue_6d5f1_4 : decode cJ5_getValue_6d5f1 4 = .ok (.areturn, 1) := by decide +kernel
theorem d_J5_length_8abf5_0 : decode cJ5_length_8abf5 0 = .ok (.aload_n 0, 1) := by decide +kernel
theorem d_J5_length_8abf5_1 : decode cJ5_length_8abf5 1 = .ok (.getfield 79, 3) := by decide +kernel
theorem d_J5_length_8abf5_4 : decode cJ5_length_8abf5 4 = .ok (.ireturn, 1) := by decide +kernel
theorem d_J7_copyOfRange_39247_17 : decode cJ7_copyOfRange_39247 17 = .ok (.aload_n 0, 1) := by decide +kernel
theorem d_J7_copyOfRange_39247_18 : decode cJ7_copyOfRange_39247 18 = .ok (.invokevirtual 310, 3) := by decide +kernel
theorem d_J7_copyOfRange_39247_21 : decode cJ7_copyOfRange_39247 21 = .ok (.checkcast 311, 3) := by decide +kernel
theorem d_J7_copyOfRange_39247_24 : decode cJ7_copyOfRange_39247 24 = .ok (.areturn, 1) := by decide +kernel
theorem d_J4_length_8abf5_0 : decode cJ4_length_8abf5 0 = .ok (.aload_n 0, 1) := by decide +kernel
theorem d_J4_length_8abf5_1 : decode cJ4_length_8abf5 1 = .ok (.invokespecial 343, 3) := by decide +kernel
theorem d_J4_length_8abf5_4 : decode cJ4_length_8abf5 4 = .ok (.ireturn, 1) := by decide +kernel
theorem d_J0_init_db425_0 : decode cJ0_init_db425 0 = .ok (.aload_n 0, 1) := by decide +kernel
theorem d_J0_init_db425_1 : decode cJ0_init_db425 1 = .ok (.invokespecial 1, 3) := by decide +kernel
theorem d_J0_init_db425_4 : decode cJ0_init_db425 4 = .ok (.aload_n 1, 1) := by decide +kernel
theorem d_J0_init_db425_5 : decode cJ0_init_db425 5 = .ok (.invokevirtual 552, 3) := by decide +kernel
theorem d_J0_init_db425_8 : decode cJ0_init_db425 8 = .ok (.astore_n 3, 1) := by decide +kernel
theorem d_J0_init_db425_9 : decode cJ0_init_db425 9 = .ok (.aload_n 1, 1) := by decide +kernel
theorem d_J0_init_db425_10 : decode cJ0_init_db425 10 = .ok (.invokevirtual 549, 3) := by decide +kernel
theorem d_J0_init_db425_13 : decode cJ0_init_db425 13 = .ok (.istore 4, 2) := by decide +kernel
theorem d_J0_init_db425_15 : decode cJ0_init_db425 15 = .ok (.aload_n 1, 1) := by decide +kernel
theorem d_J0_init_db425_16 : decode cJ0_init_db425 16 = .ok (.invokevirtual 1047, 3) := by decide +kernel
theorem d_J0_init_db425_19 : decode cJ0_init_db425 19 = .ok (.ifCond .eq (22), 3) := by decide +kernel
theorem d_J0_init_db425_22 : decode cJ0_init_db425 22 = .ok (.aload_n 0, 1) := by decide +kernel
theorem d_J0_init_db425_23 : decode cJ0_init_db425 23 = .ok (.iconst 0, 1) := by decide +kernel
theorem d_J0_init_db425_24 : decode cJ0_init_db425 24 = .ok (.putfield 15, 3) := by decide +kernel
theorem d_J0_init_db425_27 : decode cJ0_init_db425 27 = .ok (.aload_n 0, 1) := by decide +kernel
theorem d_J0_init_db425_28 : decode cJ0_init_db425 28 = .ok (.aload_n 3, 1) := by decide +kernel
theorem d_J0_init_db425_29 : decode cJ0_init_db425 29 = .ok (.iconst 0, 1) := by decide +kernel
theorem d_J0_init_db425_30 : decode cJ0_init_db425 30 = .ok (.iload 4, 2) := by decide +kernel
theorem d_J0_init_db425_32 : decode cJ0_init_db425 32 = .ok (.invokestatic 54, 3) := by decide +kernel
theorem d_J0_init_db425_35 : decode cJ0_init_db425 35 = .ok (.putfield 9, 3) := by decide +kernel
theorem d_J0_init_db425_38 : decode cJ0_init_db425 38 = .ok (.goto (59), 3) := by decide +kernel
theorem d_J0_init_db425_97 : decode cJ0_init_db425 97 = .ok (.return_, 1) := by decide +kernel
theorem d_J0_init_81219_0 : decode cJ0_init_81219 0 = .ok (.aload_n 0, 1) := by decide +kernel
theorem d_J0_init_81219_1 : decode cJ0_init_81219 1 = .ok (.aload_n 1, 1) := by decide +kernel
theorem d_J0_init_81219_2 : decode cJ0_init_81219 2 = .ok (.aconst_null, 1) := by decide +kernel
theorem d_J0_init_81219_3 : decode cJ0_init_81219 3 = .ok (.invokespecial 489, 3) := by decide +kernel
theorem d_J0_init_81219_6 : decode cJ0_init_81219 6 = .ok (.return_, 1) := by decide +kernel
theorem d_J4_toString_0e30d_0 : decode cJ4_toString_0e30d 0 = .ok (.new 18, 3) := by decide +kernel
theorem d_J4_toString_0e30d_3 : decode cJ4_toString_0e30d 3 = .ok (.dup, 1) := by decide +kernel
theorem d_J4_toString_0e30d_4 : decode cJ4_toString_0e30d 4 = .ok (.aload_n 0, 1) := by decide +kernel
theorem d_J4_toString_0e30d_5 : decode cJ4_toString_0e30d 5 = .ok (.invokespecial 137, 3) := by decide +kernel
theorem d_J4_toString_0e30d_8 : decode cJ4_toString_0e30d 8 = .ok (.areturn, 1) := by decide +kernel
theorem d_J1_equals_b5fdf_0 : decode cJ1_equals_b5fdf 0 = .ok (.aload_n 0, 1) := by decide +kernel
theorem d_J1_equals_b5fdf_1 : decode cJ1_equals_b5fdf 1 = .ok (.arraylength, 1) := by decide +kernel
theorem d_J1_equals_b5fdf_2 : decode cJ1_equals_b5fdf 2 = .ok (.aload_n 1, 1) := by decide +kernel
theorem d_J1_equals_b5fdf_3 : decode cJ1_equals_b5fdf 3 = .ok (.arraylength, 1) := by decide +kernel
theorem d_J1_equals_b5fdf_4 : decode cJ1_equals_b5fdf 4 = .ok (.if_icmp .ne (30), 3) := by decide +kernel
theorem d_J1_equals_b5fdf_34 : decode cJ1_equals_b5fdf 34 = .ok (.iconst 0, 1) := by decide +kernel
theorem d_J1_equals_b5fdf_35 : decode cJ1_equals_b5fdf 35 = .ok (.ireturn, 1) := by decide +kernel
theorem d_J0_equals_9ea2d_0 : decode cJ0_equals_9ea2d 0 = .ok (.aload_n 0, 1) := by decide +kernel
theorem d_J0_equals_9ea2d_1 : decode cJ0_equals_9ea2d 1 = .ok (.aload_n 1, 1) := by decide +kernel
theorem d_J0_equals_9ea2d_2 : decode cJ0_equals_9ea2d 2 = .ok (.if_acmp .ne (5), 3) := by decide +kernel
theorem d_J0_equals_9ea2d_7 : decode cJ0_equals_9ea2d 7 = .ok (.aload_n 1, 1) := by decide +kernel
theorem d_J0_equals_9ea2d_8 : decode cJ0_equals_9ea2d 8 = .ok (.instanceof 10, 3) := by decide +kernel
theorem d_J0_equals_9ea2d_11 : decode cJ0_equals_9ea2d 11 = .ok (.ifCond .eq (43), 3) := by decide +kernel
theorem d_J0_equals_9ea2d_14 : decode cJ0_equals_9ea2d 14 = .ok (.aload_n 1, 1) := by decide +kernel
theorem d_J0_equals_9ea2d_15 : decode cJ0_equals_9ea2d 15 = .ok (.checkcast 10, 3) := by decide +kernel
theorem d_J0_equals_9ea2d_18 : decode cJ0_equals_9ea2d 18 = .ok (.astore_n 2, 1) := by decide +kernel
theorem d_J0_equals_9ea2d_19 : decode cJ0_equals_9ea2d 19 = .ok (.getstatic 38, 3) := by decide +kernel
theorem d_J0_equals_9ea2d_22 : decode cJ0_equals_9ea2d 22 = .ok (.ifCond .eq (14), 3) := by decide +kernel
theorem d_J0_equals_9ea2d_25 : decode cJ0_equals_9ea2d 25 = .ok (.aload_n 0, 1) := by decide +kernel
theorem d_J0_equals_9ea2d_26 : decode cJ0_equals_9ea2d 26 = .ok (.getfield 15, 3) := by decide +kernel
theorem d_J0_equals_9ea2d_29 : decode cJ0_equals_9ea2d 29 = .ok (.aload_n 2, 1) := by decide +kernel
theorem d_J0_equals_9ea2d_30 : decode cJ0_equals_9ea2d 30 = .ok (.getfield 15, 3) := by decide +kernel
theorem d_J0_equals_9ea2d_33 : decode cJ0_equals_9ea2d 33 = .ok (.if_icmp .ne (21), 3) := by decide +kernel
theorem d_J0_equals_9ea2d_36 : decode cJ0_equals_9ea2d 36 = .ok (.aload_n 0, 1) := by decide +kernel
theorem d_J0_equals_9ea2d_37 : decode cJ0_equals_9ea2d 37 = .ok (.getfield 9, 3) := by decide +kernel
theorem d_J0_equals_9ea2d_40 : decode cJ0_equals_9ea2d 40 = .ok (.aload_n 2, 1) := by decide +kernel
theorem d_J0_equals_9ea2d_41 : decode cJ0_equals_9ea2d 41 = .ok (.getfield 9, 3) := by decide +kernel
theorem d_J0_equals_9ea2d_44 : decode cJ0_equals_9ea2d 44 = .ok (.invokestatic 541, 3) := by decide +kernel
theorem d_J0_equals_9ea2d_47 : decode cJ0_equals_9ea2d 47 = .ok (.ifCond .eq (7), 3) := by decide +kernel
theorem d_J0_equals_9ea2d_54 : decode cJ0_equals_9ea2d 54 = .ok (.iconst 0, 1) := by decide +kernel
theorem d_J0_equals_9ea2d_55 : decode cJ0_equals_9ea2d 55 = .ok (.ireturn, 1) := by decide +kernel
set_option maxHeartbeats 4000000 in
set_option maxRecDepth 100000 in
theorem s_canEncodeC (l : Launch) (D : va_G) (cB : ClassId) (k : Nat) : Met l yJ1_canEncode_fc78d (wD yJ1_canEncode_fc78d cJ1_canEncode_fc78d 1 (some .boolean)) ({ frames := 1, cells := 0, slots := 0, locals := 60 }) (va_Pc [.int (jn k)] (PrJ D cB [] (fun H => k < 128))) (Sri (fun r => r = 1)) 0 0 (fun _ => False) := by
  refine Met.ofW (cc := cJ1_canEncode_fc78d) (maxL := 1) (ret := (some .boolean)) (by decide) rfl ?_
  intro p e s m args below meth c s₁ B hml hv
  obtain ⟨rfl, hX, hro, hJ⟩ := hv
  have hx := B.exec
  have hb := B.bytes
  have hr := B.returns
  have hts0 := atoms_spec (ws := wD yJ1_canEncode_fc78d cJ1_canEncode_fc78d 1 (some .boolean)) B.pre
  have hts : ∀ w ∈ TW, w.before _ s = true := fun w h => hts0 w (List.mem_cons_of_mem _ h)
  have hown : s.vm.findClass RJ1 = some m.cls := findClass_of_methodNamed B.named
  have hlocks := B.notSynchronized
  have hS : va_S (fun _ => False) s.heap s.heap [] := va_S.rf
  have hK := hJ.1
  have hl := lv_entry ([.int (jn k)]) (n := 1) (Nat.le_of_ble_eq_true rfl)
  rw [lg_entry_eq]
  generalize (lg_sl ([.int (jn k)]) ++ List.replicate (1 - (lg_sl ([.int (jn k)])).length) Slot.unset).toArray = ls at hl ⊢
  have hl : lv_has ls 1 [(0, .int (jn k))] := hl
  refine lv_iload_n hx hb d_J1_canEncode_fc78d_0 rfl (lv_at hl 0 rfl) ?_
  refine lv_sipush (v := (255)) hx hb d_J1_canEncode_fc78d_1 (by decide) ?_
  refine lv_icmp_gt (tgt := 11) hx hb d_J1_canEncode_fc78d_4 (by decide) (fun h9 => absurd h9 (jn_n255 hX)) (fun _ => ?_)
  refine lv_iconst (v := 1) hx hb d_J1_canEncode_fc78d_7 (by decide) ?_
  refine lv_goto (tgt := 12) hx hb d_J1_canEncode_fc78d_8 (by decide) ?_
  exact W.zret hx hb hr rfl (fun t ht hW => ⟨_, rfl, rfl, ht⟩) (fun q h => by cases h) d_J1_canEncode_fc78d_12
set_option maxHeartbeats 4000000 in
set_option maxRecDepth 100000 in
theorem s_bAppC0 (l : Launch) (D : va_G) (cB : ClassId) (sz : Nat) (q ar cap k U : Nat) (u : List Int32) (f : Nat → Int32) : Met l yJ5_append_3fe6f (wD yJ5_append_3fe6f cJ5_append_3fe6f 2 (some (.object "java/lang/AbstractStringBuilder"))) ({ frames := 4, cells := 1, slots := (2 * U + 16), locals := 200 }) (va_Pc [.ref q, .int (jn k)] (PrW D cB sz [] [(q, .inr (12, [.ref ar, .int 0, .int 0, .int (jn u.length)])), (ar, .inl (cB, cap, .inl f))] (u.length + 1 ≤ U ∧ U ≤ 2000 ∧ cap ≤ 2 * U + 16 ∧ Bc u cap f ∧ k < 128)))
    (va_Qr (fun _ : Unit => True) (fun _ ra t9 => ra = q ∧ ∃ (ar1 cap1 : Nat) (f1 : Nat → Int32), va_P D vwCl [(q, .inr (12, [.ref ar1, .int 0, .int 0, .int (jn (u ++ [jn k]).length)])), (ar1, .inl (cB, cap1, .inl f1))] t9.heap ∧ va_D (va_A [(q, .inr (12, [.ref ar, .int 0, .int 0, .int (jn u.length)])), (ar, .inl (cB, cap, .inl f))] sz) [(q, .inr (12, [.ref ar1, .int 0, .int 0, .int (jn (u ++ [jn k]).length)])), (ar1, .inl (cB, cap1, .inl f1))] ∧ Bc (u ++ [jn k]) cap1 f1 ∧ cap1 ≤ 2 * U + 16) (va_A [(q, .inr (12, [.ref ar, .int 0, .int 0, .int (jn u.length)])), (ar, .inl (cB, cap, .inl f))] sz)) (1) ((2 * U + 16)) (va_A [(q, .inr (12, [.ref ar, .int 0, .int 0, .int (jn u.length)])), (ar, .inl (cB, cap, .inl f))] sz) := by
  refine Met.ofW (cc := cJ5_append_3fe6f) (maxL := 2) (ret := (some (.object "java/lang/AbstractStringBuilder"))) (by decide) rfl ?_
  intro p e s m args below meth c s₁ B hml hv
  obtain ⟨rfl, ⟨hsz, hRO, hPP, hD0, hsep, hX⟩, hJ0⟩ := hv
  have hx := B.exec
  have hb := B.bytes
  have hr := B.returns
  have hts0 := atoms_spec (ws := wD yJ5_append_3fe6f cJ5_append_3fe6f 2 (some (.object "java/lang/AbstractStringBuilder"))) B.pre
  have hts : ∀ w ∈ TW, w.before _ s = true := fun w h => hts0 w (List.mem_cons_of_mem _ h)
  have hown : s.vm.findClass RJ5 = some m.cls := findClass_of_methodNamed B.named
  have hlocks := B.notSynchronized
  subst hsz
  have hJ := hJ0.inA hPP
  have hro := ro_inA hRO hsep
  have hD := hD0.self (sz := s.heap.size)
  have hA : ∀ x9 : Nat, s.heap.size ≤ x9 → va_A [(q, .inr (12, [.ref ar, .int 0, .int 0, .int (jn u.length)])), (ar, .inl (cB, cap, .inl f))] s.heap.size x9 := fun x9 h => Or.inr h
  have hK := hJ.1
  generalize hAe : va_A [(q, .inr (12, [.ref ar, .int 0, .int 0, .int (jn u.length)])), (ar, .inl (cB, cap, .inl f))] s.heap.size = A at hJ hro hD hA ⊢
  have hS : va_S A s.heap s.heap [] := va_S.rf
  have hP := hPP
  have hl := lv_entry ([.ref q, .int (jn k)]) (n := 2) (Nat.le_of_ble_eq_true rfl)
  rw [lg_entry_eq]
  generalize (lg_sl ([.ref q, .int (jn k)]) ++ List.replicate (2 - (lg_sl ([.ref q, .int (jn k)])).length) Slot.unset).toArray = ls at hl ⊢
  have hl : lv_has ls 2 [(0, .ref q), (1, .int (jn k))] := hl
  obtain ⟨hU1, hUU, hcU, hbc, hk⟩ := hX
  refine lv_aload_n hx hb d_J5_append_3fe6f_0 rfl (lv_at hl 0 rfl) ?_
  refine lv_aload_n hx hb d_J5_append_3fe6f_1 rfl (lv_at hl 0 rfl) ?_
  refine va_get (D := D) (ci := 12) (v := .int (jn u.length)) (C := RJ4) (T := TJ4) (N := 4) hx hb hts uw_12 hown hK hP 0 rfl rfl 3 (by decide) (hts (.fieldLink RJ5 79 "java/lang/AbstractStringBuilder" "count" "I") (by decide +kernel)) (fun _ h9 => h9) rfl d_J5_append_3fe6f_2 ?_
  refine lv_iconst (v := 1) hx hb d_J5_append_3fe6f_5 (by decide) ?_
  refine lv_iadd hx hb d_J5_append_3fe6f_6 ?_
  rw [jn_1p]
  have hPc := hP.sub (ws' := [(q, .inr (12, [.ref ar, .int 0, .int 0, .int (jn u.length)])), (ar, .inl (cB, cap, .inl f))]) [0, 1] rfl
  have hDc := hD.sub (ws' := [(q, .inr (12, [.ref ar, .int 0, .int 0, .int (jn u.length)])), (ar, .inl (cB, cap, .inl f))]) [0, 1] (by decide) rfl
  have hFc := va_free (wc := [(q, .inr (12, [.ref ar, .int 0, .int 0, .int (jn u.length)])), (ar, .inl (cB, cap, .inl f))]) hD hS hA [0, 1] rfl
  refine va_callv (va_runU (As := [.int (jn (u.length + 1))]) (rest := []) ⟨hx, hb, hml, hown, hts⟩ (s_ensure l D cB s.heap.size q ar cap (u.length + 1) U u f) (cw_priv 1 (own := RJ5) (ix := 100) (y := yJ5_ensureCapacityInternal_d00df) hts (g_con cw_J5_ensureCapacityInternal_d00df) rfl rfl (by decide +kernel) (by decide +kernel) (by decide +kernel) (by decide +kernel) hJ.2.2.2.2 (by simp) rfl (by decide +kernel) ⟨(Nat.le_of_ble_eq_true rfl), (Nat.le_of_ble_eq_true rfl)⟩) ⟨prw_blind, va_recv hK hP (ci := 12) (q0 := 0) rfl rfl, fun U hU hW => ⟨rfl, prw_call hU hW ro_nil hPc (hDc.weaken (fun _ _ _ _ => trivial)) rsep_l ⟨hU1, hUU, hcU, hbc⟩ (hJ.keep hS)⟩⟩ rfl rfl hl.1 rfl (lv_room (Nat.le_of_ble_eq_true rfl)) d_J5_append_3fe6f_7 ⟨by show _ ≤ 1; omega, by show _ ≤ (2 * U + 16); omega⟩) hS (fun q _ h => hFc q h) hFc (fun u9 t9 H1 locs ht hvm hw hB hz1 hk1 hS => ?_)
  obtain ⟨ar1, cap1, f1, hP1, hD1, hbc1, hN1, hc1⟩ := hB
  rw [ht] at hP1
  obtain ⟨hP, hD⟩ := va_join (wr := []) (w1 := [(q, .inr (12, [.ref ar1, .int 0, .int 0, .int (jn u.length)])), (ar1, .inl (cB, cap1, .inl f1))]) hP hD [0, 1] [] rfl rfl (by decide) (by decide) hk1 hFc hP1 hD1
  clear hP1 hD1 hk1 hz1 hFc hPc hDc hw ht hvm
  generalize H1 = H at hP hS ⊢
  have hP : va_P D vwCl [(q, .inr (12, [.ref ar1, .int 0, .int 0, .int (jn u.length)])), (ar1, .inl (cB, cap1, .inl f1))] _ := hP
  have hD : va_D A [(q, .inr (12, [.ref ar1, .int 0, .int 0, .int (jn u.length)])), (ar1, .inl (cB, cap1, .inl f1))] := hD
  have hbl := hbc1.1
  refine lv_aload_n hx hb d_J5_append_3fe6f_10 rfl (lv_at hl 0 rfl) ?_
  refine sc_i (va_runU (As := []) (rest := []) ⟨hx, hb, hml, hown, hts⟩ (s_bLatin1 l D cB q ar1 (jn u.length)) (va_cwU 0 hts (g_inh (own := RJ5) (ix := 83) (y := yJ5_isLatin1_aae02) (C := RJ4) (by decide +kernel) (by decide +kernel) (by decide +kernel) (by decide +kernel) (by decide +kernel) (g_con cw_J5_isLatin1_aae02)) rfl rfl rfl rfl (by decide +kernel) ⟨(Nat.le_of_ble_eq_true rfl), (Nat.le_of_ble_eq_true rfl)⟩) ⟨pre_blind, va_recv hK hP (ci := 12) (q0 := 0) rfl rfl, fun U hU hW => ⟨rfl, pre_call hU hW (hP.sub (ws' := [(q, .inr (12, [.ref ar1, .int 0, .int 0, .int (jn u.length)]))]) [0] rfl) ro_nil (hJ.keep hS)⟩⟩ rfl rfl hl.1 rfl (lv_room (Nat.le_of_ble_eq_true rfl)) d_J5_append_3fe6f_11 ⟨(by show _ ≤ 1; omega), (by show _ ≤ (2 * U + 16); omega)⟩) (fun r9 hr9 => ?_)
  obtain rfl : r9 = 1 := hr9
  refine lv_if_eq (tgt := 45) hx hb d_J5_append_3fe6f_14 (by decide) (fun h9 => absurd h9 (by decide)) (fun _ => ?_)
  refine lv_iload_n hx hb d_J5_append_3fe6f_17 rfl (lv_at hl 1 rfl) ?_
  refine sc_i (va_runS (As := [.int (jn k)]) (rest := []) ⟨hx, hb, hml, hown, hts⟩ (s_canEncodeC l D cB k) (va_cwS 1 hts (g_sta (own := RJ5) (ix := 191) (y := yJ1_canEncode_fc78d) (by decide +kernel) (by decide +kernel) (by decide +kernel) (g_con cw_J1_canEncode_fc78d)) rfl rfl rfl (by decide +kernel) ⟨(Nat.le_of_ble_eq_true rfl), (Nat.le_of_ble_eq_true rfl)⟩) ⟨pre_blind, fun U hU hW => ⟨rfl, pre_call hU hW hk ro_nil (hJ.keep hS)⟩⟩ rfl rfl hl.1 rfl (lv_room (Nat.le_of_ble_eq_true rfl)) d_J5_append_3fe6f_18 ⟨(by show _ ≤ 1; omega), (by show _ ≤ (2 * U + 16); omega)⟩) (fun r9 hr9 => ?_)
  obtain rfl : r9 = 1 := hr9
  refine lv_if_eq (tgt := 45) hx hb d_J5_append_3fe6f_21 (by decide) (fun h9 => absurd h9 (by decide)) (fun _ => ?_)
  refine lv_aload_n hx hb d_J5_append_3fe6f_24 rfl (lv_at hl 0 rfl) ?_
  refine va_get (D := D) (ci := 12) (v := .ref ar1) (C := RJ4) (T := TJ4) (N := 4) hx hb hts uw_12 hown hK hP 0 rfl rfl 0 (by decide) (hts (.fieldLink RJ5 15 "java/lang/AbstractStringBuilder" "value" "[B") (by decide +kernel)) (fun _ h9 => h9) rfl d_J5_append_3fe6f_25 ?_
  refine lv_aload_n hx hb d_J5_append_3fe6f_28 rfl (lv_at hl 0 rfl) ?_
  refine lv_dup hx hb d_J5_append_3fe6f_29 rfl ?_
  refine va_get (D := D) (ci := 12) (v := .int (jn u.length)) (C := RJ4) (T := TJ4) (N := 4) hx hb hts uw_12 hown hK hP 0 rfl rfl 3 (by decide) (hts (.fieldLink RJ5 79 "java/lang/AbstractStringBuilder" "count" "I") (by decide +kernel)) (fun _ h9 => h9) rfl d_J5_append_3fe6f_30 ?_
  refine lv_dup_x1 hx hb d_J5_append_3fe6f_33 rfl rfl ?_
  refine lv_iconst (v := 1) hx hb d_J5_append_3fe6f_34 (by decide) ?_
  refine lv_iadd hx hb d_J5_append_3fe6f_35 ?_
  rw [jn_1p]
  refine va_put (D := D) (ci := 12) (v := .int (jn (u.length + 1))) (ty := .int) (C := RJ4) (T := TJ4) (N := 4) hx hb hts uw_12 tyJ4 tyJ4_ok nmJ4 hown hK hP hD hS 0 rfl rfl 3 (by decide) (hts (.fieldLink RJ5 79 "java/lang/AbstractStringBuilder" "count" "I") (by decide +kernel)) (fun _ h9 => h9) rfl (by decide +kernel) rfl rfl (Nat.le_of_ble_eq_true rfl) d_J5_append_3fe6f_36 (fun H locs hP hD hS => ?_)
  have hP : va_P D vwCl [(q, .inr (12, [.ref ar1, .int 0, .int 0, .int (jn (u.length + 1))])), (ar1, .inl (cB, cap1, .inl f1))] _ := hP
  have hD : va_D A [(q, .inr (12, [.ref ar1, .int 0, .int 0, .int (jn (u.length + 1))])), (ar1, .inl (cB, cap1, .inl f1))] := hD
  refine lv_iload_n hx hb d_J5_append_3fe6f_39 rfl (lv_at hl 1 rfl) ?_
  refine lv_i2b (v := (jn k).toInt8.toInt32) hx hb d_J5_append_3fe6f_40 rfl ?_
  refine va_bast hx hb hK hP hD hS 1 0 rfl rfl (vin_j (by omega) (by omega)) d_J5_append_3fe6f_41 (fun H locs hP hD hS => ?_)
  rw [jn_clamp (by omega)] at hP hD
  have hP : va_P D vwCl [(q, .inr (12, [.ref ar1, .int 0, .int 0, .int (jn (u.length + 1))])), (ar1, .inl (cB, cap1, .inl (upd f1 u.length (vp_nar .byte ((jn k).toInt8.toInt32)))))] _ := hP
  have hD : va_D A [(q, .inr (12, [.ref ar1, .int 0, .int 0, .int (jn (u.length + 1))])), (ar1, .inl (cB, cap1, .inl (upd f1 u.length (vp_nar .byte ((jn k).toInt8.toInt32)))))] := hD
  have hP := va_as (g := (upd f1 u.length (jn k))) hP (q0 := 1) rfl (fun j hj => by rw [nar8 k hk])
  have hD := hD.set (p := 1) (e := .inl (cB, cap1, .inl (upd f1 u.length (jn k)))) rfl
  have hP : va_P D vwCl [(q, .inr (12, [.ref ar1, .int 0, .int 0, .int (jn (u.length + 1))])), (ar1, .inl (cB, cap1, .inl (upd f1 u.length (jn k))))] _ := hP
  have hD : va_D A [(q, .inr (12, [.ref ar1, .int 0, .int 0, .int (jn (u.length + 1))])), (ar1, .inl (cB, cap1, .inl (upd f1 u.length (jn k))))] := hD
  refine lv_goto (tgt := 75) hx hb d_J5_append_3fe6f_42 (by decide) ?_
  rw [show u.length + 1 = (u ++ [jn k]).length by simp] at hP hD
  have hP : va_P D vwCl [(q, .inr (12, [.ref ar1, .int 0, .int 0, .int (jn (u ++ [jn k]).length)])), (ar1, .inl (cB, cap1, .inl (upd f1 u.length (jn k))))] _ := hP
  have hD : va_D A [(q, .inr (12, [.ref ar1, .int 0, .int 0, .int (jn (u ++ [jn k]).length)])), (ar1, .inl (cB, cap1, .inl (upd f1 u.length (jn k))))] := hD
  refine lv_aload_n hx hb d_J5_append_3fe6f_75 rfl (lv_at hl 0 rfl) ?_
  refine W.widen (k := 1) (n := (2 * U + 16)) (by omega) (by omega) ?_
  exact W.aret hx hb hr (Or.inl ⟨_, rfl⟩) (Or.inr ⟨_, rfl⟩) (fun t8 ht hW => ⟨⟨(), q, rfl, trivial, rfl, ar1, cap1, (upd f1 u.length (jn k)), by rw [ht]; exact hP.sub (ws' := [(q, .inr (12, [.ref ar1, .int 0, .int 0, .int (jn (u ++ [jn k]).length)])), (ar1, .inl (cB, cap1, .inl (upd f1 u.length (jn k))))]) [0, 1] rfl, hD.sub (ws' := [(q, .inr (12, [.ref ar1, .int 0, .int 0, .int (jn (u ++ [jn k]).length)])), (ar1, .inl (cB, cap1, .inl (upd f1 u.length (jn k))))]) [0, 1] (by decide) rfl, Bc_c hbc1 (by omega) hk, hc1⟩, hS.F ht⟩) hS.2.2 d_J5_append_3fe6f_76
set_option maxHeartbeats 4000000 in
set_option maxRecDepth 100000 in
theorem s_bAppC (l : Launch) (D : va_G) (cB : ClassId) (sz : Nat) (q ar cap k U : Nat) (u : List Int32) (f : Nat → Int32) : Met l yJ4_append_cf468 (wD yJ4_append_cf468 cJ4_append_cf468 2 (some (.object "java/lang/StringBuilder"))) ({ frames := 5, cells := 1, slots := (2 * U + 16), locals := 250 }) (va_Pc [.ref q, .int (jn k)] (PrW D cB sz [] [(q, .inr (12, [.ref ar, .int 0, .int 0, .int (jn u.length)])), (ar, .inl (cB, cap, .inl f))] (u.length + 1 ≤ U ∧ U ≤ 2000 ∧ cap ≤ 2 * U + 16 ∧ Bc u cap f ∧ k < 128)))
    (va_Qr (fun _ : Unit => True) (fun _ ra t9 => ra = q ∧ ∃ (ar1 cap1 : Nat) (f1 : Nat → Int32), va_P D vwCl [(q, .inr (12, [.ref ar1, .int 0, .int 0, .int (jn (u ++ [jn k]).length)])), (ar1, .inl (cB, cap1, .inl f1))] t9.heap ∧ va_D (va_A [(q, .inr (12, [.ref ar, .int 0, .int 0, .int (jn u.length)])), (ar, .inl (cB, cap, .inl f))] sz) [(q, .inr (12, [.ref ar1, .int 0, .int 0, .int (jn (u ++ [jn k]).length)])), (ar1, .inl (cB, cap1, .inl f1))] ∧ Bc (u ++ [jn k]) cap1 f1 ∧ cap1 ≤ 2 * U + 16) (va_A [(q, .inr (12, [.ref ar, .int 0, .int 0, .int (jn u.length)])), (ar, .inl (cB, cap, .inl f))] sz)) (1) ((2 * U + 16)) (va_A [(q, .inr (12, [.ref ar, .int 0, .int 0, .int (jn u.length)])), (ar, .inl (cB, cap, .inl f))] sz) := by
  refine Met.ofW (cc := cJ4_append_cf468) (maxL := 2) (ret := (some (.object "java/lang/StringBuilder"))) (by decide) rfl ?_
  intro p e s m args below meth c s₁ B hml hv
  obtain ⟨rfl, ⟨hsz, hRO, hPP, hD0, hsep, hX⟩, hJ0⟩ := hv
  have hx := B.exec
  have hb := B.bytes
  have hr := B.returns
  have hts0 := atoms_spec (ws := wD yJ4_append_cf468 cJ4_append_cf468 2 (some (.object "java/lang/StringBuilder"))) B.pre
  have hts : ∀ w ∈ TW, w.before _ s = true := fun w h => hts0 w (List.mem_cons_of_mem _ h)
  have hown : s.vm.findClass RJ4 = some m.cls := findClass_of_methodNamed B.named
  have hlocks := B.notSynchronized
  subst hsz
  have hJ := hJ0.inA hPP
  have hro := ro_inA hRO hsep
  have hD := hD0.self (sz := s.heap.size)
  have hA : ∀ x9 : Nat, s.heap.size ≤ x9 → va_A [(q, .inr (12, [.ref ar, .int 0, .int 0, .int (jn u.length)])), (ar, .inl (cB, cap, .inl f))] s.heap.size x9 := fun x9 h => Or.inr h
  have hK := hJ.1
  generalize hAe : va_A [(q, .inr (12, [.ref ar, .int 0, .int 0, .int (jn u.length)])), (ar, .inl (cB, cap, .inl f))] s.heap.size = A at hJ hro hD hA ⊢
  have hS : va_S A s.heap s.heap [] := va_S.rf
  have hP := hPP
  have hl := lv_entry ([.ref q, .int (jn k)]) (n := 2) (Nat.le_of_ble_eq_true rfl)
  rw [lg_entry_eq]
  generalize (lg_sl ([.ref q, .int (jn k)]) ++ List.replicate (2 - (lg_sl ([.ref q, .int (jn k)])).length) Slot.unset).toArray = ls at hl ⊢
  have hl : lv_has ls 2 [(0, .ref q), (1, .int (jn k))] := hl
  obtain ⟨hU1, hUU, hcU, hbc, hk⟩ := hX
  refine lv_aload_n hx hb d_J4_append_cf468_0 rfl (lv_at hl 0 rfl) ?_
  refine lv_iload_n hx hb d_J4_append_cf468_1 rfl (lv_at hl 1 rfl) ?_
  have hPc := hP.sub (ws' := [(q, .inr (12, [.ref ar, .int 0, .int 0, .int (jn u.length)])), (ar, .inl (cB, cap, .inl f))]) [0, 1] rfl
  have hDc := hD.sub (ws' := [(q, .inr (12, [.ref ar, .int 0, .int 0, .int (jn u.length)])), (ar, .inl (cB, cap, .inl f))]) [0, 1] (by decide) rfl
  have hFc := va_free (wc := [(q, .inr (12, [.ref ar, .int 0, .int 0, .int (jn u.length)])), (ar, .inl (cB, cap, .inl f))]) hD hS hA [0, 1] rfl
  refine va_callr (va_runSU (As := [.int (jn k)]) (rest := []) (hK.1 12 _ rfl).2 ⟨hx, hb, hml, hown, hts⟩ (s_bAppC0 l D cB s.heap.size q ar cap k U u f) (va_cwSU 1 hts (g_sup (own := RJ4) (ix := 50) (y := yJ5_append_3fe6f) (by decide +kernel) (by decide +kernel) (by decide +kernel) (by decide +kernel) (by decide +kernel) (g_con cw_J5_append_3fe6f)) rfl rfl rfl ⟨by decide, by decide +kernel⟩ ⟨(Nat.le_of_ble_eq_true rfl), (Nat.le_of_ble_eq_true rfl)⟩) ⟨prw_blind, va_recv hK hP (ci := 12) (q0 := 0) rfl rfl, fun U hU hW => ⟨rfl, prw_call hU hW ro_nil hPc (hDc.weaken (fun _ _ _ _ => trivial)) rsep_l ⟨hU1, hUU, hcU, hbc, hk⟩ (hJ.keep hS)⟩⟩ rfl rfl hl.1 rfl (lv_room (Nat.le_of_ble_eq_true rfl)) d_J4_append_cf468_2 ⟨by show _ ≤ 1; omega, by show _ ≤ (2 * U + 16); omega⟩) hS (fun q _ h => hFc q h) hFc (fun u9 ra1 t9 H1 locs ht hvm hw hB hz1 hk1 hS => ?_)
  obtain ⟨hra, ar1, cap1, f1, hP1, hD1, hbc1, hc1⟩ := hB
  rw [ht] at hP1
  rw [hra]
  clear hra
  obtain ⟨hP, hD⟩ := va_join (wr := []) (w1 := [(q, .inr (12, [.ref ar1, .int 0, .int 0, .int (jn (u ++ [jn k]).length)])), (ar1, .inl (cB, cap1, .inl f1))]) hP hD [0, 1] [] rfl rfl (by decide) (by decide) hk1 hFc hP1 hD1
  clear hP1 hD1 hk1 hz1 hFc hPc hDc hw ht hvm
  generalize H1 = H at hP hS ⊢
  have hP : va_P D vwCl [(q, .inr (12, [.ref ar1, .int 0, .int 0, .int (jn (u ++ [jn k]).length)])), (ar1, .inl (cB, cap1, .inl f1))] _ := hP
  have hD : va_D A [(q, .inr (12, [.ref ar1, .int 0, .int 0, .int (jn (u ++ [jn k]).length)])), (ar1, .inl (cB, cap1, .inl f1))] := hD
  refine lv_pop hx hb d_J4_append_cf468_5 rfl ?_
  refine lv_aload_n hx hb d_J4_append_cf468_6 rfl (lv_at hl 0 rfl) ?_
  refine W.widen (k := 1) (n := (2 * U + 16)) (by omega) (by omega) ?_
  exact W.aret hx hb hr (Or.inl ⟨_, rfl⟩) (Or.inr ⟨_, rfl⟩) (fun t8 ht hW => ⟨⟨(), q, rfl, trivial, rfl, ar1, cap1, f1, by rw [ht]; exact hP.sub (ws' := [(q, .inr (12, [.ref ar1, .int 0, .int 0, .int (jn (u ++ [jn k]).length)])), (ar1, .inl (cB, cap1, .inl f1))]) [0, 1] rfl, hD.sub (ws' := [(q, .inr (12, [.ref ar1, .int 0, .int 0, .int (jn (u ++ [jn k]).length)])), (ar1, .inl (cB, cap1, .inl f1))]) [0, 1] (by decide) rfl, hbc1, hc1⟩, hS.F ht⟩) hS.2.2 d_J4_append_cf468_7
set_option maxHeartbeats 4000000 in
set_option maxRecDepth 100000 in
theorem s_bInfl (l : Launch) (D : va_G) (cB : ClassId) (q ar a b : Nat) (k : Int32) (t : List Int32) : Met l yJ5_inflateIfNeededFor_a7421 (wD yJ5_inflateIfNeededFor_a7421 cJ5_inflateIfNeededFor_a7421 2 none) ({ frames := 2, cells := 0, slots := 0, locals := 100 }) (va_Pc [.ref q, .ref a] (PrJ D cB [.inl (a, b, t)] (fun H => va_P D vwCl [(q, .inr (12, [.ref ar, .int 0, .int 0, .int k]))] H ∧ t.length ≤ 1000))) (Srj) 0 0 (fun _ => False) := by
  refine Met.ofW (cc := cJ5_inflateIfNeededFor_a7421) (maxL := 2) (ret := none) (by decide) rfl ?_
  intro p e s m args below meth c s₁ B hml hv
  obtain ⟨rfl, hX, hro, hJ⟩ := hv
  have hx := B.exec
  have hb := B.bytes
  have hr := B.returns
  have hts0 := atoms_spec (ws := wD yJ5_inflateIfNeededFor_a7421 cJ5_inflateIfNeededFor_a7421 2 none) B.pre
  have hts : ∀ w ∈ TW, w.before _ s = true := fun w h => hts0 w (List.mem_cons_of_mem _ h)
  have hown : s.vm.findClass RJ5 = some m.cls := findClass_of_methodNamed B.named
  have hlocks := B.notSynchronized
  have hS : va_S (fun _ => False) s.heap s.heap [] := va_S.rf
  have hK := hJ.1
  have hl := lv_entry ([.ref q, .ref a]) (n := 2) (Nat.le_of_ble_eq_true rfl)
  rw [lg_entry_eq]
  generalize (lg_sl ([.ref q, .ref a]) ++ List.replicate (2 - (lg_sl ([.ref q, .ref a])).length) Slot.unset).toArray = ls at hl ⊢
  have hl : lv_has ls 2 [(0, .ref q), (1, .ref a)] := hl
  have hF0 : Sf a b t (fun _ => False) s s.heap := ro_at hro 0 rfl
  obtain ⟨hP, hn⟩ := hX
  refine va_gets (v := .int 1) hx hb hJ.2.1 hS hown (hts (.fieldLink RJ5 18 "java/lang/String" "COMPACT_STRINGS" "Z") (by decide +kernel)) (fun _ h9 => h9) d_J5_inflateIfNeededFor_a7421_0 ?_
  refine lv_if_eq (tgt := 21) hx hb d_J5_inflateIfNeededFor_a7421_3 (by decide) (fun h9 => absurd h9 (by decide)) (fun _ => ?_)
  refine lv_aload_n hx hb d_J5_inflateIfNeededFor_a7421_6 rfl (lv_at hl 0 rfl) ?_
  refine va_get (D := D) (ci := 12) (v := .int 0) (C := RJ4) (T := TJ4) (N := 4) hx hb hts uw_12 hown hK hP 0 rfl rfl 1 (by decide) (hts (.fieldLink RJ5 22 "java/lang/AbstractStringBuilder" "coder" "B") (by decide +kernel)) (fun _ h9 => h9) rfl d_J5_inflateIfNeededFor_a7421_7 ?_
  refine lv_aload_n hx hb d_J5_inflateIfNeededFor_a7421_10 rfl (lv_at hl 1 rfl) ?_
  refine sc_i (va_runV (As := []) (rest := [.int 0]) ⟨hx, hb, hml, hown, hts⟩ (s_coder l D cB a b t) (cwV 0 hts (g_vir (own := RJ5) (ix := 40) (y := yJ0_coder_7d493) (C := RJ0) (by decide +kernel) (by decide +kernel) (by decide +kernel) (by decide +kernel) (g_con cw_J0_coder_7d493)) rfl rfl rfl (by decide +kernel) ⟨(Nat.le_of_ble_eq_true rfl), (Nat.le_of_ble_eq_true rfl)⟩) ⟨pre_blind, hF0.rec hS, fun U hU hW => ⟨rfl, pre_call hU hW hn (ro_cons (x := (.inl (a, b, t))) hF0 ro_nil) hJ⟩⟩ rfl rfl hl.1 rfl (lv_room (Nat.le_of_ble_eq_true rfl)) d_J5_inflateIfNeededFor_a7421_11 ⟨(Nat.le_of_ble_eq_true rfl), (Nat.le_of_ble_eq_true rfl)⟩) (fun r9 hr9 => ?_)
  obtain rfl : r9 = 0 := hr9
  refine lv_icmp_eq (tgt := 21) hx hb d_J5_inflateIfNeededFor_a7421_14 (by decide) (fun _ => ?_) (fun h9 => absurd rfl h9)
  exact W.vret hx hb hr (fun t ht hW => ⟨rfl, ht⟩) (fun q h => by cases h) d_J5_inflateIfNeededFor_a7421_21
set_option maxHeartbeats 4000000 in
set_option maxRecDepth 100000 in
theorem s_getBytes (l : Launch) (D : va_G) (cB : ClassId) (sz : Nat) (a b d cap i : Nat) (t : List Int32) (g : Nat → Int32) : Met l yJ0_getBytes_840e7 (wD yJ0_getBytes_840e7 cJ0_getBytes_840e7 4 none) ({ frames := 2, cells := 0, slots := 0, locals := 100 }) (va_Pc [.ref a, .ref d, .int (jn i), .int 0] (PrW D cB sz [.inl (a, b, t)] [(d, .inl (cB, cap, .inl g))] (i + t.length ≤ cap ∧ cap ≤ 20000 ∧ t.length ≤ 1000 ∧ As t)))
    (va_Qv (fun _ : Unit => True) (fun _ t9 => va_P D vwCl [(d, .inl (cB, cap, .inl (va_cpy (bt t) g 0 i t.length)))] t9.heap ∧ va_D (va_A [(d, .inl (cB, cap, .inl g))] sz) [(d, .inl (cB, cap, .inl (va_cpy (bt t) g 0 i t.length)))]) (va_A [(d, .inl (cB, cap, .inl g))] sz)) (0) (0) (va_A [(d, .inl (cB, cap, .inl g))] sz) := by
  refine Met.ofW (cc := cJ0_getBytes_840e7) (maxL := 4) (ret := none) (by decide) rfl ?_
  intro p e s m args below meth c s₁ B hml hv
  obtain ⟨rfl, ⟨hsz, hRO, hPP, hD0, hsep, hX⟩, hJ0⟩ := hv
  have hx := B.exec
  have hb := B.bytes
  have hr := B.returns
  have hts0 := atoms_spec (ws := wD yJ0_getBytes_840e7 cJ0_getBytes_840e7 4 none) B.pre
  have hts : ∀ w ∈ TW, w.before _ s = true := fun w h => hts0 w (List.mem_cons_of_mem _ h)
  have hown : s.vm.findClass RJ0 = some m.cls := findClass_of_methodNamed B.named
  have hlocks := B.notSynchronized
  subst hsz
  have hJ := hJ0.inA hPP
  have hro := ro_inA hRO hsep
  have hD := hD0.self (sz := s.heap.size)
  have hA : ∀ x9 : Nat, s.heap.size ≤ x9 → va_A [(d, .inl (cB, cap, .inl g))] s.heap.size x9 := fun x9 h => Or.inr h
  have hK := hJ.1
  generalize hAe : va_A [(d, .inl (cB, cap, .inl g))] s.heap.size = A at hJ hro hD hA ⊢
  have hS : va_S A s.heap s.heap [] := va_S.rf
  have hP := hPP
  have hl := lv_entry ([.ref a, .ref d, .int (jn i), .int 0]) (n := 4) (Nat.le_of_ble_eq_true rfl)
  rw [lg_entry_eq]
  generalize (lg_sl ([.ref a, .ref d, .int (jn i), .int 0]) ++ List.replicate (4 - (lg_sl ([.ref a, .ref d, .int (jn i), .int 0])).length) Slot.unset).toArray = ls at hl ⊢
  have hl : lv_has ls 4 [(0, .ref a), (1, .ref d), (2, .int (jn i)), (3, .int 0)] := hl
  obtain ⟨hi, hc, hn, has⟩ := hX
  have hF0 : Sf a b t (A) s s.heap := ro_at hro 0 rfl
  refine lv_aload_n hx hb d_J0_getBytes_840e7_0 rfl (lv_at hl 0 rfl) ?_
  refine sc_i (va_runV (As := []) (rest := []) ⟨hx, hb, hml, hown, hts⟩ (s_coder l D cB a b t) (cwV 0 hts (g_vir (own := RJ0) (ix := 335) (y := yJ0_coder_7d493) (C := RJ0) (by decide +kernel) (by decide +kernel) (by decide +kernel) (by decide +kernel) (g_con cw_J0_coder_7d493)) rfl rfl rfl (by decide +kernel) ⟨(Nat.le_of_ble_eq_true rfl), (Nat.le_of_ble_eq_true rfl)⟩) ⟨pre_blind, hF0.rec hS, fun U hU hW => ⟨rfl, pre_call hU hW hn (ro_cons (x := (.inl (a, b, t))) (RoF.at (x := (.inl (a, b, t))) hF0 hS) ro_nil) (hJ.keep hS)⟩⟩ rfl rfl hl.1 rfl (lv_room (Nat.le_of_ble_eq_true rfl)) d_J0_getBytes_840e7_1 ⟨(by show _ ≤ 0; omega), (by show _ ≤ 0; omega)⟩) (fun r9 hr9 => ?_)
  obtain rfl : r9 = 0 := hr9
  refine lv_iload_n hx hb d_J0_getBytes_840e7_4 rfl (lv_at hl 3 rfl) ?_
  refine lv_icmp_ne (tgt := 28) hx hb d_J0_getBytes_840e7_5 (by decide) (fun h9 => absurd h9 (fun z9 => z9 rfl)) (fun _ => ?_)
  refine lv_aload_n hx hb d_J0_getBytes_840e7_8 rfl (lv_at hl 0 rfl) ?_
  refine vk_getf (v := .ref b) hx hb hF0.2.2.1 hS hown (hts (.fieldLink RJ0 9 "java/lang/String" "value" "[B") (by decide +kernel)) (fun _ h9 => h9) d_J0_getBytes_840e7_9 ?_
  refine lv_iconst (v := 0) hx hb d_J0_getBytes_840e7_12 (by decide) ?_
  refine lv_aload_n hx hb d_J0_getBytes_840e7_13 rfl (lv_at hl 1 rfl) ?_
  refine lv_iload_n hx hb d_J0_getBytes_840e7_14 rfl (lv_at hl 2 rfl) ?_
  refine lv_iload_n hx hb d_J0_getBytes_840e7_15 rfl (lv_at hl 3 rfl) ?_
  refine lv_ishl hx hb d_J0_getBytes_840e7_16 ?_
  rw [shl_0]
  refine lv_aload_n hx hb d_J0_getBytes_840e7_17 rfl (lv_at hl 0 rfl) ?_
  refine vk_getf (v := .ref b) hx hb hF0.2.2.1 hS hown (hts (.fieldLink RJ0 9 "java/lang/String" "value" "[B") (by decide +kernel)) (fun _ h9 => h9) d_J0_getBytes_840e7_18 ?_
  refine va_tlen hx hb hF0.2.2.2 hS (ofNat_jn (by omega)) d_J0_getBytes_840e7_21 ?_
  refine vk_copyt (f := (bt t)) (n0 := t.length) (sp := jn 0) (dp := jn i) (n := jn t.length) hx hb (by rw [hml]; exact hl.1.symm) hown (hts (.methodLink RJ0 212 arraycopyName) (by decide +kernel)) (hts (.native arraycopyName) (by decide +kernel)) (hts (.static arraycopyName) (by decide +kernel)) (hts (.initialized "java/lang/System") (by decide +kernel)) hK hP hD hS hF0.2.2.2 0 0 rfl rfl (jn_nneg (by omega)) (jn_nneg (by omega)) (jn_nneg (by omega)) (by rw [jn_clamp (by omega), jn_clamp (by omega)]; omega) (by rw [jn_clamp (by omega), jn_clamp (by omega)]; omega) (fun i9 h9 => by rw [jn_clamp (by omega)] at h9; rw [jn_clamp (by omega)]; exact (as_fB has _ (by omega))) (Nat.le_of_ble_eq_true rfl) (Nat.le_of_ble_eq_true rfl) d_J0_getBytes_840e7_22 (fun H locs hP hD hS => ?_)
  simp only [jn_clamp (show 0 < 2147483648 by omega), jn_clamp (show i < 2147483648 by omega), jn_clamp (show t.length < 2147483648 by omega)] at hP hD
  have hP : va_P D vwCl [(d, .inl (cB, cap, .inl (va_cpy (bt t) g 0 i t.length)))] _ := hP
  have hD : va_D A [(d, .inl (cB, cap, .inl (va_cpy (bt t) g 0 i t.length)))] := hD
  refine lv_goto (tgt := 43) hx hb d_J0_getBytes_840e7_25 (by decide) ?_
  refine W.widen (k := 0) (n := 0) (by omega) (by omega) ?_
  exact W.vret hx hb hr (fun t8 ht hW => ⟨⟨(), rfl, trivial, by rw [ht]; exact hP.sub (ws' := [(d, .inl (cB, cap, .inl (va_cpy (bt t) g 0 i t.length)))]) [0] rfl, hD.sub (ws' := [(d, .inl (cB, cap, .inl (va_cpy (bt t) g 0 i t.length)))]) [0] (by decide) rfl⟩, hS.F ht⟩) hS.2.2 d_J0_getBytes_840e7_43
set_option maxHeartbeats 4000000 in
set_option maxRecDepth 100000 in
theorem s_putStringAt (l : Launch) (D : va_G) (cB : ClassId) (sz : Nat) (q ar a b cap i : Nat) (u t : List Int32) (f : Nat → Int32) : Met l yJ5_putStringAt_47b60 (wD yJ5_putStringAt_47b60 cJ5_putStringAt_47b60 3 none) ({ frames := 3, cells := 0, slots := 0, locals := 150 }) (va_Pc [.ref q, .int (jn i), .ref a] (PrW D cB sz [.inl (a, b, t)] [(q, .inr (12, [.ref ar, .int 0, .int 0, .int (jn u.length)])), (ar, .inl (cB, cap, .inl f))] (i + t.length ≤ cap ∧ cap ≤ 20000 ∧ t.length ≤ 1000 ∧ As t)))
    (va_Qv (fun _ : Unit => True) (fun _ t9 => va_P D vwCl [(q, .inr (12, [.ref ar, .int 0, .int 0, .int (jn u.length)])), (ar, .inl (cB, cap, .inl (va_cpy (bt t) f 0 i t.length)))] t9.heap ∧ va_D (va_A [(q, .inr (12, [.ref ar, .int 0, .int 0, .int (jn u.length)])), (ar, .inl (cB, cap, .inl f))] sz) [(q, .inr (12, [.ref ar, .int 0, .int 0, .int (jn u.length)])), (ar, .inl (cB, cap, .inl (va_cpy (bt t) f 0 i t.length)))]) (va_A [(q, .inr (12, [.ref ar, .int 0, .int 0, .int (jn u.length)])), (ar, .inl (cB, cap, .inl f))] sz)) (0) (0) (va_A [(q, .inr (12, [.ref ar, .int 0, .int 0, .int (jn u.length)])), (ar, .inl (cB, cap, .inl f))] sz) := by
  refine Met.ofW (cc := cJ5_putStringAt_47b60) (maxL := 3) (ret := none) (by decide) rfl ?_
  intro p e s m args below meth c s₁ B hml hv
  obtain ⟨rfl, ⟨hsz, hRO, hPP, hD0, hsep, hX⟩, hJ0⟩ := hv
  have hx := B.exec
  have hb := B.bytes
  have hr := B.returns
  have hts0 := atoms_spec (ws := wD yJ5_putStringAt_47b60 cJ5_putStringAt_47b60 3 none) B.pre
  have hts : ∀ w ∈ TW, w.before _ s = true := fun w h => hts0 w (List.mem_cons_of_mem _ h)
  have hown : s.vm.findClass RJ5 = some m.cls := findClass_of_methodNamed B.named
  have hlocks := B.notSynchronized
  subst hsz
  have hJ := hJ0.inA hPP
  have hro := ro_inA hRO hsep
  have hD := hD0.self (sz := s.heap.size)
  have hA : ∀ x9 : Nat, s.heap.size ≤ x9 → va_A [(q, .inr (12, [.ref ar, .int 0, .int 0, .int (jn u.length)])), (ar, .inl (cB, cap, .inl f))] s.heap.size x9 := fun x9 h => Or.inr h
  have hK := hJ.1
  generalize hAe : va_A [(q, .inr (12, [.ref ar, .int 0, .int 0, .int (jn u.length)])), (ar, .inl (cB, cap, .inl f))] s.heap.size = A at hJ hro hD hA ⊢
  have hS : va_S A s.heap s.heap [] := va_S.rf
  have hP := hPP
  have hl := lv_entry ([.ref q, .int (jn i), .ref a]) (n := 3) (Nat.le_of_ble_eq_true rfl)
  rw [lg_entry_eq]
  generalize (lg_sl ([.ref q, .int (jn i), .ref a]) ++ List.replicate (3 - (lg_sl ([.ref q, .int (jn i), .ref a])).length) Slot.unset).toArray = ls at hl ⊢
  have hl : lv_has ls 3 [(0, .ref q), (1, .int (jn i)), (2, .ref a)] := hl
  obtain ⟨hi, hc, hn, has⟩ := hX
  have hF0 : Sf a b t (A) s s.heap := ro_at hro 0 rfl
  refine lv_aload_n hx hb d_J5_putStringAt_47b60_0 rfl (lv_at hl 0 rfl) ?_
  refine lv_aload_n hx hb d_J5_putStringAt_47b60_1 rfl (lv_at hl 2 rfl) ?_
  refine sc_v (va_runU (As := [.ref a]) (rest := []) ⟨hx, hb, hml, hown, hts⟩ (s_bInfl l D cB q ar a b (jn u.length) t) (cw_priv 1 (own := RJ5) (ix := 397) (y := yJ5_inflateIfNeededFor_a7421) hts (g_con cw_J5_inflateIfNeededFor_a7421) rfl rfl (by decide +kernel) (by decide +kernel) (by decide +kernel) (by decide +kernel) hJ.2.2.2.2 (by simp) rfl (by decide +kernel) ⟨(Nat.le_of_ble_eq_true rfl), (Nat.le_of_ble_eq_true rfl)⟩) ⟨pre_blind, va_recv hK hP (ci := 12) (q0 := 0) rfl rfl, fun U hU hW => ⟨rfl, pre_call hU hW ⟨hP.sub (ws' := [(q, .inr (12, [.ref ar, .int 0, .int 0, .int (jn u.length)]))]) [0] rfl, hn⟩ (ro_cons (x := (.inl (a, b, t))) (RoF.at (x := (.inl (a, b, t))) hF0 hS) ro_nil) (hJ.keep hS)⟩⟩ rfl rfl hl.1 rfl (lv_room (Nat.le_of_ble_eq_true rfl)) d_J5_putStringAt_47b60_2 ⟨(by show _ ≤ 0; omega), (by show _ ≤ 0; omega)⟩) ?_
  refine lv_aload_n hx hb d_J5_putStringAt_47b60_5 rfl (lv_at hl 2 rfl) ?_
  refine lv_aload_n hx hb d_J5_putStringAt_47b60_6 rfl (lv_at hl 0 rfl) ?_
  refine va_get (D := D) (ci := 12) (v := .ref ar) (C := RJ4) (T := TJ4) (N := 4) hx hb hts uw_12 hown hK hP 0 rfl rfl 0 (by decide) (hts (.fieldLink RJ5 15 "java/lang/AbstractStringBuilder" "value" "[B") (by decide +kernel)) (fun _ h9 => h9) rfl d_J5_putStringAt_47b60_7 ?_
  refine lv_iload_n hx hb d_J5_putStringAt_47b60_10 rfl (lv_at hl 1 rfl) ?_
  refine lv_aload_n hx hb d_J5_putStringAt_47b60_11 rfl (lv_at hl 0 rfl) ?_
  refine va_get (D := D) (ci := 12) (v := .int 0) (C := RJ4) (T := TJ4) (N := 4) hx hb hts uw_12 hown hK hP 0 rfl rfl 1 (by decide) (hts (.fieldLink RJ5 22 "java/lang/AbstractStringBuilder" "coder" "B") (by decide +kernel)) (fun _ h9 => h9) rfl d_J5_putStringAt_47b60_12 ?_
  have hPc := hP.sub (ws' := [(ar, .inl (cB, cap, .inl f))]) [1] rfl
  have hDc := hD.sub (ws' := [(ar, .inl (cB, cap, .inl f))]) [1] (by decide) rfl
  have hFc := va_free (wc := [(ar, .inl (cB, cap, .inl f))]) hD hS hA [1] rfl
  refine va_callv (va_runV (As := [.ref ar, .int (jn i), .int 0]) (rest := []) ⟨hx, hb, hml, hown, hts⟩ (s_getBytes l D cB s.heap.size a b ar cap i t f) (cwV 3 hts (g_vir (own := RJ5) (ix := 399) (y := yJ0_getBytes_840e7) (C := RJ0) (by decide +kernel) (by decide +kernel) (by decide +kernel) (by decide +kernel) (g_con cw_J0_getBytes_840e7)) rfl rfl rfl (by decide +kernel) ⟨(Nat.le_of_ble_eq_true rfl), (Nat.le_of_ble_eq_true rfl)⟩) ⟨prw_blind, hF0.rec hS, fun U hU hW => ⟨rfl, prw_call hU hW (ro_cons (x := (.inl (a, b, t))) (RoF.at (x := (.inl (a, b, t))) hF0 hS) ro_nil) hPc (hDc.weaken (fun _ _ _ _ => trivial)) (rsep_A (ro_cons (x := (.inl (a, b, t))) hF0 ro_nil) hDc) ⟨hi, hc, hn, has⟩ (hJ.keep hS)⟩⟩ rfl rfl hl.1 rfl (lv_room (Nat.le_of_ble_eq_true rfl)) d_J5_putStringAt_47b60_15 ⟨by show _ ≤ 0; omega, by show _ ≤ 0; omega⟩) hS (fun q _ h => hFc q h) hFc (fun u9 t9 H1 locs ht hvm hw hB hz1 hk1 hS => ?_)
  obtain ⟨hP1, hD1⟩ := hB
  rw [ht] at hP1
  obtain ⟨hP, hD⟩ := va_join (wr := [(q, .inr (12, [.ref ar, .int 0, .int 0, .int (jn u.length)]))]) (w1 := [(ar, .inl (cB, cap, .inl (va_cpy (bt t) f 0 i t.length)))]) hP hD [1] [0] rfl rfl (by decide) (by decide) hk1 hFc hP1 hD1
  clear hP1 hD1 hk1 hz1 hFc hPc hDc hw ht hvm
  generalize H1 = H at hP hS ⊢
  have hP : va_P D vwCl [(q, .inr (12, [.ref ar, .int 0, .int 0, .int (jn u.length)])), (ar, .inl (cB, cap, .inl (va_cpy (bt t) f 0 i t.length)))] _ := hP
  have hD : va_D A [(q, .inr (12, [.ref ar, .int 0, .int 0, .int (jn u.length)])), (ar, .inl (cB, cap, .inl (va_cpy (bt t) f 0 i t.length)))] := hD
  refine W.widen (k := 0) (n := 0) (by omega) (by omega) ?_
  exact W.vret hx hb hr (fun t8 ht hW => ⟨⟨(), rfl, trivial, by rw [ht]; exact hP.sub (ws' := [(q, .inr (12, [.ref ar, .int 0, .int 0, .int (jn u.length)])), (ar, .inl (cB, cap, .inl (va_cpy (bt t) f 0 i t.length)))]) [0, 1] rfl, hD.sub (ws' := [(q, .inr (12, [.ref ar, .int 0, .int 0, .int (jn u.length)])), (ar, .inl (cB, cap, .inl (va_cpy (bt t) f 0 i t.length)))]) [0, 1] (by decide) rfl⟩, hS.F ht⟩) hS.2.2 d_J5_putStringAt_47b60_18
set_option maxHeartbeats 4000000 in
set_option maxRecDepth 100000 in
theorem s_bAppS0 (l : Launch) (D : va_G) (cB : ClassId) (sz : Nat) (q ar cap a b U : Nat) (u t : List Int32) (f : Nat → Int32) : Met l yJ5_append_cf1ce (wD yJ5_append_cf1ce cJ5_append_cf1ce 3 (some (.object "java/lang/AbstractStringBuilder"))) ({ frames := 4, cells := 1, slots := (2 * U + 16), locals := 200 }) (va_Pc [.ref q, .ref a] (PrW D cB sz [.inl (a, b, t)] [(q, .inr (12, [.ref ar, .int 0, .int 0, .int (jn u.length)])), (ar, .inl (cB, cap, .inl f))] (u.length + t.length ≤ U ∧ U ≤ 2000 ∧ cap ≤ 2 * U + 16 ∧ Bc u cap f ∧ As t ∧ t.length ≤ 1000)))
    (va_Qr (fun _ : Unit => True) (fun _ ra t9 => ra = q ∧ ∃ (ar1 cap1 : Nat) (f1 : Nat → Int32), va_P D vwCl [(q, .inr (12, [.ref ar1, .int 0, .int 0, .int (jn (u ++ t).length)])), (ar1, .inl (cB, cap1, .inl f1))] t9.heap ∧ va_D (va_A [(q, .inr (12, [.ref ar, .int 0, .int 0, .int (jn u.length)])), (ar, .inl (cB, cap, .inl f))] sz) [(q, .inr (12, [.ref ar1, .int 0, .int 0, .int (jn (u ++ t).length)])), (ar1, .inl (cB, cap1, .inl f1))] ∧ Bc (u ++ t) cap1 f1 ∧ cap1 ≤ 2 * U + 16) (va_A [(q, .inr (12, [.ref ar, .int 0, .int 0, .int (jn u.length)])), (ar, .inl (cB, cap, .inl f))] sz)) (1) ((2 * U + 16)) (va_A [(q, .inr (12, [.ref ar, .int 0, .int 0, .int (jn u.length)])), (ar, .inl (cB, cap, .inl f))] sz) := by
  refine Met.ofW (cc := cJ5_append_cf1ce) (maxL := 3) (ret := (some (.object "java/lang/AbstractStringBuilder"))) (by decide) rfl ?_
  intro p e s m args below meth c s₁ B hml hv
  obtain ⟨rfl, ⟨hsz, hRO, hPP, hD0, hsep, hX⟩, hJ0⟩ := hv
  have hx := B.exec
  have hb := B.bytes
  have hr := B.returns
  have hts0 := atoms_spec (ws := wD yJ5_append_cf1ce cJ5_append_cf1ce 3 (some (.object "java/lang/AbstractStringBuilder"))) B.pre
  have hts : ∀ w ∈ TW, w.before _ s = true := fun w h => hts0 w (List.mem_cons_of_mem _ h)
  have hown : s.vm.findClass RJ5 = some m.cls := findClass_of_methodNamed B.named
  have hlocks := B.notSynchronized
  subst hsz
  have hJ := hJ0.inA hPP
  have hro := ro_inA hRO hsep
  have hD := hD0.self (sz := s.heap.size)
  have hA : ∀ x9 : Nat, s.heap.size ≤ x9 → va_A [(q, .inr (12, [.ref ar, .int 0, .int 0, .int (jn u.length)])), (ar, .inl (cB, cap, .inl f))] s.heap.size x9 := fun x9 h => Or.inr h
  have hK := hJ.1
  generalize hAe : va_A [(q, .inr (12, [.ref ar, .int 0, .int 0, .int (jn u.length)])), (ar, .inl (cB, cap, .inl f))] s.heap.size = A at hJ hro hD hA ⊢
  have hS : va_S A s.heap s.heap [] := va_S.rf
  have hP := hPP
  have hl := lv_entry ([.ref q, .ref a]) (n := 3) (Nat.le_of_ble_eq_true rfl)
  rw [lg_entry_eq]
  generalize (lg_sl ([.ref q, .ref a]) ++ List.replicate (3 - (lg_sl ([.ref q, .ref a])).length) Slot.unset).toArray = ls at hl ⊢
  have hl : lv_has ls 3 [(0, .ref q), (1, .ref a)] := hl
  obtain ⟨hU1, hUU, hcU, hbc, has, hn⟩ := hX
  have hF0 : Sf a b t (A) s s.heap := ro_at hro 0 rfl
  refine lv_aload_n hx hb d_J5_append_cf1ce_0 rfl (lv_at hl 1 rfl) ?_
  refine lv_ifnonnull (tgt := 9) hx hb d_J5_append_cf1ce_1 (by decide) ?_
  refine lv_aload_n hx hb d_J5_append_cf1ce_9 rfl (lv_at hl 1 rfl) ?_
  refine sc_i (va_runV (As := []) (rest := []) ⟨hx, hb, hml, hown, hts⟩ (s_length l D cB a b t) (cwV 0 hts (g_vir (own := RJ5) (ix := 32) (y := yJ0_length_8abf5) (C := RJ0) (by decide +kernel) (by decide +kernel) (by decide +kernel) (by decide +kernel) (g_con cw_J0_length_8abf5)) rfl rfl rfl (by decide +kernel) ⟨(Nat.le_of_ble_eq_true rfl), (Nat.le_of_ble_eq_true rfl)⟩) ⟨pre_blind, hF0.rec hS, fun U hU hW => ⟨rfl, pre_call hU hW hn (ro_cons (x := (.inl (a, b, t))) (RoF.at (x := (.inl (a, b, t))) hF0 hS) ro_nil) (hJ.keep hS)⟩⟩ rfl rfl hl.1 rfl (lv_room (Nat.le_of_ble_eq_true rfl)) d_J5_append_cf1ce_10 ⟨(by show _ ≤ 1; omega), (by show _ ≤ (2 * U + 16); omega)⟩) (fun r9 hr9 => ?_)
  obtain rfl : r9 = jn t.length := hr9
  refine lv_istore_n (lv' := [(2, .int (jn t.length)), (0, .ref q), (1, .ref a)]) hx hb d_J5_append_cf1ce_13 rfl hl (by decide) rfl (fun ls hl => ?_)
  refine lv_aload_n hx hb d_J5_append_cf1ce_14 rfl (lv_at hl 1 rfl) ?_
  refine lv_aload_n hx hb d_J5_append_cf1ce_15 rfl (lv_at hl 1 rfl) ?_
  refine va_get (D := D) (ci := 12) (v := .int (jn u.length)) (C := RJ4) (T := TJ4) (N := 4) hx hb hts uw_12 hown hK hP 0 rfl rfl 3 (by decide) (hts (.fieldLink RJ5 79 "java/lang/AbstractStringBuilder" "count" "I") (by decide +kernel)) (fun _ h9 => h9) rfl d_J5_append_cf1ce_16 ?_
  refine lv_iload_n hx hb d_J5_append_cf1ce_19 rfl (lv_at hl 0 rfl) ?_
  refine lv_iadd hx hb d_J5_append_cf1ce_20 ?_
  rw [jn_add]
  have hPc := hP.sub (ws' := [(q, .inr (12, [.ref ar, .int 0, .int 0, .int (jn u.length)])), (ar, .inl (cB, cap, .inl f))]) [0, 1] rfl
  have hDc := hD.sub (ws' := [(q, .inr (12, [.ref ar, .int 0, .int 0, .int (jn u.length)])), (ar, .inl (cB, cap, .inl f))]) [0, 1] (by decide) rfl
  have hFc := va_free (wc := [(q, .inr (12, [.ref ar, .int 0, .int 0, .int (jn u.length)])), (ar, .inl (cB, cap, .inl f))]) hD hS hA [0, 1] rfl
  refine va_callv (va_runU (As := [.int (jn (u.length + t.length))]) (rest := []) ⟨hx, hb, hml, hown, hts⟩ (s_ensure l D cB s.heap.size q ar cap (u.length + t.length) U u f) (cw_priv 1 (own := RJ5) (ix := 100) (y := yJ5_ensureCapacityInternal_d00df) hts (g_con cw_J5_ensureCapacityInternal_d00df) rfl rfl (by decide +kernel) (by decide +kernel) (by decide +kernel) (by decide +kernel) hJ.2.2.2.2 (by simp) rfl (by decide +kernel) ⟨(Nat.le_of_ble_eq_true rfl), (Nat.le_of_ble_eq_true rfl)⟩) ⟨prw_blind, va_recv hK hP (ci := 12) (q0 := 0) rfl rfl, fun U hU hW => ⟨rfl, prw_call hU hW ro_nil hPc (hDc.weaken (fun _ _ _ _ => trivial)) rsep_l ⟨hU1, hUU, hcU, hbc⟩ (hJ.keep hS)⟩⟩ rfl rfl hl.1 rfl (lv_room (Nat.le_of_ble_eq_true rfl)) d_J5_append_cf1ce_21 ⟨by show _ ≤ 1; omega, by show _ ≤ (2 * U + 16); omega⟩) hS (fun q _ h => hFc q h) hFc (fun u9 t9 H1 locs ht hvm hw hB hz1 hk1 hS => ?_)
  obtain ⟨ar1, cap1, f1, hP1, hD1, hbc1, hN1, hc1⟩ := hB
  rw [ht] at hP1
  obtain ⟨hP, hD⟩ := va_join (wr := []) (w1 := [(q, .inr (12, [.ref ar1, .int 0, .int 0, .int (jn u.length)])), (ar1, .inl (cB, cap1, .inl f1))]) hP hD [0, 1] [] rfl rfl (by decide) (by decide) hk1 hFc hP1 hD1
  clear hP1 hD1 hk1 hz1 hFc hPc hDc hw ht hvm
  generalize H1 = H at hP hS ⊢
  have hP : va_P D vwCl [(q, .inr (12, [.ref ar1, .int 0, .int 0, .int (jn u.length)])), (ar1, .inl (cB, cap1, .inl f1))] _ := hP
  have hD : va_D A [(q, .inr (12, [.ref ar1, .int 0, .int 0, .int (jn u.length)])), (ar1, .inl (cB, cap1, .inl f1))] := hD
  have hbl := hbc1.1
  refine lv_aload_n hx hb d_J5_append_cf1ce_24 rfl (lv_at hl 1 rfl) ?_
  refine lv_aload_n hx hb d_J5_append_cf1ce_25 rfl (lv_at hl 1 rfl) ?_
  refine va_get (D := D) (ci := 12) (v := .int (jn u.length)) (C := RJ4) (T := TJ4) (N := 4) hx hb hts uw_12 hown hK hP 0 rfl rfl 3 (by decide) (hts (.fieldLink RJ5 79 "java/lang/AbstractStringBuilder" "count" "I") (by decide +kernel)) (fun _ h9 => h9) rfl d_J5_append_cf1ce_26 ?_
  refine lv_aload_n hx hb d_J5_append_cf1ce_29 rfl (lv_at hl 2 rfl) ?_
  have hPc := hP.sub (ws' := [(q, .inr (12, [.ref ar1, .int 0, .int 0, .int (jn u.length)])), (ar1, .inl (cB, cap1, .inl f1))]) [0, 1] rfl
  have hDc := hD.sub (ws' := [(q, .inr (12, [.ref ar1, .int 0, .int 0, .int (jn u.length)])), (ar1, .inl (cB, cap1, .inl f1))]) [0, 1] (by decide) rfl
  have hFc := va_free (wc := [(q, .inr (12, [.ref ar1, .int 0, .int 0, .int (jn u.length)])), (ar1, .inl (cB, cap1, .inl f1))]) hD hS hA [0, 1] rfl
  refine va_callv (va_runU (As := [.int (jn u.length), .ref a]) (rest := []) ⟨hx, hb, hml, hown, hts⟩ (s_putStringAt l D cB H.size q ar1 a b cap1 u.length u t f1) (cw_priv 2 (own := RJ5) (ix := 208) (y := yJ5_putStringAt_47b60) hts (g_con cw_J5_putStringAt_47b60) rfl rfl (by decide +kernel) (by decide +kernel) (by decide +kernel) (by decide +kernel) hJ.2.2.2.2 (by simp) rfl (by decide +kernel) ⟨(Nat.le_of_ble_eq_true rfl), (Nat.le_of_ble_eq_true rfl)⟩) ⟨prw_blind, va_recv hK hP (ci := 12) (q0 := 0) rfl rfl, fun U hU hW => ⟨rfl, prw_call hU hW (ro_cons (x := (.inl (a, b, t))) (RoF.at (x := (.inl (a, b, t))) hF0 hS) ro_nil) hPc (hDc.weaken (fun _ _ _ _ => trivial)) (rsep_A (ro_cons (x := (.inl (a, b, t))) hF0 ro_nil) hDc) ⟨by omega, by omega, hn, has⟩ (hJ.keep hS)⟩⟩ rfl rfl hl.1 rfl (lv_room (Nat.le_of_ble_eq_true rfl)) d_J5_append_cf1ce_30 ⟨by show _ ≤ 1; omega, by show _ ≤ (2 * U + 16); omega⟩) hS (fun q _ h => hFc q h) hFc (fun u9 t9 H1 locs ht hvm hw hB hz1 hk1 hS => ?_)
  obtain ⟨hP1, hD1⟩ := hB
  rw [ht] at hP1
  obtain ⟨hP, hD⟩ := va_join (wr := []) (w1 := [(q, .inr (12, [.ref ar1, .int 0, .int 0, .int (jn u.length)])), (ar1, .inl (cB, cap1, .inl (va_cpy (bt t) f1 0 u.length t.length)))]) hP hD [0, 1] [] rfl rfl (by decide) (by decide) hk1 hFc hP1 hD1
  clear hP1 hD1 hk1 hz1 hFc hPc hDc hw ht hvm
  generalize H1 = H at hP hS ⊢
  have hP : va_P D vwCl [(q, .inr (12, [.ref ar1, .int 0, .int 0, .int (jn u.length)])), (ar1, .inl (cB, cap1, .inl (va_cpy (bt t) f1 0 u.length t.length)))] _ := hP
  have hD : va_D A [(q, .inr (12, [.ref ar1, .int 0, .int 0, .int (jn u.length)])), (ar1, .inl (cB, cap1, .inl (va_cpy (bt t) f1 0 u.length t.length)))] := hD
  refine lv_aload_n hx hb d_J5_append_cf1ce_33 rfl (lv_at hl 1 rfl) ?_
  refine lv_dup hx hb d_J5_append_cf1ce_34 rfl ?_
  refine va_get (D := D) (ci := 12) (v := .int (jn u.length)) (C := RJ4) (T := TJ4) (N := 4) hx hb hts uw_12 hown hK hP 0 rfl rfl 3 (by decide) (hts (.fieldLink RJ5 79 "java/lang/AbstractStringBuilder" "count" "I") (by decide +kernel)) (fun _ h9 => h9) rfl d_J5_append_cf1ce_35 ?_
  refine lv_iload_n hx hb d_J5_append_cf1ce_38 rfl (lv_at hl 0 rfl) ?_
  refine lv_iadd hx hb d_J5_append_cf1ce_39 ?_
  rw [jn_add]
  refine va_put (D := D) (ci := 12) (v := .int (jn (u.length + t.length))) (ty := .int) (C := RJ4) (T := TJ4) (N := 4) hx hb hts uw_12 tyJ4 tyJ4_ok nmJ4 hown hK hP hD hS 0 rfl rfl 3 (by decide) (hts (.fieldLink RJ5 79 "java/lang/AbstractStringBuilder" "count" "I") (by decide +kernel)) (fun _ h9 => h9) rfl (by decide +kernel) rfl rfl (Nat.le_of_ble_eq_true rfl) d_J5_append_cf1ce_40 (fun H locs hP hD hS => ?_)
  have hP : va_P D vwCl [(q, .inr (12, [.ref ar1, .int 0, .int 0, .int (jn (u.length + t.length))])), (ar1, .inl (cB, cap1, .inl (va_cpy (bt t) f1 0 u.length t.length)))] _ := hP
  have hD : va_D A [(q, .inr (12, [.ref ar1, .int 0, .int 0, .int (jn (u.length + t.length))])), (ar1, .inl (cB, cap1, .inl (va_cpy (bt t) f1 0 u.length t.length)))] := hD
  rw [show u.length + t.length = (u ++ t).length by simp] at hP hD
  have hP : va_P D vwCl [(q, .inr (12, [.ref ar1, .int 0, .int 0, .int (jn (u ++ t).length)])), (ar1, .inl (cB, cap1, .inl (va_cpy (bt t) f1 0 u.length t.length)))] _ := hP
  have hD : va_D A [(q, .inr (12, [.ref ar1, .int 0, .int 0, .int (jn (u ++ t).length)])), (ar1, .inl (cB, cap1, .inl (va_cpy (bt t) f1 0 u.length t.length)))] := hD
  refine lv_aload_n hx hb d_J5_append_cf1ce_43 rfl (lv_at hl 1 rfl) ?_
  refine W.widen (k := 1) (n := (2 * U + 16)) (by omega) (by omega) ?_
  exact W.aret hx hb hr (Or.inl ⟨_, rfl⟩) (Or.inr ⟨_, rfl⟩) (fun t8 ht hW => ⟨⟨(), q, rfl, trivial, rfl, ar1, cap1, (va_cpy (bt t) f1 0 u.length t.length), by rw [ht]; exact hP.sub (ws' := [(q, .inr (12, [.ref ar1, .int 0, .int 0, .int (jn (u ++ t).length)])), (ar1, .inl (cB, cap1, .inl (va_cpy (bt t) f1 0 u.length t.length)))]) [0, 1] rfl, hD.sub (ws' := [(q, .inr (12, [.ref ar1, .int 0, .int 0, .int (jn (u ++ t).length)])), (ar1, .inl (cB, cap1, .inl (va_cpy (bt t) f1 0 u.length t.length)))]) [0, 1] (by decide) rfl, Bc_s hbc1 (by omega) has, hc1⟩, hS.F ht⟩) hS.2.2 d_J5_append_cf1ce_44
set_option maxHeartbeats 4000000 in
set_option maxRecDepth 100000 in
theorem s_bAppS (l : Launch) (D : va_G) (cB : ClassId) (sz : Nat) (q ar cap a b U : Nat) (u t : List Int32) (f : Nat → Int32) : Met l yJ4_append_15ec4 (wD yJ4_append_15ec4 cJ4_append_15ec4 2 (some (.object "java/lang/StringBuilder"))) ({ frames := 5, cells := 1, slots := (2 * U + 16), locals := 250 }) (va_Pc [.ref q, .ref a] (PrW D cB sz [.inl (a, b, t)] [(q, .inr (12, [.ref ar, .int 0, .int 0, .int (jn u.length)])), (ar, .inl (cB, cap, .inl f))] (u.length + t.length ≤ U ∧ U ≤ 2000 ∧ cap ≤ 2 * U + 16 ∧ Bc u cap f ∧ As t ∧ t.length ≤ 1000)))
    (va_Qr (fun _ : Unit => True) (fun _ ra t9 => ra = q ∧ ∃ (ar1 cap1 : Nat) (f1 : Nat → Int32), va_P D vwCl [(q, .inr (12, [.ref ar1, .int 0, .int 0, .int (jn (u ++ t).length)])), (ar1, .inl (cB, cap1, .inl f1))] t9.heap ∧ va_D (va_A [(q, .inr (12, [.ref ar, .int 0, .int 0, .int (jn u.length)])), (ar, .inl (cB, cap, .inl f))] sz) [(q, .inr (12, [.ref ar1, .int 0, .int 0, .int (jn (u ++ t).length)])), (ar1, .inl (cB, cap1, .inl f1))] ∧ Bc (u ++ t) cap1 f1 ∧ cap1 ≤ 2 * U + 16) (va_A [(q, .inr (12, [.ref ar, .int 0, .int 0, .int (jn u.length)])), (ar, .inl (cB, cap, .inl f))] sz)) (1) ((2 * U + 16)) (va_A [(q, .inr (12, [.ref ar, .int 0, .int 0, .int (jn u.length)])), (ar, .inl (cB, cap, .inl f))] sz) := by
  refine Met.ofW (cc := cJ4_append_15ec4) (maxL := 2) (ret := (some (.object "java/lang/StringBuilder"))) (by decide) rfl ?_
  intro p e s m args below meth c s₁ B hml hv
  obtain ⟨rfl, ⟨hsz, hRO, hPP, hD0, hsep, hX⟩, hJ0⟩ := hv
  have hx := B.exec
  have hb := B.bytes
  have hr := B.returns
  have hts0 := atoms_spec (ws := wD yJ4_append_15ec4 cJ4_append_15ec4 2 (some (.object "java/lang/StringBuilder"))) B.pre
  have hts : ∀ w ∈ TW, w.before _ s = true := fun w h => hts0 w (List.mem_cons_of_mem _ h)
  have hown : s.vm.findClass RJ4 = some m.cls := findClass_of_methodNamed B.named
  have hlocks := B.notSynchronized
  subst hsz
  have hJ := hJ0.inA hPP
  have hro := ro_inA hRO hsep
  have hD := hD0.self (sz := s.heap.size)
  have hA : ∀ x9 : Nat, s.heap.size ≤ x9 → va_A [(q, .inr (12, [.ref ar, .int 0, .int 0, .int (jn u.length)])), (ar, .inl (cB, cap, .inl f))] s.heap.size x9 := fun x9 h => Or.inr h
  have hK := hJ.1
  generalize hAe : va_A [(q, .inr (12, [.ref ar, .int 0, .int 0, .int (jn u.length)])), (ar, .inl (cB, cap, .inl f))] s.heap.size = A at hJ hro hD hA ⊢
  have hS : va_S A s.heap s.heap [] := va_S.rf
  have hP := hPP
  have hl := lv_entry ([.ref q, .ref a]) (n := 2) (Nat.le_of_ble_eq_true rfl)
  rw [lg_entry_eq]
  generalize (lg_sl ([.ref q, .ref a]) ++ List.replicate (2 - (lg_sl ([.ref q, .ref a])).length) Slot.unset).toArray = ls at hl ⊢
  have hl : lv_has ls 2 [(0, .ref q), (1, .ref a)] := hl
  obtain ⟨hU1, hUU, hcU, hbc, has, hn⟩ := hX
  have hF0 : Sf a b t (A) s s.heap := ro_at hro 0 rfl
  refine lv_aload_n hx hb d_J4_append_15ec4_0 rfl (lv_at hl 0 rfl) ?_
  refine lv_aload_n hx hb d_J4_append_15ec4_1 rfl (lv_at hl 1 rfl) ?_
  have hPc := hP.sub (ws' := [(q, .inr (12, [.ref ar, .int 0, .int 0, .int (jn u.length)])), (ar, .inl (cB, cap, .inl f))]) [0, 1] rfl
  have hDc := hD.sub (ws' := [(q, .inr (12, [.ref ar, .int 0, .int 0, .int (jn u.length)])), (ar, .inl (cB, cap, .inl f))]) [0, 1] (by decide) rfl
  have hFc := va_free (wc := [(q, .inr (12, [.ref ar, .int 0, .int 0, .int (jn u.length)])), (ar, .inl (cB, cap, .inl f))]) hD hS hA [0, 1] rfl
  refine va_callr (va_runSU (As := [.ref a]) (rest := []) (hK.1 12 _ rfl).2 ⟨hx, hb, hml, hown, hts⟩ (s_bAppS0 l D cB s.heap.size q ar cap a b U u t f) (va_cwSU 1 hts (g_sup (own := RJ4) (ix := 29) (y := yJ5_append_cf1ce) (by decide +kernel) (by decide +kernel) (by decide +kernel) (by decide +kernel) (by decide +kernel) (g_con cw_J5_append_cf1ce)) rfl rfl rfl ⟨by decide, by decide +kernel⟩ ⟨(Nat.le_of_ble_eq_true rfl), (Nat.le_of_ble_eq_true rfl)⟩) ⟨prw_blind, va_recv hK hP (ci := 12) (q0 := 0) rfl rfl, fun U hU hW => ⟨rfl, prw_call hU hW (ro_cons (x := (.inl (a, b, t))) (RoF.at (x := (.inl (a, b, t))) hF0 hS) ro_nil) hPc (hDc.weaken (fun _ _ _ _ => trivial)) (rsep_A (ro_cons (x := (.inl (a, b, t))) hF0 ro_nil) hDc) ⟨hU1, hUU, hcU, hbc, has, hn⟩ (hJ.keep hS)⟩⟩ rfl rfl hl.1 rfl (lv_room (Nat.le_of_ble_eq_true rfl)) d_J4_append_15ec4_2 ⟨by show _ ≤ 1; omega, by show _ ≤ (2 * U + 16); omega⟩) hS (fun q _ h => hFc q h) hFc (fun u9 ra1 t9 H1 locs ht hvm hw hB hz1 hk1 hS => ?_)
  obtain ⟨hra, ar1, cap1, f1, hP1, hD1, hbc1, hc1⟩ := hB
  rw [ht] at hP1
  rw [hra]
  clear hra
  obtain ⟨hP, hD⟩ := va_join (wr := []) (w1 := [(q, .inr (12, [.ref ar1, .int 0, .int 0, .int (jn (u ++ t).length)])), (ar1, .inl (cB, cap1, .inl f1))]) hP hD [0, 1] [] rfl rfl (by decide) (by decide) hk1 hFc hP1 hD1
  clear hP1 hD1 hk1 hz1 hFc hPc hDc hw ht hvm
  generalize H1 = H at hP hS ⊢
  have hP : va_P D vwCl [(q, .inr (12, [.ref ar1, .int 0, .int 0, .int (jn (u ++ t).length)])), (ar1, .inl (cB, cap1, .inl f1))] _ := hP
  have hD : va_D A [(q, .inr (12, [.ref ar1, .int 0, .int 0, .int (jn (u ++ t).length)])), (ar1, .inl (cB, cap1, .inl f1))] := hD
  refine lv_pop hx hb d_J4_append_15ec4_5 rfl ?_
  refine lv_aload_n hx hb d_J4_append_15ec4_6 rfl (lv_at hl 0 rfl) ?_
  refine W.widen (k := 1) (n := (2 * U + 16)) (by omega) (by omega) ?_
  exact W.aret hx hb hr (Or.inl ⟨_, rfl⟩) (Or.inr ⟨_, rfl⟩) (fun t8 ht hW => ⟨⟨(), q, rfl, trivial, rfl, ar1, cap1, f1, by rw [ht]; exact hP.sub (ws' := [(q, .inr (12, [.ref ar1, .int 0, .int 0, .int (jn (u ++ t).length)])), (ar1, .inl (cB, cap1, .inl f1))]) [0, 1] rfl, hD.sub (ws' := [(q, .inr (12, [.ref ar1, .int 0, .int 0, .int (jn (u ++ t).length)])), (ar1, .inl (cB, cap1, .inl f1))]) [0, 1] (by decide) rfl, hbc1, hc1⟩, hS.F ht⟩) hS.2.2 d_J4_append_15ec4_7
set_option maxHeartbeats 4000000 in
set_option maxRecDepth 100000 in
theorem s_bValue (l : Launch) (D : va_G) (cB : ClassId) (q ar : Nat) (k : Int32) : Met l yJ5_getValue_6d5f1 (wD yJ5_getValue_6d5f1 cJ5_getValue_6d5f1 1 (some (.array .byte))) ({ frames := 1, cells := 0, slots := 0, locals := 60 }) (va_Pc [.ref q] (PrJ D cB [] (fun H => va_P D vwCl [(q, .inr (12, [.ref ar, .int 0, .int 0, .int k]))] H))) (Srr ar) 0 0 (fun _ => False) := by
  refine Met.ofW (cc := cJ5_getValue_6d5f1) (maxL := 1) (ret := (some (.array .byte))) (by decide) rfl ?_
  intro p e s m args below meth c s₁ B hml hv
  obtain ⟨rfl, hX, hro, hJ⟩ := hv
  have hx := B.exec
  have hb := B.bytes
  have hr := B.returns
  have hts0 := atoms_spec (ws := wD yJ5_getValue_6d5f1 cJ5_getValue_6d5f1 1 (some (.array .byte))) B.pre
  have hts : ∀ w ∈ TW, w.before _ s = true := fun w h => hts0 w (List.mem_cons_of_mem _ h)
  have hown : s.vm.findClass RJ5 = some m.cls := findClass_of_methodNamed B.named
  have hlocks := B.notSynchronized
  have hS : va_S (fun _ => False) s.heap s.heap [] := va_S.rf
  have hK := hJ.1
  have hl := lv_entry ([.ref q]) (n := 1) (Nat.le_of_ble_eq_true rfl)
  rw [lg_entry_eq]
  generalize (lg_sl ([.ref q]) ++ List.replicate (1 - (lg_sl ([.ref q])).length) Slot.unset).toArray = ls at hl ⊢
  have hl : lv_has ls 1 [(0, .ref q)] := hl
  have hP := hX
  refine lv_aload_n hx hb d_J5_getValue_6d5f1_0 rfl (lv_at hl 0 rfl) ?_
  refine va_get (D := D) (ci := 12) (v := .ref ar) (C := RJ4) (T := TJ4) (N := 4) hx hb hts uw_12 hown hK hP 0 rfl rfl 0 (by decide) (hts (.fieldLink RJ5 15 "java/lang/AbstractStringBuilder" "value" "[B") (by decide +kernel)) (fun _ h9 => h9) rfl d_J5_getValue_6d5f1_1 ?_
  exact W.aret hx hb hr (Or.inr ⟨_, rfl⟩) (Or.inr ⟨_, rfl⟩) (fun t ht hW => ⟨rfl, ht⟩) (fun q h => by cases h) d_J5_getValue_6d5f1_4
set_option maxHeartbeats 4000000 in
set_option maxRecDepth 100000 in
theorem s_bLength (l : Launch) (D : va_G) (cB : ClassId) (q ar : Nat) (k : Int32) : Met l yJ5_length_8abf5 (wD yJ5_length_8abf5 cJ5_length_8abf5 1 (some .int)) ({ frames := 1, cells := 0, slots := 0, locals := 60 }) (va_Pc [.ref q] (PrJ D cB [] (fun H => va_P D vwCl [(q, .inr (12, [.ref ar, .int 0, .int 0, .int k]))] H))) (Sri (fun r => r = k)) 0 0 (fun _ => False) := by
  refine Met.ofW (cc := cJ5_length_8abf5) (maxL := 1) (ret := (some .int)) (by decide) rfl ?_
  intro p e s m args below meth c s₁ B hml hv
  obtain ⟨rfl, hX, hro, hJ⟩ := hv
  have hx := B.exec
  have hb := B.bytes
  have hr := B.returns
  have hts0 := atoms_spec (ws := wD yJ5_length_8abf5 cJ5_length_8abf5 1 (some .int)) B.pre
  have hts : ∀ w ∈ TW, w.before _ s = true := fun w h => hts0 w (List.mem_cons_of_mem _ h)
  have hown : s.vm.findClass RJ5 = some m.cls := findClass_of_methodNamed B.named
  have hlocks := B.notSynchronized
  have hS : va_S (fun _ => False) s.heap s.heap [] := va_S.rf
  have hK := hJ.1
  have hl := lv_entry ([.ref q]) (n := 1) (Nat.le_of_ble_eq_true rfl)
  rw [lg_entry_eq]
  generalize (lg_sl ([.ref q]) ++ List.replicate (1 - (lg_sl ([.ref q])).length) Slot.unset).toArray = ls at hl ⊢
  have hl : lv_has ls 1 [(0, .ref q)] := hl
  have hP := hX
  refine lv_aload_n hx hb d_J5_length_8abf5_0 rfl (lv_at hl 0 rfl) ?_
  refine va_get (D := D) (ci := 12) (v := .int k) (C := RJ4) (T := TJ4) (N := 4) hx hb hts uw_12 hown hK hP 0 rfl rfl 3 (by decide) (hts (.fieldLink RJ5 79 "java/lang/AbstractStringBuilder" "count" "I") (by decide +kernel)) (fun _ h9 => h9) rfl d_J5_length_8abf5_1 ?_
  exact W.iret hx hb hr (fun t ht hW => ⟨_, rfl, rfl, ht⟩) (fun q h => by cases h) d_J5_length_8abf5_4
set_option maxHeartbeats 4000000 in
set_option maxRecDepth 100000 in
theorem s_copyWhole (l : Launch) (D : va_G) (cB : ClassId) (sz : Nat) (b n : Nat) (f : Nat → Int32) : Met l yJ7_copyOfRange_39247 (wD yJ7_copyOfRange_39247 cJ7_copyOfRange_39247 3 (some (.array .byte))) ({ frames := 2, cells := 1, slots := n, locals := 100 }) (va_Pc [.ref b, .int 0, .int (jn n)] (PrW D cB sz [] [(b, .inl (cB, n, .inl f))] (fitB8 f n ∧ n ≤ 10000)))
    (va_Qr (fun _ : Unit => True) (fun _ ra t9 => va_P D vwCl [(b, .inl (cB, n, .inl f)), (ra, .inl (cB, n, .inl f))] t9.heap ∧ va_D (va_A [(b, .inl (cB, n, .inl f))] sz) [(b, .inl (cB, n, .inl f)), (ra, .inl (cB, n, .inl f))]) (va_A [(b, .inl (cB, n, .inl f))] sz)) (1) (n) (va_A [(b, .inl (cB, n, .inl f))] sz) := by
  refine Met.ofW (cc := cJ7_copyOfRange_39247) (maxL := 3) (ret := (some (.array .byte))) (by decide) rfl ?_
  intro p e s m args below meth c s₁ B hml hv
  obtain ⟨rfl, ⟨hsz, hRO, hPP, hD0, hsep, hX⟩, hJ0⟩ := hv
  have hx := B.exec
  have hb := B.bytes
  have hr := B.returns
  have hts0 := atoms_spec (ws := wD yJ7_copyOfRange_39247 cJ7_copyOfRange_39247 3 (some (.array .byte))) B.pre
  have hts : ∀ w ∈ TW, w.before _ s = true := fun w h => hts0 w (List.mem_cons_of_mem _ h)
  have hown : s.vm.findClass RJ7 = some m.cls := findClass_of_methodNamed B.named
  have hlocks := B.notSynchronized
  subst hsz
  have hJ := hJ0.inA hPP
  have hro := ro_inA hRO hsep
  have hD := hD0.self (sz := s.heap.size)
  have hA : ∀ x9 : Nat, s.heap.size ≤ x9 → va_A [(b, .inl (cB, n, .inl f))] s.heap.size x9 := fun x9 h => Or.inr h
  have hK := hJ.1
  generalize hAe : va_A [(b, .inl (cB, n, .inl f))] s.heap.size = A at hJ hro hD hA ⊢
  have hS : va_S A s.heap s.heap [] := va_S.rf
  have hP := hPP
  have hl := lv_entry ([.ref b, .int 0, .int (jn n)]) (n := 3) (Nat.le_of_ble_eq_true rfl)
  rw [lg_entry_eq]
  generalize (lg_sl ([.ref b, .int 0, .int (jn n)]) ++ List.replicate (3 - (lg_sl ([.ref b, .int 0, .int (jn n)])).length) Slot.unset).toArray = ls at hl ⊢
  have hl : lv_has ls 3 [(0, .ref b), (1, .int 0), (2, .int (jn n))] := hl
  obtain ⟨hf, hn⟩ := hX
  refine lv_iload_n hx hb d_J7_copyOfRange_39247_0 rfl (lv_at hl 1 rfl) ?_
  refine lv_if_ne (tgt := 10) hx hb d_J7_copyOfRange_39247_1 (by decide) (fun h9 => absurd h9 (fun z9 => z9 rfl)) (fun _ => ?_)
  refine lv_iload_n hx hb d_J7_copyOfRange_39247_4 rfl (lv_at hl 2 rfl) ?_
  refine lv_aload_n hx hb d_J7_copyOfRange_39247_5 rfl (lv_at hl 0 rfl) ?_
  refine va_alen (v := jn n) hx hb hK hP 0 0 rfl rfl (ofNat_jn (by omega)) d_J7_copyOfRange_39247_6 ?_
  refine lv_icmp_eq (tgt := 17) hx hb d_J7_copyOfRange_39247_7 (by decide) (fun _ => ?_) (fun h9 => absurd rfl h9)
  refine lv_aload_n hx hb d_J7_copyOfRange_39247_17 rfl (lv_at hl 0 rfl) ?_
  refine cloneB (cB := cB) hx hb (by rw [hml]; exact hl.1.symm) hown (hts (.methodLink RJ7 310 ⟨"[B", "clone", "()Ljava/lang/Object;"⟩) (by decide +kernel)) (hts (.sameMethod "[B" "java/lang/Object" "clone" "()Ljava/lang/Object;") (by decide +kernel)) (hts (.native ⟨"java/lang/Object", "clone", "()Ljava/lang/Object;"⟩) (by decide +kernel)) (hts (.instanceMethod ⟨"java/lang/Object", "clone", "()Ljava/lang/Object;"⟩) (by decide +kernel)) (hts (.selects "[B" ⟨"[B", "clone", "()Ljava/lang/Object;"⟩ ⟨"java/lang/Object", "clone", "()Ljava/lang/Object;"⟩) (by decide +kernel)) hJ.2.2.2.1 hK hPP hf (Nat.le_of_ble_eq_true rfl) (Nat.le_of_ble_eq_true rfl) (by show _ ≤ 1; omega) (by show _ ≤ n; omega) d_J7_copyOfRange_39247_18 (fun q1 H1 hP1 hq1 hz1 hk1 => ?_)
  refine va_castA hx hb hown (hts (.classLink RJ7 311 "[B") (by decide +kernel)) hP1 0 rfl (va_nm_byte (hK.2 0 _ rfl).2) d_J7_copyOfRange_39247_21 ?_
  subst hAe
  refine W.widen (k := 1) (n := n) (by omega) (by omega) ?_
  exact W.aret hx hb hr (Or.inr ⟨_, rfl⟩) (Or.inr ⟨_, rfl⟩) (fun t8 ht hW => ⟨⟨(), q1, rfl, trivial, by rw [ht]; exact clone_P hPP hP1 hk1, clone_D hPP hq1⟩, ⟨by rw [ht]; exact hz1, fun q h1 h2 => by rw [ht]; exact hk1 q h1⟩⟩) (fun _ h => by cases h) d_J7_copyOfRange_39247_24
set_option maxHeartbeats 4000000 in
set_option maxRecDepth 100000 in
theorem s_sbLength (l : Launch) (D : va_G) (cB : ClassId) (q ar : Nat) (k : Int32) : Met l yJ4_length_8abf5 (wD yJ4_length_8abf5 cJ4_length_8abf5 1 (some .int)) ({ frames := 2, cells := 0, slots := 0, locals := 100 }) (va_Pc [.ref q] (PrJ D cB [] (fun H => va_P D vwCl [(q, .inr (12, [.ref ar, .int 0, .int 0, .int k]))] H))) (Sri (fun r => r = k)) 0 0 (fun _ => False) := by
  refine Met.ofW (cc := cJ4_length_8abf5) (maxL := 1) (ret := (some .int)) (by decide) rfl ?_
  intro p e s m args below meth c s₁ B hml hv
  obtain ⟨rfl, hX, hro, hJ⟩ := hv
  have hx := B.exec
  have hb := B.bytes
  have hr := B.returns
  have hts0 := atoms_spec (ws := wD yJ4_length_8abf5 cJ4_length_8abf5 1 (some .int)) B.pre
  have hts : ∀ w ∈ TW, w.before _ s = true := fun w h => hts0 w (List.mem_cons_of_mem _ h)
  have hown : s.vm.findClass RJ4 = some m.cls := findClass_of_methodNamed B.named
  have hlocks := B.notSynchronized
  have hS : va_S (fun _ => False) s.heap s.heap [] := va_S.rf
  have hK := hJ.1
  have hl := lv_entry ([.ref q]) (n := 1) (Nat.le_of_ble_eq_true rfl)
  rw [lg_entry_eq]
  generalize (lg_sl ([.ref q]) ++ List.replicate (1 - (lg_sl ([.ref q])).length) Slot.unset).toArray = ls at hl ⊢
  have hl : lv_has ls 1 [(0, .ref q)] := hl
  have hP := hX
  refine lv_aload_n hx hb d_J4_length_8abf5_0 rfl (lv_at hl 0 rfl) ?_
  refine sc_i (va_runSU (As := []) (rest := []) (hK.1 12 _ rfl).2 ⟨hx, hb, hml, hown, hts⟩ (s_bLength l D cB q ar k) (va_cwSU 0 hts (g_sup (own := RJ4) (ix := 343) (y := yJ5_length_8abf5) (by decide +kernel) (by decide +kernel) (by decide +kernel) (by decide +kernel) (by decide +kernel) (g_con cw_J5_length_8abf5)) rfl rfl rfl ⟨by decide, by decide +kernel⟩ ⟨(Nat.le_of_ble_eq_true rfl), (Nat.le_of_ble_eq_true rfl)⟩) ⟨pre_blind, va_recv hK hP (ci := 12) (q0 := 0) rfl rfl, fun U hU hW => ⟨rfl, pre_call hU hW hP ro_nil hJ⟩⟩ rfl rfl hl.1 rfl (lv_room (Nat.le_of_ble_eq_true rfl)) d_J4_length_8abf5_1 ⟨(Nat.le_of_ble_eq_true rfl), (Nat.le_of_ble_eq_true rfl)⟩) (fun r9 hr9 => ?_)
  obtain rfl : r9 = k := hr9
  exact W.iret hx hb hr (fun t ht hW => ⟨_, rfl, rfl, ht⟩) (fun q h => by cases h) d_J4_length_8abf5_4
set_option maxHeartbeats 4000000 in
set_option maxRecDepth 100000 in
theorem s_strB0 (l : Launch) (D : va_G) (cB : ClassId) (sz : Nat) (a q ar cap : Nat) (u : List Int32) (f : Nat → Int32) : Met l yJ0_init_db425 (wD yJ0_init_db425 cJ0_init_db425 5 none) ({ frames := 5, cells := 1, slots := u.length, locals := 250 }) (va_Pc [.ref a, .ref q, .null] (PrW D cB sz [] [(a, .inr (11, [.null, .int 0, .int 0, .int 0])), (q, .inr (12, [.ref ar, .int 0, .int 0, .int (jn u.length)])), (ar, .inl (cB, cap, .inl f))] (Bc u cap f ∧ cap ≤ 5000)))
    (va_Qv (fun _ : Unit => True) (fun _ t9 => ∃ v, va_P D vwCl [(a, .inr (11, [.ref v, .int 0, .int 0, .int 0])), (v, .inl (cB, u.length, .inl (bt u)))] t9.heap ∧ va_D (va_A [(a, .inr (11, [.null, .int 0, .int 0, .int 0])), (q, .inr (12, [.ref ar, .int 0, .int 0, .int (jn u.length)])), (ar, .inl (cB, cap, .inl f))] sz) [(a, .inr (11, [.ref v, .int 0, .int 0, .int 0])), (v, .inl (cB, u.length, .inl (bt u)))]) (va_A [(a, .inr (11, [.null, .int 0, .int 0, .int 0])), (q, .inr (12, [.ref ar, .int 0, .int 0, .int (jn u.length)])), (ar, .inl (cB, cap, .inl f))] sz)) (1) (u.length) (va_A [(a, .inr (11, [.null, .int 0, .int 0, .int 0])), (q, .inr (12, [.ref ar, .int 0, .int 0, .int (jn u.length)])), (ar, .inl (cB, cap, .inl f))] sz) := by
  refine Met.ofW (cc := cJ0_init_db425) (maxL := 5) (ret := none) (by decide) rfl ?_
  intro p e s m args below meth c s₁ B hml hv
  obtain ⟨rfl, ⟨hsz, hRO, hPP, hD0, hsep, hX⟩, hJ0⟩ := hv
  have hx := B.exec
  have hb := B.bytes
  have hr := B.returns
  have hts0 := atoms_spec (ws := wD yJ0_init_db425 cJ0_init_db425 5 none) B.pre
  have hts : ∀ w ∈ TW, w.before _ s = true := fun w h => hts0 w (List.mem_cons_of_mem _ h)
  have hown : s.vm.findClass RJ0 = some m.cls := findClass_of_methodNamed B.named
  have hlocks := B.notSynchronized
  subst hsz
  have hJ := hJ0.inA hPP
  have hro := ro_inA hRO hsep
  have hD := hD0.self (sz := s.heap.size)
  have hA : ∀ x9 : Nat, s.heap.size ≤ x9 → va_A [(a, .inr (11, [.null, .int 0, .int 0, .int 0])), (q, .inr (12, [.ref ar, .int 0, .int 0, .int (jn u.length)])), (ar, .inl (cB, cap, .inl f))] s.heap.size x9 := fun x9 h => Or.inr h
  have hK := hJ.1
  generalize hAe : va_A [(a, .inr (11, [.null, .int 0, .int 0, .int 0])), (q, .inr (12, [.ref ar, .int 0, .int 0, .int (jn u.length)])), (ar, .inl (cB, cap, .inl f))] s.heap.size = A at hJ hro hD hA ⊢
  have hS : va_S A s.heap s.heap [] := va_S.rf
  have hP := hPP
  have hl := lv_entry ([.ref a, .ref q, .null]) (n := 5) (Nat.le_of_ble_eq_true rfl)
  rw [lg_entry_eq]
  generalize (lg_sl ([.ref a, .ref q, .null]) ++ List.replicate (5 - (lg_sl ([.ref a, .ref q, .null])).length) Slot.unset).toArray = ls at hl ⊢
  have hl : lv_has ls 5 [(0, .ref a), (1, .ref q), (2, .null)] := hl
  obtain ⟨hbc, hc⟩ := hX
  have hin : meth.name = "<init>" := (name_of_methodNamed B.named B.method).1
  have hbl := hbc.1
  refine lv_aload_n hx hb d_J0_init_db425_0 rfl (lv_at hl 0 rfl) ?_
  refine W.objInit hx hb hown (hts (.methodLink RJ0 1 objectInit) (by decide +kernel)) (hts (.instanceMethod objectInit) (by decide +kernel)) (hts (.code objectInit ⟨#[0xb1]⟩ 1 none) (by decide +kernel)) rfl (by rw [hml]; exact hl.1) rfl d_J0_init_db425_1 (Nat.le_of_ble_eq_true rfl) (Nat.le_of_ble_eq_true rfl) ?_
  refine W.eq (g2 := F0 m 4 ls []) rfl ?_
  refine lv_aload_n hx hb d_J0_init_db425_4 rfl (lv_at hl 1 rfl) ?_
  refine sc_r (va_runU (As := []) (rest := []) ⟨hx, hb, hml, hown, hts⟩ (s_bValue l D cB q ar (jn u.length)) (va_cwU 0 hts (g_inh (own := RJ0) (ix := 552) (y := yJ5_getValue_6d5f1) (C := RJ4) (by decide +kernel) (by decide +kernel) (by decide +kernel) (by decide +kernel) (by decide +kernel) (g_con cw_J5_getValue_6d5f1)) rfl rfl rfl rfl (by decide +kernel) ⟨(Nat.le_of_ble_eq_true rfl), (Nat.le_of_ble_eq_true rfl)⟩) ⟨pre_blind, va_recv hK hP (ci := 12) (q0 := 1) rfl rfl, fun U hU hW => ⟨rfl, pre_call hU hW (hP.sub (ws' := [(q, .inr (12, [.ref ar, .int 0, .int 0, .int (jn u.length)]))]) [1] rfl) ro_nil (hJ.keep hS)⟩⟩ rfl rfl hl.1 rfl (lv_room (Nat.le_of_ble_eq_true rfl)) d_J0_init_db425_5 ⟨(by show _ ≤ 1; omega), (by show _ ≤ u.length; omega)⟩) ?_
  refine lv_astore_n (lv' := [(3, .ref ar), (0, .ref a), (1, .ref q), (2, .null)]) hx hb d_J0_init_db425_8 rfl hl (by decide) rfl (fun ls hl => ?_)
  refine lv_aload_n hx hb d_J0_init_db425_9 rfl (lv_at hl 2 rfl) ?_
  refine sc_i (va_runU (As := []) (rest := []) ⟨hx, hb, hml, hown, hts⟩ (s_sbLength l D cB q ar (jn u.length)) (va_cwO 0 hts (g_ovr (own := RJ0) (ix := 549) (C := RJ4) (x := yJ5_length_8abf5) (y := yJ4_length_8abf5) (by decide +kernel) (by decide +kernel) (by decide +kernel) (by decide +kernel) (by decide +kernel) (by decide +kernel) (g_con cw_J4_length_8abf5)) rfl rfl rfl (b0 := cJ5_length_8abf5) cw_J5_length_8abf5 ⟨by decide, by decide, by decide +kernel⟩ ⟨(Nat.le_of_ble_eq_true rfl), (Nat.le_of_ble_eq_true rfl)⟩) ⟨pre_blind, va_recv hK hP (ci := 12) (q0 := 1) rfl rfl, fun U hU hW => ⟨rfl, pre_call hU hW (hP.sub (ws' := [(q, .inr (12, [.ref ar, .int 0, .int 0, .int (jn u.length)]))]) [1] rfl) ro_nil (hJ.keep hS)⟩⟩ rfl rfl hl.1 rfl (lv_room (Nat.le_of_ble_eq_true rfl)) d_J0_init_db425_10 ⟨(by show _ ≤ 1; omega), (by show _ ≤ u.length; omega)⟩) (fun r9 hr9 => ?_)
  obtain rfl : r9 = jn u.length := hr9
  refine lv_istore (lv' := [(4, .int (jn u.length)), (3, .ref ar), (0, .ref a), (1, .ref q), (2, .null)]) hx hb d_J0_init_db425_13 hl (by decide) rfl (fun ls hl => ?_)
  refine lv_aload_n hx hb d_J0_init_db425_15 rfl (lv_at hl 3 rfl) ?_
  refine sc_i (va_runU (As := []) (rest := []) ⟨hx, hb, hml, hown, hts⟩ (s_bLatin1 l D cB q ar (jn u.length)) (va_cwU 0 hts (g_inh (own := RJ0) (ix := 1047) (y := yJ5_isLatin1_aae02) (C := RJ4) (by decide +kernel) (by decide +kernel) (by decide +kernel) (by decide +kernel) (by decide +kernel) (g_con cw_J5_isLatin1_aae02)) rfl rfl rfl rfl (by decide +kernel) ⟨(Nat.le_of_ble_eq_true rfl), (Nat.le_of_ble_eq_true rfl)⟩) ⟨pre_blind, va_recv hK hP (ci := 12) (q0 := 1) rfl rfl, fun U hU hW => ⟨rfl, pre_call hU hW (hP.sub (ws' := [(q, .inr (12, [.ref ar, .int 0, .int 0, .int (jn u.length)]))]) [1] rfl) ro_nil (hJ.keep hS)⟩⟩ rfl rfl hl.1 rfl (lv_room (Nat.le_of_ble_eq_true rfl)) d_J0_init_db425_16 ⟨(by show _ ≤ 1; omega), (by show _ ≤ u.length; omega)⟩) (fun r9 hr9 => ?_)
  obtain rfl : r9 = 1 := hr9
  refine lv_if_eq (tgt := 41) hx hb d_J0_init_db425_19 (by decide) (fun h9 => absurd h9 (by decide)) (fun _ => ?_)
  refine lv_aload_n hx hb d_J0_init_db425_22 rfl (lv_at hl 2 rfl) ?_
  refine lv_iconst (v := 0) hx hb d_J0_init_db425_23 (by decide) ?_
  refine va_putF (D := D) (ci := 11) (v := .int 0) (ty := .byte) (C := RJ0) (T := TJ0) (N := 4) hx hb hts uw_11 tyJ0 tyJ0_ok nmJ0 hown hK hP hD hS 0 rfl rfl 1 (by decide) (hts (.fieldLink RJ0 15 "java/lang/String" "coder" "B") (by decide +kernel)) (fun _ h9 => h9) rfl hin rfl (by decide +kernel) rfl rfl (Nat.le_of_ble_eq_true rfl) d_J0_init_db425_24 (fun H locs hP hD hS => ?_)
  have hP : va_P D vwCl [(a, .inr (11, [.null, .int 0, .int 0, .int 0])), (q, .inr (12, [.ref ar, .int 0, .int 0, .int (jn u.length)])), (ar, .inl (cB, cap, .inl f))] _ := hP
  have hD : va_D A [(a, .inr (11, [.null, .int 0, .int 0, .int 0])), (q, .inr (12, [.ref ar, .int 0, .int 0, .int (jn u.length)])), (ar, .inl (cB, cap, .inl f))] := hD
  refine lv_aload_n hx hb d_J0_init_db425_27 rfl (lv_at hl 2 rfl) ?_
  refine lv_aload_n hx hb d_J0_init_db425_28 rfl (lv_at hl 1 rfl) ?_
  refine lv_iconst (v := 0) hx hb d_J0_init_db425_29 (by decide) ?_
  refine lv_iload hx hb d_J0_init_db425_30 (lv_at hl 0 rfl) ?_
  by_cases hcc : cap = u.length
  · subst hcc
    have hPc := hP.sub (ws' := [(ar, .inl (cB, u.length, .inl f))]) [2] rfl
    have hDc := hD.sub (ws' := [(ar, .inl (cB, u.length, .inl f))]) [2] (by decide) rfl
    have hFc := va_free (wc := [(ar, .inl (cB, u.length, .inl f))]) hD hS hA [2] rfl
    refine va_callr (va_runS (As := [.ref ar, .int 0, .int (jn u.length)]) (rest := [.ref a]) ⟨hx, hb, hml, hown, hts⟩ (s_copyWhole l D cB H.size ar u.length f) (va_cwS 3 hts (g_sta (own := RJ0) (ix := 54) (y := yJ7_copyOfRange_39247) (by decide +kernel) (by decide +kernel) (by decide +kernel) (g_con cw_J7_copyOfRange_39247)) rfl rfl rfl (by decide +kernel) ⟨(Nat.le_of_ble_eq_true rfl), (Nat.le_of_ble_eq_true rfl)⟩) ⟨prw_blind, fun U hU hW => ⟨rfl, prw_call hU hW ro_nil hPc (hDc.weaken (fun _ _ _ _ => trivial)) rsep_l ⟨hbc.2.1, by omega⟩ (hJ.keep hS)⟩⟩ rfl rfl hl.1 rfl (lv_room (Nat.le_of_ble_eq_true rfl)) d_J0_init_db425_32 ⟨by show _ ≤ 1; omega, by show _ ≤ u.length; omega⟩) hS (fun q _ h => hFc q h) hFc (fun u9 ra1 t9 H1 locs ht hvm hw hB hz1 hk1 hS => ?_)
    obtain ⟨hP1, hD1⟩ := hB
    rw [ht] at hP1
    obtain ⟨hP, hD⟩ := va_join (wr := [(a, .inr (11, [.null, .int 0, .int 0, .int 0])), (q, .inr (12, [.ref ar, .int 0, .int 0, .int (jn u.length)]))]) (w1 := [(ar, .inl (cB, u.length, .inl f)), (ra1, .inl (cB, u.length, .inl f))]) hP hD [2] [0, 1] rfl rfl (by decide) (by decide) hk1 hFc hP1 hD1
    clear hP1 hD1 hk1 hz1 hFc hPc hDc hw ht hvm
    generalize H1 = H at hP hS ⊢
    have hP : va_P D vwCl [(a, .inr (11, [.null, .int 0, .int 0, .int 0])), (q, .inr (12, [.ref ar, .int 0, .int 0, .int (jn u.length)])), (ar, .inl (cB, u.length, .inl f)), (ra1, .inl (cB, u.length, .inl f))] _ := hP
    have hD : va_D A [(a, .inr (11, [.null, .int 0, .int 0, .int 0])), (q, .inr (12, [.ref ar, .int 0, .int 0, .int (jn u.length)])), (ar, .inl (cB, u.length, .inl f)), (ra1, .inl (cB, u.length, .inl f))] := hD
    refine va_putF (D := D) (ci := 11) (v := .ref ra1) (ty := (.array .byte)) (C := RJ0) (T := TJ0) (N := 4) hx hb hts uw_11 tyJ0 tyJ0_ok nmJ0 hown hK hP hD hS 0 rfl rfl 0 (by decide) (hts (.fieldLink RJ0 9 "java/lang/String" "value" "[B") (by decide +kernel)) (fun _ h9 => h9) rfl hin rfl (by decide +kernel) rfl rfl (Nat.le_of_ble_eq_true rfl) d_J0_init_db425_35 (fun H locs hP hD hS => ?_)
    have hP : va_P D vwCl [(a, .inr (11, [.ref ra1, .int 0, .int 0, .int 0])), (q, .inr (12, [.ref ar, .int 0, .int 0, .int (jn u.length)])), (ar, .inl (cB, u.length, .inl f)), (ra1, .inl (cB, u.length, .inl f))] _ := hP
    have hD : va_D A [(a, .inr (11, [.ref ra1, .int 0, .int 0, .int 0])), (q, .inr (12, [.ref ar, .int 0, .int 0, .int (jn u.length)])), (ar, .inl (cB, u.length, .inl f)), (ra1, .inl (cB, u.length, .inl f))] := hD
    refine lv_goto (tgt := 97) hx hb d_J0_init_db425_38 (by decide) ?_
    have hP := va_as (g := (bt u)) hP (q0 := 3) rfl (fun j hj => hbc.2.2 j (by omega))
    have hD := hD.set (p := 3) (e := .inl (cB, u.length, .inl (bt u))) rfl
    have hP : va_P D vwCl [(a, .inr (11, [.ref ra1, .int 0, .int 0, .int 0])), (q, .inr (12, [.ref ar, .int 0, .int 0, .int (jn u.length)])), (ar, .inl (cB, u.length, .inl f)), (ra1, .inl (cB, u.length, .inl (bt u)))] _ := hP
    have hD : va_D A [(a, .inr (11, [.ref ra1, .int 0, .int 0, .int 0])), (q, .inr (12, [.ref ar, .int 0, .int 0, .int (jn u.length)])), (ar, .inl (cB, u.length, .inl f)), (ra1, .inl (cB, u.length, .inl (bt u)))] := hD
    refine W.widen (k := 1) (n := u.length) (by omega) (by omega) ?_
    exact W.vret hx hb hr (fun t8 ht hW => ⟨⟨(), rfl, trivial, ra1, by rw [ht]; exact hP.sub (ws' := [(a, .inr (11, [.ref ra1, .int 0, .int 0, .int 0])), (ra1, .inl (cB, u.length, .inl (bt u)))]) [0, 3] rfl, hD.sub (ws' := [(a, .inr (11, [.ref ra1, .int 0, .int 0, .int 0])), (ra1, .inl (cB, u.length, .inl (bt u)))]) [0, 3] (by decide) rfl⟩, hS.F ht⟩) hS.2.2 d_J0_init_db425_97
  · have hFc := va_free (wc := []) hD hS hA [] rfl
    refine va_callr (va_runS (As := [.ref ar, .int 0, .int (jn u.length)]) (rest := [.ref a]) ⟨hx, hb, hml, hown, hts⟩ (s_copyOfRange l D cB H.size ar 0 u.length cap f) (va_cwS 3 hts (g_sta (own := RJ0) (ix := 54) (y := yJ7_copyOfRange_39247) (by decide +kernel) (by decide +kernel) (by decide +kernel) (g_con cw_J7_copyOfRange_39247)) rfl rfl rfl (by decide +kernel) ⟨(Nat.le_of_ble_eq_true rfl), (Nat.le_of_ble_eq_true rfl)⟩) ⟨prw_blind, fun U hU hW => ⟨rfl, prw_call hU hW (ro_cons (x := (.inr (ar, cap, f))) (P_T 2 hK hP rfl) ro_nil) P_0 D_0 rsep_0 ⟨Nat.zero_le _, hbl, Or.inr (by omega), by omega, hbc.2.1⟩ (hJ.keep hS)⟩⟩ rfl rfl hl.1 rfl (lv_room (Nat.le_of_ble_eq_true rfl)) d_J0_init_db425_32 ⟨by show _ ≤ 1; omega, by show _ ≤ u.length; omega⟩) hS (fun q _ h => hFc q h) hFc (fun u23 r23 t9 H1 locs ht hvm hw hB hz1 hk1 hS => ?_)
    obtain ⟨hP1, hD1⟩ := hB
    rw [ht] at hP1
    obtain ⟨hP, hD⟩ := va_join (wr := [(a, .inr (11, [.null, .int 0, .int 0, .int 0])), (q, .inr (12, [.ref ar, .int 0, .int 0, .int (jn u.length)])), (ar, .inl (cB, cap, .inl f))]) (w1 := [(r23, .inl (cB, u.length - 0, .inl (fun k => f (0 + k))))]) hP hD [] [0, 1, 2] rfl rfl (by decide) (by decide) hk1 hFc hP1 hD1
    clear hP1 hD1 hk1 hz1 hFc
    generalize H1 = H at hP hS ⊢
    have hP : va_P D vwCl [(a, .inr (11, [.null, .int 0, .int 0, .int 0])), (q, .inr (12, [.ref ar, .int 0, .int 0, .int (jn u.length)])), (ar, .inl (cB, cap, .inl f)), (r23, .inl (cB, u.length - 0, .inl (fun k => f (0 + k))))] _ := hP
    have hD : va_D A [(a, .inr (11, [.null, .int 0, .int 0, .int 0])), (q, .inr (12, [.ref ar, .int 0, .int 0, .int (jn u.length)])), (ar, .inl (cB, cap, .inl f)), (r23, .inl (cB, u.length - 0, .inl (fun k => f (0 + k))))] := hD
    refine va_putF (D := D) (ci := 11) (v := .ref r23) (ty := (.array .byte)) (C := RJ0) (T := TJ0) (N := 4) hx hb hts uw_11 tyJ0 tyJ0_ok nmJ0 hown hK hP hD hS 0 rfl rfl 0 (by decide) (hts (.fieldLink RJ0 9 "java/lang/String" "value" "[B") (by decide +kernel)) (fun _ h9 => h9) rfl hin rfl (by decide +kernel) rfl rfl (Nat.le_of_ble_eq_true rfl) d_J0_init_db425_35 (fun H locs hP hD hS => ?_)
    have hP : va_P D vwCl [(a, .inr (11, [.ref r23, .int 0, .int 0, .int 0])), (q, .inr (12, [.ref ar, .int 0, .int 0, .int (jn u.length)])), (ar, .inl (cB, cap, .inl f)), (r23, .inl (cB, u.length - 0, .inl (fun k => f (0 + k))))] _ := hP
    have hD : va_D A [(a, .inr (11, [.ref r23, .int 0, .int 0, .int 0])), (q, .inr (12, [.ref ar, .int 0, .int 0, .int (jn u.length)])), (ar, .inl (cB, cap, .inl f)), (r23, .inl (cB, u.length - 0, .inl (fun k => f (0 + k))))] := hD
    refine lv_goto (tgt := 97) hx hb d_J0_init_db425_38 (by decide) ?_
    have hP := va_as (g := (bt u)) hP (q0 := 3) rfl (fun j hj => by rw [Nat.zero_add]; exact hbc.2.2 j (by omega))
    have hD := hD.set (p := 3) (e := .inl (cB, u.length - 0, .inl (bt u))) rfl
    have hP : va_P D vwCl [(a, .inr (11, [.ref r23, .int 0, .int 0, .int 0])), (q, .inr (12, [.ref ar, .int 0, .int 0, .int (jn u.length)])), (ar, .inl (cB, cap, .inl f)), (r23, .inl (cB, u.length - 0, .inl (bt u)))] _ := hP
    have hD : va_D A [(a, .inr (11, [.ref r23, .int 0, .int 0, .int 0])), (q, .inr (12, [.ref ar, .int 0, .int 0, .int (jn u.length)])), (ar, .inl (cB, cap, .inl f)), (r23, .inl (cB, u.length - 0, .inl (bt u)))] := hD
    refine W.widen (k := 1) (n := u.length) (by omega) (by omega) ?_
    exact W.vret hx hb hr (fun t8 ht hW => ⟨⟨(), rfl, trivial, r23, by rw [ht]; exact hP.sub (ws' := [(a, .inr (11, [.ref r23, .int 0, .int 0, .int 0])), (r23, .inl (cB, u.length, .inl (bt u)))]) [0, 3] rfl, hD.sub (ws' := [(a, .inr (11, [.ref r23, .int 0, .int 0, .int 0])), (r23, .inl (cB, u.length, .inl (bt u)))]) [0, 3] (by decide) rfl⟩, hS.F ht⟩) hS.2.2 d_J0_init_db425_97
set_option maxHeartbeats 4000000 in
set_option maxRecDepth 100000 in
theorem s_strB (l : Launch) (D : va_G) (cB : ClassId) (sz : Nat) (a q ar cap : Nat) (u : List Int32) (f : Nat → Int32) : Met l yJ0_init_81219 (wD yJ0_init_81219 cJ0_init_81219 2 none) ({ frames := 6, cells := 1, slots := u.length, locals := 300 }) (va_Pc [.ref a, .ref q] (PrW D cB sz [] [(a, .inr (11, [.null, .int 0, .int 0, .int 0])), (q, .inr (12, [.ref ar, .int 0, .int 0, .int (jn u.length)])), (ar, .inl (cB, cap, .inl f))] (Bc u cap f ∧ cap ≤ 5000)))
    (va_Qv (fun _ : Unit => True) (fun _ t9 => ∃ v, va_P D vwCl [(a, .inr (11, [.ref v, .int 0, .int 0, .int 0])), (v, .inl (cB, u.length, .inl (bt u)))] t9.heap ∧ va_D (va_A [(a, .inr (11, [.null, .int 0, .int 0, .int 0])), (q, .inr (12, [.ref ar, .int 0, .int 0, .int (jn u.length)])), (ar, .inl (cB, cap, .inl f))] sz) [(a, .inr (11, [.ref v, .int 0, .int 0, .int 0])), (v, .inl (cB, u.length, .inl (bt u)))]) (va_A [(a, .inr (11, [.null, .int 0, .int 0, .int 0])), (q, .inr (12, [.ref ar, .int 0, .int 0, .int (jn u.length)])), (ar, .inl (cB, cap, .inl f))] sz)) (1) (u.length) (va_A [(a, .inr (11, [.null, .int 0, .int 0, .int 0])), (q, .inr (12, [.ref ar, .int 0, .int 0, .int (jn u.length)])), (ar, .inl (cB, cap, .inl f))] sz) := by
  refine Met.ofW (cc := cJ0_init_81219) (maxL := 2) (ret := none) (by decide) rfl ?_
  intro p e s m args below meth c s₁ B hml hv
  obtain ⟨rfl, ⟨hsz, hRO, hPP, hD0, hsep, hX⟩, hJ0⟩ := hv
  have hx := B.exec
  have hb := B.bytes
  have hr := B.returns
  have hts0 := atoms_spec (ws := wD yJ0_init_81219 cJ0_init_81219 2 none) B.pre
  have hts : ∀ w ∈ TW, w.before _ s = true := fun w h => hts0 w (List.mem_cons_of_mem _ h)
  have hown : s.vm.findClass RJ0 = some m.cls := findClass_of_methodNamed B.named
  have hlocks := B.notSynchronized
  subst hsz
  have hJ := hJ0.inA hPP
  have hro := ro_inA hRO hsep
  have hD := hD0.self (sz := s.heap.size)
  have hA : ∀ x9 : Nat, s.heap.size ≤ x9 → va_A [(a, .inr (11, [.null, .int 0, .int 0, .int 0])), (q, .inr (12, [.ref ar, .int 0, .int 0, .int (jn u.length)])), (ar, .inl (cB, cap, .inl f))] s.heap.size x9 := fun x9 h => Or.inr h
  have hK := hJ.1
  generalize hAe : va_A [(a, .inr (11, [.null, .int 0, .int 0, .int 0])), (q, .inr (12, [.ref ar, .int 0, .int 0, .int (jn u.length)])), (ar, .inl (cB, cap, .inl f))] s.heap.size = A at hJ hro hD hA ⊢
  have hS : va_S A s.heap s.heap [] := va_S.rf
  have hP := hPP
  have hl := lv_entry ([.ref a, .ref q]) (n := 2) (Nat.le_of_ble_eq_true rfl)
  rw [lg_entry_eq]
  generalize (lg_sl ([.ref a, .ref q]) ++ List.replicate (2 - (lg_sl ([.ref a, .ref q])).length) Slot.unset).toArray = ls at hl ⊢
  have hl : lv_has ls 2 [(0, .ref a), (1, .ref q)] := hl
  obtain ⟨hbc, hc⟩ := hX
  refine lv_aload_n hx hb d_J0_init_81219_0 rfl (lv_at hl 0 rfl) ?_
  refine lv_aload_n hx hb d_J0_init_81219_1 rfl (lv_at hl 1 rfl) ?_
  refine lv_null hx hb d_J0_init_81219_2 ?_
  have hPc := hP.sub (ws' := [(a, .inr (11, [.null, .int 0, .int 0, .int 0])), (q, .inr (12, [.ref ar, .int 0, .int 0, .int (jn u.length)])), (ar, .inl (cB, cap, .inl f))]) [0, 1, 2] rfl
  have hDc := hD.sub (ws' := [(a, .inr (11, [.null, .int 0, .int 0, .int 0])), (q, .inr (12, [.ref ar, .int 0, .int 0, .int (jn u.length)])), (ar, .inl (cB, cap, .inl f))]) [0, 1, 2] (by decide) rfl
  have hFc := va_free (wc := [(a, .inr (11, [.null, .int 0, .int 0, .int 0])), (q, .inr (12, [.ref ar, .int 0, .int 0, .int (jn u.length)])), (ar, .inl (cB, cap, .inl f))]) hD hS hA [0, 1, 2] rfl
  refine va_callv (va_runI (As := [.ref q, .null]) (rest := []) ⟨hx, hb, hml, hown, hts⟩ (s_strB0 l D cB s.heap.size a q ar cap u f) (cwI 2 hts (g_con cw_J0_init_db425) rfl rfl rfl (hts (.initialized RJ0) (by decide +kernel)) (hts (.methodLink RJ0 489 yJ0_init_db425) (by decide +kernel)) (hts (.instanceMethod yJ0_init_db425) (by decide +kernel)) rfl (by decide +kernel) ⟨(Nat.le_of_ble_eq_true rfl), (Nat.le_of_ble_eq_true rfl)⟩) ⟨prw_blind, fun U hU hW => ⟨rfl, prw_call hU hW ro_nil hPc (hDc.weaken (fun _ _ _ _ => trivial)) rsep_l ⟨hbc, hc⟩ (hJ.keep hS)⟩⟩ rfl rfl hl.1 rfl (lv_room (Nat.le_of_ble_eq_true rfl)) d_J0_init_81219_3 ⟨by show _ ≤ 1; omega, by show _ ≤ u.length; omega⟩) hS (fun q _ h => hFc q h) hFc (fun u9 t9 H1 locs ht hvm hw hB hz1 hk1 hS => ?_)
  obtain ⟨v, hP1, hD1⟩ := hB
  rw [ht] at hP1
  obtain ⟨hP, hD⟩ := va_join (wr := []) (w1 := [(a, .inr (11, [.ref v, .int 0, .int 0, .int 0])), (v, .inl (cB, u.length, .inl (bt u)))]) hP hD [0, 1, 2] [] rfl rfl (by decide) (by decide) hk1 hFc hP1 hD1
  clear hP1 hD1 hk1 hz1 hFc hPc hDc hw ht hvm
  generalize H1 = H at hP hS ⊢
  have hP : va_P D vwCl [(a, .inr (11, [.ref v, .int 0, .int 0, .int 0])), (v, .inl (cB, u.length, .inl (bt u)))] _ := hP
  have hD : va_D A [(a, .inr (11, [.ref v, .int 0, .int 0, .int 0])), (v, .inl (cB, u.length, .inl (bt u)))] := hD
  refine W.widen (k := 1) (n := u.length) (by omega) (by omega) ?_
  exact W.vret hx hb hr (fun t8 ht hW => ⟨⟨(), rfl, trivial, v, by rw [ht]; exact hP.sub (ws' := [(a, .inr (11, [.ref v, .int 0, .int 0, .int 0])), (v, .inl (cB, u.length, .inl (bt u)))]) [0, 1] rfl, hD.sub (ws' := [(a, .inr (11, [.ref v, .int 0, .int 0, .int 0])), (v, .inl (cB, u.length, .inl (bt u)))]) [0, 1] (by decide) rfl⟩, hS.F ht⟩) hS.2.2 d_J0_init_81219_6
set_option maxHeartbeats 4000000 in
set_option maxRecDepth 100000 in
theorem s_bToS (l : Launch) (D : va_G) (cB : ClassId) (sz : Nat) (q ar cap : Nat) (u : List Int32) (f : Nat → Int32) : Met l yJ4_toString_0e30d (wD yJ4_toString_0e30d cJ4_toString_0e30d 1 (some (.object "java/lang/String"))) ({ frames := 7, cells := 2, slots := (u.length + 4), locals := 350 }) (va_Pc [.ref q] (PrW D cB sz [] [(q, .inr (12, [.ref ar, .int 0, .int 0, .int (jn u.length)])), (ar, .inl (cB, cap, .inl f))] (Bc u cap f ∧ cap ≤ 5000)))
    (va_Qr (fun _ : Nat => True) (fun rb ra t9 => va_P D vwCl [(ra, .inr (11, [.ref rb, .int 0, .int 0, .int 0])), (rb, .inl (cB, u.length, .inl (bt u)))] t9.heap ∧ va_D (va_A [(q, .inr (12, [.ref ar, .int 0, .int 0, .int (jn u.length)])), (ar, .inl (cB, cap, .inl f))] sz) [(ra, .inr (11, [.ref rb, .int 0, .int 0, .int 0])), (rb, .inl (cB, u.length, .inl (bt u)))]) (va_A [(q, .inr (12, [.ref ar, .int 0, .int 0, .int (jn u.length)])), (ar, .inl (cB, cap, .inl f))] sz)) (2) ((u.length + 4)) (va_A [(q, .inr (12, [.ref ar, .int 0, .int 0, .int (jn u.length)])), (ar, .inl (cB, cap, .inl f))] sz) := by
  refine Met.ofW (cc := cJ4_toString_0e30d) (maxL := 1) (ret := (some (.object "java/lang/String"))) (by decide) rfl ?_
  intro p e s m args below meth c s₁ B hml hv
  obtain ⟨rfl, ⟨hsz, hRO, hPP, hD0, hsep, hX⟩, hJ0⟩ := hv
  have hx := B.exec
  have hb := B.bytes
  have hr := B.returns
  have hts0 := atoms_spec (ws := wD yJ4_toString_0e30d cJ4_toString_0e30d 1 (some (.object "java/lang/String"))) B.pre
  have hts : ∀ w ∈ TW, w.before _ s = true := fun w h => hts0 w (List.mem_cons_of_mem _ h)
  have hown : s.vm.findClass RJ4 = some m.cls := findClass_of_methodNamed B.named
  have hlocks := B.notSynchronized
  subst hsz
  have hJ := hJ0.inA hPP
  have hro := ro_inA hRO hsep
  have hD := hD0.self (sz := s.heap.size)
  have hA : ∀ x9 : Nat, s.heap.size ≤ x9 → va_A [(q, .inr (12, [.ref ar, .int 0, .int 0, .int (jn u.length)])), (ar, .inl (cB, cap, .inl f))] s.heap.size x9 := fun x9 h => Or.inr h
  have hK := hJ.1
  generalize hAe : va_A [(q, .inr (12, [.ref ar, .int 0, .int 0, .int (jn u.length)])), (ar, .inl (cB, cap, .inl f))] s.heap.size = A at hJ hro hD hA ⊢
  have hS : va_S A s.heap s.heap [] := va_S.rf
  have hP := hPP
  have hl := lv_entry ([.ref q]) (n := 1) (Nat.le_of_ble_eq_true rfl)
  rw [lg_entry_eq]
  generalize (lg_sl ([.ref q]) ++ List.replicate (1 - (lg_sl ([.ref q])).length) Slot.unset).toArray = ls at hl ⊢
  have hl : lv_has ls 1 [(0, .ref q)] := hl
  obtain ⟨hbc, hc⟩ := hX
  refine va_new (ci := 11) (fs := [.null, .int 0, .int 0, .int 0]) (C := RJ0) (T := TJ0) (N := 4) hx hb hts uw_11 tyJ0 tyJ0_ok hown (hts (.classLink RJ4 18 RJ0) (by decide +kernel)) (hts (.instantiable RJ0 4) (by decide +kernel)) (hts (.initialized RJ0) (by decide +kernel)) hK hP hD hS hA rfl (fun j hj => by rcases (show j = 0 ∨ j = 1 ∨ j = 2 ∨ j = 3 by omega) with rfl | rfl | rfl | rfl <;> rfl) (by show _ ≤ 2; omega) (by show _ ≤ (u.length + 4); omega) d_J4_toString_0e30d_0 (fun q12 H hP hD hS => ?_)
  have hP : va_P D vwCl [(q, .inr (12, [.ref ar, .int 0, .int 0, .int (jn u.length)])), (ar, .inl (cB, cap, .inl f)), (q12, .inr (11, [.null, .int 0, .int 0, .int 0]))] _ := hP
  have hD : va_D A [(q, .inr (12, [.ref ar, .int 0, .int 0, .int (jn u.length)])), (ar, .inl (cB, cap, .inl f)), (q12, .inr (11, [.null, .int 0, .int 0, .int 0]))] := hD
  refine lv_dup hx hb d_J4_toString_0e30d_3 rfl ?_
  refine lv_aload_n hx hb d_J4_toString_0e30d_4 rfl (lv_at hl 0 rfl) ?_
  have hPc := hP.sub (ws' := [(q12, .inr (11, [.null, .int 0, .int 0, .int 0])), (q, .inr (12, [.ref ar, .int 0, .int 0, .int (jn u.length)])), (ar, .inl (cB, cap, .inl f))]) [2, 0, 1] rfl
  have hDc := hD.sub (ws' := [(q12, .inr (11, [.null, .int 0, .int 0, .int 0])), (q, .inr (12, [.ref ar, .int 0, .int 0, .int (jn u.length)])), (ar, .inl (cB, cap, .inl f))]) [2, 0, 1] (by decide) rfl
  have hFc := va_free (wc := [(q12, .inr (11, [.null, .int 0, .int 0, .int 0])), (q, .inr (12, [.ref ar, .int 0, .int 0, .int (jn u.length)])), (ar, .inl (cB, cap, .inl f))]) hD hS hA [2, 0, 1] rfl
  refine va_callv (va_runI (As := [.ref q]) (rest := [.ref q12]) ⟨hx, hb, hml, hown, hts⟩ (s_strB l D cB H.size q12 q ar cap u f) (cwI 1 hts (g_con cw_J0_init_81219) rfl rfl rfl (hts (.initialized RJ0) (by decide +kernel)) (hts (.methodLink RJ4 137 yJ0_init_81219) (by decide +kernel)) (hts (.instanceMethod yJ0_init_81219) (by decide +kernel)) rfl (by decide +kernel) ⟨(Nat.le_of_ble_eq_true rfl), (Nat.le_of_ble_eq_true rfl)⟩) ⟨prw_blind, fun U hU hW => ⟨rfl, prw_call hU hW ro_nil hPc (hDc.weaken (fun _ _ _ _ => trivial)) rsep_l ⟨hbc, hc⟩ (hJ.keep hS)⟩⟩ rfl rfl hl.1 rfl (lv_room (Nat.le_of_ble_eq_true rfl)) d_J4_toString_0e30d_5 ⟨by show _ ≤ 2; omega, by show _ ≤ (u.length + 4); omega⟩) hS (fun q _ h => hFc q h) hFc (fun u9 t9 H1 locs ht hvm hw hB hz1 hk1 hS => ?_)
  obtain ⟨v, hP1, hD1⟩ := hB
  rw [ht] at hP1
  obtain ⟨hP, hD⟩ := va_join (wr := []) (w1 := [(q12, .inr (11, [.ref v, .int 0, .int 0, .int 0])), (v, .inl (cB, u.length, .inl (bt u)))]) hP hD [2, 0, 1] [] rfl rfl (by decide) (by decide) hk1 hFc hP1 hD1
  clear hP1 hD1 hk1 hz1 hFc hPc hDc hw ht hvm
  generalize H1 = H at hP hS ⊢
  have hP : va_P D vwCl [(q12, .inr (11, [.ref v, .int 0, .int 0, .int 0])), (v, .inl (cB, u.length, .inl (bt u)))] _ := hP
  have hD : va_D A [(q12, .inr (11, [.ref v, .int 0, .int 0, .int 0])), (v, .inl (cB, u.length, .inl (bt u)))] := hD
  refine W.widen (k := 2) (n := (u.length + 4)) (by omega) (by omega) ?_
  exact W.aret hx hb hr (Or.inl ⟨_, rfl⟩) (Or.inr ⟨_, rfl⟩) (fun t8 ht hW => ⟨⟨v, q12, rfl, trivial, by rw [ht]; exact hP.sub (ws' := [(q12, .inr (11, [.ref v, .int 0, .int 0, .int 0])), (v, .inl (cB, u.length, .inl (bt u)))]) [0, 1] rfl, hD.sub (ws' := [(q12, .inr (11, [.ref v, .int 0, .int 0, .int 0])), (v, .inl (cB, u.length, .inl (bt u)))]) [0, 1] (by decide) rfl⟩, hS.F ht⟩) hS.2.2 d_J4_toString_0e30d_8
set_option maxHeartbeats 4000000 in
set_option maxRecDepth 100000 in
theorem s_l1equals (l : Launch) (D : va_G) (cB : ClassId) (b b2 n n2 : Nat) (f f2 : Nat → Int32) : Met l yJ1_equals_b5fdf (wD yJ1_equals_b5fdf cJ1_equals_b5fdf 3 (some .boolean)) ({ frames := 1, cells := 0, slots := 0, locals := 60 }) (va_Pc [.ref b, .ref b2] (PrJ D cB [.inr (b, n, f), .inr (b2, n2, f2)] (fun H => n ≠ n2 ∧ n ≤ 1000 ∧ n2 ≤ 1000))) (Sri (fun r => r = 0)) 0 0 (fun _ => False) := by
  refine Met.ofW (cc := cJ1_equals_b5fdf) (maxL := 3) (ret := (some .boolean)) (by decide) rfl ?_
  intro p e s m args below meth c s₁ B hml hv
  obtain ⟨rfl, hX, hro, hJ⟩ := hv
  have hx := B.exec
  have hb := B.bytes
  have hr := B.returns
  have hts0 := atoms_spec (ws := wD yJ1_equals_b5fdf cJ1_equals_b5fdf 3 (some .boolean)) B.pre
  have hts : ∀ w ∈ TW, w.before _ s = true := fun w h => hts0 w (List.mem_cons_of_mem _ h)
  have hown : s.vm.findClass RJ1 = some m.cls := findClass_of_methodNamed B.named
  have hlocks := B.notSynchronized
  have hS : va_S (fun _ => False) s.heap s.heap [] := va_S.rf
  have hK := hJ.1
  have hl := lv_entry ([.ref b, .ref b2]) (n := 3) (Nat.le_of_ble_eq_true rfl)
  rw [lg_entry_eq]
  generalize (lg_sl ([.ref b, .ref b2]) ++ List.replicate (3 - (lg_sl ([.ref b, .ref b2])).length) Slot.unset).toArray = ls at hl ⊢
  have hl : lv_has ls 3 [(0, .ref b), (1, .ref b2)] := hl
  have hF0 : Tf b n f (fun _ => False) s s.heap := ro_at hro 0 rfl
  have hF1 : Tf b2 n2 f2 (fun _ => False) s s.heap := ro_at hro 1 rfl
  obtain ⟨hne, hn, hn2⟩ := hX
  refine lv_aload_n hx hb d_J1_equals_b5fdf_0 rfl (lv_at hl 0 rfl) ?_
  refine va_tlen hx hb hF0 hS (ofNat_jn (by omega)) d_J1_equals_b5fdf_1 ?_
  refine lv_aload_n hx hb d_J1_equals_b5fdf_2 rfl (lv_at hl 1 rfl) ?_
  refine va_tlen hx hb hF1 hS (ofNat_jn (by omega)) d_J1_equals_b5fdf_3 ?_
  refine lv_icmp_ne (tgt := 34) hx hb d_J1_equals_b5fdf_4 (by decide) (fun _ => ?_) (fun h9 => absurd h9 (fun e9 => hne (by rw [jn_inj (by omega) (by omega)] at e9; exact e9)))
  refine lv_iconst (v := 0) hx hb d_J1_equals_b5fdf_34 (by decide) ?_
  exact W.zret hx hb hr rfl (fun t ht hW => ⟨_, rfl, rfl, ht⟩) (fun q h => by cases h) d_J1_equals_b5fdf_35
set_option maxHeartbeats 4000000 in
set_option maxRecDepth 100000 in
theorem s_equals (l : Launch) (D : va_G) (cB : ClassId) (a b a2 b2 : Nat) (t t2 : List Int32) : Met l yJ0_equals_9ea2d (wD yJ0_equals_9ea2d cJ0_equals_9ea2d 3 (some .boolean)) ({ frames := 2, cells := 0, slots := 0, locals := 100 }) (va_Pc [.ref a, .ref a2] (PrJ D cB [.inl (a, b, t), .inl (a2, b2, t2)] (fun H => t.length ≠ t2.length ∧ t.length ≤ 1000 ∧ t2.length ≤ 1000))) (Sri (fun r => r = 0)) 0 0 (fun _ => False) := by
  refine Met.ofW (cc := cJ0_equals_9ea2d) (maxL := 3) (ret := (some .boolean)) (by decide) rfl ?_
  intro p e s m args below meth c s₁ B hml hv
  obtain ⟨rfl, hX, hro, hJ⟩ := hv
  have hx := B.exec
  have hb := B.bytes
  have hr := B.returns
  have hts0 := atoms_spec (ws := wD yJ0_equals_9ea2d cJ0_equals_9ea2d 3 (some .boolean)) B.pre
  have hts : ∀ w ∈ TW, w.before _ s = true := fun w h => hts0 w (List.mem_cons_of_mem _ h)
  have hown : s.vm.findClass RJ0 = some m.cls := findClass_of_methodNamed B.named
  have hlocks := B.notSynchronized
  have hS : va_S (fun _ => False) s.heap s.heap [] := va_S.rf
  have hK := hJ.1
  have hl := lv_entry ([.ref a, .ref a2]) (n := 3) (Nat.le_of_ble_eq_true rfl)
  rw [lg_entry_eq]
  generalize (lg_sl ([.ref a, .ref a2]) ++ List.replicate (3 - (lg_sl ([.ref a, .ref a2])).length) Slot.unset).toArray = ls at hl ⊢
  have hl : lv_has ls 3 [(0, .ref a), (1, .ref a2)] := hl
  have hF0 : Sf a b t (fun _ => False) s s.heap := ro_at hro 0 rfl
  have hF1 : Sf a2 b2 t2 (fun _ => False) s s.heap := ro_at hro 1 rfl
  obtain ⟨hne, hn, hn2⟩ := hX
  refine lv_aload_n hx hb d_J0_equals_9ea2d_0 rfl (lv_at hl 0 rfl) ?_
  refine lv_aload_n hx hb d_J0_equals_9ea2d_1 rfl (lv_at hl 1 rfl) ?_
  refine lv_acmp_ne (rx := some a) (ry := some a2) (tgt := 7) hx hb d_J0_equals_9ea2d_2 (by decide) (fun _ => ?_) (fun e9 => absurd (Sf_len hF0 (show Sf a b2 t2 _ s s.heap by rw [Option.some.inj e9]; exact hF1) hn hn2) hne)
  refine lv_aload_n hx hb d_J0_equals_9ea2d_7 rfl (lv_at hl 1 rfl) ?_
  refine va_instE hx hb hown (hts (.classLink RJ0 10 "java/lang/String") (by decide +kernel)) (hF1.rec hS) d_J0_equals_9ea2d_8 ?_
  refine lv_if_eq (tgt := 54) hx hb d_J0_equals_9ea2d_11 (by decide) (fun h9 => absurd h9 (by decide)) (fun _ => ?_)
  refine lv_aload_n hx hb d_J0_equals_9ea2d_14 rfl (lv_at hl 1 rfl) ?_
  refine va_castE hx hb hown (hts (.classLink RJ0 10 "java/lang/String") (by decide +kernel)) (hF1.rec hS) d_J0_equals_9ea2d_15 ?_
  refine lv_astore_n (lv' := [(2, .ref a2), (0, .ref a), (1, .ref a2)]) hx hb d_J0_equals_9ea2d_18 rfl hl (by decide) rfl (fun ls hl => ?_)
  refine va_gets (v := .int 1) hx hb hJ.2.1 hS hown (hts (.fieldLink RJ0 38 "java/lang/String" "COMPACT_STRINGS" "Z") (by decide +kernel)) (fun _ h9 => h9) d_J0_equals_9ea2d_19 ?_
  refine lv_if_eq (tgt := 36) hx hb d_J0_equals_9ea2d_22 (by decide) (fun h9 => absurd h9 (by decide)) (fun _ => ?_)
  refine lv_aload_n hx hb d_J0_equals_9ea2d_25 rfl (lv_at hl 1 rfl) ?_
  refine vk_getf (v := .int 0) hx hb hF0.2.1 hS hown (hts (.fieldLink RJ0 15 "java/lang/String" "coder" "B") (by decide +kernel)) (fun _ h9 => h9) d_J0_equals_9ea2d_26 ?_
  refine lv_aload_n hx hb d_J0_equals_9ea2d_29 rfl (lv_at hl 0 rfl) ?_
  refine vk_getf (v := .int 0) hx hb hF1.2.1 hS hown (hts (.fieldLink RJ0 15 "java/lang/String" "coder" "B") (by decide +kernel)) (fun _ h9 => h9) d_J0_equals_9ea2d_30 ?_
  refine lv_icmp_ne (tgt := 54) hx hb d_J0_equals_9ea2d_33 (by decide) (fun h9 => absurd h9 (fun z9 => z9 rfl)) (fun _ => ?_)
  refine lv_aload_n hx hb d_J0_equals_9ea2d_36 rfl (lv_at hl 1 rfl) ?_
  refine vk_getf (v := .ref b) hx hb hF0.2.2.1 hS hown (hts (.fieldLink RJ0 9 "java/lang/String" "value" "[B") (by decide +kernel)) (fun _ h9 => h9) d_J0_equals_9ea2d_37 ?_
  refine lv_aload_n hx hb d_J0_equals_9ea2d_40 rfl (lv_at hl 0 rfl) ?_
  refine vk_getf (v := .ref b2) hx hb hF1.2.2.1 hS hown (hts (.fieldLink RJ0 9 "java/lang/String" "value" "[B") (by decide +kernel)) (fun _ h9 => h9) d_J0_equals_9ea2d_41 ?_
  refine sc_i (va_runS (As := [.ref b, .ref b2]) (rest := []) ⟨hx, hb, hml, hown, hts⟩ (s_l1equals l D cB b b2 t.length t2.length (bt t) (bt t2)) (va_cwS 2 hts (g_sta (own := RJ0) (ix := 541) (y := yJ1_equals_b5fdf) (by decide +kernel) (by decide +kernel) (by decide +kernel) (g_con cw_J1_equals_b5fdf)) rfl rfl rfl (by decide +kernel) ⟨(Nat.le_of_ble_eq_true rfl), (Nat.le_of_ble_eq_true rfl)⟩) ⟨pre_blind, fun U hU hW => ⟨rfl, pre_call hU hW ⟨hne, hn, hn2⟩ (ro_cons (x := (.inr (b, t.length, (bt t)))) hF0.2.2.2 (ro_cons (x := (.inr (b2, t2.length, (bt t2)))) hF1.2.2.2 ro_nil)) hJ⟩⟩ rfl rfl hl.1 rfl (lv_room (Nat.le_of_ble_eq_true rfl)) d_J0_equals_9ea2d_44 ⟨(Nat.le_of_ble_eq_true rfl), (Nat.le_of_ble_eq_true rfl)⟩) (fun r9 hr9 => ?_)
  obtain rfl : r9 = 0 := hr9
  refine lv_if_eq (tgt := 54) hx hb d_J0_equals_9ea2d_47 (by decide) (fun _ => ?_) (fun h9 => absurd rfl h9)
  refine lv_iconst (v := 0) hx hb d_J0_equals_9ea2d_54 (by decide) ?_
  exact W.zret hx hb hr rfl (fun t ht hW => ⟨_, rfl, rfl, ht⟩) (fun q h => by cases h) d_J0_equals_9ea2d_55
