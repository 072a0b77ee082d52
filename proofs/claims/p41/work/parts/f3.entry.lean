/-! the law, from its entry (laid by wip/p41/gen/con6.py) -/
set_option maxRecDepth 100000 in
theorem cw_L_world : Jvm.Cond.code yL_world cL_world 11 (some (.object "java/lang/String")) ∈ TW := TW_mem (List.mem_append_right _ (List.mem_append_right _ (List.mem_append_right _ (List.mem_append_right _ (List.mem_append_left _ (List.mem_of_getElem? (l := tables_1_4) (i := 46) rfl)))))) rfl
theorem arr_known {s : State} {args : Array Value} {ty : FieldType} (h : (Cond.arrayClass ty).before args s = true) (hty : ty = .int ∨ ty = .long ∨ ty = .byte) : ∃ cA : ClassId, ArrOfT s cA ty ∧ va_RA s cA ty := by
  obtain ⟨cA, kA, comp, h1, h2, h3⟩ := Cond.arrayClass_spec h
  refine ⟨cA, fun n z => ⟨fun k h => (by cases h), kA, h2, comp, h3⟩, ?_⟩
  rcases hty with rfl | rfl | rfl <;> exact h1
theorem inst_all : vwCl.all (fun q => decide (Jvm.Cond.instantiable q.1 q.2.2 ∈ TW)) = true := by decide +kernel
theorem known_all {s : State} {args : Array Value} (hts : ∀ w ∈ TW, w.before args s = true) : ∃ D : va_G, ∀ (c : Nat) (q : vw_C), vwCl[c]? = some q → u_Kn s q.1 q.2.1 q.2.2 (D.1 c) (D.2 c) := by
  have h : ∀ c : Nat, ∃ (cC : ClassId) (iS : Nat → Nat), ∀ q : vw_C, vwCl[c]? = some q → u_Kn s q.1 q.2.1 q.2.2 cC iS := by
    intro c
    cases hc : vwCl[c]? with
    | none => exact ⟨0, fun _ => 0, fun q hq => by cases hq⟩
    | some q =>
      obtain ⟨cC, iS, hK⟩ := u_known (C := q.1) (T := q.2.1) (N := q.2.2) hts (tk.2.2.2.1 c q.1 q.2.1 q.2.2 hc).1 (hts _ (of_decide_eq_true (List.all_eq_true.mp inst_all q (List.mem_of_getElem? hc))))
      exact ⟨cC, iS, fun q' hq' => by cases hq'; exact hK⟩
  exact ⟨(fun c => Classical.choose (h c), fun c => Classical.choose (Classical.choose_spec (h c))), fun c q hq => Classical.choose_spec (Classical.choose_spec (h c)) q hq⟩
theorem nm_all : NMl.all (fun q => decide (Jvm.Cond.methodLinkNest q.1 q.2.1 q.2.2.1 q.2.2.2 ∈ lw_tbl)) = true := by decide +kernel
theorem nf_all : NFl.all (fun q => decide (Jvm.Cond.fieldLinkNest q.1 q.2.1 q.2.2.1 q.2.2.2.1 q.2.2.2.2.1 q.2.2.2.2.2 ∈ lw_tbl)) = true := by decide +kernel
theorem kx_4 : (Jvm.Cond.eq (.static "java/lang/String" "COMPACT_STRINGS" "Z") (.int 1)) ∈ flatC XFl9 := List.mem_of_getElem? (i := 4) rfl
theorem kx_5 : (Jvm.Cond.isRef (.static "jdk/internal/util/Preconditions" "SIOOBE_FORMATTER" "Ljava/util/function/BiFunction;")) ∈ flatC XFl9 := List.mem_of_getElem? (i := 5) rfl
def slB (y : MethodName) : Bool := decide (Jvm.Cond.privateMethod y ∈ lw_tbl) && (decide (Jvm.Cond.instanceMethod y ∈ lw_tbl) && decide (y.cls = RJ5))
theorem sl_all : [yJ5_ensureCapacityInternal_d00df, yJ5_newCapacity_0f7a4, yJ5_putStringAt_47b60, yJ5_inflateIfNeededFor_a7421].all slB = true := by decide +kernel
theorem sl_of {s : State} {args : Array Value} (hts : ∀ w ∈ lw_tbl, w.before args s = true) : Sl s := by
  intro y hy
  have h := List.all_eq_true.mp sl_all y hy
  simp only [slB, Bool.and_eq_true, decide_eq_true_eq] at h
  exact va_Nw.of rfl (sel_priv (y := y) (z := yJ5_isLatin1_aae02) (n := 4) (by rw [h.2.2]; decide) (by rw [h.2.2]; rfl) (hts (.instantiable RJ4 4) (by decide +kernel)) (hts _ h.1) (hts _ h.2.1) (hts (.instanceMethod yJ5_isLatin1_aae02) (by decide +kernel)) (hts (.selects RJ4 yJ5_isLatin1_aae02 yJ5_isLatin1_aae02) (by decide +kernel)))
theorem k276_ok : ∀ x ∈ k_276, eok pfl pml pkl 16 code x = true := by
  have h : k_276.all (eok pfl pml pkl 16 code) = true := by
    unfold k_276
    simp only [List.all_append, Bool.and_eq_true]
    exact ⟨e_276_0, e_276_1, e_276_2⟩
  exact fun x hx => List.all_eq_true.mp h x hx
/-- from the world that was made, the law comes to its end -/
theorem law_tail {p : Program} {e : Env} {s : State} {m : MethodId} {below : List Frame} {meth : Method} {c : Code} (l : Launch) {b L : Nat} {xs : Nat → Int32} (C0 : lw_At p s m meth c b L xs) {g : GQ} (hg1 : g.2.2.2.2.1 = b) {U : Nat} {RO : List RoE} {ad : Nat → Nat} {A1 : AT} {M1 : PM} {n R1 w : Nat} {H : Heap} {locs : List Loc} {ls : Array Slot}
    (h : LQ g U s (fun q : Nat => s.heap.size ≤ q) (fun _ => False) (WL g ad M1) RO [] H locs) (hl : lv_has ls 9 [(1, .ref (ad 0)), (2, .ref (ad 52))])
    (p1 : Pr A1 M1 (w + 1) n R1) (p2 : (tsA A1).length = n ∧ 1 ≤ n ∧ n ≤ 4) (p3 : (rsA A1).length = R1 ∧ 1 ≤ R1 ∧ R1 ≤ 4) (p4 : w + 7 ≤ 24) (p5 : ∀ r, r < R1 → (ssA A1)[r]? = some (0, jn r, jz 1)) (p6 : R1 ≤ w + 1) : W p l e room_1 s m #[Value.ref b] below meth c H locs 600000 7302250 (lw_Z below #[Value.ref b] s) (F0 m 120 ls []) := by
  obtain ⟨hx, hb, hr, hml, hown, hts0, hX, hbl, hlocks, hgv⟩ := id C0
  obtain ⟨bl, hkey, hok, hB0⟩ := h
  cases bl with
  | cons x bl => cases hkey
  | nil =>
  obtain ⟨hP, hD, hS, -, hK, -, hA⟩ := hB0
  obtain ⟨M', e1⟩ := law_true (d := 2040) (Nat.le_of_ble_eq_true rfl) p1 p2 p3 p4 p5 p6
  obtain ⟨n9, hn⟩ := evn_iff.mp e1
  have F : Fx laz 2040 nmF TW NMl NFl 16 code 9 p s m #[Value.ref b] c room_1 600000 7302250 (fun q : Nat => s.heap.size ≤ q) g.2.2.1 g.2.2.2.1 g.1 none ad := by
    refine ⟨hx, hb, hml, hown, fun w h => hts0 w (List.mem_filter.mp h).1, hK.2.2.2.2.1, hK.2.2.2.2.2, hK.2.2.2.1, fun q h => h, (fun n xs h => (by cases h)), Nat.le_of_ble_eq_true rfl, Nat.le_of_ble_eq_true rfl, Nat.le_of_ble_eq_true rfl, Nat.le_of_ble_eq_true rfl⟩
  refine bodyW (rk := 2) (code := k_276) tkz F (met_alz l g.1 g.2.2.1 g.2.2.2.1 2040) k276_ok (r := (some (.int (jn 1)), M')) ?_ n9 (120, [none, some (.ref 0), some (.ref 52), none, none, none, none, none, none], [], M1) H locs ls hn hP hD hS (lv_mono hl ?_) rfl
  · intro H' locs' ls' pc' hP' hD' hS'
    refine ⟨fun h1 => (by cases h1), fun v h1 h2 h3 => ?_, fun v h1 => (by cases h1)⟩
    have hv : v = 1 := by
      have h1 : some (Value.int (jn 1)) = some (Value.int v) := h1
      cases h1
      decide
    subst hv
    refine va_forget (fun q hq => hS'.2.2 q hq) ?_
    exact lw_ret hx hb hr hlocks h3
  · intro q hq
    obtain ⟨i, v⟩ := q
    obtain ⟨w, h1, h2⟩ := asc_mem.mp hq
    have h3 := (lcv_inv h1).1
    match i, h3 with
    | 0, h3 =>
      have h3 : none = some w := h3
      cases h3
    | 1, h3 =>
      have h3 : some (Value.ref 0) = some w := h3
      cases h3
      rw [← h2]
      show (1, Value.ref (ad 0)) ∈ _
      simp
    | 2, h3 =>
      have h3 : some (Value.ref 52) = some w := h3
      cases h3
      rw [← h2]
      show (2, Value.ref (ad 52)) ∈ _
      simp
    | 3, h3 =>
      have h3 : none = some w := h3
      cases h3
    | 4, h3 =>
      have h3 : none = some w := h3
      cases h3
    | 5, h3 =>
      have h3 : none = some w := h3
      cases h3
    | 6, h3 =>
      have h3 : none = some w := h3
      cases h3
    | 7, h3 =>
      have h3 : none = some w := h3
      cases h3
    | 8, h3 =>
      have h3 : none = some w := h3
      cases h3
    | i + 9, h3 =>
      have h3 : none = some w := h3
      cases h3
theorem d_law_0 : decode code 0 = .ok (.new 125, 3) := by decide +kernel
theorem d_law_3 : decode code 3 = .ok (.dup, 1) := by decide +kernel
theorem d_law_4 : decode code 4 = .ok (.invokespecial 287, 3) := by decide +kernel
theorem d_law_7 : decode code 7 = .ok (.iconst 0, 1) := by decide +kernel
theorem d_law_8 : decode code 8 = .ok (.invokevirtual 284, 3) := by decide +kernel
theorem d_law_11 : decode code 11 = .ok (.ifCond .ne (79), 3) := by decide +kernel
theorem d_law_14 : decode code 14 = .ok (.new 125, 3) := by decide +kernel
theorem d_law_17 : decode code 17 = .ok (.dup, 1) := by decide +kernel
theorem d_law_18 : decode code 18 = .ok (.invokespecial 287, 3) := by decide +kernel
theorem d_law_21 : decode code 21 = .ok (.invokevirtual 288, 3) := by decide +kernel
theorem d_law_24 : decode code 24 = .ok (.ifCond .ne (66), 3) := by decide +kernel
theorem d_law_27 : decode code 27 = .ok (.new 125, 3) := by decide +kernel
theorem d_law_30 : decode code 30 = .ok (.dup, 1) := by decide +kernel
theorem d_law_31 : decode code 31 = .ok (.invokespecial 287, 3) := by decide +kernel
theorem d_law_34 : decode code 34 = .ok (.invokevirtual 291, 3) := by decide +kernel
theorem d_law_37 : decode code 37 = .ok (.bipush (-6), 2) := by decide +kernel
theorem d_law_39 : decode code 39 = .ok (.if_icmp .ne (51), 3) := by decide +kernel
theorem d_law_42 : decode code 42 = .ok (.new 125, 3) := by decide +kernel
theorem d_law_45 : decode code 45 = .ok (.dup, 1) := by decide +kernel
theorem d_law_46 : decode code 46 = .ok (.invokespecial 287, 3) := by decide +kernel
theorem d_law_49 : decode code 49 = .ok (.bipush (7), 2) := by decide +kernel
theorem d_law_51 : decode code 51 = .ok (.invokevirtual 294, 3) := by decide +kernel
theorem d_law_54 : decode code 54 = .ok (.iconst 1, 1) := by decide +kernel
theorem d_law_55 : decode code 55 = .ok (.if_icmp .ne (35), 3) := by decide +kernel
theorem d_law_58 : decode code 58 = .ok (.new 125, 3) := by decide +kernel
theorem d_law_61 : decode code 61 = .ok (.dup, 1) := by decide +kernel
theorem d_law_62 : decode code 62 = .ok (.invokespecial 287, 3) := by decide +kernel
theorem d_law_65 : decode code 65 = .ok (.invokevirtual 297, 3) := by decide +kernel
theorem d_law_68 : decode code 68 = .ok (.iconst (-1), 1) := by decide +kernel
theorem d_law_69 : decode code 69 = .ok (.if_icmp .ne (21), 3) := by decide +kernel
theorem d_law_72 : decode code 72 = .ok (.new 125, 3) := by decide +kernel
theorem d_law_75 : decode code 75 = .ok (.dup, 1) := by decide +kernel
theorem d_law_76 : decode code 76 = .ok (.invokespecial 287, 3) := by decide +kernel
theorem d_law_79 : decode code 79 = .ok (.iconst 2, 1) := by decide +kernel
theorem d_law_80 : decode code 80 = .ok (.bipush (-9), 2) := by decide +kernel
theorem d_law_82 : decode code 82 = .ok (.bipush (-9), 2) := by decide +kernel
theorem d_law_84 : decode code 84 = .ok (.invokevirtual 248, 3) := by decide +kernel
theorem d_law_87 : decode code 87 = .ok (.ifCond .eq (5), 3) := by decide +kernel
theorem d_law_92 : decode code 92 = .ok (.new 125, 3) := by decide +kernel
theorem d_law_95 : decode code 95 = .ok (.dup, 1) := by decide +kernel
theorem d_law_96 : decode code 96 = .ok (.invokespecial 287, 3) := by decide +kernel
theorem d_law_99 : decode code 99 = .ok (.astore_n 1, 1) := by decide +kernel
theorem d_law_100 : decode code 100 = .ok (.invokestatic 300, 3) := by decide +kernel
theorem d_law_103 : decode code 103 = .ok (.astore_n 2, 1) := by decide +kernel
theorem d_law_104 : decode code 104 = .ok (.aload_n 1, 1) := by decide +kernel
theorem d_law_105 : decode code 105 = .ok (.aload_n 0, 1) := by decide +kernel
theorem d_law_106 : decode code 106 = .ok (.aload_n 2, 1) := by decide +kernel
theorem d_law_107 : decode code 107 = .ok (.invokestatic 304, 3) := by decide +kernel
theorem d_law_110 : decode code 110 = .ok (.ldc 154, 2) := by decide +kernel
theorem d_law_112 : decode code 112 = .ok (.invokevirtual 169, 3) := by decide +kernel
theorem d_law_115 : decode code 115 = .ok (.ifCond .eq (5), 3) := by decide +kernel
set_option maxHeartbeats 16000000 in
set_option maxRecDepth 100000 in
/-- THE LAW, from its entry -/
theorem whole_start {p : Program} {e : Env} {s : State} {m : MethodId} {below : List Frame} {meth : Method} {c : Code} (l : Launch) (hflags : l.flags = flags0) {b L : Nat} {xs : Nat → Int32} (hL : L ≤ 260) (C0 : lw_At p s m meth c b L xs) : W p l e room_1 s m #[Value.ref b] below meth c s.heap [] 0 0 (lw_Z below #[Value.ref b] s) (entryFrame m ([Value.ref b] : List Value).toArray 9) := by
  obtain ⟨hx, hb, hr, hml, hown, hts0, hX, hbl, hlocks, hgv⟩ := id C0
  have hts : ∀ w ∈ TW, w.before #[Value.ref b] s = true := fun w h => hts0 w (List.mem_filter.mp h).1
  have hs := flat_of_before _ hgv
  have hA : ∀ a : Nat, a < s.heap.size → ¬ Av (fun _ => False) [] a := fun a _ z => by
    rcases z with z | ⟨k, e9, z⟩
    · exact z
    · cases z
  obtain ⟨D, hKc⟩ := known_all hts
  obtain ⟨cI, hI⟩ := arr_known (hts (.arrayClass .int) (by decide +kernel)) (Or.inl rfl)
  obtain ⟨cL, hJ⟩ := arr_known (hts (.arrayClass .long) (by decide +kernel)) (Or.inr (Or.inl rfl))
  obtain ⟨cB, hB⟩ := arr_known (hts (.arrayClass .byte) (by decide +kernel)) (Or.inr (Or.inr rfl))
  have hK : va_K D vwCl [(cI, .int), (cL, .long)] s := ⟨hKc, fun k q h => by
    match k, h with
    | 0, h => cases h; exact hI
    | 1, h => cases h; exact hJ
    | k + 2, h => cases h⟩
  have hKB : va_K D vwCl [(cB, .byte)] s := ⟨hKc, fun k q h => by
    match k, h with
    | 0, h => cases h; exact hB
    | k + 1, h => cases h⟩
  have hNM : ∀ q ∈ NMl, va_Nw (.methodLinkNest q.1 q.2.1 q.2.2.1 q.2.2.2) s := fun q hq => va_Nw.of rfl (hts0 _ (of_decide_eq_true (List.all_eq_true.mp nm_all q hq)))
  have hNF : ∀ q ∈ NFl, va_Nw (.fieldLinkNest q.1 q.2.1 q.2.2.1 q.2.2.2.1 q.2.2.2.2.1 q.2.2.2.2.2) s := fun q hq => va_Nw.of rfl (hts0 _ (of_decide_eq_true (List.all_eq_true.mp nf_all q hq)))
  have hJd : Jd D cB (Av (fun _ => False) []) s s.heap := ⟨hKB, va_Zof (hts0 (.laysStatic "java/lang/String" "COMPACT_STRINGS" "Z") (by decide +kernel)) (hts0 (.initialized "java/lang/String") (by decide +kernel)) (va_eqi (hs _ kx_4)) hA, va_Zqof (hts0 (.laysStatic "jdk/internal/util/Preconditions" "SIOOBE_FORMATTER" "Ljava/util/function/BiFunction;") (by decide +kernel)) (hts0 (.initialized "jdk/internal/util/Preconditions") (by decide +kernel)) (hs _ kx_5) hA, va_Nw.of rfl (hts0 (.castable "[B" "java/lang/Cloneable") (by decide +kernel)), sl_of hts0⟩
  have hscr : va_T .int b L (fun j => .int (xs j)) (Av (fun _ => False) []) s s.heap := by
    obtain ⟨scr, x1, x2, x3, x4, x5⟩ := hX
    exact ⟨scr, x1, x2, x3, Nat.le_of_eq x4.symm, by rw [x4], x5, hA b hbl⟩
  generalize hg : ((D, cB, cI, cL, b, L, xs) : GQ) = g
  have hKz : Kz g (Av (fun _ => False) []) s s.heap := by
    subst hg
    exact ⟨hJd, kq_of hts0 hgv hA, hscr, hK, hNM, hNF⟩
  have hg1 : g.2.2.2.2.1 = b := by rw [← hg]
  have hL : g.2.2.2.2.2.1 ≤ 260 := by rw [← hg]; exact hL
  have h : LQ g 600 s (fun q : Nat => s.heap.size ≤ q) (fun _ => False) [] [] [] s.heap [] := ⟨[], rfl, fun x hx => (by cases hx), P_0, D_0, va_S.rf, ro_nil, hKz, fun q z => z.elim, fun q z => z⟩
  have S : CallFix p m c code 9 s #[Value.ref b] TW RL := ⟨hx, hb, hml, hown, hts⟩
  have hl := lv_entry ([.ref b]) (n := 9) (Nat.le_of_ble_eq_true rfl)
  rw [lg_entry_eq]
  generalize (lg_sl ([.ref b]) ++ List.replicate (9 - (lg_sl ([.ref b])).length) Slot.unset).toArray = ls at hl ⊢
  have hl : lv_has ls 9 [(0, .ref g.2.2.2.2.1)] := by rw [hg1]; exact hl
  refine lq_obj S hl.1 h ⟨by show _ ≤ 2048; omega, by show _ ≤ 84000; omega, by show _ ≤ 600000; omega, by show _ ≤ 7302250; omega⟩ d_law_0 d_law_3 d_law_4 (fun ad1 H locs h => ?_)
  have h : LQ g 600 s (fun q : Nat => s.heap.size ≤ q) (fun _ => False) (wld g.2.2.1 g.2.2.2.1 ad1 lay Mb) [] [] H locs := h
  refine lv_iconst (v := 0) hx hb d_law_7 (by decide) ?_
  obtain ⟨N1, e1, -, -⟩ := x_status (d := 10) (a := 0) (by decide) k_b x_b
  rw [show (F_status Ab 0).1 = 0 from rfl] at e1
  refine lq_ask0 (ix := 284) (id := 54) (vs := [.int 0]) (d := 10) (mt := t_54) (rest := []) S hl.1 h rfl (by decide) rfl rfl rfl (by decide +kernel) e1 ⟨by show _ ≤ 2048; omega, by show _ ≤ 84000; omega, by show _ ≤ 600000; omega, by show _ ≤ 7302250; omega⟩ rfl (Nat.le_of_ble_eq_true rfl) d_law_8 (fun H locs h => ?_)
  have h := h.gone
  have h : LQ g 600 s (fun q : Nat => s.heap.size ≤ q) (fun _ => False) [] [] [] H locs := h
  refine lv_if_ne (tgt := 90) hx hb d_law_11 (by decide) (fun h9 => absurd h9 (by decide)) (fun _ => ?_)
  refine lq_obj S hl.1 h ⟨by show _ ≤ 2048; omega, by show _ ≤ 84000; omega, by show _ ≤ 600000; omega, by show _ ≤ 7302250; omega⟩ d_law_14 d_law_17 d_law_18 (fun ad2 H locs h => ?_)
  have h : LQ g 600 s (fun q : Nat => s.heap.size ≤ q) (fun _ => False) (wld g.2.2.1 g.2.2.2.1 ad2 lay Mb) [] [] H locs := h
  obtain ⟨N2, e2, -, -⟩ := x_image (d := 10) (by decide) k_b x_b
  rw [show (F_image Ab).1 = 0 from rfl] at e2
  refine lq_ask0 (ix := 288) (id := 52) (vs := []) (d := 10) (mt := t_52) (rest := []) S hl.1 h rfl (by decide) rfl rfl rfl (by decide +kernel) e2 ⟨by show _ ≤ 2048; omega, by show _ ≤ 84000; omega, by show _ ≤ 600000; omega, by show _ ≤ 7302250; omega⟩ rfl (Nat.le_of_ble_eq_true rfl) d_law_21 (fun H locs h => ?_)
  have h := h.gone
  have h : LQ g 600 s (fun q : Nat => s.heap.size ≤ q) (fun _ => False) [] [] [] H locs := h
  refine lv_if_ne (tgt := 90) hx hb d_law_24 (by decide) (fun h9 => absurd h9 (by decide)) (fun _ => ?_)
  refine lq_obj S hl.1 h ⟨by show _ ≤ 2048; omega, by show _ ≤ 84000; omega, by show _ ≤ 600000; omega, by show _ ≤ 7302250; omega⟩ d_law_27 d_law_30 d_law_31 (fun ad3 H locs h => ?_)
  have h : LQ g 600 s (fun q : Nat => s.heap.size ≤ q) (fun _ => False) (wld g.2.2.1 g.2.2.2.1 ad3 lay Mb) [] [] H locs := h
  obtain ⟨N3, e3, -, -⟩ := x_restore (d := 10) (by decide) k_b x_b
  rw [show (F_restore Ab).1 = (-6) from rfl] at e3
  refine lq_ask0 (ix := 291) (id := 53) (vs := []) (d := 10) (mt := t_53) (rest := []) S hl.1 h rfl (by decide) rfl rfl rfl (by decide +kernel) e3 ⟨by show _ ≤ 2048; omega, by show _ ≤ 84000; omega, by show _ ≤ 600000; omega, by show _ ≤ 7302250; omega⟩ rfl (Nat.le_of_ble_eq_true rfl) d_law_34 (fun H locs h => ?_)
  have h := h.gone
  have h : LQ g 600 s (fun q : Nat => s.heap.size ≤ q) (fun _ => False) [] [] [] H locs := h
  refine lv_bipush (v := (-6)) hx hb d_law_37 (by decide) ?_
  refine lv_icmp_ne (tgt := 90) hx hb d_law_39 (by decide) (fun h9 => absurd h9 (by decide)) (fun _ => ?_)
  refine lq_obj S hl.1 h ⟨by show _ ≤ 2048; omega, by show _ ≤ 84000; omega, by show _ ≤ 600000; omega, by show _ ≤ 7302250; omega⟩ d_law_42 d_law_45 d_law_46 (fun ad4 H locs h => ?_)
  have h : LQ g 600 s (fun q : Nat => s.heap.size ≤ q) (fun _ => False) (wld g.2.2.1 g.2.2.2.1 ad4 lay Mb) [] [] H locs := h
  refine lv_bipush (v := (7)) hx hb d_law_49 (by decide) ?_
  obtain ⟨N4, e4, -, -⟩ := x_seed (d := 10) (a := 7) (by decide) x_b
  rw [show (F_seed Ab 7).1 = 1 from rfl] at e4
  refine lq_ask0 (ix := 294) (id := 51) (vs := [.int 7]) (d := 10) (mt := t_51) (rest := []) S hl.1 h rfl (by decide) rfl rfl rfl (by decide +kernel) e4 ⟨by show _ ≤ 2048; omega, by show _ ≤ 84000; omega, by show _ ≤ 600000; omega, by show _ ≤ 7302250; omega⟩ rfl (Nat.le_of_ble_eq_true rfl) d_law_51 (fun H locs h => ?_)
  have h := h.gone
  have h : LQ g 600 s (fun q : Nat => s.heap.size ≤ q) (fun _ => False) [] [] [] H locs := h
  refine lv_iconst (v := 1) hx hb d_law_54 (by decide) ?_
  refine lv_icmp_ne (tgt := 90) hx hb d_law_55 (by decide) (fun h9 => absurd h9 (by decide)) (fun _ => ?_)
  refine lq_obj S hl.1 h ⟨by show _ ≤ 2048; omega, by show _ ≤ 84000; omega, by show _ ≤ 600000; omega, by show _ ≤ 7302250; omega⟩ d_law_58 d_law_61 d_law_62 (fun ad5 H locs h => ?_)
  have h : LQ g 600 s (fun q : Nat => s.heap.size ≤ q) (fun _ => False) (wld g.2.2.1 g.2.2.2.1 ad5 lay Mb) [] [] H locs := h
  obtain ⟨N5, e5, -, -⟩ := x_fault (d := 10) (by decide) x_b
  rw [show (F_fault Ab).1 = (-1) from rfl] at e5
  refine lq_ask0 (ix := 297) (id := 13) (vs := []) (d := 10) (mt := t_13) (rest := []) S hl.1 h rfl (by decide) rfl rfl rfl (by decide +kernel) e5 ⟨by show _ ≤ 2048; omega, by show _ ≤ 84000; omega, by show _ ≤ 600000; omega, by show _ ≤ 7302250; omega⟩ rfl (Nat.le_of_ble_eq_true rfl) d_law_65 (fun H locs h => ?_)
  have h := h.gone
  have h : LQ g 600 s (fun q : Nat => s.heap.size ≤ q) (fun _ => False) [] [] [] H locs := h
  refine lv_iconst (v := (-1)) hx hb d_law_68 (by decide) ?_
  refine lv_icmp_ne (tgt := 90) hx hb d_law_69 (by decide) (fun h9 => absurd h9 (by decide)) (fun _ => ?_)
  refine lq_obj S hl.1 h ⟨by show _ ≤ 2048; omega, by show _ ≤ 84000; omega, by show _ ≤ 600000; omega, by show _ ≤ 7302250; omega⟩ d_law_72 d_law_75 d_law_76 (fun ad6 H locs h => ?_)
  have h : LQ g 600 s (fun q : Nat => s.heap.size ≤ q) (fun _ => False) (wld g.2.2.1 g.2.2.2.1 ad6 lay Mb) [] [] H locs := h
  refine lv_iconst (v := 2) hx hb d_law_79 (by decide) ?_
  refine lv_bipush (v := (-9)) hx hb d_law_80 (by decide) ?_
  refine lv_bipush (v := (-9)) hx hb d_law_82 (by decide) ?_
  obtain ⟨N6, e6, -, -⟩ := x_strategy (d := 10) (a := 2) (b := -9) (c := -9) (by decide) k_b x_b
  rw [show (F_strategy Ab 2 (-9) (-9)).1 = 0 from rfl] at e6
  refine lq_ask0 (ix := 248) (id := 31) (vs := [.int 2, .int (-9), .int (-9)]) (d := 10) (mt := t_31) (rest := []) S hl.1 h rfl (by decide) rfl rfl rfl (by decide +kernel) e6 ⟨by show _ ≤ 2048; omega, by show _ ≤ 84000; omega, by show _ ≤ 600000; omega, by show _ ≤ 7302250; omega⟩ rfl (Nat.le_of_ble_eq_true rfl) d_law_84 (fun H locs h => ?_)
  have h := h.gone
  have h : LQ g 600 s (fun q : Nat => s.heap.size ≤ q) (fun _ => False) [] [] [] H locs := h
  refine lv_if_eq (tgt := 92) hx hb d_law_87 (by decide) (fun _ => ?_) (fun h9 => absurd rfl h9)
  refine lq_obj S hl.1 h ⟨by show _ ≤ 2048; omega, by show _ ≤ 84000; omega, by show _ ≤ 600000; omega, by show _ ≤ 7302250; omega⟩ d_law_92 d_law_95 d_law_96 (fun ad7 H locs h => ?_)
  have h : LQ g 600 s (fun q : Nat => s.heap.size ≤ q) (fun _ => False) (wld g.2.2.1 g.2.2.2.1 ad7 lay Mb) [] [] H locs := h
  refine lv_astore_n (lv' := [(1, .ref (ad7 0)), (0, .ref g.2.2.2.2.1)]) hx hb d_law_99 rfl hl (by decide) rfl (fun ls hl => ?_)
  refine lq_none S hl.1 h ⟨by show _ ≤ 2048; omega, by show _ ≤ 84000; omega, by show _ ≤ 600000; omega, by show _ ≤ 7302250; omega⟩ d_law_100 (fun b9 H locs h => ?_)
  generalize had : (fun k => if k = 52 then b9 else ad7 k) = ad at h
  have h0 : ad7 0 = ad 0 := by rw [← had]; rfl
  have h52 : b9 = ad 52 := by rw [← had]; rfl
  rw [h0] at hl
  rw [h52]
  have h : LQ g 600 s (fun q : Nat => s.heap.size ≤ q) (fun _ => False) (WL g ad Mb) [] [] H locs := h
  have hl : lv_has ls 9 [(1, .ref (ad 0)), (0, .ref g.2.2.2.2.1)] := hl
  refine lv_astore_n (lv' := [(2, .ref (ad 52)), (1, .ref (ad 0)), (0, .ref g.2.2.2.2.1)]) hx hb d_law_103 rfl hl (by decide) rfl (fun ls hl => ?_)
  refine lv_aload_n hx hb d_law_104 rfl (lv_at hl 1 rfl) ?_
  refine lv_aload_n hx hb d_law_105 rfl (lv_at hl 2 rfl) ?_
  refine lv_aload_n hx hb d_law_106 rfl (lv_at hl 0 rfl) ?_
  refine lq_callX (As := [.ref (ad 0), .ref g.2.2.2.2.1, .ref (ad 52)]) (rest := []) S hl.1 h (t_world l g hL ad Ab Mb) (fun x9 hx9 => absurd hx9 List.not_mem_nil) ⟨x_b, k_b, rfl, rfl, rfl, rfl⟩ (va_cwS 3 hts (g_sta (own := RL) (ix := 304) (y := yL_world) (by decide +kernel) (by decide +kernel) (by decide +kernel) (g_con cw_L_world)) rfl rfl rfl (by decide +kernel) ⟨by show 90 + 1 ≤ 2048; omega, by show 8 + (11 + 11) + 8000 ≤ 84000; omega⟩) rfl rfl (Nat.le_of_ble_eq_true rfl) d_law_107 ⟨by show _ ≤ 600000; omega, by show _ ≤ 7302250; omega⟩ (fun a1 b2 t3 W9 H locs hp9 h => ?_)
  obtain ⟨aX, l1, l2, A1, M1, n, R1, w, rfl, p1, p2, p3, p4, p5, p6⟩ := hp9
  have h : LQ g 600 s (fun q : Nat => s.heap.size ≤ q) (fun _ => False) (WL g ad M1) [.inl (a1, b2, t3)] [] H locs := h
  refine lq_ldc S h (ix := 154) (tx := "!") (t := [33]) (by decide) d_law_110 (fun a4 b5 h => ?_)
  have h : LQ g 600 s (fun q : Nat => s.heap.size ≤ q) (fun _ => False) (WL g ad M1) [.inl (a1, b2, t3), .inl (a4, b5, [33])] [] H locs := h
  refine lq_eqs S hl.1 h (a := a1) (b := b2) (t := t3) (a2 := a4) (b2 := b5) (t2 := [33]) (List.mem_of_getElem? (i := 0) rfl) (List.mem_of_getElem? (i := 1) rfl) l2 (Nat.le_of_ble_eq_true rfl) (by rw [show ([33] : List Int32).length = 1 from rfl]; omega) ⟨by show _ ≤ 2048; omega, by show _ ≤ 84000; omega, by show _ ≤ 600000; omega, by show _ ≤ 7302250; omega⟩ (Nat.le_of_ble_eq_true rfl) d_law_112 ?_
  refine lv_if_eq (tgt := 120) hx hb d_law_115 (by decide) (fun _ => ?_) (fun h9 => absurd rfl h9)
  refine W.widen (k := 600000) (n := 7302250) (by omega) (by omega) ?_
  exact law_tail l C0 hg1 h (lv_sub hl [1, 0] rfl) p1 p2 p3 p4 p5 p6
