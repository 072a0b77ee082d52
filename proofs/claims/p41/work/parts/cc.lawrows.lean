/-! the law behind its world: its equations (laid by program) -/
noncomputable abbrev E_276 (d : Nat) : PQ → PO := evn (rnn k_276 laz none (pcl GG laz d) 2)
set_option maxRecDepth 100000 in
theorem h_276_120 (d : Nat) (M : PM) : E_276 d (120, [none, some (.ref 0), some (.ref 52), none, none, none, none, none, none], [], M) = (oB (aldI laz none M 52 (jn 0)) fun v1 => E_276 d (129, [none, some (.ref 0), some (.ref 52), some (.int (v1 - (jn 1))), some (.int (jn 0)), none, none, none, none], [], M)) := by
  refine (evn_adv 2 (q' := (122, [none, some (.ref 0), some (.ref 52), none, none, none, none, none, none], [.int (jn 0), .ref 52], M)) rfl).trans ?_
  refine (e_oB (q := (122, [none, some (.ref 0), some (.ref 52), none, none, none, none, none, none], [.int (jn 0), .ref 52], M)) (o := (aldI laz none M 52 (jn 0))) (f := fun v1 => (123, [none, some (.ref 0), some (.ref 52), none, none, none, none, none, none], [.int v1], M)) (hf := rfl) rfl).trans ?_
  refine oB_in (fun v1 => ?_)
  refine (evn_adv 5 (q' := (129, [none, some (.ref 0), some (.ref 52), some (.int (v1 - (jn 1))), some (.int (jn 0)), none, none, none, none], [], M)) rfl).trans ?_
  rfl
set_option maxRecDepth 100000 in
theorem h_276_129 (d : Nat) (u0 : Option Value) (l3 : Int32) (l4 : Int32) (u5 : Option Value) (u6 : Option Value) (u7 : Option Value) (u8 : Option Value) (M : PM) : E_276 d (129, [u0, some (.ref 0), some (.ref 52), some (.int l3), some (.int l4), u5, u6, u7, u8], [], M) = (if l4 < (jn 6) then (if l4 = jn 0 then (if l4 = (jn 3) then (kI (pcl GG laz d 72 [.ref 0, .ref 52, .int (jn 1), .int l3, .int (l3 + (jn 1))] M) fun r1 M1 => (if r1 = jn 0 then (rZ (jn 0) M1) else E_276 d (129, [u0, some (.ref 0), some (.ref 52), some (.int l3), some (.int (l4 + (jn 1))), u5, u6, u7, u8], [], M1))) else (kI (pcl GG laz d 72 [.ref 0, .ref 52, .int (jn 1), .int l3, .int (l3 + (jn 2))] M) fun r1 M1 => (if r1 = jn 0 then (rZ (jn 0) M1) else E_276 d (129, [u0, some (.ref 0), some (.ref 52), some (.int l3), some (.int (l4 + (jn 1))), u5, u6, u7, u8], [], M1)))) else (if l4 = (jn 1) then (if l4 = (jn 3) then (kI (pcl GG laz d 72 [.ref 0, .ref 52, .int (jn 2), .int l3, .int (l3 + (jn 1))] M) fun r1 M1 => (if r1 = jn 0 then (rZ (jn 0) M1) else E_276 d (129, [u0, some (.ref 0), some (.ref 52), some (.int l3), some (.int (l4 + (jn 1))), u5, u6, u7, u8], [], M1))) else (kI (pcl GG laz d 72 [.ref 0, .ref 52, .int (jn 2), .int l3, .int (l3 + (jn 2))] M) fun r1 M1 => (if r1 = jn 0 then (rZ (jn 0) M1) else E_276 d (129, [u0, some (.ref 0), some (.ref 52), some (.int l3), some (.int (l4 + (jn 1))), u5, u6, u7, u8], [], M1)))) else (if l4 = (jn 2) then (if l4 = (jn 3) then (kI (pcl GG laz d 72 [.ref 0, .ref 52, .int (jn 5), .int l3, .int (l3 + (jn 1))] M) fun r1 M1 => (if r1 = jn 0 then (rZ (jn 0) M1) else E_276 d (129, [u0, some (.ref 0), some (.ref 52), some (.int l3), some (.int (l4 + (jn 1))), u5, u6, u7, u8], [], M1))) else (kI (pcl GG laz d 72 [.ref 0, .ref 52, .int (jn 5), .int l3, .int (l3 + (jn 2))] M) fun r1 M1 => (if r1 = jn 0 then (rZ (jn 0) M1) else E_276 d (129, [u0, some (.ref 0), some (.ref 52), some (.int l3), some (.int (l4 + (jn 1))), u5, u6, u7, u8], [], M1)))) else (if l4 = (jn 3) then (if l4 = (jn 3) then (kI (pcl GG laz d 72 [.ref 0, .ref 52, .int (jn 4), .int l3, .int (l3 + (jn 1))] M) fun r1 M1 => (if r1 = jn 0 then (rZ (jn 0) M1) else E_276 d (129, [u0, some (.ref 0), some (.ref 52), some (.int l3), some (.int (l4 + (jn 1))), u5, u6, u7, u8], [], M1))) else (kI (pcl GG laz d 72 [.ref 0, .ref 52, .int (jn 4), .int l3, .int (l3 + (jn 2))] M) fun r1 M1 => (if r1 = jn 0 then (rZ (jn 0) M1) else E_276 d (129, [u0, some (.ref 0), some (.ref 52), some (.int l3), some (.int (l4 + (jn 1))), u5, u6, u7, u8], [], M1)))) else (if l4 = (jn 4) then (if l4 = (jn 3) then (kI (pcl GG laz d 72 [.ref 0, .ref 52, .int (jn 3), .int l3, .int (l3 + (jn 1))] M) fun r1 M1 => (if r1 = jn 0 then (rZ (jn 0) M1) else E_276 d (129, [u0, some (.ref 0), some (.ref 52), some (.int l3), some (.int (l4 + (jn 1))), u5, u6, u7, u8], [], M1))) else (kI (pcl GG laz d 72 [.ref 0, .ref 52, .int (jn 3), .int l3, .int (l3 + (jn 2))] M) fun r1 M1 => (if r1 = jn 0 then (rZ (jn 0) M1) else E_276 d (129, [u0, some (.ref 0), some (.ref 52), some (.int l3), some (.int (l4 + (jn 1))), u5, u6, u7, u8], [], M1)))) else (if l4 = (jn 3) then (kI (pcl GG laz d 72 [.ref 0, .ref 52, .int (jn 13), .int l3, .int (l3 + (jn 1))] M) fun r1 M1 => (if r1 = jn 0 then (rZ (jn 0) M1) else E_276 d (129, [u0, some (.ref 0), some (.ref 52), some (.int l3), some (.int (l4 + (jn 1))), u5, u6, u7, u8], [], M1))) else (kI (pcl GG laz d 72 [.ref 0, .ref 52, .int (jn 13), .int l3, .int (l3 + (jn 2))] M) fun r1 M1 => (if r1 = jn 0 then (rZ (jn 0) M1) else E_276 d (129, [u0, some (.ref 0), some (.ref 52), some (.int l3), some (.int (l4 + (jn 1))), u5, u6, u7, u8], [], M1))))))))) else (kL (pcl GG laz d 73 [.ref 0, .ref 52] M) fun r1 M1 => (oB (aldI laz none M1 52 (jn 3)) fun v2 => (kL (pcl GG laz d 73 [.ref 0, .ref 52] M1) fun r3 M3 => (if (lg_cmp r3 r1) = jn 0 then (kI (pcl GG laz d 52 [.ref 0] M3) fun r4 M4 => (if r4 = v2 then (kL (pcl GG laz d 73 [.ref 0, .ref 52] M4) fun r5 M5 => (if (lg_cmp r5 r1) = jn 0 then (oB (aldI laz none M5 52 (jn 0)) fun v6 => (kI (pcl GG laz d 34 [.ref 0, .int v6, .int (jn 0)] M5) fun r7 M7 => (if r7 = (jz 1) then (kI (pcl GG laz d 34 [.ref 0, .int (jn 0), .int v2] M7) fun r8 M8 => (if r8 = (jz 1) then (oB (aldI laz none M8 52 (jn 4)) fun v9 => (kI (pcl GG laz d 29 [.ref 0, .int v9, .int (jn 0), .int (jn 0)] M8) fun r10 M10 => (if r10 = (jz 1) then (kI (pcl GG laz d 29 [.ref 0, .int (jn 0), .int (jn 0), .int (jn 40)] M10) fun r11 M11 => (if r11 = (jz 5) then (kI (pcl GG laz d 31 [.ref 0, .int (jn 14), .int (jn 0), .int (jn 0)] M11) fun r12 M12 => (if r12 = (jz 1) then (oB (aldI laz none M12 52 (jn 0)) fun v13 => (kI (pcl GG laz d 31 [.ref 0, .int (jn 5), .int v13, .int (jn 0)] M12) fun r14 M14 => (if r14 = (jz 1) then (kI (pcl GG laz d 15 [.ref 0, .int (jn 104), .int (jn 1)] M14) fun r15 M15 => (if r15 = (jz 1) then (kI (pcl GG laz d 20 [.ref 0, .int v2, .int (jn 0)] M15) fun r16 M16 => (if r16 = (jz 1) then (kI (pcl GG laz d 49 [.ref 0, .int (jn 0)] M16) fun r17 M17 => (if r17 = (jz 6) then (kI (pcl GG laz d 3 [.ref 0, .int (jn 0), .int (jn 4), .int (jn 0)] M17) fun r18 M18 => (if r18 = (jz 6) then (kL (pcl GG laz d 73 [.ref 0, .ref 52] M18) fun r19 M19 => (if (lg_cmp r19 r1) = jn 0 then E_276 d (398, [u0, some (.ref 0), some (.ref 52), some (.int l3), some (.long r1), none, some (.int v2), some (.int (jn 0)), u8], [], M19) else (rZ (jn 0) M19))) else (rZ (jn 0) M18))) else (rZ (jn 0) M17))) else (rZ (jn 0) M16))) else (rZ (jn 0) M15))) else (rZ (jn 0) M14)))) else (rZ (jn 0) M12))) else (rZ (jn 0) M11))) else (rZ (jn 0) M10)))) else (rZ (jn 0) M8))) else (rZ (jn 0) M7)))) else (rZ (jn 0) M5))) else (rZ (jn 0) M4))) else (rZ (jn 0) M3)))))) := by
  refine (evn_adv 2 (q' := (133, [u0, some (.ref 0), some (.ref 52), some (.int l3), some (.int l4), u5, u6, u7, u8], [.int (jn 6), .int l4], M)) rfl).trans ?_
  refine (e_ic_ge (hf := rfl)).trans ?_
  refine ite_in ?_ ?_
  · refine (evn_adv 3 (q' := (140, [u0, some (.ref 0), some (.ref 52), some (.int l3), some (.int l4), u5, u6, u7, u8], [.int l4, .ref 52, .ref 0], M)) rfl).trans ?_
    refine (e_if_ne (hf := rfl)).trans ?_
    refine ite_in ?_ ?_
    · refine (evn_adv 5 (q' := (193, [u0, some (.ref 0), some (.ref 52), some (.int l3), some (.int l4), u5, u6, u7, u8], [.int (jn 3), .int l4, .int l3, .int (jn 1), .ref 52, .ref 0], M)) rfl).trans ?_
      refine (e_ic_ne (hf := rfl)).trans ?_
      refine ite_in ?_ ?_
      · refine (evn_adv 4 (q' := (205, [u0, some (.ref 0), some (.ref 52), some (.int l3), some (.int l4), u5, u6, u7, u8], [.int (l3 + (jn 1)), .int l3, .int (jn 1), .ref 52, .ref 0], M)) rfl).trans ?_
        refine (e_kI (q := (205, [u0, some (.ref 0), some (.ref 52), some (.int l3), some (.int l4), u5, u6, u7, u8], [.int (l3 + (jn 1)), .int l3, .int (jn 1), .ref 52, .ref 0])) (q2 := (208, [u0, some (.ref 0), some (.ref 52), some (.int l3), some (.int l4), u5, u6, u7, u8], [])) (M := M) (o := (pcl GG laz d 72 [.ref 0, .ref 52, .int (jn 1), .int l3, .int (l3 + (jn 1))] M)) (hf := rfl) rfl rfl).trans ?_
        refine kI_in (fun r1 M1 => ?_)
        refine (e_if_ne (hf := rfl)).trans ?_
        refine ite_in ?_ ?_
        · refine (evn_adv 1 (q' := (212, [u0, some (.ref 0), some (.ref 52), some (.int l3), some (.int l4), u5, u6, u7, u8], [.int (jn 0)], M1)) rfl).trans ?_
          exact e_iretz (hf := rfl)
        · refine (evn_adv 2 (q' := (129, [u0, some (.ref 0), some (.ref 52), some (.int l3), some (.int (l4 + (jn 1))), u5, u6, u7, u8], [], M1)) rfl).trans ?_
          rfl
      · refine (evn_adv 3 (q' := (205, [u0, some (.ref 0), some (.ref 52), some (.int l3), some (.int l4), u5, u6, u7, u8], [.int (l3 + (jn 2)), .int l3, .int (jn 1), .ref 52, .ref 0], M)) rfl).trans ?_
        refine (e_kI (q := (205, [u0, some (.ref 0), some (.ref 52), some (.int l3), some (.int l4), u5, u6, u7, u8], [.int (l3 + (jn 2)), .int l3, .int (jn 1), .ref 52, .ref 0])) (q2 := (208, [u0, some (.ref 0), some (.ref 52), some (.int l3), some (.int l4), u5, u6, u7, u8], [])) (M := M) (o := (pcl GG laz d 72 [.ref 0, .ref 52, .int (jn 1), .int l3, .int (l3 + (jn 2))] M)) (hf := rfl) rfl rfl).trans ?_
        refine kI_in (fun r1 M1 => ?_)
        refine (e_if_ne (hf := rfl)).trans ?_
        refine ite_in ?_ ?_
        · refine (evn_adv 1 (q' := (212, [u0, some (.ref 0), some (.ref 52), some (.int l3), some (.int l4), u5, u6, u7, u8], [.int (jn 0)], M1)) rfl).trans ?_
          exact e_iretz (hf := rfl)
        · refine (evn_adv 2 (q' := (129, [u0, some (.ref 0), some (.ref 52), some (.int l3), some (.int (l4 + (jn 1))), u5, u6, u7, u8], [], M1)) rfl).trans ?_
          rfl
    · refine (evn_adv 2 (q' := (150, [u0, some (.ref 0), some (.ref 52), some (.int l3), some (.int l4), u5, u6, u7, u8], [.int (jn 1), .int l4, .ref 52, .ref 0], M)) rfl).trans ?_
      refine (e_ic_ne (hf := rfl)).trans ?_
      refine ite_in ?_ ?_
      · refine (evn_adv 5 (q' := (193, [u0, some (.ref 0), some (.ref 52), some (.int l3), some (.int l4), u5, u6, u7, u8], [.int (jn 3), .int l4, .int l3, .int (jn 2), .ref 52, .ref 0], M)) rfl).trans ?_
        refine (e_ic_ne (hf := rfl)).trans ?_
        refine ite_in ?_ ?_
        · refine (evn_adv 4 (q' := (205, [u0, some (.ref 0), some (.ref 52), some (.int l3), some (.int l4), u5, u6, u7, u8], [.int (l3 + (jn 1)), .int l3, .int (jn 2), .ref 52, .ref 0], M)) rfl).trans ?_
          refine (e_kI (q := (205, [u0, some (.ref 0), some (.ref 52), some (.int l3), some (.int l4), u5, u6, u7, u8], [.int (l3 + (jn 1)), .int l3, .int (jn 2), .ref 52, .ref 0])) (q2 := (208, [u0, some (.ref 0), some (.ref 52), some (.int l3), some (.int l4), u5, u6, u7, u8], [])) (M := M) (o := (pcl GG laz d 72 [.ref 0, .ref 52, .int (jn 2), .int l3, .int (l3 + (jn 1))] M)) (hf := rfl) rfl rfl).trans ?_
          refine kI_in (fun r1 M1 => ?_)
          refine (e_if_ne (hf := rfl)).trans ?_
          refine ite_in ?_ ?_
          · refine (evn_adv 1 (q' := (212, [u0, some (.ref 0), some (.ref 52), some (.int l3), some (.int l4), u5, u6, u7, u8], [.int (jn 0)], M1)) rfl).trans ?_
            exact e_iretz (hf := rfl)
          · refine (evn_adv 2 (q' := (129, [u0, some (.ref 0), some (.ref 52), some (.int l3), some (.int (l4 + (jn 1))), u5, u6, u7, u8], [], M1)) rfl).trans ?_
            rfl
        · refine (evn_adv 3 (q' := (205, [u0, some (.ref 0), some (.ref 52), some (.int l3), some (.int l4), u5, u6, u7, u8], [.int (l3 + (jn 2)), .int l3, .int (jn 2), .ref 52, .ref 0], M)) rfl).trans ?_
          refine (e_kI (q := (205, [u0, some (.ref 0), some (.ref 52), some (.int l3), some (.int l4), u5, u6, u7, u8], [.int (l3 + (jn 2)), .int l3, .int (jn 2), .ref 52, .ref 0])) (q2 := (208, [u0, some (.ref 0), some (.ref 52), some (.int l3), some (.int l4), u5, u6, u7, u8], [])) (M := M) (o := (pcl GG laz d 72 [.ref 0, .ref 52, .int (jn 2), .int l3, .int (l3 + (jn 2))] M)) (hf := rfl) rfl rfl).trans ?_
          refine kI_in (fun r1 M1 => ?_)
          refine (e_if_ne (hf := rfl)).trans ?_
          refine ite_in ?_ ?_
          · refine (evn_adv 1 (q' := (212, [u0, some (.ref 0), some (.ref 52), some (.int l3), some (.int l4), u5, u6, u7, u8], [.int (jn 0)], M1)) rfl).trans ?_
            exact e_iretz (hf := rfl)
          · refine (evn_adv 2 (q' := (129, [u0, some (.ref 0), some (.ref 52), some (.int l3), some (.int (l4 + (jn 1))), u5, u6, u7, u8], [], M1)) rfl).trans ?_
            rfl
      · refine (evn_adv 2 (q' := (160, [u0, some (.ref 0), some (.ref 52), some (.int l3), some (.int l4), u5, u6, u7, u8], [.int (jn 2), .int l4, .ref 52, .ref 0], M)) rfl).trans ?_
        refine (e_ic_ne (hf := rfl)).trans ?_
        refine ite_in ?_ ?_
        · refine (evn_adv 5 (q' := (193, [u0, some (.ref 0), some (.ref 52), some (.int l3), some (.int l4), u5, u6, u7, u8], [.int (jn 3), .int l4, .int l3, .int (jn 5), .ref 52, .ref 0], M)) rfl).trans ?_
          refine (e_ic_ne (hf := rfl)).trans ?_
          refine ite_in ?_ ?_
          · refine (evn_adv 4 (q' := (205, [u0, some (.ref 0), some (.ref 52), some (.int l3), some (.int l4), u5, u6, u7, u8], [.int (l3 + (jn 1)), .int l3, .int (jn 5), .ref 52, .ref 0], M)) rfl).trans ?_
            refine (e_kI (q := (205, [u0, some (.ref 0), some (.ref 52), some (.int l3), some (.int l4), u5, u6, u7, u8], [.int (l3 + (jn 1)), .int l3, .int (jn 5), .ref 52, .ref 0])) (q2 := (208, [u0, some (.ref 0), some (.ref 52), some (.int l3), some (.int l4), u5, u6, u7, u8], [])) (M := M) (o := (pcl GG laz d 72 [.ref 0, .ref 52, .int (jn 5), .int l3, .int (l3 + (jn 1))] M)) (hf := rfl) rfl rfl).trans ?_
            refine kI_in (fun r1 M1 => ?_)
            refine (e_if_ne (hf := rfl)).trans ?_
            refine ite_in ?_ ?_
            · refine (evn_adv 1 (q' := (212, [u0, some (.ref 0), some (.ref 52), some (.int l3), some (.int l4), u5, u6, u7, u8], [.int (jn 0)], M1)) rfl).trans ?_
              exact e_iretz (hf := rfl)
            · refine (evn_adv 2 (q' := (129, [u0, some (.ref 0), some (.ref 52), some (.int l3), some (.int (l4 + (jn 1))), u5, u6, u7, u8], [], M1)) rfl).trans ?_
              rfl
          · refine (evn_adv 3 (q' := (205, [u0, some (.ref 0), some (.ref 52), some (.int l3), some (.int l4), u5, u6, u7, u8], [.int (l3 + (jn 2)), .int l3, .int (jn 5), .ref 52, .ref 0], M)) rfl).trans ?_
            refine (e_kI (q := (205, [u0, some (.ref 0), some (.ref 52), some (.int l3), some (.int l4), u5, u6, u7, u8], [.int (l3 + (jn 2)), .int l3, .int (jn 5), .ref 52, .ref 0])) (q2 := (208, [u0, some (.ref 0), some (.ref 52), some (.int l3), some (.int l4), u5, u6, u7, u8], [])) (M := M) (o := (pcl GG laz d 72 [.ref 0, .ref 52, .int (jn 5), .int l3, .int (l3 + (jn 2))] M)) (hf := rfl) rfl rfl).trans ?_
            refine kI_in (fun r1 M1 => ?_)
            refine (e_if_ne (hf := rfl)).trans ?_
            refine ite_in ?_ ?_
            · refine (evn_adv 1 (q' := (212, [u0, some (.ref 0), some (.ref 52), some (.int l3), some (.int l4), u5, u6, u7, u8], [.int (jn 0)], M1)) rfl).trans ?_
              exact e_iretz (hf := rfl)
            · refine (evn_adv 2 (q' := (129, [u0, some (.ref 0), some (.ref 52), some (.int l3), some (.int (l4 + (jn 1))), u5, u6, u7, u8], [], M1)) rfl).trans ?_
              rfl
        · refine (evn_adv 2 (q' := (170, [u0, some (.ref 0), some (.ref 52), some (.int l3), some (.int l4), u5, u6, u7, u8], [.int (jn 3), .int l4, .ref 52, .ref 0], M)) rfl).trans ?_
          refine (e_ic_ne (hf := rfl)).trans ?_
          refine ite_in ?_ ?_
          · refine (evn_adv 5 (q' := (193, [u0, some (.ref 0), some (.ref 52), some (.int l3), some (.int l4), u5, u6, u7, u8], [.int (jn 3), .int l4, .int l3, .int (jn 4), .ref 52, .ref 0], M)) rfl).trans ?_
            refine (e_ic_ne (hf := rfl)).trans ?_
            refine ite_in ?_ ?_
            · refine (evn_adv 4 (q' := (205, [u0, some (.ref 0), some (.ref 52), some (.int l3), some (.int l4), u5, u6, u7, u8], [.int (l3 + (jn 1)), .int l3, .int (jn 4), .ref 52, .ref 0], M)) rfl).trans ?_
              refine (e_kI (q := (205, [u0, some (.ref 0), some (.ref 52), some (.int l3), some (.int l4), u5, u6, u7, u8], [.int (l3 + (jn 1)), .int l3, .int (jn 4), .ref 52, .ref 0])) (q2 := (208, [u0, some (.ref 0), some (.ref 52), some (.int l3), some (.int l4), u5, u6, u7, u8], [])) (M := M) (o := (pcl GG laz d 72 [.ref 0, .ref 52, .int (jn 4), .int l3, .int (l3 + (jn 1))] M)) (hf := rfl) rfl rfl).trans ?_
              refine kI_in (fun r1 M1 => ?_)
              refine (e_if_ne (hf := rfl)).trans ?_
              refine ite_in ?_ ?_
              · refine (evn_adv 1 (q' := (212, [u0, some (.ref 0), some (.ref 52), some (.int l3), some (.int l4), u5, u6, u7, u8], [.int (jn 0)], M1)) rfl).trans ?_
                exact e_iretz (hf := rfl)
              · refine (evn_adv 2 (q' := (129, [u0, some (.ref 0), some (.ref 52), some (.int l3), some (.int (l4 + (jn 1))), u5, u6, u7, u8], [], M1)) rfl).trans ?_
                rfl
            · refine (evn_adv 3 (q' := (205, [u0, some (.ref 0), some (.ref 52), some (.int l3), some (.int l4), u5, u6, u7, u8], [.int (l3 + (jn 2)), .int l3, .int (jn 4), .ref 52, .ref 0], M)) rfl).trans ?_
              refine (e_kI (q := (205, [u0, some (.ref 0), some (.ref 52), some (.int l3), some (.int l4), u5, u6, u7, u8], [.int (l3 + (jn 2)), .int l3, .int (jn 4), .ref 52, .ref 0])) (q2 := (208, [u0, some (.ref 0), some (.ref 52), some (.int l3), some (.int l4), u5, u6, u7, u8], [])) (M := M) (o := (pcl GG laz d 72 [.ref 0, .ref 52, .int (jn 4), .int l3, .int (l3 + (jn 2))] M)) (hf := rfl) rfl rfl).trans ?_
              refine kI_in (fun r1 M1 => ?_)
              refine (e_if_ne (hf := rfl)).trans ?_
              refine ite_in ?_ ?_
              · refine (evn_adv 1 (q' := (212, [u0, some (.ref 0), some (.ref 52), some (.int l3), some (.int l4), u5, u6, u7, u8], [.int (jn 0)], M1)) rfl).trans ?_
                exact e_iretz (hf := rfl)
              · refine (evn_adv 2 (q' := (129, [u0, some (.ref 0), some (.ref 52), some (.int l3), some (.int (l4 + (jn 1))), u5, u6, u7, u8], [], M1)) rfl).trans ?_
                rfl
          · refine (evn_adv 2 (q' := (180, [u0, some (.ref 0), some (.ref 52), some (.int l3), some (.int l4), u5, u6, u7, u8], [.int (jn 4), .int l4, .ref 52, .ref 0], M)) rfl).trans ?_
            refine (e_ic_ne (hf := rfl)).trans ?_
            refine ite_in ?_ ?_
            · refine (evn_adv 5 (q' := (193, [u0, some (.ref 0), some (.ref 52), some (.int l3), some (.int l4), u5, u6, u7, u8], [.int (jn 3), .int l4, .int l3, .int (jn 3), .ref 52, .ref 0], M)) rfl).trans ?_
              refine (e_ic_ne (hf := rfl)).trans ?_
              refine ite_in ?_ ?_
              · refine (evn_adv 4 (q' := (205, [u0, some (.ref 0), some (.ref 52), some (.int l3), some (.int l4), u5, u6, u7, u8], [.int (l3 + (jn 1)), .int l3, .int (jn 3), .ref 52, .ref 0], M)) rfl).trans ?_
                refine (e_kI (q := (205, [u0, some (.ref 0), some (.ref 52), some (.int l3), some (.int l4), u5, u6, u7, u8], [.int (l3 + (jn 1)), .int l3, .int (jn 3), .ref 52, .ref 0])) (q2 := (208, [u0, some (.ref 0), some (.ref 52), some (.int l3), some (.int l4), u5, u6, u7, u8], [])) (M := M) (o := (pcl GG laz d 72 [.ref 0, .ref 52, .int (jn 3), .int l3, .int (l3 + (jn 1))] M)) (hf := rfl) rfl rfl).trans ?_
                refine kI_in (fun r1 M1 => ?_)
                refine (e_if_ne (hf := rfl)).trans ?_
                refine ite_in ?_ ?_
                · refine (evn_adv 1 (q' := (212, [u0, some (.ref 0), some (.ref 52), some (.int l3), some (.int l4), u5, u6, u7, u8], [.int (jn 0)], M1)) rfl).trans ?_
                  exact e_iretz (hf := rfl)
                · refine (evn_adv 2 (q' := (129, [u0, some (.ref 0), some (.ref 52), some (.int l3), some (.int (l4 + (jn 1))), u5, u6, u7, u8], [], M1)) rfl).trans ?_
                  rfl
              · refine (evn_adv 3 (q' := (205, [u0, some (.ref 0), some (.ref 52), some (.int l3), some (.int l4), u5, u6, u7, u8], [.int (l3 + (jn 2)), .int l3, .int (jn 3), .ref 52, .ref 0], M)) rfl).trans ?_
                refine (e_kI (q := (205, [u0, some (.ref 0), some (.ref 52), some (.int l3), some (.int l4), u5, u6, u7, u8], [.int (l3 + (jn 2)), .int l3, .int (jn 3), .ref 52, .ref 0])) (q2 := (208, [u0, some (.ref 0), some (.ref 52), some (.int l3), some (.int l4), u5, u6, u7, u8], [])) (M := M) (o := (pcl GG laz d 72 [.ref 0, .ref 52, .int (jn 3), .int l3, .int (l3 + (jn 2))] M)) (hf := rfl) rfl rfl).trans ?_
                refine kI_in (fun r1 M1 => ?_)
                refine (e_if_ne (hf := rfl)).trans ?_
                refine ite_in ?_ ?_
                · refine (evn_adv 1 (q' := (212, [u0, some (.ref 0), some (.ref 52), some (.int l3), some (.int l4), u5, u6, u7, u8], [.int (jn 0)], M1)) rfl).trans ?_
                  exact e_iretz (hf := rfl)
                · refine (evn_adv 2 (q' := (129, [u0, some (.ref 0), some (.ref 52), some (.int l3), some (.int (l4 + (jn 1))), u5, u6, u7, u8], [], M1)) rfl).trans ?_
                  rfl
            · refine (evn_adv 4 (q' := (193, [u0, some (.ref 0), some (.ref 52), some (.int l3), some (.int l4), u5, u6, u7, u8], [.int (jn 3), .int l4, .int l3, .int (jn 13), .ref 52, .ref 0], M)) rfl).trans ?_
              refine (e_ic_ne (hf := rfl)).trans ?_
              refine ite_in ?_ ?_
              · refine (evn_adv 4 (q' := (205, [u0, some (.ref 0), some (.ref 52), some (.int l3), some (.int l4), u5, u6, u7, u8], [.int (l3 + (jn 1)), .int l3, .int (jn 13), .ref 52, .ref 0], M)) rfl).trans ?_
                refine (e_kI (q := (205, [u0, some (.ref 0), some (.ref 52), some (.int l3), some (.int l4), u5, u6, u7, u8], [.int (l3 + (jn 1)), .int l3, .int (jn 13), .ref 52, .ref 0])) (q2 := (208, [u0, some (.ref 0), some (.ref 52), some (.int l3), some (.int l4), u5, u6, u7, u8], [])) (M := M) (o := (pcl GG laz d 72 [.ref 0, .ref 52, .int (jn 13), .int l3, .int (l3 + (jn 1))] M)) (hf := rfl) rfl rfl).trans ?_
                refine kI_in (fun r1 M1 => ?_)
                refine (e_if_ne (hf := rfl)).trans ?_
                refine ite_in ?_ ?_
                · refine (evn_adv 1 (q' := (212, [u0, some (.ref 0), some (.ref 52), some (.int l3), some (.int l4), u5, u6, u7, u8], [.int (jn 0)], M1)) rfl).trans ?_
                  exact e_iretz (hf := rfl)
                · refine (evn_adv 2 (q' := (129, [u0, some (.ref 0), some (.ref 52), some (.int l3), some (.int (l4 + (jn 1))), u5, u6, u7, u8], [], M1)) rfl).trans ?_
                  rfl
              · refine (evn_adv 3 (q' := (205, [u0, some (.ref 0), some (.ref 52), some (.int l3), some (.int l4), u5, u6, u7, u8], [.int (l3 + (jn 2)), .int l3, .int (jn 13), .ref 52, .ref 0], M)) rfl).trans ?_
                refine (e_kI (q := (205, [u0, some (.ref 0), some (.ref 52), some (.int l3), some (.int l4), u5, u6, u7, u8], [.int (l3 + (jn 2)), .int l3, .int (jn 13), .ref 52, .ref 0])) (q2 := (208, [u0, some (.ref 0), some (.ref 52), some (.int l3), some (.int l4), u5, u6, u7, u8], [])) (M := M) (o := (pcl GG laz d 72 [.ref 0, .ref 52, .int (jn 13), .int l3, .int (l3 + (jn 2))] M)) (hf := rfl) rfl rfl).trans ?_
                refine kI_in (fun r1 M1 => ?_)
                refine (e_if_ne (hf := rfl)).trans ?_
                refine ite_in ?_ ?_
                · refine (evn_adv 1 (q' := (212, [u0, some (.ref 0), some (.ref 52), some (.int l3), some (.int l4), u5, u6, u7, u8], [.int (jn 0)], M1)) rfl).trans ?_
                  exact e_iretz (hf := rfl)
                · refine (evn_adv 2 (q' := (129, [u0, some (.ref 0), some (.ref 52), some (.int l3), some (.int (l4 + (jn 1))), u5, u6, u7, u8], [], M1)) rfl).trans ?_
                  rfl
  · refine (evn_adv 2 (q' := (221, [u0, some (.ref 0), some (.ref 52), some (.int l3), some (.int l4), u5, u6, u7, u8], [.ref 52, .ref 0], M)) rfl).trans ?_
    refine (e_kL (q := (221, [u0, some (.ref 0), some (.ref 52), some (.int l3), some (.int l4), u5, u6, u7, u8], [.ref 52, .ref 0])) (q2 := (224, [u0, some (.ref 0), some (.ref 52), some (.int l3), some (.int l4), u5, u6, u7, u8], [])) (M := M) (o := (pcl GG laz d 73 [.ref 0, .ref 52] M)) (hf := rfl) rfl rfl).trans ?_
    refine kL_in (fun r1 M1 => ?_)
    refine (evn_adv 3 (q' := (228, [u0, some (.ref 0), some (.ref 52), some (.int l3), some (.long r1), none, u6, u7, u8], [.int (jn 3), .ref 52], M1)) rfl).trans ?_
    refine (e_oB (q := (228, [u0, some (.ref 0), some (.ref 52), some (.int l3), some (.long r1), none, u6, u7, u8], [.int (jn 3), .ref 52], M1)) (o := (aldI laz none M1 52 (jn 3))) (f := fun v2 => (229, [u0, some (.ref 0), some (.ref 52), some (.int l3), some (.long r1), none, u6, u7, u8], [.int v2], M1)) (hf := rfl) rfl).trans ?_
    refine oB_in (fun v2 => ?_)
    refine (evn_adv 3 (q' := (233, [u0, some (.ref 0), some (.ref 52), some (.int l3), some (.long r1), none, some (.int v2), u7, u8], [.ref 52, .ref 0], M1)) rfl).trans ?_
    refine (e_kL (q := (233, [u0, some (.ref 0), some (.ref 52), some (.int l3), some (.long r1), none, some (.int v2), u7, u8], [.ref 52, .ref 0])) (q2 := (236, [u0, some (.ref 0), some (.ref 52), some (.int l3), some (.long r1), none, some (.int v2), u7, u8], [])) (M := M1) (o := (pcl GG laz d 73 [.ref 0, .ref 52] M1)) (hf := rfl) rfl rfl).trans ?_
    refine kL_in (fun r3 M3 => ?_)
    refine (evn_adv 2 (q' := (239, [u0, some (.ref 0), some (.ref 52), some (.int l3), some (.long r1), none, some (.int v2), u7, u8], [.int (lg_cmp r3 r1)], M3)) rfl).trans ?_
    refine (e_if_ne (hf := rfl)).trans ?_
    refine ite_in ?_ ?_
    · refine (evn_adv 1 (q' := (243, [u0, some (.ref 0), some (.ref 52), some (.int l3), some (.long r1), none, some (.int v2), u7, u8], [.ref 0], M3)) rfl).trans ?_
      refine (e_kI (q := (243, [u0, some (.ref 0), some (.ref 52), some (.int l3), some (.long r1), none, some (.int v2), u7, u8], [.ref 0])) (q2 := (246, [u0, some (.ref 0), some (.ref 52), some (.int l3), some (.long r1), none, some (.int v2), u7, u8], [])) (M := M3) (o := (pcl GG laz d 52 [.ref 0] M3)) (hf := rfl) rfl rfl).trans ?_
      refine kI_in (fun r4 M4 => ?_)
      refine (evn_adv 1 (q' := (248, [u0, some (.ref 0), some (.ref 52), some (.int l3), some (.long r1), none, some (.int v2), u7, u8], [.int v2, .int r4], M4)) rfl).trans ?_
      refine (e_ic_ne (hf := rfl)).trans ?_
      refine ite_in ?_ ?_
      · refine (evn_adv 2 (q' := (253, [u0, some (.ref 0), some (.ref 52), some (.int l3), some (.long r1), none, some (.int v2), u7, u8], [.ref 52, .ref 0], M4)) rfl).trans ?_
        refine (e_kL (q := (253, [u0, some (.ref 0), some (.ref 52), some (.int l3), some (.long r1), none, some (.int v2), u7, u8], [.ref 52, .ref 0])) (q2 := (256, [u0, some (.ref 0), some (.ref 52), some (.int l3), some (.long r1), none, some (.int v2), u7, u8], [])) (M := M4) (o := (pcl GG laz d 73 [.ref 0, .ref 52] M4)) (hf := rfl) rfl rfl).trans ?_
        refine kL_in (fun r5 M5 => ?_)
        refine (evn_adv 2 (q' := (259, [u0, some (.ref 0), some (.ref 52), some (.int l3), some (.long r1), none, some (.int v2), u7, u8], [.int (lg_cmp r5 r1)], M5)) rfl).trans ?_
        refine (e_if_eq (hf := rfl)).trans ?_
        refine ite_in ?_ ?_
        · refine (evn_adv 3 (q' := (267, [u0, some (.ref 0), some (.ref 52), some (.int l3), some (.long r1), none, some (.int v2), u7, u8], [.int (jn 0), .ref 52, .ref 0], M5)) rfl).trans ?_
          refine (e_oB (q := (267, [u0, some (.ref 0), some (.ref 52), some (.int l3), some (.long r1), none, some (.int v2), u7, u8], [.int (jn 0), .ref 52, .ref 0], M5)) (o := (aldI laz none M5 52 (jn 0))) (f := fun v6 => (268, [u0, some (.ref 0), some (.ref 52), some (.int l3), some (.long r1), none, some (.int v2), u7, u8], [.int v6, .ref 0], M5)) (hf := rfl) rfl).trans ?_
          refine oB_in (fun v6 => ?_)
          refine (evn_adv 1 (q' := (269, [u0, some (.ref 0), some (.ref 52), some (.int l3), some (.long r1), none, some (.int v2), u7, u8], [.int (jn 0), .int v6, .ref 0], M5)) rfl).trans ?_
          refine (e_kI (q := (269, [u0, some (.ref 0), some (.ref 52), some (.int l3), some (.long r1), none, some (.int v2), u7, u8], [.int (jn 0), .int v6, .ref 0])) (q2 := (272, [u0, some (.ref 0), some (.ref 52), some (.int l3), some (.long r1), none, some (.int v2), u7, u8], [])) (M := M5) (o := (pcl GG laz d 34 [.ref 0, .int v6, .int (jn 0)] M5)) (hf := rfl) rfl rfl).trans ?_
          refine kI_in (fun r7 M7 => ?_)
          refine (evn_adv 1 (q' := (273, [u0, some (.ref 0), some (.ref 52), some (.int l3), some (.long r1), none, some (.int v2), u7, u8], [.int (jz 1), .int r7], M7)) rfl).trans ?_
          refine (e_ic_ne (hf := rfl)).trans ?_
          refine ite_in ?_ ?_
          · refine (evn_adv 3 (q' := (280, [u0, some (.ref 0), some (.ref 52), some (.int l3), some (.long r1), none, some (.int v2), u7, u8], [.int v2, .int (jn 0), .ref 0], M7)) rfl).trans ?_
            refine (e_kI (q := (280, [u0, some (.ref 0), some (.ref 52), some (.int l3), some (.long r1), none, some (.int v2), u7, u8], [.int v2, .int (jn 0), .ref 0])) (q2 := (283, [u0, some (.ref 0), some (.ref 52), some (.int l3), some (.long r1), none, some (.int v2), u7, u8], [])) (M := M7) (o := (pcl GG laz d 34 [.ref 0, .int (jn 0), .int v2] M7)) (hf := rfl) rfl rfl).trans ?_
            refine kI_in (fun r8 M8 => ?_)
            refine (evn_adv 1 (q' := (284, [u0, some (.ref 0), some (.ref 52), some (.int l3), some (.long r1), none, some (.int v2), u7, u8], [.int (jz 1), .int r8], M8)) rfl).trans ?_
            refine (e_ic_ne (hf := rfl)).trans ?_
            refine ite_in ?_ ?_
            · refine (evn_adv 3 (q' := (290, [u0, some (.ref 0), some (.ref 52), some (.int l3), some (.long r1), none, some (.int v2), u7, u8], [.int (jn 4), .ref 52, .ref 0], M8)) rfl).trans ?_
              refine (e_oB (q := (290, [u0, some (.ref 0), some (.ref 52), some (.int l3), some (.long r1), none, some (.int v2), u7, u8], [.int (jn 4), .ref 52, .ref 0], M8)) (o := (aldI laz none M8 52 (jn 4))) (f := fun v9 => (291, [u0, some (.ref 0), some (.ref 52), some (.int l3), some (.long r1), none, some (.int v2), u7, u8], [.int v9, .ref 0], M8)) (hf := rfl) rfl).trans ?_
              refine oB_in (fun v9 => ?_)
              refine (evn_adv 2 (q' := (293, [u0, some (.ref 0), some (.ref 52), some (.int l3), some (.long r1), none, some (.int v2), u7, u8], [.int (jn 0), .int (jn 0), .int v9, .ref 0], M8)) rfl).trans ?_
              refine (e_kI (q := (293, [u0, some (.ref 0), some (.ref 52), some (.int l3), some (.long r1), none, some (.int v2), u7, u8], [.int (jn 0), .int (jn 0), .int v9, .ref 0])) (q2 := (296, [u0, some (.ref 0), some (.ref 52), some (.int l3), some (.long r1), none, some (.int v2), u7, u8], [])) (M := M8) (o := (pcl GG laz d 29 [.ref 0, .int v9, .int (jn 0), .int (jn 0)] M8)) (hf := rfl) rfl rfl).trans ?_
              refine kI_in (fun r10 M10 => ?_)
              refine (evn_adv 1 (q' := (297, [u0, some (.ref 0), some (.ref 52), some (.int l3), some (.long r1), none, some (.int v2), u7, u8], [.int (jz 1), .int r10], M10)) rfl).trans ?_
              refine (e_ic_ne (hf := rfl)).trans ?_
              refine ite_in ?_ ?_
              · refine (evn_adv 4 (q' := (305, [u0, some (.ref 0), some (.ref 52), some (.int l3), some (.long r1), none, some (.int v2), u7, u8], [.int (jn 40), .int (jn 0), .int (jn 0), .ref 0], M10)) rfl).trans ?_
                refine (e_kI (q := (305, [u0, some (.ref 0), some (.ref 52), some (.int l3), some (.long r1), none, some (.int v2), u7, u8], [.int (jn 40), .int (jn 0), .int (jn 0), .ref 0])) (q2 := (308, [u0, some (.ref 0), some (.ref 52), some (.int l3), some (.long r1), none, some (.int v2), u7, u8], [])) (M := M10) (o := (pcl GG laz d 29 [.ref 0, .int (jn 0), .int (jn 0), .int (jn 40)] M10)) (hf := rfl) rfl rfl).trans ?_
                refine kI_in (fun r11 M11 => ?_)
                refine (evn_adv 1 (q' := (310, [u0, some (.ref 0), some (.ref 52), some (.int l3), some (.long r1), none, some (.int v2), u7, u8], [.int (jz 5), .int r11], M11)) rfl).trans ?_
                refine (e_ic_ne (hf := rfl)).trans ?_
                refine ite_in ?_ ?_
                · refine (evn_adv 4 (q' := (318, [u0, some (.ref 0), some (.ref 52), some (.int l3), some (.long r1), none, some (.int v2), u7, u8], [.int (jn 0), .int (jn 0), .int (jn 14), .ref 0], M11)) rfl).trans ?_
                  refine (e_kI (q := (318, [u0, some (.ref 0), some (.ref 52), some (.int l3), some (.long r1), none, some (.int v2), u7, u8], [.int (jn 0), .int (jn 0), .int (jn 14), .ref 0])) (q2 := (321, [u0, some (.ref 0), some (.ref 52), some (.int l3), some (.long r1), none, some (.int v2), u7, u8], [])) (M := M11) (o := (pcl GG laz d 31 [.ref 0, .int (jn 14), .int (jn 0), .int (jn 0)] M11)) (hf := rfl) rfl rfl).trans ?_
                  refine kI_in (fun r12 M12 => ?_)
                  refine (evn_adv 1 (q' := (322, [u0, some (.ref 0), some (.ref 52), some (.int l3), some (.long r1), none, some (.int v2), u7, u8], [.int (jz 1), .int r12], M12)) rfl).trans ?_
                  refine (e_ic_ne (hf := rfl)).trans ?_
                  refine ite_in ?_ ?_
                  · refine (evn_adv 4 (q' := (329, [u0, some (.ref 0), some (.ref 52), some (.int l3), some (.long r1), none, some (.int v2), u7, u8], [.int (jn 0), .ref 52, .int (jn 5), .ref 0], M12)) rfl).trans ?_
                    refine (e_oB (q := (329, [u0, some (.ref 0), some (.ref 52), some (.int l3), some (.long r1), none, some (.int v2), u7, u8], [.int (jn 0), .ref 52, .int (jn 5), .ref 0], M12)) (o := (aldI laz none M12 52 (jn 0))) (f := fun v13 => (330, [u0, some (.ref 0), some (.ref 52), some (.int l3), some (.long r1), none, some (.int v2), u7, u8], [.int v13, .int (jn 5), .ref 0], M12)) (hf := rfl) rfl).trans ?_
                    refine oB_in (fun v13 => ?_)
                    refine (evn_adv 1 (q' := (331, [u0, some (.ref 0), some (.ref 52), some (.int l3), some (.long r1), none, some (.int v2), u7, u8], [.int (jn 0), .int v13, .int (jn 5), .ref 0], M12)) rfl).trans ?_
                    refine (e_kI (q := (331, [u0, some (.ref 0), some (.ref 52), some (.int l3), some (.long r1), none, some (.int v2), u7, u8], [.int (jn 0), .int v13, .int (jn 5), .ref 0])) (q2 := (334, [u0, some (.ref 0), some (.ref 52), some (.int l3), some (.long r1), none, some (.int v2), u7, u8], [])) (M := M12) (o := (pcl GG laz d 31 [.ref 0, .int (jn 5), .int v13, .int (jn 0)] M12)) (hf := rfl) rfl rfl).trans ?_
                    refine kI_in (fun r14 M14 => ?_)
                    refine (evn_adv 1 (q' := (335, [u0, some (.ref 0), some (.ref 52), some (.int l3), some (.long r1), none, some (.int v2), u7, u8], [.int (jz 1), .int r14], M14)) rfl).trans ?_
                    refine (e_ic_ne (hf := rfl)).trans ?_
                    refine ite_in ?_ ?_
                    · refine (evn_adv 3 (q' := (342, [u0, some (.ref 0), some (.ref 52), some (.int l3), some (.long r1), none, some (.int v2), u7, u8], [.int (jn 1), .int (jn 104), .ref 0], M14)) rfl).trans ?_
                      refine (e_kI (q := (342, [u0, some (.ref 0), some (.ref 52), some (.int l3), some (.long r1), none, some (.int v2), u7, u8], [.int (jn 1), .int (jn 104), .ref 0])) (q2 := (345, [u0, some (.ref 0), some (.ref 52), some (.int l3), some (.long r1), none, some (.int v2), u7, u8], [])) (M := M14) (o := (pcl GG laz d 15 [.ref 0, .int (jn 104), .int (jn 1)] M14)) (hf := rfl) rfl rfl).trans ?_
                      refine kI_in (fun r15 M15 => ?_)
                      refine (evn_adv 1 (q' := (346, [u0, some (.ref 0), some (.ref 52), some (.int l3), some (.long r1), none, some (.int v2), u7, u8], [.int (jz 1), .int r15], M15)) rfl).trans ?_
                      refine (e_ic_ne (hf := rfl)).trans ?_
                      refine ite_in ?_ ?_
                      · refine (evn_adv 3 (q' := (353, [u0, some (.ref 0), some (.ref 52), some (.int l3), some (.long r1), none, some (.int v2), u7, u8], [.int (jn 0), .int v2, .ref 0], M15)) rfl).trans ?_
                        refine (e_kI (q := (353, [u0, some (.ref 0), some (.ref 52), some (.int l3), some (.long r1), none, some (.int v2), u7, u8], [.int (jn 0), .int v2, .ref 0])) (q2 := (356, [u0, some (.ref 0), some (.ref 52), some (.int l3), some (.long r1), none, some (.int v2), u7, u8], [])) (M := M15) (o := (pcl GG laz d 20 [.ref 0, .int v2, .int (jn 0)] M15)) (hf := rfl) rfl rfl).trans ?_
                        refine kI_in (fun r16 M16 => ?_)
                        refine (evn_adv 1 (q' := (357, [u0, some (.ref 0), some (.ref 52), some (.int l3), some (.long r1), none, some (.int v2), u7, u8], [.int (jz 1), .int r16], M16)) rfl).trans ?_
                        refine (e_ic_ne (hf := rfl)).trans ?_
                        refine ite_in ?_ ?_
                        · refine (evn_adv 2 (q' := (362, [u0, some (.ref 0), some (.ref 52), some (.int l3), some (.long r1), none, some (.int v2), u7, u8], [.int (jn 0), .ref 0], M16)) rfl).trans ?_
                          refine (e_kI (q := (362, [u0, some (.ref 0), some (.ref 52), some (.int l3), some (.long r1), none, some (.int v2), u7, u8], [.int (jn 0), .ref 0])) (q2 := (365, [u0, some (.ref 0), some (.ref 52), some (.int l3), some (.long r1), none, some (.int v2), u7, u8], [])) (M := M16) (o := (pcl GG laz d 49 [.ref 0, .int (jn 0)] M16)) (hf := rfl) rfl rfl).trans ?_
                          refine kI_in (fun r17 M17 => ?_)
                          refine (evn_adv 1 (q' := (367, [u0, some (.ref 0), some (.ref 52), some (.int l3), some (.long r1), none, some (.int v2), u7, u8], [.int (jz 6), .int r17], M17)) rfl).trans ?_
                          refine (e_ic_ne (hf := rfl)).trans ?_
                          refine ite_in ?_ ?_
                          · refine (evn_adv 4 (q' := (374, [u0, some (.ref 0), some (.ref 52), some (.int l3), some (.long r1), none, some (.int v2), u7, u8], [.int (jn 0), .int (jn 4), .int (jn 0), .ref 0], M17)) rfl).trans ?_
                            refine (e_kI (q := (374, [u0, some (.ref 0), some (.ref 52), some (.int l3), some (.long r1), none, some (.int v2), u7, u8], [.int (jn 0), .int (jn 4), .int (jn 0), .ref 0])) (q2 := (377, [u0, some (.ref 0), some (.ref 52), some (.int l3), some (.long r1), none, some (.int v2), u7, u8], [])) (M := M17) (o := (pcl GG laz d 3 [.ref 0, .int (jn 0), .int (jn 4), .int (jn 0)] M17)) (hf := rfl) rfl rfl).trans ?_
                            refine kI_in (fun r18 M18 => ?_)
                            refine (evn_adv 1 (q' := (379, [u0, some (.ref 0), some (.ref 52), some (.int l3), some (.long r1), none, some (.int v2), u7, u8], [.int (jz 6), .int r18], M18)) rfl).trans ?_
                            refine (e_ic_ne (hf := rfl)).trans ?_
                            refine ite_in ?_ ?_
                            · refine (evn_adv 2 (q' := (384, [u0, some (.ref 0), some (.ref 52), some (.int l3), some (.long r1), none, some (.int v2), u7, u8], [.ref 52, .ref 0], M18)) rfl).trans ?_
                              refine (e_kL (q := (384, [u0, some (.ref 0), some (.ref 52), some (.int l3), some (.long r1), none, some (.int v2), u7, u8], [.ref 52, .ref 0])) (q2 := (387, [u0, some (.ref 0), some (.ref 52), some (.int l3), some (.long r1), none, some (.int v2), u7, u8], [])) (M := M18) (o := (pcl GG laz d 73 [.ref 0, .ref 52] M18)) (hf := rfl) rfl rfl).trans ?_
                              refine kL_in (fun r19 M19 => ?_)
                              refine (evn_adv 2 (q' := (390, [u0, some (.ref 0), some (.ref 52), some (.int l3), some (.long r1), none, some (.int v2), u7, u8], [.int (lg_cmp r19 r1)], M19)) rfl).trans ?_
                              refine (e_if_eq (hf := rfl)).trans ?_
                              refine ite_in ?_ ?_
                              · refine (evn_adv 2 (q' := (398, [u0, some (.ref 0), some (.ref 52), some (.int l3), some (.long r1), none, some (.int v2), some (.int (jn 0)), u8], [], M19)) rfl).trans ?_
                                rfl
                              · refine (evn_adv 1 (q' := (394, [u0, some (.ref 0), some (.ref 52), some (.int l3), some (.long r1), none, some (.int v2), u7, u8], [.int (jn 0)], M19)) rfl).trans ?_
                                exact e_iretz (hf := rfl)
                            · refine (evn_adv 1 (q' := (394, [u0, some (.ref 0), some (.ref 52), some (.int l3), some (.long r1), none, some (.int v2), u7, u8], [.int (jn 0)], M18)) rfl).trans ?_
                              exact e_iretz (hf := rfl)
                          · refine (evn_adv 1 (q' := (394, [u0, some (.ref 0), some (.ref 52), some (.int l3), some (.long r1), none, some (.int v2), u7, u8], [.int (jn 0)], M17)) rfl).trans ?_
                            exact e_iretz (hf := rfl)
                        · refine (evn_adv 1 (q' := (394, [u0, some (.ref 0), some (.ref 52), some (.int l3), some (.long r1), none, some (.int v2), u7, u8], [.int (jn 0)], M16)) rfl).trans ?_
                          exact e_iretz (hf := rfl)
                      · refine (evn_adv 1 (q' := (394, [u0, some (.ref 0), some (.ref 52), some (.int l3), some (.long r1), none, some (.int v2), u7, u8], [.int (jn 0)], M15)) rfl).trans ?_
                        exact e_iretz (hf := rfl)
                    · refine (evn_adv 1 (q' := (394, [u0, some (.ref 0), some (.ref 52), some (.int l3), some (.long r1), none, some (.int v2), u7, u8], [.int (jn 0)], M14)) rfl).trans ?_
                      exact e_iretz (hf := rfl)
                  · refine (evn_adv 1 (q' := (394, [u0, some (.ref 0), some (.ref 52), some (.int l3), some (.long r1), none, some (.int v2), u7, u8], [.int (jn 0)], M12)) rfl).trans ?_
                    exact e_iretz (hf := rfl)
                · refine (evn_adv 1 (q' := (394, [u0, some (.ref 0), some (.ref 52), some (.int l3), some (.long r1), none, some (.int v2), u7, u8], [.int (jn 0)], M11)) rfl).trans ?_
                  exact e_iretz (hf := rfl)
              · refine (evn_adv 1 (q' := (394, [u0, some (.ref 0), some (.ref 52), some (.int l3), some (.long r1), none, some (.int v2), u7, u8], [.int (jn 0)], M10)) rfl).trans ?_
                exact e_iretz (hf := rfl)
            · refine (evn_adv 1 (q' := (394, [u0, some (.ref 0), some (.ref 52), some (.int l3), some (.long r1), none, some (.int v2), u7, u8], [.int (jn 0)], M8)) rfl).trans ?_
              exact e_iretz (hf := rfl)
          · refine (evn_adv 1 (q' := (394, [u0, some (.ref 0), some (.ref 52), some (.int l3), some (.long r1), none, some (.int v2), u7, u8], [.int (jn 0)], M7)) rfl).trans ?_
            exact e_iretz (hf := rfl)
        · refine (evn_adv 1 (q' := (263, [u0, some (.ref 0), some (.ref 52), some (.int l3), some (.long r1), none, some (.int v2), u7, u8], [.int (jn 0)], M5)) rfl).trans ?_
          exact e_iretz (hf := rfl)
      · refine (evn_adv 1 (q' := (263, [u0, some (.ref 0), some (.ref 52), some (.int l3), some (.long r1), none, some (.int v2), u7, u8], [.int (jn 0)], M4)) rfl).trans ?_
        exact e_iretz (hf := rfl)
    · refine (evn_adv 1 (q' := (263, [u0, some (.ref 0), some (.ref 52), some (.int l3), some (.long r1), none, some (.int v2), u7, u8], [.int (jn 0)], M3)) rfl).trans ?_
      exact e_iretz (hf := rfl)
set_option maxRecDepth 100000 in
theorem h_276_398 (d : Nat) (u0 : Option Value) (l3 : Int32) (l4 : Int64) (l6 : Int32) (l7 : Int32) (u8 : Option Value) (M : PM) : E_276 d (398, [u0, some (.ref 0), some (.ref 52), some (.int l3), some (.long l4), none, some (.int l6), some (.int l7), u8], [], M) = (if l7 < l6 then (if (jn 3) = jn 0 then none else E_276 d (411, [u0, some (.ref 0), some (.ref 52), some (.int l3), some (.long l4), none, some (.int l6), some (.int l7), some (.int (l7 - l7 / (jn 3) * (jn 3)))], [], M)) else (kL (pcl GG laz d 73 [.ref 0, .ref 52] M) fun r1 M1 => (if (lg_cmp r1 l4) = jn 0 then E_276 d (484, [u0, some (.ref 0), some (.ref 52), some (.int l3), some (.long l4), none, some (.int l6), some (.int (jn 0)), u8], [], M1) else (rZ (jn 0) M1)))) := by
  refine (evn_adv 2 (q' := (402, [u0, some (.ref 0), some (.ref 52), some (.int l3), some (.long l4), none, some (.int l6), some (.int l7), u8], [.int l6, .int l7], M)) rfl).trans ?_
  refine (e_ic_ge (hf := rfl)).trans ?_
  refine ite_in ?_ ?_
  · refine (evn_adv 2 (q' := (408, [u0, some (.ref 0), some (.ref 52), some (.int l3), some (.long l4), none, some (.int l6), some (.int l7), u8], [.int (jn 3), .int l7], M)) rfl).trans ?_
    refine (e_irem (hf := rfl)).trans ?_
    refine ite_in rfl ?_
    refine (evn_adv 1 (q' := (411, [u0, some (.ref 0), some (.ref 52), some (.int l3), some (.long l4), none, some (.int l6), some (.int l7), some (.int (l7 - l7 / (jn 3) * (jn 3)))], [], M)) rfl).trans ?_
    rfl
  · refine (evn_adv 2 (q' := (470, [u0, some (.ref 0), some (.ref 52), some (.int l3), some (.long l4), none, some (.int l6), some (.int l7), u8], [.ref 52, .ref 0], M)) rfl).trans ?_
    refine (e_kL (q := (470, [u0, some (.ref 0), some (.ref 52), some (.int l3), some (.long l4), none, some (.int l6), some (.int l7), u8], [.ref 52, .ref 0])) (q2 := (473, [u0, some (.ref 0), some (.ref 52), some (.int l3), some (.long l4), none, some (.int l6), some (.int l7), u8], [])) (M := M) (o := (pcl GG laz d 73 [.ref 0, .ref 52] M)) (hf := rfl) rfl rfl).trans ?_
    refine kL_in (fun r1 M1 => ?_)
    refine (evn_adv 2 (q' := (476, [u0, some (.ref 0), some (.ref 52), some (.int l3), some (.long l4), none, some (.int l6), some (.int l7), u8], [.int (lg_cmp r1 l4)], M1)) rfl).trans ?_
    refine (e_if_eq (hf := rfl)).trans ?_
    refine ite_in ?_ ?_
    · refine (evn_adv 2 (q' := (484, [u0, some (.ref 0), some (.ref 52), some (.int l3), some (.long l4), none, some (.int l6), some (.int (jn 0)), u8], [], M1)) rfl).trans ?_
      rfl
    · refine (evn_adv 1 (q' := (480, [u0, some (.ref 0), some (.ref 52), some (.int l3), some (.long l4), none, some (.int l6), some (.int l7), u8], [.int (jn 0)], M1)) rfl).trans ?_
      exact e_iretz (hf := rfl)
set_option maxRecDepth 100000 in
theorem h_276_411 (d : Nat) (u0 : Option Value) (l3 : Int32) (l4 : Int64) (l6 : Int32) (l7 : Int32) (l8 : Int32) (M : PM) : E_276 d (411, [u0, some (.ref 0), some (.ref 52), some (.int l3), some (.long l4), none, some (.int l6), some (.int l7), some (.int l8)], [], M) = (oB (aldI laz none M 52 (jn 0)) fun v1 => (if l8 < v1 then (kI (pcl GG laz d 74 [.ref 0, .int l8, .int l7, .int l6] M) fun r2 M2 => (if r2 = jn 0 then (rZ (jn 0) M2) else E_276 d (411, [u0, some (.ref 0), some (.ref 52), some (.int l3), some (.long l4), none, some (.int l6), some (.int l7), some (.int (l8 + (jn 3)))], [], M2))) else (kI (pcl GG laz d 75 [.ref 0, .int l3, .int l7] M) fun r2 M2 => (if r2 = jn 0 then (rZ (jn 0) M2) else (kI (pcl GG laz d 76 [.ref 0, .ref 52, .int l7] M2) fun r3 M3 => (if r3 = jn 0 then (rZ (jn 0) M3) else E_276 d (398, [u0, some (.ref 0), some (.ref 52), some (.int l3), some (.long l4), none, some (.int l6), some (.int (l7 + (jn 1))), some (.int l8)], [], M3))))))) := by
  refine (evn_adv 3 (q' := (415, [u0, some (.ref 0), some (.ref 52), some (.int l3), some (.long l4), none, some (.int l6), some (.int l7), some (.int l8)], [.int (jn 0), .ref 52, .int l8], M)) rfl).trans ?_
  refine (e_oB (q := (415, [u0, some (.ref 0), some (.ref 52), some (.int l3), some (.long l4), none, some (.int l6), some (.int l7), some (.int l8)], [.int (jn 0), .ref 52, .int l8], M)) (o := (aldI laz none M 52 (jn 0))) (f := fun v1 => (416, [u0, some (.ref 0), some (.ref 52), some (.int l3), some (.long l4), none, some (.int l6), some (.int l7), some (.int l8)], [.int v1, .int l8], M)) (hf := rfl) rfl).trans ?_
  refine oB_in (fun v1 => ?_)
  refine (e_ic_ge (hf := rfl)).trans ?_
  refine ite_in ?_ ?_
  · refine (evn_adv 4 (q' := (426, [u0, some (.ref 0), some (.ref 52), some (.int l3), some (.long l4), none, some (.int l6), some (.int l7), some (.int l8)], [.int l6, .int l7, .int l8, .ref 0], M)) rfl).trans ?_
    refine (e_kI (q := (426, [u0, some (.ref 0), some (.ref 52), some (.int l3), some (.long l4), none, some (.int l6), some (.int l7), some (.int l8)], [.int l6, .int l7, .int l8, .ref 0])) (q2 := (429, [u0, some (.ref 0), some (.ref 52), some (.int l3), some (.long l4), none, some (.int l6), some (.int l7), some (.int l8)], [])) (M := M) (o := (pcl GG laz d 74 [.ref 0, .int l8, .int l7, .int l6] M)) (hf := rfl) rfl rfl).trans ?_
    refine kI_in (fun r2 M2 => ?_)
    refine (e_if_ne (hf := rfl)).trans ?_
    refine ite_in ?_ ?_
    · refine (evn_adv 1 (q' := (433, [u0, some (.ref 0), some (.ref 52), some (.int l3), some (.long l4), none, some (.int l6), some (.int l7), some (.int l8)], [.int (jn 0)], M2)) rfl).trans ?_
      exact e_iretz (hf := rfl)
    · refine (evn_adv 2 (q' := (411, [u0, some (.ref 0), some (.ref 52), some (.int l3), some (.long l4), none, some (.int l6), some (.int l7), some (.int (l8 + (jn 3)))], [], M2)) rfl).trans ?_
      rfl
  · refine (evn_adv 3 (q' := (444, [u0, some (.ref 0), some (.ref 52), some (.int l3), some (.long l4), none, some (.int l6), some (.int l7), some (.int l8)], [.int l7, .int l3, .ref 0], M)) rfl).trans ?_
    refine (e_kI (q := (444, [u0, some (.ref 0), some (.ref 52), some (.int l3), some (.long l4), none, some (.int l6), some (.int l7), some (.int l8)], [.int l7, .int l3, .ref 0])) (q2 := (447, [u0, some (.ref 0), some (.ref 52), some (.int l3), some (.long l4), none, some (.int l6), some (.int l7), some (.int l8)], [])) (M := M) (o := (pcl GG laz d 75 [.ref 0, .int l3, .int l7] M)) (hf := rfl) rfl rfl).trans ?_
    refine kI_in (fun r2 M2 => ?_)
    refine (e_if_eq (hf := rfl)).trans ?_
    refine ite_in ?_ ?_
    · refine (evn_adv 1 (q' := (461, [u0, some (.ref 0), some (.ref 52), some (.int l3), some (.long l4), none, some (.int l6), some (.int l7), some (.int l8)], [.int (jn 0)], M2)) rfl).trans ?_
      exact e_iretz (hf := rfl)
    · refine (evn_adv 3 (q' := (454, [u0, some (.ref 0), some (.ref 52), some (.int l3), some (.long l4), none, some (.int l6), some (.int l7), some (.int l8)], [.int l7, .ref 52, .ref 0], M2)) rfl).trans ?_
      refine (e_kI (q := (454, [u0, some (.ref 0), some (.ref 52), some (.int l3), some (.long l4), none, some (.int l6), some (.int l7), some (.int l8)], [.int l7, .ref 52, .ref 0])) (q2 := (457, [u0, some (.ref 0), some (.ref 52), some (.int l3), some (.long l4), none, some (.int l6), some (.int l7), some (.int l8)], [])) (M := M2) (o := (pcl GG laz d 76 [.ref 0, .ref 52, .int l7] M2)) (hf := rfl) rfl rfl).trans ?_
      refine kI_in (fun r3 M3 => ?_)
      refine (e_if_ne (hf := rfl)).trans ?_
      refine ite_in ?_ ?_
      · refine (evn_adv 1 (q' := (461, [u0, some (.ref 0), some (.ref 52), some (.int l3), some (.long l4), none, some (.int l6), some (.int l7), some (.int l8)], [.int (jn 0)], M3)) rfl).trans ?_
        exact e_iretz (hf := rfl)
      · refine (evn_adv 2 (q' := (398, [u0, some (.ref 0), some (.ref 52), some (.int l3), some (.long l4), none, some (.int l6), some (.int (l7 + (jn 1))), some (.int l8)], [], M3)) rfl).trans ?_
        rfl
set_option maxRecDepth 100000 in
theorem h_276_484 (d : Nat) (u0 : Option Value) (u3 : Option Value) (l4 : Int64) (l6 : Int32) (l7 : Int32) (u8 : Option Value) (M : PM) : E_276 d (484, [u0, some (.ref 0), some (.ref 52), u3, some (.long l4), none, some (.int l6), some (.int l7), u8], [], M) = (oB (aldI laz none M 52 (jn 4)) fun v1 => (if l7 < v1 then E_276 d (495, [u0, some (.ref 0), some (.ref 52), u3, some (.long l4), none, some (.int l6), some (.int l7), some (.int (jn 0))], [], M) else E_276 d (533, [u0, some (.ref 0), some (.ref 52), u3, some (.long l4), none, some (.int l6), some (.int (jn 0)), u8], [], M))) := by
  refine (evn_adv 3 (q' := (488, [u0, some (.ref 0), some (.ref 52), u3, some (.long l4), none, some (.int l6), some (.int l7), u8], [.int (jn 4), .ref 52, .int l7], M)) rfl).trans ?_
  refine (e_oB (q := (488, [u0, some (.ref 0), some (.ref 52), u3, some (.long l4), none, some (.int l6), some (.int l7), u8], [.int (jn 4), .ref 52, .int l7], M)) (o := (aldI laz none M 52 (jn 4))) (f := fun v1 => (489, [u0, some (.ref 0), some (.ref 52), u3, some (.long l4), none, some (.int l6), some (.int l7), u8], [.int v1, .int l7], M)) (hf := rfl) rfl).trans ?_
  refine oB_in (fun v1 => ?_)
  refine (e_ic_ge (hf := rfl)).trans ?_
  refine ite_in ?_ ?_
  · refine (evn_adv 2 (q' := (495, [u0, some (.ref 0), some (.ref 52), u3, some (.long l4), none, some (.int l6), some (.int l7), some (.int (jn 0))], [], M)) rfl).trans ?_
    rfl
  · refine (evn_adv 2 (q' := (533, [u0, some (.ref 0), some (.ref 52), u3, some (.long l4), none, some (.int l6), some (.int (jn 0)), u8], [], M)) rfl).trans ?_
    rfl
set_option maxRecDepth 100000 in
theorem h_276_495 (d : Nat) (u0 : Option Value) (u3 : Option Value) (l4 : Int64) (l6 : Int32) (l7 : Int32) (l8 : Int32) (M : PM) : E_276 d (495, [u0, some (.ref 0), some (.ref 52), u3, some (.long l4), none, some (.int l6), some (.int l7), some (.int l8)], [], M) = (oB (aldI laz none M 52 (jn 4)) fun v1 => (if l8 < v1 then (kI (pcl GG laz d 77 [.ref 0, .int l7, .int l8, .int l6] M) fun r2 M2 => (if r2 = jn 0 then (rZ (jn 0) M2) else E_276 d (495, [u0, some (.ref 0), some (.ref 52), u3, some (.long l4), none, some (.int l6), some (.int l7), some (.int (l8 + (jn 1)))], [], M2))) else E_276 d (484, [u0, some (.ref 0), some (.ref 52), u3, some (.long l4), none, some (.int l6), some (.int (l7 + (jn 1))), some (.int l8)], [], M))) := by
  refine (evn_adv 3 (q' := (499, [u0, some (.ref 0), some (.ref 52), u3, some (.long l4), none, some (.int l6), some (.int l7), some (.int l8)], [.int (jn 4), .ref 52, .int l8], M)) rfl).trans ?_
  refine (e_oB (q := (499, [u0, some (.ref 0), some (.ref 52), u3, some (.long l4), none, some (.int l6), some (.int l7), some (.int l8)], [.int (jn 4), .ref 52, .int l8], M)) (o := (aldI laz none M 52 (jn 4))) (f := fun v1 => (500, [u0, some (.ref 0), some (.ref 52), u3, some (.long l4), none, some (.int l6), some (.int l7), some (.int l8)], [.int v1, .int l8], M)) (hf := rfl) rfl).trans ?_
  refine oB_in (fun v1 => ?_)
  refine (e_ic_ge (hf := rfl)).trans ?_
  refine ite_in ?_ ?_
  · refine (evn_adv 4 (q' := (510, [u0, some (.ref 0), some (.ref 52), u3, some (.long l4), none, some (.int l6), some (.int l7), some (.int l8)], [.int l6, .int l8, .int l7, .ref 0], M)) rfl).trans ?_
    refine (e_kI (q := (510, [u0, some (.ref 0), some (.ref 52), u3, some (.long l4), none, some (.int l6), some (.int l7), some (.int l8)], [.int l6, .int l8, .int l7, .ref 0])) (q2 := (513, [u0, some (.ref 0), some (.ref 52), u3, some (.long l4), none, some (.int l6), some (.int l7), some (.int l8)], [])) (M := M) (o := (pcl GG laz d 77 [.ref 0, .int l7, .int l8, .int l6] M)) (hf := rfl) rfl rfl).trans ?_
    refine kI_in (fun r2 M2 => ?_)
    refine (e_if_ne (hf := rfl)).trans ?_
    refine ite_in ?_ ?_
    · refine (evn_adv 1 (q' := (517, [u0, some (.ref 0), some (.ref 52), u3, some (.long l4), none, some (.int l6), some (.int l7), some (.int l8)], [.int (jn 0)], M2)) rfl).trans ?_
      exact e_iretz (hf := rfl)
    · refine (evn_adv 2 (q' := (495, [u0, some (.ref 0), some (.ref 52), u3, some (.long l4), none, some (.int l6), some (.int l7), some (.int (l8 + (jn 1)))], [], M2)) rfl).trans ?_
      rfl
  · refine (evn_adv 2 (q' := (484, [u0, some (.ref 0), some (.ref 52), u3, some (.long l4), none, some (.int l6), some (.int (l7 + (jn 1))), some (.int l8)], [], M)) rfl).trans ?_
    rfl
set_option maxRecDepth 100000 in
theorem h_276_533 (d : Nat) (u0 : Option Value) (u3 : Option Value) (l4 : Int64) (l6 : Int32) (l7 : Int32) (u8 : Option Value) (M : PM) : E_276 d (533, [u0, some (.ref 0), some (.ref 52), u3, some (.long l4), none, some (.int l6), some (.int l7), u8], [], M) = (if l7 < l6 then E_276 d (543, [u0, some (.ref 0), some (.ref 52), u3, some (.long l4), none, some (.int l6), some (.int l7), some (.int (jn 0))], [], M) else (kL (pcl GG laz d 73 [.ref 0, .ref 52] M) fun r1 M1 => (if (lg_cmp r1 l4) = jn 0 then (kI (pcl GG laz d 49 [.ref 0, .int (jn 20)] M1) fun r2 M2 => (if r2 < jn 0 then (rZ (jn 0) M2) else (kI (pcl GG laz d 15 [.ref 0, .int (jn 105), .int (jn 1)] M2) fun r3 M3 => (if r3 < jn 0 then (rZ (jn 0) M3) else (kI (pcl GG laz d 53 [.ref 0] M3) fun r4 M4 => (if r4 = l6 then (kL (pcl GG laz d 73 [.ref 0, .ref 52] M4) fun r5 M5 => (if (lg_cmp r5 l4) = jn 0 then (rZ (jn 1) M5) else (rZ (jn 0) M5))) else (rZ (jn 0) M4))))))) else (rZ (jn 0) M1)))) := by
  refine (evn_adv 2 (q' := (537, [u0, some (.ref 0), some (.ref 52), u3, some (.long l4), none, some (.int l6), some (.int l7), u8], [.int l6, .int l7], M)) rfl).trans ?_
  refine (e_ic_ge (hf := rfl)).trans ?_
  refine ite_in ?_ ?_
  · refine (evn_adv 2 (q' := (543, [u0, some (.ref 0), some (.ref 52), u3, some (.long l4), none, some (.int l6), some (.int l7), some (.int (jn 0))], [], M)) rfl).trans ?_
    rfl
  · refine (evn_adv 2 (q' := (579, [u0, some (.ref 0), some (.ref 52), u3, some (.long l4), none, some (.int l6), some (.int l7), u8], [.ref 52, .ref 0], M)) rfl).trans ?_
    refine (e_kL (q := (579, [u0, some (.ref 0), some (.ref 52), u3, some (.long l4), none, some (.int l6), some (.int l7), u8], [.ref 52, .ref 0])) (q2 := (582, [u0, some (.ref 0), some (.ref 52), u3, some (.long l4), none, some (.int l6), some (.int l7), u8], [])) (M := M) (o := (pcl GG laz d 73 [.ref 0, .ref 52] M)) (hf := rfl) rfl rfl).trans ?_
    refine kL_in (fun r1 M1 => ?_)
    refine (evn_adv 2 (q' := (585, [u0, some (.ref 0), some (.ref 52), u3, some (.long l4), none, some (.int l6), some (.int l7), u8], [.int (lg_cmp r1 l4)], M1)) rfl).trans ?_
    refine (e_if_eq (hf := rfl)).trans ?_
    refine ite_in ?_ ?_
    · refine (evn_adv 2 (q' := (593, [u0, some (.ref 0), some (.ref 52), u3, some (.long l4), none, some (.int l6), some (.int l7), u8], [.int (jn 20), .ref 0], M1)) rfl).trans ?_
      refine (e_kI (q := (593, [u0, some (.ref 0), some (.ref 52), u3, some (.long l4), none, some (.int l6), some (.int l7), u8], [.int (jn 20), .ref 0])) (q2 := (596, [u0, some (.ref 0), some (.ref 52), u3, some (.long l4), none, some (.int l6), some (.int l7), u8], [])) (M := M1) (o := (pcl GG laz d 49 [.ref 0, .int (jn 20)] M1)) (hf := rfl) rfl rfl).trans ?_
      refine kI_in (fun r2 M2 => ?_)
      refine (e_if_lt (hf := rfl)).trans ?_
      refine ite_in ?_ ?_
      · refine (evn_adv 1 (q' := (634, [u0, some (.ref 0), some (.ref 52), u3, some (.long l4), none, some (.int l6), some (.int l7), u8], [.int (jn 0)], M2)) rfl).trans ?_
        exact e_iretz (hf := rfl)
      · refine (evn_adv 3 (q' := (603, [u0, some (.ref 0), some (.ref 52), u3, some (.long l4), none, some (.int l6), some (.int l7), u8], [.int (jn 1), .int (jn 105), .ref 0], M2)) rfl).trans ?_
        refine (e_kI (q := (603, [u0, some (.ref 0), some (.ref 52), u3, some (.long l4), none, some (.int l6), some (.int l7), u8], [.int (jn 1), .int (jn 105), .ref 0])) (q2 := (606, [u0, some (.ref 0), some (.ref 52), u3, some (.long l4), none, some (.int l6), some (.int l7), u8], [])) (M := M2) (o := (pcl GG laz d 15 [.ref 0, .int (jn 105), .int (jn 1)] M2)) (hf := rfl) rfl rfl).trans ?_
        refine kI_in (fun r3 M3 => ?_)
        refine (e_if_lt (hf := rfl)).trans ?_
        refine ite_in ?_ ?_
        · refine (evn_adv 1 (q' := (634, [u0, some (.ref 0), some (.ref 52), u3, some (.long l4), none, some (.int l6), some (.int l7), u8], [.int (jn 0)], M3)) rfl).trans ?_
          exact e_iretz (hf := rfl)
        · refine (evn_adv 1 (q' := (610, [u0, some (.ref 0), some (.ref 52), u3, some (.long l4), none, some (.int l6), some (.int l7), u8], [.ref 0], M3)) rfl).trans ?_
          refine (e_kI (q := (610, [u0, some (.ref 0), some (.ref 52), u3, some (.long l4), none, some (.int l6), some (.int l7), u8], [.ref 0])) (q2 := (613, [u0, some (.ref 0), some (.ref 52), u3, some (.long l4), none, some (.int l6), some (.int l7), u8], [])) (M := M3) (o := (pcl GG laz d 53 [.ref 0] M3)) (hf := rfl) rfl rfl).trans ?_
          refine kI_in (fun r4 M4 => ?_)
          refine (evn_adv 1 (q' := (615, [u0, some (.ref 0), some (.ref 52), u3, some (.long l4), none, some (.int l6), some (.int l7), u8], [.int l6, .int r4], M4)) rfl).trans ?_
          refine (e_ic_ne (hf := rfl)).trans ?_
          refine ite_in ?_ ?_
          · refine (evn_adv 2 (q' := (620, [u0, some (.ref 0), some (.ref 52), u3, some (.long l4), none, some (.int l6), some (.int l7), u8], [.ref 52, .ref 0], M4)) rfl).trans ?_
            refine (e_kL (q := (620, [u0, some (.ref 0), some (.ref 52), u3, some (.long l4), none, some (.int l6), some (.int l7), u8], [.ref 52, .ref 0])) (q2 := (623, [u0, some (.ref 0), some (.ref 52), u3, some (.long l4), none, some (.int l6), some (.int l7), u8], [])) (M := M4) (o := (pcl GG laz d 73 [.ref 0, .ref 52] M4)) (hf := rfl) rfl rfl).trans ?_
            refine kL_in (fun r5 M5 => ?_)
            refine (evn_adv 2 (q' := (626, [u0, some (.ref 0), some (.ref 52), u3, some (.long l4), none, some (.int l6), some (.int l7), u8], [.int (lg_cmp r5 l4)], M5)) rfl).trans ?_
            refine (e_if_ne (hf := rfl)).trans ?_
            refine ite_in ?_ ?_
            · refine (evn_adv 2 (q' := (634, [u0, some (.ref 0), some (.ref 52), u3, some (.long l4), none, some (.int l6), some (.int l7), u8], [.int (jn 1)], M5)) rfl).trans ?_
              exact e_iretz (hf := rfl)
            · refine (evn_adv 1 (q' := (634, [u0, some (.ref 0), some (.ref 52), u3, some (.long l4), none, some (.int l6), some (.int l7), u8], [.int (jn 0)], M5)) rfl).trans ?_
              exact e_iretz (hf := rfl)
          · refine (evn_adv 1 (q' := (634, [u0, some (.ref 0), some (.ref 52), u3, some (.long l4), none, some (.int l6), some (.int l7), u8], [.int (jn 0)], M4)) rfl).trans ?_
            exact e_iretz (hf := rfl)
    · refine (evn_adv 1 (q' := (589, [u0, some (.ref 0), some (.ref 52), u3, some (.long l4), none, some (.int l6), some (.int l7), u8], [.int (jn 0)], M1)) rfl).trans ?_
      exact e_iretz (hf := rfl)
set_option maxRecDepth 100000 in
theorem h_276_543 (d : Nat) (u0 : Option Value) (u3 : Option Value) (l4 : Int64) (l6 : Int32) (l7 : Int32) (l8 : Int32) (M : PM) : E_276 d (543, [u0, some (.ref 0), some (.ref 52), u3, some (.long l4), none, some (.int l6), some (.int l7), some (.int l8)], [], M) = (if l8 < l6 then (kI (pcl GG laz d 78 [.ref 0, .int l7, .int l8, .int l6] M) fun r1 M1 => (if r1 = jn 0 then (rZ (jn 0) M1) else E_276 d (543, [u0, some (.ref 0), some (.ref 52), u3, some (.long l4), none, some (.int l6), some (.int l7), some (.int (l8 + (jn 1)))], [], M1))) else E_276 d (533, [u0, some (.ref 0), some (.ref 52), u3, some (.long l4), none, some (.int l6), some (.int (l7 + (jn 1))), some (.int l8)], [], M)) := by
  refine (evn_adv 2 (q' := (547, [u0, some (.ref 0), some (.ref 52), u3, some (.long l4), none, some (.int l6), some (.int l7), some (.int l8)], [.int l6, .int l8], M)) rfl).trans ?_
  refine (e_ic_ge (hf := rfl)).trans ?_
  refine ite_in ?_ ?_
  · refine (evn_adv 4 (q' := (557, [u0, some (.ref 0), some (.ref 52), u3, some (.long l4), none, some (.int l6), some (.int l7), some (.int l8)], [.int l6, .int l8, .int l7, .ref 0], M)) rfl).trans ?_
    refine (e_kI (q := (557, [u0, some (.ref 0), some (.ref 52), u3, some (.long l4), none, some (.int l6), some (.int l7), some (.int l8)], [.int l6, .int l8, .int l7, .ref 0])) (q2 := (560, [u0, some (.ref 0), some (.ref 52), u3, some (.long l4), none, some (.int l6), some (.int l7), some (.int l8)], [])) (M := M) (o := (pcl GG laz d 78 [.ref 0, .int l7, .int l8, .int l6] M)) (hf := rfl) rfl rfl).trans ?_
    refine kI_in (fun r1 M1 => ?_)
    refine (e_if_ne (hf := rfl)).trans ?_
    refine ite_in ?_ ?_
    · refine (evn_adv 1 (q' := (564, [u0, some (.ref 0), some (.ref 52), u3, some (.long l4), none, some (.int l6), some (.int l7), some (.int l8)], [.int (jn 0)], M1)) rfl).trans ?_
      exact e_iretz (hf := rfl)
    · refine (evn_adv 2 (q' := (543, [u0, some (.ref 0), some (.ref 52), u3, some (.long l4), none, some (.int l6), some (.int l7), some (.int (l8 + (jn 1)))], [], M1)) rfl).trans ?_
      rfl
  · refine (evn_adv 2 (q' := (533, [u0, some (.ref 0), some (.ref 52), u3, some (.long l4), none, some (.int l6), some (.int (l7 + (jn 1))), some (.int l8)], [], M)) rfl).trans ?_
    rfl
