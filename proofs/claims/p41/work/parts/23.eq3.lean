/-- TermStrategies$Unifier.write(III)V -/
noncomputable abbrev E_269 (d : Nat) : PQ → PO := evn (rnn k_269 lay none (pcl GG lay d) 0)
theorem q_269 (d : Nat) (l1 : Int32) (l2 : Int32) (l3 : Int32) (M : PM) : pcl GG lay (d + 1) 269 [.ref 40, .int l1, .int l2, .int l3] M = E_269 d (3, [some (.ref 40), some (.int l1), some (.int l2), some (.int l3), some (.int l1), none], [], M) := by
  refine (pcl_un (mt := t_269) (by decide) rfl (Nat.le_of_ble_eq_true rfl)).trans ?_
  show E_269 d (0, [some (.ref 40), some (.int l1), some (.int l2), some (.int l3), none, none], [], M) = _
  refine (evn_adv 2 (q' := (3, [some (.ref 40), some (.int l1), some (.int l2), some (.int l3), some (.int l1), none], [], M)) rfl).trans ?_
  rfl
theorem h_269_3 (d : Nat) (u1 : Option Value) (l2 : Int32) (l3 : Int32) (l4 : Int32) (u5 : Option Value) (M : PM) : E_269 d (3, [some (.ref 40), u1, some (.int l2), some (.int l3), some (.int l4), u5], [], M) = (if l4 < l2 then (kI (pcl GG lay d 231 [.ref 6, .int l4] M) fun r1 M1 => (kI (pcl GG lay d 62 [.int r1] M1) fun r2 M2 => (if r2 = jn 0 then (kV (pcl GG lay d 270 [.ref 40, .int r1] M2) fun M3 => E_269 d (3, [some (.ref 40), u1, some (.int l2), some (.int l3), some (.int (l4 + (jn 1))), some (.int r1)], [], M3)) else (kV (pcl GG lay d 271 [.ref 40, .int ((l3 + r1) - (jn 117))] M2) fun M3 => E_269 d (3, [some (.ref 40), u1, some (.int l2), some (.int l3), some (.int (l4 + (jn 1))), some (.int r1)], [], M3))))) else (rV M)) := by
  refine (evn_adv 2 (q' := (6, [some (.ref 40), u1, some (.int l2), some (.int l3), some (.int l4), u5], [.int l2, .int l4], M)) rfl).trans ?_
  refine (e_ic_ge (hf := rfl)).trans ?_
  refine ite_in ?_ ?_
  · refine (evn_adv 3 (q' := (15, [some (.ref 40), u1, some (.int l2), some (.int l3), some (.int l4), u5], [.int l4, .ref 6], M)) rfl).trans ?_
    refine (e_kI (q := (15, [some (.ref 40), u1, some (.int l2), some (.int l3), some (.int l4), u5], [.int l4, .ref 6])) (q2 := (18, [some (.ref 40), u1, some (.int l2), some (.int l3), some (.int l4), u5], [])) (M := M) (o := (pcl GG lay d 231 [.ref 6, .int l4] M)) (hf := rfl) rfl rfl).trans ?_
    refine kI_in (fun r1 M1 => ?_)
    refine (evn_adv 2 (q' := (22, [some (.ref 40), u1, some (.int l2), some (.int l3), some (.int l4), some (.int r1)], [.int r1], M1)) rfl).trans ?_
    refine (e_kI (q := (22, [some (.ref 40), u1, some (.int l2), some (.int l3), some (.int l4), some (.int r1)], [.int r1])) (q2 := (25, [some (.ref 40), u1, some (.int l2), some (.int l3), some (.int l4), some (.int r1)], [])) (M := M1) (o := (pcl GG lay d 62 [.int r1] M1)) (hf := rfl) rfl rfl).trans ?_
    refine kI_in (fun r2 M2 => ?_)
    refine (e_if_eq (hf := rfl)).trans ?_
    refine ite_in ?_ ?_
    · refine (evn_adv 2 (q' := (45, [some (.ref 40), u1, some (.int l2), some (.int l3), some (.int l4), some (.int r1)], [.int r1, .ref 40], M2)) rfl).trans ?_
      refine (e_kV (q := (45, [some (.ref 40), u1, some (.int l2), some (.int l3), some (.int l4), some (.int r1)], [.int r1, .ref 40])) (q2 := (48, [some (.ref 40), u1, some (.int l2), some (.int l3), some (.int l4), some (.int r1)], [])) (M := M2) (o := (pcl GG lay d 270 [.ref 40, .int r1] M2)) (hf := rfl) rfl rfl).trans ?_
      refine kV_in (fun M3 => ?_)
      refine (evn_adv 2 (q' := (3, [some (.ref 40), u1, some (.int l2), some (.int l3), some (.int (l4 + (jn 1))), some (.int r1)], [], M3)) rfl).trans ?_
      rfl
    · refine (evn_adv 6 (q' := (36, [some (.ref 40), u1, some (.int l2), some (.int l3), some (.int l4), some (.int r1)], [.int ((l3 + r1) - (jn 117)), .ref 40], M2)) rfl).trans ?_
      refine (e_kV (q := (36, [some (.ref 40), u1, some (.int l2), some (.int l3), some (.int l4), some (.int r1)], [.int ((l3 + r1) - (jn 117)), .ref 40])) (q2 := (39, [some (.ref 40), u1, some (.int l2), some (.int l3), some (.int l4), some (.int r1)], [])) (M := M2) (o := (pcl GG lay d 271 [.ref 40, .int ((l3 + r1) - (jn 117))] M2)) (hf := rfl) rfl rfl).trans ?_
      refine kV_in (fun M3 => ?_)
      refine (evn_adv 3 (q' := (3, [some (.ref 40), u1, some (.int l2), some (.int l3), some (.int (l4 + (jn 1))), some (.int r1)], [], M3)) rfl).trans ?_
      rfl
  · exact evn_end 1 rfl
/-- TermStrategies$Unifier.writeSign(I)V -/
noncomputable abbrev E_270 (d : Nat) : PQ → PO := evn (rnn k_270 lay none (pcl GG lay d) 0)
theorem q_270 (d : Nat) (l1 : Int32) (M : PM) : pcl GG lay (d + 1) 270 [.ref 40, .int l1] M = (if (M.1 40 11) < (jn 40) then (kV (pcl GG lay d 232 [.ref 6, .int ((M.1 40 10) + (M.1 40 11)), .int l1] M) fun M1 => (wr (sI M1 40 (va_up (M1.1 40) 11 ((M1.1 40 11) + (jn 1)))) fun M2 => (rV M2))) else (wr (sI M 40 (va_up (M.1 40) 12 (jn 1))) fun M1 => (rV M1))) := by
  refine (pcl_un (mt := t_270) (by decide) rfl (Nat.le_of_ble_eq_true rfl)).trans ?_
  show E_270 d (0, [some (.ref 40), some (.int l1)], [], M) = _
  refine (evn_adv 3 (q' := (6, [some (.ref 40), some (.int l1)], [.int (jn 40), .int (M.1 40 11)], M)) rfl).trans ?_
  refine (e_ic_lt (hf := rfl)).trans ?_
  refine ite_in ?_ ?_
  · refine (evn_adv 8 (q' := (29, [some (.ref 40), some (.int l1)], [.int l1, .int ((M.1 40 10) + (M.1 40 11)), .ref 6], M)) rfl).trans ?_
    refine (e_kV (q := (29, [some (.ref 40), some (.int l1)], [.int l1, .int ((M.1 40 10) + (M.1 40 11)), .ref 6])) (q2 := (32, [some (.ref 40), some (.int l1)], [])) (M := M) (o := (pcl GG lay d 232 [.ref 6, .int ((M.1 40 10) + (M.1 40 11)), .int l1] M)) (hf := rfl) rfl rfl).trans ?_
    refine kV_in (fun M1 => ?_)
    refine (evn_adv 5 (q' := (39, [some (.ref 40), some (.int l1)], [.int ((M1.1 40 11) + (jn 1)), .ref 40], M1)) rfl).trans ?_
    refine (evn_adv 1 (q' := (42, [some (.ref 40), some (.int l1)], [], (sI M1 40 (va_up (M1.1 40) 11 ((M1.1 40 11) + (jn 1)))))) rfl).trans ?_
    refine wr_in (f := fun M2 => E_270 d (42, [some (.ref 40), some (.int l1)], [], M2)) (fun M2 => ?_)
    exact evn_end 1 rfl
  · refine (evn_adv 2 (q' := (11, [some (.ref 40), some (.int l1)], [.int (jn 1), .ref 40], M)) rfl).trans ?_
    refine (e_putz (q2 := (14, [some (.ref 40), some (.int l1)], [])) (k := 40) (j := 12) rfl rfl).trans ?_
    refine (if_pos (Or.inr rfl)).trans ?_
    refine wr_in (f := fun M1 => E_270 d (14, [some (.ref 40), some (.int l1)], [], M1)) (fun M1 => ?_)
    exact evn_end 1 rfl
/-- TermStrategies$Unifier.writeClass(I)V -/
noncomputable abbrev E_271 (d : Nat) : PQ → PO := evn (rnn k_271 lay none (pcl GG lay d) 0)
theorem q_271 (d : Nat) (l1 : Int32) (M : PM) : pcl GG lay (d + 1) 271 [.ref 40, .int l1] M = (kV (pcl GG lay d 66 [.ref 47, .int (jn 0), .int l1] M) fun M1 => E_271 d (13, [some (.ref 40), some (.int l1), some (.int (jn 1)), some (.int (jn 0)), none, none, none], [], M1)) := by
  refine (pcl_un (mt := t_271) (by decide) rfl (Nat.le_of_ble_eq_true rfl)).trans ?_
  show E_271 d (0, [some (.ref 40), some (.int l1), none, none, none, none, none], [], M) = _
  refine (evn_adv 4 (q' := (6, [some (.ref 40), some (.int l1), none, none, none, none, none], [.int l1, .int (jn 0), .ref 47], M)) rfl).trans ?_
  refine (e_kV (q := (6, [some (.ref 40), some (.int l1), none, none, none, none, none], [.int l1, .int (jn 0), .ref 47])) (q2 := (9, [some (.ref 40), some (.int l1), none, none, none, none, none], [])) (M := M) (o := (pcl GG lay d 66 [.ref 47, .int (jn 0), .int l1] M)) (hf := rfl) rfl rfl).trans ?_
  refine kV_in (fun M1 => ?_)
  refine (evn_adv 4 (q' := (13, [some (.ref 40), some (.int l1), some (.int (jn 1)), some (.int (jn 0)), none, none, none], [], M1)) rfl).trans ?_
  rfl
theorem h_271_13 (d : Nat) (u1 : Option Value) (l2 : Int32) (l3 : Int32) (u4 : Option Value) (u5 : Option Value) (u6 : Option Value) (M : PM) : E_271 d (13, [some (.ref 40), u1, some (.int l2), some (.int l3), u4, u5, u6], [], M) = (if (jn 40) < l3 then (rV M) else (if jn 0 < l2 then (if (M.1 40 12) = jn 0 then (kI (pcl GG lay d 65 [.ref 47, .int (l2 + (jz 1))] M) fun r1 M1 => (kI (pcl GG lay d 265 [.ref 40, .int r1] M1) fun r2 M2 => (kI (pcl GG lay d 65 [.ref 44, .int r2] M2) fun r3 M3 => (if r3 = (jz 1) then (kI (pcl GG lay d 272 [.ref 40, .int r2] M3) fun r4 M4 => (kV (pcl GG lay d 270 [.ref 40, .int r4] M4) fun M5 => (kI (pcl GG lay d 63 [.int r4] M5) fun r6 M6 => (if r6 = (jn 2) then (kI (pcl GG lay d 65 [.ref 42, .int r3] M6) fun r7 M7 => (kI (pcl GG lay d 264 [.ref 40, .int r7] M7) fun r8 M8 => (kV (pcl GG lay d 66 [.ref 47, .int (l2 + (jz 1)), .int r8] M8) fun M9 => (kI (pcl GG lay d 63 [.int r4] M9) fun r10 M10 => (if r10 < (jn 1) then E_271 d (13, [some (.ref 40), u1, some (.int ((l2 + (jz 1)) + (jn 1))), some (.int (l3 + (jn 1))), some (.int r2), some (.int r3), some (.int r4)], [], M10) else (kI (pcl GG lay d 264 [.ref 40, .int (r3 + (jn 1))] M10) fun r11 M11 => (kV (pcl GG lay d 66 [.ref 47, .int ((l2 + (jz 1)) + (jn 1)), .int r11] M11) fun M12 => E_271 d (13, [some (.ref 40), u1, some (.int (((l2 + (jz 1)) + (jn 1)) + (jn 1))), some (.int (l3 + (jn 1))), some (.int r2), some (.int r3), some (.int r4)], [], M12)))))))) else (kI (pcl GG lay d 63 [.int r4] M6) fun r7 M7 => (if r7 < (jn 1) then E_271 d (13, [some (.ref 40), u1, some (.int (l2 + (jz 1))), some (.int (l3 + (jn 1))), some (.int r2), some (.int r3), some (.int r4)], [], M7) else (kI (pcl GG lay d 264 [.ref 40, .int (r3 + (jn 1))] M7) fun r8 M8 => (kV (pcl GG lay d 66 [.ref 47, .int (l2 + (jz 1)), .int r8] M8) fun M9 => E_271 d (13, [some (.ref 40), u1, some (.int ((l2 + (jz 1)) + (jn 1))), some (.int (l3 + (jn 1))), some (.int r2), some (.int r3), some (.int r4)], [], M9))))))))) else (kI (pcl GG lay d 65 [.ref 41, .int r3] M3) fun r4 M4 => (kV (pcl GG lay d 270 [.ref 40, .int r4] M4) fun M5 => (kI (pcl GG lay d 63 [.int r4] M5) fun r6 M6 => (if r6 = (jn 2) then (kI (pcl GG lay d 65 [.ref 42, .int r3] M6) fun r7 M7 => (kI (pcl GG lay d 264 [.ref 40, .int r7] M7) fun r8 M8 => (kV (pcl GG lay d 66 [.ref 47, .int (l2 + (jz 1)), .int r8] M8) fun M9 => (kI (pcl GG lay d 63 [.int r4] M9) fun r10 M10 => (if r10 < (jn 1) then E_271 d (13, [some (.ref 40), u1, some (.int ((l2 + (jz 1)) + (jn 1))), some (.int (l3 + (jn 1))), some (.int r2), some (.int r3), some (.int r4)], [], M10) else (kI (pcl GG lay d 264 [.ref 40, .int (r3 + (jn 1))] M10) fun r11 M11 => (kV (pcl GG lay d 66 [.ref 47, .int ((l2 + (jz 1)) + (jn 1)), .int r11] M11) fun M12 => E_271 d (13, [some (.ref 40), u1, some (.int (((l2 + (jz 1)) + (jn 1)) + (jn 1))), some (.int (l3 + (jn 1))), some (.int r2), some (.int r3), some (.int r4)], [], M12)))))))) else (kI (pcl GG lay d 63 [.int r4] M6) fun r7 M7 => (if r7 < (jn 1) then E_271 d (13, [some (.ref 40), u1, some (.int (l2 + (jz 1))), some (.int (l3 + (jn 1))), some (.int r2), some (.int r3), some (.int r4)], [], M7) else (kI (pcl GG lay d 264 [.ref 40, .int (r3 + (jn 1))] M7) fun r8 M8 => (kV (pcl GG lay d 66 [.ref 47, .int (l2 + (jz 1)), .int r8] M8) fun M9 => E_271 d (13, [some (.ref 40), u1, some (.int ((l2 + (jz 1)) + (jn 1))), some (.int (l3 + (jn 1))), some (.int r2), some (.int r3), some (.int r4)], [], M9))))))))))))) else (rV M)) else (rV M))) := by
  refine (evn_adv 2 (q' := (16, [some (.ref 40), u1, some (.int l2), some (.int l3), u4, u5, u6], [.int (jn 40), .int l3], M)) rfl).trans ?_
  refine (e_ic_gt (hf := rfl)).trans ?_
  refine ite_in ?_ ?_
  · exact evn_end 1 rfl
  · refine (evn_adv 1 (q' := (20, [some (.ref 40), u1, some (.int l2), some (.int l3), u4, u5, u6], [.int l2], M)) rfl).trans ?_
    refine (e_if_le (hf := rfl)).trans ?_
    refine ite_in ?_ ?_
    · refine (evn_adv 2 (q' := (27, [some (.ref 40), u1, some (.int l2), some (.int l3), u4, u5, u6], [.int (M.1 40 12)], M)) rfl).trans ?_
      refine (e_if_ne (hf := rfl)).trans ?_
      refine ite_in ?_ ?_
      · refine (evn_adv 5 (q' := (39, [some (.ref 40), u1, some (.int (l2 + (jz 1))), some (.int l3), u4, u5, u6], [.int (l2 + (jz 1)), .ref 47, .ref 40], M)) rfl).trans ?_
        refine (e_kI (q := (39, [some (.ref 40), u1, some (.int (l2 + (jz 1))), some (.int l3), u4, u5, u6], [.int (l2 + (jz 1)), .ref 47, .ref 40])) (q2 := (42, [some (.ref 40), u1, some (.int (l2 + (jz 1))), some (.int l3), u4, u5, u6], [.ref 40])) (M := M) (o := (pcl GG lay d 65 [.ref 47, .int (l2 + (jz 1))] M)) (hf := rfl) rfl rfl).trans ?_
        refine kI_in (fun r1 M1 => ?_)
        refine (e_kI (q := (42, [some (.ref 40), u1, some (.int (l2 + (jz 1))), some (.int l3), u4, u5, u6], [.int r1, .ref 40])) (q2 := (45, [some (.ref 40), u1, some (.int (l2 + (jz 1))), some (.int l3), u4, u5, u6], [])) (M := M1) (o := (pcl GG lay d 265 [.ref 40, .int r1] M1)) (hf := rfl) rfl rfl).trans ?_
        refine kI_in (fun r2 M2 => ?_)
        refine (evn_adv 4 (q' := (53, [some (.ref 40), u1, some (.int (l2 + (jz 1))), some (.int l3), some (.int r2), u5, u6], [.int r2, .ref 44], M2)) rfl).trans ?_
        refine (e_kI (q := (53, [some (.ref 40), u1, some (.int (l2 + (jz 1))), some (.int l3), some (.int r2), u5, u6], [.int r2, .ref 44])) (q2 := (56, [some (.ref 40), u1, some (.int (l2 + (jz 1))), some (.int l3), some (.int r2), u5, u6], [])) (M := M2) (o := (pcl GG lay d 65 [.ref 44, .int r2] M2)) (hf := rfl) rfl rfl).trans ?_
        refine kI_in (fun r3 M3 => ?_)
        refine (evn_adv 3 (q' := (61, [some (.ref 40), u1, some (.int (l2 + (jz 1))), some (.int l3), some (.int r2), some (.int r3), u6], [.int (jz 1), .int r3], M3)) rfl).trans ?_
        refine (e_ic_ne (hf := rfl)).trans ?_
        refine ite_in ?_ ?_
        · refine (evn_adv 2 (q' := (67, [some (.ref 40), u1, some (.int (l2 + (jz 1))), some (.int l3), some (.int r2), some (.int r3), u6], [.int r2, .ref 40], M3)) rfl).trans ?_
          refine (e_kI (q := (67, [some (.ref 40), u1, some (.int (l2 + (jz 1))), some (.int l3), some (.int r2), some (.int r3), u6], [.int r2, .ref 40])) (q2 := (70, [some (.ref 40), u1, some (.int (l2 + (jz 1))), some (.int l3), some (.int r2), some (.int r3), u6], [])) (M := M3) (o := (pcl GG lay d 272 [.ref 40, .int r2] M3)) (hf := rfl) rfl rfl).trans ?_
          refine kI_in (fun r4 M4 => ?_)
          refine (evn_adv 4 (q' := (87, [some (.ref 40), u1, some (.int (l2 + (jz 1))), some (.int l3), some (.int r2), some (.int r3), some (.int r4)], [.int r4, .ref 40], M4)) rfl).trans ?_
          refine (e_kV (q := (87, [some (.ref 40), u1, some (.int (l2 + (jz 1))), some (.int l3), some (.int r2), some (.int r3), some (.int r4)], [.int r4, .ref 40])) (q2 := (90, [some (.ref 40), u1, some (.int (l2 + (jz 1))), some (.int l3), some (.int r2), some (.int r3), some (.int r4)], [])) (M := M4) (o := (pcl GG lay d 270 [.ref 40, .int r4] M4)) (hf := rfl) rfl rfl).trans ?_
          refine kV_in (fun M5 => ?_)
          refine (evn_adv 1 (q' := (92, [some (.ref 40), u1, some (.int (l2 + (jz 1))), some (.int l3), some (.int r2), some (.int r3), some (.int r4)], [.int r4], M5)) rfl).trans ?_
          refine (e_kI (q := (92, [some (.ref 40), u1, some (.int (l2 + (jz 1))), some (.int l3), some (.int r2), some (.int r3), some (.int r4)], [.int r4])) (q2 := (95, [some (.ref 40), u1, some (.int (l2 + (jz 1))), some (.int l3), some (.int r2), some (.int r3), some (.int r4)], [])) (M := M5) (o := (pcl GG lay d 63 [.int r4] M5)) (hf := rfl) rfl rfl).trans ?_
          refine kI_in (fun r6 M6 => ?_)
          refine (evn_adv 1 (q' := (96, [some (.ref 40), u1, some (.int (l2 + (jz 1))), some (.int l3), some (.int r2), some (.int r3), some (.int r4)], [.int (jn 2), .int r6], M6)) rfl).trans ?_
          refine (e_ic_ne (hf := rfl)).trans ?_
          refine ite_in ?_ ?_
          · refine (evn_adv 7 (q' := (111, [some (.ref 40), u1, some (.int (l2 + (jz 1))), some (.int l3), some (.int r2), some (.int r3), some (.int r4)], [.int r3, .ref 42, .ref 40, .int (l2 + (jz 1)), .ref 47], M6)) rfl).trans ?_
            refine (e_kI (q := (111, [some (.ref 40), u1, some (.int (l2 + (jz 1))), some (.int l3), some (.int r2), some (.int r3), some (.int r4)], [.int r3, .ref 42, .ref 40, .int (l2 + (jz 1)), .ref 47])) (q2 := (114, [some (.ref 40), u1, some (.int (l2 + (jz 1))), some (.int l3), some (.int r2), some (.int r3), some (.int r4)], [.ref 40, .int (l2 + (jz 1)), .ref 47])) (M := M6) (o := (pcl GG lay d 65 [.ref 42, .int r3] M6)) (hf := rfl) rfl rfl).trans ?_
            refine kI_in (fun r7 M7 => ?_)
            refine (e_kI (q := (114, [some (.ref 40), u1, some (.int (l2 + (jz 1))), some (.int l3), some (.int r2), some (.int r3), some (.int r4)], [.int r7, .ref 40, .int (l2 + (jz 1)), .ref 47])) (q2 := (117, [some (.ref 40), u1, some (.int (l2 + (jz 1))), some (.int l3), some (.int r2), some (.int r3), some (.int r4)], [.int (l2 + (jz 1)), .ref 47])) (M := M7) (o := (pcl GG lay d 264 [.ref 40, .int r7] M7)) (hf := rfl) rfl rfl).trans ?_
            refine kI_in (fun r8 M8 => ?_)
            refine (e_kV (q := (117, [some (.ref 40), u1, some (.int (l2 + (jz 1))), some (.int l3), some (.int r2), some (.int r3), some (.int r4)], [.int r8, .int (l2 + (jz 1)), .ref 47])) (q2 := (120, [some (.ref 40), u1, some (.int (l2 + (jz 1))), some (.int l3), some (.int r2), some (.int r3), some (.int r4)], [])) (M := M8) (o := (pcl GG lay d 66 [.ref 47, .int (l2 + (jz 1)), .int r8] M8)) (hf := rfl) rfl rfl).trans ?_
            refine kV_in (fun M9 => ?_)
            refine (evn_adv 2 (q' := (125, [some (.ref 40), u1, some (.int ((l2 + (jz 1)) + (jn 1))), some (.int l3), some (.int r2), some (.int r3), some (.int r4)], [.int r4], M9)) rfl).trans ?_
            refine (e_kI (q := (125, [some (.ref 40), u1, some (.int ((l2 + (jz 1)) + (jn 1))), some (.int l3), some (.int r2), some (.int r3), some (.int r4)], [.int r4])) (q2 := (128, [some (.ref 40), u1, some (.int ((l2 + (jz 1)) + (jn 1))), some (.int l3), some (.int r2), some (.int r3), some (.int r4)], [])) (M := M9) (o := (pcl GG lay d 63 [.int r4] M9)) (hf := rfl) rfl rfl).trans ?_
            refine kI_in (fun r10 M10 => ?_)
            refine (evn_adv 1 (q' := (129, [some (.ref 40), u1, some (.int ((l2 + (jz 1)) + (jn 1))), some (.int l3), some (.int r2), some (.int r3), some (.int r4)], [.int (jn 1), .int r10], M10)) rfl).trans ?_
            refine (e_ic_lt (hf := rfl)).trans ?_
            refine ite_in ?_ ?_
            · refine (evn_adv 2 (q' := (13, [some (.ref 40), u1, some (.int ((l2 + (jz 1)) + (jn 1))), some (.int (l3 + (jn 1))), some (.int r2), some (.int r3), some (.int r4)], [], M10)) rfl).trans ?_
              rfl
            · refine (evn_adv 7 (q' := (142, [some (.ref 40), u1, some (.int ((l2 + (jz 1)) + (jn 1))), some (.int l3), some (.int r2), some (.int r3), some (.int r4)], [.int (r3 + (jn 1)), .ref 40, .int ((l2 + (jz 1)) + (jn 1)), .ref 47], M10)) rfl).trans ?_
              refine (e_kI (q := (142, [some (.ref 40), u1, some (.int ((l2 + (jz 1)) + (jn 1))), some (.int l3), some (.int r2), some (.int r3), some (.int r4)], [.int (r3 + (jn 1)), .ref 40, .int ((l2 + (jz 1)) + (jn 1)), .ref 47])) (q2 := (145, [some (.ref 40), u1, some (.int ((l2 + (jz 1)) + (jn 1))), some (.int l3), some (.int r2), some (.int r3), some (.int r4)], [.int ((l2 + (jz 1)) + (jn 1)), .ref 47])) (M := M10) (o := (pcl GG lay d 264 [.ref 40, .int (r3 + (jn 1))] M10)) (hf := rfl) rfl rfl).trans ?_
              refine kI_in (fun r11 M11 => ?_)
              refine (e_kV (q := (145, [some (.ref 40), u1, some (.int ((l2 + (jz 1)) + (jn 1))), some (.int l3), some (.int r2), some (.int r3), some (.int r4)], [.int r11, .int ((l2 + (jz 1)) + (jn 1)), .ref 47])) (q2 := (148, [some (.ref 40), u1, some (.int ((l2 + (jz 1)) + (jn 1))), some (.int l3), some (.int r2), some (.int r3), some (.int r4)], [])) (M := M11) (o := (pcl GG lay d 66 [.ref 47, .int ((l2 + (jz 1)) + (jn 1)), .int r11] M11)) (hf := rfl) rfl rfl).trans ?_
              refine kV_in (fun M12 => ?_)
              refine (evn_adv 3 (q' := (13, [some (.ref 40), u1, some (.int (((l2 + (jz 1)) + (jn 1)) + (jn 1))), some (.int (l3 + (jn 1))), some (.int r2), some (.int r3), some (.int r4)], [], M12)) rfl).trans ?_
              rfl
          · refine (evn_adv 1 (q' := (125, [some (.ref 40), u1, some (.int (l2 + (jz 1))), some (.int l3), some (.int r2), some (.int r3), some (.int r4)], [.int r4], M6)) rfl).trans ?_
            refine (e_kI (q := (125, [some (.ref 40), u1, some (.int (l2 + (jz 1))), some (.int l3), some (.int r2), some (.int r3), some (.int r4)], [.int r4])) (q2 := (128, [some (.ref 40), u1, some (.int (l2 + (jz 1))), some (.int l3), some (.int r2), some (.int r3), some (.int r4)], [])) (M := M6) (o := (pcl GG lay d 63 [.int r4] M6)) (hf := rfl) rfl rfl).trans ?_
            refine kI_in (fun r7 M7 => ?_)
            refine (evn_adv 1 (q' := (129, [some (.ref 40), u1, some (.int (l2 + (jz 1))), some (.int l3), some (.int r2), some (.int r3), some (.int r4)], [.int (jn 1), .int r7], M7)) rfl).trans ?_
            refine (e_ic_lt (hf := rfl)).trans ?_
            refine ite_in ?_ ?_
            · refine (evn_adv 2 (q' := (13, [some (.ref 40), u1, some (.int (l2 + (jz 1))), some (.int (l3 + (jn 1))), some (.int r2), some (.int r3), some (.int r4)], [], M7)) rfl).trans ?_
              rfl
            · refine (evn_adv 7 (q' := (142, [some (.ref 40), u1, some (.int (l2 + (jz 1))), some (.int l3), some (.int r2), some (.int r3), some (.int r4)], [.int (r3 + (jn 1)), .ref 40, .int (l2 + (jz 1)), .ref 47], M7)) rfl).trans ?_
              refine (e_kI (q := (142, [some (.ref 40), u1, some (.int (l2 + (jz 1))), some (.int l3), some (.int r2), some (.int r3), some (.int r4)], [.int (r3 + (jn 1)), .ref 40, .int (l2 + (jz 1)), .ref 47])) (q2 := (145, [some (.ref 40), u1, some (.int (l2 + (jz 1))), some (.int l3), some (.int r2), some (.int r3), some (.int r4)], [.int (l2 + (jz 1)), .ref 47])) (M := M7) (o := (pcl GG lay d 264 [.ref 40, .int (r3 + (jn 1))] M7)) (hf := rfl) rfl rfl).trans ?_
              refine kI_in (fun r8 M8 => ?_)
              refine (e_kV (q := (145, [some (.ref 40), u1, some (.int (l2 + (jz 1))), some (.int l3), some (.int r2), some (.int r3), some (.int r4)], [.int r8, .int (l2 + (jz 1)), .ref 47])) (q2 := (148, [some (.ref 40), u1, some (.int (l2 + (jz 1))), some (.int l3), some (.int r2), some (.int r3), some (.int r4)], [])) (M := M8) (o := (pcl GG lay d 66 [.ref 47, .int (l2 + (jz 1)), .int r8] M8)) (hf := rfl) rfl rfl).trans ?_
              refine kV_in (fun M9 => ?_)
              refine (evn_adv 3 (q' := (13, [some (.ref 40), u1, some (.int ((l2 + (jz 1)) + (jn 1))), some (.int (l3 + (jn 1))), some (.int r2), some (.int r3), some (.int r4)], [], M9)) rfl).trans ?_
              rfl
        · refine (evn_adv 3 (q' := (79, [some (.ref 40), u1, some (.int (l2 + (jz 1))), some (.int l3), some (.int r2), some (.int r3), u6], [.int r3, .ref 41], M3)) rfl).trans ?_
          refine (e_kI (q := (79, [some (.ref 40), u1, some (.int (l2 + (jz 1))), some (.int l3), some (.int r2), some (.int r3), u6], [.int r3, .ref 41])) (q2 := (82, [some (.ref 40), u1, some (.int (l2 + (jz 1))), some (.int l3), some (.int r2), some (.int r3), u6], [])) (M := M3) (o := (pcl GG lay d 65 [.ref 41, .int r3] M3)) (hf := rfl) rfl rfl).trans ?_
          refine kI_in (fun r4 M4 => ?_)
          refine (evn_adv 3 (q' := (87, [some (.ref 40), u1, some (.int (l2 + (jz 1))), some (.int l3), some (.int r2), some (.int r3), some (.int r4)], [.int r4, .ref 40], M4)) rfl).trans ?_
          refine (e_kV (q := (87, [some (.ref 40), u1, some (.int (l2 + (jz 1))), some (.int l3), some (.int r2), some (.int r3), some (.int r4)], [.int r4, .ref 40])) (q2 := (90, [some (.ref 40), u1, some (.int (l2 + (jz 1))), some (.int l3), some (.int r2), some (.int r3), some (.int r4)], [])) (M := M4) (o := (pcl GG lay d 270 [.ref 40, .int r4] M4)) (hf := rfl) rfl rfl).trans ?_
          refine kV_in (fun M5 => ?_)
          refine (evn_adv 1 (q' := (92, [some (.ref 40), u1, some (.int (l2 + (jz 1))), some (.int l3), some (.int r2), some (.int r3), some (.int r4)], [.int r4], M5)) rfl).trans ?_
          refine (e_kI (q := (92, [some (.ref 40), u1, some (.int (l2 + (jz 1))), some (.int l3), some (.int r2), some (.int r3), some (.int r4)], [.int r4])) (q2 := (95, [some (.ref 40), u1, some (.int (l2 + (jz 1))), some (.int l3), some (.int r2), some (.int r3), some (.int r4)], [])) (M := M5) (o := (pcl GG lay d 63 [.int r4] M5)) (hf := rfl) rfl rfl).trans ?_
          refine kI_in (fun r6 M6 => ?_)
          refine (evn_adv 1 (q' := (96, [some (.ref 40), u1, some (.int (l2 + (jz 1))), some (.int l3), some (.int r2), some (.int r3), some (.int r4)], [.int (jn 2), .int r6], M6)) rfl).trans ?_
          refine (e_ic_ne (hf := rfl)).trans ?_
          refine ite_in ?_ ?_
          · refine (evn_adv 7 (q' := (111, [some (.ref 40), u1, some (.int (l2 + (jz 1))), some (.int l3), some (.int r2), some (.int r3), some (.int r4)], [.int r3, .ref 42, .ref 40, .int (l2 + (jz 1)), .ref 47], M6)) rfl).trans ?_
            refine (e_kI (q := (111, [some (.ref 40), u1, some (.int (l2 + (jz 1))), some (.int l3), some (.int r2), some (.int r3), some (.int r4)], [.int r3, .ref 42, .ref 40, .int (l2 + (jz 1)), .ref 47])) (q2 := (114, [some (.ref 40), u1, some (.int (l2 + (jz 1))), some (.int l3), some (.int r2), some (.int r3), some (.int r4)], [.ref 40, .int (l2 + (jz 1)), .ref 47])) (M := M6) (o := (pcl GG lay d 65 [.ref 42, .int r3] M6)) (hf := rfl) rfl rfl).trans ?_
            refine kI_in (fun r7 M7 => ?_)
            refine (e_kI (q := (114, [some (.ref 40), u1, some (.int (l2 + (jz 1))), some (.int l3), some (.int r2), some (.int r3), some (.int r4)], [.int r7, .ref 40, .int (l2 + (jz 1)), .ref 47])) (q2 := (117, [some (.ref 40), u1, some (.int (l2 + (jz 1))), some (.int l3), some (.int r2), some (.int r3), some (.int r4)], [.int (l2 + (jz 1)), .ref 47])) (M := M7) (o := (pcl GG lay d 264 [.ref 40, .int r7] M7)) (hf := rfl) rfl rfl).trans ?_
            refine kI_in (fun r8 M8 => ?_)
            refine (e_kV (q := (117, [some (.ref 40), u1, some (.int (l2 + (jz 1))), some (.int l3), some (.int r2), some (.int r3), some (.int r4)], [.int r8, .int (l2 + (jz 1)), .ref 47])) (q2 := (120, [some (.ref 40), u1, some (.int (l2 + (jz 1))), some (.int l3), some (.int r2), some (.int r3), some (.int r4)], [])) (M := M8) (o := (pcl GG lay d 66 [.ref 47, .int (l2 + (jz 1)), .int r8] M8)) (hf := rfl) rfl rfl).trans ?_
            refine kV_in (fun M9 => ?_)
            refine (evn_adv 2 (q' := (125, [some (.ref 40), u1, some (.int ((l2 + (jz 1)) + (jn 1))), some (.int l3), some (.int r2), some (.int r3), some (.int r4)], [.int r4], M9)) rfl).trans ?_
            refine (e_kI (q := (125, [some (.ref 40), u1, some (.int ((l2 + (jz 1)) + (jn 1))), some (.int l3), some (.int r2), some (.int r3), some (.int r4)], [.int r4])) (q2 := (128, [some (.ref 40), u1, some (.int ((l2 + (jz 1)) + (jn 1))), some (.int l3), some (.int r2), some (.int r3), some (.int r4)], [])) (M := M9) (o := (pcl GG lay d 63 [.int r4] M9)) (hf := rfl) rfl rfl).trans ?_
            refine kI_in (fun r10 M10 => ?_)
            refine (evn_adv 1 (q' := (129, [some (.ref 40), u1, some (.int ((l2 + (jz 1)) + (jn 1))), some (.int l3), some (.int r2), some (.int r3), some (.int r4)], [.int (jn 1), .int r10], M10)) rfl).trans ?_
            refine (e_ic_lt (hf := rfl)).trans ?_
            refine ite_in ?_ ?_
            · refine (evn_adv 2 (q' := (13, [some (.ref 40), u1, some (.int ((l2 + (jz 1)) + (jn 1))), some (.int (l3 + (jn 1))), some (.int r2), some (.int r3), some (.int r4)], [], M10)) rfl).trans ?_
              rfl
            · refine (evn_adv 7 (q' := (142, [some (.ref 40), u1, some (.int ((l2 + (jz 1)) + (jn 1))), some (.int l3), some (.int r2), some (.int r3), some (.int r4)], [.int (r3 + (jn 1)), .ref 40, .int ((l2 + (jz 1)) + (jn 1)), .ref 47], M10)) rfl).trans ?_
              refine (e_kI (q := (142, [some (.ref 40), u1, some (.int ((l2 + (jz 1)) + (jn 1))), some (.int l3), some (.int r2), some (.int r3), some (.int r4)], [.int (r3 + (jn 1)), .ref 40, .int ((l2 + (jz 1)) + (jn 1)), .ref 47])) (q2 := (145, [some (.ref 40), u1, some (.int ((l2 + (jz 1)) + (jn 1))), some (.int l3), some (.int r2), some (.int r3), some (.int r4)], [.int ((l2 + (jz 1)) + (jn 1)), .ref 47])) (M := M10) (o := (pcl GG lay d 264 [.ref 40, .int (r3 + (jn 1))] M10)) (hf := rfl) rfl rfl).trans ?_
              refine kI_in (fun r11 M11 => ?_)
              refine (e_kV (q := (145, [some (.ref 40), u1, some (.int ((l2 + (jz 1)) + (jn 1))), some (.int l3), some (.int r2), some (.int r3), some (.int r4)], [.int r11, .int ((l2 + (jz 1)) + (jn 1)), .ref 47])) (q2 := (148, [some (.ref 40), u1, some (.int ((l2 + (jz 1)) + (jn 1))), some (.int l3), some (.int r2), some (.int r3), some (.int r4)], [])) (M := M11) (o := (pcl GG lay d 66 [.ref 47, .int ((l2 + (jz 1)) + (jn 1)), .int r11] M11)) (hf := rfl) rfl rfl).trans ?_
              refine kV_in (fun M12 => ?_)
              refine (evn_adv 3 (q' := (13, [some (.ref 40), u1, some (.int (((l2 + (jz 1)) + (jn 1)) + (jn 1))), some (.int (l3 + (jn 1))), some (.int r2), some (.int r3), some (.int r4)], [], M12)) rfl).trans ?_
              rfl
          · refine (evn_adv 1 (q' := (125, [some (.ref 40), u1, some (.int (l2 + (jz 1))), some (.int l3), some (.int r2), some (.int r3), some (.int r4)], [.int r4], M6)) rfl).trans ?_
            refine (e_kI (q := (125, [some (.ref 40), u1, some (.int (l2 + (jz 1))), some (.int l3), some (.int r2), some (.int r3), some (.int r4)], [.int r4])) (q2 := (128, [some (.ref 40), u1, some (.int (l2 + (jz 1))), some (.int l3), some (.int r2), some (.int r3), some (.int r4)], [])) (M := M6) (o := (pcl GG lay d 63 [.int r4] M6)) (hf := rfl) rfl rfl).trans ?_
            refine kI_in (fun r7 M7 => ?_)
            refine (evn_adv 1 (q' := (129, [some (.ref 40), u1, some (.int (l2 + (jz 1))), some (.int l3), some (.int r2), some (.int r3), some (.int r4)], [.int (jn 1), .int r7], M7)) rfl).trans ?_
            refine (e_ic_lt (hf := rfl)).trans ?_
            refine ite_in ?_ ?_
            · refine (evn_adv 2 (q' := (13, [some (.ref 40), u1, some (.int (l2 + (jz 1))), some (.int (l3 + (jn 1))), some (.int r2), some (.int r3), some (.int r4)], [], M7)) rfl).trans ?_
              rfl
            · refine (evn_adv 7 (q' := (142, [some (.ref 40), u1, some (.int (l2 + (jz 1))), some (.int l3), some (.int r2), some (.int r3), some (.int r4)], [.int (r3 + (jn 1)), .ref 40, .int (l2 + (jz 1)), .ref 47], M7)) rfl).trans ?_
              refine (e_kI (q := (142, [some (.ref 40), u1, some (.int (l2 + (jz 1))), some (.int l3), some (.int r2), some (.int r3), some (.int r4)], [.int (r3 + (jn 1)), .ref 40, .int (l2 + (jz 1)), .ref 47])) (q2 := (145, [some (.ref 40), u1, some (.int (l2 + (jz 1))), some (.int l3), some (.int r2), some (.int r3), some (.int r4)], [.int (l2 + (jz 1)), .ref 47])) (M := M7) (o := (pcl GG lay d 264 [.ref 40, .int (r3 + (jn 1))] M7)) (hf := rfl) rfl rfl).trans ?_
              refine kI_in (fun r8 M8 => ?_)
              refine (e_kV (q := (145, [some (.ref 40), u1, some (.int (l2 + (jz 1))), some (.int l3), some (.int r2), some (.int r3), some (.int r4)], [.int r8, .int (l2 + (jz 1)), .ref 47])) (q2 := (148, [some (.ref 40), u1, some (.int (l2 + (jz 1))), some (.int l3), some (.int r2), some (.int r3), some (.int r4)], [])) (M := M8) (o := (pcl GG lay d 66 [.ref 47, .int (l2 + (jz 1)), .int r8] M8)) (hf := rfl) rfl rfl).trans ?_
              refine kV_in (fun M9 => ?_)
              refine (evn_adv 3 (q' := (13, [some (.ref 40), u1, some (.int ((l2 + (jz 1)) + (jn 1))), some (.int (l3 + (jn 1))), some (.int r2), some (.int r3), some (.int r4)], [], M9)) rfl).trans ?_
              rfl
      · exact evn_end 1 rfl
    · exact evn_end 1 rfl
/-- TermStrategies$Unifier.nameOf(I)I -/
noncomputable abbrev E_272 (d : Nat) : PQ → PO := evn (rnn k_272 lay none (pcl GG lay d) 1)
theorem q_272 (d : Nat) (l1 : Int32) (M : PM) : pcl GG lay (d + 1) 272 [.ref 40, .int l1] M = (kI (pcl GG lay d 65 [.ref 46, .int l1] M) fun r1 M1 => (if r1 = jn 0 then (kV (pcl GG lay d 66 [.ref 46, .int l1, .int ((jn 117) + (M1.1 40 9))] M1) fun M2 => (wr (sI M2 40 (va_up (M2.1 40) 9 ((M2.1 40 9) + (jn 1)))) fun M3 => (kI (pcl GG lay d 65 [.ref 46, .int l1] M3) fun r4 M4 => (rI r4 M4)))) else (kI (pcl GG lay d 65 [.ref 46, .int l1] M1) fun r2 M2 => (rI r2 M2)))) := by
  refine (pcl_un (mt := t_272) (by decide) rfl (Nat.le_of_ble_eq_true rfl)).trans ?_
  show E_272 d (0, [some (.ref 40), some (.int l1)], [], M) = _
  refine (evn_adv 3 (q' := (5, [some (.ref 40), some (.int l1)], [.int l1, .ref 46], M)) rfl).trans ?_
  refine (e_kI (q := (5, [some (.ref 40), some (.int l1)], [.int l1, .ref 46])) (q2 := (8, [some (.ref 40), some (.int l1)], [])) (M := M) (o := (pcl GG lay d 65 [.ref 46, .int l1] M)) (hf := rfl) rfl rfl).trans ?_
  refine kI_in (fun r1 M1 => ?_)
  refine (e_if_ne (hf := rfl)).trans ?_
  refine ite_in ?_ ?_
  · refine (evn_adv 7 (q' := (23, [some (.ref 40), some (.int l1)], [.int ((jn 117) + (M1.1 40 9)), .int l1, .ref 46], M1)) rfl).trans ?_
    refine (e_kV (q := (23, [some (.ref 40), some (.int l1)], [.int ((jn 117) + (M1.1 40 9)), .int l1, .ref 46])) (q2 := (26, [some (.ref 40), some (.int l1)], [])) (M := M1) (o := (pcl GG lay d 66 [.ref 46, .int l1, .int ((jn 117) + (M1.1 40 9))] M1)) (hf := rfl) rfl rfl).trans ?_
    refine kV_in (fun M2 => ?_)
    refine (evn_adv 5 (q' := (33, [some (.ref 40), some (.int l1)], [.int ((M2.1 40 9) + (jn 1)), .ref 40], M2)) rfl).trans ?_
    refine (evn_adv 1 (q' := (36, [some (.ref 40), some (.int l1)], [], (sI M2 40 (va_up (M2.1 40) 9 ((M2.1 40 9) + (jn 1)))))) rfl).trans ?_
    refine wr_in (f := fun M3 => E_272 d (36, [some (.ref 40), some (.int l1)], [], M3)) (fun M3 => ?_)
    refine (evn_adv 3 (q' := (41, [some (.ref 40), some (.int l1)], [.int l1, .ref 46], M3)) rfl).trans ?_
    refine (e_kI (q := (41, [some (.ref 40), some (.int l1)], [.int l1, .ref 46])) (q2 := (44, [some (.ref 40), some (.int l1)], [])) (M := M3) (o := (pcl GG lay d 65 [.ref 46, .int l1] M3)) (hf := rfl) rfl rfl).trans ?_
    refine kI_in (fun r4 M4 => ?_)
    exact evn_end 1 rfl
  · refine (evn_adv 3 (q' := (41, [some (.ref 40), some (.int l1)], [.int l1, .ref 46], M1)) rfl).trans ?_
    refine (e_kI (q := (41, [some (.ref 40), some (.int l1)], [.int l1, .ref 46])) (q2 := (44, [some (.ref 40), some (.int l1)], [])) (M := M1) (o := (pcl GG lay d 65 [.ref 46, .int l1] M1)) (hf := rfl) rfl rfl).trans ?_
    refine kI_in (fun r2 M2 => ?_)
    exact evn_end 1 rfl
/-- java/lang/Integer.bitCount(I)I -/
noncomputable abbrev E_273 (d : Nat) : PQ → PO := evn (rnn k_273 lay none (pcl GG lay d) 1)
theorem q_273 (d : Nat) (l0 : Int32) (M : PM) : pcl GG lay (d + 1) 273 [.int l0] M = (rI ((((((((l0 - ((l0.toUInt32 >>> ((jn 1).toUInt32 &&& Int32.toUInt32 31)).toInt32 &&& (jn 1431655765))) &&& (jn 858993459)) + (((l0 - ((l0.toUInt32 >>> ((jn 1).toUInt32 &&& Int32.toUInt32 31)).toInt32 &&& (jn 1431655765))).toUInt32 >>> ((jn 2).toUInt32 &&& Int32.toUInt32 31)).toInt32 &&& (jn 858993459))) + ((((l0 - ((l0.toUInt32 >>> ((jn 1).toUInt32 &&& Int32.toUInt32 31)).toInt32 &&& (jn 1431655765))) &&& (jn 858993459)) + (((l0 - ((l0.toUInt32 >>> ((jn 1).toUInt32 &&& Int32.toUInt32 31)).toInt32 &&& (jn 1431655765))).toUInt32 >>> ((jn 2).toUInt32 &&& Int32.toUInt32 31)).toInt32 &&& (jn 858993459))).toUInt32 >>> ((jn 4).toUInt32 &&& Int32.toUInt32 31)).toInt32) &&& (jn 252645135)) + ((((((l0 - ((l0.toUInt32 >>> ((jn 1).toUInt32 &&& Int32.toUInt32 31)).toInt32 &&& (jn 1431655765))) &&& (jn 858993459)) + (((l0 - ((l0.toUInt32 >>> ((jn 1).toUInt32 &&& Int32.toUInt32 31)).toInt32 &&& (jn 1431655765))).toUInt32 >>> ((jn 2).toUInt32 &&& Int32.toUInt32 31)).toInt32 &&& (jn 858993459))) + ((((l0 - ((l0.toUInt32 >>> ((jn 1).toUInt32 &&& Int32.toUInt32 31)).toInt32 &&& (jn 1431655765))) &&& (jn 858993459)) + (((l0 - ((l0.toUInt32 >>> ((jn 1).toUInt32 &&& Int32.toUInt32 31)).toInt32 &&& (jn 1431655765))).toUInt32 >>> ((jn 2).toUInt32 &&& Int32.toUInt32 31)).toInt32 &&& (jn 858993459))).toUInt32 >>> ((jn 4).toUInt32 &&& Int32.toUInt32 31)).toInt32) &&& (jn 252645135)).toUInt32 >>> ((jn 8).toUInt32 &&& Int32.toUInt32 31)).toInt32) + (((((((l0 - ((l0.toUInt32 >>> ((jn 1).toUInt32 &&& Int32.toUInt32 31)).toInt32 &&& (jn 1431655765))) &&& (jn 858993459)) + (((l0 - ((l0.toUInt32 >>> ((jn 1).toUInt32 &&& Int32.toUInt32 31)).toInt32 &&& (jn 1431655765))).toUInt32 >>> ((jn 2).toUInt32 &&& Int32.toUInt32 31)).toInt32 &&& (jn 858993459))) + ((((l0 - ((l0.toUInt32 >>> ((jn 1).toUInt32 &&& Int32.toUInt32 31)).toInt32 &&& (jn 1431655765))) &&& (jn 858993459)) + (((l0 - ((l0.toUInt32 >>> ((jn 1).toUInt32 &&& Int32.toUInt32 31)).toInt32 &&& (jn 1431655765))).toUInt32 >>> ((jn 2).toUInt32 &&& Int32.toUInt32 31)).toInt32 &&& (jn 858993459))).toUInt32 >>> ((jn 4).toUInt32 &&& Int32.toUInt32 31)).toInt32) &&& (jn 252645135)) + ((((((l0 - ((l0.toUInt32 >>> ((jn 1).toUInt32 &&& Int32.toUInt32 31)).toInt32 &&& (jn 1431655765))) &&& (jn 858993459)) + (((l0 - ((l0.toUInt32 >>> ((jn 1).toUInt32 &&& Int32.toUInt32 31)).toInt32 &&& (jn 1431655765))).toUInt32 >>> ((jn 2).toUInt32 &&& Int32.toUInt32 31)).toInt32 &&& (jn 858993459))) + ((((l0 - ((l0.toUInt32 >>> ((jn 1).toUInt32 &&& Int32.toUInt32 31)).toInt32 &&& (jn 1431655765))) &&& (jn 858993459)) + (((l0 - ((l0.toUInt32 >>> ((jn 1).toUInt32 &&& Int32.toUInt32 31)).toInt32 &&& (jn 1431655765))).toUInt32 >>> ((jn 2).toUInt32 &&& Int32.toUInt32 31)).toInt32 &&& (jn 858993459))).toUInt32 >>> ((jn 4).toUInt32 &&& Int32.toUInt32 31)).toInt32) &&& (jn 252645135)).toUInt32 >>> ((jn 8).toUInt32 &&& Int32.toUInt32 31)).toInt32).toUInt32 >>> ((jn 16).toUInt32 &&& Int32.toUInt32 31)).toInt32) &&& (jn 63)) M) := by
  refine (pcl_un (mt := t_273) (by decide) rfl (Nat.le_of_ble_eq_true rfl)).trans ?_
  show E_273 d (0, [some (.int l0)], [], M) = _
  refine (evn_adv 41 (q' := (52, [some (.int (((((((l0 - ((l0.toUInt32 >>> ((jn 1).toUInt32 &&& Int32.toUInt32 31)).toInt32 &&& (jn 1431655765))) &&& (jn 858993459)) + (((l0 - ((l0.toUInt32 >>> ((jn 1).toUInt32 &&& Int32.toUInt32 31)).toInt32 &&& (jn 1431655765))).toUInt32 >>> ((jn 2).toUInt32 &&& Int32.toUInt32 31)).toInt32 &&& (jn 858993459))) + ((((l0 - ((l0.toUInt32 >>> ((jn 1).toUInt32 &&& Int32.toUInt32 31)).toInt32 &&& (jn 1431655765))) &&& (jn 858993459)) + (((l0 - ((l0.toUInt32 >>> ((jn 1).toUInt32 &&& Int32.toUInt32 31)).toInt32 &&& (jn 1431655765))).toUInt32 >>> ((jn 2).toUInt32 &&& Int32.toUInt32 31)).toInt32 &&& (jn 858993459))).toUInt32 >>> ((jn 4).toUInt32 &&& Int32.toUInt32 31)).toInt32) &&& (jn 252645135)) + ((((((l0 - ((l0.toUInt32 >>> ((jn 1).toUInt32 &&& Int32.toUInt32 31)).toInt32 &&& (jn 1431655765))) &&& (jn 858993459)) + (((l0 - ((l0.toUInt32 >>> ((jn 1).toUInt32 &&& Int32.toUInt32 31)).toInt32 &&& (jn 1431655765))).toUInt32 >>> ((jn 2).toUInt32 &&& Int32.toUInt32 31)).toInt32 &&& (jn 858993459))) + ((((l0 - ((l0.toUInt32 >>> ((jn 1).toUInt32 &&& Int32.toUInt32 31)).toInt32 &&& (jn 1431655765))) &&& (jn 858993459)) + (((l0 - ((l0.toUInt32 >>> ((jn 1).toUInt32 &&& Int32.toUInt32 31)).toInt32 &&& (jn 1431655765))).toUInt32 >>> ((jn 2).toUInt32 &&& Int32.toUInt32 31)).toInt32 &&& (jn 858993459))).toUInt32 >>> ((jn 4).toUInt32 &&& Int32.toUInt32 31)).toInt32) &&& (jn 252645135)).toUInt32 >>> ((jn 8).toUInt32 &&& Int32.toUInt32 31)).toInt32) + (((((((l0 - ((l0.toUInt32 >>> ((jn 1).toUInt32 &&& Int32.toUInt32 31)).toInt32 &&& (jn 1431655765))) &&& (jn 858993459)) + (((l0 - ((l0.toUInt32 >>> ((jn 1).toUInt32 &&& Int32.toUInt32 31)).toInt32 &&& (jn 1431655765))).toUInt32 >>> ((jn 2).toUInt32 &&& Int32.toUInt32 31)).toInt32 &&& (jn 858993459))) + ((((l0 - ((l0.toUInt32 >>> ((jn 1).toUInt32 &&& Int32.toUInt32 31)).toInt32 &&& (jn 1431655765))) &&& (jn 858993459)) + (((l0 - ((l0.toUInt32 >>> ((jn 1).toUInt32 &&& Int32.toUInt32 31)).toInt32 &&& (jn 1431655765))).toUInt32 >>> ((jn 2).toUInt32 &&& Int32.toUInt32 31)).toInt32 &&& (jn 858993459))).toUInt32 >>> ((jn 4).toUInt32 &&& Int32.toUInt32 31)).toInt32) &&& (jn 252645135)) + ((((((l0 - ((l0.toUInt32 >>> ((jn 1).toUInt32 &&& Int32.toUInt32 31)).toInt32 &&& (jn 1431655765))) &&& (jn 858993459)) + (((l0 - ((l0.toUInt32 >>> ((jn 1).toUInt32 &&& Int32.toUInt32 31)).toInt32 &&& (jn 1431655765))).toUInt32 >>> ((jn 2).toUInt32 &&& Int32.toUInt32 31)).toInt32 &&& (jn 858993459))) + ((((l0 - ((l0.toUInt32 >>> ((jn 1).toUInt32 &&& Int32.toUInt32 31)).toInt32 &&& (jn 1431655765))) &&& (jn 858993459)) + (((l0 - ((l0.toUInt32 >>> ((jn 1).toUInt32 &&& Int32.toUInt32 31)).toInt32 &&& (jn 1431655765))).toUInt32 >>> ((jn 2).toUInt32 &&& Int32.toUInt32 31)).toInt32 &&& (jn 858993459))).toUInt32 >>> ((jn 4).toUInt32 &&& Int32.toUInt32 31)).toInt32) &&& (jn 252645135)).toUInt32 >>> ((jn 8).toUInt32 &&& Int32.toUInt32 31)).toInt32).toUInt32 >>> ((jn 16).toUInt32 &&& Int32.toUInt32 31)).toInt32))], [.int ((((((((l0 - ((l0.toUInt32 >>> ((jn 1).toUInt32 &&& Int32.toUInt32 31)).toInt32 &&& (jn 1431655765))) &&& (jn 858993459)) + (((l0 - ((l0.toUInt32 >>> ((jn 1).toUInt32 &&& Int32.toUInt32 31)).toInt32 &&& (jn 1431655765))).toUInt32 >>> ((jn 2).toUInt32 &&& Int32.toUInt32 31)).toInt32 &&& (jn 858993459))) + ((((l0 - ((l0.toUInt32 >>> ((jn 1).toUInt32 &&& Int32.toUInt32 31)).toInt32 &&& (jn 1431655765))) &&& (jn 858993459)) + (((l0 - ((l0.toUInt32 >>> ((jn 1).toUInt32 &&& Int32.toUInt32 31)).toInt32 &&& (jn 1431655765))).toUInt32 >>> ((jn 2).toUInt32 &&& Int32.toUInt32 31)).toInt32 &&& (jn 858993459))).toUInt32 >>> ((jn 4).toUInt32 &&& Int32.toUInt32 31)).toInt32) &&& (jn 252645135)) + ((((((l0 - ((l0.toUInt32 >>> ((jn 1).toUInt32 &&& Int32.toUInt32 31)).toInt32 &&& (jn 1431655765))) &&& (jn 858993459)) + (((l0 - ((l0.toUInt32 >>> ((jn 1).toUInt32 &&& Int32.toUInt32 31)).toInt32 &&& (jn 1431655765))).toUInt32 >>> ((jn 2).toUInt32 &&& Int32.toUInt32 31)).toInt32 &&& (jn 858993459))) + ((((l0 - ((l0.toUInt32 >>> ((jn 1).toUInt32 &&& Int32.toUInt32 31)).toInt32 &&& (jn 1431655765))) &&& (jn 858993459)) + (((l0 - ((l0.toUInt32 >>> ((jn 1).toUInt32 &&& Int32.toUInt32 31)).toInt32 &&& (jn 1431655765))).toUInt32 >>> ((jn 2).toUInt32 &&& Int32.toUInt32 31)).toInt32 &&& (jn 858993459))).toUInt32 >>> ((jn 4).toUInt32 &&& Int32.toUInt32 31)).toInt32) &&& (jn 252645135)).toUInt32 >>> ((jn 8).toUInt32 &&& Int32.toUInt32 31)).toInt32) + (((((((l0 - ((l0.toUInt32 >>> ((jn 1).toUInt32 &&& Int32.toUInt32 31)).toInt32 &&& (jn 1431655765))) &&& (jn 858993459)) + (((l0 - ((l0.toUInt32 >>> ((jn 1).toUInt32 &&& Int32.toUInt32 31)).toInt32 &&& (jn 1431655765))).toUInt32 >>> ((jn 2).toUInt32 &&& Int32.toUInt32 31)).toInt32 &&& (jn 858993459))) + ((((l0 - ((l0.toUInt32 >>> ((jn 1).toUInt32 &&& Int32.toUInt32 31)).toInt32 &&& (jn 1431655765))) &&& (jn 858993459)) + (((l0 - ((l0.toUInt32 >>> ((jn 1).toUInt32 &&& Int32.toUInt32 31)).toInt32 &&& (jn 1431655765))).toUInt32 >>> ((jn 2).toUInt32 &&& Int32.toUInt32 31)).toInt32 &&& (jn 858993459))).toUInt32 >>> ((jn 4).toUInt32 &&& Int32.toUInt32 31)).toInt32) &&& (jn 252645135)) + ((((((l0 - ((l0.toUInt32 >>> ((jn 1).toUInt32 &&& Int32.toUInt32 31)).toInt32 &&& (jn 1431655765))) &&& (jn 858993459)) + (((l0 - ((l0.toUInt32 >>> ((jn 1).toUInt32 &&& Int32.toUInt32 31)).toInt32 &&& (jn 1431655765))).toUInt32 >>> ((jn 2).toUInt32 &&& Int32.toUInt32 31)).toInt32 &&& (jn 858993459))) + ((((l0 - ((l0.toUInt32 >>> ((jn 1).toUInt32 &&& Int32.toUInt32 31)).toInt32 &&& (jn 1431655765))) &&& (jn 858993459)) + (((l0 - ((l0.toUInt32 >>> ((jn 1).toUInt32 &&& Int32.toUInt32 31)).toInt32 &&& (jn 1431655765))).toUInt32 >>> ((jn 2).toUInt32 &&& Int32.toUInt32 31)).toInt32 &&& (jn 858993459))).toUInt32 >>> ((jn 4).toUInt32 &&& Int32.toUInt32 31)).toInt32) &&& (jn 252645135)).toUInt32 >>> ((jn 8).toUInt32 &&& Int32.toUInt32 31)).toInt32).toUInt32 >>> ((jn 16).toUInt32 &&& Int32.toUInt32 31)).toInt32) &&& (jn 63))], M)) rfl).trans ?_
  exact evn_end 1 rfl
/-- java/util/Arrays.fill([II)V -/
noncomputable abbrev E_274 (d : Nat) : PQ → PO := evn (rnn k_274 lay none (pcl GG lay d) 0)
theorem q_274 (d : Nat) (l0 : Nat) (l1 : Int32) (M : PM) : pcl GG lay (d + 1) 274 [.ref l0, .int l1] M = (oB (alen lay none l0) fun v1 => E_274 d (5, [some (.ref l0), some (.int l1), some (.int (jn 0)), some (.int v1)], [], M)) := by
  refine (pcl_un (mt := t_274) (by decide) rfl (Nat.le_of_ble_eq_true rfl)).trans ?_
  show E_274 d (0, [some (.ref l0), some (.int l1), none, none], [], M) = _
  refine (evn_adv 3 (q' := (3, [some (.ref l0), some (.int l1), some (.int (jn 0)), none], [.ref l0], M)) rfl).trans ?_
  refine (e_oB (q := (3, [some (.ref l0), some (.int l1), some (.int (jn 0)), none], [.ref l0], M)) (o := (alen lay none l0)) (f := fun v1 => (4, [some (.ref l0), some (.int l1), some (.int (jn 0)), none], [.int v1], M)) (hf := rfl) rfl).trans ?_
  refine oB_in (fun v1 => ?_)
  refine (evn_adv 1 (q' := (5, [some (.ref l0), some (.int l1), some (.int (jn 0)), some (.int v1)], [], M)) rfl).trans ?_
  rfl
theorem h_274_5 (d : Nat) (l0 : Nat) (l1 : Int32) (l2 : Int32) (l3 : Int32) (M : PM) : E_274 d (5, [some (.ref l0), some (.int l1), some (.int l2), some (.int l3)], [], M) = (if l2 < l3 then (oB (astI lay M l0 l2 l1) fun M1 => E_274 d (5, [some (.ref l0), some (.int l1), some (.int (l2 + (jn 1))), some (.int l3)], [], M1)) else (rV M)) := by
  refine (evn_adv 2 (q' := (7, [some (.ref l0), some (.int l1), some (.int l2), some (.int l3)], [.int l3, .int l2], M)) rfl).trans ?_
  refine (e_ic_ge (hf := rfl)).trans ?_
  refine ite_in ?_ ?_
  · refine (evn_adv 3 (q' := (13, [some (.ref l0), some (.int l1), some (.int l2), some (.int l3)], [.int l1, .int l2, .ref l0], M)) rfl).trans ?_
    refine (e_oB (q := (13, [some (.ref l0), some (.int l1), some (.int l2), some (.int l3)], [.int l1, .int l2, .ref l0], M)) (o := (astI lay M l0 l2 l1)) (f := fun M1 => (14, [some (.ref l0), some (.int l1), some (.int l2), some (.int l3)], [], M1)) (hf := rfl) rfl).trans ?_
    refine oB_in (fun M1 => ?_)
    refine (evn_adv 2 (q' := (5, [some (.ref l0), some (.int l1), some (.int (l2 + (jn 1))), some (.int l3)], [], M1)) rfl).trans ?_
    rfl
  · exact evn_end 1 rfl
/-- java/util/Arrays.fill([JJ)V -/
noncomputable abbrev E_275 (d : Nat) : PQ → PO := evn (rnn k_275 lay none (pcl GG lay d) 0)
theorem q_275 (d : Nat) (l0 : Nat) (l1 : Int64) (M : PM) : pcl GG lay (d + 1) 275 [.ref l0, .long l1] M = (oB (alen lay none l0) fun v1 => E_275 d (6, [some (.ref l0), some (.long l1), none, some (.int (jn 0)), some (.int v1)], [], M)) := by
  refine (pcl_un (mt := t_275) (by decide) rfl (Nat.le_of_ble_eq_true rfl)).trans ?_
  show E_275 d (0, [some (.ref l0), some (.long l1), none, none, none], [], M) = _
  refine (evn_adv 3 (q' := (3, [some (.ref l0), some (.long l1), none, some (.int (jn 0)), none], [.ref l0], M)) rfl).trans ?_
  refine (e_oB (q := (3, [some (.ref l0), some (.long l1), none, some (.int (jn 0)), none], [.ref l0], M)) (o := (alen lay none l0)) (f := fun v1 => (4, [some (.ref l0), some (.long l1), none, some (.int (jn 0)), none], [.int v1], M)) (hf := rfl) rfl).trans ?_
  refine oB_in (fun v1 => ?_)
  refine (evn_adv 1 (q' := (6, [some (.ref l0), some (.long l1), none, some (.int (jn 0)), some (.int v1)], [], M)) rfl).trans ?_
  rfl
theorem h_275_6 (d : Nat) (l0 : Nat) (l1 : Int64) (l3 : Int32) (l4 : Int32) (M : PM) : E_275 d (6, [some (.ref l0), some (.long l1), none, some (.int l3), some (.int l4)], [], M) = (if l3 < l4 then (oB (astL lay M l0 l3 l1) fun M1 => E_275 d (6, [some (.ref l0), some (.long l1), none, some (.int (l3 + (jn 1))), some (.int l4)], [], M1)) else (rV M)) := by
  refine (evn_adv 2 (q' := (9, [some (.ref l0), some (.long l1), none, some (.int l3), some (.int l4)], [.int l4, .int l3], M)) rfl).trans ?_
  refine (e_ic_ge (hf := rfl)).trans ?_
  refine ite_in ?_ ?_
  · refine (evn_adv 3 (q' := (15, [some (.ref l0), some (.long l1), none, some (.int l3), some (.int l4)], [.long l1, .int l3, .ref l0], M)) rfl).trans ?_
    refine (e_oB (q := (15, [some (.ref l0), some (.long l1), none, some (.int l3), some (.int l4)], [.long l1, .int l3, .ref l0], M)) (o := (astL lay M l0 l3 l1)) (f := fun M1 => (16, [some (.ref l0), some (.long l1), none, some (.int l3), some (.int l4)], [], M1)) (hf := rfl) rfl).trans ?_
    refine oB_in (fun M1 => ?_)
    refine (evn_adv 2 (q' := (6, [some (.ref l0), some (.long l1), none, some (.int (l3 + (jn 1))), some (.int l4)], [], M1)) rfl).trans ?_
    rfl
  · exact evn_end 1 rfl
