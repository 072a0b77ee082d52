/-- TermStrategies$Runner.start(I)V -/
noncomputable abbrev E_206 (d : Nat) : PQ → PO := evn (rnn k_206 lay none (pcl GG lay d) 0)
theorem q_206 (d : Nat) (l1 : Int32) (M : PM) : pcl GG lay (d + 1) 206 [.ref 29, .int l1] M = (kI (pcl GG lay d 65 [.ref 33, .int l1] M) fun r1 M1 => (kI (pcl GG lay d 65 [.ref 34, .int l1] M1) fun r2 M2 => (kI (pcl GG lay d 248 [.ref 1, .int r1] M2) fun r3 M3 => (if r3 = (jn 0) then (kI (pcl GG lay d 249 [.ref 1, .int r1] M3) fun r4 M4 => (kL (pcl GG lay d 67 [.ref 35, .int l1] M4) fun r5 M5 => (kI (pcl GG lay d 207 [.ref 29, .int r4, .int r2, .long r5] M5) fun r6 M6 => (kV (pcl GG lay d 205 [.ref 29, .int l1, .int r6] M6) fun M7 => (rV M7))))) else (if r3 = (jn 1) then (kV (pcl GG lay d 205 [.ref 29, .int l1, .int r2] M3) fun M4 => (rV M4)) else (if r3 = (jn 2) then (kV (pcl GG lay d 205 [.ref 29, .int l1, .int (jz 1)] M3) fun M4 => (rV M4)) else (if r3 = (jn 3) then (kI (pcl GG lay d 249 [.ref 1, .int r1] M3) fun r4 M4 => (kV (pcl GG lay d 204 [.ref 29, .int l1, .int (jn 1), .int r4, .int r2] M4) fun M5 => (rV M5))) else (if r3 = (jn 4) then (kI (pcl GG lay d 249 [.ref 1, .int r1] M3) fun r4 M4 => (kV (pcl GG lay d 204 [.ref 29, .int l1, .int (jn 1), .int r4, .int r2] M4) fun M5 => (rV M5))) else (if r3 = (jn 5) then (kI (pcl GG lay d 249 [.ref 1, .int r1] M3) fun r4 M4 => (kV (pcl GG lay d 204 [.ref 29, .int l1, .int (jn 1), .int r4, .int r2] M4) fun M5 => (rV M5))) else (if r3 = (jn 6) then (kV (pcl GG lay d 209 [.ref 29, .int l1] M3) fun M4 => (rV M4)) else (if r3 = (jn 7) then (kV (pcl GG lay d 209 [.ref 29, .int l1] M3) fun M4 => (rV M4)) else (if r3 = (jn 8) then (kV (pcl GG lay d 209 [.ref 29, .int l1] M3) fun M4 => (rV M4)) else (if r3 = (jn 9) then (kV (pcl GG lay d 209 [.ref 29, .int l1] M3) fun M4 => (rV M4)) else (if r3 = (jn 10) then (kI (pcl GG lay d 249 [.ref 1, .int r1] M3) fun r4 M4 => (kV (pcl GG lay d 204 [.ref 29, .int l1, .int (jn 1), .int r4, .int r2] M4) fun M5 => (rV M5))) else (if r3 = (jn 11) then (kI (pcl GG lay d 249 [.ref 1, .int r1] M3) fun r4 M4 => (kV (pcl GG lay d 204 [.ref 29, .int l1, .int (jn 1), .int r4, .int r2] M4) fun M5 => (rV M5))) else (if r3 = (jn 12) then (kV (pcl GG lay d 209 [.ref 29, .int l1] M3) fun M4 => (rV M4)) else (kI (pcl GG lay d 249 [.ref 1, .int r1] M3) fun r4 M4 => (kV (pcl GG lay d 204 [.ref 29, .int l1, .int (jn 1), .int r4, .int r2] M4) fun M5 => (rV M5))))))))))))))))))) := by
  refine (pcl_un (mt := t_206) (by decide) rfl (Nat.le_of_ble_eq_true rfl)).trans ?_
  show E_206 d (0, [some (.ref 29), some (.int l1), none, none], [], M) = _
  refine (evn_adv 3 (q' := (5, [some (.ref 29), some (.int l1), none, none], [.int l1, .ref 33], M)) rfl).trans ?_
  refine (e_kI (q := (5, [some (.ref 29), some (.int l1), none, none], [.int l1, .ref 33])) (q2 := (8, [some (.ref 29), some (.int l1), none, none], [])) (M := M) (o := (pcl GG lay d 65 [.ref 33, .int l1] M)) (hf := rfl) rfl rfl).trans ?_
  refine kI_in (fun r1 M1 => ?_)
  refine (evn_adv 4 (q' := (14, [some (.ref 29), some (.int l1), some (.int r1), none], [.int l1, .ref 34], M1)) rfl).trans ?_
  refine (e_kI (q := (14, [some (.ref 29), some (.int l1), some (.int r1), none], [.int l1, .ref 34])) (q2 := (17, [some (.ref 29), some (.int l1), some (.int r1), none], [])) (M := M1) (o := (pcl GG lay d 65 [.ref 34, .int l1] M1)) (hf := rfl) rfl rfl).trans ?_
  refine kI_in (fun r2 M2 => ?_)
  refine (evn_adv 4 (q' := (23, [some (.ref 29), some (.int l1), some (.int r1), some (.int r2)], [.int r1, .ref 1], M2)) rfl).trans ?_
  refine (e_kI (q := (23, [some (.ref 29), some (.int l1), some (.int r1), some (.int r2)], [.int r1, .ref 1])) (q2 := (26, [some (.ref 29), some (.int l1), some (.int r1), some (.int r2)], [])) (M := M2) (o := (pcl GG lay d 248 [.ref 1, .int r1] M2)) (hf := rfl) rfl rfl).trans ?_
  refine kI_in (fun r3 M3 => ?_)
  refine (e_sw0 (dflt := 147) (lo := ((0 : Nat) : Int)) (ts := [92, 121, 130, 147, 147, 147, 139, 139, 139, 139, 147, 147, 139]) (hf := rfl) rfl).trans ?_
  refine sw_cons (lo := 0) (F := fun pc => E_206 d (pc, [some (.ref 29), some (.int l1), some (.int r1), some (.int r2)], [], M3)) (by decide) ?_ ?_
  · refine (evn_adv 6 (q' := (100, [some (.ref 29), some (.int l1), some (.int r1), some (.int r2)], [.int r1, .ref 1, .ref 29, .int l1, .ref 29], M3)) rfl).trans ?_
    refine (e_kI (q := (100, [some (.ref 29), some (.int l1), some (.int r1), some (.int r2)], [.int r1, .ref 1, .ref 29, .int l1, .ref 29])) (q2 := (103, [some (.ref 29), some (.int l1), some (.int r1), some (.int r2)], [.ref 29, .int l1, .ref 29])) (M := M3) (o := (pcl GG lay d 249 [.ref 1, .int r1] M3)) (hf := rfl) rfl rfl).trans ?_
    refine kI_in (fun r4 M4 => ?_)
    refine (evn_adv 4 (q' := (109, [some (.ref 29), some (.int l1), some (.int r1), some (.int r2)], [.int l1, .ref 35, .int r2, .int r4, .ref 29, .int l1, .ref 29], M4)) rfl).trans ?_
    refine (e_kL (q := (109, [some (.ref 29), some (.int l1), some (.int r1), some (.int r2)], [.int l1, .ref 35, .int r2, .int r4, .ref 29, .int l1, .ref 29])) (q2 := (112, [some (.ref 29), some (.int l1), some (.int r1), some (.int r2)], [.int r2, .int r4, .ref 29, .int l1, .ref 29])) (M := M4) (o := (pcl GG lay d 67 [.ref 35, .int l1] M4)) (hf := rfl) rfl rfl).trans ?_
    refine kL_in (fun r5 M5 => ?_)
    refine (e_kI (q := (112, [some (.ref 29), some (.int l1), some (.int r1), some (.int r2)], [.long r5, .int r2, .int r4, .ref 29, .int l1, .ref 29])) (q2 := (115, [some (.ref 29), some (.int l1), some (.int r1), some (.int r2)], [.int l1, .ref 29])) (M := M5) (o := (pcl GG lay d 207 [.ref 29, .int r4, .int r2, .long r5] M5)) (hf := rfl) rfl rfl).trans ?_
    refine kI_in (fun r6 M6 => ?_)
    refine (e_kV (q := (115, [some (.ref 29), some (.int l1), some (.int r1), some (.int r2)], [.int r6, .int l1, .ref 29])) (q2 := (118, [some (.ref 29), some (.int l1), some (.int r1), some (.int r2)], [])) (M := M6) (o := (pcl GG lay d 205 [.ref 29, .int l1, .int r6] M6)) (hf := rfl) rfl rfl).trans ?_
    refine kV_in (fun M7 => ?_)
    refine (evn_adv 1 (q' := (162, [some (.ref 29), some (.int l1), some (.int r1), some (.int r2)], [], M7)) rfl).trans ?_
    exact evn_end 1 rfl
  refine sw_cons (lo := 1) (F := fun pc => E_206 d (pc, [some (.ref 29), some (.int l1), some (.int r1), some (.int r2)], [], M3)) (by decide) ?_ ?_
  · refine (evn_adv 3 (q' := (124, [some (.ref 29), some (.int l1), some (.int r1), some (.int r2)], [.int r2, .int l1, .ref 29], M3)) rfl).trans ?_
    refine (e_kV (q := (124, [some (.ref 29), some (.int l1), some (.int r1), some (.int r2)], [.int r2, .int l1, .ref 29])) (q2 := (127, [some (.ref 29), some (.int l1), some (.int r1), some (.int r2)], [])) (M := M3) (o := (pcl GG lay d 205 [.ref 29, .int l1, .int r2] M3)) (hf := rfl) rfl rfl).trans ?_
    refine kV_in (fun M4 => ?_)
    refine (evn_adv 1 (q' := (162, [some (.ref 29), some (.int l1), some (.int r1), some (.int r2)], [], M4)) rfl).trans ?_
    exact evn_end 1 rfl
  refine sw_cons (lo := 2) (F := fun pc => E_206 d (pc, [some (.ref 29), some (.int l1), some (.int r1), some (.int r2)], [], M3)) (by decide) ?_ ?_
  · refine (evn_adv 3 (q' := (133, [some (.ref 29), some (.int l1), some (.int r1), some (.int r2)], [.int (jz 1), .int l1, .ref 29], M3)) rfl).trans ?_
    refine (e_kV (q := (133, [some (.ref 29), some (.int l1), some (.int r1), some (.int r2)], [.int (jz 1), .int l1, .ref 29])) (q2 := (136, [some (.ref 29), some (.int l1), some (.int r1), some (.int r2)], [])) (M := M3) (o := (pcl GG lay d 205 [.ref 29, .int l1, .int (jz 1)] M3)) (hf := rfl) rfl rfl).trans ?_
    refine kV_in (fun M4 => ?_)
    refine (evn_adv 1 (q' := (162, [some (.ref 29), some (.int l1), some (.int r1), some (.int r2)], [], M4)) rfl).trans ?_
    exact evn_end 1 rfl
  refine sw_cons (lo := 3) (F := fun pc => E_206 d (pc, [some (.ref 29), some (.int l1), some (.int r1), some (.int r2)], [], M3)) (by decide) ?_ ?_
  · refine (evn_adv 6 (q' := (155, [some (.ref 29), some (.int l1), some (.int r1), some (.int r2)], [.int r1, .ref 1, .int (jn 1), .int l1, .ref 29], M3)) rfl).trans ?_
    refine (e_kI (q := (155, [some (.ref 29), some (.int l1), some (.int r1), some (.int r2)], [.int r1, .ref 1, .int (jn 1), .int l1, .ref 29])) (q2 := (158, [some (.ref 29), some (.int l1), some (.int r1), some (.int r2)], [.int (jn 1), .int l1, .ref 29])) (M := M3) (o := (pcl GG lay d 249 [.ref 1, .int r1] M3)) (hf := rfl) rfl rfl).trans ?_
    refine kI_in (fun r4 M4 => ?_)
    refine (evn_adv 1 (q' := (159, [some (.ref 29), some (.int l1), some (.int r1), some (.int r2)], [.int r2, .int r4, .int (jn 1), .int l1, .ref 29], M4)) rfl).trans ?_
    refine (e_kV (q := (159, [some (.ref 29), some (.int l1), some (.int r1), some (.int r2)], [.int r2, .int r4, .int (jn 1), .int l1, .ref 29])) (q2 := (162, [some (.ref 29), some (.int l1), some (.int r1), some (.int r2)], [])) (M := M4) (o := (pcl GG lay d 204 [.ref 29, .int l1, .int (jn 1), .int r4, .int r2] M4)) (hf := rfl) rfl rfl).trans ?_
    refine kV_in (fun M5 => ?_)
    exact evn_end 1 rfl
  refine sw_cons (lo := 4) (F := fun pc => E_206 d (pc, [some (.ref 29), some (.int l1), some (.int r1), some (.int r2)], [], M3)) (by decide) ?_ ?_
  · refine (evn_adv 6 (q' := (155, [some (.ref 29), some (.int l1), some (.int r1), some (.int r2)], [.int r1, .ref 1, .int (jn 1), .int l1, .ref 29], M3)) rfl).trans ?_
    refine (e_kI (q := (155, [some (.ref 29), some (.int l1), some (.int r1), some (.int r2)], [.int r1, .ref 1, .int (jn 1), .int l1, .ref 29])) (q2 := (158, [some (.ref 29), some (.int l1), some (.int r1), some (.int r2)], [.int (jn 1), .int l1, .ref 29])) (M := M3) (o := (pcl GG lay d 249 [.ref 1, .int r1] M3)) (hf := rfl) rfl rfl).trans ?_
    refine kI_in (fun r4 M4 => ?_)
    refine (evn_adv 1 (q' := (159, [some (.ref 29), some (.int l1), some (.int r1), some (.int r2)], [.int r2, .int r4, .int (jn 1), .int l1, .ref 29], M4)) rfl).trans ?_
    refine (e_kV (q := (159, [some (.ref 29), some (.int l1), some (.int r1), some (.int r2)], [.int r2, .int r4, .int (jn 1), .int l1, .ref 29])) (q2 := (162, [some (.ref 29), some (.int l1), some (.int r1), some (.int r2)], [])) (M := M4) (o := (pcl GG lay d 204 [.ref 29, .int l1, .int (jn 1), .int r4, .int r2] M4)) (hf := rfl) rfl rfl).trans ?_
    refine kV_in (fun M5 => ?_)
    exact evn_end 1 rfl
  refine sw_cons (lo := 5) (F := fun pc => E_206 d (pc, [some (.ref 29), some (.int l1), some (.int r1), some (.int r2)], [], M3)) (by decide) ?_ ?_
  · refine (evn_adv 6 (q' := (155, [some (.ref 29), some (.int l1), some (.int r1), some (.int r2)], [.int r1, .ref 1, .int (jn 1), .int l1, .ref 29], M3)) rfl).trans ?_
    refine (e_kI (q := (155, [some (.ref 29), some (.int l1), some (.int r1), some (.int r2)], [.int r1, .ref 1, .int (jn 1), .int l1, .ref 29])) (q2 := (158, [some (.ref 29), some (.int l1), some (.int r1), some (.int r2)], [.int (jn 1), .int l1, .ref 29])) (M := M3) (o := (pcl GG lay d 249 [.ref 1, .int r1] M3)) (hf := rfl) rfl rfl).trans ?_
    refine kI_in (fun r4 M4 => ?_)
    refine (evn_adv 1 (q' := (159, [some (.ref 29), some (.int l1), some (.int r1), some (.int r2)], [.int r2, .int r4, .int (jn 1), .int l1, .ref 29], M4)) rfl).trans ?_
    refine (e_kV (q := (159, [some (.ref 29), some (.int l1), some (.int r1), some (.int r2)], [.int r2, .int r4, .int (jn 1), .int l1, .ref 29])) (q2 := (162, [some (.ref 29), some (.int l1), some (.int r1), some (.int r2)], [])) (M := M4) (o := (pcl GG lay d 204 [.ref 29, .int l1, .int (jn 1), .int r4, .int r2] M4)) (hf := rfl) rfl rfl).trans ?_
    refine kV_in (fun M5 => ?_)
    exact evn_end 1 rfl
  refine sw_cons (lo := 6) (F := fun pc => E_206 d (pc, [some (.ref 29), some (.int l1), some (.int r1), some (.int r2)], [], M3)) (by decide) ?_ ?_
  · refine (evn_adv 2 (q' := (141, [some (.ref 29), some (.int l1), some (.int r1), some (.int r2)], [.int l1, .ref 29], M3)) rfl).trans ?_
    refine (e_kV (q := (141, [some (.ref 29), some (.int l1), some (.int r1), some (.int r2)], [.int l1, .ref 29])) (q2 := (144, [some (.ref 29), some (.int l1), some (.int r1), some (.int r2)], [])) (M := M3) (o := (pcl GG lay d 209 [.ref 29, .int l1] M3)) (hf := rfl) rfl rfl).trans ?_
    refine kV_in (fun M4 => ?_)
    refine (evn_adv 1 (q' := (162, [some (.ref 29), some (.int l1), some (.int r1), some (.int r2)], [], M4)) rfl).trans ?_
    exact evn_end 1 rfl
  refine sw_cons (lo := 7) (F := fun pc => E_206 d (pc, [some (.ref 29), some (.int l1), some (.int r1), some (.int r2)], [], M3)) (by decide) ?_ ?_
  · refine (evn_adv 2 (q' := (141, [some (.ref 29), some (.int l1), some (.int r1), some (.int r2)], [.int l1, .ref 29], M3)) rfl).trans ?_
    refine (e_kV (q := (141, [some (.ref 29), some (.int l1), some (.int r1), some (.int r2)], [.int l1, .ref 29])) (q2 := (144, [some (.ref 29), some (.int l1), some (.int r1), some (.int r2)], [])) (M := M3) (o := (pcl GG lay d 209 [.ref 29, .int l1] M3)) (hf := rfl) rfl rfl).trans ?_
    refine kV_in (fun M4 => ?_)
    refine (evn_adv 1 (q' := (162, [some (.ref 29), some (.int l1), some (.int r1), some (.int r2)], [], M4)) rfl).trans ?_
    exact evn_end 1 rfl
  refine sw_cons (lo := 8) (F := fun pc => E_206 d (pc, [some (.ref 29), some (.int l1), some (.int r1), some (.int r2)], [], M3)) (by decide) ?_ ?_
  · refine (evn_adv 2 (q' := (141, [some (.ref 29), some (.int l1), some (.int r1), some (.int r2)], [.int l1, .ref 29], M3)) rfl).trans ?_
    refine (e_kV (q := (141, [some (.ref 29), some (.int l1), some (.int r1), some (.int r2)], [.int l1, .ref 29])) (q2 := (144, [some (.ref 29), some (.int l1), some (.int r1), some (.int r2)], [])) (M := M3) (o := (pcl GG lay d 209 [.ref 29, .int l1] M3)) (hf := rfl) rfl rfl).trans ?_
    refine kV_in (fun M4 => ?_)
    refine (evn_adv 1 (q' := (162, [some (.ref 29), some (.int l1), some (.int r1), some (.int r2)], [], M4)) rfl).trans ?_
    exact evn_end 1 rfl
  refine sw_cons (lo := 9) (F := fun pc => E_206 d (pc, [some (.ref 29), some (.int l1), some (.int r1), some (.int r2)], [], M3)) (by decide) ?_ ?_
  · refine (evn_adv 2 (q' := (141, [some (.ref 29), some (.int l1), some (.int r1), some (.int r2)], [.int l1, .ref 29], M3)) rfl).trans ?_
    refine (e_kV (q := (141, [some (.ref 29), some (.int l1), some (.int r1), some (.int r2)], [.int l1, .ref 29])) (q2 := (144, [some (.ref 29), some (.int l1), some (.int r1), some (.int r2)], [])) (M := M3) (o := (pcl GG lay d 209 [.ref 29, .int l1] M3)) (hf := rfl) rfl rfl).trans ?_
    refine kV_in (fun M4 => ?_)
    refine (evn_adv 1 (q' := (162, [some (.ref 29), some (.int l1), some (.int r1), some (.int r2)], [], M4)) rfl).trans ?_
    exact evn_end 1 rfl
  refine sw_cons (lo := 10) (F := fun pc => E_206 d (pc, [some (.ref 29), some (.int l1), some (.int r1), some (.int r2)], [], M3)) (by decide) ?_ ?_
  · refine (evn_adv 6 (q' := (155, [some (.ref 29), some (.int l1), some (.int r1), some (.int r2)], [.int r1, .ref 1, .int (jn 1), .int l1, .ref 29], M3)) rfl).trans ?_
    refine (e_kI (q := (155, [some (.ref 29), some (.int l1), some (.int r1), some (.int r2)], [.int r1, .ref 1, .int (jn 1), .int l1, .ref 29])) (q2 := (158, [some (.ref 29), some (.int l1), some (.int r1), some (.int r2)], [.int (jn 1), .int l1, .ref 29])) (M := M3) (o := (pcl GG lay d 249 [.ref 1, .int r1] M3)) (hf := rfl) rfl rfl).trans ?_
    refine kI_in (fun r4 M4 => ?_)
    refine (evn_adv 1 (q' := (159, [some (.ref 29), some (.int l1), some (.int r1), some (.int r2)], [.int r2, .int r4, .int (jn 1), .int l1, .ref 29], M4)) rfl).trans ?_
    refine (e_kV (q := (159, [some (.ref 29), some (.int l1), some (.int r1), some (.int r2)], [.int r2, .int r4, .int (jn 1), .int l1, .ref 29])) (q2 := (162, [some (.ref 29), some (.int l1), some (.int r1), some (.int r2)], [])) (M := M4) (o := (pcl GG lay d 204 [.ref 29, .int l1, .int (jn 1), .int r4, .int r2] M4)) (hf := rfl) rfl rfl).trans ?_
    refine kV_in (fun M5 => ?_)
    exact evn_end 1 rfl
  refine sw_cons (lo := 11) (F := fun pc => E_206 d (pc, [some (.ref 29), some (.int l1), some (.int r1), some (.int r2)], [], M3)) (by decide) ?_ ?_
  · refine (evn_adv 6 (q' := (155, [some (.ref 29), some (.int l1), some (.int r1), some (.int r2)], [.int r1, .ref 1, .int (jn 1), .int l1, .ref 29], M3)) rfl).trans ?_
    refine (e_kI (q := (155, [some (.ref 29), some (.int l1), some (.int r1), some (.int r2)], [.int r1, .ref 1, .int (jn 1), .int l1, .ref 29])) (q2 := (158, [some (.ref 29), some (.int l1), some (.int r1), some (.int r2)], [.int (jn 1), .int l1, .ref 29])) (M := M3) (o := (pcl GG lay d 249 [.ref 1, .int r1] M3)) (hf := rfl) rfl rfl).trans ?_
    refine kI_in (fun r4 M4 => ?_)
    refine (evn_adv 1 (q' := (159, [some (.ref 29), some (.int l1), some (.int r1), some (.int r2)], [.int r2, .int r4, .int (jn 1), .int l1, .ref 29], M4)) rfl).trans ?_
    refine (e_kV (q := (159, [some (.ref 29), some (.int l1), some (.int r1), some (.int r2)], [.int r2, .int r4, .int (jn 1), .int l1, .ref 29])) (q2 := (162, [some (.ref 29), some (.int l1), some (.int r1), some (.int r2)], [])) (M := M4) (o := (pcl GG lay d 204 [.ref 29, .int l1, .int (jn 1), .int r4, .int r2] M4)) (hf := rfl) rfl rfl).trans ?_
    refine kV_in (fun M5 => ?_)
    exact evn_end 1 rfl
  refine sw_cons (lo := 12) (F := fun pc => E_206 d (pc, [some (.ref 29), some (.int l1), some (.int r1), some (.int r2)], [], M3)) (by decide) ?_ ?_
  · refine (evn_adv 2 (q' := (141, [some (.ref 29), some (.int l1), some (.int r1), some (.int r2)], [.int l1, .ref 29], M3)) rfl).trans ?_
    refine (e_kV (q := (141, [some (.ref 29), some (.int l1), some (.int r1), some (.int r2)], [.int l1, .ref 29])) (q2 := (144, [some (.ref 29), some (.int l1), some (.int r1), some (.int r2)], [])) (M := M3) (o := (pcl GG lay d 209 [.ref 29, .int l1] M3)) (hf := rfl) rfl rfl).trans ?_
    refine kV_in (fun M4 => ?_)
    refine (evn_adv 1 (q' := (162, [some (.ref 29), some (.int l1), some (.int r1), some (.int r2)], [], M4)) rfl).trans ?_
    exact evn_end 1 rfl
  show E_206 d (147, [some (.ref 29), some (.int l1), some (.int r1), some (.int r2)], [], M3) = _
  refine (evn_adv 6 (q' := (155, [some (.ref 29), some (.int l1), some (.int r1), some (.int r2)], [.int r1, .ref 1, .int (jn 1), .int l1, .ref 29], M3)) rfl).trans ?_
  refine (e_kI (q := (155, [some (.ref 29), some (.int l1), some (.int r1), some (.int r2)], [.int r1, .ref 1, .int (jn 1), .int l1, .ref 29])) (q2 := (158, [some (.ref 29), some (.int l1), some (.int r1), some (.int r2)], [.int (jn 1), .int l1, .ref 29])) (M := M3) (o := (pcl GG lay d 249 [.ref 1, .int r1] M3)) (hf := rfl) rfl rfl).trans ?_
  refine kI_in (fun r4 M4 => ?_)
  refine (evn_adv 1 (q' := (159, [some (.ref 29), some (.int l1), some (.int r1), some (.int r2)], [.int r2, .int r4, .int (jn 1), .int l1, .ref 29], M4)) rfl).trans ?_
  refine (e_kV (q := (159, [some (.ref 29), some (.int l1), some (.int r1), some (.int r2)], [.int r2, .int r4, .int (jn 1), .int l1, .ref 29])) (q2 := (162, [some (.ref 29), some (.int l1), some (.int r1), some (.int r2)], [])) (M := M4) (o := (pcl GG lay d 204 [.ref 29, .int l1, .int (jn 1), .int r4, .int r2] M4)) (hf := rfl) rfl rfl).trans ?_
  refine kV_in (fun M5 => ?_)
  exact evn_end 1 rfl
/-- TermStrategies$Runner.rewritten(IIJ)I -/
noncomputable abbrev E_207 (d : Nat) : PQ → PO := evn (rnn k_207 lay none (pcl GG lay d) 1)
theorem q_207 (d : Nat) (l1 : Int32) (l2 : Int32) (l3 : Int64) (M : PM) : pcl GG lay (d + 1) 207 [.ref 29, .int l1, .int l2, .long l3] M = (kI (pcl GG lay d 60 [.int l1] M) fun r1 M1 => (kI (pcl GG lay d 188 [.ref 26, .int r1, .int l2, .int (M1.1 1 8)] M1) fun r2 M2 => (if r2 = jn 0 then (rI (jz 1) M2) else (if (M2.1 29 13) < (jn 40) then (kI (pcl GG lay d 61 [.int l1] M2) fun r3 M3 => (kI (pcl GG lay d 194 [.ref 26, .int r3] M3) fun r4 M4 => (if (jn 40) < r4 then (wr (sI M4 29 (va_up (M4.1 29) 16 (jn 1))) fun M5 => (rI (jz 1) M5)) else (wr (sI M4 29 (va_up (M4.1 29) 13 ((M4.1 29 13) + (jn 1)))) fun M5 => (kV (pcl GG lay d 254 [.ref 30, .int l1, .long l3] M5) fun M6 => (kI (pcl GG lay d 61 [.int l1] M6) fun r7 M7 => (kI (pcl GG lay d 195 [.ref 26, .int r7, .int (M7.1 29 14)] M7) fun r8 M8 => (wr (sI M8 29 (va_up (M8.1 29) 14 r8)) fun M9 => (rI (M6.1 29 14) M9))))))))) else (wr (sI M2 29 (va_up (M2.1 29) 16 (jn 1))) fun M3 => (rI (jz 1) M3)))))) := by
  refine (pcl_un (mt := t_207) (by decide) rfl (Nat.le_of_ble_eq_true rfl)).trans ?_
  show E_207 d (0, [some (.ref 29), some (.int l1), some (.int l2), some (.long l3), none, none], [], M) = _
  refine (evn_adv 3 (q' := (5, [some (.ref 29), some (.int l1), some (.int l2), some (.long l3), none, none], [.int l1, .ref 26], M)) rfl).trans ?_
  refine (e_kI (q := (5, [some (.ref 29), some (.int l1), some (.int l2), some (.long l3), none, none], [.int l1, .ref 26])) (q2 := (8, [some (.ref 29), some (.int l1), some (.int l2), some (.long l3), none, none], [.ref 26])) (M := M) (o := (pcl GG lay d 60 [.int l1] M)) (hf := rfl) rfl rfl).trans ?_
  refine kI_in (fun r1 M1 => ?_)
  refine (evn_adv 4 (q' := (16, [some (.ref 29), some (.int l1), some (.int l2), some (.long l3), none, none], [.int (M1.1 1 8), .int l2, .int r1, .ref 26], M1)) rfl).trans ?_
  refine (e_kI (q := (16, [some (.ref 29), some (.int l1), some (.int l2), some (.long l3), none, none], [.int (M1.1 1 8), .int l2, .int r1, .ref 26])) (q2 := (19, [some (.ref 29), some (.int l1), some (.int l2), some (.long l3), none, none], [])) (M := M1) (o := (pcl GG lay d 188 [.ref 26, .int r1, .int l2, .int (M1.1 1 8)] M1)) (hf := rfl) rfl rfl).trans ?_
  refine kI_in (fun r2 M2 => ?_)
  refine (e_if_ne (hf := rfl)).trans ?_
  refine ite_in ?_ ?_
  · refine (evn_adv 1 (q' := (23, [some (.ref 29), some (.int l1), some (.int l2), some (.long l3), none, none], [.int (jz 1)], M2)) rfl).trans ?_
    exact evn_end 1 rfl
  · refine (evn_adv 3 (q' := (30, [some (.ref 29), some (.int l1), some (.int l2), some (.long l3), none, none], [.int (jn 40), .int (M2.1 29 13)], M2)) rfl).trans ?_
    refine (e_ic_ge (hf := rfl)).trans ?_
    refine ite_in ?_ ?_
    · refine (evn_adv 3 (q' := (38, [some (.ref 29), some (.int l1), some (.int l2), some (.long l3), none, none], [.int l1, .ref 26], M2)) rfl).trans ?_
      refine (e_kI (q := (38, [some (.ref 29), some (.int l1), some (.int l2), some (.long l3), none, none], [.int l1, .ref 26])) (q2 := (41, [some (.ref 29), some (.int l1), some (.int l2), some (.long l3), none, none], [.ref 26])) (M := M2) (o := (pcl GG lay d 61 [.int l1] M2)) (hf := rfl) rfl rfl).trans ?_
      refine kI_in (fun r3 M3 => ?_)
      refine (e_kI (q := (41, [some (.ref 29), some (.int l1), some (.int l2), some (.long l3), none, none], [.int r3, .ref 26])) (q2 := (44, [some (.ref 29), some (.int l1), some (.int l2), some (.long l3), none, none], [])) (M := M3) (o := (pcl GG lay d 194 [.ref 26, .int r3] M3)) (hf := rfl) rfl rfl).trans ?_
      refine kI_in (fun r4 M4 => ?_)
      refine (evn_adv 1 (q' := (46, [some (.ref 29), some (.int l1), some (.int l2), some (.long l3), none, none], [.int (jn 40), .int r4], M4)) rfl).trans ?_
      refine (e_ic_le (hf := rfl)).trans ?_
      refine ite_in ?_ ?_
      · refine (evn_adv 2 (q' := (51, [some (.ref 29), some (.int l1), some (.int l2), some (.long l3), none, none], [.int (jn 1), .ref 29], M4)) rfl).trans ?_
        refine (e_putz (q2 := (54, [some (.ref 29), some (.int l1), some (.int l2), some (.long l3), none, none], [])) (k := 29) (j := 16) rfl rfl).trans ?_
        refine (if_pos (Or.inr rfl)).trans ?_
        refine wr_in (f := fun M5 => E_207 d (54, [some (.ref 29), some (.int l1), some (.int l2), some (.long l3), none, none], [], M5)) (fun M5 => ?_)
        refine (evn_adv 1 (q' := (55, [some (.ref 29), some (.int l1), some (.int l2), some (.long l3), none, none], [.int (jz 1)], M5)) rfl).trans ?_
        exact evn_end 1 rfl
      · refine (evn_adv 5 (q' := (63, [some (.ref 29), some (.int l1), some (.int l2), some (.long l3), none, none], [.int ((M4.1 29 13) + (jn 1)), .ref 29], M4)) rfl).trans ?_
        refine (evn_adv 1 (q' := (66, [some (.ref 29), some (.int l1), some (.int l2), some (.long l3), none, none], [], (sI M4 29 (va_up (M4.1 29) 13 ((M4.1 29 13) + (jn 1)))))) rfl).trans ?_
        refine wr_in (f := fun M5 => E_207 d (66, [some (.ref 29), some (.int l1), some (.int l2), some (.long l3), none, none], [], M5)) (fun M5 => ?_)
        refine (evn_adv 4 (q' := (72, [some (.ref 29), some (.int l1), some (.int l2), some (.long l3), none, none], [.long l3, .int l1, .ref 30], M5)) rfl).trans ?_
        refine (e_kV (q := (72, [some (.ref 29), some (.int l1), some (.int l2), some (.long l3), none, none], [.long l3, .int l1, .ref 30])) (q2 := (75, [some (.ref 29), some (.int l1), some (.int l2), some (.long l3), none, none], [])) (M := M5) (o := (pcl GG lay d 254 [.ref 30, .int l1, .long l3] M5)) (hf := rfl) rfl rfl).trans ?_
        refine kV_in (fun M6 => ?_)
        refine (evn_adv 7 (q' := (87, [some (.ref 29), some (.int l1), some (.int l2), some (.long l3), none, some (.int (M6.1 29 14))], [.int l1, .ref 26, .ref 29], M6)) rfl).trans ?_
        refine (e_kI (q := (87, [some (.ref 29), some (.int l1), some (.int l2), some (.long l3), none, some (.int (M6.1 29 14))], [.int l1, .ref 26, .ref 29])) (q2 := (90, [some (.ref 29), some (.int l1), some (.int l2), some (.long l3), none, some (.int (M6.1 29 14))], [.ref 26, .ref 29])) (M := M6) (o := (pcl GG lay d 61 [.int l1] M6)) (hf := rfl) rfl rfl).trans ?_
        refine kI_in (fun r7 M7 => ?_)
        refine (evn_adv 2 (q' := (94, [some (.ref 29), some (.int l1), some (.int l2), some (.long l3), none, some (.int (M6.1 29 14))], [.int (M7.1 29 14), .int r7, .ref 26, .ref 29], M7)) rfl).trans ?_
        refine (e_kI (q := (94, [some (.ref 29), some (.int l1), some (.int l2), some (.long l3), none, some (.int (M6.1 29 14))], [.int (M7.1 29 14), .int r7, .ref 26, .ref 29])) (q2 := (97, [some (.ref 29), some (.int l1), some (.int l2), some (.long l3), none, some (.int (M6.1 29 14))], [.ref 29])) (M := M7) (o := (pcl GG lay d 195 [.ref 26, .int r7, .int (M7.1 29 14)] M7)) (hf := rfl) rfl rfl).trans ?_
        refine kI_in (fun r8 M8 => ?_)
        refine (evn_adv 1 (q' := (100, [some (.ref 29), some (.int l1), some (.int l2), some (.long l3), none, some (.int (M6.1 29 14))], [], (sI M8 29 (va_up (M8.1 29) 14 r8)))) rfl).trans ?_
        refine wr_in (f := fun M9 => E_207 d (100, [some (.ref 29), some (.int l1), some (.int l2), some (.long l3), none, some (.int (M6.1 29 14))], [], M9)) (fun M9 => ?_)
        refine (evn_adv 1 (q' := (102, [some (.ref 29), some (.int l1), some (.int l2), some (.long l3), none, some (.int (M6.1 29 14))], [.int (M6.1 29 14)], M9)) rfl).trans ?_
        exact evn_end 1 rfl
    · refine (evn_adv 2 (q' := (51, [some (.ref 29), some (.int l1), some (.int l2), some (.long l3), none, none], [.int (jn 1), .ref 29], M2)) rfl).trans ?_
      refine (e_putz (q2 := (54, [some (.ref 29), some (.int l1), some (.int l2), some (.long l3), none, none], [])) (k := 29) (j := 16) rfl rfl).trans ?_
      refine (if_pos (Or.inr rfl)).trans ?_
      refine wr_in (f := fun M3 => E_207 d (54, [some (.ref 29), some (.int l1), some (.int l2), some (.long l3), none, none], [], M3)) (fun M3 => ?_)
      refine (evn_adv 1 (q' := (55, [some (.ref 29), some (.int l1), some (.int l2), some (.long l3), none, none], [.int (jz 1)], M3)) rfl).trans ?_
      exact evn_end 1 rfl
/-- TermStrategies$Runner.goOnFromWhole(I)V -/
noncomputable abbrev E_208 (d : Nat) : PQ → PO := evn (rnn k_208 lay none (pcl GG lay d) 0)
theorem q_208 (d : Nat) (l1 : Int32) (M : PM) : pcl GG lay (d + 1) 208 [.ref 29, .int l1] M = (kI (pcl GG lay d 65 [.ref 33, .int l1] M) fun r1 M1 => (kI (pcl GG lay d 65 [.ref 34, .int l1] M1) fun r2 M2 => (if (M2.1 29 15) = (jz 1) then (kI (pcl GG lay d 248 [.ref 1, .int r1] M2) fun r3 M3 => (if r3 = (jn 3) then (if (jn 1) = jn 0 then (kI (pcl GG lay d 250 [.ref 1, .int r1] M3) fun r4 M4 => (kV (pcl GG lay d 204 [.ref 29, .int l1, .int (jn 5), .int r4, .int (M4.1 29 15)] M4) fun M5 => E_208 d (317, [some (.ref 29), some (.int l1), some (.int r1), some (.int r2), some (.int (jn 1))], [], M5))) else (kV (pcl GG lay d 205 [.ref 29, .int l1, .int (jz 1)] M3) fun M4 => E_208 d (317, [some (.ref 29), some (.int l1), some (.int r1), some (.int r2), some (.int (jn 1))], [], M4))) else (if r3 = (jn 4) then (if (jn 1) = jn 0 then (kV (pcl GG lay d 205 [.ref 29, .int l1, .int (M3.1 29 15)] M3) fun M4 => E_208 d (317, [some (.ref 29), some (.int l1), some (.int r1), some (.int r2), some (.int (jn 1))], [], M4)) else (kI (pcl GG lay d 250 [.ref 1, .int r1] M3) fun r4 M4 => (kV (pcl GG lay d 204 [.ref 29, .int l1, .int (jn 5), .int r4, .int r2] M4) fun M5 => E_208 d (317, [some (.ref 29), some (.int l1), some (.int r1), some (.int r2), some (.int (jn 1))], [], M5)))) else (if r3 = (jn 5) then E_208 d (299, [some (.ref 29), some (.int l1), some (.int r1), some (.int r2), some (.int (jn 1))], [], M3) else (if r3 = (jn 6) then E_208 d (299, [some (.ref 29), some (.int l1), some (.int r1), some (.int r2), some (.int (jn 1))], [], M3) else (if r3 = (jn 7) then E_208 d (299, [some (.ref 29), some (.int l1), some (.int r1), some (.int r2), some (.int (jn 1))], [], M3) else (if r3 = (jn 8) then E_208 d (299, [some (.ref 29), some (.int l1), some (.int r1), some (.int r2), some (.int (jn 1))], [], M3) else (if r3 = (jn 9) then E_208 d (299, [some (.ref 29), some (.int l1), some (.int r1), some (.int r2), some (.int (jn 1))], [], M3) else (if r3 = (jn 10) then (if (jn 1) = jn 0 then (kV (pcl GG lay d 203 [.ref 29, .int l1, .int (M3.1 29 15)] M3) fun M4 => (kV (pcl GG lay d 209 [.ref 29, .int l1] M4) fun M5 => E_208 d (317, [some (.ref 29), some (.int l1), some (.int r1), some (.int r2), some (.int (jn 1))], [], M5))) else (kV (pcl GG lay d 205 [.ref 29, .int l1, .int (jz 1)] M3) fun M4 => E_208 d (317, [some (.ref 29), some (.int l1), some (.int r1), some (.int r2), some (.int (jn 1))], [], M4))) else (if r3 = (jn 11) then (if (jn 1) = jn 0 then (kV (pcl GG lay d 205 [.ref 29, .int l1, .int (M3.1 29 15)] M3) fun M4 => E_208 d (317, [some (.ref 29), some (.int l1), some (.int r1), some (.int r2), some (.int (jn 1))], [], M4)) else (kV (pcl GG lay d 209 [.ref 29, .int l1] M3) fun M4 => E_208 d (317, [some (.ref 29), some (.int l1), some (.int r1), some (.int r2), some (.int (jn 1))], [], M4))) else (if r3 = (jn 12) then (if (jn 1) = jn 0 then (kI (pcl GG lay d 202 [.ref 29] M3) fun r4 M4 => (if r4 = jn 0 then E_208 d (317, [some (.ref 29), some (.int l1), some (.int r1), some (.int r2), some (.int (jn 1))], [], M4) else (kV (pcl GG lay d 203 [.ref 29, .int l1, .int (M4.1 29 15)] M4) fun M5 => (kV (pcl GG lay d 209 [.ref 29, .int l1] M5) fun M6 => E_208 d (317, [some (.ref 29), some (.int l1), some (.int r1), some (.int r2), some (.int (jn 1))], [], M6))))) else (kV (pcl GG lay d 205 [.ref 29, .int l1, .int r2] M3) fun M4 => E_208 d (317, [some (.ref 29), some (.int l1), some (.int r1), some (.int r2), some (.int (jn 1))], [], M4))) else (if r3 = (jn 13) then (if (jn 1) = jn 0 then (kI (pcl GG lay d 249 [.ref 1, .int r1] M3) fun r4 M4 => (kV (pcl GG lay d 204 [.ref 29, .int l1, .int (jn 1), .int r4, .int (M4.1 29 15)] M4) fun M5 => E_208 d (317, [some (.ref 29), some (.int l1), some (.int r1), some (.int r2), some (.int (jn 1))], [], M5))) else (kV (pcl GG lay d 205 [.ref 29, .int l1, .int r2] M3) fun M4 => E_208 d (317, [some (.ref 29), some (.int l1), some (.int r1), some (.int r2), some (.int (jn 1))], [], M4))) else E_208 d (299, [some (.ref 29), some (.int l1), some (.int r1), some (.int r2), some (.int (jn 1))], [], M3))))))))))))) else (kI (pcl GG lay d 248 [.ref 1, .int r1] M2) fun r3 M3 => (if r3 = (jn 3) then (if (jn 0) = jn 0 then (kI (pcl GG lay d 250 [.ref 1, .int r1] M3) fun r4 M4 => (kV (pcl GG lay d 204 [.ref 29, .int l1, .int (jn 5), .int r4, .int (M4.1 29 15)] M4) fun M5 => E_208 d (317, [some (.ref 29), some (.int l1), some (.int r1), some (.int r2), some (.int (jn 0))], [], M5))) else (kV (pcl GG lay d 205 [.ref 29, .int l1, .int (jz 1)] M3) fun M4 => E_208 d (317, [some (.ref 29), some (.int l1), some (.int r1), some (.int r2), some (.int (jn 0))], [], M4))) else (if r3 = (jn 4) then (if (jn 0) = jn 0 then (kV (pcl GG lay d 205 [.ref 29, .int l1, .int (M3.1 29 15)] M3) fun M4 => E_208 d (317, [some (.ref 29), some (.int l1), some (.int r1), some (.int r2), some (.int (jn 0))], [], M4)) else (kI (pcl GG lay d 250 [.ref 1, .int r1] M3) fun r4 M4 => (kV (pcl GG lay d 204 [.ref 29, .int l1, .int (jn 5), .int r4, .int r2] M4) fun M5 => E_208 d (317, [some (.ref 29), some (.int l1), some (.int r1), some (.int r2), some (.int (jn 0))], [], M5)))) else (if r3 = (jn 5) then E_208 d (299, [some (.ref 29), some (.int l1), some (.int r1), some (.int r2), some (.int (jn 0))], [], M3) else (if r3 = (jn 6) then E_208 d (299, [some (.ref 29), some (.int l1), some (.int r1), some (.int r2), some (.int (jn 0))], [], M3) else (if r3 = (jn 7) then E_208 d (299, [some (.ref 29), some (.int l1), some (.int r1), some (.int r2), some (.int (jn 0))], [], M3) else (if r3 = (jn 8) then E_208 d (299, [some (.ref 29), some (.int l1), some (.int r1), some (.int r2), some (.int (jn 0))], [], M3) else (if r3 = (jn 9) then E_208 d (299, [some (.ref 29), some (.int l1), some (.int r1), some (.int r2), some (.int (jn 0))], [], M3) else (if r3 = (jn 10) then (if (jn 0) = jn 0 then (kV (pcl GG lay d 203 [.ref 29, .int l1, .int (M3.1 29 15)] M3) fun M4 => (kV (pcl GG lay d 209 [.ref 29, .int l1] M4) fun M5 => E_208 d (317, [some (.ref 29), some (.int l1), some (.int r1), some (.int r2), some (.int (jn 0))], [], M5))) else (kV (pcl GG lay d 205 [.ref 29, .int l1, .int (jz 1)] M3) fun M4 => E_208 d (317, [some (.ref 29), some (.int l1), some (.int r1), some (.int r2), some (.int (jn 0))], [], M4))) else (if r3 = (jn 11) then (if (jn 0) = jn 0 then (kV (pcl GG lay d 205 [.ref 29, .int l1, .int (M3.1 29 15)] M3) fun M4 => E_208 d (317, [some (.ref 29), some (.int l1), some (.int r1), some (.int r2), some (.int (jn 0))], [], M4)) else (kV (pcl GG lay d 209 [.ref 29, .int l1] M3) fun M4 => E_208 d (317, [some (.ref 29), some (.int l1), some (.int r1), some (.int r2), some (.int (jn 0))], [], M4))) else (if r3 = (jn 12) then (if (jn 0) = jn 0 then (kI (pcl GG lay d 202 [.ref 29] M3) fun r4 M4 => (if r4 = jn 0 then E_208 d (317, [some (.ref 29), some (.int l1), some (.int r1), some (.int r2), some (.int (jn 0))], [], M4) else (kV (pcl GG lay d 203 [.ref 29, .int l1, .int (M4.1 29 15)] M4) fun M5 => (kV (pcl GG lay d 209 [.ref 29, .int l1] M5) fun M6 => E_208 d (317, [some (.ref 29), some (.int l1), some (.int r1), some (.int r2), some (.int (jn 0))], [], M6))))) else (kV (pcl GG lay d 205 [.ref 29, .int l1, .int r2] M3) fun M4 => E_208 d (317, [some (.ref 29), some (.int l1), some (.int r1), some (.int r2), some (.int (jn 0))], [], M4))) else (if r3 = (jn 13) then (if (jn 0) = jn 0 then (kI (pcl GG lay d 249 [.ref 1, .int r1] M3) fun r4 M4 => (kV (pcl GG lay d 204 [.ref 29, .int l1, .int (jn 1), .int r4, .int (M4.1 29 15)] M4) fun M5 => E_208 d (317, [some (.ref 29), some (.int l1), some (.int r1), some (.int r2), some (.int (jn 0))], [], M5))) else (kV (pcl GG lay d 205 [.ref 29, .int l1, .int r2] M3) fun M4 => E_208 d (317, [some (.ref 29), some (.int l1), some (.int r1), some (.int r2), some (.int (jn 0))], [], M4))) else E_208 d (299, [some (.ref 29), some (.int l1), some (.int r1), some (.int r2), some (.int (jn 0))], [], M3)))))))))))))))) := by
  refine (pcl_un (mt := t_208) (by decide) rfl (Nat.le_of_ble_eq_true rfl)).trans ?_
  show E_208 d (0, [some (.ref 29), some (.int l1), none, none, none], [], M) = _
  refine (evn_adv 3 (q' := (5, [some (.ref 29), some (.int l1), none, none, none], [.int l1, .ref 33], M)) rfl).trans ?_
  refine (e_kI (q := (5, [some (.ref 29), some (.int l1), none, none, none], [.int l1, .ref 33])) (q2 := (8, [some (.ref 29), some (.int l1), none, none, none], [])) (M := M) (o := (pcl GG lay d 65 [.ref 33, .int l1] M)) (hf := rfl) rfl rfl).trans ?_
  refine kI_in (fun r1 M1 => ?_)
  refine (evn_adv 4 (q' := (14, [some (.ref 29), some (.int l1), some (.int r1), none, none], [.int l1, .ref 34], M1)) rfl).trans ?_
  refine (e_kI (q := (14, [some (.ref 29), some (.int l1), some (.int r1), none, none], [.int l1, .ref 34])) (q2 := (17, [some (.ref 29), some (.int l1), some (.int r1), none, none], [])) (M := M1) (o := (pcl GG lay d 65 [.ref 34, .int l1] M1)) (hf := rfl) rfl rfl).trans ?_
  refine kI_in (fun r2 M2 => ?_)
  refine (evn_adv 4 (q' := (23, [some (.ref 29), some (.int l1), some (.int r1), some (.int r2), none], [.int (jz 1), .int (M2.1 29 15)], M2)) rfl).trans ?_
  refine (e_ic_ne (hf := rfl)).trans ?_
  refine ite_in ?_ ?_
  · refine (evn_adv 6 (q' := (38, [some (.ref 29), some (.int l1), some (.int r1), some (.int r2), some (.int (jn 1))], [.int r1, .ref 1], M2)) rfl).trans ?_
    refine (e_kI (q := (38, [some (.ref 29), some (.int l1), some (.int r1), some (.int r2), some (.int (jn 1))], [.int r1, .ref 1])) (q2 := (41, [some (.ref 29), some (.int l1), some (.int r1), some (.int r2), some (.int (jn 1))], [])) (M := M2) (o := (pcl GG lay d 248 [.ref 1, .int r1] M2)) (hf := rfl) rfl rfl).trans ?_
    refine kI_in (fun r3 M3 => ?_)
    refine (e_sw0 (dflt := 299) (lo := ((3 : Nat) : Int)) (ts := [100, 135, 299, 299, 299, 299, 299, 170, 201, 226, 264]) (hf := rfl) rfl).trans ?_
    refine sw_cons (lo := 3) (F := fun pc => E_208 d (pc, [some (.ref 29), some (.int l1), some (.int r1), some (.int r2), some (.int (jn 1))], [], M3)) (by decide) ?_ ?_
    · refine (evn_adv 1 (q' := (102, [some (.ref 29), some (.int l1), some (.int r1), some (.int r2), some (.int (jn 1))], [.int (jn 1)], M3)) rfl).trans ?_
      refine (e_if_eq (hf := rfl)).trans ?_
      refine ite_in ?_ ?_
      · refine (evn_adv 6 (q' := (122, [some (.ref 29), some (.int l1), some (.int r1), some (.int r2), some (.int (jn 1))], [.int r1, .ref 1, .int (jn 5), .int l1, .ref 29], M3)) rfl).trans ?_
        refine (e_kI (q := (122, [some (.ref 29), some (.int l1), some (.int r1), some (.int r2), some (.int (jn 1))], [.int r1, .ref 1, .int (jn 5), .int l1, .ref 29])) (q2 := (125, [some (.ref 29), some (.int l1), some (.int r1), some (.int r2), some (.int (jn 1))], [.int (jn 5), .int l1, .ref 29])) (M := M3) (o := (pcl GG lay d 250 [.ref 1, .int r1] M3)) (hf := rfl) rfl rfl).trans ?_
        refine kI_in (fun r4 M4 => ?_)
        refine (evn_adv 2 (q' := (129, [some (.ref 29), some (.int l1), some (.int r1), some (.int r2), some (.int (jn 1))], [.int (M4.1 29 15), .int r4, .int (jn 5), .int l1, .ref 29], M4)) rfl).trans ?_
        refine (e_kV (q := (129, [some (.ref 29), some (.int l1), some (.int r1), some (.int r2), some (.int (jn 1))], [.int (M4.1 29 15), .int r4, .int (jn 5), .int l1, .ref 29])) (q2 := (132, [some (.ref 29), some (.int l1), some (.int r1), some (.int r2), some (.int (jn 1))], [])) (M := M4) (o := (pcl GG lay d 204 [.ref 29, .int l1, .int (jn 5), .int r4, .int (M4.1 29 15)] M4)) (hf := rfl) rfl rfl).trans ?_
        refine kV_in (fun M5 => ?_)
        refine (evn_adv 1 (q' := (317, [some (.ref 29), some (.int l1), some (.int r1), some (.int r2), some (.int (jn 1))], [], M5)) rfl).trans ?_
        rfl
      · refine (evn_adv 3 (q' := (108, [some (.ref 29), some (.int l1), some (.int r1), some (.int r2), some (.int (jn 1))], [.int (jz 1), .int l1, .ref 29], M3)) rfl).trans ?_
        refine (e_kV (q := (108, [some (.ref 29), some (.int l1), some (.int r1), some (.int r2), some (.int (jn 1))], [.int (jz 1), .int l1, .ref 29])) (q2 := (111, [some (.ref 29), some (.int l1), some (.int r1), some (.int r2), some (.int (jn 1))], [])) (M := M3) (o := (pcl GG lay d 205 [.ref 29, .int l1, .int (jz 1)] M3)) (hf := rfl) rfl rfl).trans ?_
        refine kV_in (fun M4 => ?_)
        refine (evn_adv 1 (q' := (317, [some (.ref 29), some (.int l1), some (.int r1), some (.int r2), some (.int (jn 1))], [], M4)) rfl).trans ?_
        rfl
    refine sw_cons (lo := 4) (F := fun pc => E_208 d (pc, [some (.ref 29), some (.int l1), some (.int r1), some (.int r2), some (.int (jn 1))], [], M3)) (by decide) ?_ ?_
    · refine (evn_adv 1 (q' := (137, [some (.ref 29), some (.int l1), some (.int r1), some (.int r2), some (.int (jn 1))], [.int (jn 1)], M3)) rfl).trans ?_
      refine (e_if_eq (hf := rfl)).trans ?_
      refine ite_in ?_ ?_
      · refine (evn_adv 4 (q' := (164, [some (.ref 29), some (.int l1), some (.int r1), some (.int r2), some (.int (jn 1))], [.int (M3.1 29 15), .int l1, .ref 29], M3)) rfl).trans ?_
        refine (e_kV (q := (164, [some (.ref 29), some (.int l1), some (.int r1), some (.int r2), some (.int (jn 1))], [.int (M3.1 29 15), .int l1, .ref 29])) (q2 := (167, [some (.ref 29), some (.int l1), some (.int r1), some (.int r2), some (.int (jn 1))], [])) (M := M3) (o := (pcl GG lay d 205 [.ref 29, .int l1, .int (M3.1 29 15)] M3)) (hf := rfl) rfl rfl).trans ?_
        refine kV_in (fun M4 => ?_)
        refine (evn_adv 1 (q' := (317, [some (.ref 29), some (.int l1), some (.int r1), some (.int r2), some (.int (jn 1))], [], M4)) rfl).trans ?_
        rfl
      · refine (evn_adv 6 (q' := (148, [some (.ref 29), some (.int l1), some (.int r1), some (.int r2), some (.int (jn 1))], [.int r1, .ref 1, .int (jn 5), .int l1, .ref 29], M3)) rfl).trans ?_
        refine (e_kI (q := (148, [some (.ref 29), some (.int l1), some (.int r1), some (.int r2), some (.int (jn 1))], [.int r1, .ref 1, .int (jn 5), .int l1, .ref 29])) (q2 := (151, [some (.ref 29), some (.int l1), some (.int r1), some (.int r2), some (.int (jn 1))], [.int (jn 5), .int l1, .ref 29])) (M := M3) (o := (pcl GG lay d 250 [.ref 1, .int r1] M3)) (hf := rfl) rfl rfl).trans ?_
        refine kI_in (fun r4 M4 => ?_)
        refine (evn_adv 1 (q' := (152, [some (.ref 29), some (.int l1), some (.int r1), some (.int r2), some (.int (jn 1))], [.int r2, .int r4, .int (jn 5), .int l1, .ref 29], M4)) rfl).trans ?_
        refine (e_kV (q := (152, [some (.ref 29), some (.int l1), some (.int r1), some (.int r2), some (.int (jn 1))], [.int r2, .int r4, .int (jn 5), .int l1, .ref 29])) (q2 := (155, [some (.ref 29), some (.int l1), some (.int r1), some (.int r2), some (.int (jn 1))], [])) (M := M4) (o := (pcl GG lay d 204 [.ref 29, .int l1, .int (jn 5), .int r4, .int r2] M4)) (hf := rfl) rfl rfl).trans ?_
        refine kV_in (fun M5 => ?_)
        refine (evn_adv 1 (q' := (317, [some (.ref 29), some (.int l1), some (.int r1), some (.int r2), some (.int (jn 1))], [], M5)) rfl).trans ?_
        rfl
    refine sw_cons (lo := 5) (F := fun pc => E_208 d (pc, [some (.ref 29), some (.int l1), some (.int r1), some (.int r2), some (.int (jn 1))], [], M3)) (by decide) ?_ ?_
    · rfl
    refine sw_cons (lo := 6) (F := fun pc => E_208 d (pc, [some (.ref 29), some (.int l1), some (.int r1), some (.int r2), some (.int (jn 1))], [], M3)) (by decide) ?_ ?_
    · rfl
    refine sw_cons (lo := 7) (F := fun pc => E_208 d (pc, [some (.ref 29), some (.int l1), some (.int r1), some (.int r2), some (.int (jn 1))], [], M3)) (by decide) ?_ ?_
    · rfl
    refine sw_cons (lo := 8) (F := fun pc => E_208 d (pc, [some (.ref 29), some (.int l1), some (.int r1), some (.int r2), some (.int (jn 1))], [], M3)) (by decide) ?_ ?_
    · rfl
    refine sw_cons (lo := 9) (F := fun pc => E_208 d (pc, [some (.ref 29), some (.int l1), some (.int r1), some (.int r2), some (.int (jn 1))], [], M3)) (by decide) ?_ ?_
    · rfl
    refine sw_cons (lo := 10) (F := fun pc => E_208 d (pc, [some (.ref 29), some (.int l1), some (.int r1), some (.int r2), some (.int (jn 1))], [], M3)) (by decide) ?_ ?_
    · refine (evn_adv 1 (q' := (172, [some (.ref 29), some (.int l1), some (.int r1), some (.int r2), some (.int (jn 1))], [.int (jn 1)], M3)) rfl).trans ?_
      refine (e_if_eq (hf := rfl)).trans ?_
      refine ite_in ?_ ?_
      · refine (evn_adv 4 (q' := (190, [some (.ref 29), some (.int l1), some (.int r1), some (.int r2), some (.int (jn 1))], [.int (M3.1 29 15), .int l1, .ref 29], M3)) rfl).trans ?_
        refine (e_kV (q := (190, [some (.ref 29), some (.int l1), some (.int r1), some (.int r2), some (.int (jn 1))], [.int (M3.1 29 15), .int l1, .ref 29])) (q2 := (193, [some (.ref 29), some (.int l1), some (.int r1), some (.int r2), some (.int (jn 1))], [])) (M := M3) (o := (pcl GG lay d 203 [.ref 29, .int l1, .int (M3.1 29 15)] M3)) (hf := rfl) rfl rfl).trans ?_
        refine kV_in (fun M4 => ?_)
        refine (evn_adv 2 (q' := (195, [some (.ref 29), some (.int l1), some (.int r1), some (.int r2), some (.int (jn 1))], [.int l1, .ref 29], M4)) rfl).trans ?_
        refine (e_kV (q := (195, [some (.ref 29), some (.int l1), some (.int r1), some (.int r2), some (.int (jn 1))], [.int l1, .ref 29])) (q2 := (198, [some (.ref 29), some (.int l1), some (.int r1), some (.int r2), some (.int (jn 1))], [])) (M := M4) (o := (pcl GG lay d 209 [.ref 29, .int l1] M4)) (hf := rfl) rfl rfl).trans ?_
        refine kV_in (fun M5 => ?_)
        refine (evn_adv 1 (q' := (317, [some (.ref 29), some (.int l1), some (.int r1), some (.int r2), some (.int (jn 1))], [], M5)) rfl).trans ?_
        rfl
      · refine (evn_adv 3 (q' := (178, [some (.ref 29), some (.int l1), some (.int r1), some (.int r2), some (.int (jn 1))], [.int (jz 1), .int l1, .ref 29], M3)) rfl).trans ?_
        refine (e_kV (q := (178, [some (.ref 29), some (.int l1), some (.int r1), some (.int r2), some (.int (jn 1))], [.int (jz 1), .int l1, .ref 29])) (q2 := (181, [some (.ref 29), some (.int l1), some (.int r1), some (.int r2), some (.int (jn 1))], [])) (M := M3) (o := (pcl GG lay d 205 [.ref 29, .int l1, .int (jz 1)] M3)) (hf := rfl) rfl rfl).trans ?_
        refine kV_in (fun M4 => ?_)
        refine (evn_adv 1 (q' := (317, [some (.ref 29), some (.int l1), some (.int r1), some (.int r2), some (.int (jn 1))], [], M4)) rfl).trans ?_
        rfl
    refine sw_cons (lo := 11) (F := fun pc => E_208 d (pc, [some (.ref 29), some (.int l1), some (.int r1), some (.int r2), some (.int (jn 1))], [], M3)) (by decide) ?_ ?_
    · refine (evn_adv 1 (q' := (203, [some (.ref 29), some (.int l1), some (.int r1), some (.int r2), some (.int (jn 1))], [.int (jn 1)], M3)) rfl).trans ?_
      refine (e_if_eq (hf := rfl)).trans ?_
      refine ite_in ?_ ?_
      · refine (evn_adv 4 (q' := (220, [some (.ref 29), some (.int l1), some (.int r1), some (.int r2), some (.int (jn 1))], [.int (M3.1 29 15), .int l1, .ref 29], M3)) rfl).trans ?_
        refine (e_kV (q := (220, [some (.ref 29), some (.int l1), some (.int r1), some (.int r2), some (.int (jn 1))], [.int (M3.1 29 15), .int l1, .ref 29])) (q2 := (223, [some (.ref 29), some (.int l1), some (.int r1), some (.int r2), some (.int (jn 1))], [])) (M := M3) (o := (pcl GG lay d 205 [.ref 29, .int l1, .int (M3.1 29 15)] M3)) (hf := rfl) rfl rfl).trans ?_
        refine kV_in (fun M4 => ?_)
        refine (evn_adv 1 (q' := (317, [some (.ref 29), some (.int l1), some (.int r1), some (.int r2), some (.int (jn 1))], [], M4)) rfl).trans ?_
        rfl
      · refine (evn_adv 2 (q' := (208, [some (.ref 29), some (.int l1), some (.int r1), some (.int r2), some (.int (jn 1))], [.int l1, .ref 29], M3)) rfl).trans ?_
        refine (e_kV (q := (208, [some (.ref 29), some (.int l1), some (.int r1), some (.int r2), some (.int (jn 1))], [.int l1, .ref 29])) (q2 := (211, [some (.ref 29), some (.int l1), some (.int r1), some (.int r2), some (.int (jn 1))], [])) (M := M3) (o := (pcl GG lay d 209 [.ref 29, .int l1] M3)) (hf := rfl) rfl rfl).trans ?_
        refine kV_in (fun M4 => ?_)
        refine (evn_adv 1 (q' := (317, [some (.ref 29), some (.int l1), some (.int r1), some (.int r2), some (.int (jn 1))], [], M4)) rfl).trans ?_
        rfl
    refine sw_cons (lo := 12) (F := fun pc => E_208 d (pc, [some (.ref 29), some (.int l1), some (.int r1), some (.int r2), some (.int (jn 1))], [], M3)) (by decide) ?_ ?_
    · refine (evn_adv 1 (q' := (228, [some (.ref 29), some (.int l1), some (.int r1), some (.int r2), some (.int (jn 1))], [.int (jn 1)], M3)) rfl).trans ?_
      refine (e_if_eq (hf := rfl)).trans ?_
      refine ite_in ?_ ?_
      · refine (evn_adv 1 (q' := (241, [some (.ref 29), some (.int l1), some (.int r1), some (.int r2), some (.int (jn 1))], [.ref 29], M3)) rfl).trans ?_
        refine (e_kI (q := (241, [some (.ref 29), some (.int l1), some (.int r1), some (.int r2), some (.int (jn 1))], [.ref 29])) (q2 := (244, [some (.ref 29), some (.int l1), some (.int r1), some (.int r2), some (.int (jn 1))], [])) (M := M3) (o := (pcl GG lay d 202 [.ref 29] M3)) (hf := rfl) rfl rfl).trans ?_
        refine kI_in (fun r4 M4 => ?_)
        refine (e_if_eq (hf := rfl)).trans ?_
        refine ite_in ?_ ?_
        · rfl
        · refine (evn_adv 4 (q' := (253, [some (.ref 29), some (.int l1), some (.int r1), some (.int r2), some (.int (jn 1))], [.int (M4.1 29 15), .int l1, .ref 29], M4)) rfl).trans ?_
          refine (e_kV (q := (253, [some (.ref 29), some (.int l1), some (.int r1), some (.int r2), some (.int (jn 1))], [.int (M4.1 29 15), .int l1, .ref 29])) (q2 := (256, [some (.ref 29), some (.int l1), some (.int r1), some (.int r2), some (.int (jn 1))], [])) (M := M4) (o := (pcl GG lay d 203 [.ref 29, .int l1, .int (M4.1 29 15)] M4)) (hf := rfl) rfl rfl).trans ?_
          refine kV_in (fun M5 => ?_)
          refine (evn_adv 2 (q' := (258, [some (.ref 29), some (.int l1), some (.int r1), some (.int r2), some (.int (jn 1))], [.int l1, .ref 29], M5)) rfl).trans ?_
          refine (e_kV (q := (258, [some (.ref 29), some (.int l1), some (.int r1), some (.int r2), some (.int (jn 1))], [.int l1, .ref 29])) (q2 := (261, [some (.ref 29), some (.int l1), some (.int r1), some (.int r2), some (.int (jn 1))], [])) (M := M5) (o := (pcl GG lay d 209 [.ref 29, .int l1] M5)) (hf := rfl) rfl rfl).trans ?_
          refine kV_in (fun M6 => ?_)
          refine (evn_adv 1 (q' := (317, [some (.ref 29), some (.int l1), some (.int r1), some (.int r2), some (.int (jn 1))], [], M6)) rfl).trans ?_
          rfl
      · refine (evn_adv 3 (q' := (234, [some (.ref 29), some (.int l1), some (.int r1), some (.int r2), some (.int (jn 1))], [.int r2, .int l1, .ref 29], M3)) rfl).trans ?_
        refine (e_kV (q := (234, [some (.ref 29), some (.int l1), some (.int r1), some (.int r2), some (.int (jn 1))], [.int r2, .int l1, .ref 29])) (q2 := (237, [some (.ref 29), some (.int l1), some (.int r1), some (.int r2), some (.int (jn 1))], [])) (M := M3) (o := (pcl GG lay d 205 [.ref 29, .int l1, .int r2] M3)) (hf := rfl) rfl rfl).trans ?_
        refine kV_in (fun M4 => ?_)
        refine (evn_adv 1 (q' := (317, [some (.ref 29), some (.int l1), some (.int r1), some (.int r2), some (.int (jn 1))], [], M4)) rfl).trans ?_
        rfl
    refine sw_cons (lo := 13) (F := fun pc => E_208 d (pc, [some (.ref 29), some (.int l1), some (.int r1), some (.int r2), some (.int (jn 1))], [], M3)) (by decide) ?_ ?_
    · refine (evn_adv 1 (q' := (266, [some (.ref 29), some (.int l1), some (.int r1), some (.int r2), some (.int (jn 1))], [.int (jn 1)], M3)) rfl).trans ?_
      refine (e_if_eq (hf := rfl)).trans ?_
      refine ite_in ?_ ?_
      · refine (evn_adv 6 (q' := (286, [some (.ref 29), some (.int l1), some (.int r1), some (.int r2), some (.int (jn 1))], [.int r1, .ref 1, .int (jn 1), .int l1, .ref 29], M3)) rfl).trans ?_
        refine (e_kI (q := (286, [some (.ref 29), some (.int l1), some (.int r1), some (.int r2), some (.int (jn 1))], [.int r1, .ref 1, .int (jn 1), .int l1, .ref 29])) (q2 := (289, [some (.ref 29), some (.int l1), some (.int r1), some (.int r2), some (.int (jn 1))], [.int (jn 1), .int l1, .ref 29])) (M := M3) (o := (pcl GG lay d 249 [.ref 1, .int r1] M3)) (hf := rfl) rfl rfl).trans ?_
        refine kI_in (fun r4 M4 => ?_)
        refine (evn_adv 2 (q' := (293, [some (.ref 29), some (.int l1), some (.int r1), some (.int r2), some (.int (jn 1))], [.int (M4.1 29 15), .int r4, .int (jn 1), .int l1, .ref 29], M4)) rfl).trans ?_
        refine (e_kV (q := (293, [some (.ref 29), some (.int l1), some (.int r1), some (.int r2), some (.int (jn 1))], [.int (M4.1 29 15), .int r4, .int (jn 1), .int l1, .ref 29])) (q2 := (296, [some (.ref 29), some (.int l1), some (.int r1), some (.int r2), some (.int (jn 1))], [])) (M := M4) (o := (pcl GG lay d 204 [.ref 29, .int l1, .int (jn 1), .int r4, .int (M4.1 29 15)] M4)) (hf := rfl) rfl rfl).trans ?_
        refine kV_in (fun M5 => ?_)
        refine (evn_adv 1 (q' := (317, [some (.ref 29), some (.int l1), some (.int r1), some (.int r2), some (.int (jn 1))], [], M5)) rfl).trans ?_
        rfl
      · refine (evn_adv 3 (q' := (272, [some (.ref 29), some (.int l1), some (.int r1), some (.int r2), some (.int (jn 1))], [.int r2, .int l1, .ref 29], M3)) rfl).trans ?_
        refine (e_kV (q := (272, [some (.ref 29), some (.int l1), some (.int r1), some (.int r2), some (.int (jn 1))], [.int r2, .int l1, .ref 29])) (q2 := (275, [some (.ref 29), some (.int l1), some (.int r1), some (.int r2), some (.int (jn 1))], [])) (M := M3) (o := (pcl GG lay d 205 [.ref 29, .int l1, .int r2] M3)) (hf := rfl) rfl rfl).trans ?_
        refine kV_in (fun M4 => ?_)
        refine (evn_adv 1 (q' := (317, [some (.ref 29), some (.int l1), some (.int r1), some (.int r2), some (.int (jn 1))], [], M4)) rfl).trans ?_
        rfl
    show E_208 d (299, [some (.ref 29), some (.int l1), some (.int r1), some (.int r2), some (.int (jn 1))], [], M3) = _
    rfl
  · refine (evn_adv 5 (q' := (38, [some (.ref 29), some (.int l1), some (.int r1), some (.int r2), some (.int (jn 0))], [.int r1, .ref 1], M2)) rfl).trans ?_
    refine (e_kI (q := (38, [some (.ref 29), some (.int l1), some (.int r1), some (.int r2), some (.int (jn 0))], [.int r1, .ref 1])) (q2 := (41, [some (.ref 29), some (.int l1), some (.int r1), some (.int r2), some (.int (jn 0))], [])) (M := M2) (o := (pcl GG lay d 248 [.ref 1, .int r1] M2)) (hf := rfl) rfl rfl).trans ?_
    refine kI_in (fun r3 M3 => ?_)
    refine (e_sw0 (dflt := 299) (lo := ((3 : Nat) : Int)) (ts := [100, 135, 299, 299, 299, 299, 299, 170, 201, 226, 264]) (hf := rfl) rfl).trans ?_
    refine sw_cons (lo := 3) (F := fun pc => E_208 d (pc, [some (.ref 29), some (.int l1), some (.int r1), some (.int r2), some (.int (jn 0))], [], M3)) (by decide) ?_ ?_
    · refine (evn_adv 1 (q' := (102, [some (.ref 29), some (.int l1), some (.int r1), some (.int r2), some (.int (jn 0))], [.int (jn 0)], M3)) rfl).trans ?_
      refine (e_if_eq (hf := rfl)).trans ?_
      refine ite_in ?_ ?_
      · refine (evn_adv 6 (q' := (122, [some (.ref 29), some (.int l1), some (.int r1), some (.int r2), some (.int (jn 0))], [.int r1, .ref 1, .int (jn 5), .int l1, .ref 29], M3)) rfl).trans ?_
        refine (e_kI (q := (122, [some (.ref 29), some (.int l1), some (.int r1), some (.int r2), some (.int (jn 0))], [.int r1, .ref 1, .int (jn 5), .int l1, .ref 29])) (q2 := (125, [some (.ref 29), some (.int l1), some (.int r1), some (.int r2), some (.int (jn 0))], [.int (jn 5), .int l1, .ref 29])) (M := M3) (o := (pcl GG lay d 250 [.ref 1, .int r1] M3)) (hf := rfl) rfl rfl).trans ?_
        refine kI_in (fun r4 M4 => ?_)
        refine (evn_adv 2 (q' := (129, [some (.ref 29), some (.int l1), some (.int r1), some (.int r2), some (.int (jn 0))], [.int (M4.1 29 15), .int r4, .int (jn 5), .int l1, .ref 29], M4)) rfl).trans ?_
        refine (e_kV (q := (129, [some (.ref 29), some (.int l1), some (.int r1), some (.int r2), some (.int (jn 0))], [.int (M4.1 29 15), .int r4, .int (jn 5), .int l1, .ref 29])) (q2 := (132, [some (.ref 29), some (.int l1), some (.int r1), some (.int r2), some (.int (jn 0))], [])) (M := M4) (o := (pcl GG lay d 204 [.ref 29, .int l1, .int (jn 5), .int r4, .int (M4.1 29 15)] M4)) (hf := rfl) rfl rfl).trans ?_
        refine kV_in (fun M5 => ?_)
        refine (evn_adv 1 (q' := (317, [some (.ref 29), some (.int l1), some (.int r1), some (.int r2), some (.int (jn 0))], [], M5)) rfl).trans ?_
        rfl
      · refine (evn_adv 3 (q' := (108, [some (.ref 29), some (.int l1), some (.int r1), some (.int r2), some (.int (jn 0))], [.int (jz 1), .int l1, .ref 29], M3)) rfl).trans ?_
        refine (e_kV (q := (108, [some (.ref 29), some (.int l1), some (.int r1), some (.int r2), some (.int (jn 0))], [.int (jz 1), .int l1, .ref 29])) (q2 := (111, [some (.ref 29), some (.int l1), some (.int r1), some (.int r2), some (.int (jn 0))], [])) (M := M3) (o := (pcl GG lay d 205 [.ref 29, .int l1, .int (jz 1)] M3)) (hf := rfl) rfl rfl).trans ?_
        refine kV_in (fun M4 => ?_)
        refine (evn_adv 1 (q' := (317, [some (.ref 29), some (.int l1), some (.int r1), some (.int r2), some (.int (jn 0))], [], M4)) rfl).trans ?_
        rfl
    refine sw_cons (lo := 4) (F := fun pc => E_208 d (pc, [some (.ref 29), some (.int l1), some (.int r1), some (.int r2), some (.int (jn 0))], [], M3)) (by decide) ?_ ?_
    · refine (evn_adv 1 (q' := (137, [some (.ref 29), some (.int l1), some (.int r1), some (.int r2), some (.int (jn 0))], [.int (jn 0)], M3)) rfl).trans ?_
      refine (e_if_eq (hf := rfl)).trans ?_
      refine ite_in ?_ ?_
      · refine (evn_adv 4 (q' := (164, [some (.ref 29), some (.int l1), some (.int r1), some (.int r2), some (.int (jn 0))], [.int (M3.1 29 15), .int l1, .ref 29], M3)) rfl).trans ?_
        refine (e_kV (q := (164, [some (.ref 29), some (.int l1), some (.int r1), some (.int r2), some (.int (jn 0))], [.int (M3.1 29 15), .int l1, .ref 29])) (q2 := (167, [some (.ref 29), some (.int l1), some (.int r1), some (.int r2), some (.int (jn 0))], [])) (M := M3) (o := (pcl GG lay d 205 [.ref 29, .int l1, .int (M3.1 29 15)] M3)) (hf := rfl) rfl rfl).trans ?_
        refine kV_in (fun M4 => ?_)
        refine (evn_adv 1 (q' := (317, [some (.ref 29), some (.int l1), some (.int r1), some (.int r2), some (.int (jn 0))], [], M4)) rfl).trans ?_
        rfl
      · refine (evn_adv 6 (q' := (148, [some (.ref 29), some (.int l1), some (.int r1), some (.int r2), some (.int (jn 0))], [.int r1, .ref 1, .int (jn 5), .int l1, .ref 29], M3)) rfl).trans ?_
        refine (e_kI (q := (148, [some (.ref 29), some (.int l1), some (.int r1), some (.int r2), some (.int (jn 0))], [.int r1, .ref 1, .int (jn 5), .int l1, .ref 29])) (q2 := (151, [some (.ref 29), some (.int l1), some (.int r1), some (.int r2), some (.int (jn 0))], [.int (jn 5), .int l1, .ref 29])) (M := M3) (o := (pcl GG lay d 250 [.ref 1, .int r1] M3)) (hf := rfl) rfl rfl).trans ?_
        refine kI_in (fun r4 M4 => ?_)
        refine (evn_adv 1 (q' := (152, [some (.ref 29), some (.int l1), some (.int r1), some (.int r2), some (.int (jn 0))], [.int r2, .int r4, .int (jn 5), .int l1, .ref 29], M4)) rfl).trans ?_
        refine (e_kV (q := (152, [some (.ref 29), some (.int l1), some (.int r1), some (.int r2), some (.int (jn 0))], [.int r2, .int r4, .int (jn 5), .int l1, .ref 29])) (q2 := (155, [some (.ref 29), some (.int l1), some (.int r1), some (.int r2), some (.int (jn 0))], [])) (M := M4) (o := (pcl GG lay d 204 [.ref 29, .int l1, .int (jn 5), .int r4, .int r2] M4)) (hf := rfl) rfl rfl).trans ?_
        refine kV_in (fun M5 => ?_)
        refine (evn_adv 1 (q' := (317, [some (.ref 29), some (.int l1), some (.int r1), some (.int r2), some (.int (jn 0))], [], M5)) rfl).trans ?_
        rfl
    refine sw_cons (lo := 5) (F := fun pc => E_208 d (pc, [some (.ref 29), some (.int l1), some (.int r1), some (.int r2), some (.int (jn 0))], [], M3)) (by decide) ?_ ?_
    · rfl
    refine sw_cons (lo := 6) (F := fun pc => E_208 d (pc, [some (.ref 29), some (.int l1), some (.int r1), some (.int r2), some (.int (jn 0))], [], M3)) (by decide) ?_ ?_
    · rfl
    refine sw_cons (lo := 7) (F := fun pc => E_208 d (pc, [some (.ref 29), some (.int l1), some (.int r1), some (.int r2), some (.int (jn 0))], [], M3)) (by decide) ?_ ?_
    · rfl
    refine sw_cons (lo := 8) (F := fun pc => E_208 d (pc, [some (.ref 29), some (.int l1), some (.int r1), some (.int r2), some (.int (jn 0))], [], M3)) (by decide) ?_ ?_
    · rfl
    refine sw_cons (lo := 9) (F := fun pc => E_208 d (pc, [some (.ref 29), some (.int l1), some (.int r1), some (.int r2), some (.int (jn 0))], [], M3)) (by decide) ?_ ?_
    · rfl
    refine sw_cons (lo := 10) (F := fun pc => E_208 d (pc, [some (.ref 29), some (.int l1), some (.int r1), some (.int r2), some (.int (jn 0))], [], M3)) (by decide) ?_ ?_
    · refine (evn_adv 1 (q' := (172, [some (.ref 29), some (.int l1), some (.int r1), some (.int r2), some (.int (jn 0))], [.int (jn 0)], M3)) rfl).trans ?_
      refine (e_if_eq (hf := rfl)).trans ?_
      refine ite_in ?_ ?_
      · refine (evn_adv 4 (q' := (190, [some (.ref 29), some (.int l1), some (.int r1), some (.int r2), some (.int (jn 0))], [.int (M3.1 29 15), .int l1, .ref 29], M3)) rfl).trans ?_
        refine (e_kV (q := (190, [some (.ref 29), some (.int l1), some (.int r1), some (.int r2), some (.int (jn 0))], [.int (M3.1 29 15), .int l1, .ref 29])) (q2 := (193, [some (.ref 29), some (.int l1), some (.int r1), some (.int r2), some (.int (jn 0))], [])) (M := M3) (o := (pcl GG lay d 203 [.ref 29, .int l1, .int (M3.1 29 15)] M3)) (hf := rfl) rfl rfl).trans ?_
        refine kV_in (fun M4 => ?_)
        refine (evn_adv 2 (q' := (195, [some (.ref 29), some (.int l1), some (.int r1), some (.int r2), some (.int (jn 0))], [.int l1, .ref 29], M4)) rfl).trans ?_
        refine (e_kV (q := (195, [some (.ref 29), some (.int l1), some (.int r1), some (.int r2), some (.int (jn 0))], [.int l1, .ref 29])) (q2 := (198, [some (.ref 29), some (.int l1), some (.int r1), some (.int r2), some (.int (jn 0))], [])) (M := M4) (o := (pcl GG lay d 209 [.ref 29, .int l1] M4)) (hf := rfl) rfl rfl).trans ?_
        refine kV_in (fun M5 => ?_)
        refine (evn_adv 1 (q' := (317, [some (.ref 29), some (.int l1), some (.int r1), some (.int r2), some (.int (jn 0))], [], M5)) rfl).trans ?_
        rfl
      · refine (evn_adv 3 (q' := (178, [some (.ref 29), some (.int l1), some (.int r1), some (.int r2), some (.int (jn 0))], [.int (jz 1), .int l1, .ref 29], M3)) rfl).trans ?_
        refine (e_kV (q := (178, [some (.ref 29), some (.int l1), some (.int r1), some (.int r2), some (.int (jn 0))], [.int (jz 1), .int l1, .ref 29])) (q2 := (181, [some (.ref 29), some (.int l1), some (.int r1), some (.int r2), some (.int (jn 0))], [])) (M := M3) (o := (pcl GG lay d 205 [.ref 29, .int l1, .int (jz 1)] M3)) (hf := rfl) rfl rfl).trans ?_
        refine kV_in (fun M4 => ?_)
        refine (evn_adv 1 (q' := (317, [some (.ref 29), some (.int l1), some (.int r1), some (.int r2), some (.int (jn 0))], [], M4)) rfl).trans ?_
        rfl
    refine sw_cons (lo := 11) (F := fun pc => E_208 d (pc, [some (.ref 29), some (.int l1), some (.int r1), some (.int r2), some (.int (jn 0))], [], M3)) (by decide) ?_ ?_
    · refine (evn_adv 1 (q' := (203, [some (.ref 29), some (.int l1), some (.int r1), some (.int r2), some (.int (jn 0))], [.int (jn 0)], M3)) rfl).trans ?_
      refine (e_if_eq (hf := rfl)).trans ?_
      refine ite_in ?_ ?_
      · refine (evn_adv 4 (q' := (220, [some (.ref 29), some (.int l1), some (.int r1), some (.int r2), some (.int (jn 0))], [.int (M3.1 29 15), .int l1, .ref 29], M3)) rfl).trans ?_
        refine (e_kV (q := (220, [some (.ref 29), some (.int l1), some (.int r1), some (.int r2), some (.int (jn 0))], [.int (M3.1 29 15), .int l1, .ref 29])) (q2 := (223, [some (.ref 29), some (.int l1), some (.int r1), some (.int r2), some (.int (jn 0))], [])) (M := M3) (o := (pcl GG lay d 205 [.ref 29, .int l1, .int (M3.1 29 15)] M3)) (hf := rfl) rfl rfl).trans ?_
        refine kV_in (fun M4 => ?_)
        refine (evn_adv 1 (q' := (317, [some (.ref 29), some (.int l1), some (.int r1), some (.int r2), some (.int (jn 0))], [], M4)) rfl).trans ?_
        rfl
      · refine (evn_adv 2 (q' := (208, [some (.ref 29), some (.int l1), some (.int r1), some (.int r2), some (.int (jn 0))], [.int l1, .ref 29], M3)) rfl).trans ?_
        refine (e_kV (q := (208, [some (.ref 29), some (.int l1), some (.int r1), some (.int r2), some (.int (jn 0))], [.int l1, .ref 29])) (q2 := (211, [some (.ref 29), some (.int l1), some (.int r1), some (.int r2), some (.int (jn 0))], [])) (M := M3) (o := (pcl GG lay d 209 [.ref 29, .int l1] M3)) (hf := rfl) rfl rfl).trans ?_
        refine kV_in (fun M4 => ?_)
        refine (evn_adv 1 (q' := (317, [some (.ref 29), some (.int l1), some (.int r1), some (.int r2), some (.int (jn 0))], [], M4)) rfl).trans ?_
        rfl
    refine sw_cons (lo := 12) (F := fun pc => E_208 d (pc, [some (.ref 29), some (.int l1), some (.int r1), some (.int r2), some (.int (jn 0))], [], M3)) (by decide) ?_ ?_
    · refine (evn_adv 1 (q' := (228, [some (.ref 29), some (.int l1), some (.int r1), some (.int r2), some (.int (jn 0))], [.int (jn 0)], M3)) rfl).trans ?_
      refine (e_if_eq (hf := rfl)).trans ?_
      refine ite_in ?_ ?_
      · refine (evn_adv 1 (q' := (241, [some (.ref 29), some (.int l1), some (.int r1), some (.int r2), some (.int (jn 0))], [.ref 29], M3)) rfl).trans ?_
        refine (e_kI (q := (241, [some (.ref 29), some (.int l1), some (.int r1), some (.int r2), some (.int (jn 0))], [.ref 29])) (q2 := (244, [some (.ref 29), some (.int l1), some (.int r1), some (.int r2), some (.int (jn 0))], [])) (M := M3) (o := (pcl GG lay d 202 [.ref 29] M3)) (hf := rfl) rfl rfl).trans ?_
        refine kI_in (fun r4 M4 => ?_)
        refine (e_if_eq (hf := rfl)).trans ?_
        refine ite_in ?_ ?_
        · rfl
        · refine (evn_adv 4 (q' := (253, [some (.ref 29), some (.int l1), some (.int r1), some (.int r2), some (.int (jn 0))], [.int (M4.1 29 15), .int l1, .ref 29], M4)) rfl).trans ?_
          refine (e_kV (q := (253, [some (.ref 29), some (.int l1), some (.int r1), some (.int r2), some (.int (jn 0))], [.int (M4.1 29 15), .int l1, .ref 29])) (q2 := (256, [some (.ref 29), some (.int l1), some (.int r1), some (.int r2), some (.int (jn 0))], [])) (M := M4) (o := (pcl GG lay d 203 [.ref 29, .int l1, .int (M4.1 29 15)] M4)) (hf := rfl) rfl rfl).trans ?_
          refine kV_in (fun M5 => ?_)
          refine (evn_adv 2 (q' := (258, [some (.ref 29), some (.int l1), some (.int r1), some (.int r2), some (.int (jn 0))], [.int l1, .ref 29], M5)) rfl).trans ?_
          refine (e_kV (q := (258, [some (.ref 29), some (.int l1), some (.int r1), some (.int r2), some (.int (jn 0))], [.int l1, .ref 29])) (q2 := (261, [some (.ref 29), some (.int l1), some (.int r1), some (.int r2), some (.int (jn 0))], [])) (M := M5) (o := (pcl GG lay d 209 [.ref 29, .int l1] M5)) (hf := rfl) rfl rfl).trans ?_
          refine kV_in (fun M6 => ?_)
          refine (evn_adv 1 (q' := (317, [some (.ref 29), some (.int l1), some (.int r1), some (.int r2), some (.int (jn 0))], [], M6)) rfl).trans ?_
          rfl
      · refine (evn_adv 3 (q' := (234, [some (.ref 29), some (.int l1), some (.int r1), some (.int r2), some (.int (jn 0))], [.int r2, .int l1, .ref 29], M3)) rfl).trans ?_
        refine (e_kV (q := (234, [some (.ref 29), some (.int l1), some (.int r1), some (.int r2), some (.int (jn 0))], [.int r2, .int l1, .ref 29])) (q2 := (237, [some (.ref 29), some (.int l1), some (.int r1), some (.int r2), some (.int (jn 0))], [])) (M := M3) (o := (pcl GG lay d 205 [.ref 29, .int l1, .int r2] M3)) (hf := rfl) rfl rfl).trans ?_
        refine kV_in (fun M4 => ?_)
        refine (evn_adv 1 (q' := (317, [some (.ref 29), some (.int l1), some (.int r1), some (.int r2), some (.int (jn 0))], [], M4)) rfl).trans ?_
        rfl
    refine sw_cons (lo := 13) (F := fun pc => E_208 d (pc, [some (.ref 29), some (.int l1), some (.int r1), some (.int r2), some (.int (jn 0))], [], M3)) (by decide) ?_ ?_
    · refine (evn_adv 1 (q' := (266, [some (.ref 29), some (.int l1), some (.int r1), some (.int r2), some (.int (jn 0))], [.int (jn 0)], M3)) rfl).trans ?_
      refine (e_if_eq (hf := rfl)).trans ?_
      refine ite_in ?_ ?_
      · refine (evn_adv 6 (q' := (286, [some (.ref 29), some (.int l1), some (.int r1), some (.int r2), some (.int (jn 0))], [.int r1, .ref 1, .int (jn 1), .int l1, .ref 29], M3)) rfl).trans ?_
        refine (e_kI (q := (286, [some (.ref 29), some (.int l1), some (.int r1), some (.int r2), some (.int (jn 0))], [.int r1, .ref 1, .int (jn 1), .int l1, .ref 29])) (q2 := (289, [some (.ref 29), some (.int l1), some (.int r1), some (.int r2), some (.int (jn 0))], [.int (jn 1), .int l1, .ref 29])) (M := M3) (o := (pcl GG lay d 249 [.ref 1, .int r1] M3)) (hf := rfl) rfl rfl).trans ?_
        refine kI_in (fun r4 M4 => ?_)
        refine (evn_adv 2 (q' := (293, [some (.ref 29), some (.int l1), some (.int r1), some (.int r2), some (.int (jn 0))], [.int (M4.1 29 15), .int r4, .int (jn 1), .int l1, .ref 29], M4)) rfl).trans ?_
        refine (e_kV (q := (293, [some (.ref 29), some (.int l1), some (.int r1), some (.int r2), some (.int (jn 0))], [.int (M4.1 29 15), .int r4, .int (jn 1), .int l1, .ref 29])) (q2 := (296, [some (.ref 29), some (.int l1), some (.int r1), some (.int r2), some (.int (jn 0))], [])) (M := M4) (o := (pcl GG lay d 204 [.ref 29, .int l1, .int (jn 1), .int r4, .int (M4.1 29 15)] M4)) (hf := rfl) rfl rfl).trans ?_
        refine kV_in (fun M5 => ?_)
        refine (evn_adv 1 (q' := (317, [some (.ref 29), some (.int l1), some (.int r1), some (.int r2), some (.int (jn 0))], [], M5)) rfl).trans ?_
        rfl
      · refine (evn_adv 3 (q' := (272, [some (.ref 29), some (.int l1), some (.int r1), some (.int r2), some (.int (jn 0))], [.int r2, .int l1, .ref 29], M3)) rfl).trans ?_
        refine (e_kV (q := (272, [some (.ref 29), some (.int l1), some (.int r1), some (.int r2), some (.int (jn 0))], [.int r2, .int l1, .ref 29])) (q2 := (275, [some (.ref 29), some (.int l1), some (.int r1), some (.int r2), some (.int (jn 0))], [])) (M := M3) (o := (pcl GG lay d 205 [.ref 29, .int l1, .int r2] M3)) (hf := rfl) rfl rfl).trans ?_
        refine kV_in (fun M4 => ?_)
        refine (evn_adv 1 (q' := (317, [some (.ref 29), some (.int l1), some (.int r1), some (.int r2), some (.int (jn 0))], [], M4)) rfl).trans ?_
        rfl
    show E_208 d (299, [some (.ref 29), some (.int l1), some (.int r1), some (.int r2), some (.int (jn 0))], [], M3) = _
    rfl
theorem h_208_317 (d : Nat) (u0 : Option Value) (u1 : Option Value) (u2 : Option Value) (u3 : Option Value) (u4 : Option Value) (M : PM) : E_208 d (317, [u0, u1, u2, u3, u4], [], M) = (rV M) := by
  exact evn_end 1 rfl
theorem h_208_299 (d : Nat) (l1 : Int32) (u2 : Option Value) (l3 : Int32) (l4 : Int32) (M : PM) : E_208 d (299, [some (.ref 29), some (.int l1), u2, some (.int l3), some (.int l4)], [], M) = (if l4 = jn 0 then (kV (pcl GG lay d 205 [.ref 29, .int l1, .int (M.1 29 15)] M) fun M1 => E_208 d (317, [some (.ref 29), some (.int l1), u2, some (.int l3), some (.int l4)], [], M1)) else (kV (pcl GG lay d 205 [.ref 29, .int l1, .int l3] M) fun M1 => E_208 d (317, [some (.ref 29), some (.int l1), u2, some (.int l3), some (.int l4)], [], M1))) := by
  refine (evn_adv 3 (q' := (303, [some (.ref 29), some (.int l1), u2, some (.int l3), some (.int l4)], [.int l4, .int l1, .ref 29], M)) rfl).trans ?_
  refine (e_if_eq (hf := rfl)).trans ?_
  refine ite_in ?_ ?_
  · refine (evn_adv 2 (q' := (314, [some (.ref 29), some (.int l1), u2, some (.int l3), some (.int l4)], [.int (M.1 29 15), .int l1, .ref 29], M)) rfl).trans ?_
    refine (e_kV (q := (314, [some (.ref 29), some (.int l1), u2, some (.int l3), some (.int l4)], [.int (M.1 29 15), .int l1, .ref 29])) (q2 := (317, [some (.ref 29), some (.int l1), u2, some (.int l3), some (.int l4)], [])) (M := M) (o := (pcl GG lay d 205 [.ref 29, .int l1, .int (M.1 29 15)] M)) (hf := rfl) rfl rfl).trans ?_
    refine kV_in (fun M1 => ?_)
    rfl
  · refine (evn_adv 2 (q' := (314, [some (.ref 29), some (.int l1), u2, some (.int l3), some (.int l4)], [.int l3, .int l1, .ref 29], M)) rfl).trans ?_
    refine (e_kV (q := (314, [some (.ref 29), some (.int l1), u2, some (.int l3), some (.int l4)], [.int l3, .int l1, .ref 29])) (q2 := (317, [some (.ref 29), some (.int l1), u2, some (.int l3), some (.int l4)], [])) (M := M) (o := (pcl GG lay d 205 [.ref 29, .int l1, .int l3] M)) (hf := rfl) rfl rfl).trans ?_
    refine kV_in (fun M1 => ?_)
    rfl
/-- TermStrategies$Runner.walk(I)V -/
noncomputable abbrev E_209 (d : Nat) : PQ → PO := evn (rnn k_209 lay none (pcl GG lay d) 0)
theorem q_209 (d : Nat) (l1 : Int32) (M : PM) : pcl GG lay (d + 1) 209 [.ref 29, .int l1] M = (kI (pcl GG lay d 65 [.ref 34, .int l1] M) fun r1 M1 => (kI (pcl GG lay d 231 [.ref 6, .int r1] M1) fun r2 M2 => (kI (pcl GG lay d 63 [.int r2] M2) fun r3 M3 => (if jn 0 < r3 then (kI (pcl GG lay d 211 [.ref 29, .int l1] M3) fun r4 M4 => (kL (pcl GG lay d 67 [.ref 35, .int l1] M4) fun r5 M5 => (kV (pcl GG lay d 201 [.ref 29, .int l1, .int (jn 2), .int r4, .int (r1 + (jn 1)), .long (((Int64.ofInt 3) * r5) + (Int64.ofNat 1))] M5) fun M6 => (rV M6)))) else (kI (pcl GG lay d 212 [.ref 29, .int l1] M3) fun r4 M4 => (if r4 = jn 0 then (kV (pcl GG lay d 210 [.ref 29, .int l1, .int r1] M4) fun M5 => (rV M5)) else (kV (pcl GG lay d 210 [.ref 29, .int l1, .int (jz 1)] M4) fun M5 => (rV M5)))))))) := by
  refine (pcl_un (mt := t_209) (by decide) rfl (Nat.le_of_ble_eq_true rfl)).trans ?_
  show E_209 d (0, [some (.ref 29), some (.int l1), none], [], M) = _
  refine (evn_adv 3 (q' := (5, [some (.ref 29), some (.int l1), none], [.int l1, .ref 34], M)) rfl).trans ?_
  refine (e_kI (q := (5, [some (.ref 29), some (.int l1), none], [.int l1, .ref 34])) (q2 := (8, [some (.ref 29), some (.int l1), none], [])) (M := M) (o := (pcl GG lay d 65 [.ref 34, .int l1] M)) (hf := rfl) rfl rfl).trans ?_
  refine kI_in (fun r1 M1 => ?_)
  refine (evn_adv 4 (q' := (14, [some (.ref 29), some (.int l1), some (.int r1)], [.int r1, .ref 6], M1)) rfl).trans ?_
  refine (e_kI (q := (14, [some (.ref 29), some (.int l1), some (.int r1)], [.int r1, .ref 6])) (q2 := (17, [some (.ref 29), some (.int l1), some (.int r1)], [])) (M := M1) (o := (pcl GG lay d 231 [.ref 6, .int r1] M1)) (hf := rfl) rfl rfl).trans ?_
  refine kI_in (fun r2 M2 => ?_)
  refine (e_kI (q := (17, [some (.ref 29), some (.int l1), some (.int r1)], [.int r2])) (q2 := (20, [some (.ref 29), some (.int l1), some (.int r1)], [])) (M := M2) (o := (pcl GG lay d 63 [.int r2] M2)) (hf := rfl) rfl rfl).trans ?_
  refine kI_in (fun r3 M3 => ?_)
  refine (e_if_le (hf := rfl)).trans ?_
  refine ite_in ?_ ?_
  · refine (evn_adv 5 (q' := (28, [some (.ref 29), some (.int l1), some (.int r1)], [.int l1, .ref 29, .int (jn 2), .int l1, .ref 29], M3)) rfl).trans ?_
    refine (e_kI (q := (28, [some (.ref 29), some (.int l1), some (.int r1)], [.int l1, .ref 29, .int (jn 2), .int l1, .ref 29])) (q2 := (31, [some (.ref 29), some (.int l1), some (.int r1)], [.int (jn 2), .int l1, .ref 29])) (M := M3) (o := (pcl GG lay d 211 [.ref 29, .int l1] M3)) (hf := rfl) rfl rfl).trans ?_
    refine kI_in (fun r4 M4 => ?_)
    refine (evn_adv 7 (q' := (42, [some (.ref 29), some (.int l1), some (.int r1)], [.int l1, .ref 35, .long (Int64.ofInt 3), .int (r1 + (jn 1)), .int r4, .int (jn 2), .int l1, .ref 29], M4)) rfl).trans ?_
    refine (e_kL (q := (42, [some (.ref 29), some (.int l1), some (.int r1)], [.int l1, .ref 35, .long (Int64.ofInt 3), .int (r1 + (jn 1)), .int r4, .int (jn 2), .int l1, .ref 29])) (q2 := (45, [some (.ref 29), some (.int l1), some (.int r1)], [.long (Int64.ofInt 3), .int (r1 + (jn 1)), .int r4, .int (jn 2), .int l1, .ref 29])) (M := M4) (o := (pcl GG lay d 67 [.ref 35, .int l1] M4)) (hf := rfl) rfl rfl).trans ?_
    refine kL_in (fun r5 M5 => ?_)
    refine (evn_adv 3 (q' := (48, [some (.ref 29), some (.int l1), some (.int r1)], [.long (((Int64.ofInt 3) * r5) + (Int64.ofNat 1)), .int (r1 + (jn 1)), .int r4, .int (jn 2), .int l1, .ref 29], M5)) rfl).trans ?_
    refine (e_kV (q := (48, [some (.ref 29), some (.int l1), some (.int r1)], [.long (((Int64.ofInt 3) * r5) + (Int64.ofNat 1)), .int (r1 + (jn 1)), .int r4, .int (jn 2), .int l1, .ref 29])) (q2 := (51, [some (.ref 29), some (.int l1), some (.int r1)], [])) (M := M5) (o := (pcl GG lay d 201 [.ref 29, .int l1, .int (jn 2), .int r4, .int (r1 + (jn 1)), .long (((Int64.ofInt 3) * r5) + (Int64.ofNat 1))] M5)) (hf := rfl) rfl rfl).trans ?_
    refine kV_in (fun M6 => ?_)
    refine (evn_adv 1 (q' := (72, [some (.ref 29), some (.int l1), some (.int r1)], [], M6)) rfl).trans ?_
    exact evn_end 1 rfl
  · refine (evn_adv 4 (q' := (58, [some (.ref 29), some (.int l1), some (.int r1)], [.int l1, .ref 29, .int l1, .ref 29], M3)) rfl).trans ?_
    refine (e_kI (q := (58, [some (.ref 29), some (.int l1), some (.int r1)], [.int l1, .ref 29, .int l1, .ref 29])) (q2 := (61, [some (.ref 29), some (.int l1), some (.int r1)], [.int l1, .ref 29])) (M := M3) (o := (pcl GG lay d 212 [.ref 29, .int l1] M3)) (hf := rfl) rfl rfl).trans ?_
    refine kI_in (fun r4 M4 => ?_)
    refine (e_if_eq (hf := rfl)).trans ?_
    refine ite_in ?_ ?_
    · refine (evn_adv 1 (q' := (69, [some (.ref 29), some (.int l1), some (.int r1)], [.int r1, .int l1, .ref 29], M4)) rfl).trans ?_
      refine (e_kV (q := (69, [some (.ref 29), some (.int l1), some (.int r1)], [.int r1, .int l1, .ref 29])) (q2 := (72, [some (.ref 29), some (.int l1), some (.int r1)], [])) (M := M4) (o := (pcl GG lay d 210 [.ref 29, .int l1, .int r1] M4)) (hf := rfl) rfl rfl).trans ?_
      refine kV_in (fun M5 => ?_)
      exact evn_end 1 rfl
    · refine (evn_adv 2 (q' := (69, [some (.ref 29), some (.int l1), some (.int r1)], [.int (jz 1), .int l1, .ref 29], M4)) rfl).trans ?_
      refine (e_kV (q := (69, [some (.ref 29), some (.int l1), some (.int r1)], [.int (jz 1), .int l1, .ref 29])) (q2 := (72, [some (.ref 29), some (.int l1), some (.int r1)], [])) (M := M4) (o := (pcl GG lay d 210 [.ref 29, .int l1, .int (jz 1)] M4)) (hf := rfl) rfl rfl).trans ?_
      refine kV_in (fun M5 => ?_)
      exact evn_end 1 rfl
/-- TermStrategies$Runner.endWalk(II)V -/
noncomputable abbrev E_210 (d : Nat) : PQ → PO := evn (rnn k_210 lay none (pcl GG lay d) 0)
theorem q_210 (d : Nat) (l1 : Int32) (l2 : Int32) (M : PM) : pcl GG lay (d + 1) 210 [.ref 29, .int l1, .int l2] M = (kV (pcl GG lay d 66 [.ref 36, .int l1, .int (jn 4)] M) fun M1 => (wr (sI M1 29 (va_up (M1.1 29) 15 l2)) fun M2 => (rV M2))) := by
  refine (pcl_un (mt := t_210) (by decide) rfl (Nat.le_of_ble_eq_true rfl)).trans ?_
  show E_210 d (0, [some (.ref 29), some (.int l1), some (.int l2)], [], M) = _
  refine (evn_adv 4 (q' := (6, [some (.ref 29), some (.int l1), some (.int l2)], [.int (jn 4), .int l1, .ref 36], M)) rfl).trans ?_
  refine (e_kV (q := (6, [some (.ref 29), some (.int l1), some (.int l2)], [.int (jn 4), .int l1, .ref 36])) (q2 := (9, [some (.ref 29), some (.int l1), some (.int l2)], [])) (M := M) (o := (pcl GG lay d 66 [.ref 36, .int l1, .int (jn 4)] M)) (hf := rfl) rfl rfl).trans ?_
  refine kV_in (fun M1 => ?_)
  refine (evn_adv 2 (q' := (11, [some (.ref 29), some (.int l1), some (.int l2)], [.int l2, .ref 29], M1)) rfl).trans ?_
  refine (evn_adv 1 (q' := (14, [some (.ref 29), some (.int l1), some (.int l2)], [], (sI M1 29 (va_up (M1.1 29) 15 l2)))) rfl).trans ?_
  refine wr_in (f := fun M2 => E_210 d (14, [some (.ref 29), some (.int l1), some (.int l2)], [], M2)) (fun M2 => ?_)
  exact evn_end 1 rfl
/-- TermStrategies$Runner.walkerOf(I)I -/
noncomputable abbrev E_211 (d : Nat) : PQ → PO := evn (rnn k_211 lay none (pcl GG lay d) 1)
theorem q_211 (d : Nat) (l1 : Int32) (M : PM) : pcl GG lay (d + 1) 211 [.ref 29, .int l1] M = (kI (pcl GG lay d 65 [.ref 33, .int l1] M) fun r1 M1 => (kI (pcl GG lay d 248 [.ref 1, .int r1] M1) fun r2 M2 => (if (jn 8) < r2 then (rI r1 M2) else (kI (pcl GG lay d 249 [.ref 1, .int r1] M2) fun r3 M3 => (rI r3 M3))))) := by
  refine (pcl_un (mt := t_211) (by decide) rfl (Nat.le_of_ble_eq_true rfl)).trans ?_
  show E_211 d (0, [some (.ref 29), some (.int l1), none], [], M) = _
  refine (evn_adv 3 (q' := (5, [some (.ref 29), some (.int l1), none], [.int l1, .ref 33], M)) rfl).trans ?_
  refine (e_kI (q := (5, [some (.ref 29), some (.int l1), none], [.int l1, .ref 33])) (q2 := (8, [some (.ref 29), some (.int l1), none], [])) (M := M) (o := (pcl GG lay d 65 [.ref 33, .int l1] M)) (hf := rfl) rfl rfl).trans ?_
  refine kI_in (fun r1 M1 => ?_)
  refine (evn_adv 4 (q' := (14, [some (.ref 29), some (.int l1), some (.int r1)], [.int r1, .ref 1], M1)) rfl).trans ?_
  refine (e_kI (q := (14, [some (.ref 29), some (.int l1), some (.int r1)], [.int r1, .ref 1])) (q2 := (17, [some (.ref 29), some (.int l1), some (.int r1)], [])) (M := M1) (o := (pcl GG lay d 248 [.ref 1, .int r1] M1)) (hf := rfl) rfl rfl).trans ?_
  refine kI_in (fun r2 M2 => ?_)
  refine (evn_adv 1 (q' := (19, [some (.ref 29), some (.int l1), some (.int r1)], [.int (jn 8), .int r2], M2)) rfl).trans ?_
  refine (e_ic_gt (hf := rfl)).trans ?_
  refine ite_in ?_ ?_
  · refine (evn_adv 1 (q' := (34, [some (.ref 29), some (.int l1), some (.int r1)], [.int r1], M2)) rfl).trans ?_
    exact evn_end 1 rfl
  · refine (evn_adv 3 (q' := (27, [some (.ref 29), some (.int l1), some (.int r1)], [.int r1, .ref 1], M2)) rfl).trans ?_
    refine (e_kI (q := (27, [some (.ref 29), some (.int l1), some (.int r1)], [.int r1, .ref 1])) (q2 := (30, [some (.ref 29), some (.int l1), some (.int r1)], [])) (M := M2) (o := (pcl GG lay d 249 [.ref 1, .int r1] M2)) (hf := rfl) rfl rfl).trans ?_
    refine kI_in (fun r3 M3 => ?_)
    refine (evn_adv 1 (q' := (34, [some (.ref 29), some (.int l1), some (.int r1)], [.int r3], M3)) rfl).trans ?_
    exact evn_end 1 rfl
/-- TermStrategies$Runner.mayPassOver(I)Z -/
noncomputable abbrev E_212 (d : Nat) : PQ → PO := evn (rnn k_212 lay none (pcl GG lay d) 2)
theorem q_212 (d : Nat) (l1 : Int32) (M : PM) : pcl GG lay (d + 1) 212 [.ref 29, .int l1] M = (kI (pcl GG lay d 65 [.ref 33, .int l1] M) fun r1 M1 => (kI (pcl GG lay d 248 [.ref 1, .int r1] M1) fun r2 M2 => (if r2 = (jn 7) then (rZ (jn 1) M2) else (if r2 = (jn 8) then (rZ (jn 1) M2) else (if r2 = (jn 11) then (rZ (jn 1) M2) else (rZ (jn 0) M2)))))) := by
  refine (pcl_un (mt := t_212) (by decide) rfl (Nat.le_of_ble_eq_true rfl)).trans ?_
  show E_212 d (0, [some (.ref 29), some (.int l1), none], [], M) = _
  refine (evn_adv 5 (q' := (9, [some (.ref 29), some (.int l1), none], [.int l1, .ref 33, .ref 1], M)) rfl).trans ?_
  refine (e_kI (q := (9, [some (.ref 29), some (.int l1), none], [.int l1, .ref 33, .ref 1])) (q2 := (12, [some (.ref 29), some (.int l1), none], [.ref 1])) (M := M) (o := (pcl GG lay d 65 [.ref 33, .int l1] M)) (hf := rfl) rfl rfl).trans ?_
  refine kI_in (fun r1 M1 => ?_)
  refine (e_kI (q := (12, [some (.ref 29), some (.int l1), none], [.int r1, .ref 1])) (q2 := (15, [some (.ref 29), some (.int l1), none], [])) (M := M1) (o := (pcl GG lay d 248 [.ref 1, .int r1] M1)) (hf := rfl) rfl rfl).trans ?_
  refine kI_in (fun r2 M2 => ?_)
  refine (evn_adv 3 (q' := (19, [some (.ref 29), some (.int l1), some (.int r2)], [.int (jn 7), .int r2], M2)) rfl).trans ?_
  refine (e_ic_eq (hf := rfl)).trans ?_
  refine ite_in ?_ ?_
  · refine (evn_adv 2 (q' := (39, [some (.ref 29), some (.int l1), some (.int r2)], [.int (jn 1)], M2)) rfl).trans ?_
    exact e_iretz (hf := rfl)
  · refine (evn_adv 2 (q' := (25, [some (.ref 29), some (.int l1), some (.int r2)], [.int (jn 8), .int r2], M2)) rfl).trans ?_
    refine (e_ic_eq (hf := rfl)).trans ?_
    refine ite_in ?_ ?_
    · refine (evn_adv 2 (q' := (39, [some (.ref 29), some (.int l1), some (.int r2)], [.int (jn 1)], M2)) rfl).trans ?_
      exact e_iretz (hf := rfl)
    · refine (evn_adv 2 (q' := (31, [some (.ref 29), some (.int l1), some (.int r2)], [.int (jn 11), .int r2], M2)) rfl).trans ?_
      refine (e_ic_ne (hf := rfl)).trans ?_
      refine ite_in ?_ ?_
      · refine (evn_adv 2 (q' := (39, [some (.ref 29), some (.int l1), some (.int r2)], [.int (jn 1)], M2)) rfl).trans ?_
        exact e_iretz (hf := rfl)
      · refine (evn_adv 1 (q' := (39, [some (.ref 29), some (.int l1), some (.int r2)], [.int (jn 0)], M2)) rfl).trans ?_
        exact e_iretz (hf := rfl)
/-- TermStrategies$Runner.goOnFromFirst(I)V -/
noncomputable abbrev E_213 (d : Nat) : PQ → PO := evn (rnn k_213 lay none (pcl GG lay d) 0)
theorem q_213 (d : Nat) (l1 : Int32) (M : PM) : pcl GG lay (d + 1) 213 [.ref 29, .int l1] M = (kI (pcl GG lay d 65 [.ref 34, .int l1] M) fun r1 M1 => (if (M1.1 29 15) = (jz 1) then (if (jn 1) = jn 0 then E_213 d (42, [some (.ref 29), some (.int l1), some (.int r1), some (.int (jn 1)), none], [], M1) else (kI (pcl GG lay d 212 [.ref 29, .int l1] M1) fun r2 M2 => (if r2 = jn 0 then (kV (pcl GG lay d 205 [.ref 29, .int l1, .int (jz 1)] M2) fun M3 => (rV M3)) else E_213 d (42, [some (.ref 29), some (.int l1), some (.int r1), some (.int (jn 1)), none], [], M2)))) else (if (jn 0) = jn 0 then E_213 d (42, [some (.ref 29), some (.int l1), some (.int r1), some (.int (jn 0)), none], [], M1) else (kI (pcl GG lay d 212 [.ref 29, .int l1] M1) fun r2 M2 => (if r2 = jn 0 then (kV (pcl GG lay d 205 [.ref 29, .int l1, .int (jz 1)] M2) fun M3 => (rV M3)) else E_213 d (42, [some (.ref 29), some (.int l1), some (.int r1), some (.int (jn 0)), none], [], M2)))))) := by
  refine (pcl_un (mt := t_213) (by decide) rfl (Nat.le_of_ble_eq_true rfl)).trans ?_
  show E_213 d (0, [some (.ref 29), some (.int l1), none, none, none], [], M) = _
  refine (evn_adv 3 (q' := (5, [some (.ref 29), some (.int l1), none, none, none], [.int l1, .ref 34], M)) rfl).trans ?_
  refine (e_kI (q := (5, [some (.ref 29), some (.int l1), none, none, none], [.int l1, .ref 34])) (q2 := (8, [some (.ref 29), some (.int l1), none, none, none], [])) (M := M) (o := (pcl GG lay d 65 [.ref 34, .int l1] M)) (hf := rfl) rfl rfl).trans ?_
  refine kI_in (fun r1 M1 => ?_)
  refine (evn_adv 4 (q' := (14, [some (.ref 29), some (.int l1), some (.int r1), none, none], [.int (jz 1), .int (M1.1 29 15)], M1)) rfl).trans ?_
  refine (e_ic_ne (hf := rfl)).trans ?_
  refine ite_in ?_ ?_
  · refine (evn_adv 4 (q' := (24, [some (.ref 29), some (.int l1), some (.int r1), some (.int (jn 1)), none], [.int (jn 1)], M1)) rfl).trans ?_
    refine (e_if_eq (hf := rfl)).trans ?_
    refine ite_in ?_ ?_
    · rfl
    · refine (evn_adv 2 (q' := (29, [some (.ref 29), some (.int l1), some (.int r1), some (.int (jn 1)), none], [.int l1, .ref 29], M1)) rfl).trans ?_
      refine (e_kI (q := (29, [some (.ref 29), some (.int l1), some (.int r1), some (.int (jn 1)), none], [.int l1, .ref 29])) (q2 := (32, [some (.ref 29), some (.int l1), some (.int r1), some (.int (jn 1)), none], [])) (M := M1) (o := (pcl GG lay d 212 [.ref 29, .int l1] M1)) (hf := rfl) rfl rfl).trans ?_
      refine kI_in (fun r2 M2 => ?_)
      refine (e_if_ne (hf := rfl)).trans ?_
      refine ite_in ?_ ?_
      · refine (evn_adv 3 (q' := (38, [some (.ref 29), some (.int l1), some (.int r1), some (.int (jn 1)), none], [.int (jz 1), .int l1, .ref 29], M2)) rfl).trans ?_
        refine (e_kV (q := (38, [some (.ref 29), some (.int l1), some (.int r1), some (.int (jn 1)), none], [.int (jz 1), .int l1, .ref 29])) (q2 := (41, [some (.ref 29), some (.int l1), some (.int r1), some (.int (jn 1)), none], [])) (M := M2) (o := (pcl GG lay d 205 [.ref 29, .int l1, .int (jz 1)] M2)) (hf := rfl) rfl rfl).trans ?_
        refine kV_in (fun M3 => ?_)
        exact evn_end 1 rfl
      · rfl
  · refine (evn_adv 3 (q' := (24, [some (.ref 29), some (.int l1), some (.int r1), some (.int (jn 0)), none], [.int (jn 0)], M1)) rfl).trans ?_
    refine (e_if_eq (hf := rfl)).trans ?_
    refine ite_in ?_ ?_
    · rfl
    · refine (evn_adv 2 (q' := (29, [some (.ref 29), some (.int l1), some (.int r1), some (.int (jn 0)), none], [.int l1, .ref 29], M1)) rfl).trans ?_
      refine (e_kI (q := (29, [some (.ref 29), some (.int l1), some (.int r1), some (.int (jn 0)), none], [.int l1, .ref 29])) (q2 := (32, [some (.ref 29), some (.int l1), some (.int r1), some (.int (jn 0)), none], [])) (M := M1) (o := (pcl GG lay d 212 [.ref 29, .int l1] M1)) (hf := rfl) rfl rfl).trans ?_
      refine kI_in (fun r2 M2 => ?_)
      refine (e_if_ne (hf := rfl)).trans ?_
      refine ite_in ?_ ?_
      · refine (evn_adv 3 (q' := (38, [some (.ref 29), some (.int l1), some (.int r1), some (.int (jn 0)), none], [.int (jz 1), .int l1, .ref 29], M2)) rfl).trans ?_
        refine (e_kV (q := (38, [some (.ref 29), some (.int l1), some (.int r1), some (.int (jn 0)), none], [.int (jz 1), .int l1, .ref 29])) (q2 := (41, [some (.ref 29), some (.int l1), some (.int r1), some (.int (jn 0)), none], [])) (M := M2) (o := (pcl GG lay d 205 [.ref 29, .int l1, .int (jz 1)] M2)) (hf := rfl) rfl rfl).trans ?_
        refine kV_in (fun M3 => ?_)
        exact evn_end 1 rfl
      · rfl
theorem h_213_42 (d : Nat) (l1 : Int32) (l2 : Int32) (l3 : Int32) (u4 : Option Value) (M : PM) : E_213 d (42, [some (.ref 29), some (.int l1), some (.int l2), some (.int l3), u4], [], M) = (kV (pcl GG lay d 66 [.ref 37, .int l1, .int (M.1 29 15)] M) fun M1 => (if l3 = jn 0 then (kI (pcl GG lay d 65 [.ref 33, .int l1] M1) fun r2 M2 => (kI (pcl GG lay d 248 [.ref 1, .int r2] M2) fun r3 M3 => (if r3 = (jn 8) then E_213 d (90, [some (.ref 29), some (.int l1), some (.int l2), some (.int l3), u4], [], M3) else (kI (pcl GG lay d 212 [.ref 29, .int l1] M3) fun r4 M4 => (if r4 = jn 0 then E_213 d (90, [some (.ref 29), some (.int l1), some (.int l2), some (.int l3), u4], [], M4) else (kI (pcl GG lay d 231 [.ref 6, .int l2] M4) fun r5 M5 => (kI (pcl GG lay d 63 [.int r5] M5) fun r6 M6 => (if r6 = (jn 2) then (if (jn 1) = jn 0 then (kI (pcl GG lay d 211 [.ref 29, .int l1] M6) fun r7 M7 => (kI (pcl GG lay d 233 [.ref 6, .int (l2 + (jn 1))] M7) fun r8 M8 => (kL (pcl GG lay d 67 [.ref 35, .int l1] M8) fun r9 M9 => (kV (pcl GG lay d 201 [.ref 29, .int l1, .int (jn 3), .int r7, .int r8, .long (((Int64.ofInt 3) * r9) + (Int64.ofInt 2))] M9) fun M10 => E_213 d (163, [some (.ref 29), some (.int l1), some (.int l2), some (.int l3), some (.int (jn 1))], [], M10))))) else E_213 d (153, [some (.ref 29), some (.int l1), some (.int l2), some (.int l3), some (.int (jn 1))], [], M6)) else E_213 d (153, [some (.ref 29), some (.int l1), some (.int l2), some (.int l3), some (.int (jn 1))], [], M6))))))))) else E_213 d (90, [some (.ref 29), some (.int l1), some (.int l2), some (.int l3), u4], [], M1))) := by
  refine (evn_adv 5 (q' := (51, [some (.ref 29), some (.int l1), some (.int l2), some (.int l3), u4], [.int (M.1 29 15), .int l1, .ref 37], M)) rfl).trans ?_
  refine (e_kV (q := (51, [some (.ref 29), some (.int l1), some (.int l2), some (.int l3), u4], [.int (M.1 29 15), .int l1, .ref 37])) (q2 := (54, [some (.ref 29), some (.int l1), some (.int l2), some (.int l3), u4], [])) (M := M) (o := (pcl GG lay d 66 [.ref 37, .int l1, .int (M.1 29 15)] M)) (hf := rfl) rfl rfl).trans ?_
  refine kV_in (fun M1 => ?_)
  refine (evn_adv 1 (q' := (55, [some (.ref 29), some (.int l1), some (.int l2), some (.int l3), u4], [.int l3], M1)) rfl).trans ?_
  refine (e_if_ne (hf := rfl)).trans ?_
  refine ite_in ?_ ?_
  · refine (evn_adv 5 (q' := (67, [some (.ref 29), some (.int l1), some (.int l2), some (.int l3), u4], [.int l1, .ref 33, .ref 1], M1)) rfl).trans ?_
    refine (e_kI (q := (67, [some (.ref 29), some (.int l1), some (.int l2), some (.int l3), u4], [.int l1, .ref 33, .ref 1])) (q2 := (70, [some (.ref 29), some (.int l1), some (.int l2), some (.int l3), u4], [.ref 1])) (M := M1) (o := (pcl GG lay d 65 [.ref 33, .int l1] M1)) (hf := rfl) rfl rfl).trans ?_
    refine kI_in (fun r2 M2 => ?_)
    refine (e_kI (q := (70, [some (.ref 29), some (.int l1), some (.int l2), some (.int l3), u4], [.int r2, .ref 1])) (q2 := (73, [some (.ref 29), some (.int l1), some (.int l2), some (.int l3), u4], [])) (M := M2) (o := (pcl GG lay d 248 [.ref 1, .int r2] M2)) (hf := rfl) rfl rfl).trans ?_
    refine kI_in (fun r3 M3 => ?_)
    refine (evn_adv 1 (q' := (75, [some (.ref 29), some (.int l1), some (.int l2), some (.int l3), u4], [.int (jn 8), .int r3], M3)) rfl).trans ?_
    refine (e_ic_eq (hf := rfl)).trans ?_
    refine ite_in ?_ ?_
    · rfl
    · refine (evn_adv 2 (q' := (80, [some (.ref 29), some (.int l1), some (.int l2), some (.int l3), u4], [.int l1, .ref 29], M3)) rfl).trans ?_
      refine (e_kI (q := (80, [some (.ref 29), some (.int l1), some (.int l2), some (.int l3), u4], [.int l1, .ref 29])) (q2 := (83, [some (.ref 29), some (.int l1), some (.int l2), some (.int l3), u4], [])) (M := M3) (o := (pcl GG lay d 212 [.ref 29, .int l1] M3)) (hf := rfl) rfl rfl).trans ?_
      refine kI_in (fun r4 M4 => ?_)
      refine (e_if_eq (hf := rfl)).trans ?_
      refine ite_in ?_ ?_
      · rfl
      · refine (evn_adv 6 (q' := (98, [some (.ref 29), some (.int l1), some (.int l2), some (.int l3), some (.int (jn 1))], [.int l2, .ref 6], M4)) rfl).trans ?_
        refine (e_kI (q := (98, [some (.ref 29), some (.int l1), some (.int l2), some (.int l3), some (.int (jn 1))], [.int l2, .ref 6])) (q2 := (101, [some (.ref 29), some (.int l1), some (.int l2), some (.int l3), some (.int (jn 1))], [])) (M := M4) (o := (pcl GG lay d 231 [.ref 6, .int l2] M4)) (hf := rfl) rfl rfl).trans ?_
        refine kI_in (fun r5 M5 => ?_)
        refine (e_kI (q := (101, [some (.ref 29), some (.int l1), some (.int l2), some (.int l3), some (.int (jn 1))], [.int r5])) (q2 := (104, [some (.ref 29), some (.int l1), some (.int l2), some (.int l3), some (.int (jn 1))], [])) (M := M5) (o := (pcl GG lay d 63 [.int r5] M5)) (hf := rfl) rfl rfl).trans ?_
        refine kI_in (fun r6 M6 => ?_)
        refine (evn_adv 1 (q' := (105, [some (.ref 29), some (.int l1), some (.int l2), some (.int l3), some (.int (jn 1))], [.int (jn 2), .int r6], M6)) rfl).trans ?_
        refine (e_ic_ne (hf := rfl)).trans ?_
        refine ite_in ?_ ?_
        · refine (evn_adv 1 (q' := (110, [some (.ref 29), some (.int l1), some (.int l2), some (.int l3), some (.int (jn 1))], [.int (jn 1)], M6)) rfl).trans ?_
          refine (e_if_ne (hf := rfl)).trans ?_
          refine ite_in ?_ ?_
          · refine (evn_adv 5 (q' := (118, [some (.ref 29), some (.int l1), some (.int l2), some (.int l3), some (.int (jn 1))], [.int l1, .ref 29, .int (jn 3), .int l1, .ref 29], M6)) rfl).trans ?_
            refine (e_kI (q := (118, [some (.ref 29), some (.int l1), some (.int l2), some (.int l3), some (.int (jn 1))], [.int l1, .ref 29, .int (jn 3), .int l1, .ref 29])) (q2 := (121, [some (.ref 29), some (.int l1), some (.int l2), some (.int l3), some (.int (jn 1))], [.int (jn 3), .int l1, .ref 29])) (M := M6) (o := (pcl GG lay d 211 [.ref 29, .int l1] M6)) (hf := rfl) rfl rfl).trans ?_
            refine kI_in (fun r7 M7 => ?_)
            refine (evn_adv 5 (q' := (128, [some (.ref 29), some (.int l1), some (.int l2), some (.int l3), some (.int (jn 1))], [.int (l2 + (jn 1)), .ref 6, .int r7, .int (jn 3), .int l1, .ref 29], M7)) rfl).trans ?_
            refine (e_kI (q := (128, [some (.ref 29), some (.int l1), some (.int l2), some (.int l3), some (.int (jn 1))], [.int (l2 + (jn 1)), .ref 6, .int r7, .int (jn 3), .int l1, .ref 29])) (q2 := (131, [some (.ref 29), some (.int l1), some (.int l2), some (.int l3), some (.int (jn 1))], [.int r7, .int (jn 3), .int l1, .ref 29])) (M := M7) (o := (pcl GG lay d 233 [.ref 6, .int (l2 + (jn 1))] M7)) (hf := rfl) rfl rfl).trans ?_
            refine kI_in (fun r8 M8 => ?_)
            refine (evn_adv 4 (q' := (139, [some (.ref 29), some (.int l1), some (.int l2), some (.int l3), some (.int (jn 1))], [.int l1, .ref 35, .long (Int64.ofInt 3), .int r8, .int r7, .int (jn 3), .int l1, .ref 29], M8)) rfl).trans ?_
            refine (e_kL (q := (139, [some (.ref 29), some (.int l1), some (.int l2), some (.int l3), some (.int (jn 1))], [.int l1, .ref 35, .long (Int64.ofInt 3), .int r8, .int r7, .int (jn 3), .int l1, .ref 29])) (q2 := (142, [some (.ref 29), some (.int l1), some (.int l2), some (.int l3), some (.int (jn 1))], [.long (Int64.ofInt 3), .int r8, .int r7, .int (jn 3), .int l1, .ref 29])) (M := M8) (o := (pcl GG lay d 67 [.ref 35, .int l1] M8)) (hf := rfl) rfl rfl).trans ?_
            refine kL_in (fun r9 M9 => ?_)
            refine (evn_adv 3 (q' := (147, [some (.ref 29), some (.int l1), some (.int l2), some (.int l3), some (.int (jn 1))], [.long (((Int64.ofInt 3) * r9) + (Int64.ofInt 2)), .int r8, .int r7, .int (jn 3), .int l1, .ref 29], M9)) rfl).trans ?_
            refine (e_kV (q := (147, [some (.ref 29), some (.int l1), some (.int l2), some (.int l3), some (.int (jn 1))], [.long (((Int64.ofInt 3) * r9) + (Int64.ofInt 2)), .int r8, .int r7, .int (jn 3), .int l1, .ref 29])) (q2 := (150, [some (.ref 29), some (.int l1), some (.int l2), some (.int l3), some (.int (jn 1))], [])) (M := M9) (o := (pcl GG lay d 201 [.ref 29, .int l1, .int (jn 3), .int r7, .int r8, .long (((Int64.ofInt 3) * r9) + (Int64.ofInt 2))] M9)) (hf := rfl) rfl rfl).trans ?_
            refine kV_in (fun M10 => ?_)
            refine (evn_adv 1 (q' := (163, [some (.ref 29), some (.int l1), some (.int l2), some (.int l3), some (.int (jn 1))], [], M10)) rfl).trans ?_
            rfl
          · rfl
        · rfl
  · rfl
theorem h_213_90 (d : Nat) (l1 : Int32) (l2 : Int32) (u3 : Option Value) (u4 : Option Value) (M : PM) : E_213 d (90, [some (.ref 29), some (.int l1), some (.int l2), u3, u4], [], M) = (kI (pcl GG lay d 231 [.ref 6, .int l2] M) fun r1 M1 => (kI (pcl GG lay d 63 [.int r1] M1) fun r2 M2 => (if r2 = (jn 2) then (if (jn 0) = jn 0 then (kI (pcl GG lay d 211 [.ref 29, .int l1] M2) fun r3 M3 => (kI (pcl GG lay d 233 [.ref 6, .int (l2 + (jn 1))] M3) fun r4 M4 => (kL (pcl GG lay d 67 [.ref 35, .int l1] M4) fun r5 M5 => (kV (pcl GG lay d 201 [.ref 29, .int l1, .int (jn 3), .int r3, .int r4, .long (((Int64.ofInt 3) * r5) + (Int64.ofInt 2))] M5) fun M6 => E_213 d (163, [some (.ref 29), some (.int l1), some (.int l2), u3, some (.int (jn 0))], [], M6))))) else E_213 d (153, [some (.ref 29), some (.int l1), some (.int l2), u3, some (.int (jn 0))], [], M2)) else E_213 d (153, [some (.ref 29), some (.int l1), some (.int l2), u3, some (.int (jn 0))], [], M2)))) := by
  refine (evn_adv 5 (q' := (98, [some (.ref 29), some (.int l1), some (.int l2), u3, some (.int (jn 0))], [.int l2, .ref 6], M)) rfl).trans ?_
  refine (e_kI (q := (98, [some (.ref 29), some (.int l1), some (.int l2), u3, some (.int (jn 0))], [.int l2, .ref 6])) (q2 := (101, [some (.ref 29), some (.int l1), some (.int l2), u3, some (.int (jn 0))], [])) (M := M) (o := (pcl GG lay d 231 [.ref 6, .int l2] M)) (hf := rfl) rfl rfl).trans ?_
  refine kI_in (fun r1 M1 => ?_)
  refine (e_kI (q := (101, [some (.ref 29), some (.int l1), some (.int l2), u3, some (.int (jn 0))], [.int r1])) (q2 := (104, [some (.ref 29), some (.int l1), some (.int l2), u3, some (.int (jn 0))], [])) (M := M1) (o := (pcl GG lay d 63 [.int r1] M1)) (hf := rfl) rfl rfl).trans ?_
  refine kI_in (fun r2 M2 => ?_)
  refine (evn_adv 1 (q' := (105, [some (.ref 29), some (.int l1), some (.int l2), u3, some (.int (jn 0))], [.int (jn 2), .int r2], M2)) rfl).trans ?_
  refine (e_ic_ne (hf := rfl)).trans ?_
  refine ite_in ?_ ?_
  · refine (evn_adv 1 (q' := (110, [some (.ref 29), some (.int l1), some (.int l2), u3, some (.int (jn 0))], [.int (jn 0)], M2)) rfl).trans ?_
    refine (e_if_ne (hf := rfl)).trans ?_
    refine ite_in ?_ ?_
    · refine (evn_adv 5 (q' := (118, [some (.ref 29), some (.int l1), some (.int l2), u3, some (.int (jn 0))], [.int l1, .ref 29, .int (jn 3), .int l1, .ref 29], M2)) rfl).trans ?_
      refine (e_kI (q := (118, [some (.ref 29), some (.int l1), some (.int l2), u3, some (.int (jn 0))], [.int l1, .ref 29, .int (jn 3), .int l1, .ref 29])) (q2 := (121, [some (.ref 29), some (.int l1), some (.int l2), u3, some (.int (jn 0))], [.int (jn 3), .int l1, .ref 29])) (M := M2) (o := (pcl GG lay d 211 [.ref 29, .int l1] M2)) (hf := rfl) rfl rfl).trans ?_
      refine kI_in (fun r3 M3 => ?_)
      refine (evn_adv 5 (q' := (128, [some (.ref 29), some (.int l1), some (.int l2), u3, some (.int (jn 0))], [.int (l2 + (jn 1)), .ref 6, .int r3, .int (jn 3), .int l1, .ref 29], M3)) rfl).trans ?_
      refine (e_kI (q := (128, [some (.ref 29), some (.int l1), some (.int l2), u3, some (.int (jn 0))], [.int (l2 + (jn 1)), .ref 6, .int r3, .int (jn 3), .int l1, .ref 29])) (q2 := (131, [some (.ref 29), some (.int l1), some (.int l2), u3, some (.int (jn 0))], [.int r3, .int (jn 3), .int l1, .ref 29])) (M := M3) (o := (pcl GG lay d 233 [.ref 6, .int (l2 + (jn 1))] M3)) (hf := rfl) rfl rfl).trans ?_
      refine kI_in (fun r4 M4 => ?_)
      refine (evn_adv 4 (q' := (139, [some (.ref 29), some (.int l1), some (.int l2), u3, some (.int (jn 0))], [.int l1, .ref 35, .long (Int64.ofInt 3), .int r4, .int r3, .int (jn 3), .int l1, .ref 29], M4)) rfl).trans ?_
      refine (e_kL (q := (139, [some (.ref 29), some (.int l1), some (.int l2), u3, some (.int (jn 0))], [.int l1, .ref 35, .long (Int64.ofInt 3), .int r4, .int r3, .int (jn 3), .int l1, .ref 29])) (q2 := (142, [some (.ref 29), some (.int l1), some (.int l2), u3, some (.int (jn 0))], [.long (Int64.ofInt 3), .int r4, .int r3, .int (jn 3), .int l1, .ref 29])) (M := M4) (o := (pcl GG lay d 67 [.ref 35, .int l1] M4)) (hf := rfl) rfl rfl).trans ?_
      refine kL_in (fun r5 M5 => ?_)
      refine (evn_adv 3 (q' := (147, [some (.ref 29), some (.int l1), some (.int l2), u3, some (.int (jn 0))], [.long (((Int64.ofInt 3) * r5) + (Int64.ofInt 2)), .int r4, .int r3, .int (jn 3), .int l1, .ref 29], M5)) rfl).trans ?_
      refine (e_kV (q := (147, [some (.ref 29), some (.int l1), some (.int l2), u3, some (.int (jn 0))], [.long (((Int64.ofInt 3) * r5) + (Int64.ofInt 2)), .int r4, .int r3, .int (jn 3), .int l1, .ref 29])) (q2 := (150, [some (.ref 29), some (.int l1), some (.int l2), u3, some (.int (jn 0))], [])) (M := M5) (o := (pcl GG lay d 201 [.ref 29, .int l1, .int (jn 3), .int r3, .int r4, .long (((Int64.ofInt 3) * r5) + (Int64.ofInt 2))] M5)) (hf := rfl) rfl rfl).trans ?_
      refine kV_in (fun M6 => ?_)
      refine (evn_adv 1 (q' := (163, [some (.ref 29), some (.int l1), some (.int l2), u3, some (.int (jn 0))], [], M6)) rfl).trans ?_
      rfl
    · rfl
  · rfl
theorem h_213_163 (d : Nat) (u0 : Option Value) (u1 : Option Value) (u2 : Option Value) (u3 : Option Value) (u4 : Option Value) (M : PM) : E_213 d (163, [u0, u1, u2, u3, u4], [], M) = (rV M) := by
  exact evn_end 1 rfl
theorem h_213_153 (d : Nat) (l1 : Int32) (u2 : Option Value) (u3 : Option Value) (u4 : Option Value) (M : PM) : E_213 d (153, [some (.ref 29), some (.int l1), u2, u3, u4], [], M) = (kV (pcl GG lay d 215 [.ref 29, .int l1, .int (M.1 29 15), .int (jz 1)] M) fun M1 => E_213 d (163, [some (.ref 29), some (.int l1), u2, u3, u4], [], M1)) := by
  refine (evn_adv 5 (q' := (160, [some (.ref 29), some (.int l1), u2, u3, u4], [.int (jz 1), .int (M.1 29 15), .int l1, .ref 29], M)) rfl).trans ?_
  refine (e_kV (q := (160, [some (.ref 29), some (.int l1), u2, u3, u4], [.int (jz 1), .int (M.1 29 15), .int l1, .ref 29])) (q2 := (163, [some (.ref 29), some (.int l1), u2, u3, u4], [])) (M := M) (o := (pcl GG lay d 215 [.ref 29, .int l1, .int (M.1 29 15), .int (jz 1)] M)) (hf := rfl) rfl rfl).trans ?_
  refine kV_in (fun M1 => ?_)
  rfl
/-- TermStrategies$Runner.goOnFromSecond(I)V -/
noncomputable abbrev E_214 (d : Nat) : PQ → PO := evn (rnn k_214 lay none (pcl GG lay d) 0)
theorem q_214 (d : Nat) (l1 : Int32) (M : PM) : pcl GG lay (d + 1) 214 [.ref 29, .int l1] M = (if (M.1 29 15) = (jz 1) then (kI (pcl GG lay d 212 [.ref 29, .int l1] M) fun r1 M1 => (if r1 = jn 0 then (kV (pcl GG lay d 205 [.ref 29, .int l1, .int (jz 1)] M1) fun M2 => (rV M2)) else (kI (pcl GG lay d 65 [.ref 37, .int l1] M1) fun r2 M2 => (kV (pcl GG lay d 215 [.ref 29, .int l1, .int r2, .int (M2.1 29 15)] M2) fun M3 => (rV M3))))) else (kI (pcl GG lay d 65 [.ref 37, .int l1] M) fun r1 M1 => (kV (pcl GG lay d 215 [.ref 29, .int l1, .int r1, .int (M1.1 29 15)] M1) fun M2 => (rV M2)))) := by
  refine (pcl_un (mt := t_214) (by decide) rfl (Nat.le_of_ble_eq_true rfl)).trans ?_
  show E_214 d (0, [some (.ref 29), some (.int l1)], [], M) = _
  refine (evn_adv 3 (q' := (5, [some (.ref 29), some (.int l1)], [.int (jz 1), .int (M.1 29 15)], M)) rfl).trans ?_
  refine (e_ic_ne (hf := rfl)).trans ?_
  refine ite_in ?_ ?_
  · refine (evn_adv 2 (q' := (10, [some (.ref 29), some (.int l1)], [.int l1, .ref 29], M)) rfl).trans ?_
    refine (e_kI (q := (10, [some (.ref 29), some (.int l1)], [.int l1, .ref 29])) (q2 := (13, [some (.ref 29), some (.int l1)], [])) (M := M) (o := (pcl GG lay d 212 [.ref 29, .int l1] M)) (hf := rfl) rfl rfl).trans ?_
    refine kI_in (fun r1 M1 => ?_)
    refine (e_if_ne (hf := rfl)).trans ?_
    refine ite_in ?_ ?_
    · refine (evn_adv 3 (q' := (19, [some (.ref 29), some (.int l1)], [.int (jz 1), .int l1, .ref 29], M1)) rfl).trans ?_
      refine (e_kV (q := (19, [some (.ref 29), some (.int l1)], [.int (jz 1), .int l1, .ref 29])) (q2 := (22, [some (.ref 29), some (.int l1)], [])) (M := M1) (o := (pcl GG lay d 205 [.ref 29, .int l1, .int (jz 1)] M1)) (hf := rfl) rfl rfl).trans ?_
      refine kV_in (fun M2 => ?_)
      refine (evn_adv 1 (q' := (42, [some (.ref 29), some (.int l1)], [], M2)) rfl).trans ?_
      exact evn_end 1 rfl
    · refine (evn_adv 5 (q' := (32, [some (.ref 29), some (.int l1)], [.int l1, .ref 37, .int l1, .ref 29], M1)) rfl).trans ?_
      refine (e_kI (q := (32, [some (.ref 29), some (.int l1)], [.int l1, .ref 37, .int l1, .ref 29])) (q2 := (35, [some (.ref 29), some (.int l1)], [.int l1, .ref 29])) (M := M1) (o := (pcl GG lay d 65 [.ref 37, .int l1] M1)) (hf := rfl) rfl rfl).trans ?_
      refine kI_in (fun r2 M2 => ?_)
      refine (evn_adv 2 (q' := (39, [some (.ref 29), some (.int l1)], [.int (M2.1 29 15), .int r2, .int l1, .ref 29], M2)) rfl).trans ?_
      refine (e_kV (q := (39, [some (.ref 29), some (.int l1)], [.int (M2.1 29 15), .int r2, .int l1, .ref 29])) (q2 := (42, [some (.ref 29), some (.int l1)], [])) (M := M2) (o := (pcl GG lay d 215 [.ref 29, .int l1, .int r2, .int (M2.1 29 15)] M2)) (hf := rfl) rfl rfl).trans ?_
      refine kV_in (fun M3 => ?_)
      exact evn_end 1 rfl
  · refine (evn_adv 5 (q' := (32, [some (.ref 29), some (.int l1)], [.int l1, .ref 37, .int l1, .ref 29], M)) rfl).trans ?_
    refine (e_kI (q := (32, [some (.ref 29), some (.int l1)], [.int l1, .ref 37, .int l1, .ref 29])) (q2 := (35, [some (.ref 29), some (.int l1)], [.int l1, .ref 29])) (M := M) (o := (pcl GG lay d 65 [.ref 37, .int l1] M)) (hf := rfl) rfl rfl).trans ?_
    refine kI_in (fun r1 M1 => ?_)
    refine (evn_adv 2 (q' := (39, [some (.ref 29), some (.int l1)], [.int (M1.1 29 15), .int r1, .int l1, .ref 29], M1)) rfl).trans ?_
    refine (e_kV (q := (39, [some (.ref 29), some (.int l1)], [.int (M1.1 29 15), .int r1, .int l1, .ref 29])) (q2 := (42, [some (.ref 29), some (.int l1)], [])) (M := M1) (o := (pcl GG lay d 215 [.ref 29, .int l1, .int r1, .int (M1.1 29 15)] M1)) (hf := rfl) rfl rfl).trans ?_
    refine kV_in (fun M2 => ?_)
    exact evn_end 1 rfl
/-- TermStrategies$Runner.join(III)V -/
noncomputable abbrev E_215 (d : Nat) : PQ → PO := evn (rnn k_215 lay none (pcl GG lay d) 0)
theorem q_215 (d : Nat) (l1 : Int32) (l2 : Int32) (l3 : Int32) (M : PM) : pcl GG lay (d + 1) 215 [.ref 29, .int l1, .int l2, .int l3] M = (if l2 = (jz 1) then (if l3 = (jz 1) then (kV (pcl GG lay d 210 [.ref 29, .int l1, .int (jz 1)] M) fun M1 => (rV M1)) else E_215 d (17, [some (.ref 29), some (.int l1), some (.int l2), some (.int l3), none, none, none, none, none], [], M)) else E_215 d (17, [some (.ref 29), some (.int l1), some (.int l2), some (.int l3), none, none, none, none, none], [], M)) := by
  refine (pcl_un (mt := t_215) (by decide) rfl (Nat.le_of_ble_eq_true rfl)).trans ?_
  show E_215 d (0, [some (.ref 29), some (.int l1), some (.int l2), some (.int l3), none, none, none, none, none], [], M) = _
  refine (evn_adv 2 (q' := (2, [some (.ref 29), some (.int l1), some (.int l2), some (.int l3), none, none, none, none, none], [.int (jz 1), .int l2], M)) rfl).trans ?_
  refine (e_ic_ne (hf := rfl)).trans ?_
  refine ite_in ?_ ?_
  · refine (evn_adv 2 (q' := (7, [some (.ref 29), some (.int l1), some (.int l2), some (.int l3), none, none, none, none, none], [.int (jz 1), .int l3], M)) rfl).trans ?_
    refine (e_ic_ne (hf := rfl)).trans ?_
    refine ite_in ?_ ?_
    · refine (evn_adv 3 (q' := (13, [some (.ref 29), some (.int l1), some (.int l2), some (.int l3), none, none, none, none, none], [.int (jz 1), .int l1, .ref 29], M)) rfl).trans ?_
      refine (e_kV (q := (13, [some (.ref 29), some (.int l1), some (.int l2), some (.int l3), none, none, none, none, none], [.int (jz 1), .int l1, .ref 29])) (q2 := (16, [some (.ref 29), some (.int l1), some (.int l2), some (.int l3), none, none, none, none, none], [])) (M := M) (o := (pcl GG lay d 210 [.ref 29, .int l1, .int (jz 1)] M)) (hf := rfl) rfl rfl).trans ?_
      refine kV_in (fun M1 => ?_)
      exact evn_end 1 rfl
    · rfl
  · rfl
theorem h_215_17 (d : Nat) (l1 : Int32) (l2 : Int32) (l3 : Int32) (u4 : Option Value) (u5 : Option Value) (u6 : Option Value) (u7 : Option Value) (u8 : Option Value) (M : PM) : E_215 d (17, [some (.ref 29), some (.int l1), some (.int l2), some (.int l3), u4, u5, u6, u7, u8], [], M) = (kI (pcl GG lay d 65 [.ref 34, .int l1] M) fun r1 M1 => (kI (pcl GG lay d 231 [.ref 6, .int r1] M1) fun r2 M2 => (kI (pcl GG lay d 63 [.int r2] M2) fun r3 M3 => (if r3 = (jn 2) then (if l2 = (jz 1) then (if l3 = (jz 1) then (kI (pcl GG lay d 233 [.ref 6, .int (r1 + (jn 1))] M3) fun r4 M4 => (if (r1 + (jn 1)) = (r1 + (jn 1)) then (if (jn 1) = jn 0 then E_215 d (117, [some (.ref 29), some (.int l1), some (.int l2), some (.int l3), some (.int r1), some (.int (jn 1)), some (.int (r1 + (jn 1))), some (.int r4), u8], [], M4) else (kI (pcl GG lay d 233 [.ref 6, .int (r1 + (jn 1))] M4) fun r5 M5 => (if r4 = r5 then E_215 d (117, [some (.ref 29), some (.int l1), some (.int l2), some (.int l3), some (.int r1), some (.int (jn 1)), some (.int (r1 + (jn 1))), some (.int r4), u8], [], M5) else E_215 d (125, [some (.ref 29), some (.int l1), some (.int l2), some (.int l3), some (.int r1), some (.int (jn 1)), some (.int (r1 + (jn 1))), some (.int r4), u8], [], M5)))) else E_215 d (125, [some (.ref 29), some (.int l1), some (.int l2), some (.int l3), some (.int r1), some (.int (jn 1)), some (.int (r1 + (jn 1))), some (.int r4), u8], [], M4))) else (if (r1 + (jn 1)) = (r1 + (jn 1)) then (if (jn 1) = jn 0 then E_215 d (117, [some (.ref 29), some (.int l1), some (.int l2), some (.int l3), some (.int r1), some (.int (jn 1)), some (.int (r1 + (jn 1))), some (.int l3), u8], [], M3) else (kI (pcl GG lay d 233 [.ref 6, .int (r1 + (jn 1))] M3) fun r4 M4 => (if l3 = r4 then E_215 d (117, [some (.ref 29), some (.int l1), some (.int l2), some (.int l3), some (.int r1), some (.int (jn 1)), some (.int (r1 + (jn 1))), some (.int l3), u8], [], M4) else E_215 d (125, [some (.ref 29), some (.int l1), some (.int l2), some (.int l3), some (.int r1), some (.int (jn 1)), some (.int (r1 + (jn 1))), some (.int l3), u8], [], M4)))) else E_215 d (125, [some (.ref 29), some (.int l1), some (.int l2), some (.int l3), some (.int r1), some (.int (jn 1)), some (.int (r1 + (jn 1))), some (.int l3), u8], [], M3))) else (if l3 = (jz 1) then (kI (pcl GG lay d 233 [.ref 6, .int (r1 + (jn 1))] M3) fun r4 M4 => (if l2 = (r1 + (jn 1)) then (if (jn 1) = jn 0 then E_215 d (117, [some (.ref 29), some (.int l1), some (.int l2), some (.int l3), some (.int r1), some (.int (jn 1)), some (.int l2), some (.int r4), u8], [], M4) else (kI (pcl GG lay d 233 [.ref 6, .int (r1 + (jn 1))] M4) fun r5 M5 => (if r4 = r5 then E_215 d (117, [some (.ref 29), some (.int l1), some (.int l2), some (.int l3), some (.int r1), some (.int (jn 1)), some (.int l2), some (.int r4), u8], [], M5) else E_215 d (125, [some (.ref 29), some (.int l1), some (.int l2), some (.int l3), some (.int r1), some (.int (jn 1)), some (.int l2), some (.int r4), u8], [], M5)))) else E_215 d (125, [some (.ref 29), some (.int l1), some (.int l2), some (.int l3), some (.int r1), some (.int (jn 1)), some (.int l2), some (.int r4), u8], [], M4))) else (if l2 = (r1 + (jn 1)) then (if (jn 1) = jn 0 then E_215 d (117, [some (.ref 29), some (.int l1), some (.int l2), some (.int l3), some (.int r1), some (.int (jn 1)), some (.int l2), some (.int l3), u8], [], M3) else (kI (pcl GG lay d 233 [.ref 6, .int (r1 + (jn 1))] M3) fun r4 M4 => (if l3 = r4 then E_215 d (117, [some (.ref 29), some (.int l1), some (.int l2), some (.int l3), some (.int r1), some (.int (jn 1)), some (.int l2), some (.int l3), u8], [], M4) else E_215 d (125, [some (.ref 29), some (.int l1), some (.int l2), some (.int l3), some (.int r1), some (.int (jn 1)), some (.int l2), some (.int l3), u8], [], M4)))) else E_215 d (125, [some (.ref 29), some (.int l1), some (.int l2), some (.int l3), some (.int r1), some (.int (jn 1)), some (.int l2), some (.int l3), u8], [], M3)))) else (if l2 = (jz 1) then (if l3 = (jz 1) then (kI (pcl GG lay d 233 [.ref 6, .int (r1 + (jn 1))] M3) fun r4 M4 => (if (r1 + (jn 1)) = (r1 + (jn 1)) then (if (jn 0) = jn 0 then E_215 d (117, [some (.ref 29), some (.int l1), some (.int l2), some (.int l3), some (.int r1), some (.int (jn 0)), some (.int (r1 + (jn 1))), some (.int r4), u8], [], M4) else (kI (pcl GG lay d 233 [.ref 6, .int (r1 + (jn 1))] M4) fun r5 M5 => (if r4 = r5 then E_215 d (117, [some (.ref 29), some (.int l1), some (.int l2), some (.int l3), some (.int r1), some (.int (jn 0)), some (.int (r1 + (jn 1))), some (.int r4), u8], [], M5) else E_215 d (125, [some (.ref 29), some (.int l1), some (.int l2), some (.int l3), some (.int r1), some (.int (jn 0)), some (.int (r1 + (jn 1))), some (.int r4), u8], [], M5)))) else E_215 d (125, [some (.ref 29), some (.int l1), some (.int l2), some (.int l3), some (.int r1), some (.int (jn 0)), some (.int (r1 + (jn 1))), some (.int r4), u8], [], M4))) else (if (r1 + (jn 1)) = (r1 + (jn 1)) then (if (jn 0) = jn 0 then E_215 d (117, [some (.ref 29), some (.int l1), some (.int l2), some (.int l3), some (.int r1), some (.int (jn 0)), some (.int (r1 + (jn 1))), some (.int l3), u8], [], M3) else (kI (pcl GG lay d 233 [.ref 6, .int (r1 + (jn 1))] M3) fun r4 M4 => (if l3 = r4 then E_215 d (117, [some (.ref 29), some (.int l1), some (.int l2), some (.int l3), some (.int r1), some (.int (jn 0)), some (.int (r1 + (jn 1))), some (.int l3), u8], [], M4) else E_215 d (125, [some (.ref 29), some (.int l1), some (.int l2), some (.int l3), some (.int r1), some (.int (jn 0)), some (.int (r1 + (jn 1))), some (.int l3), u8], [], M4)))) else E_215 d (125, [some (.ref 29), some (.int l1), some (.int l2), some (.int l3), some (.int r1), some (.int (jn 0)), some (.int (r1 + (jn 1))), some (.int l3), u8], [], M3))) else (if l3 = (jz 1) then (kI (pcl GG lay d 233 [.ref 6, .int (r1 + (jn 1))] M3) fun r4 M4 => (if l2 = (r1 + (jn 1)) then (if (jn 0) = jn 0 then E_215 d (117, [some (.ref 29), some (.int l1), some (.int l2), some (.int l3), some (.int r1), some (.int (jn 0)), some (.int l2), some (.int r4), u8], [], M4) else (kI (pcl GG lay d 233 [.ref 6, .int (r1 + (jn 1))] M4) fun r5 M5 => (if r4 = r5 then E_215 d (117, [some (.ref 29), some (.int l1), some (.int l2), some (.int l3), some (.int r1), some (.int (jn 0)), some (.int l2), some (.int r4), u8], [], M5) else E_215 d (125, [some (.ref 29), some (.int l1), some (.int l2), some (.int l3), some (.int r1), some (.int (jn 0)), some (.int l2), some (.int r4), u8], [], M5)))) else E_215 d (125, [some (.ref 29), some (.int l1), some (.int l2), some (.int l3), some (.int r1), some (.int (jn 0)), some (.int l2), some (.int r4), u8], [], M4))) else (if l2 = (r1 + (jn 1)) then (if (jn 0) = jn 0 then E_215 d (117, [some (.ref 29), some (.int l1), some (.int l2), some (.int l3), some (.int r1), some (.int (jn 0)), some (.int l2), some (.int l3), u8], [], M3) else (kI (pcl GG lay d 233 [.ref 6, .int (r1 + (jn 1))] M3) fun r4 M4 => (if l3 = r4 then E_215 d (117, [some (.ref 29), some (.int l1), some (.int l2), some (.int l3), some (.int r1), some (.int (jn 0)), some (.int l2), some (.int l3), u8], [], M4) else E_215 d (125, [some (.ref 29), some (.int l1), some (.int l2), some (.int l3), some (.int r1), some (.int (jn 0)), some (.int l2), some (.int l3), u8], [], M4)))) else E_215 d (125, [some (.ref 29), some (.int l1), some (.int l2), some (.int l3), some (.int r1), some (.int (jn 0)), some (.int l2), some (.int l3), u8], [], M3)))))))) := by
  refine (evn_adv 3 (q' := (22, [some (.ref 29), some (.int l1), some (.int l2), some (.int l3), u4, u5, u6, u7, u8], [.int l1, .ref 34], M)) rfl).trans ?_
  refine (e_kI (q := (22, [some (.ref 29), some (.int l1), some (.int l2), some (.int l3), u4, u5, u6, u7, u8], [.int l1, .ref 34])) (q2 := (25, [some (.ref 29), some (.int l1), some (.int l2), some (.int l3), u4, u5, u6, u7, u8], [])) (M := M) (o := (pcl GG lay d 65 [.ref 34, .int l1] M)) (hf := rfl) rfl rfl).trans ?_
  refine kI_in (fun r1 M1 => ?_)
  refine (evn_adv 4 (q' := (33, [some (.ref 29), some (.int l1), some (.int l2), some (.int l3), some (.int r1), u5, u6, u7, u8], [.int r1, .ref 6], M1)) rfl).trans ?_
  refine (e_kI (q := (33, [some (.ref 29), some (.int l1), some (.int l2), some (.int l3), some (.int r1), u5, u6, u7, u8], [.int r1, .ref 6])) (q2 := (36, [some (.ref 29), some (.int l1), some (.int l2), some (.int l3), some (.int r1), u5, u6, u7, u8], [])) (M := M1) (o := (pcl GG lay d 231 [.ref 6, .int r1] M1)) (hf := rfl) rfl rfl).trans ?_
  refine kI_in (fun r2 M2 => ?_)
  refine (e_kI (q := (36, [some (.ref 29), some (.int l1), some (.int l2), some (.int l3), some (.int r1), u5, u6, u7, u8], [.int r2])) (q2 := (39, [some (.ref 29), some (.int l1), some (.int l2), some (.int l3), some (.int r1), u5, u6, u7, u8], [])) (M := M2) (o := (pcl GG lay d 63 [.int r2] M2)) (hf := rfl) rfl rfl).trans ?_
  refine kI_in (fun r3 M3 => ?_)
  refine (evn_adv 1 (q' := (40, [some (.ref 29), some (.int l1), some (.int l2), some (.int l3), some (.int r1), u5, u6, u7, u8], [.int (jn 2), .int r3], M3)) rfl).trans ?_
  refine (e_ic_ne (hf := rfl)).trans ?_
  refine ite_in ?_ ?_
  · refine (evn_adv 5 (q' := (52, [some (.ref 29), some (.int l1), some (.int l2), some (.int l3), some (.int r1), some (.int (jn 1)), u6, u7, u8], [.int (jz 1), .int l2], M3)) rfl).trans ?_
    refine (e_ic_ne (hf := rfl)).trans ?_
    refine ite_in ?_ ?_
    · refine (evn_adv 7 (q' := (67, [some (.ref 29), some (.int l1), some (.int l2), some (.int l3), some (.int r1), some (.int (jn 1)), some (.int (r1 + (jn 1))), u7, u8], [.int (jz 1), .int l3], M3)) rfl).trans ?_
      refine (e_ic_ne (hf := rfl)).trans ?_
      refine ite_in ?_ ?_
      · refine (evn_adv 5 (q' := (78, [some (.ref 29), some (.int l1), some (.int l2), some (.int l3), some (.int r1), some (.int (jn 1)), some (.int (r1 + (jn 1))), u7, u8], [.int (r1 + (jn 1)), .ref 6], M3)) rfl).trans ?_
        refine (e_kI (q := (78, [some (.ref 29), some (.int l1), some (.int l2), some (.int l3), some (.int r1), some (.int (jn 1)), some (.int (r1 + (jn 1))), u7, u8], [.int (r1 + (jn 1)), .ref 6])) (q2 := (81, [some (.ref 29), some (.int l1), some (.int l2), some (.int l3), some (.int r1), some (.int (jn 1)), some (.int (r1 + (jn 1))), u7, u8], [])) (M := M3) (o := (pcl GG lay d 233 [.ref 6, .int (r1 + (jn 1))] M3)) (hf := rfl) rfl rfl).trans ?_
        refine kI_in (fun r4 M4 => ?_)
        refine (evn_adv 6 (q' := (93, [some (.ref 29), some (.int l1), some (.int l2), some (.int l3), some (.int r1), some (.int (jn 1)), some (.int (r1 + (jn 1))), some (.int r4), u8], [.int (r1 + (jn 1)), .int (r1 + (jn 1))], M4)) rfl).trans ?_
        refine (e_ic_ne (hf := rfl)).trans ?_
        refine ite_in ?_ ?_
        · refine (evn_adv 1 (q' := (98, [some (.ref 29), some (.int l1), some (.int l2), some (.int l3), some (.int r1), some (.int (jn 1)), some (.int (r1 + (jn 1))), some (.int r4), u8], [.int (jn 1)], M4)) rfl).trans ?_
          refine (e_if_eq (hf := rfl)).trans ?_
          refine ite_in ?_ ?_
          · rfl
          · refine (evn_adv 6 (q' := (111, [some (.ref 29), some (.int l1), some (.int l2), some (.int l3), some (.int r1), some (.int (jn 1)), some (.int (r1 + (jn 1))), some (.int r4), u8], [.int (r1 + (jn 1)), .ref 6, .int r4], M4)) rfl).trans ?_
            refine (e_kI (q := (111, [some (.ref 29), some (.int l1), some (.int l2), some (.int l3), some (.int r1), some (.int (jn 1)), some (.int (r1 + (jn 1))), some (.int r4), u8], [.int (r1 + (jn 1)), .ref 6, .int r4])) (q2 := (114, [some (.ref 29), some (.int l1), some (.int l2), some (.int l3), some (.int r1), some (.int (jn 1)), some (.int (r1 + (jn 1))), some (.int r4), u8], [.int r4])) (M := M4) (o := (pcl GG lay d 233 [.ref 6, .int (r1 + (jn 1))] M4)) (hf := rfl) rfl rfl).trans ?_
            refine kI_in (fun r5 M5 => ?_)
            refine (e_ic_ne (hf := rfl)).trans ?_
            refine ite_in ?_ ?_
            · rfl
            · rfl
        · rfl
      · refine (evn_adv 6 (q' := (93, [some (.ref 29), some (.int l1), some (.int l2), some (.int l3), some (.int r1), some (.int (jn 1)), some (.int (r1 + (jn 1))), some (.int l3), u8], [.int (r1 + (jn 1)), .int (r1 + (jn 1))], M3)) rfl).trans ?_
        refine (e_ic_ne (hf := rfl)).trans ?_
        refine ite_in ?_ ?_
        · refine (evn_adv 1 (q' := (98, [some (.ref 29), some (.int l1), some (.int l2), some (.int l3), some (.int r1), some (.int (jn 1)), some (.int (r1 + (jn 1))), some (.int l3), u8], [.int (jn 1)], M3)) rfl).trans ?_
          refine (e_if_eq (hf := rfl)).trans ?_
          refine ite_in ?_ ?_
          · rfl
          · refine (evn_adv 6 (q' := (111, [some (.ref 29), some (.int l1), some (.int l2), some (.int l3), some (.int r1), some (.int (jn 1)), some (.int (r1 + (jn 1))), some (.int l3), u8], [.int (r1 + (jn 1)), .ref 6, .int l3], M3)) rfl).trans ?_
            refine (e_kI (q := (111, [some (.ref 29), some (.int l1), some (.int l2), some (.int l3), some (.int r1), some (.int (jn 1)), some (.int (r1 + (jn 1))), some (.int l3), u8], [.int (r1 + (jn 1)), .ref 6, .int l3])) (q2 := (114, [some (.ref 29), some (.int l1), some (.int l2), some (.int l3), some (.int r1), some (.int (jn 1)), some (.int (r1 + (jn 1))), some (.int l3), u8], [.int l3])) (M := M3) (o := (pcl GG lay d 233 [.ref 6, .int (r1 + (jn 1))] M3)) (hf := rfl) rfl rfl).trans ?_
            refine kI_in (fun r4 M4 => ?_)
            refine (e_ic_ne (hf := rfl)).trans ?_
            refine ite_in ?_ ?_
            · rfl
            · rfl
        · rfl
    · refine (evn_adv 4 (q' := (67, [some (.ref 29), some (.int l1), some (.int l2), some (.int l3), some (.int r1), some (.int (jn 1)), some (.int l2), u7, u8], [.int (jz 1), .int l3], M3)) rfl).trans ?_
      refine (e_ic_ne (hf := rfl)).trans ?_
      refine ite_in ?_ ?_
      · refine (evn_adv 5 (q' := (78, [some (.ref 29), some (.int l1), some (.int l2), some (.int l3), some (.int r1), some (.int (jn 1)), some (.int l2), u7, u8], [.int (r1 + (jn 1)), .ref 6], M3)) rfl).trans ?_
        refine (e_kI (q := (78, [some (.ref 29), some (.int l1), some (.int l2), some (.int l3), some (.int r1), some (.int (jn 1)), some (.int l2), u7, u8], [.int (r1 + (jn 1)), .ref 6])) (q2 := (81, [some (.ref 29), some (.int l1), some (.int l2), some (.int l3), some (.int r1), some (.int (jn 1)), some (.int l2), u7, u8], [])) (M := M3) (o := (pcl GG lay d 233 [.ref 6, .int (r1 + (jn 1))] M3)) (hf := rfl) rfl rfl).trans ?_
        refine kI_in (fun r4 M4 => ?_)
        refine (evn_adv 6 (q' := (93, [some (.ref 29), some (.int l1), some (.int l2), some (.int l3), some (.int r1), some (.int (jn 1)), some (.int l2), some (.int r4), u8], [.int (r1 + (jn 1)), .int l2], M4)) rfl).trans ?_
        refine (e_ic_ne (hf := rfl)).trans ?_
        refine ite_in ?_ ?_
        · refine (evn_adv 1 (q' := (98, [some (.ref 29), some (.int l1), some (.int l2), some (.int l3), some (.int r1), some (.int (jn 1)), some (.int l2), some (.int r4), u8], [.int (jn 1)], M4)) rfl).trans ?_
          refine (e_if_eq (hf := rfl)).trans ?_
          refine ite_in ?_ ?_
          · rfl
          · refine (evn_adv 6 (q' := (111, [some (.ref 29), some (.int l1), some (.int l2), some (.int l3), some (.int r1), some (.int (jn 1)), some (.int l2), some (.int r4), u8], [.int (r1 + (jn 1)), .ref 6, .int r4], M4)) rfl).trans ?_
            refine (e_kI (q := (111, [some (.ref 29), some (.int l1), some (.int l2), some (.int l3), some (.int r1), some (.int (jn 1)), some (.int l2), some (.int r4), u8], [.int (r1 + (jn 1)), .ref 6, .int r4])) (q2 := (114, [some (.ref 29), some (.int l1), some (.int l2), some (.int l3), some (.int r1), some (.int (jn 1)), some (.int l2), some (.int r4), u8], [.int r4])) (M := M4) (o := (pcl GG lay d 233 [.ref 6, .int (r1 + (jn 1))] M4)) (hf := rfl) rfl rfl).trans ?_
            refine kI_in (fun r5 M5 => ?_)
            refine (e_ic_ne (hf := rfl)).trans ?_
            refine ite_in ?_ ?_
            · rfl
            · rfl
        · rfl
      · refine (evn_adv 6 (q' := (93, [some (.ref 29), some (.int l1), some (.int l2), some (.int l3), some (.int r1), some (.int (jn 1)), some (.int l2), some (.int l3), u8], [.int (r1 + (jn 1)), .int l2], M3)) rfl).trans ?_
        refine (e_ic_ne (hf := rfl)).trans ?_
        refine ite_in ?_ ?_
        · refine (evn_adv 1 (q' := (98, [some (.ref 29), some (.int l1), some (.int l2), some (.int l3), some (.int r1), some (.int (jn 1)), some (.int l2), some (.int l3), u8], [.int (jn 1)], M3)) rfl).trans ?_
          refine (e_if_eq (hf := rfl)).trans ?_
          refine ite_in ?_ ?_
          · rfl
          · refine (evn_adv 6 (q' := (111, [some (.ref 29), some (.int l1), some (.int l2), some (.int l3), some (.int r1), some (.int (jn 1)), some (.int l2), some (.int l3), u8], [.int (r1 + (jn 1)), .ref 6, .int l3], M3)) rfl).trans ?_
            refine (e_kI (q := (111, [some (.ref 29), some (.int l1), some (.int l2), some (.int l3), some (.int r1), some (.int (jn 1)), some (.int l2), some (.int l3), u8], [.int (r1 + (jn 1)), .ref 6, .int l3])) (q2 := (114, [some (.ref 29), some (.int l1), some (.int l2), some (.int l3), some (.int r1), some (.int (jn 1)), some (.int l2), some (.int l3), u8], [.int l3])) (M := M3) (o := (pcl GG lay d 233 [.ref 6, .int (r1 + (jn 1))] M3)) (hf := rfl) rfl rfl).trans ?_
            refine kI_in (fun r4 M4 => ?_)
            refine (e_ic_ne (hf := rfl)).trans ?_
            refine ite_in ?_ ?_
            · rfl
            · rfl
        · rfl
  · refine (evn_adv 4 (q' := (52, [some (.ref 29), some (.int l1), some (.int l2), some (.int l3), some (.int r1), some (.int (jn 0)), u6, u7, u8], [.int (jz 1), .int l2], M3)) rfl).trans ?_
    refine (e_ic_ne (hf := rfl)).trans ?_
    refine ite_in ?_ ?_
    · refine (evn_adv 7 (q' := (67, [some (.ref 29), some (.int l1), some (.int l2), some (.int l3), some (.int r1), some (.int (jn 0)), some (.int (r1 + (jn 1))), u7, u8], [.int (jz 1), .int l3], M3)) rfl).trans ?_
      refine (e_ic_ne (hf := rfl)).trans ?_
      refine ite_in ?_ ?_
      · refine (evn_adv 5 (q' := (78, [some (.ref 29), some (.int l1), some (.int l2), some (.int l3), some (.int r1), some (.int (jn 0)), some (.int (r1 + (jn 1))), u7, u8], [.int (r1 + (jn 1)), .ref 6], M3)) rfl).trans ?_
        refine (e_kI (q := (78, [some (.ref 29), some (.int l1), some (.int l2), some (.int l3), some (.int r1), some (.int (jn 0)), some (.int (r1 + (jn 1))), u7, u8], [.int (r1 + (jn 1)), .ref 6])) (q2 := (81, [some (.ref 29), some (.int l1), some (.int l2), some (.int l3), some (.int r1), some (.int (jn 0)), some (.int (r1 + (jn 1))), u7, u8], [])) (M := M3) (o := (pcl GG lay d 233 [.ref 6, .int (r1 + (jn 1))] M3)) (hf := rfl) rfl rfl).trans ?_
        refine kI_in (fun r4 M4 => ?_)
        refine (evn_adv 6 (q' := (93, [some (.ref 29), some (.int l1), some (.int l2), some (.int l3), some (.int r1), some (.int (jn 0)), some (.int (r1 + (jn 1))), some (.int r4), u8], [.int (r1 + (jn 1)), .int (r1 + (jn 1))], M4)) rfl).trans ?_
        refine (e_ic_ne (hf := rfl)).trans ?_
        refine ite_in ?_ ?_
        · refine (evn_adv 1 (q' := (98, [some (.ref 29), some (.int l1), some (.int l2), some (.int l3), some (.int r1), some (.int (jn 0)), some (.int (r1 + (jn 1))), some (.int r4), u8], [.int (jn 0)], M4)) rfl).trans ?_
          refine (e_if_eq (hf := rfl)).trans ?_
          refine ite_in ?_ ?_
          · rfl
          · refine (evn_adv 6 (q' := (111, [some (.ref 29), some (.int l1), some (.int l2), some (.int l3), some (.int r1), some (.int (jn 0)), some (.int (r1 + (jn 1))), some (.int r4), u8], [.int (r1 + (jn 1)), .ref 6, .int r4], M4)) rfl).trans ?_
            refine (e_kI (q := (111, [some (.ref 29), some (.int l1), some (.int l2), some (.int l3), some (.int r1), some (.int (jn 0)), some (.int (r1 + (jn 1))), some (.int r4), u8], [.int (r1 + (jn 1)), .ref 6, .int r4])) (q2 := (114, [some (.ref 29), some (.int l1), some (.int l2), some (.int l3), some (.int r1), some (.int (jn 0)), some (.int (r1 + (jn 1))), some (.int r4), u8], [.int r4])) (M := M4) (o := (pcl GG lay d 233 [.ref 6, .int (r1 + (jn 1))] M4)) (hf := rfl) rfl rfl).trans ?_
            refine kI_in (fun r5 M5 => ?_)
            refine (e_ic_ne (hf := rfl)).trans ?_
            refine ite_in ?_ ?_
            · rfl
            · rfl
        · rfl
      · refine (evn_adv 6 (q' := (93, [some (.ref 29), some (.int l1), some (.int l2), some (.int l3), some (.int r1), some (.int (jn 0)), some (.int (r1 + (jn 1))), some (.int l3), u8], [.int (r1 + (jn 1)), .int (r1 + (jn 1))], M3)) rfl).trans ?_
        refine (e_ic_ne (hf := rfl)).trans ?_
        refine ite_in ?_ ?_
        · refine (evn_adv 1 (q' := (98, [some (.ref 29), some (.int l1), some (.int l2), some (.int l3), some (.int r1), some (.int (jn 0)), some (.int (r1 + (jn 1))), some (.int l3), u8], [.int (jn 0)], M3)) rfl).trans ?_
          refine (e_if_eq (hf := rfl)).trans ?_
          refine ite_in ?_ ?_
          · rfl
          · refine (evn_adv 6 (q' := (111, [some (.ref 29), some (.int l1), some (.int l2), some (.int l3), some (.int r1), some (.int (jn 0)), some (.int (r1 + (jn 1))), some (.int l3), u8], [.int (r1 + (jn 1)), .ref 6, .int l3], M3)) rfl).trans ?_
            refine (e_kI (q := (111, [some (.ref 29), some (.int l1), some (.int l2), some (.int l3), some (.int r1), some (.int (jn 0)), some (.int (r1 + (jn 1))), some (.int l3), u8], [.int (r1 + (jn 1)), .ref 6, .int l3])) (q2 := (114, [some (.ref 29), some (.int l1), some (.int l2), some (.int l3), some (.int r1), some (.int (jn 0)), some (.int (r1 + (jn 1))), some (.int l3), u8], [.int l3])) (M := M3) (o := (pcl GG lay d 233 [.ref 6, .int (r1 + (jn 1))] M3)) (hf := rfl) rfl rfl).trans ?_
            refine kI_in (fun r4 M4 => ?_)
            refine (e_ic_ne (hf := rfl)).trans ?_
            refine ite_in ?_ ?_
            · rfl
            · rfl
        · rfl
    · refine (evn_adv 4 (q' := (67, [some (.ref 29), some (.int l1), some (.int l2), some (.int l3), some (.int r1), some (.int (jn 0)), some (.int l2), u7, u8], [.int (jz 1), .int l3], M3)) rfl).trans ?_
      refine (e_ic_ne (hf := rfl)).trans ?_
      refine ite_in ?_ ?_
      · refine (evn_adv 5 (q' := (78, [some (.ref 29), some (.int l1), some (.int l2), some (.int l3), some (.int r1), some (.int (jn 0)), some (.int l2), u7, u8], [.int (r1 + (jn 1)), .ref 6], M3)) rfl).trans ?_
        refine (e_kI (q := (78, [some (.ref 29), some (.int l1), some (.int l2), some (.int l3), some (.int r1), some (.int (jn 0)), some (.int l2), u7, u8], [.int (r1 + (jn 1)), .ref 6])) (q2 := (81, [some (.ref 29), some (.int l1), some (.int l2), some (.int l3), some (.int r1), some (.int (jn 0)), some (.int l2), u7, u8], [])) (M := M3) (o := (pcl GG lay d 233 [.ref 6, .int (r1 + (jn 1))] M3)) (hf := rfl) rfl rfl).trans ?_
        refine kI_in (fun r4 M4 => ?_)
        refine (evn_adv 6 (q' := (93, [some (.ref 29), some (.int l1), some (.int l2), some (.int l3), some (.int r1), some (.int (jn 0)), some (.int l2), some (.int r4), u8], [.int (r1 + (jn 1)), .int l2], M4)) rfl).trans ?_
        refine (e_ic_ne (hf := rfl)).trans ?_
        refine ite_in ?_ ?_
        · refine (evn_adv 1 (q' := (98, [some (.ref 29), some (.int l1), some (.int l2), some (.int l3), some (.int r1), some (.int (jn 0)), some (.int l2), some (.int r4), u8], [.int (jn 0)], M4)) rfl).trans ?_
          refine (e_if_eq (hf := rfl)).trans ?_
          refine ite_in ?_ ?_
          · rfl
          · refine (evn_adv 6 (q' := (111, [some (.ref 29), some (.int l1), some (.int l2), some (.int l3), some (.int r1), some (.int (jn 0)), some (.int l2), some (.int r4), u8], [.int (r1 + (jn 1)), .ref 6, .int r4], M4)) rfl).trans ?_
            refine (e_kI (q := (111, [some (.ref 29), some (.int l1), some (.int l2), some (.int l3), some (.int r1), some (.int (jn 0)), some (.int l2), some (.int r4), u8], [.int (r1 + (jn 1)), .ref 6, .int r4])) (q2 := (114, [some (.ref 29), some (.int l1), some (.int l2), some (.int l3), some (.int r1), some (.int (jn 0)), some (.int l2), some (.int r4), u8], [.int r4])) (M := M4) (o := (pcl GG lay d 233 [.ref 6, .int (r1 + (jn 1))] M4)) (hf := rfl) rfl rfl).trans ?_
            refine kI_in (fun r5 M5 => ?_)
            refine (e_ic_ne (hf := rfl)).trans ?_
            refine ite_in ?_ ?_
            · rfl
            · rfl
        · rfl
      · refine (evn_adv 6 (q' := (93, [some (.ref 29), some (.int l1), some (.int l2), some (.int l3), some (.int r1), some (.int (jn 0)), some (.int l2), some (.int l3), u8], [.int (r1 + (jn 1)), .int l2], M3)) rfl).trans ?_
        refine (e_ic_ne (hf := rfl)).trans ?_
        refine ite_in ?_ ?_
        · refine (evn_adv 1 (q' := (98, [some (.ref 29), some (.int l1), some (.int l2), some (.int l3), some (.int r1), some (.int (jn 0)), some (.int l2), some (.int l3), u8], [.int (jn 0)], M3)) rfl).trans ?_
          refine (e_if_eq (hf := rfl)).trans ?_
          refine ite_in ?_ ?_
          · rfl
          · refine (evn_adv 6 (q' := (111, [some (.ref 29), some (.int l1), some (.int l2), some (.int l3), some (.int r1), some (.int (jn 0)), some (.int l2), some (.int l3), u8], [.int (r1 + (jn 1)), .ref 6, .int l3], M3)) rfl).trans ?_
            refine (e_kI (q := (111, [some (.ref 29), some (.int l1), some (.int l2), some (.int l3), some (.int r1), some (.int (jn 0)), some (.int l2), some (.int l3), u8], [.int (r1 + (jn 1)), .ref 6, .int l3])) (q2 := (114, [some (.ref 29), some (.int l1), some (.int l2), some (.int l3), some (.int r1), some (.int (jn 0)), some (.int l2), some (.int l3), u8], [.int l3])) (M := M3) (o := (pcl GG lay d 233 [.ref 6, .int (r1 + (jn 1))] M3)) (hf := rfl) rfl rfl).trans ?_
            refine kI_in (fun r4 M4 => ?_)
            refine (e_ic_ne (hf := rfl)).trans ?_
            refine ite_in ?_ ?_
            · rfl
            · rfl
        · rfl
theorem h_215_117 (d : Nat) (l1 : Int32) (u2 : Option Value) (u3 : Option Value) (l4 : Int32) (u5 : Option Value) (u6 : Option Value) (u7 : Option Value) (u8 : Option Value) (M : PM) : E_215 d (117, [some (.ref 29), some (.int l1), u2, u3, some (.int l4), u5, u6, u7, u8], [], M) = (kV (pcl GG lay d 210 [.ref 29, .int l1, .int l4] M) fun M1 => (rV M1)) := by
  refine (evn_adv 3 (q' := (121, [some (.ref 29), some (.int l1), u2, u3, some (.int l4), u5, u6, u7, u8], [.int l4, .int l1, .ref 29], M)) rfl).trans ?_
  refine (e_kV (q := (121, [some (.ref 29), some (.int l1), u2, u3, some (.int l4), u5, u6, u7, u8], [.int l4, .int l1, .ref 29])) (q2 := (124, [some (.ref 29), some (.int l1), u2, u3, some (.int l4), u5, u6, u7, u8], [])) (M := M) (o := (pcl GG lay d 210 [.ref 29, .int l1, .int l4] M)) (hf := rfl) rfl rfl).trans ?_
  refine kV_in (fun M1 => ?_)
  exact evn_end 1 rfl
theorem h_215_125 (d : Nat) (l1 : Int32) (u2 : Option Value) (u3 : Option Value) (l4 : Int32) (l5 : Int32) (l6 : Int32) (l7 : Int32) (u8 : Option Value) (M : PM) : E_215 d (125, [some (.ref 29), some (.int l1), u2, u3, some (.int l4), some (.int l5), some (.int l6), some (.int l7), u8], [], M) = (kI (pcl GG lay d 234 [.ref 6, .int l6] M) fun r1 M1 => (if l5 = jn 0 then (if (jn 40) < (((jn 1) + r1) + (jn 0)) then (wr (sI M1 29 (va_up (M1.1 29) 16 (jn 1))) fun M2 => (rV M2)) else (kI (pcl GG lay d 231 [.ref 6, .int l4] M1) fun r2 M2 => (kV (pcl GG lay d 232 [.ref 6, .int (M1.1 29 14), .int r2] M2) fun M3 => (kI (pcl GG lay d 237 [.ref 6, .int l6, .int ((M3.1 29 14) + (jn 1))] M3) fun r4 M4 => (wr (sI M4 29 (va_up (M4.1 29) 14 r4)) fun M5 => (if l5 = jn 0 then E_215 d (233, [some (.ref 29), some (.int l1), u2, u3, some (.int l4), some (.int l5), some (.int l6), some (.int l7), some (.int (M1.1 29 14))], [], M5) else (kI (pcl GG lay d 237 [.ref 6, .int l7, .int (M5.1 29 14)] M5) fun r6 M6 => (wr (sI M6 29 (va_up (M6.1 29) 14 r6)) fun M7 => E_215 d (233, [some (.ref 29), some (.int l1), u2, u3, some (.int l4), some (.int l5), some (.int l6), some (.int l7), some (.int (M1.1 29 14))], [], M7))))))))) else (kI (pcl GG lay d 234 [.ref 6, .int l7] M1) fun r2 M2 => (if (jn 40) < (((jn 1) + r1) + r2) then (wr (sI M2 29 (va_up (M2.1 29) 16 (jn 1))) fun M3 => (rV M3)) else (kI (pcl GG lay d 231 [.ref 6, .int l4] M2) fun r3 M3 => (kV (pcl GG lay d 232 [.ref 6, .int (M2.1 29 14), .int r3] M3) fun M4 => (kI (pcl GG lay d 237 [.ref 6, .int l6, .int ((M4.1 29 14) + (jn 1))] M4) fun r5 M5 => (wr (sI M5 29 (va_up (M5.1 29) 14 r5)) fun M6 => (if l5 = jn 0 then E_215 d (233, [some (.ref 29), some (.int l1), u2, u3, some (.int l4), some (.int l5), some (.int l6), some (.int l7), some (.int (M2.1 29 14))], [], M6) else (kI (pcl GG lay d 237 [.ref 6, .int l7, .int (M6.1 29 14)] M6) fun r7 M7 => (wr (sI M7 29 (va_up (M7.1 29) 14 r7)) fun M8 => E_215 d (233, [some (.ref 29), some (.int l1), u2, u3, some (.int l4), some (.int l5), some (.int l6), some (.int l7), some (.int (M2.1 29 14))], [], M8)))))))))))) := by
  refine (evn_adv 4 (q' := (132, [some (.ref 29), some (.int l1), u2, u3, some (.int l4), some (.int l5), some (.int l6), some (.int l7), u8], [.int l6, .ref 6, .int (jn 1)], M)) rfl).trans ?_
  refine (e_kI (q := (132, [some (.ref 29), some (.int l1), u2, u3, some (.int l4), some (.int l5), some (.int l6), some (.int l7), u8], [.int l6, .ref 6, .int (jn 1)])) (q2 := (135, [some (.ref 29), some (.int l1), u2, u3, some (.int l4), some (.int l5), some (.int l6), some (.int l7), u8], [.int (jn 1)])) (M := M) (o := (pcl GG lay d 234 [.ref 6, .int l6] M)) (hf := rfl) rfl rfl).trans ?_
  refine kI_in (fun r1 M1 => ?_)
  refine (evn_adv 2 (q' := (138, [some (.ref 29), some (.int l1), u2, u3, some (.int l4), some (.int l5), some (.int l6), some (.int l7), u8], [.int l5, .int ((jn 1) + r1)], M1)) rfl).trans ?_
  refine (e_if_eq (hf := rfl)).trans ?_
  refine ite_in ?_ ?_
  · refine (evn_adv 3 (q' := (157, [some (.ref 29), some (.int l1), u2, u3, some (.int l4), some (.int l5), some (.int l6), some (.int l7), u8], [.int (jn 40), .int (((jn 1) + r1) + (jn 0))], M1)) rfl).trans ?_
    refine (e_ic_le (hf := rfl)).trans ?_
    refine ite_in ?_ ?_
    · refine (evn_adv 2 (q' := (162, [some (.ref 29), some (.int l1), u2, u3, some (.int l4), some (.int l5), some (.int l6), some (.int l7), u8], [.int (jn 1), .ref 29], M1)) rfl).trans ?_
      refine (e_putz (q2 := (165, [some (.ref 29), some (.int l1), u2, u3, some (.int l4), some (.int l5), some (.int l6), some (.int l7), u8], [])) (k := 29) (j := 16) rfl rfl).trans ?_
      refine (if_pos (Or.inr rfl)).trans ?_
      refine wr_in (f := fun M2 => E_215 d (165, [some (.ref 29), some (.int l1), u2, u3, some (.int l4), some (.int l5), some (.int l6), some (.int l7), u8], [], M2)) (fun M2 => ?_)
      exact evn_end 1 rfl
    · refine (evn_adv 10 (q' := (186, [some (.ref 29), some (.int l1), u2, u3, some (.int l4), some (.int l5), some (.int l6), some (.int l7), some (.int (M1.1 29 14))], [.int l4, .ref 6, .int (M1.1 29 14), .ref 6], M1)) rfl).trans ?_
      refine (e_kI (q := (186, [some (.ref 29), some (.int l1), u2, u3, some (.int l4), some (.int l5), some (.int l6), some (.int l7), some (.int (M1.1 29 14))], [.int l4, .ref 6, .int (M1.1 29 14), .ref 6])) (q2 := (189, [some (.ref 29), some (.int l1), u2, u3, some (.int l4), some (.int l5), some (.int l6), some (.int l7), some (.int (M1.1 29 14))], [.int (M1.1 29 14), .ref 6])) (M := M1) (o := (pcl GG lay d 231 [.ref 6, .int l4] M1)) (hf := rfl) rfl rfl).trans ?_
      refine kI_in (fun r2 M2 => ?_)
      refine (e_kV (q := (189, [some (.ref 29), some (.int l1), u2, u3, some (.int l4), some (.int l5), some (.int l6), some (.int l7), some (.int (M1.1 29 14))], [.int r2, .int (M1.1 29 14), .ref 6])) (q2 := (192, [some (.ref 29), some (.int l1), u2, u3, some (.int l4), some (.int l5), some (.int l6), some (.int l7), some (.int (M1.1 29 14))], [])) (M := M2) (o := (pcl GG lay d 232 [.ref 6, .int (M1.1 29 14), .int r2] M2)) (hf := rfl) rfl rfl).trans ?_
      refine kV_in (fun M3 => ?_)
      refine (evn_adv 8 (q' := (205, [some (.ref 29), some (.int l1), u2, u3, some (.int l4), some (.int l5), some (.int l6), some (.int l7), some (.int (M1.1 29 14))], [.int ((M3.1 29 14) + (jn 1)), .int l6, .ref 6, .ref 29], M3)) rfl).trans ?_
      refine (e_kI (q := (205, [some (.ref 29), some (.int l1), u2, u3, some (.int l4), some (.int l5), some (.int l6), some (.int l7), some (.int (M1.1 29 14))], [.int ((M3.1 29 14) + (jn 1)), .int l6, .ref 6, .ref 29])) (q2 := (208, [some (.ref 29), some (.int l1), u2, u3, some (.int l4), some (.int l5), some (.int l6), some (.int l7), some (.int (M1.1 29 14))], [.ref 29])) (M := M3) (o := (pcl GG lay d 237 [.ref 6, .int l6, .int ((M3.1 29 14) + (jn 1))] M3)) (hf := rfl) rfl rfl).trans ?_
      refine kI_in (fun r4 M4 => ?_)
      refine (evn_adv 1 (q' := (211, [some (.ref 29), some (.int l1), u2, u3, some (.int l4), some (.int l5), some (.int l6), some (.int l7), some (.int (M1.1 29 14))], [], (sI M4 29 (va_up (M4.1 29) 14 r4)))) rfl).trans ?_
      refine wr_in (f := fun M5 => E_215 d (211, [some (.ref 29), some (.int l1), u2, u3, some (.int l4), some (.int l5), some (.int l6), some (.int l7), some (.int (M1.1 29 14))], [], M5)) (fun M5 => ?_)
      refine (evn_adv 1 (q' := (213, [some (.ref 29), some (.int l1), u2, u3, some (.int l4), some (.int l5), some (.int l6), some (.int l7), some (.int (M1.1 29 14))], [.int l5], M5)) rfl).trans ?_
      refine (e_if_eq (hf := rfl)).trans ?_
      refine ite_in ?_ ?_
      · rfl
      · refine (evn_adv 6 (q' := (227, [some (.ref 29), some (.int l1), u2, u3, some (.int l4), some (.int l5), some (.int l6), some (.int l7), some (.int (M1.1 29 14))], [.int (M5.1 29 14), .int l7, .ref 6, .ref 29], M5)) rfl).trans ?_
        refine (e_kI (q := (227, [some (.ref 29), some (.int l1), u2, u3, some (.int l4), some (.int l5), some (.int l6), some (.int l7), some (.int (M1.1 29 14))], [.int (M5.1 29 14), .int l7, .ref 6, .ref 29])) (q2 := (230, [some (.ref 29), some (.int l1), u2, u3, some (.int l4), some (.int l5), some (.int l6), some (.int l7), some (.int (M1.1 29 14))], [.ref 29])) (M := M5) (o := (pcl GG lay d 237 [.ref 6, .int l7, .int (M5.1 29 14)] M5)) (hf := rfl) rfl rfl).trans ?_
        refine kI_in (fun r6 M6 => ?_)
        refine (evn_adv 1 (q' := (233, [some (.ref 29), some (.int l1), u2, u3, some (.int l4), some (.int l5), some (.int l6), some (.int l7), some (.int (M1.1 29 14))], [], (sI M6 29 (va_up (M6.1 29) 14 r6)))) rfl).trans ?_
        refine wr_in (f := fun M7 => E_215 d (233, [some (.ref 29), some (.int l1), u2, u3, some (.int l4), some (.int l5), some (.int l6), some (.int l7), some (.int (M1.1 29 14))], [], M7)) (fun M7 => ?_)
        rfl
  · refine (evn_adv 3 (q' := (147, [some (.ref 29), some (.int l1), u2, u3, some (.int l4), some (.int l5), some (.int l6), some (.int l7), u8], [.int l7, .ref 6, .int ((jn 1) + r1)], M1)) rfl).trans ?_
    refine (e_kI (q := (147, [some (.ref 29), some (.int l1), u2, u3, some (.int l4), some (.int l5), some (.int l6), some (.int l7), u8], [.int l7, .ref 6, .int ((jn 1) + r1)])) (q2 := (150, [some (.ref 29), some (.int l1), u2, u3, some (.int l4), some (.int l5), some (.int l6), some (.int l7), u8], [.int ((jn 1) + r1)])) (M := M1) (o := (pcl GG lay d 234 [.ref 6, .int l7] M1)) (hf := rfl) rfl rfl).trans ?_
    refine kI_in (fun r2 M2 => ?_)
    refine (evn_adv 3 (q' := (157, [some (.ref 29), some (.int l1), u2, u3, some (.int l4), some (.int l5), some (.int l6), some (.int l7), u8], [.int (jn 40), .int (((jn 1) + r1) + r2)], M2)) rfl).trans ?_
    refine (e_ic_le (hf := rfl)).trans ?_
    refine ite_in ?_ ?_
    · refine (evn_adv 2 (q' := (162, [some (.ref 29), some (.int l1), u2, u3, some (.int l4), some (.int l5), some (.int l6), some (.int l7), u8], [.int (jn 1), .ref 29], M2)) rfl).trans ?_
      refine (e_putz (q2 := (165, [some (.ref 29), some (.int l1), u2, u3, some (.int l4), some (.int l5), some (.int l6), some (.int l7), u8], [])) (k := 29) (j := 16) rfl rfl).trans ?_
      refine (if_pos (Or.inr rfl)).trans ?_
      refine wr_in (f := fun M3 => E_215 d (165, [some (.ref 29), some (.int l1), u2, u3, some (.int l4), some (.int l5), some (.int l6), some (.int l7), u8], [], M3)) (fun M3 => ?_)
      exact evn_end 1 rfl
    · refine (evn_adv 10 (q' := (186, [some (.ref 29), some (.int l1), u2, u3, some (.int l4), some (.int l5), some (.int l6), some (.int l7), some (.int (M2.1 29 14))], [.int l4, .ref 6, .int (M2.1 29 14), .ref 6], M2)) rfl).trans ?_
      refine (e_kI (q := (186, [some (.ref 29), some (.int l1), u2, u3, some (.int l4), some (.int l5), some (.int l6), some (.int l7), some (.int (M2.1 29 14))], [.int l4, .ref 6, .int (M2.1 29 14), .ref 6])) (q2 := (189, [some (.ref 29), some (.int l1), u2, u3, some (.int l4), some (.int l5), some (.int l6), some (.int l7), some (.int (M2.1 29 14))], [.int (M2.1 29 14), .ref 6])) (M := M2) (o := (pcl GG lay d 231 [.ref 6, .int l4] M2)) (hf := rfl) rfl rfl).trans ?_
      refine kI_in (fun r3 M3 => ?_)
      refine (e_kV (q := (189, [some (.ref 29), some (.int l1), u2, u3, some (.int l4), some (.int l5), some (.int l6), some (.int l7), some (.int (M2.1 29 14))], [.int r3, .int (M2.1 29 14), .ref 6])) (q2 := (192, [some (.ref 29), some (.int l1), u2, u3, some (.int l4), some (.int l5), some (.int l6), some (.int l7), some (.int (M2.1 29 14))], [])) (M := M3) (o := (pcl GG lay d 232 [.ref 6, .int (M2.1 29 14), .int r3] M3)) (hf := rfl) rfl rfl).trans ?_
      refine kV_in (fun M4 => ?_)
      refine (evn_adv 8 (q' := (205, [some (.ref 29), some (.int l1), u2, u3, some (.int l4), some (.int l5), some (.int l6), some (.int l7), some (.int (M2.1 29 14))], [.int ((M4.1 29 14) + (jn 1)), .int l6, .ref 6, .ref 29], M4)) rfl).trans ?_
      refine (e_kI (q := (205, [some (.ref 29), some (.int l1), u2, u3, some (.int l4), some (.int l5), some (.int l6), some (.int l7), some (.int (M2.1 29 14))], [.int ((M4.1 29 14) + (jn 1)), .int l6, .ref 6, .ref 29])) (q2 := (208, [some (.ref 29), some (.int l1), u2, u3, some (.int l4), some (.int l5), some (.int l6), some (.int l7), some (.int (M2.1 29 14))], [.ref 29])) (M := M4) (o := (pcl GG lay d 237 [.ref 6, .int l6, .int ((M4.1 29 14) + (jn 1))] M4)) (hf := rfl) rfl rfl).trans ?_
      refine kI_in (fun r5 M5 => ?_)
      refine (evn_adv 1 (q' := (211, [some (.ref 29), some (.int l1), u2, u3, some (.int l4), some (.int l5), some (.int l6), some (.int l7), some (.int (M2.1 29 14))], [], (sI M5 29 (va_up (M5.1 29) 14 r5)))) rfl).trans ?_
      refine wr_in (f := fun M6 => E_215 d (211, [some (.ref 29), some (.int l1), u2, u3, some (.int l4), some (.int l5), some (.int l6), some (.int l7), some (.int (M2.1 29 14))], [], M6)) (fun M6 => ?_)
      refine (evn_adv 1 (q' := (213, [some (.ref 29), some (.int l1), u2, u3, some (.int l4), some (.int l5), some (.int l6), some (.int l7), some (.int (M2.1 29 14))], [.int l5], M6)) rfl).trans ?_
      refine (e_if_eq (hf := rfl)).trans ?_
      refine ite_in ?_ ?_
      · rfl
      · refine (evn_adv 6 (q' := (227, [some (.ref 29), some (.int l1), u2, u3, some (.int l4), some (.int l5), some (.int l6), some (.int l7), some (.int (M2.1 29 14))], [.int (M6.1 29 14), .int l7, .ref 6, .ref 29], M6)) rfl).trans ?_
        refine (e_kI (q := (227, [some (.ref 29), some (.int l1), u2, u3, some (.int l4), some (.int l5), some (.int l6), some (.int l7), some (.int (M2.1 29 14))], [.int (M6.1 29 14), .int l7, .ref 6, .ref 29])) (q2 := (230, [some (.ref 29), some (.int l1), u2, u3, some (.int l4), some (.int l5), some (.int l6), some (.int l7), some (.int (M2.1 29 14))], [.ref 29])) (M := M6) (o := (pcl GG lay d 237 [.ref 6, .int l7, .int (M6.1 29 14)] M6)) (hf := rfl) rfl rfl).trans ?_
        refine kI_in (fun r7 M7 => ?_)
        refine (evn_adv 1 (q' := (233, [some (.ref 29), some (.int l1), u2, u3, some (.int l4), some (.int l5), some (.int l6), some (.int l7), some (.int (M2.1 29 14))], [], (sI M7 29 (va_up (M7.1 29) 14 r7)))) rfl).trans ?_
        refine wr_in (f := fun M8 => E_215 d (233, [some (.ref 29), some (.int l1), u2, u3, some (.int l4), some (.int l5), some (.int l6), some (.int l7), some (.int (M2.1 29 14))], [], M8)) (fun M8 => ?_)
        rfl
theorem h_215_233 (d : Nat) (l1 : Int32) (u2 : Option Value) (u3 : Option Value) (u4 : Option Value) (u5 : Option Value) (u6 : Option Value) (u7 : Option Value) (l8 : Int32) (M : PM) : E_215 d (233, [some (.ref 29), some (.int l1), u2, u3, u4, u5, u6, u7, some (.int l8)], [], M) = (kV (pcl GG lay d 210 [.ref 29, .int l1, .int l8] M) fun M1 => (rV M1)) := by
  refine (evn_adv 3 (q' := (237, [some (.ref 29), some (.int l1), u2, u3, u4, u5, u6, u7, some (.int l8)], [.int l8, .int l1, .ref 29], M)) rfl).trans ?_
  refine (e_kV (q := (237, [some (.ref 29), some (.int l1), u2, u3, u4, u5, u6, u7, some (.int l8)], [.int l8, .int l1, .ref 29])) (q2 := (240, [some (.ref 29), some (.int l1), u2, u3, u4, u5, u6, u7, some (.int l8)], [])) (M := M) (o := (pcl GG lay d 210 [.ref 29, .int l1, .int l8] M)) (hf := rfl) rfl rfl).trans ?_
  refine kV_in (fun M1 => ?_)
  exact evn_end 1 rfl
/-- TermStrategies$Runner.goOnFromWalk(I)V -/
noncomputable abbrev E_216 (d : Nat) : PQ → PO := evn (rnn k_216 lay none (pcl GG lay d) 0)
theorem q_216 (d : Nat) (l1 : Int32) (M : PM) : pcl GG lay (d + 1) 216 [.ref 29, .int l1] M = (kI (pcl GG lay d 65 [.ref 33, .int l1] M) fun r1 M1 => (kI (pcl GG lay d 248 [.ref 1, .int r1] M1) fun r2 M2 => (if r2 = (jn 9) then (kI (pcl GG lay d 249 [.ref 1, .int r1] M2) fun r3 M3 => (kV (pcl GG lay d 204 [.ref 29, .int l1, .int (jn 5), .int r3, .int (M3.1 29 15)] M3) fun M4 => (rV M4))) else (kI (pcl GG lay d 248 [.ref 1, .int r1] M2) fun r3 M3 => (if r3 = (jn 12) then (kI (pcl GG lay d 249 [.ref 1, .int r1] M3) fun r4 M4 => (kV (pcl GG lay d 204 [.ref 29, .int l1, .int (jn 1), .int r4, .int (M4.1 29 15)] M4) fun M5 => (rV M5))) else (kV (pcl GG lay d 205 [.ref 29, .int l1, .int (M3.1 29 15)] M3) fun M4 => (rV M4))))))) := by
  refine (pcl_un (mt := t_216) (by decide) rfl (Nat.le_of_ble_eq_true rfl)).trans ?_
  show E_216 d (0, [some (.ref 29), some (.int l1), none], [], M) = _
  refine (evn_adv 3 (q' := (5, [some (.ref 29), some (.int l1), none], [.int l1, .ref 33], M)) rfl).trans ?_
  refine (e_kI (q := (5, [some (.ref 29), some (.int l1), none], [.int l1, .ref 33])) (q2 := (8, [some (.ref 29), some (.int l1), none], [])) (M := M) (o := (pcl GG lay d 65 [.ref 33, .int l1] M)) (hf := rfl) rfl rfl).trans ?_
  refine kI_in (fun r1 M1 => ?_)
  refine (evn_adv 4 (q' := (14, [some (.ref 29), some (.int l1), some (.int r1)], [.int r1, .ref 1], M1)) rfl).trans ?_
  refine (e_kI (q := (14, [some (.ref 29), some (.int l1), some (.int r1)], [.int r1, .ref 1])) (q2 := (17, [some (.ref 29), some (.int l1), some (.int r1)], [])) (M := M1) (o := (pcl GG lay d 248 [.ref 1, .int r1] M1)) (hf := rfl) rfl rfl).trans ?_
  refine kI_in (fun r2 M2 => ?_)
  refine (evn_adv 1 (q' := (19, [some (.ref 29), some (.int l1), some (.int r1)], [.int (jn 9), .int r2], M2)) rfl).trans ?_
  refine (e_ic_ne (hf := rfl)).trans ?_
  refine ite_in ?_ ?_
  · refine (evn_adv 6 (q' := (30, [some (.ref 29), some (.int l1), some (.int r1)], [.int r1, .ref 1, .int (jn 5), .int l1, .ref 29], M2)) rfl).trans ?_
    refine (e_kI (q := (30, [some (.ref 29), some (.int l1), some (.int r1)], [.int r1, .ref 1, .int (jn 5), .int l1, .ref 29])) (q2 := (33, [some (.ref 29), some (.int l1), some (.int r1)], [.int (jn 5), .int l1, .ref 29])) (M := M2) (o := (pcl GG lay d 249 [.ref 1, .int r1] M2)) (hf := rfl) rfl rfl).trans ?_
    refine kI_in (fun r3 M3 => ?_)
    refine (evn_adv 2 (q' := (37, [some (.ref 29), some (.int l1), some (.int r1)], [.int (M3.1 29 15), .int r3, .int (jn 5), .int l1, .ref 29], M3)) rfl).trans ?_
    refine (e_kV (q := (37, [some (.ref 29), some (.int l1), some (.int r1)], [.int (M3.1 29 15), .int r3, .int (jn 5), .int l1, .ref 29])) (q2 := (40, [some (.ref 29), some (.int l1), some (.int r1)], [])) (M := M3) (o := (pcl GG lay d 204 [.ref 29, .int l1, .int (jn 5), .int r3, .int (M3.1 29 15)] M3)) (hf := rfl) rfl rfl).trans ?_
    refine kV_in (fun M4 => ?_)
    refine (evn_adv 1 (q' := (86, [some (.ref 29), some (.int l1), some (.int r1)], [], M4)) rfl).trans ?_
    exact evn_end 1 rfl
  · refine (evn_adv 3 (q' := (48, [some (.ref 29), some (.int l1), some (.int r1)], [.int r1, .ref 1], M2)) rfl).trans ?_
    refine (e_kI (q := (48, [some (.ref 29), some (.int l1), some (.int r1)], [.int r1, .ref 1])) (q2 := (51, [some (.ref 29), some (.int l1), some (.int r1)], [])) (M := M2) (o := (pcl GG lay d 248 [.ref 1, .int r1] M2)) (hf := rfl) rfl rfl).trans ?_
    refine kI_in (fun r3 M3 => ?_)
    refine (evn_adv 1 (q' := (53, [some (.ref 29), some (.int l1), some (.int r1)], [.int (jn 12), .int r3], M3)) rfl).trans ?_
    refine (e_ic_ne (hf := rfl)).trans ?_
    refine ite_in ?_ ?_
    · refine (evn_adv 6 (q' := (64, [some (.ref 29), some (.int l1), some (.int r1)], [.int r1, .ref 1, .int (jn 1), .int l1, .ref 29], M3)) rfl).trans ?_
      refine (e_kI (q := (64, [some (.ref 29), some (.int l1), some (.int r1)], [.int r1, .ref 1, .int (jn 1), .int l1, .ref 29])) (q2 := (67, [some (.ref 29), some (.int l1), some (.int r1)], [.int (jn 1), .int l1, .ref 29])) (M := M3) (o := (pcl GG lay d 249 [.ref 1, .int r1] M3)) (hf := rfl) rfl rfl).trans ?_
      refine kI_in (fun r4 M4 => ?_)
      refine (evn_adv 2 (q' := (71, [some (.ref 29), some (.int l1), some (.int r1)], [.int (M4.1 29 15), .int r4, .int (jn 1), .int l1, .ref 29], M4)) rfl).trans ?_
      refine (e_kV (q := (71, [some (.ref 29), some (.int l1), some (.int r1)], [.int (M4.1 29 15), .int r4, .int (jn 1), .int l1, .ref 29])) (q2 := (74, [some (.ref 29), some (.int l1), some (.int r1)], [])) (M := M4) (o := (pcl GG lay d 204 [.ref 29, .int l1, .int (jn 1), .int r4, .int (M4.1 29 15)] M4)) (hf := rfl) rfl rfl).trans ?_
      refine kV_in (fun M5 => ?_)
      refine (evn_adv 1 (q' := (86, [some (.ref 29), some (.int l1), some (.int r1)], [], M5)) rfl).trans ?_
      exact evn_end 1 rfl
    · refine (evn_adv 4 (q' := (83, [some (.ref 29), some (.int l1), some (.int r1)], [.int (M3.1 29 15), .int l1, .ref 29], M3)) rfl).trans ?_
      refine (e_kV (q := (83, [some (.ref 29), some (.int l1), some (.int r1)], [.int (M3.1 29 15), .int l1, .ref 29])) (q2 := (86, [some (.ref 29), some (.int l1), some (.int r1)], [])) (M := M3) (o := (pcl GG lay d 205 [.ref 29, .int l1, .int (M3.1 29 15)] M3)) (hf := rfl) rfl rfl).trans ?_
      refine kV_in (fun M4 => ?_)
      exact evn_end 1 rfl
/-- TermStrategies$Shelves.isThere(I)Z -/
noncomputable abbrev E_217 (d : Nat) : PQ → PO := evn (rnn k_217 lay none (pcl GG lay d) 2)
theorem q_217 (d : Nat) (l0 : Int32) (M : PM) : pcl GG lay (d + 1) 217 [.int l0] M = (if l0 < jn 0 then (rZ (jn 0) M) else (if l0 < (jn 8) then (rZ (jn 1) M) else (rZ (jn 0) M))) := by
  refine (pcl_un (mt := t_217) (by decide) rfl (Nat.le_of_ble_eq_true rfl)).trans ?_
  show E_217 d (0, [some (.int l0)], [], M) = _
  refine (evn_adv 1 (q' := (1, [some (.int l0)], [.int l0], M)) rfl).trans ?_
  refine (e_if_lt (hf := rfl)).trans ?_
  refine ite_in ?_ ?_
  · refine (evn_adv 1 (q' := (15, [some (.int l0)], [.int (jn 0)], M)) rfl).trans ?_
    exact e_iretz (hf := rfl)
  · refine (evn_adv 2 (q' := (7, [some (.int l0)], [.int (jn 8), .int l0], M)) rfl).trans ?_
    refine (e_ic_ge (hf := rfl)).trans ?_
    refine ite_in ?_ ?_
    · refine (evn_adv 2 (q' := (15, [some (.int l0)], [.int (jn 1)], M)) rfl).trans ?_
      exact e_iretz (hf := rfl)
    · refine (evn_adv 1 (q' := (15, [some (.int l0)], [.int (jn 0)], M)) rfl).trans ?_
      exact e_iretz (hf := rfl)
/-- TermStrategies$Shelves.heldBy(I)I -/
noncomputable abbrev E_218 (d : Nat) : PQ → PO := evn (rnn k_218 lay none (pcl GG lay d) 1)
theorem q_218 (d : Nat) (l1 : Int32) (M : PM) : pcl GG lay (d + 1) 218 [.ref 15, .int l1] M = (kI (pcl GG lay d 217 [.int l1] M) fun r1 M1 => (if r1 = jn 0 then (rI (jz 1) M1) else (kI (pcl GG lay d 65 [.ref 16, .int l1] M1) fun r2 M2 => (rI r2 M2)))) := by
  refine (pcl_un (mt := t_218) (by decide) rfl (Nat.le_of_ble_eq_true rfl)).trans ?_
  show E_218 d (0, [some (.ref 15), some (.int l1)], [], M) = _
  refine (evn_adv 1 (q' := (1, [some (.ref 15), some (.int l1)], [.int l1], M)) rfl).trans ?_
  refine (e_kI (q := (1, [some (.ref 15), some (.int l1)], [.int l1])) (q2 := (4, [some (.ref 15), some (.int l1)], [])) (M := M) (o := (pcl GG lay d 217 [.int l1] M)) (hf := rfl) rfl rfl).trans ?_
  refine kI_in (fun r1 M1 => ?_)
  refine (e_if_eq (hf := rfl)).trans ?_
  refine ite_in ?_ ?_
  · refine (evn_adv 1 (q' := (19, [some (.ref 15), some (.int l1)], [.int (jz 1)], M1)) rfl).trans ?_
    exact evn_end 1 rfl
  · refine (evn_adv 3 (q' := (12, [some (.ref 15), some (.int l1)], [.int l1, .ref 16], M1)) rfl).trans ?_
    refine (e_kI (q := (12, [some (.ref 15), some (.int l1)], [.int l1, .ref 16])) (q2 := (15, [some (.ref 15), some (.int l1)], [])) (M := M1) (o := (pcl GG lay d 65 [.ref 16, .int l1] M1)) (hf := rfl) rfl rfl).trans ?_
    refine kI_in (fun r2 M2 => ?_)
    refine (evn_adv 1 (q' := (19, [some (.ref 15), some (.int l1)], [.int r2], M2)) rfl).trans ?_
    exact evn_end 1 rfl
/-- TermStrategies$Shelves.holdsRow(I)Z -/
noncomputable abbrev E_219 (d : Nat) : PQ → PO := evn (rnn k_219 lay none (pcl GG lay d) 2)
theorem q_219 (d : Nat) (l1 : Int32) (M : PM) : pcl GG lay (d + 1) 219 [.ref 15, .int l1] M = (kI (pcl GG lay d 218 [.ref 15, .int l1] M) fun r1 M1 => (if r1 < (jn 100) then (rZ (jn 0) M1) else (rZ (jn 1) M1))) := by
  refine (pcl_un (mt := t_219) (by decide) rfl (Nat.le_of_ble_eq_true rfl)).trans ?_
  show E_219 d (0, [some (.ref 15), some (.int l1)], [], M) = _
  refine (evn_adv 2 (q' := (2, [some (.ref 15), some (.int l1)], [.int l1, .ref 15], M)) rfl).trans ?_
  refine (e_kI (q := (2, [some (.ref 15), some (.int l1)], [.int l1, .ref 15])) (q2 := (5, [some (.ref 15), some (.int l1)], [])) (M := M) (o := (pcl GG lay d 218 [.ref 15, .int l1] M)) (hf := rfl) rfl rfl).trans ?_
  refine kI_in (fun r1 M1 => ?_)
  refine (evn_adv 1 (q' := (7, [some (.ref 15), some (.int l1)], [.int (jn 100), .int r1], M1)) rfl).trans ?_
  refine (e_ic_lt (hf := rfl)).trans ?_
  refine ite_in ?_ ?_
  · refine (evn_adv 1 (q' := (15, [some (.ref 15), some (.int l1)], [.int (jn 0)], M1)) rfl).trans ?_
    exact e_iretz (hf := rfl)
  · refine (evn_adv 2 (q' := (15, [some (.ref 15), some (.int l1)], [.int (jn 1)], M1)) rfl).trans ?_
    exact e_iretz (hf := rfl)
/-- TermStrategies$Shelves.holdsStrategy(I)Z -/
noncomputable abbrev E_220 (d : Nat) : PQ → PO := evn (rnn k_220 lay none (pcl GG lay d) 2)
theorem q_220 (d : Nat) (l1 : Int32) (M : PM) : pcl GG lay (d + 1) 220 [.ref 15, .int l1] M = (kI (pcl GG lay d 218 [.ref 15, .int l1] M) fun r1 M1 => (if r1 < jn 0 then (rZ (jn 0) M1) else (kI (pcl GG lay d 218 [.ref 15, .int l1] M1) fun r2 M2 => (if r2 < (jn 100) then (rZ (jn 1) M2) else (rZ (jn 0) M2))))) := by
  refine (pcl_un (mt := t_220) (by decide) rfl (Nat.le_of_ble_eq_true rfl)).trans ?_
  show E_220 d (0, [some (.ref 15), some (.int l1)], [], M) = _
  refine (evn_adv 2 (q' := (2, [some (.ref 15), some (.int l1)], [.int l1, .ref 15], M)) rfl).trans ?_
  refine (e_kI (q := (2, [some (.ref 15), some (.int l1)], [.int l1, .ref 15])) (q2 := (5, [some (.ref 15), some (.int l1)], [])) (M := M) (o := (pcl GG lay d 218 [.ref 15, .int l1] M)) (hf := rfl) rfl rfl).trans ?_
  refine kI_in (fun r1 M1 => ?_)
  refine (e_if_lt (hf := rfl)).trans ?_
  refine ite_in ?_ ?_
  · refine (evn_adv 1 (q' := (23, [some (.ref 15), some (.int l1)], [.int (jn 0)], M1)) rfl).trans ?_
    exact e_iretz (hf := rfl)
  · refine (evn_adv 2 (q' := (10, [some (.ref 15), some (.int l1)], [.int l1, .ref 15], M1)) rfl).trans ?_
    refine (e_kI (q := (10, [some (.ref 15), some (.int l1)], [.int l1, .ref 15])) (q2 := (13, [some (.ref 15), some (.int l1)], [])) (M := M1) (o := (pcl GG lay d 218 [.ref 15, .int l1] M1)) (hf := rfl) rfl rfl).trans ?_
    refine kI_in (fun r2 M2 => ?_)
    refine (evn_adv 1 (q' := (15, [some (.ref 15), some (.int l1)], [.int (jn 100), .int r2], M2)) rfl).trans ?_
    refine (e_ic_ge (hf := rfl)).trans ?_
    refine ite_in ?_ ?_
    · refine (evn_adv 2 (q' := (23, [some (.ref 15), some (.int l1)], [.int (jn 1)], M2)) rfl).trans ?_
      exact e_iretz (hf := rfl)
    · refine (evn_adv 1 (q' := (23, [some (.ref 15), some (.int l1)], [.int (jn 0)], M2)) rfl).trans ?_
      exact e_iretz (hf := rfl)
/-- TermStrategies$Shelves.rowRefusal(I)I -/
noncomputable abbrev E_221 (d : Nat) : PQ → PO := evn (rnn k_221 lay none (pcl GG lay d) 1)
theorem q_221 (d : Nat) (l1 : Int32) (M : PM) : pcl GG lay (d + 1) 221 [.ref 15, .int l1] M = (kI (pcl GG lay d 217 [.int l1] M) fun r1 M1 => (if r1 = jn 0 then (rI (jz 1) M1) else (kI (pcl GG lay d 220 [.ref 15, .int l1] M1) fun r2 M2 => (if r2 = jn 0 then (kI (pcl GG lay d 219 [.ref 15, .int l1] M2) fun r3 M3 => (if r3 = jn 0 then (rI (jz 3) M3) else (rI (jn 0) M3))) else (rI (jz 2) M2))))) := by
  refine (pcl_un (mt := t_221) (by decide) rfl (Nat.le_of_ble_eq_true rfl)).trans ?_
  show E_221 d (0, [some (.ref 15), some (.int l1)], [], M) = _
  refine (evn_adv 1 (q' := (1, [some (.ref 15), some (.int l1)], [.int l1], M)) rfl).trans ?_
  refine (e_kI (q := (1, [some (.ref 15), some (.int l1)], [.int l1])) (q2 := (4, [some (.ref 15), some (.int l1)], [])) (M := M) (o := (pcl GG lay d 217 [.int l1] M)) (hf := rfl) rfl rfl).trans ?_
  refine kI_in (fun r1 M1 => ?_)
  refine (e_if_ne (hf := rfl)).trans ?_
  refine ite_in ?_ ?_
  · refine (evn_adv 1 (q' := (8, [some (.ref 15), some (.int l1)], [.int (jz 1)], M1)) rfl).trans ?_
    exact evn_end 1 rfl
  · refine (evn_adv 2 (q' := (11, [some (.ref 15), some (.int l1)], [.int l1, .ref 15], M1)) rfl).trans ?_
    refine (e_kI (q := (11, [some (.ref 15), some (.int l1)], [.int l1, .ref 15])) (q2 := (14, [some (.ref 15), some (.int l1)], [])) (M := M1) (o := (pcl GG lay d 220 [.ref 15, .int l1] M1)) (hf := rfl) rfl rfl).trans ?_
    refine kI_in (fun r2 M2 => ?_)
    refine (e_if_eq (hf := rfl)).trans ?_
    refine ite_in ?_ ?_
    · refine (evn_adv 2 (q' := (22, [some (.ref 15), some (.int l1)], [.int l1, .ref 15], M2)) rfl).trans ?_
      refine (e_kI (q := (22, [some (.ref 15), some (.int l1)], [.int l1, .ref 15])) (q2 := (25, [some (.ref 15), some (.int l1)], [])) (M := M2) (o := (pcl GG lay d 219 [.ref 15, .int l1] M2)) (hf := rfl) rfl rfl).trans ?_
      refine kI_in (fun r3 M3 => ?_)
      refine (e_if_eq (hf := rfl)).trans ?_
      refine ite_in ?_ ?_
      · refine (evn_adv 1 (q' := (34, [some (.ref 15), some (.int l1)], [.int (jz 3)], M3)) rfl).trans ?_
        exact evn_end 1 rfl
      · refine (evn_adv 2 (q' := (34, [some (.ref 15), some (.int l1)], [.int (jn 0)], M3)) rfl).trans ?_
        exact evn_end 1 rfl
    · refine (evn_adv 1 (q' := (19, [some (.ref 15), some (.int l1)], [.int (jz 2)], M2)) rfl).trans ?_
      exact evn_end 1 rfl
/-- TermStrategies$Shelves.sizeOf(I)I -/
noncomputable abbrev E_222 (d : Nat) : PQ → PO := evn (rnn k_222 lay none (pcl GG lay d) 1)
theorem q_222 (d : Nat) (l1 : Int32) (M : PM) : pcl GG lay (d + 1) 222 [.ref 15, .int l1] M = (kI (pcl GG lay d 219 [.ref 15, .int l1] M) fun r1 M1 => (if r1 = jn 0 then (rI (jn 0) M1) else (kI (pcl GG lay d 65 [.ref 17, .int l1] M1) fun r2 M2 => (rI r2 M2)))) := by
  refine (pcl_un (mt := t_222) (by decide) rfl (Nat.le_of_ble_eq_true rfl)).trans ?_
  show E_222 d (0, [some (.ref 15), some (.int l1)], [], M) = _
  refine (evn_adv 2 (q' := (2, [some (.ref 15), some (.int l1)], [.int l1, .ref 15], M)) rfl).trans ?_
  refine (e_kI (q := (2, [some (.ref 15), some (.int l1)], [.int l1, .ref 15])) (q2 := (5, [some (.ref 15), some (.int l1)], [])) (M := M) (o := (pcl GG lay d 219 [.ref 15, .int l1] M)) (hf := rfl) rfl rfl).trans ?_
  refine kI_in (fun r1 M1 => ?_)
  refine (e_if_eq (hf := rfl)).trans ?_
  refine ite_in ?_ ?_
  · refine (evn_adv 1 (q' := (20, [some (.ref 15), some (.int l1)], [.int (jn 0)], M1)) rfl).trans ?_
    exact evn_end 1 rfl
  · refine (evn_adv 3 (q' := (13, [some (.ref 15), some (.int l1)], [.int l1, .ref 17], M1)) rfl).trans ?_
    refine (e_kI (q := (13, [some (.ref 15), some (.int l1)], [.int l1, .ref 17])) (q2 := (16, [some (.ref 15), some (.int l1)], [])) (M := M1) (o := (pcl GG lay d 65 [.ref 17, .int l1] M1)) (hf := rfl) rfl rfl).trans ?_
    refine kI_in (fun r2 M2 => ?_)
    refine (evn_adv 1 (q' := (20, [some (.ref 15), some (.int l1)], [.int r2], M2)) rfl).trans ?_
    exact evn_end 1 rfl
/-- TermStrategies$Shelves.lay(III)V -/
noncomputable abbrev E_223 (d : Nat) : PQ → PO := evn (rnn k_223 lay none (pcl GG lay d) 0)
theorem q_223 (d : Nat) (l1 : Int32) (l2 : Int32) (l3 : Int32) (M : PM) : pcl GG lay (d + 1) 223 [.ref 15, .int l1, .int l2, .int l3] M = (kV (pcl GG lay d 66 [.ref 16, .int l1, .int ((jn 100) + l2)] M) fun M1 => (kV (pcl GG lay d 66 [.ref 17, .int l1, .int l3] M1) fun M2 => E_223 d (24, [some (.ref 15), some (.int l1), some (.int l2), some (.int l3), some (.int (jn 0))], [], M2))) := by
  refine (pcl_un (mt := t_223) (by decide) rfl (Nat.le_of_ble_eq_true rfl)).trans ?_
  show E_223 d (0, [some (.ref 15), some (.int l1), some (.int l2), some (.int l3), none], [], M) = _
  refine (evn_adv 6 (q' := (9, [some (.ref 15), some (.int l1), some (.int l2), some (.int l3), none], [.int ((jn 100) + l2), .int l1, .ref 16], M)) rfl).trans ?_
  refine (e_kV (q := (9, [some (.ref 15), some (.int l1), some (.int l2), some (.int l3), none], [.int ((jn 100) + l2), .int l1, .ref 16])) (q2 := (12, [some (.ref 15), some (.int l1), some (.int l2), some (.int l3), none], [])) (M := M) (o := (pcl GG lay d 66 [.ref 16, .int l1, .int ((jn 100) + l2)] M)) (hf := rfl) rfl rfl).trans ?_
  refine kV_in (fun M1 => ?_)
  refine (evn_adv 4 (q' := (18, [some (.ref 15), some (.int l1), some (.int l2), some (.int l3), none], [.int l3, .int l1, .ref 17], M1)) rfl).trans ?_
  refine (e_kV (q := (18, [some (.ref 15), some (.int l1), some (.int l2), some (.int l3), none], [.int l3, .int l1, .ref 17])) (q2 := (21, [some (.ref 15), some (.int l1), some (.int l2), some (.int l3), none], [])) (M := M1) (o := (pcl GG lay d 66 [.ref 17, .int l1, .int l3] M1)) (hf := rfl) rfl rfl).trans ?_
  refine kV_in (fun M2 => ?_)
  refine (evn_adv 2 (q' := (24, [some (.ref 15), some (.int l1), some (.int l2), some (.int l3), some (.int (jn 0))], [], M2)) rfl).trans ?_
  rfl
theorem h_223_24 (d : Nat) (l1 : Int32) (u2 : Option Value) (l3 : Int32) (l4 : Int32) (M : PM) : E_223 d (24, [some (.ref 15), some (.int l1), u2, some (.int l3), some (.int l4)], [], M) = (if l4 < l3 then (kV (pcl GG lay d 68 [.ref 18, .int ((l1 * (jn 160)) + l4), .long (Int64.ofNat 0)] M) fun M1 => E_223 d (24, [some (.ref 15), some (.int l1), u2, some (.int l3), some (.int (l4 + (jn 1)))], [], M1)) else (rV M)) := by
  refine (evn_adv 2 (q' := (27, [some (.ref 15), some (.int l1), u2, some (.int l3), some (.int l4)], [.int l3, .int l4], M)) rfl).trans ?_
  refine (e_ic_ge (hf := rfl)).trans ?_
  refine ite_in ?_ ?_
  · refine (evn_adv 8 (q' := (43, [some (.ref 15), some (.int l1), u2, some (.int l3), some (.int l4)], [.long (Int64.ofNat 0), .int ((l1 * (jn 160)) + l4), .ref 18], M)) rfl).trans ?_
    refine (e_kV (q := (43, [some (.ref 15), some (.int l1), u2, some (.int l3), some (.int l4)], [.long (Int64.ofNat 0), .int ((l1 * (jn 160)) + l4), .ref 18])) (q2 := (46, [some (.ref 15), some (.int l1), u2, some (.int l3), some (.int l4)], [])) (M := M) (o := (pcl GG lay d 68 [.ref 18, .int ((l1 * (jn 160)) + l4), .long (Int64.ofNat 0)] M)) (hf := rfl) rfl rfl).trans ?_
    refine kV_in (fun M1 => ?_)
    refine (evn_adv 2 (q' := (24, [some (.ref 15), some (.int l1), u2, some (.int l3), some (.int (l4 + (jn 1)))], [], M1)) rfl).trans ?_
    rfl
  · exact evn_end 1 rfl
/-- TermStrategies$Shelves.elementAt(II)J -/
noncomputable abbrev E_225 (d : Nat) : PQ → PO := evn (rnn k_225 lay none (pcl GG lay d) 3)
theorem q_225 (d : Nat) (l1 : Int32) (l2 : Int32) (M : PM) : pcl GG lay (d + 1) 225 [.ref 15, .int l1, .int l2] M = (if l2 < jn 0 then (rL (Int64.ofNat 0) M) else (kI (pcl GG lay d 222 [.ref 15, .int l1] M) fun r1 M1 => (if l2 < r1 then (kL (pcl GG lay d 67 [.ref 18, .int ((l1 * (jn 160)) + l2)] M1) fun r2 M2 => (rL r2 M2)) else (rL (Int64.ofNat 0) M1)))) := by
  refine (pcl_un (mt := t_225) (by decide) rfl (Nat.le_of_ble_eq_true rfl)).trans ?_
  show E_225 d (0, [some (.ref 15), some (.int l1), some (.int l2)], [], M) = _
  refine (evn_adv 1 (q' := (1, [some (.ref 15), some (.int l1), some (.int l2)], [.int l2], M)) rfl).trans ?_
  refine (e_if_lt (hf := rfl)).trans ?_
  refine ite_in ?_ ?_
  · refine (evn_adv 2 (q' := (31, [some (.ref 15), some (.int l1), some (.int l2)], [.long (Int64.ofNat 0)], M)) rfl).trans ?_
    exact evn_end 1 rfl
  · refine (evn_adv 3 (q' := (7, [some (.ref 15), some (.int l1), some (.int l2)], [.int l1, .ref 15, .int l2], M)) rfl).trans ?_
    refine (e_kI (q := (7, [some (.ref 15), some (.int l1), some (.int l2)], [.int l1, .ref 15, .int l2])) (q2 := (10, [some (.ref 15), some (.int l1), some (.int l2)], [.int l2])) (M := M) (o := (pcl GG lay d 222 [.ref 15, .int l1] M)) (hf := rfl) rfl rfl).trans ?_
    refine kI_in (fun r1 M1 => ?_)
    refine (e_ic_lt (hf := rfl)).trans ?_
    refine ite_in ?_ ?_
    · refine (evn_adv 7 (q' := (28, [some (.ref 15), some (.int l1), some (.int l2)], [.int ((l1 * (jn 160)) + l2), .ref 18], M1)) rfl).trans ?_
      refine (e_kL (q := (28, [some (.ref 15), some (.int l1), some (.int l2)], [.int ((l1 * (jn 160)) + l2), .ref 18])) (q2 := (31, [some (.ref 15), some (.int l1), some (.int l2)], [])) (M := M1) (o := (pcl GG lay d 67 [.ref 18, .int ((l1 * (jn 160)) + l2)] M1)) (hf := rfl) rfl rfl).trans ?_
      refine kL_in (fun r2 M2 => ?_)
      exact evn_end 1 rfl
    · refine (evn_adv 2 (q' := (31, [some (.ref 15), some (.int l1), some (.int l2)], [.long (Int64.ofNat 0)], M1)) rfl).trans ?_
      exact evn_end 1 rfl
/-- TermStrategies$Shelves.intAt(II)I -/
noncomputable abbrev E_226 (d : Nat) : PQ → PO := evn (rnn k_226 lay none (pcl GG lay d) 1)
theorem q_226 (d : Nat) (l1 : Int32) (l2 : Int32) (M : PM) : pcl GG lay (d + 1) 226 [.ref 15, .int l1, .int l2] M = (kL (pcl GG lay d 225 [.ref 15, .int l1, .int l2] M) fun r1 M1 => (rI (r1.toInt32) M1)) := by
  refine (pcl_un (mt := t_226) (by decide) rfl (Nat.le_of_ble_eq_true rfl)).trans ?_
  show E_226 d (0, [some (.ref 15), some (.int l1), some (.int l2)], [], M) = _
  refine (evn_adv 3 (q' := (3, [some (.ref 15), some (.int l1), some (.int l2)], [.int l2, .int l1, .ref 15], M)) rfl).trans ?_
  refine (e_kL (q := (3, [some (.ref 15), some (.int l1), some (.int l2)], [.int l2, .int l1, .ref 15])) (q2 := (6, [some (.ref 15), some (.int l1), some (.int l2)], [])) (M := M) (o := (pcl GG lay d 225 [.ref 15, .int l1, .int l2] M)) (hf := rfl) rfl rfl).trans ?_
  refine kL_in (fun r1 M1 => ?_)
  refine (evn_adv 1 (q' := (7, [some (.ref 15), some (.int l1), some (.int l2)], [.int (r1.toInt32)], M1)) rfl).trans ?_
  exact evn_end 1 rfl
/-- TermStrategies$Shelves.change(IIJ)V -/
noncomputable abbrev E_227 (d : Nat) : PQ → PO := evn (rnn k_227 lay none (pcl GG lay d) 0)
theorem q_227 (d : Nat) (l1 : Int32) (l2 : Int32) (l3 : Int64) (M : PM) : pcl GG lay (d + 1) 227 [.ref 15, .int l1, .int l2, .long l3] M = (kI (pcl GG lay d 218 [.ref 15, .int l1] M) fun r1 M1 => (kL (pcl GG lay d 228 [.int (r1 - (jn 100)), .long l3] M1) fun r2 M2 => (kV (pcl GG lay d 68 [.ref 18, .int ((l1 * (jn 160)) + l2), .long r2] M2) fun M3 => (rV M3)))) := by
  refine (pcl_un (mt := t_227) (by decide) rfl (Nat.le_of_ble_eq_true rfl)).trans ?_
  show E_227 d (0, [some (.ref 15), some (.int l1), some (.int l2), some (.long l3), none], [], M) = _
  refine (evn_adv 9 (q' := (13, [some (.ref 15), some (.int l1), some (.int l2), some (.long l3), none], [.int l1, .ref 15, .int ((l1 * (jn 160)) + l2), .ref 18], M)) rfl).trans ?_
  refine (e_kI (q := (13, [some (.ref 15), some (.int l1), some (.int l2), some (.long l3), none], [.int l1, .ref 15, .int ((l1 * (jn 160)) + l2), .ref 18])) (q2 := (16, [some (.ref 15), some (.int l1), some (.int l2), some (.long l3), none], [.int ((l1 * (jn 160)) + l2), .ref 18])) (M := M) (o := (pcl GG lay d 218 [.ref 15, .int l1] M)) (hf := rfl) rfl rfl).trans ?_
  refine kI_in (fun r1 M1 => ?_)
  refine (evn_adv 3 (q' := (20, [some (.ref 15), some (.int l1), some (.int l2), some (.long l3), none], [.long l3, .int (r1 - (jn 100)), .int ((l1 * (jn 160)) + l2), .ref 18], M1)) rfl).trans ?_
  refine (e_kL (q := (20, [some (.ref 15), some (.int l1), some (.int l2), some (.long l3), none], [.long l3, .int (r1 - (jn 100)), .int ((l1 * (jn 160)) + l2), .ref 18])) (q2 := (23, [some (.ref 15), some (.int l1), some (.int l2), some (.long l3), none], [.int ((l1 * (jn 160)) + l2), .ref 18])) (M := M1) (o := (pcl GG lay d 228 [.int (r1 - (jn 100)), .long l3] M1)) (hf := rfl) rfl rfl).trans ?_
  refine kL_in (fun r2 M2 => ?_)
  refine (e_kV (q := (23, [some (.ref 15), some (.int l1), some (.int l2), some (.long l3), none], [.long r2, .int ((l1 * (jn 160)) + l2), .ref 18])) (q2 := (26, [some (.ref 15), some (.int l1), some (.int l2), some (.long l3), none], [])) (M := M2) (o := (pcl GG lay d 68 [.ref 18, .int ((l1 * (jn 160)) + l2), .long r2] M2)) (hf := rfl) rfl rfl).trans ?_
  refine kV_in (fun M3 => ?_)
  exact evn_end 1 rfl
/-- TermStrategies$Shelves.lowestBits(IJ)J -/
noncomputable abbrev E_228 (d : Nat) : PQ → PO := evn (rnn k_228 lay none (pcl GG lay d) 3)
theorem q_228 (d : Nat) (l0 : Int32) (l1 : Int64) (M : PM) : pcl GG lay (d + 1) 228 [.int l0, .long l1] M = (if l0 = (jn 0) then (rL (((l1.toInt32).toInt8.toInt32).toInt64) M) else (if l0 = (jn 1) then (rL (((l1.toInt32).toInt16.toInt32).toInt64) M) else (if l0 = (jn 2) then (rL ((l1.toInt32).toInt64) M) else (rL l1 M)))) := by
  refine (pcl_un (mt := t_228) (by decide) rfl (Nat.le_of_ble_eq_true rfl)).trans ?_
  show E_228 d (0, [some (.int l0), some (.long l1), none], [], M) = _
  refine (evn_adv 1 (q' := (1, [some (.int l0), some (.long l1), none], [.int l0], M)) rfl).trans ?_
  refine (e_sw0 (dflt := 42) (lo := ((0 : Nat) : Int)) (ts := [28, 33, 38]) (hf := rfl) rfl).trans ?_
  refine sw_cons (lo := 0) (F := fun pc => E_228 d (pc, [some (.int l0), some (.long l1), none], [], M)) (by decide) ?_ ?_
  · refine (evn_adv 4 (q' := (32, [some (.int l0), some (.long l1), none], [.long (((l1.toInt32).toInt8.toInt32).toInt64)], M)) rfl).trans ?_
    exact evn_end 1 rfl
  refine sw_cons (lo := 1) (F := fun pc => E_228 d (pc, [some (.int l0), some (.long l1), none], [], M)) (by decide) ?_ ?_
  · refine (evn_adv 4 (q' := (37, [some (.int l0), some (.long l1), none], [.long (((l1.toInt32).toInt16.toInt32).toInt64)], M)) rfl).trans ?_
    exact evn_end 1 rfl
  refine sw_cons (lo := 2) (F := fun pc => E_228 d (pc, [some (.int l0), some (.long l1), none], [], M)) (by decide) ?_ ?_
  · refine (evn_adv 3 (q' := (41, [some (.int l0), some (.long l1), none], [.long ((l1.toInt32).toInt64)], M)) rfl).trans ?_
    exact evn_end 1 rfl
  show E_228 d (42, [some (.int l0), some (.long l1), none], [], M) = _
  refine (evn_adv 1 (q' := (43, [some (.int l0), some (.long l1), none], [.long l1], M)) rfl).trans ?_
  exact evn_end 1 rfl
/-- TermStrategies$Shelves.forgetStrategiesFrom(I)V -/
noncomputable abbrev E_230 (d : Nat) : PQ → PO := evn (rnn k_230 lay none (pcl GG lay d) 0)
theorem q_230 (d : Nat) (l1 : Int32) (M : PM) : pcl GG lay (d + 1) 230 [.ref 15, .int l1] M = E_230 d (2, [some (.ref 15), some (.int l1), some (.int (jn 0))], [], M) := by
  refine (pcl_un (mt := t_230) (by decide) rfl (Nat.le_of_ble_eq_true rfl)).trans ?_
  show E_230 d (0, [some (.ref 15), some (.int l1), none], [], M) = _
  refine (evn_adv 2 (q' := (2, [some (.ref 15), some (.int l1), some (.int (jn 0))], [], M)) rfl).trans ?_
  rfl
theorem h_230_2 (d : Nat) (l1 : Int32) (l2 : Int32) (M : PM) : E_230 d (2, [some (.ref 15), some (.int l1), some (.int l2)], [], M) = (if l2 < (jn 8) then (kI (pcl GG lay d 220 [.ref 15, .int l2] M) fun r1 M1 => (if r1 = jn 0 then E_230 d (2, [some (.ref 15), some (.int l1), some (.int (l2 + (jn 1)))], [], M1) else (kI (pcl GG lay d 218 [.ref 15, .int l2] M1) fun r2 M2 => (if r2 < l1 then E_230 d (2, [some (.ref 15), some (.int l1), some (.int (l2 + (jn 1)))], [], M2) else (kV (pcl GG lay d 66 [.ref 16, .int l2, .int (jz 1)] M2) fun M3 => E_230 d (2, [some (.ref 15), some (.int l1), some (.int (l2 + (jn 1)))], [], M3)))))) else (rV M)) := by
  refine (evn_adv 2 (q' := (5, [some (.ref 15), some (.int l1), some (.int l2)], [.int (jn 8), .int l2], M)) rfl).trans ?_
  refine (e_ic_ge (hf := rfl)).trans ?_
  refine ite_in ?_ ?_
  · refine (evn_adv 2 (q' := (10, [some (.ref 15), some (.int l1), some (.int l2)], [.int l2, .ref 15], M)) rfl).trans ?_
    refine (e_kI (q := (10, [some (.ref 15), some (.int l1), some (.int l2)], [.int l2, .ref 15])) (q2 := (13, [some (.ref 15), some (.int l1), some (.int l2)], [])) (M := M) (o := (pcl GG lay d 220 [.ref 15, .int l2] M)) (hf := rfl) rfl rfl).trans ?_
    refine kI_in (fun r1 M1 => ?_)
    refine (e_if_eq (hf := rfl)).trans ?_
    refine ite_in ?_ ?_
    · refine (evn_adv 2 (q' := (2, [some (.ref 15), some (.int l1), some (.int (l2 + (jn 1)))], [], M1)) rfl).trans ?_
      rfl
    · refine (evn_adv 2 (q' := (18, [some (.ref 15), some (.int l1), some (.int l2)], [.int l2, .ref 15], M1)) rfl).trans ?_
      refine (e_kI (q := (18, [some (.ref 15), some (.int l1), some (.int l2)], [.int l2, .ref 15])) (q2 := (21, [some (.ref 15), some (.int l1), some (.int l2)], [])) (M := M1) (o := (pcl GG lay d 218 [.ref 15, .int l2] M1)) (hf := rfl) rfl rfl).trans ?_
      refine kI_in (fun r2 M2 => ?_)
      refine (evn_adv 1 (q' := (22, [some (.ref 15), some (.int l1), some (.int l2)], [.int l1, .int r2], M2)) rfl).trans ?_
      refine (e_ic_lt (hf := rfl)).trans ?_
      refine ite_in ?_ ?_
      · refine (evn_adv 2 (q' := (2, [some (.ref 15), some (.int l1), some (.int (l2 + (jn 1)))], [], M2)) rfl).trans ?_
        rfl
      · refine (evn_adv 4 (q' := (31, [some (.ref 15), some (.int l1), some (.int l2)], [.int (jz 1), .int l2, .ref 16], M2)) rfl).trans ?_
        refine (e_kV (q := (31, [some (.ref 15), some (.int l1), some (.int l2)], [.int (jz 1), .int l2, .ref 16])) (q2 := (34, [some (.ref 15), some (.int l1), some (.int l2)], [])) (M := M2) (o := (pcl GG lay d 66 [.ref 16, .int l2, .int (jz 1)] M2)) (hf := rfl) rfl rfl).trans ?_
        refine kV_in (fun M3 => ?_)
        refine (evn_adv 2 (q' := (2, [some (.ref 15), some (.int l1), some (.int (l2 + (jn 1)))], [], M3)) rfl).trans ?_
        rfl
  · exact evn_end 1 rfl
/-- TermStrategies$Signs.at(I)I -/
noncomputable abbrev E_231 (d : Nat) : PQ → PO := evn (rnn k_231 lay none (pcl GG lay d) 1)
theorem q_231 (d : Nat) (l1 : Int32) (M : PM) : pcl GG lay (d + 1) 231 [.ref 6, .int l1] M = (if l1 < jn 0 then (rI (jn 0) M) else (if l1 < (jn 3760) then (oB (aldI lay none M 7 l1) fun v1 => (rI v1 M)) else (rI (jn 0) M))) := by
  refine (pcl_un (mt := t_231) (by decide) rfl (Nat.le_of_ble_eq_true rfl)).trans ?_
  show E_231 d (0, [some (.ref 6), some (.int l1)], [], M) = _
  refine (evn_adv 1 (q' := (1, [some (.ref 6), some (.int l1)], [.int l1], M)) rfl).trans ?_
  refine (e_if_lt (hf := rfl)).trans ?_
  refine ite_in ?_ ?_
  · refine (evn_adv 2 (q' := (23, [some (.ref 6), some (.int l1)], [.int (jn 0)], M)) rfl).trans ?_
    exact evn_end 1 rfl
  · refine (evn_adv 4 (q' := (10, [some (.ref 6), some (.int l1)], [.int (jn 3760), .int l1], M)) rfl).trans ?_
    refine (e_ic_lt (hf := rfl)).trans ?_
    refine ite_in ?_ ?_
    · refine (evn_adv 3 (q' := (22, [some (.ref 6), some (.int l1)], [.int l1, .ref 7], M)) rfl).trans ?_
      refine (e_oB (q := (22, [some (.ref 6), some (.int l1)], [.int l1, .ref 7], M)) (o := (aldI lay none M 7 l1)) (f := fun v1 => (23, [some (.ref 6), some (.int l1)], [.int v1], M)) (hf := rfl) rfl).trans ?_
      refine oB_in (fun v1 => ?_)
      exact evn_end 1 rfl
    · refine (evn_adv 2 (q' := (23, [some (.ref 6), some (.int l1)], [.int (jn 0)], M)) rfl).trans ?_
      exact evn_end 1 rfl
/-- TermStrategies$Signs.write(II)V -/
noncomputable abbrev E_232 (d : Nat) : PQ → PO := evn (rnn k_232 lay none (pcl GG lay d) 0)
theorem q_232 (d : Nat) (l1 : Int32) (l2 : Int32) (M : PM) : pcl GG lay (d + 1) 232 [.ref 6, .int l1, .int l2] M = (if l1 < jn 0 then (rV M) else (if l1 < (jn 3760) then (oB (astI lay M 7 l1 l2) fun M1 => (rV M1)) else (rV M))) := by
  refine (pcl_un (mt := t_232) (by decide) rfl (Nat.le_of_ble_eq_true rfl)).trans ?_
  show E_232 d (0, [some (.ref 6), some (.int l1), some (.int l2)], [], M) = _
  refine (evn_adv 1 (q' := (1, [some (.ref 6), some (.int l1), some (.int l2)], [.int l1], M)) rfl).trans ?_
  refine (e_if_lt (hf := rfl)).trans ?_
  refine ite_in ?_ ?_
  · exact evn_end 1 rfl
  · refine (evn_adv 4 (q' := (10, [some (.ref 6), some (.int l1), some (.int l2)], [.int (jn 3760), .int l1], M)) rfl).trans ?_
    refine (e_ic_ge (hf := rfl)).trans ?_
    refine ite_in ?_ ?_
    · refine (evn_adv 4 (q' := (19, [some (.ref 6), some (.int l1), some (.int l2)], [.int l2, .int l1, .ref 7], M)) rfl).trans ?_
      refine (e_oB (q := (19, [some (.ref 6), some (.int l1), some (.int l2)], [.int l2, .int l1, .ref 7], M)) (o := (astI lay M 7 l1 l2)) (f := fun M1 => (20, [some (.ref 6), some (.int l1), some (.int l2)], [], M1)) (hf := rfl) rfl).trans ?_
      refine oB_in (fun M1 => ?_)
      exact evn_end 1 rfl
    · exact evn_end 1 rfl
/-- TermStrategies$Signs.end(I)I -/
noncomputable abbrev E_233 (d : Nat) : PQ → PO := evn (rnn k_233 lay none (pcl GG lay d) 1)
theorem q_233 (d : Nat) (l1 : Int32) (M : PM) : pcl GG lay (d + 1) 233 [.ref 6, .int l1] M = (if l1 < jn 0 then E_233 d (12, [some (.ref 6), some (.int l1), some (.int (jn 0)), some (.int (jn 1)), none], [], M) else E_233 d (12, [some (.ref 6), some (.int l1), some (.int l1), some (.int (jn 1)), none], [], M)) := by
  refine (pcl_un (mt := t_233) (by decide) rfl (Nat.le_of_ble_eq_true rfl)).trans ?_
  show E_233 d (0, [some (.ref 6), some (.int l1), none, none, none], [], M) = _
  refine (evn_adv 1 (q' := (1, [some (.ref 6), some (.int l1), none, none, none], [.int l1], M)) rfl).trans ?_
  refine (e_if_ge (hf := rfl)).trans ?_
  refine ite_in ?_ ?_
  · refine (evn_adv 5 (q' := (12, [some (.ref 6), some (.int l1), some (.int (jn 0)), some (.int (jn 1)), none], [], M)) rfl).trans ?_
    rfl
  · refine (evn_adv 4 (q' := (12, [some (.ref 6), some (.int l1), some (.int l1), some (.int (jn 1)), none], [], M)) rfl).trans ?_
    rfl
theorem h_233_12 (d : Nat) (u1 : Option Value) (l2 : Int32) (l3 : Int32) (u4 : Option Value) (M : PM) : E_233 d (12, [some (.ref 6), u1, some (.int l2), some (.int l3), u4], [], M) = (if jn 0 < l3 then (if l2 < (jn 3760) then (oB (aldI lay none M 7 l2) fun v1 => (if v1 < (jn 105) then (if v1 < (jn 101) then E_233 d (12, [some (.ref 6), u1, some (.int (l2 + (jn 1))), some (.int (l3 + (jz 1))), some (.int v1)], [], M) else (if (jn 104) < v1 then E_233 d (12, [some (.ref 6), u1, some (.int (l2 + (jn 1))), some (.int (l3 + (jz 1))), some (.int v1)], [], M) else E_233 d (12, [some (.ref 6), u1, some (.int (l2 + (jn 1))), some (.int l3), some (.int v1)], [], M))) else (if (jn 108) < v1 then (if v1 < (jn 101) then E_233 d (12, [some (.ref 6), u1, some (.int (l2 + (jn 1))), some (.int (l3 + (jz 1))), some (.int v1)], [], M) else (if (jn 104) < v1 then E_233 d (12, [some (.ref 6), u1, some (.int (l2 + (jn 1))), some (.int (l3 + (jz 1))), some (.int v1)], [], M) else E_233 d (12, [some (.ref 6), u1, some (.int (l2 + (jn 1))), some (.int l3), some (.int v1)], [], M))) else E_233 d (12, [some (.ref 6), u1, some (.int (l2 + (jn 1))), some (.int (l3 + (jn 1))), some (.int v1)], [], M)))) else (rI l2 M)) else (rI l2 M)) := by
  refine (evn_adv 1 (q' := (13, [some (.ref 6), u1, some (.int l2), some (.int l3), u4], [.int l3], M)) rfl).trans ?_
  refine (e_if_le (hf := rfl)).trans ?_
  refine ite_in ?_ ?_
  · refine (evn_adv 4 (q' := (22, [some (.ref 6), u1, some (.int l2), some (.int l3), u4], [.int (jn 3760), .int l2], M)) rfl).trans ?_
    refine (e_ic_ge (hf := rfl)).trans ?_
    refine ite_in ?_ ?_
    · refine (evn_adv 3 (q' := (30, [some (.ref 6), u1, some (.int l2), some (.int l3), u4], [.int l2, .ref 7], M)) rfl).trans ?_
      refine (e_oB (q := (30, [some (.ref 6), u1, some (.int l2), some (.int l3), u4], [.int l2, .ref 7], M)) (o := (aldI lay none M 7 l2)) (f := fun v1 => (31, [some (.ref 6), u1, some (.int l2), some (.int l3), u4], [.int v1], M)) (hf := rfl) rfl).trans ?_
      refine oB_in (fun v1 => ?_)
      refine (evn_adv 3 (q' := (37, [some (.ref 6), u1, some (.int l2), some (.int l3), some (.int v1)], [.int (jn 105), .int v1], M)) rfl).trans ?_
      refine (e_ic_lt (hf := rfl)).trans ?_
      refine ite_in ?_ ?_
      · refine (evn_adv 2 (q' := (57, [some (.ref 6), u1, some (.int l2), some (.int l3), some (.int v1)], [.int (jn 101), .int v1], M)) rfl).trans ?_
        refine (e_ic_lt (hf := rfl)).trans ?_
        refine ite_in ?_ ?_
        · refine (evn_adv 3 (q' := (12, [some (.ref 6), u1, some (.int (l2 + (jn 1))), some (.int (l3 + (jz 1))), some (.int v1)], [], M)) rfl).trans ?_
          rfl
        · refine (evn_adv 2 (q' := (64, [some (.ref 6), u1, some (.int l2), some (.int l3), some (.int v1)], [.int (jn 104), .int v1], M)) rfl).trans ?_
          refine (e_ic_le (hf := rfl)).trans ?_
          refine ite_in ?_ ?_
          · refine (evn_adv 3 (q' := (12, [some (.ref 6), u1, some (.int (l2 + (jn 1))), some (.int (l3 + (jz 1))), some (.int v1)], [], M)) rfl).trans ?_
            rfl
          · refine (evn_adv 2 (q' := (12, [some (.ref 6), u1, some (.int (l2 + (jn 1))), some (.int l3), some (.int v1)], [], M)) rfl).trans ?_
            rfl
      · refine (evn_adv 2 (q' := (44, [some (.ref 6), u1, some (.int l2), some (.int l3), some (.int v1)], [.int (jn 108), .int v1], M)) rfl).trans ?_
        refine (e_ic_gt (hf := rfl)).trans ?_
        refine ite_in ?_ ?_
        · refine (evn_adv 2 (q' := (57, [some (.ref 6), u1, some (.int l2), some (.int l3), some (.int v1)], [.int (jn 101), .int v1], M)) rfl).trans ?_
          refine (e_ic_lt (hf := rfl)).trans ?_
          refine ite_in ?_ ?_
          · refine (evn_adv 3 (q' := (12, [some (.ref 6), u1, some (.int (l2 + (jn 1))), some (.int (l3 + (jz 1))), some (.int v1)], [], M)) rfl).trans ?_
            rfl
          · refine (evn_adv 2 (q' := (64, [some (.ref 6), u1, some (.int l2), some (.int l3), some (.int v1)], [.int (jn 104), .int v1], M)) rfl).trans ?_
            refine (e_ic_le (hf := rfl)).trans ?_
            refine ite_in ?_ ?_
            · refine (evn_adv 3 (q' := (12, [some (.ref 6), u1, some (.int (l2 + (jn 1))), some (.int (l3 + (jz 1))), some (.int v1)], [], M)) rfl).trans ?_
              rfl
            · refine (evn_adv 2 (q' := (12, [some (.ref 6), u1, some (.int (l2 + (jn 1))), some (.int l3), some (.int v1)], [], M)) rfl).trans ?_
              rfl
        · refine (evn_adv 4 (q' := (12, [some (.ref 6), u1, some (.int (l2 + (jn 1))), some (.int (l3 + (jn 1))), some (.int v1)], [], M)) rfl).trans ?_
          rfl
    · refine (evn_adv 1 (q' := (77, [some (.ref 6), u1, some (.int l2), some (.int l3), u4], [.int l2], M)) rfl).trans ?_
      exact evn_end 1 rfl
  · refine (evn_adv 1 (q' := (77, [some (.ref 6), u1, some (.int l2), some (.int l3), u4], [.int l2], M)) rfl).trans ?_
    exact evn_end 1 rfl
/-- TermStrategies$Signs.sizeAt(I)I -/
noncomputable abbrev E_234 (d : Nat) : PQ → PO := evn (rnn k_234 lay none (pcl GG lay d) 1)
theorem q_234 (d : Nat) (l1 : Int32) (M : PM) : pcl GG lay (d + 1) 234 [.ref 6, .int l1] M = (kI (pcl GG lay d 233 [.ref 6, .int l1] M) fun r1 M1 => (rI (r1 - l1) M1)) := by
  refine (pcl_un (mt := t_234) (by decide) rfl (Nat.le_of_ble_eq_true rfl)).trans ?_
  show E_234 d (0, [some (.ref 6), some (.int l1)], [], M) = _
  refine (evn_adv 2 (q' := (2, [some (.ref 6), some (.int l1)], [.int l1, .ref 6], M)) rfl).trans ?_
  refine (e_kI (q := (2, [some (.ref 6), some (.int l1)], [.int l1, .ref 6])) (q2 := (5, [some (.ref 6), some (.int l1)], [])) (M := M) (o := (pcl GG lay d 233 [.ref 6, .int l1] M)) (hf := rfl) rfl rfl).trans ?_
  refine kI_in (fun r1 M1 => ?_)
  refine (evn_adv 2 (q' := (7, [some (.ref 6), some (.int l1)], [.int (r1 - l1)], M1)) rfl).trans ?_
  exact evn_end 1 rfl
/-- TermStrategies$Signs.alike(II)Z -/
noncomputable abbrev E_235 (d : Nat) : PQ → PO := evn (rnn k_235 lay none (pcl GG lay d) 2)
theorem q_235 (d : Nat) (l1 : Int32) (l2 : Int32) (M : PM) : pcl GG lay (d + 1) 235 [.ref 6, .int l1, .int l2] M = E_235 d (5, [some (.ref 6), some (.int l1), some (.int l2), some (.int (jn 1)), some (.int (jn 0)), none], [], M) := by
  refine (pcl_un (mt := t_235) (by decide) rfl (Nat.le_of_ble_eq_true rfl)).trans ?_
  show E_235 d (0, [some (.ref 6), some (.int l1), some (.int l2), none, none, none], [], M) = _
  refine (evn_adv 4 (q' := (5, [some (.ref 6), some (.int l1), some (.int l2), some (.int (jn 1)), some (.int (jn 0)), none], [], M)) rfl).trans ?_
  rfl
theorem h_235_5 (d : Nat) (l1 : Int32) (l2 : Int32) (l3 : Int32) (l4 : Int32) (u5 : Option Value) (M : PM) : E_235 d (5, [some (.ref 6), some (.int l1), some (.int l2), some (.int l3), some (.int l4), u5], [], M) = (if l4 < (jn 40) then (if jn 0 < l3 then (kI (pcl GG lay d 231 [.ref 6, .int (l1 + l4)] M) fun r1 M1 => (kI (pcl GG lay d 231 [.ref 6, .int (l2 + l4)] M1) fun r2 M2 => (if r1 = r2 then (kI (pcl GG lay d 63 [.int r1] M2) fun r3 M3 => E_235 d (5, [some (.ref 6), some (.int l1), some (.int l2), some (.int (l3 + (r3 - (jn 1)))), some (.int (l4 + (jn 1))), some (.int r1)], [], M3)) else (rZ (jn 0) M2)))) else (rZ (jn 1) M)) else (rZ (jn 1) M)) := by
  refine (evn_adv 2 (q' := (9, [some (.ref 6), some (.int l1), some (.int l2), some (.int l3), some (.int l4), u5], [.int (jn 40), .int l4], M)) rfl).trans ?_
  refine (e_ic_ge (hf := rfl)).trans ?_
  refine ite_in ?_ ?_
  · refine (evn_adv 1 (q' := (13, [some (.ref 6), some (.int l1), some (.int l2), some (.int l3), some (.int l4), u5], [.int l3], M)) rfl).trans ?_
    refine (e_if_le (hf := rfl)).trans ?_
    refine ite_in ?_ ?_
    · refine (evn_adv 4 (q' := (21, [some (.ref 6), some (.int l1), some (.int l2), some (.int l3), some (.int l4), u5], [.int (l1 + l4), .ref 6], M)) rfl).trans ?_
      refine (e_kI (q := (21, [some (.ref 6), some (.int l1), some (.int l2), some (.int l3), some (.int l4), u5], [.int (l1 + l4), .ref 6])) (q2 := (24, [some (.ref 6), some (.int l1), some (.int l2), some (.int l3), some (.int l4), u5], [])) (M := M) (o := (pcl GG lay d 231 [.ref 6, .int (l1 + l4)] M)) (hf := rfl) rfl rfl).trans ?_
      refine kI_in (fun r1 M1 => ?_)
      refine (evn_adv 6 (q' := (33, [some (.ref 6), some (.int l1), some (.int l2), some (.int l3), some (.int l4), some (.int r1)], [.int (l2 + l4), .ref 6, .int r1], M1)) rfl).trans ?_
      refine (e_kI (q := (33, [some (.ref 6), some (.int l1), some (.int l2), some (.int l3), some (.int l4), some (.int r1)], [.int (l2 + l4), .ref 6, .int r1])) (q2 := (36, [some (.ref 6), some (.int l1), some (.int l2), some (.int l3), some (.int l4), some (.int r1)], [.int r1])) (M := M1) (o := (pcl GG lay d 231 [.ref 6, .int (l2 + l4)] M1)) (hf := rfl) rfl rfl).trans ?_
      refine kI_in (fun r2 M2 => ?_)
      refine (e_ic_eq (hf := rfl)).trans ?_
      refine ite_in ?_ ?_
      · refine (evn_adv 2 (q' := (44, [some (.ref 6), some (.int l1), some (.int l2), some (.int l3), some (.int l4), some (.int r1)], [.int r1, .int l3], M2)) rfl).trans ?_
        refine (e_kI (q := (44, [some (.ref 6), some (.int l1), some (.int l2), some (.int l3), some (.int l4), some (.int r1)], [.int r1, .int l3])) (q2 := (47, [some (.ref 6), some (.int l1), some (.int l2), some (.int l3), some (.int l4), some (.int r1)], [.int l3])) (M := M2) (o := (pcl GG lay d 63 [.int r1] M2)) (hf := rfl) rfl rfl).trans ?_
        refine kI_in (fun r3 M3 => ?_)
        refine (evn_adv 6 (q' := (5, [some (.ref 6), some (.int l1), some (.int l2), some (.int (l3 + (r3 - (jn 1)))), some (.int (l4 + (jn 1))), some (.int r1)], [], M3)) rfl).trans ?_
        rfl
      · refine (evn_adv 1 (q' := (40, [some (.ref 6), some (.int l1), some (.int l2), some (.int l3), some (.int l4), some (.int r1)], [.int (jn 0)], M2)) rfl).trans ?_
        exact e_iretz (hf := rfl)
    · refine (evn_adv 1 (q' := (58, [some (.ref 6), some (.int l1), some (.int l2), some (.int l3), some (.int l4), u5], [.int (jn 1)], M)) rfl).trans ?_
      exact e_iretz (hf := rfl)
  · refine (evn_adv 1 (q' := (58, [some (.ref 6), some (.int l1), some (.int l2), some (.int l3), some (.int l4), u5], [.int (jn 1)], M)) rfl).trans ?_
    exact e_iretz (hf := rfl)
/-- TermStrategies$Signs.variablesAt(I)I -/
noncomputable abbrev E_236 (d : Nat) : PQ → PO := evn (rnn k_236 lay none (pcl GG lay d) 1)
theorem q_236 (d : Nat) (l1 : Int32) (M : PM) : pcl GG lay (d + 1) 236 [.ref 6, .int l1] M = (kI (pcl GG lay d 233 [.ref 6, .int l1] M) fun r1 M1 => E_236 d (11, [some (.ref 6), some (.int l1), some (.int r1), some (.int (jn 0)), some (.int l1)], [], M1)) := by
  refine (pcl_un (mt := t_236) (by decide) rfl (Nat.le_of_ble_eq_true rfl)).trans ?_
  show E_236 d (0, [some (.ref 6), some (.int l1), none, none, none], [], M) = _
  refine (evn_adv 2 (q' := (2, [some (.ref 6), some (.int l1), none, none, none], [.int l1, .ref 6], M)) rfl).trans ?_
  refine (e_kI (q := (2, [some (.ref 6), some (.int l1), none, none, none], [.int l1, .ref 6])) (q2 := (5, [some (.ref 6), some (.int l1), none, none, none], [])) (M := M) (o := (pcl GG lay d 233 [.ref 6, .int l1] M)) (hf := rfl) rfl rfl).trans ?_
  refine kI_in (fun r1 M1 => ?_)
  refine (evn_adv 5 (q' := (11, [some (.ref 6), some (.int l1), some (.int r1), some (.int (jn 0)), some (.int l1)], [], M1)) rfl).trans ?_
  rfl
theorem h_236_11 (d : Nat) (u1 : Option Value) (l2 : Int32) (l3 : Int32) (l4 : Int32) (M : PM) : E_236 d (11, [some (.ref 6), u1, some (.int l2), some (.int l3), some (.int l4)], [], M) = (if l4 < l2 then (kI (pcl GG lay d 231 [.ref 6, .int l4] M) fun r1 M1 => (kI (pcl GG lay d 62 [.int r1] M1) fun r2 M2 => (if r2 = jn 0 then E_236 d (11, [some (.ref 6), u1, some (.int l2), some (.int l3), some (.int (l4 + (jn 1)))], [], M2) else (kI (pcl GG lay d 231 [.ref 6, .int l4] M2) fun r3 M3 => E_236 d (11, [some (.ref 6), u1, some (.int l2), some (.int (l3 ||| ((jn 1) <<< ((r3 - (jn 117)) &&& 31)))), some (.int (l4 + (jn 1)))], [], M3))))) else (rI l3 M)) := by
  refine (evn_adv 2 (q' := (14, [some (.ref 6), u1, some (.int l2), some (.int l3), some (.int l4)], [.int l2, .int l4], M)) rfl).trans ?_
  refine (e_ic_ge (hf := rfl)).trans ?_
  refine ite_in ?_ ?_
  · refine (evn_adv 2 (q' := (20, [some (.ref 6), u1, some (.int l2), some (.int l3), some (.int l4)], [.int l4, .ref 6], M)) rfl).trans ?_
    refine (e_kI (q := (20, [some (.ref 6), u1, some (.int l2), some (.int l3), some (.int l4)], [.int l4, .ref 6])) (q2 := (23, [some (.ref 6), u1, some (.int l2), some (.int l3), some (.int l4)], [])) (M := M) (o := (pcl GG lay d 231 [.ref 6, .int l4] M)) (hf := rfl) rfl rfl).trans ?_
    refine kI_in (fun r1 M1 => ?_)
    refine (e_kI (q := (23, [some (.ref 6), u1, some (.int l2), some (.int l3), some (.int l4)], [.int r1])) (q2 := (26, [some (.ref 6), u1, some (.int l2), some (.int l3), some (.int l4)], [])) (M := M1) (o := (pcl GG lay d 62 [.int r1] M1)) (hf := rfl) rfl rfl).trans ?_
    refine kI_in (fun r2 M2 => ?_)
    refine (e_if_eq (hf := rfl)).trans ?_
    refine ite_in ?_ ?_
    · refine (evn_adv 2 (q' := (11, [some (.ref 6), u1, some (.int l2), some (.int l3), some (.int (l4 + (jn 1)))], [], M2)) rfl).trans ?_
      rfl
    · refine (evn_adv 4 (q' := (34, [some (.ref 6), u1, some (.int l2), some (.int l3), some (.int l4)], [.int l4, .ref 6, .int (jn 1), .int l3], M2)) rfl).trans ?_
      refine (e_kI (q := (34, [some (.ref 6), u1, some (.int l2), some (.int l3), some (.int l4)], [.int l4, .ref 6, .int (jn 1), .int l3])) (q2 := (37, [some (.ref 6), u1, some (.int l2), some (.int l3), some (.int l4)], [.int (jn 1), .int l3])) (M := M2) (o := (pcl GG lay d 231 [.ref 6, .int l4] M2)) (hf := rfl) rfl rfl).trans ?_
      refine kI_in (fun r3 M3 => ?_)
      refine (evn_adv 7 (q' := (11, [some (.ref 6), u1, some (.int l2), some (.int (l3 ||| ((jn 1) <<< ((r3 - (jn 117)) &&& 31)))), some (.int (l4 + (jn 1)))], [], M3)) rfl).trans ?_
      rfl
  · refine (evn_adv 1 (q' := (50, [some (.ref 6), u1, some (.int l2), some (.int l3), some (.int l4)], [.int l3], M)) rfl).trans ?_
    exact evn_end 1 rfl
/-- TermStrategies$Signs.append(II)I -/
noncomputable abbrev E_237 (d : Nat) : PQ → PO := evn (rnn k_237 lay none (pcl GG lay d) 1)
theorem q_237 (d : Nat) (l1 : Int32) (l2 : Int32) (M : PM) : pcl GG lay (d + 1) 237 [.ref 6, .int l1, .int l2] M = (kI (pcl GG lay d 233 [.ref 6, .int l1] M) fun r1 M1 => (kI (pcl GG lay d 238 [.ref 6, .int l1, .int r1, .int l2] M1) fun r2 M2 => (rI r2 M2))) := by
  refine (pcl_un (mt := t_237) (by decide) rfl (Nat.le_of_ble_eq_true rfl)).trans ?_
  show E_237 d (0, [some (.ref 6), some (.int l1), some (.int l2)], [], M) = _
  refine (evn_adv 4 (q' := (4, [some (.ref 6), some (.int l1), some (.int l2)], [.int l1, .ref 6, .int l1, .ref 6], M)) rfl).trans ?_
  refine (e_kI (q := (4, [some (.ref 6), some (.int l1), some (.int l2)], [.int l1, .ref 6, .int l1, .ref 6])) (q2 := (7, [some (.ref 6), some (.int l1), some (.int l2)], [.int l1, .ref 6])) (M := M) (o := (pcl GG lay d 233 [.ref 6, .int l1] M)) (hf := rfl) rfl rfl).trans ?_
  refine kI_in (fun r1 M1 => ?_)
  refine (evn_adv 1 (q' := (8, [some (.ref 6), some (.int l1), some (.int l2)], [.int l2, .int r1, .int l1, .ref 6], M1)) rfl).trans ?_
  refine (e_kI (q := (8, [some (.ref 6), some (.int l1), some (.int l2)], [.int l2, .int r1, .int l1, .ref 6])) (q2 := (11, [some (.ref 6), some (.int l1), some (.int l2)], [])) (M := M1) (o := (pcl GG lay d 238 [.ref 6, .int l1, .int r1, .int l2] M1)) (hf := rfl) rfl rfl).trans ?_
  refine kI_in (fun r2 M2 => ?_)
  exact evn_end 1 rfl
/-- TermStrategies$Signs.appendCells(III)I -/
noncomputable abbrev E_238 (d : Nat) : PQ → PO := evn (rnn k_238 lay none (pcl GG lay d) 1)
theorem q_238 (d : Nat) (l1 : Int32) (l2 : Int32) (l3 : Int32) (M : PM) : pcl GG lay (d + 1) 238 [.ref 6, .int l1, .int l2, .int l3] M = E_238 d (3, [some (.ref 6), some (.int l1), some (.int l2), some (.int l3), some (.int l1)], [], M) := by
  refine (pcl_un (mt := t_238) (by decide) rfl (Nat.le_of_ble_eq_true rfl)).trans ?_
  show E_238 d (0, [some (.ref 6), some (.int l1), some (.int l2), some (.int l3), none], [], M) = _
  refine (evn_adv 2 (q' := (3, [some (.ref 6), some (.int l1), some (.int l2), some (.int l3), some (.int l1)], [], M)) rfl).trans ?_
  rfl
theorem h_238_3 (d : Nat) (l1 : Int32) (l2 : Int32) (l3 : Int32) (l4 : Int32) (M : PM) : E_238 d (3, [some (.ref 6), some (.int l1), some (.int l2), some (.int l3), some (.int l4)], [], M) = (if l4 < l2 then (kI (pcl GG lay d 231 [.ref 6, .int l4] M) fun r1 M1 => (kV (pcl GG lay d 232 [.ref 6, .int ((l3 + l4) - l1), .int r1] M1) fun M2 => E_238 d (3, [some (.ref 6), some (.int l1), some (.int l2), some (.int l3), some (.int (l4 + (jn 1)))], [], M2))) else (rI ((l3 + l2) - l1) M)) := by
  refine (evn_adv 2 (q' := (6, [some (.ref 6), some (.int l1), some (.int l2), some (.int l3), some (.int l4)], [.int l2, .int l4], M)) rfl).trans ?_
  refine (e_ic_ge (hf := rfl)).trans ?_
  refine ite_in ?_ ?_
  · refine (evn_adv 8 (q' := (19, [some (.ref 6), some (.int l1), some (.int l2), some (.int l3), some (.int l4)], [.int l4, .ref 6, .int ((l3 + l4) - l1), .ref 6], M)) rfl).trans ?_
    refine (e_kI (q := (19, [some (.ref 6), some (.int l1), some (.int l2), some (.int l3), some (.int l4)], [.int l4, .ref 6, .int ((l3 + l4) - l1), .ref 6])) (q2 := (22, [some (.ref 6), some (.int l1), some (.int l2), some (.int l3), some (.int l4)], [.int ((l3 + l4) - l1), .ref 6])) (M := M) (o := (pcl GG lay d 231 [.ref 6, .int l4] M)) (hf := rfl) rfl rfl).trans ?_
    refine kI_in (fun r1 M1 => ?_)
    refine (e_kV (q := (22, [some (.ref 6), some (.int l1), some (.int l2), some (.int l3), some (.int l4)], [.int r1, .int ((l3 + l4) - l1), .ref 6])) (q2 := (25, [some (.ref 6), some (.int l1), some (.int l2), some (.int l3), some (.int l4)], [])) (M := M1) (o := (pcl GG lay d 232 [.ref 6, .int ((l3 + l4) - l1), .int r1] M1)) (hf := rfl) rfl rfl).trans ?_
    refine kV_in (fun M2 => ?_)
    refine (evn_adv 2 (q' := (3, [some (.ref 6), some (.int l1), some (.int l2), some (.int l3), some (.int (l4 + (jn 1)))], [], M2)) rfl).trans ?_
    rfl
  · refine (evn_adv 5 (q' := (36, [some (.ref 6), some (.int l1), some (.int l2), some (.int l3), some (.int l4)], [.int ((l3 + l2) - l1)], M)) rfl).trans ?_
    exact evn_end 1 rfl
/-- TermStrategies$Signs.takeFrom(LTermStrategies$Signs;I)V -/
noncomputable abbrev E_239 (d : Nat) : PQ → PO := evn (rnn k_239 lay none (pcl GG lay d) 0)
theorem q_239 (d : Nat) (l2 : Int32) (M : PM) : pcl GG lay (d + 1) 239 [.ref 6, .ref 13, .int l2] M = (kI (pcl GG lay d 2 [.int (jn 3760), .int (jn 1920)] M) fun r1 M1 => (kI (pcl GG lay d 2 [.int l2, .int r1] M1) fun r2 M2 => E_239 d (21, [some (.ref 6), some (.ref 13), some (.int l2), some (.int r2), some (.int (jn 0))], [], M2))) := by
  refine (pcl_un (mt := t_239) (by decide) rfl (Nat.le_of_ble_eq_true rfl)).trans ?_
  show E_239 d (0, [some (.ref 6), some (.ref 13), some (.int l2), none, none], [], M) = _
  refine (evn_adv 7 (q' := (11, [some (.ref 6), some (.ref 13), some (.int l2), none, none], [.int (jn 1920), .int (jn 3760), .int l2], M)) rfl).trans ?_
  refine (e_kI (q := (11, [some (.ref 6), some (.ref 13), some (.int l2), none, none], [.int (jn 1920), .int (jn 3760), .int l2])) (q2 := (14, [some (.ref 6), some (.ref 13), some (.int l2), none, none], [.int l2])) (M := M) (o := (pcl GG lay d 2 [.int (jn 3760), .int (jn 1920)] M)) (hf := rfl) rfl rfl).trans ?_
  refine kI_in (fun r1 M1 => ?_)
  refine (e_kI (q := (14, [some (.ref 6), some (.ref 13), some (.int l2), none, none], [.int r1, .int l2])) (q2 := (17, [some (.ref 6), some (.ref 13), some (.int l2), none, none], [])) (M := M1) (o := (pcl GG lay d 2 [.int l2, .int r1] M1)) (hf := rfl) rfl rfl).trans ?_
  refine kI_in (fun r2 M2 => ?_)
  refine (evn_adv 3 (q' := (21, [some (.ref 6), some (.ref 13), some (.int l2), some (.int r2), some (.int (jn 0))], [], M2)) rfl).trans ?_
  rfl
theorem h_239_21 (d : Nat) (u2 : Option Value) (l3 : Int32) (l4 : Int32) (M : PM) : E_239 d (21, [some (.ref 6), some (.ref 13), u2, some (.int l3), some (.int l4)], [], M) = (if l4 < l3 then (oB (aldI lay none M 14 l4) fun v1 => (oB (astI lay M 7 l4 v1) fun M2 => E_239 d (21, [some (.ref 6), some (.ref 13), u2, some (.int l3), some (.int (l4 + (jn 1)))], [], M2))) else (rV M)) := by
  refine (evn_adv 2 (q' := (24, [some (.ref 6), some (.ref 13), u2, some (.int l3), some (.int l4)], [.int l3, .int l4], M)) rfl).trans ?_
  refine (e_ic_ge (hf := rfl)).trans ?_
  refine ite_in ?_ ?_
  · refine (evn_adv 6 (q' := (39, [some (.ref 6), some (.ref 13), u2, some (.int l3), some (.int l4)], [.int l4, .ref 14, .int l4, .ref 7], M)) rfl).trans ?_
    refine (e_oB (q := (39, [some (.ref 6), some (.ref 13), u2, some (.int l3), some (.int l4)], [.int l4, .ref 14, .int l4, .ref 7], M)) (o := (aldI lay none M 14 l4)) (f := fun v1 => (40, [some (.ref 6), some (.ref 13), u2, some (.int l3), some (.int l4)], [.int v1, .int l4, .ref 7], M)) (hf := rfl) rfl).trans ?_
    refine oB_in (fun v1 => ?_)
    refine (e_oB (q := (40, [some (.ref 6), some (.ref 13), u2, some (.int l3), some (.int l4)], [.int v1, .int l4, .ref 7], M)) (o := (astI lay M 7 l4 v1)) (f := fun M2 => (41, [some (.ref 6), some (.ref 13), u2, some (.int l3), some (.int l4)], [], M2)) (hf := rfl) rfl).trans ?_
    refine oB_in (fun M2 => ?_)
    refine (evn_adv 2 (q' := (21, [some (.ref 6), some (.ref 13), u2, some (.int l3), some (.int (l4 + (jn 1)))], [], M2)) rfl).trans ?_
    rfl
  · exact evn_end 1 rfl
/-- TermStrategies$Signs.takeFrom(LTermStrategies$Signs;I)V -/
theorem q_239b (d : Nat) (l2 : Int32) (M : PM) : pcl GG lay (d + 1) 239 [.ref 13, .ref 6, .int l2] M = (kI (pcl GG lay d 2 [.int (jn 1920), .int (jn 3760)] M) fun r1 M1 => (kI (pcl GG lay d 2 [.int l2, .int r1] M1) fun r2 M2 => E_239 d (21, [some (.ref 13), some (.ref 6), some (.int l2), some (.int r2), some (.int (jn 0))], [], M2))) := by
  refine (pcl_un (mt := t_239) (by decide) rfl (Nat.le_of_ble_eq_true rfl)).trans ?_
  show E_239 d (0, [some (.ref 13), some (.ref 6), some (.int l2), none, none], [], M) = _
  refine (evn_adv 7 (q' := (11, [some (.ref 13), some (.ref 6), some (.int l2), none, none], [.int (jn 3760), .int (jn 1920), .int l2], M)) rfl).trans ?_
  refine (e_kI (q := (11, [some (.ref 13), some (.ref 6), some (.int l2), none, none], [.int (jn 3760), .int (jn 1920), .int l2])) (q2 := (14, [some (.ref 13), some (.ref 6), some (.int l2), none, none], [.int l2])) (M := M) (o := (pcl GG lay d 2 [.int (jn 1920), .int (jn 3760)] M)) (hf := rfl) rfl rfl).trans ?_
  refine kI_in (fun r1 M1 => ?_)
  refine (e_kI (q := (14, [some (.ref 13), some (.ref 6), some (.int l2), none, none], [.int r1, .int l2])) (q2 := (17, [some (.ref 13), some (.ref 6), some (.int l2), none, none], [])) (M := M1) (o := (pcl GG lay d 2 [.int l2, .int r1] M1)) (hf := rfl) rfl rfl).trans ?_
  refine kI_in (fun r2 M2 => ?_)
  refine (evn_adv 3 (q' := (21, [some (.ref 13), some (.ref 6), some (.int l2), some (.int r2), some (.int (jn 0))], [], M2)) rfl).trans ?_
  rfl
theorem h_239b_21 (d : Nat) (u2 : Option Value) (l3 : Int32) (l4 : Int32) (M : PM) : E_239 d (21, [some (.ref 13), some (.ref 6), u2, some (.int l3), some (.int l4)], [], M) = (if l4 < l3 then (oB (aldI lay none M 7 l4) fun v1 => (oB (astI lay M 14 l4 v1) fun M2 => E_239 d (21, [some (.ref 13), some (.ref 6), u2, some (.int l3), some (.int (l4 + (jn 1)))], [], M2))) else (rV M)) := by
  refine (evn_adv 2 (q' := (24, [some (.ref 13), some (.ref 6), u2, some (.int l3), some (.int l4)], [.int l3, .int l4], M)) rfl).trans ?_
  refine (e_ic_ge (hf := rfl)).trans ?_
  refine ite_in ?_ ?_
  · refine (evn_adv 6 (q' := (39, [some (.ref 13), some (.ref 6), u2, some (.int l3), some (.int l4)], [.int l4, .ref 7, .int l4, .ref 14], M)) rfl).trans ?_
    refine (e_oB (q := (39, [some (.ref 13), some (.ref 6), u2, some (.int l3), some (.int l4)], [.int l4, .ref 7, .int l4, .ref 14], M)) (o := (aldI lay none M 7 l4)) (f := fun v1 => (40, [some (.ref 13), some (.ref 6), u2, some (.int l3), some (.int l4)], [.int v1, .int l4, .ref 14], M)) (hf := rfl) rfl).trans ?_
    refine oB_in (fun v1 => ?_)
    refine (e_oB (q := (40, [some (.ref 13), some (.ref 6), u2, some (.int l3), some (.int l4)], [.int v1, .int l4, .ref 14], M)) (o := (astI lay M 14 l4 v1)) (f := fun M2 => (41, [some (.ref 13), some (.ref 6), u2, some (.int l3), some (.int l4)], [], M2)) (hf := rfl) rfl).trans ?_
    refine oB_in (fun M2 => ?_)
    refine (evn_adv 2 (q' := (21, [some (.ref 13), some (.ref 6), u2, some (.int l3), some (.int (l4 + (jn 1)))], [], M2)) rfl).trans ?_
    rfl
  · exact evn_end 1 rfl
/-- TermStrategies$State.hasTerm(I)Z -/
noncomputable abbrev E_240 (d : Nat) : PQ → PO := evn (rnn k_240 lay none (pcl GG lay d) 2)
theorem q_240 (d : Nat) (l1 : Int32) (M : PM) : pcl GG lay (d + 1) 240 [.ref 1, .int l1] M = (if l1 < jn 0 then (rZ (jn 0) M) else (if l1 < (M.1 1 5) then (rZ (jn 1) M) else (rZ (jn 0) M))) := by
  refine (pcl_un (mt := t_240) (by decide) rfl (Nat.le_of_ble_eq_true rfl)).trans ?_
  show E_240 d (0, [some (.ref 1), some (.int l1)], [], M) = _
  refine (evn_adv 1 (q' := (1, [some (.ref 1), some (.int l1)], [.int l1], M)) rfl).trans ?_
  refine (e_if_lt (hf := rfl)).trans ?_
  refine ite_in ?_ ?_
  · refine (evn_adv 1 (q' := (17, [some (.ref 1), some (.int l1)], [.int (jn 0)], M)) rfl).trans ?_
    exact e_iretz (hf := rfl)
  · refine (evn_adv 3 (q' := (9, [some (.ref 1), some (.int l1)], [.int (M.1 1 5), .int l1], M)) rfl).trans ?_
    refine (e_ic_ge (hf := rfl)).trans ?_
    refine ite_in ?_ ?_
    · refine (evn_adv 2 (q' := (17, [some (.ref 1), some (.int l1)], [.int (jn 1)], M)) rfl).trans ?_
      exact e_iretz (hf := rfl)
    · refine (evn_adv 1 (q' := (17, [some (.ref 1), some (.int l1)], [.int (jn 0)], M)) rfl).trans ?_
      exact e_iretz (hf := rfl)
/-- TermStrategies$State.hasRule(I)Z -/
noncomputable abbrev E_241 (d : Nat) : PQ → PO := evn (rnn k_241 lay none (pcl GG lay d) 2)
theorem q_241 (d : Nat) (l1 : Int32) (M : PM) : pcl GG lay (d + 1) 241 [.ref 1, .int l1] M = (if l1 < jn 0 then (rZ (jn 0) M) else (if l1 < (M.1 1 6) then (rZ (jn 1) M) else (rZ (jn 0) M))) := by
  refine (pcl_un (mt := t_241) (by decide) rfl (Nat.le_of_ble_eq_true rfl)).trans ?_
  show E_241 d (0, [some (.ref 1), some (.int l1)], [], M) = _
  refine (evn_adv 1 (q' := (1, [some (.ref 1), some (.int l1)], [.int l1], M)) rfl).trans ?_
  refine (e_if_lt (hf := rfl)).trans ?_
  refine ite_in ?_ ?_
  · refine (evn_adv 1 (q' := (17, [some (.ref 1), some (.int l1)], [.int (jn 0)], M)) rfl).trans ?_
    exact e_iretz (hf := rfl)
  · refine (evn_adv 3 (q' := (9, [some (.ref 1), some (.int l1)], [.int (M.1 1 6), .int l1], M)) rfl).trans ?_
    refine (e_ic_ge (hf := rfl)).trans ?_
    refine ite_in ?_ ?_
    · refine (evn_adv 2 (q' := (17, [some (.ref 1), some (.int l1)], [.int (jn 1)], M)) rfl).trans ?_
      exact e_iretz (hf := rfl)
    · refine (evn_adv 1 (q' := (17, [some (.ref 1), some (.int l1)], [.int (jn 0)], M)) rfl).trans ?_
      exact e_iretz (hf := rfl)
/-- TermStrategies$State.hasStrategy(I)Z -/
noncomputable abbrev E_242 (d : Nat) : PQ → PO := evn (rnn k_242 lay none (pcl GG lay d) 2)
theorem q_242 (d : Nat) (l1 : Int32) (M : PM) : pcl GG lay (d + 1) 242 [.ref 1, .int l1] M = (if l1 < jn 0 then (rZ (jn 0) M) else (if l1 < (M.1 1 7) then (rZ (jn 1) M) else (rZ (jn 0) M))) := by
  refine (pcl_un (mt := t_242) (by decide) rfl (Nat.le_of_ble_eq_true rfl)).trans ?_
  show E_242 d (0, [some (.ref 1), some (.int l1)], [], M) = _
  refine (evn_adv 1 (q' := (1, [some (.ref 1), some (.int l1)], [.int l1], M)) rfl).trans ?_
  refine (e_if_lt (hf := rfl)).trans ?_
  refine ite_in ?_ ?_
  · refine (evn_adv 1 (q' := (17, [some (.ref 1), some (.int l1)], [.int (jn 0)], M)) rfl).trans ?_
    exact e_iretz (hf := rfl)
  · refine (evn_adv 3 (q' := (9, [some (.ref 1), some (.int l1)], [.int (M.1 1 7), .int l1], M)) rfl).trans ?_
    refine (e_ic_ge (hf := rfl)).trans ?_
    refine ite_in ?_ ?_
    · refine (evn_adv 2 (q' := (17, [some (.ref 1), some (.int l1)], [.int (jn 1)], M)) rfl).trans ?_
      exact e_iretz (hf := rfl)
    · refine (evn_adv 1 (q' := (17, [some (.ref 1), some (.int l1)], [.int (jn 0)], M)) rfl).trans ?_
      exact e_iretz (hf := rfl)
/-- TermStrategies$State.addTerm(I)I -/
noncomputable abbrev E_243 (d : Nat) : PQ → PO := evn (rnn k_243 lay none (pcl GG lay d) 1)
theorem q_243 (d : Nat) (l1 : Int32) (M : PM) : pcl GG lay (d + 1) 243 [.ref 1, .int l1] M = (kI (pcl GG lay d 59 [.int (M.1 1 5)] M) fun r1 M1 => (kI (pcl GG lay d 237 [.ref 6, .int l1, .int r1] M1) fun r2 M2 => (wr (sI M2 1 (va_up (M2.1 1) 5 ((M2.1 1 5) + (jn 1)))) fun M3 => (rI ((M3.1 1 5) - (jn 1)) M3)))) := by
  refine (pcl_un (mt := t_243) (by decide) rfl (Nat.le_of_ble_eq_true rfl)).trans ?_
  show E_243 d (0, [some (.ref 1), some (.int l1)], [], M) = _
  refine (evn_adv 5 (q' := (9, [some (.ref 1), some (.int l1)], [.int (M.1 1 5), .int l1, .ref 6], M)) rfl).trans ?_
  refine (e_kI (q := (9, [some (.ref 1), some (.int l1)], [.int (M.1 1 5), .int l1, .ref 6])) (q2 := (12, [some (.ref 1), some (.int l1)], [.int l1, .ref 6])) (M := M) (o := (pcl GG lay d 59 [.int (M.1 1 5)] M)) (hf := rfl) rfl rfl).trans ?_
  refine kI_in (fun r1 M1 => ?_)
  refine (e_kI (q := (12, [some (.ref 1), some (.int l1)], [.int r1, .int l1, .ref 6])) (q2 := (15, [some (.ref 1), some (.int l1)], [])) (M := M1) (o := (pcl GG lay d 237 [.ref 6, .int l1, .int r1] M1)) (hf := rfl) rfl rfl).trans ?_
  refine kI_in (fun r2 M2 => ?_)
  refine (evn_adv 6 (q' := (23, [some (.ref 1), some (.int l1)], [.int ((M2.1 1 5) + (jn 1)), .ref 1], M2)) rfl).trans ?_
  refine (evn_adv 1 (q' := (26, [some (.ref 1), some (.int l1)], [], (sI M2 1 (va_up (M2.1 1) 5 ((M2.1 1 5) + (jn 1)))))) rfl).trans ?_
  refine wr_in (f := fun M3 => E_243 d (26, [some (.ref 1), some (.int l1)], [], M3)) (fun M3 => ?_)
  refine (evn_adv 4 (q' := (32, [some (.ref 1), some (.int l1)], [.int ((M3.1 1 5) - (jn 1))], M3)) rfl).trans ?_
  exact evn_end 1 rfl
/-- TermStrategies$State.addRule(II)I -/
noncomputable abbrev E_244 (d : Nat) : PQ → PO := evn (rnn k_244 lay none (pcl GG lay d) 1)
theorem q_244 (d : Nat) (l1 : Int32) (l2 : Int32) (M : PM) : pcl GG lay (d + 1) 244 [.ref 1, .int l1, .int l2] M = (kI (pcl GG lay d 60 [.int (M.1 1 6)] M) fun r1 M1 => (kI (pcl GG lay d 237 [.ref 6, .int l1, .int r1] M1) fun r2 M2 => (kI (pcl GG lay d 61 [.int (M2.1 1 6)] M2) fun r3 M3 => (kI (pcl GG lay d 237 [.ref 6, .int l2, .int r3] M3) fun r4 M4 => (wr (sI M4 1 (va_up (M4.1 1) 6 ((M4.1 1 6) + (jn 1)))) fun M5 => (rI ((M5.1 1 6) - (jn 1)) M5)))))) := by
  refine (pcl_un (mt := t_244) (by decide) rfl (Nat.le_of_ble_eq_true rfl)).trans ?_
  show E_244 d (0, [some (.ref 1), some (.int l1), some (.int l2)], [], M) = _
  refine (evn_adv 5 (q' := (9, [some (.ref 1), some (.int l1), some (.int l2)], [.int (M.1 1 6), .int l1, .ref 6], M)) rfl).trans ?_
  refine (e_kI (q := (9, [some (.ref 1), some (.int l1), some (.int l2)], [.int (M.1 1 6), .int l1, .ref 6])) (q2 := (12, [some (.ref 1), some (.int l1), some (.int l2)], [.int l1, .ref 6])) (M := M) (o := (pcl GG lay d 60 [.int (M.1 1 6)] M)) (hf := rfl) rfl rfl).trans ?_
  refine kI_in (fun r1 M1 => ?_)
  refine (e_kI (q := (12, [some (.ref 1), some (.int l1), some (.int l2)], [.int r1, .int l1, .ref 6])) (q2 := (15, [some (.ref 1), some (.int l1), some (.int l2)], [])) (M := M1) (o := (pcl GG lay d 237 [.ref 6, .int l1, .int r1] M1)) (hf := rfl) rfl rfl).trans ?_
  refine kI_in (fun r2 M2 => ?_)
  refine (evn_adv 6 (q' := (25, [some (.ref 1), some (.int l1), some (.int l2)], [.int (M2.1 1 6), .int l2, .ref 6], M2)) rfl).trans ?_
  refine (e_kI (q := (25, [some (.ref 1), some (.int l1), some (.int l2)], [.int (M2.1 1 6), .int l2, .ref 6])) (q2 := (28, [some (.ref 1), some (.int l1), some (.int l2)], [.int l2, .ref 6])) (M := M2) (o := (pcl GG lay d 61 [.int (M2.1 1 6)] M2)) (hf := rfl) rfl rfl).trans ?_
  refine kI_in (fun r3 M3 => ?_)
  refine (e_kI (q := (28, [some (.ref 1), some (.int l1), some (.int l2)], [.int r3, .int l2, .ref 6])) (q2 := (31, [some (.ref 1), some (.int l1), some (.int l2)], [])) (M := M3) (o := (pcl GG lay d 237 [.ref 6, .int l2, .int r3] M3)) (hf := rfl) rfl rfl).trans ?_
  refine kI_in (fun r4 M4 => ?_)
  refine (evn_adv 6 (q' := (39, [some (.ref 1), some (.int l1), some (.int l2)], [.int ((M4.1 1 6) + (jn 1)), .ref 1], M4)) rfl).trans ?_
  refine (evn_adv 1 (q' := (42, [some (.ref 1), some (.int l1), some (.int l2)], [], (sI M4 1 (va_up (M4.1 1) 6 ((M4.1 1 6) + (jn 1)))))) rfl).trans ?_
  refine wr_in (f := fun M5 => E_244 d (42, [some (.ref 1), some (.int l1), some (.int l2)], [], M5)) (fun M5 => ?_)
  refine (evn_adv 4 (q' := (48, [some (.ref 1), some (.int l1), some (.int l2)], [.int ((M5.1 1 6) - (jn 1))], M5)) rfl).trans ?_
  exact evn_end 1 rfl
/-- TermStrategies$State.addStrategy(III)I -/
noncomputable abbrev E_245 (d : Nat) : PQ → PO := evn (rnn k_245 lay none (pcl GG lay d) 1)
theorem q_245 (d : Nat) (l1 : Int32) (l2 : Int32) (l3 : Int32) (M : PM) : pcl GG lay (d + 1) 245 [.ref 1, .int l1, .int l2, .int l3] M = (kV (pcl GG lay d 246 [.ref 1, .int (M.1 1 7), .int l1, .int l2, .int l3] M) fun M1 => (wr (sI M1 1 (va_up (M1.1 1) 7 ((M1.1 1 7) + (jn 1)))) fun M2 => (rI ((M2.1 1 7) - (jn 1)) M2))) := by
  refine (pcl_un (mt := t_245) (by decide) rfl (Nat.le_of_ble_eq_true rfl)).trans ?_
  show E_245 d (0, [some (.ref 1), some (.int l1), some (.int l2), some (.int l3)], [], M) = _
  refine (evn_adv 6 (q' := (8, [some (.ref 1), some (.int l1), some (.int l2), some (.int l3)], [.int l3, .int l2, .int l1, .int (M.1 1 7), .ref 1], M)) rfl).trans ?_
  refine (e_kV (q := (8, [some (.ref 1), some (.int l1), some (.int l2), some (.int l3)], [.int l3, .int l2, .int l1, .int (M.1 1 7), .ref 1])) (q2 := (11, [some (.ref 1), some (.int l1), some (.int l2), some (.int l3)], [])) (M := M) (o := (pcl GG lay d 246 [.ref 1, .int (M.1 1 7), .int l1, .int l2, .int l3] M)) (hf := rfl) rfl rfl).trans ?_
  refine kV_in (fun M1 => ?_)
  refine (evn_adv 5 (q' := (18, [some (.ref 1), some (.int l1), some (.int l2), some (.int l3)], [.int ((M1.1 1 7) + (jn 1)), .ref 1], M1)) rfl).trans ?_
  refine (evn_adv 1 (q' := (21, [some (.ref 1), some (.int l1), some (.int l2), some (.int l3)], [], (sI M1 1 (va_up (M1.1 1) 7 ((M1.1 1 7) + (jn 1)))))) rfl).trans ?_
  refine wr_in (f := fun M2 => E_245 d (21, [some (.ref 1), some (.int l1), some (.int l2), some (.int l3)], [], M2)) (fun M2 => ?_)
  refine (evn_adv 4 (q' := (27, [some (.ref 1), some (.int l1), some (.int l2), some (.int l3)], [.int ((M2.1 1 7) - (jn 1))], M2)) rfl).trans ?_
  exact evn_end 1 rfl
/-- TermStrategies$State.writeStrategy(IIII)V -/
noncomputable abbrev E_246 (d : Nat) : PQ → PO := evn (rnn k_246 lay none (pcl GG lay d) 0)
theorem q_246 (d : Nat) (l1 : Int32) (l2 : Int32) (l3 : Int32) (l4 : Int32) (M : PM) : pcl GG lay (d + 1) 246 [.ref 1, .int l1, .int l2, .int l3, .int l4] M = (if l2 = (jn 1) then E_246 d (10, [some (.ref 1), some (.int l1), some (.int l2), some (.int l3), some (.int l4), none, none, none], [], M) else (if l2 = (jn 2) then E_246 d (10, [some (.ref 1), some (.int l1), some (.int l2), some (.int l3), some (.int l4), none, none, none], [], M) else (kI (pcl GG lay d 64 [.int l2] M) fun r1 M1 => (if r1 = jn 0 then (if (jn 2) < l2 then (kI (pcl GG lay d 251 [.ref 1, .int l3] M1) fun r2 M2 => (kI (pcl GG lay d 64 [.int l2] M2) fun r3 M3 => (if r3 = jn 0 then (kV (pcl GG lay d 66 [.ref 2, .int l1, .int l2] M3) fun M4 => (kV (pcl GG lay d 66 [.ref 3, .int l1, .int l3] M4) fun M5 => (kV (pcl GG lay d 66 [.ref 4, .int l1, .int (jz 1)] M5) fun M6 => (kI (pcl GG lay d 2 [.int (((jn 1) + r2) + (jn 0)), .int (jn 1000)] M6) fun r7 M7 => (kV (pcl GG lay d 66 [.ref 5, .int l1, .int r7] M7) fun M8 => (rV M8)))))) else (kI (pcl GG lay d 251 [.ref 1, .int (jz 1)] M3) fun r4 M4 => (kV (pcl GG lay d 66 [.ref 2, .int l1, .int l2] M4) fun M5 => (kV (pcl GG lay d 66 [.ref 3, .int l1, .int l3] M5) fun M6 => (kV (pcl GG lay d 66 [.ref 4, .int l1, .int (jz 1)] M6) fun M7 => (kI (pcl GG lay d 2 [.int (((jn 1) + r2) + r4), .int (jn 1000)] M7) fun r8 M8 => (kV (pcl GG lay d 66 [.ref 5, .int l1, .int r8] M8) fun M9 => (rV M9)))))))))) else (kI (pcl GG lay d 64 [.int l2] M1) fun r2 M2 => (if r2 = jn 0 then (kV (pcl GG lay d 66 [.ref 2, .int l1, .int l2] M2) fun M3 => (kV (pcl GG lay d 66 [.ref 3, .int l1, .int l3] M3) fun M4 => (kV (pcl GG lay d 66 [.ref 4, .int l1, .int (jz 1)] M4) fun M5 => (kI (pcl GG lay d 2 [.int (((jn 1) + (jn 0)) + (jn 0)), .int (jn 1000)] M5) fun r6 M6 => (kV (pcl GG lay d 66 [.ref 5, .int l1, .int r6] M6) fun M7 => (rV M7)))))) else (kI (pcl GG lay d 251 [.ref 1, .int (jz 1)] M2) fun r3 M3 => (kV (pcl GG lay d 66 [.ref 2, .int l1, .int l2] M3) fun M4 => (kV (pcl GG lay d 66 [.ref 3, .int l1, .int l3] M4) fun M5 => (kV (pcl GG lay d 66 [.ref 4, .int l1, .int (jz 1)] M5) fun M6 => (kI (pcl GG lay d 2 [.int (((jn 1) + (jn 0)) + r3), .int (jn 1000)] M6) fun r7 M7 => (kV (pcl GG lay d 66 [.ref 5, .int l1, .int r7] M7) fun M8 => (rV M8)))))))))) else (if (jn 2) < l2 then (kI (pcl GG lay d 251 [.ref 1, .int l3] M1) fun r2 M2 => (kI (pcl GG lay d 64 [.int l2] M2) fun r3 M3 => (if r3 = jn 0 then (kV (pcl GG lay d 66 [.ref 2, .int l1, .int l2] M3) fun M4 => (kV (pcl GG lay d 66 [.ref 3, .int l1, .int l3] M4) fun M5 => (kV (pcl GG lay d 66 [.ref 4, .int l1, .int l4] M5) fun M6 => (kI (pcl GG lay d 2 [.int (((jn 1) + r2) + (jn 0)), .int (jn 1000)] M6) fun r7 M7 => (kV (pcl GG lay d 66 [.ref 5, .int l1, .int r7] M7) fun M8 => (rV M8)))))) else (kI (pcl GG lay d 251 [.ref 1, .int l4] M3) fun r4 M4 => (kV (pcl GG lay d 66 [.ref 2, .int l1, .int l2] M4) fun M5 => (kV (pcl GG lay d 66 [.ref 3, .int l1, .int l3] M5) fun M6 => (kV (pcl GG lay d 66 [.ref 4, .int l1, .int l4] M6) fun M7 => (kI (pcl GG lay d 2 [.int (((jn 1) + r2) + r4), .int (jn 1000)] M7) fun r8 M8 => (kV (pcl GG lay d 66 [.ref 5, .int l1, .int r8] M8) fun M9 => (rV M9)))))))))) else (kI (pcl GG lay d 64 [.int l2] M1) fun r2 M2 => (if r2 = jn 0 then (kV (pcl GG lay d 66 [.ref 2, .int l1, .int l2] M2) fun M3 => (kV (pcl GG lay d 66 [.ref 3, .int l1, .int l3] M3) fun M4 => (kV (pcl GG lay d 66 [.ref 4, .int l1, .int l4] M4) fun M5 => (kI (pcl GG lay d 2 [.int (((jn 1) + (jn 0)) + (jn 0)), .int (jn 1000)] M5) fun r6 M6 => (kV (pcl GG lay d 66 [.ref 5, .int l1, .int r6] M6) fun M7 => (rV M7)))))) else (kI (pcl GG lay d 251 [.ref 1, .int l4] M2) fun r3 M3 => (kV (pcl GG lay d 66 [.ref 2, .int l1, .int l2] M3) fun M4 => (kV (pcl GG lay d 66 [.ref 3, .int l1, .int l3] M4) fun M5 => (kV (pcl GG lay d 66 [.ref 4, .int l1, .int l4] M5) fun M6 => (kI (pcl GG lay d 2 [.int (((jn 1) + (jn 0)) + r3), .int (jn 1000)] M6) fun r7 M7 => (kV (pcl GG lay d 66 [.ref 5, .int l1, .int r7] M7) fun M8 => (rV M8)))))))))))))) := by
  refine (pcl_un (mt := t_246) (by decide) rfl (Nat.le_of_ble_eq_true rfl)).trans ?_
  show E_246 d (0, [some (.ref 1), some (.int l1), some (.int l2), some (.int l3), some (.int l4), none, none, none], [], M) = _
  refine (evn_adv 2 (q' := (2, [some (.ref 1), some (.int l1), some (.int l2), some (.int l3), some (.int l4), none, none, none], [.int (jn 1), .int l2], M)) rfl).trans ?_
  refine (e_ic_eq (hf := rfl)).trans ?_
  refine ite_in ?_ ?_
  · rfl
  · refine (evn_adv 2 (q' := (7, [some (.ref 1), some (.int l1), some (.int l2), some (.int l3), some (.int l4), none, none, none], [.int (jn 2), .int l2], M)) rfl).trans ?_
    refine (e_ic_ne (hf := rfl)).trans ?_
    refine ite_in ?_ ?_
    · rfl
    · refine (evn_adv 3 (q' := (18, [some (.ref 1), some (.int l1), some (.int l2), some (.int l3), some (.int l4), some (.int l3), none, none], [.int l2], M)) rfl).trans ?_
      refine (e_kI (q := (18, [some (.ref 1), some (.int l1), some (.int l2), some (.int l3), some (.int l4), some (.int l3), none, none], [.int l2])) (q2 := (21, [some (.ref 1), some (.int l1), some (.int l2), some (.int l3), some (.int l4), some (.int l3), none, none], [])) (M := M) (o := (pcl GG lay d 64 [.int l2] M)) (hf := rfl) rfl rfl).trans ?_
      refine kI_in (fun r1 M1 => ?_)
      refine (e_if_eq (hf := rfl)).trans ?_
      refine ite_in ?_ ?_
      · refine (evn_adv 5 (q' := (35, [some (.ref 1), some (.int l1), some (.int l2), some (.int l3), some (.int l4), some (.int l3), some (.int (jz 1)), none], [.int (jn 2), .int l2, .int (jn 1)], M1)) rfl).trans ?_
        refine (e_ic_le (hf := rfl)).trans ?_
        refine ite_in ?_ ?_
        · refine (evn_adv 2 (q' := (41, [some (.ref 1), some (.int l1), some (.int l2), some (.int l3), some (.int l4), some (.int l3), some (.int (jz 1)), none], [.int l3, .ref 1, .int (jn 1)], M1)) rfl).trans ?_
          refine (e_kI (q := (41, [some (.ref 1), some (.int l1), some (.int l2), some (.int l3), some (.int l4), some (.int l3), some (.int (jz 1)), none], [.int l3, .ref 1, .int (jn 1)])) (q2 := (44, [some (.ref 1), some (.int l1), some (.int l2), some (.int l3), some (.int l4), some (.int l3), some (.int (jz 1)), none], [.int (jn 1)])) (M := M1) (o := (pcl GG lay d 251 [.ref 1, .int l3] M1)) (hf := rfl) rfl rfl).trans ?_
          refine kI_in (fun r2 M2 => ?_)
          refine (evn_adv 3 (q' := (50, [some (.ref 1), some (.int l1), some (.int l2), some (.int l3), some (.int l4), some (.int l3), some (.int (jz 1)), none], [.int l2, .int ((jn 1) + r2)], M2)) rfl).trans ?_
          refine (e_kI (q := (50, [some (.ref 1), some (.int l1), some (.int l2), some (.int l3), some (.int l4), some (.int l3), some (.int (jz 1)), none], [.int l2, .int ((jn 1) + r2)])) (q2 := (53, [some (.ref 1), some (.int l1), some (.int l2), some (.int l3), some (.int l4), some (.int l3), some (.int (jz 1)), none], [.int ((jn 1) + r2)])) (M := M2) (o := (pcl GG lay d 64 [.int l2] M2)) (hf := rfl) rfl rfl).trans ?_
          refine kI_in (fun r3 M3 => ?_)
          refine (e_if_eq (hf := rfl)).trans ?_
          refine ite_in ?_ ?_
          · refine (evn_adv 7 (q' := (75, [some (.ref 1), some (.int l1), some (.int l2), some (.int l3), some (.int l4), some (.int l3), some (.int (jz 1)), some (.int (((jn 1) + r2) + (jn 0)))], [.int l2, .int l1, .ref 2], M3)) rfl).trans ?_
            refine (e_kV (q := (75, [some (.ref 1), some (.int l1), some (.int l2), some (.int l3), some (.int l4), some (.int l3), some (.int (jz 1)), some (.int (((jn 1) + r2) + (jn 0)))], [.int l2, .int l1, .ref 2])) (q2 := (78, [some (.ref 1), some (.int l1), some (.int l2), some (.int l3), some (.int l4), some (.int l3), some (.int (jz 1)), some (.int (((jn 1) + r2) + (jn 0)))], [])) (M := M3) (o := (pcl GG lay d 66 [.ref 2, .int l1, .int l2] M3)) (hf := rfl) rfl rfl).trans ?_
            refine kV_in (fun M4 => ?_)
            refine (evn_adv 4 (q' := (85, [some (.ref 1), some (.int l1), some (.int l2), some (.int l3), some (.int l4), some (.int l3), some (.int (jz 1)), some (.int (((jn 1) + r2) + (jn 0)))], [.int l3, .int l1, .ref 3], M4)) rfl).trans ?_
            refine (e_kV (q := (85, [some (.ref 1), some (.int l1), some (.int l2), some (.int l3), some (.int l4), some (.int l3), some (.int (jz 1)), some (.int (((jn 1) + r2) + (jn 0)))], [.int l3, .int l1, .ref 3])) (q2 := (88, [some (.ref 1), some (.int l1), some (.int l2), some (.int l3), some (.int l4), some (.int l3), some (.int (jz 1)), some (.int (((jn 1) + r2) + (jn 0)))], [])) (M := M4) (o := (pcl GG lay d 66 [.ref 3, .int l1, .int l3] M4)) (hf := rfl) rfl rfl).trans ?_
            refine kV_in (fun M5 => ?_)
            refine (evn_adv 4 (q' := (95, [some (.ref 1), some (.int l1), some (.int l2), some (.int l3), some (.int l4), some (.int l3), some (.int (jz 1)), some (.int (((jn 1) + r2) + (jn 0)))], [.int (jz 1), .int l1, .ref 4], M5)) rfl).trans ?_
            refine (e_kV (q := (95, [some (.ref 1), some (.int l1), some (.int l2), some (.int l3), some (.int l4), some (.int l3), some (.int (jz 1)), some (.int (((jn 1) + r2) + (jn 0)))], [.int (jz 1), .int l1, .ref 4])) (q2 := (98, [some (.ref 1), some (.int l1), some (.int l2), some (.int l3), some (.int l4), some (.int l3), some (.int (jz 1)), some (.int (((jn 1) + r2) + (jn 0)))], [])) (M := M5) (o := (pcl GG lay d 66 [.ref 4, .int l1, .int (jz 1)] M5)) (hf := rfl) rfl rfl).trans ?_
            refine kV_in (fun M6 => ?_)
            refine (evn_adv 5 (q' := (108, [some (.ref 1), some (.int l1), some (.int l2), some (.int l3), some (.int l4), some (.int l3), some (.int (jz 1)), some (.int (((jn 1) + r2) + (jn 0)))], [.int (jn 1000), .int (((jn 1) + r2) + (jn 0)), .int l1, .ref 5], M6)) rfl).trans ?_
            refine (e_kI (q := (108, [some (.ref 1), some (.int l1), some (.int l2), some (.int l3), some (.int l4), some (.int l3), some (.int (jz 1)), some (.int (((jn 1) + r2) + (jn 0)))], [.int (jn 1000), .int (((jn 1) + r2) + (jn 0)), .int l1, .ref 5])) (q2 := (111, [some (.ref 1), some (.int l1), some (.int l2), some (.int l3), some (.int l4), some (.int l3), some (.int (jz 1)), some (.int (((jn 1) + r2) + (jn 0)))], [.int l1, .ref 5])) (M := M6) (o := (pcl GG lay d 2 [.int (((jn 1) + r2) + (jn 0)), .int (jn 1000)] M6)) (hf := rfl) rfl rfl).trans ?_
            refine kI_in (fun r7 M7 => ?_)
            refine (e_kV (q := (111, [some (.ref 1), some (.int l1), some (.int l2), some (.int l3), some (.int l4), some (.int l3), some (.int (jz 1)), some (.int (((jn 1) + r2) + (jn 0)))], [.int r7, .int l1, .ref 5])) (q2 := (114, [some (.ref 1), some (.int l1), some (.int l2), some (.int l3), some (.int l4), some (.int l3), some (.int (jz 1)), some (.int (((jn 1) + r2) + (jn 0)))], [])) (M := M7) (o := (pcl GG lay d 66 [.ref 5, .int l1, .int r7] M7)) (hf := rfl) rfl rfl).trans ?_
            refine kV_in (fun M8 => ?_)
            exact evn_end 1 rfl
          · refine (evn_adv 2 (q' := (59, [some (.ref 1), some (.int l1), some (.int l2), some (.int l3), some (.int l4), some (.int l3), some (.int (jz 1)), none], [.int (jz 1), .ref 1, .int ((jn 1) + r2)], M3)) rfl).trans ?_
            refine (e_kI (q := (59, [some (.ref 1), some (.int l1), some (.int l2), some (.int l3), some (.int l4), some (.int l3), some (.int (jz 1)), none], [.int (jz 1), .ref 1, .int ((jn 1) + r2)])) (q2 := (62, [some (.ref 1), some (.int l1), some (.int l2), some (.int l3), some (.int l4), some (.int l3), some (.int (jz 1)), none], [.int ((jn 1) + r2)])) (M := M3) (o := (pcl GG lay d 251 [.ref 1, .int (jz 1)] M3)) (hf := rfl) rfl rfl).trans ?_
            refine kI_in (fun r4 M4 => ?_)
            refine (evn_adv 7 (q' := (75, [some (.ref 1), some (.int l1), some (.int l2), some (.int l3), some (.int l4), some (.int l3), some (.int (jz 1)), some (.int (((jn 1) + r2) + r4))], [.int l2, .int l1, .ref 2], M4)) rfl).trans ?_
            refine (e_kV (q := (75, [some (.ref 1), some (.int l1), some (.int l2), some (.int l3), some (.int l4), some (.int l3), some (.int (jz 1)), some (.int (((jn 1) + r2) + r4))], [.int l2, .int l1, .ref 2])) (q2 := (78, [some (.ref 1), some (.int l1), some (.int l2), some (.int l3), some (.int l4), some (.int l3), some (.int (jz 1)), some (.int (((jn 1) + r2) + r4))], [])) (M := M4) (o := (pcl GG lay d 66 [.ref 2, .int l1, .int l2] M4)) (hf := rfl) rfl rfl).trans ?_
            refine kV_in (fun M5 => ?_)
            refine (evn_adv 4 (q' := (85, [some (.ref 1), some (.int l1), some (.int l2), some (.int l3), some (.int l4), some (.int l3), some (.int (jz 1)), some (.int (((jn 1) + r2) + r4))], [.int l3, .int l1, .ref 3], M5)) rfl).trans ?_
            refine (e_kV (q := (85, [some (.ref 1), some (.int l1), some (.int l2), some (.int l3), some (.int l4), some (.int l3), some (.int (jz 1)), some (.int (((jn 1) + r2) + r4))], [.int l3, .int l1, .ref 3])) (q2 := (88, [some (.ref 1), some (.int l1), some (.int l2), some (.int l3), some (.int l4), some (.int l3), some (.int (jz 1)), some (.int (((jn 1) + r2) + r4))], [])) (M := M5) (o := (pcl GG lay d 66 [.ref 3, .int l1, .int l3] M5)) (hf := rfl) rfl rfl).trans ?_
            refine kV_in (fun M6 => ?_)
            refine (evn_adv 4 (q' := (95, [some (.ref 1), some (.int l1), some (.int l2), some (.int l3), some (.int l4), some (.int l3), some (.int (jz 1)), some (.int (((jn 1) + r2) + r4))], [.int (jz 1), .int l1, .ref 4], M6)) rfl).trans ?_
            refine (e_kV (q := (95, [some (.ref 1), some (.int l1), some (.int l2), some (.int l3), some (.int l4), some (.int l3), some (.int (jz 1)), some (.int (((jn 1) + r2) + r4))], [.int (jz 1), .int l1, .ref 4])) (q2 := (98, [some (.ref 1), some (.int l1), some (.int l2), some (.int l3), some (.int l4), some (.int l3), some (.int (jz 1)), some (.int (((jn 1) + r2) + r4))], [])) (M := M6) (o := (pcl GG lay d 66 [.ref 4, .int l1, .int (jz 1)] M6)) (hf := rfl) rfl rfl).trans ?_
            refine kV_in (fun M7 => ?_)
            refine (evn_adv 5 (q' := (108, [some (.ref 1), some (.int l1), some (.int l2), some (.int l3), some (.int l4), some (.int l3), some (.int (jz 1)), some (.int (((jn 1) + r2) + r4))], [.int (jn 1000), .int (((jn 1) + r2) + r4), .int l1, .ref 5], M7)) rfl).trans ?_
            refine (e_kI (q := (108, [some (.ref 1), some (.int l1), some (.int l2), some (.int l3), some (.int l4), some (.int l3), some (.int (jz 1)), some (.int (((jn 1) + r2) + r4))], [.int (jn 1000), .int (((jn 1) + r2) + r4), .int l1, .ref 5])) (q2 := (111, [some (.ref 1), some (.int l1), some (.int l2), some (.int l3), some (.int l4), some (.int l3), some (.int (jz 1)), some (.int (((jn 1) + r2) + r4))], [.int l1, .ref 5])) (M := M7) (o := (pcl GG lay d 2 [.int (((jn 1) + r2) + r4), .int (jn 1000)] M7)) (hf := rfl) rfl rfl).trans ?_
            refine kI_in (fun r8 M8 => ?_)
            refine (e_kV (q := (111, [some (.ref 1), some (.int l1), some (.int l2), some (.int l3), some (.int l4), some (.int l3), some (.int (jz 1)), some (.int (((jn 1) + r2) + r4))], [.int r8, .int l1, .ref 5])) (q2 := (114, [some (.ref 1), some (.int l1), some (.int l2), some (.int l3), some (.int l4), some (.int l3), some (.int (jz 1)), some (.int (((jn 1) + r2) + r4))], [])) (M := M8) (o := (pcl GG lay d 66 [.ref 5, .int l1, .int r8] M8)) (hf := rfl) rfl rfl).trans ?_
            refine kV_in (fun M9 => ?_)
            exact evn_end 1 rfl
        · refine (evn_adv 3 (q' := (50, [some (.ref 1), some (.int l1), some (.int l2), some (.int l3), some (.int l4), some (.int l3), some (.int (jz 1)), none], [.int l2, .int ((jn 1) + (jn 0))], M1)) rfl).trans ?_
          refine (e_kI (q := (50, [some (.ref 1), some (.int l1), some (.int l2), some (.int l3), some (.int l4), some (.int l3), some (.int (jz 1)), none], [.int l2, .int ((jn 1) + (jn 0))])) (q2 := (53, [some (.ref 1), some (.int l1), some (.int l2), some (.int l3), some (.int l4), some (.int l3), some (.int (jz 1)), none], [.int ((jn 1) + (jn 0))])) (M := M1) (o := (pcl GG lay d 64 [.int l2] M1)) (hf := rfl) rfl rfl).trans ?_
          refine kI_in (fun r2 M2 => ?_)
          refine (e_if_eq (hf := rfl)).trans ?_
          refine ite_in ?_ ?_
          · refine (evn_adv 7 (q' := (75, [some (.ref 1), some (.int l1), some (.int l2), some (.int l3), some (.int l4), some (.int l3), some (.int (jz 1)), some (.int (((jn 1) + (jn 0)) + (jn 0)))], [.int l2, .int l1, .ref 2], M2)) rfl).trans ?_
            refine (e_kV (q := (75, [some (.ref 1), some (.int l1), some (.int l2), some (.int l3), some (.int l4), some (.int l3), some (.int (jz 1)), some (.int (((jn 1) + (jn 0)) + (jn 0)))], [.int l2, .int l1, .ref 2])) (q2 := (78, [some (.ref 1), some (.int l1), some (.int l2), some (.int l3), some (.int l4), some (.int l3), some (.int (jz 1)), some (.int (((jn 1) + (jn 0)) + (jn 0)))], [])) (M := M2) (o := (pcl GG lay d 66 [.ref 2, .int l1, .int l2] M2)) (hf := rfl) rfl rfl).trans ?_
            refine kV_in (fun M3 => ?_)
            refine (evn_adv 4 (q' := (85, [some (.ref 1), some (.int l1), some (.int l2), some (.int l3), some (.int l4), some (.int l3), some (.int (jz 1)), some (.int (((jn 1) + (jn 0)) + (jn 0)))], [.int l3, .int l1, .ref 3], M3)) rfl).trans ?_
            refine (e_kV (q := (85, [some (.ref 1), some (.int l1), some (.int l2), some (.int l3), some (.int l4), some (.int l3), some (.int (jz 1)), some (.int (((jn 1) + (jn 0)) + (jn 0)))], [.int l3, .int l1, .ref 3])) (q2 := (88, [some (.ref 1), some (.int l1), some (.int l2), some (.int l3), some (.int l4), some (.int l3), some (.int (jz 1)), some (.int (((jn 1) + (jn 0)) + (jn 0)))], [])) (M := M3) (o := (pcl GG lay d 66 [.ref 3, .int l1, .int l3] M3)) (hf := rfl) rfl rfl).trans ?_
            refine kV_in (fun M4 => ?_)
            refine (evn_adv 4 (q' := (95, [some (.ref 1), some (.int l1), some (.int l2), some (.int l3), some (.int l4), some (.int l3), some (.int (jz 1)), some (.int (((jn 1) + (jn 0)) + (jn 0)))], [.int (jz 1), .int l1, .ref 4], M4)) rfl).trans ?_
            refine (e_kV (q := (95, [some (.ref 1), some (.int l1), some (.int l2), some (.int l3), some (.int l4), some (.int l3), some (.int (jz 1)), some (.int (((jn 1) + (jn 0)) + (jn 0)))], [.int (jz 1), .int l1, .ref 4])) (q2 := (98, [some (.ref 1), some (.int l1), some (.int l2), some (.int l3), some (.int l4), some (.int l3), some (.int (jz 1)), some (.int (((jn 1) + (jn 0)) + (jn 0)))], [])) (M := M4) (o := (pcl GG lay d 66 [.ref 4, .int l1, .int (jz 1)] M4)) (hf := rfl) rfl rfl).trans ?_
            refine kV_in (fun M5 => ?_)
            refine (evn_adv 5 (q' := (108, [some (.ref 1), some (.int l1), some (.int l2), some (.int l3), some (.int l4), some (.int l3), some (.int (jz 1)), some (.int (((jn 1) + (jn 0)) + (jn 0)))], [.int (jn 1000), .int (((jn 1) + (jn 0)) + (jn 0)), .int l1, .ref 5], M5)) rfl).trans ?_
            refine (e_kI (q := (108, [some (.ref 1), some (.int l1), some (.int l2), some (.int l3), some (.int l4), some (.int l3), some (.int (jz 1)), some (.int (((jn 1) + (jn 0)) + (jn 0)))], [.int (jn 1000), .int (((jn 1) + (jn 0)) + (jn 0)), .int l1, .ref 5])) (q2 := (111, [some (.ref 1), some (.int l1), some (.int l2), some (.int l3), some (.int l4), some (.int l3), some (.int (jz 1)), some (.int (((jn 1) + (jn 0)) + (jn 0)))], [.int l1, .ref 5])) (M := M5) (o := (pcl GG lay d 2 [.int (((jn 1) + (jn 0)) + (jn 0)), .int (jn 1000)] M5)) (hf := rfl) rfl rfl).trans ?_
            refine kI_in (fun r6 M6 => ?_)
            refine (e_kV (q := (111, [some (.ref 1), some (.int l1), some (.int l2), some (.int l3), some (.int l4), some (.int l3), some (.int (jz 1)), some (.int (((jn 1) + (jn 0)) + (jn 0)))], [.int r6, .int l1, .ref 5])) (q2 := (114, [some (.ref 1), some (.int l1), some (.int l2), some (.int l3), some (.int l4), some (.int l3), some (.int (jz 1)), some (.int (((jn 1) + (jn 0)) + (jn 0)))], [])) (M := M6) (o := (pcl GG lay d 66 [.ref 5, .int l1, .int r6] M6)) (hf := rfl) rfl rfl).trans ?_
            refine kV_in (fun M7 => ?_)
            exact evn_end 1 rfl
          · refine (evn_adv 2 (q' := (59, [some (.ref 1), some (.int l1), some (.int l2), some (.int l3), some (.int l4), some (.int l3), some (.int (jz 1)), none], [.int (jz 1), .ref 1, .int ((jn 1) + (jn 0))], M2)) rfl).trans ?_
            refine (e_kI (q := (59, [some (.ref 1), some (.int l1), some (.int l2), some (.int l3), some (.int l4), some (.int l3), some (.int (jz 1)), none], [.int (jz 1), .ref 1, .int ((jn 1) + (jn 0))])) (q2 := (62, [some (.ref 1), some (.int l1), some (.int l2), some (.int l3), some (.int l4), some (.int l3), some (.int (jz 1)), none], [.int ((jn 1) + (jn 0))])) (M := M2) (o := (pcl GG lay d 251 [.ref 1, .int (jz 1)] M2)) (hf := rfl) rfl rfl).trans ?_
            refine kI_in (fun r3 M3 => ?_)
            refine (evn_adv 7 (q' := (75, [some (.ref 1), some (.int l1), some (.int l2), some (.int l3), some (.int l4), some (.int l3), some (.int (jz 1)), some (.int (((jn 1) + (jn 0)) + r3))], [.int l2, .int l1, .ref 2], M3)) rfl).trans ?_
            refine (e_kV (q := (75, [some (.ref 1), some (.int l1), some (.int l2), some (.int l3), some (.int l4), some (.int l3), some (.int (jz 1)), some (.int (((jn 1) + (jn 0)) + r3))], [.int l2, .int l1, .ref 2])) (q2 := (78, [some (.ref 1), some (.int l1), some (.int l2), some (.int l3), some (.int l4), some (.int l3), some (.int (jz 1)), some (.int (((jn 1) + (jn 0)) + r3))], [])) (M := M3) (o := (pcl GG lay d 66 [.ref 2, .int l1, .int l2] M3)) (hf := rfl) rfl rfl).trans ?_
            refine kV_in (fun M4 => ?_)
            refine (evn_adv 4 (q' := (85, [some (.ref 1), some (.int l1), some (.int l2), some (.int l3), some (.int l4), some (.int l3), some (.int (jz 1)), some (.int (((jn 1) + (jn 0)) + r3))], [.int l3, .int l1, .ref 3], M4)) rfl).trans ?_
            refine (e_kV (q := (85, [some (.ref 1), some (.int l1), some (.int l2), some (.int l3), some (.int l4), some (.int l3), some (.int (jz 1)), some (.int (((jn 1) + (jn 0)) + r3))], [.int l3, .int l1, .ref 3])) (q2 := (88, [some (.ref 1), some (.int l1), some (.int l2), some (.int l3), some (.int l4), some (.int l3), some (.int (jz 1)), some (.int (((jn 1) + (jn 0)) + r3))], [])) (M := M4) (o := (pcl GG lay d 66 [.ref 3, .int l1, .int l3] M4)) (hf := rfl) rfl rfl).trans ?_
            refine kV_in (fun M5 => ?_)
            refine (evn_adv 4 (q' := (95, [some (.ref 1), some (.int l1), some (.int l2), some (.int l3), some (.int l4), some (.int l3), some (.int (jz 1)), some (.int (((jn 1) + (jn 0)) + r3))], [.int (jz 1), .int l1, .ref 4], M5)) rfl).trans ?_
            refine (e_kV (q := (95, [some (.ref 1), some (.int l1), some (.int l2), some (.int l3), some (.int l4), some (.int l3), some (.int (jz 1)), some (.int (((jn 1) + (jn 0)) + r3))], [.int (jz 1), .int l1, .ref 4])) (q2 := (98, [some (.ref 1), some (.int l1), some (.int l2), some (.int l3), some (.int l4), some (.int l3), some (.int (jz 1)), some (.int (((jn 1) + (jn 0)) + r3))], [])) (M := M5) (o := (pcl GG lay d 66 [.ref 4, .int l1, .int (jz 1)] M5)) (hf := rfl) rfl rfl).trans ?_
            refine kV_in (fun M6 => ?_)
            refine (evn_adv 5 (q' := (108, [some (.ref 1), some (.int l1), some (.int l2), some (.int l3), some (.int l4), some (.int l3), some (.int (jz 1)), some (.int (((jn 1) + (jn 0)) + r3))], [.int (jn 1000), .int (((jn 1) + (jn 0)) + r3), .int l1, .ref 5], M6)) rfl).trans ?_
            refine (e_kI (q := (108, [some (.ref 1), some (.int l1), some (.int l2), some (.int l3), some (.int l4), some (.int l3), some (.int (jz 1)), some (.int (((jn 1) + (jn 0)) + r3))], [.int (jn 1000), .int (((jn 1) + (jn 0)) + r3), .int l1, .ref 5])) (q2 := (111, [some (.ref 1), some (.int l1), some (.int l2), some (.int l3), some (.int l4), some (.int l3), some (.int (jz 1)), some (.int (((jn 1) + (jn 0)) + r3))], [.int l1, .ref 5])) (M := M6) (o := (pcl GG lay d 2 [.int (((jn 1) + (jn 0)) + r3), .int (jn 1000)] M6)) (hf := rfl) rfl rfl).trans ?_
            refine kI_in (fun r7 M7 => ?_)
            refine (e_kV (q := (111, [some (.ref 1), some (.int l1), some (.int l2), some (.int l3), some (.int l4), some (.int l3), some (.int (jz 1)), some (.int (((jn 1) + (jn 0)) + r3))], [.int r7, .int l1, .ref 5])) (q2 := (114, [some (.ref 1), some (.int l1), some (.int l2), some (.int l3), some (.int l4), some (.int l3), some (.int (jz 1)), some (.int (((jn 1) + (jn 0)) + r3))], [])) (M := M7) (o := (pcl GG lay d 66 [.ref 5, .int l1, .int r7] M7)) (hf := rfl) rfl rfl).trans ?_
            refine kV_in (fun M8 => ?_)
            exact evn_end 1 rfl
      · refine (evn_adv 6 (q' := (35, [some (.ref 1), some (.int l1), some (.int l2), some (.int l3), some (.int l4), some (.int l3), some (.int l4), none], [.int (jn 2), .int l2, .int (jn 1)], M1)) rfl).trans ?_
        refine (e_ic_le (hf := rfl)).trans ?_
        refine ite_in ?_ ?_
        · refine (evn_adv 2 (q' := (41, [some (.ref 1), some (.int l1), some (.int l2), some (.int l3), some (.int l4), some (.int l3), some (.int l4), none], [.int l3, .ref 1, .int (jn 1)], M1)) rfl).trans ?_
          refine (e_kI (q := (41, [some (.ref 1), some (.int l1), some (.int l2), some (.int l3), some (.int l4), some (.int l3), some (.int l4), none], [.int l3, .ref 1, .int (jn 1)])) (q2 := (44, [some (.ref 1), some (.int l1), some (.int l2), some (.int l3), some (.int l4), some (.int l3), some (.int l4), none], [.int (jn 1)])) (M := M1) (o := (pcl GG lay d 251 [.ref 1, .int l3] M1)) (hf := rfl) rfl rfl).trans ?_
          refine kI_in (fun r2 M2 => ?_)
          refine (evn_adv 3 (q' := (50, [some (.ref 1), some (.int l1), some (.int l2), some (.int l3), some (.int l4), some (.int l3), some (.int l4), none], [.int l2, .int ((jn 1) + r2)], M2)) rfl).trans ?_
          refine (e_kI (q := (50, [some (.ref 1), some (.int l1), some (.int l2), some (.int l3), some (.int l4), some (.int l3), some (.int l4), none], [.int l2, .int ((jn 1) + r2)])) (q2 := (53, [some (.ref 1), some (.int l1), some (.int l2), some (.int l3), some (.int l4), some (.int l3), some (.int l4), none], [.int ((jn 1) + r2)])) (M := M2) (o := (pcl GG lay d 64 [.int l2] M2)) (hf := rfl) rfl rfl).trans ?_
          refine kI_in (fun r3 M3 => ?_)
          refine (e_if_eq (hf := rfl)).trans ?_
          refine ite_in ?_ ?_
          · refine (evn_adv 7 (q' := (75, [some (.ref 1), some (.int l1), some (.int l2), some (.int l3), some (.int l4), some (.int l3), some (.int l4), some (.int (((jn 1) + r2) + (jn 0)))], [.int l2, .int l1, .ref 2], M3)) rfl).trans ?_
            refine (e_kV (q := (75, [some (.ref 1), some (.int l1), some (.int l2), some (.int l3), some (.int l4), some (.int l3), some (.int l4), some (.int (((jn 1) + r2) + (jn 0)))], [.int l2, .int l1, .ref 2])) (q2 := (78, [some (.ref 1), some (.int l1), some (.int l2), some (.int l3), some (.int l4), some (.int l3), some (.int l4), some (.int (((jn 1) + r2) + (jn 0)))], [])) (M := M3) (o := (pcl GG lay d 66 [.ref 2, .int l1, .int l2] M3)) (hf := rfl) rfl rfl).trans ?_
            refine kV_in (fun M4 => ?_)
            refine (evn_adv 4 (q' := (85, [some (.ref 1), some (.int l1), some (.int l2), some (.int l3), some (.int l4), some (.int l3), some (.int l4), some (.int (((jn 1) + r2) + (jn 0)))], [.int l3, .int l1, .ref 3], M4)) rfl).trans ?_
            refine (e_kV (q := (85, [some (.ref 1), some (.int l1), some (.int l2), some (.int l3), some (.int l4), some (.int l3), some (.int l4), some (.int (((jn 1) + r2) + (jn 0)))], [.int l3, .int l1, .ref 3])) (q2 := (88, [some (.ref 1), some (.int l1), some (.int l2), some (.int l3), some (.int l4), some (.int l3), some (.int l4), some (.int (((jn 1) + r2) + (jn 0)))], [])) (M := M4) (o := (pcl GG lay d 66 [.ref 3, .int l1, .int l3] M4)) (hf := rfl) rfl rfl).trans ?_
            refine kV_in (fun M5 => ?_)
            refine (evn_adv 4 (q' := (95, [some (.ref 1), some (.int l1), some (.int l2), some (.int l3), some (.int l4), some (.int l3), some (.int l4), some (.int (((jn 1) + r2) + (jn 0)))], [.int l4, .int l1, .ref 4], M5)) rfl).trans ?_
            refine (e_kV (q := (95, [some (.ref 1), some (.int l1), some (.int l2), some (.int l3), some (.int l4), some (.int l3), some (.int l4), some (.int (((jn 1) + r2) + (jn 0)))], [.int l4, .int l1, .ref 4])) (q2 := (98, [some (.ref 1), some (.int l1), some (.int l2), some (.int l3), some (.int l4), some (.int l3), some (.int l4), some (.int (((jn 1) + r2) + (jn 0)))], [])) (M := M5) (o := (pcl GG lay d 66 [.ref 4, .int l1, .int l4] M5)) (hf := rfl) rfl rfl).trans ?_
            refine kV_in (fun M6 => ?_)
            refine (evn_adv 5 (q' := (108, [some (.ref 1), some (.int l1), some (.int l2), some (.int l3), some (.int l4), some (.int l3), some (.int l4), some (.int (((jn 1) + r2) + (jn 0)))], [.int (jn 1000), .int (((jn 1) + r2) + (jn 0)), .int l1, .ref 5], M6)) rfl).trans ?_
            refine (e_kI (q := (108, [some (.ref 1), some (.int l1), some (.int l2), some (.int l3), some (.int l4), some (.int l3), some (.int l4), some (.int (((jn 1) + r2) + (jn 0)))], [.int (jn 1000), .int (((jn 1) + r2) + (jn 0)), .int l1, .ref 5])) (q2 := (111, [some (.ref 1), some (.int l1), some (.int l2), some (.int l3), some (.int l4), some (.int l3), some (.int l4), some (.int (((jn 1) + r2) + (jn 0)))], [.int l1, .ref 5])) (M := M6) (o := (pcl GG lay d 2 [.int (((jn 1) + r2) + (jn 0)), .int (jn 1000)] M6)) (hf := rfl) rfl rfl).trans ?_
            refine kI_in (fun r7 M7 => ?_)
            refine (e_kV (q := (111, [some (.ref 1), some (.int l1), some (.int l2), some (.int l3), some (.int l4), some (.int l3), some (.int l4), some (.int (((jn 1) + r2) + (jn 0)))], [.int r7, .int l1, .ref 5])) (q2 := (114, [some (.ref 1), some (.int l1), some (.int l2), some (.int l3), some (.int l4), some (.int l3), some (.int l4), some (.int (((jn 1) + r2) + (jn 0)))], [])) (M := M7) (o := (pcl GG lay d 66 [.ref 5, .int l1, .int r7] M7)) (hf := rfl) rfl rfl).trans ?_
            refine kV_in (fun M8 => ?_)
            exact evn_end 1 rfl
          · refine (evn_adv 2 (q' := (59, [some (.ref 1), some (.int l1), some (.int l2), some (.int l3), some (.int l4), some (.int l3), some (.int l4), none], [.int l4, .ref 1, .int ((jn 1) + r2)], M3)) rfl).trans ?_
            refine (e_kI (q := (59, [some (.ref 1), some (.int l1), some (.int l2), some (.int l3), some (.int l4), some (.int l3), some (.int l4), none], [.int l4, .ref 1, .int ((jn 1) + r2)])) (q2 := (62, [some (.ref 1), some (.int l1), some (.int l2), some (.int l3), some (.int l4), some (.int l3), some (.int l4), none], [.int ((jn 1) + r2)])) (M := M3) (o := (pcl GG lay d 251 [.ref 1, .int l4] M3)) (hf := rfl) rfl rfl).trans ?_
            refine kI_in (fun r4 M4 => ?_)
            refine (evn_adv 7 (q' := (75, [some (.ref 1), some (.int l1), some (.int l2), some (.int l3), some (.int l4), some (.int l3), some (.int l4), some (.int (((jn 1) + r2) + r4))], [.int l2, .int l1, .ref 2], M4)) rfl).trans ?_
            refine (e_kV (q := (75, [some (.ref 1), some (.int l1), some (.int l2), some (.int l3), some (.int l4), some (.int l3), some (.int l4), some (.int (((jn 1) + r2) + r4))], [.int l2, .int l1, .ref 2])) (q2 := (78, [some (.ref 1), some (.int l1), some (.int l2), some (.int l3), some (.int l4), some (.int l3), some (.int l4), some (.int (((jn 1) + r2) + r4))], [])) (M := M4) (o := (pcl GG lay d 66 [.ref 2, .int l1, .int l2] M4)) (hf := rfl) rfl rfl).trans ?_
            refine kV_in (fun M5 => ?_)
            refine (evn_adv 4 (q' := (85, [some (.ref 1), some (.int l1), some (.int l2), some (.int l3), some (.int l4), some (.int l3), some (.int l4), some (.int (((jn 1) + r2) + r4))], [.int l3, .int l1, .ref 3], M5)) rfl).trans ?_
            refine (e_kV (q := (85, [some (.ref 1), some (.int l1), some (.int l2), some (.int l3), some (.int l4), some (.int l3), some (.int l4), some (.int (((jn 1) + r2) + r4))], [.int l3, .int l1, .ref 3])) (q2 := (88, [some (.ref 1), some (.int l1), some (.int l2), some (.int l3), some (.int l4), some (.int l3), some (.int l4), some (.int (((jn 1) + r2) + r4))], [])) (M := M5) (o := (pcl GG lay d 66 [.ref 3, .int l1, .int l3] M5)) (hf := rfl) rfl rfl).trans ?_
            refine kV_in (fun M6 => ?_)
            refine (evn_adv 4 (q' := (95, [some (.ref 1), some (.int l1), some (.int l2), some (.int l3), some (.int l4), some (.int l3), some (.int l4), some (.int (((jn 1) + r2) + r4))], [.int l4, .int l1, .ref 4], M6)) rfl).trans ?_
            refine (e_kV (q := (95, [some (.ref 1), some (.int l1), some (.int l2), some (.int l3), some (.int l4), some (.int l3), some (.int l4), some (.int (((jn 1) + r2) + r4))], [.int l4, .int l1, .ref 4])) (q2 := (98, [some (.ref 1), some (.int l1), some (.int l2), some (.int l3), some (.int l4), some (.int l3), some (.int l4), some (.int (((jn 1) + r2) + r4))], [])) (M := M6) (o := (pcl GG lay d 66 [.ref 4, .int l1, .int l4] M6)) (hf := rfl) rfl rfl).trans ?_
            refine kV_in (fun M7 => ?_)
            refine (evn_adv 5 (q' := (108, [some (.ref 1), some (.int l1), some (.int l2), some (.int l3), some (.int l4), some (.int l3), some (.int l4), some (.int (((jn 1) + r2) + r4))], [.int (jn 1000), .int (((jn 1) + r2) + r4), .int l1, .ref 5], M7)) rfl).trans ?_
            refine (e_kI (q := (108, [some (.ref 1), some (.int l1), some (.int l2), some (.int l3), some (.int l4), some (.int l3), some (.int l4), some (.int (((jn 1) + r2) + r4))], [.int (jn 1000), .int (((jn 1) + r2) + r4), .int l1, .ref 5])) (q2 := (111, [some (.ref 1), some (.int l1), some (.int l2), some (.int l3), some (.int l4), some (.int l3), some (.int l4), some (.int (((jn 1) + r2) + r4))], [.int l1, .ref 5])) (M := M7) (o := (pcl GG lay d 2 [.int (((jn 1) + r2) + r4), .int (jn 1000)] M7)) (hf := rfl) rfl rfl).trans ?_
            refine kI_in (fun r8 M8 => ?_)
            refine (e_kV (q := (111, [some (.ref 1), some (.int l1), some (.int l2), some (.int l3), some (.int l4), some (.int l3), some (.int l4), some (.int (((jn 1) + r2) + r4))], [.int r8, .int l1, .ref 5])) (q2 := (114, [some (.ref 1), some (.int l1), some (.int l2), some (.int l3), some (.int l4), some (.int l3), some (.int l4), some (.int (((jn 1) + r2) + r4))], [])) (M := M8) (o := (pcl GG lay d 66 [.ref 5, .int l1, .int r8] M8)) (hf := rfl) rfl rfl).trans ?_
            refine kV_in (fun M9 => ?_)
            exact evn_end 1 rfl
        · refine (evn_adv 3 (q' := (50, [some (.ref 1), some (.int l1), some (.int l2), some (.int l3), some (.int l4), some (.int l3), some (.int l4), none], [.int l2, .int ((jn 1) + (jn 0))], M1)) rfl).trans ?_
          refine (e_kI (q := (50, [some (.ref 1), some (.int l1), some (.int l2), some (.int l3), some (.int l4), some (.int l3), some (.int l4), none], [.int l2, .int ((jn 1) + (jn 0))])) (q2 := (53, [some (.ref 1), some (.int l1), some (.int l2), some (.int l3), some (.int l4), some (.int l3), some (.int l4), none], [.int ((jn 1) + (jn 0))])) (M := M1) (o := (pcl GG lay d 64 [.int l2] M1)) (hf := rfl) rfl rfl).trans ?_
          refine kI_in (fun r2 M2 => ?_)
          refine (e_if_eq (hf := rfl)).trans ?_
          refine ite_in ?_ ?_
          · refine (evn_adv 7 (q' := (75, [some (.ref 1), some (.int l1), some (.int l2), some (.int l3), some (.int l4), some (.int l3), some (.int l4), some (.int (((jn 1) + (jn 0)) + (jn 0)))], [.int l2, .int l1, .ref 2], M2)) rfl).trans ?_
            refine (e_kV (q := (75, [some (.ref 1), some (.int l1), some (.int l2), some (.int l3), some (.int l4), some (.int l3), some (.int l4), some (.int (((jn 1) + (jn 0)) + (jn 0)))], [.int l2, .int l1, .ref 2])) (q2 := (78, [some (.ref 1), some (.int l1), some (.int l2), some (.int l3), some (.int l4), some (.int l3), some (.int l4), some (.int (((jn 1) + (jn 0)) + (jn 0)))], [])) (M := M2) (o := (pcl GG lay d 66 [.ref 2, .int l1, .int l2] M2)) (hf := rfl) rfl rfl).trans ?_
            refine kV_in (fun M3 => ?_)
            refine (evn_adv 4 (q' := (85, [some (.ref 1), some (.int l1), some (.int l2), some (.int l3), some (.int l4), some (.int l3), some (.int l4), some (.int (((jn 1) + (jn 0)) + (jn 0)))], [.int l3, .int l1, .ref 3], M3)) rfl).trans ?_
            refine (e_kV (q := (85, [some (.ref 1), some (.int l1), some (.int l2), some (.int l3), some (.int l4), some (.int l3), some (.int l4), some (.int (((jn 1) + (jn 0)) + (jn 0)))], [.int l3, .int l1, .ref 3])) (q2 := (88, [some (.ref 1), some (.int l1), some (.int l2), some (.int l3), some (.int l4), some (.int l3), some (.int l4), some (.int (((jn 1) + (jn 0)) + (jn 0)))], [])) (M := M3) (o := (pcl GG lay d 66 [.ref 3, .int l1, .int l3] M3)) (hf := rfl) rfl rfl).trans ?_
            refine kV_in (fun M4 => ?_)
            refine (evn_adv 4 (q' := (95, [some (.ref 1), some (.int l1), some (.int l2), some (.int l3), some (.int l4), some (.int l3), some (.int l4), some (.int (((jn 1) + (jn 0)) + (jn 0)))], [.int l4, .int l1, .ref 4], M4)) rfl).trans ?_
            refine (e_kV (q := (95, [some (.ref 1), some (.int l1), some (.int l2), some (.int l3), some (.int l4), some (.int l3), some (.int l4), some (.int (((jn 1) + (jn 0)) + (jn 0)))], [.int l4, .int l1, .ref 4])) (q2 := (98, [some (.ref 1), some (.int l1), some (.int l2), some (.int l3), some (.int l4), some (.int l3), some (.int l4), some (.int (((jn 1) + (jn 0)) + (jn 0)))], [])) (M := M4) (o := (pcl GG lay d 66 [.ref 4, .int l1, .int l4] M4)) (hf := rfl) rfl rfl).trans ?_
            refine kV_in (fun M5 => ?_)
            refine (evn_adv 5 (q' := (108, [some (.ref 1), some (.int l1), some (.int l2), some (.int l3), some (.int l4), some (.int l3), some (.int l4), some (.int (((jn 1) + (jn 0)) + (jn 0)))], [.int (jn 1000), .int (((jn 1) + (jn 0)) + (jn 0)), .int l1, .ref 5], M5)) rfl).trans ?_
            refine (e_kI (q := (108, [some (.ref 1), some (.int l1), some (.int l2), some (.int l3), some (.int l4), some (.int l3), some (.int l4), some (.int (((jn 1) + (jn 0)) + (jn 0)))], [.int (jn 1000), .int (((jn 1) + (jn 0)) + (jn 0)), .int l1, .ref 5])) (q2 := (111, [some (.ref 1), some (.int l1), some (.int l2), some (.int l3), some (.int l4), some (.int l3), some (.int l4), some (.int (((jn 1) + (jn 0)) + (jn 0)))], [.int l1, .ref 5])) (M := M5) (o := (pcl GG lay d 2 [.int (((jn 1) + (jn 0)) + (jn 0)), .int (jn 1000)] M5)) (hf := rfl) rfl rfl).trans ?_
            refine kI_in (fun r6 M6 => ?_)
            refine (e_kV (q := (111, [some (.ref 1), some (.int l1), some (.int l2), some (.int l3), some (.int l4), some (.int l3), some (.int l4), some (.int (((jn 1) + (jn 0)) + (jn 0)))], [.int r6, .int l1, .ref 5])) (q2 := (114, [some (.ref 1), some (.int l1), some (.int l2), some (.int l3), some (.int l4), some (.int l3), some (.int l4), some (.int (((jn 1) + (jn 0)) + (jn 0)))], [])) (M := M6) (o := (pcl GG lay d 66 [.ref 5, .int l1, .int r6] M6)) (hf := rfl) rfl rfl).trans ?_
            refine kV_in (fun M7 => ?_)
            exact evn_end 1 rfl
          · refine (evn_adv 2 (q' := (59, [some (.ref 1), some (.int l1), some (.int l2), some (.int l3), some (.int l4), some (.int l3), some (.int l4), none], [.int l4, .ref 1, .int ((jn 1) + (jn 0))], M2)) rfl).trans ?_
            refine (e_kI (q := (59, [some (.ref 1), some (.int l1), some (.int l2), some (.int l3), some (.int l4), some (.int l3), some (.int l4), none], [.int l4, .ref 1, .int ((jn 1) + (jn 0))])) (q2 := (62, [some (.ref 1), some (.int l1), some (.int l2), some (.int l3), some (.int l4), some (.int l3), some (.int l4), none], [.int ((jn 1) + (jn 0))])) (M := M2) (o := (pcl GG lay d 251 [.ref 1, .int l4] M2)) (hf := rfl) rfl rfl).trans ?_
            refine kI_in (fun r3 M3 => ?_)
            refine (evn_adv 7 (q' := (75, [some (.ref 1), some (.int l1), some (.int l2), some (.int l3), some (.int l4), some (.int l3), some (.int l4), some (.int (((jn 1) + (jn 0)) + r3))], [.int l2, .int l1, .ref 2], M3)) rfl).trans ?_
            refine (e_kV (q := (75, [some (.ref 1), some (.int l1), some (.int l2), some (.int l3), some (.int l4), some (.int l3), some (.int l4), some (.int (((jn 1) + (jn 0)) + r3))], [.int l2, .int l1, .ref 2])) (q2 := (78, [some (.ref 1), some (.int l1), some (.int l2), some (.int l3), some (.int l4), some (.int l3), some (.int l4), some (.int (((jn 1) + (jn 0)) + r3))], [])) (M := M3) (o := (pcl GG lay d 66 [.ref 2, .int l1, .int l2] M3)) (hf := rfl) rfl rfl).trans ?_
            refine kV_in (fun M4 => ?_)
            refine (evn_adv 4 (q' := (85, [some (.ref 1), some (.int l1), some (.int l2), some (.int l3), some (.int l4), some (.int l3), some (.int l4), some (.int (((jn 1) + (jn 0)) + r3))], [.int l3, .int l1, .ref 3], M4)) rfl).trans ?_
            refine (e_kV (q := (85, [some (.ref 1), some (.int l1), some (.int l2), some (.int l3), some (.int l4), some (.int l3), some (.int l4), some (.int (((jn 1) + (jn 0)) + r3))], [.int l3, .int l1, .ref 3])) (q2 := (88, [some (.ref 1), some (.int l1), some (.int l2), some (.int l3), some (.int l4), some (.int l3), some (.int l4), some (.int (((jn 1) + (jn 0)) + r3))], [])) (M := M4) (o := (pcl GG lay d 66 [.ref 3, .int l1, .int l3] M4)) (hf := rfl) rfl rfl).trans ?_
            refine kV_in (fun M5 => ?_)
            refine (evn_adv 4 (q' := (95, [some (.ref 1), some (.int l1), some (.int l2), some (.int l3), some (.int l4), some (.int l3), some (.int l4), some (.int (((jn 1) + (jn 0)) + r3))], [.int l4, .int l1, .ref 4], M5)) rfl).trans ?_
            refine (e_kV (q := (95, [some (.ref 1), some (.int l1), some (.int l2), some (.int l3), some (.int l4), some (.int l3), some (.int l4), some (.int (((jn 1) + (jn 0)) + r3))], [.int l4, .int l1, .ref 4])) (q2 := (98, [some (.ref 1), some (.int l1), some (.int l2), some (.int l3), some (.int l4), some (.int l3), some (.int l4), some (.int (((jn 1) + (jn 0)) + r3))], [])) (M := M5) (o := (pcl GG lay d 66 [.ref 4, .int l1, .int l4] M5)) (hf := rfl) rfl rfl).trans ?_
            refine kV_in (fun M6 => ?_)
            refine (evn_adv 5 (q' := (108, [some (.ref 1), some (.int l1), some (.int l2), some (.int l3), some (.int l4), some (.int l3), some (.int l4), some (.int (((jn 1) + (jn 0)) + r3))], [.int (jn 1000), .int (((jn 1) + (jn 0)) + r3), .int l1, .ref 5], M6)) rfl).trans ?_
            refine (e_kI (q := (108, [some (.ref 1), some (.int l1), some (.int l2), some (.int l3), some (.int l4), some (.int l3), some (.int l4), some (.int (((jn 1) + (jn 0)) + r3))], [.int (jn 1000), .int (((jn 1) + (jn 0)) + r3), .int l1, .ref 5])) (q2 := (111, [some (.ref 1), some (.int l1), some (.int l2), some (.int l3), some (.int l4), some (.int l3), some (.int l4), some (.int (((jn 1) + (jn 0)) + r3))], [.int l1, .ref 5])) (M := M6) (o := (pcl GG lay d 2 [.int (((jn 1) + (jn 0)) + r3), .int (jn 1000)] M6)) (hf := rfl) rfl rfl).trans ?_
            refine kI_in (fun r7 M7 => ?_)
            refine (e_kV (q := (111, [some (.ref 1), some (.int l1), some (.int l2), some (.int l3), some (.int l4), some (.int l3), some (.int l4), some (.int (((jn 1) + (jn 0)) + r3))], [.int r7, .int l1, .ref 5])) (q2 := (114, [some (.ref 1), some (.int l1), some (.int l2), some (.int l3), some (.int l4), some (.int l3), some (.int l4), some (.int (((jn 1) + (jn 0)) + r3))], [])) (M := M7) (o := (pcl GG lay d 66 [.ref 5, .int l1, .int r7] M7)) (hf := rfl) rfl rfl).trans ?_
            refine kV_in (fun M8 => ?_)
            exact evn_end 1 rfl
theorem h_246_10 (d : Nat) (l1 : Int32) (l2 : Int32) (u3 : Option Value) (l4 : Int32) (u5 : Option Value) (u6 : Option Value) (u7 : Option Value) (M : PM) : E_246 d (10, [some (.ref 1), some (.int l1), some (.int l2), u3, some (.int l4), u5, u6, u7], [], M) = (kI (pcl GG lay d 64 [.int l2] M) fun r1 M1 => (if r1 = jn 0 then (if (jn 2) < l2 then (kI (pcl GG lay d 251 [.ref 1, .int (jz 1)] M1) fun r2 M2 => (kI (pcl GG lay d 64 [.int l2] M2) fun r3 M3 => (if r3 = jn 0 then (kV (pcl GG lay d 66 [.ref 2, .int l1, .int l2] M3) fun M4 => (kV (pcl GG lay d 66 [.ref 3, .int l1, .int (jz 1)] M4) fun M5 => (kV (pcl GG lay d 66 [.ref 4, .int l1, .int (jz 1)] M5) fun M6 => (kI (pcl GG lay d 2 [.int (((jn 1) + r2) + (jn 0)), .int (jn 1000)] M6) fun r7 M7 => (kV (pcl GG lay d 66 [.ref 5, .int l1, .int r7] M7) fun M8 => (rV M8)))))) else (kI (pcl GG lay d 251 [.ref 1, .int (jz 1)] M3) fun r4 M4 => (kV (pcl GG lay d 66 [.ref 2, .int l1, .int l2] M4) fun M5 => (kV (pcl GG lay d 66 [.ref 3, .int l1, .int (jz 1)] M5) fun M6 => (kV (pcl GG lay d 66 [.ref 4, .int l1, .int (jz 1)] M6) fun M7 => (kI (pcl GG lay d 2 [.int (((jn 1) + r2) + r4), .int (jn 1000)] M7) fun r8 M8 => (kV (pcl GG lay d 66 [.ref 5, .int l1, .int r8] M8) fun M9 => (rV M9)))))))))) else (kI (pcl GG lay d 64 [.int l2] M1) fun r2 M2 => (if r2 = jn 0 then (kV (pcl GG lay d 66 [.ref 2, .int l1, .int l2] M2) fun M3 => (kV (pcl GG lay d 66 [.ref 3, .int l1, .int (jz 1)] M3) fun M4 => (kV (pcl GG lay d 66 [.ref 4, .int l1, .int (jz 1)] M4) fun M5 => (kI (pcl GG lay d 2 [.int (((jn 1) + (jn 0)) + (jn 0)), .int (jn 1000)] M5) fun r6 M6 => (kV (pcl GG lay d 66 [.ref 5, .int l1, .int r6] M6) fun M7 => (rV M7)))))) else (kI (pcl GG lay d 251 [.ref 1, .int (jz 1)] M2) fun r3 M3 => (kV (pcl GG lay d 66 [.ref 2, .int l1, .int l2] M3) fun M4 => (kV (pcl GG lay d 66 [.ref 3, .int l1, .int (jz 1)] M4) fun M5 => (kV (pcl GG lay d 66 [.ref 4, .int l1, .int (jz 1)] M5) fun M6 => (kI (pcl GG lay d 2 [.int (((jn 1) + (jn 0)) + r3), .int (jn 1000)] M6) fun r7 M7 => (kV (pcl GG lay d 66 [.ref 5, .int l1, .int r7] M7) fun M8 => (rV M8)))))))))) else (if (jn 2) < l2 then (kI (pcl GG lay d 251 [.ref 1, .int (jz 1)] M1) fun r2 M2 => (kI (pcl GG lay d 64 [.int l2] M2) fun r3 M3 => (if r3 = jn 0 then (kV (pcl GG lay d 66 [.ref 2, .int l1, .int l2] M3) fun M4 => (kV (pcl GG lay d 66 [.ref 3, .int l1, .int (jz 1)] M4) fun M5 => (kV (pcl GG lay d 66 [.ref 4, .int l1, .int l4] M5) fun M6 => (kI (pcl GG lay d 2 [.int (((jn 1) + r2) + (jn 0)), .int (jn 1000)] M6) fun r7 M7 => (kV (pcl GG lay d 66 [.ref 5, .int l1, .int r7] M7) fun M8 => (rV M8)))))) else (kI (pcl GG lay d 251 [.ref 1, .int l4] M3) fun r4 M4 => (kV (pcl GG lay d 66 [.ref 2, .int l1, .int l2] M4) fun M5 => (kV (pcl GG lay d 66 [.ref 3, .int l1, .int (jz 1)] M5) fun M6 => (kV (pcl GG lay d 66 [.ref 4, .int l1, .int l4] M6) fun M7 => (kI (pcl GG lay d 2 [.int (((jn 1) + r2) + r4), .int (jn 1000)] M7) fun r8 M8 => (kV (pcl GG lay d 66 [.ref 5, .int l1, .int r8] M8) fun M9 => (rV M9)))))))))) else (kI (pcl GG lay d 64 [.int l2] M1) fun r2 M2 => (if r2 = jn 0 then (kV (pcl GG lay d 66 [.ref 2, .int l1, .int l2] M2) fun M3 => (kV (pcl GG lay d 66 [.ref 3, .int l1, .int (jz 1)] M3) fun M4 => (kV (pcl GG lay d 66 [.ref 4, .int l1, .int l4] M4) fun M5 => (kI (pcl GG lay d 2 [.int (((jn 1) + (jn 0)) + (jn 0)), .int (jn 1000)] M5) fun r6 M6 => (kV (pcl GG lay d 66 [.ref 5, .int l1, .int r6] M6) fun M7 => (rV M7)))))) else (kI (pcl GG lay d 251 [.ref 1, .int l4] M2) fun r3 M3 => (kV (pcl GG lay d 66 [.ref 2, .int l1, .int l2] M3) fun M4 => (kV (pcl GG lay d 66 [.ref 3, .int l1, .int (jz 1)] M4) fun M5 => (kV (pcl GG lay d 66 [.ref 4, .int l1, .int l4] M5) fun M6 => (kI (pcl GG lay d 2 [.int (((jn 1) + (jn 0)) + r3), .int (jn 1000)] M6) fun r7 M7 => (kV (pcl GG lay d 66 [.ref 5, .int l1, .int r7] M7) fun M8 => (rV M8)))))))))))) := by
  refine (evn_adv 4 (q' := (18, [some (.ref 1), some (.int l1), some (.int l2), u3, some (.int l4), some (.int (jz 1)), u6, u7], [.int l2], M)) rfl).trans ?_
  refine (e_kI (q := (18, [some (.ref 1), some (.int l1), some (.int l2), u3, some (.int l4), some (.int (jz 1)), u6, u7], [.int l2])) (q2 := (21, [some (.ref 1), some (.int l1), some (.int l2), u3, some (.int l4), some (.int (jz 1)), u6, u7], [])) (M := M) (o := (pcl GG lay d 64 [.int l2] M)) (hf := rfl) rfl rfl).trans ?_
  refine kI_in (fun r1 M1 => ?_)
  refine (e_if_eq (hf := rfl)).trans ?_
  refine ite_in ?_ ?_
  · refine (evn_adv 5 (q' := (35, [some (.ref 1), some (.int l1), some (.int l2), u3, some (.int l4), some (.int (jz 1)), some (.int (jz 1)), u7], [.int (jn 2), .int l2, .int (jn 1)], M1)) rfl).trans ?_
    refine (e_ic_le (hf := rfl)).trans ?_
    refine ite_in ?_ ?_
    · refine (evn_adv 2 (q' := (41, [some (.ref 1), some (.int l1), some (.int l2), u3, some (.int l4), some (.int (jz 1)), some (.int (jz 1)), u7], [.int (jz 1), .ref 1, .int (jn 1)], M1)) rfl).trans ?_
      refine (e_kI (q := (41, [some (.ref 1), some (.int l1), some (.int l2), u3, some (.int l4), some (.int (jz 1)), some (.int (jz 1)), u7], [.int (jz 1), .ref 1, .int (jn 1)])) (q2 := (44, [some (.ref 1), some (.int l1), some (.int l2), u3, some (.int l4), some (.int (jz 1)), some (.int (jz 1)), u7], [.int (jn 1)])) (M := M1) (o := (pcl GG lay d 251 [.ref 1, .int (jz 1)] M1)) (hf := rfl) rfl rfl).trans ?_
      refine kI_in (fun r2 M2 => ?_)
      refine (evn_adv 3 (q' := (50, [some (.ref 1), some (.int l1), some (.int l2), u3, some (.int l4), some (.int (jz 1)), some (.int (jz 1)), u7], [.int l2, .int ((jn 1) + r2)], M2)) rfl).trans ?_
      refine (e_kI (q := (50, [some (.ref 1), some (.int l1), some (.int l2), u3, some (.int l4), some (.int (jz 1)), some (.int (jz 1)), u7], [.int l2, .int ((jn 1) + r2)])) (q2 := (53, [some (.ref 1), some (.int l1), some (.int l2), u3, some (.int l4), some (.int (jz 1)), some (.int (jz 1)), u7], [.int ((jn 1) + r2)])) (M := M2) (o := (pcl GG lay d 64 [.int l2] M2)) (hf := rfl) rfl rfl).trans ?_
      refine kI_in (fun r3 M3 => ?_)
      refine (e_if_eq (hf := rfl)).trans ?_
      refine ite_in ?_ ?_
      · refine (evn_adv 7 (q' := (75, [some (.ref 1), some (.int l1), some (.int l2), u3, some (.int l4), some (.int (jz 1)), some (.int (jz 1)), some (.int (((jn 1) + r2) + (jn 0)))], [.int l2, .int l1, .ref 2], M3)) rfl).trans ?_
        refine (e_kV (q := (75, [some (.ref 1), some (.int l1), some (.int l2), u3, some (.int l4), some (.int (jz 1)), some (.int (jz 1)), some (.int (((jn 1) + r2) + (jn 0)))], [.int l2, .int l1, .ref 2])) (q2 := (78, [some (.ref 1), some (.int l1), some (.int l2), u3, some (.int l4), some (.int (jz 1)), some (.int (jz 1)), some (.int (((jn 1) + r2) + (jn 0)))], [])) (M := M3) (o := (pcl GG lay d 66 [.ref 2, .int l1, .int l2] M3)) (hf := rfl) rfl rfl).trans ?_
        refine kV_in (fun M4 => ?_)
        refine (evn_adv 4 (q' := (85, [some (.ref 1), some (.int l1), some (.int l2), u3, some (.int l4), some (.int (jz 1)), some (.int (jz 1)), some (.int (((jn 1) + r2) + (jn 0)))], [.int (jz 1), .int l1, .ref 3], M4)) rfl).trans ?_
        refine (e_kV (q := (85, [some (.ref 1), some (.int l1), some (.int l2), u3, some (.int l4), some (.int (jz 1)), some (.int (jz 1)), some (.int (((jn 1) + r2) + (jn 0)))], [.int (jz 1), .int l1, .ref 3])) (q2 := (88, [some (.ref 1), some (.int l1), some (.int l2), u3, some (.int l4), some (.int (jz 1)), some (.int (jz 1)), some (.int (((jn 1) + r2) + (jn 0)))], [])) (M := M4) (o := (pcl GG lay d 66 [.ref 3, .int l1, .int (jz 1)] M4)) (hf := rfl) rfl rfl).trans ?_
        refine kV_in (fun M5 => ?_)
        refine (evn_adv 4 (q' := (95, [some (.ref 1), some (.int l1), some (.int l2), u3, some (.int l4), some (.int (jz 1)), some (.int (jz 1)), some (.int (((jn 1) + r2) + (jn 0)))], [.int (jz 1), .int l1, .ref 4], M5)) rfl).trans ?_
        refine (e_kV (q := (95, [some (.ref 1), some (.int l1), some (.int l2), u3, some (.int l4), some (.int (jz 1)), some (.int (jz 1)), some (.int (((jn 1) + r2) + (jn 0)))], [.int (jz 1), .int l1, .ref 4])) (q2 := (98, [some (.ref 1), some (.int l1), some (.int l2), u3, some (.int l4), some (.int (jz 1)), some (.int (jz 1)), some (.int (((jn 1) + r2) + (jn 0)))], [])) (M := M5) (o := (pcl GG lay d 66 [.ref 4, .int l1, .int (jz 1)] M5)) (hf := rfl) rfl rfl).trans ?_
        refine kV_in (fun M6 => ?_)
        refine (evn_adv 5 (q' := (108, [some (.ref 1), some (.int l1), some (.int l2), u3, some (.int l4), some (.int (jz 1)), some (.int (jz 1)), some (.int (((jn 1) + r2) + (jn 0)))], [.int (jn 1000), .int (((jn 1) + r2) + (jn 0)), .int l1, .ref 5], M6)) rfl).trans ?_
        refine (e_kI (q := (108, [some (.ref 1), some (.int l1), some (.int l2), u3, some (.int l4), some (.int (jz 1)), some (.int (jz 1)), some (.int (((jn 1) + r2) + (jn 0)))], [.int (jn 1000), .int (((jn 1) + r2) + (jn 0)), .int l1, .ref 5])) (q2 := (111, [some (.ref 1), some (.int l1), some (.int l2), u3, some (.int l4), some (.int (jz 1)), some (.int (jz 1)), some (.int (((jn 1) + r2) + (jn 0)))], [.int l1, .ref 5])) (M := M6) (o := (pcl GG lay d 2 [.int (((jn 1) + r2) + (jn 0)), .int (jn 1000)] M6)) (hf := rfl) rfl rfl).trans ?_
        refine kI_in (fun r7 M7 => ?_)
        refine (e_kV (q := (111, [some (.ref 1), some (.int l1), some (.int l2), u3, some (.int l4), some (.int (jz 1)), some (.int (jz 1)), some (.int (((jn 1) + r2) + (jn 0)))], [.int r7, .int l1, .ref 5])) (q2 := (114, [some (.ref 1), some (.int l1), some (.int l2), u3, some (.int l4), some (.int (jz 1)), some (.int (jz 1)), some (.int (((jn 1) + r2) + (jn 0)))], [])) (M := M7) (o := (pcl GG lay d 66 [.ref 5, .int l1, .int r7] M7)) (hf := rfl) rfl rfl).trans ?_
        refine kV_in (fun M8 => ?_)
        exact evn_end 1 rfl
      · refine (evn_adv 2 (q' := (59, [some (.ref 1), some (.int l1), some (.int l2), u3, some (.int l4), some (.int (jz 1)), some (.int (jz 1)), u7], [.int (jz 1), .ref 1, .int ((jn 1) + r2)], M3)) rfl).trans ?_
        refine (e_kI (q := (59, [some (.ref 1), some (.int l1), some (.int l2), u3, some (.int l4), some (.int (jz 1)), some (.int (jz 1)), u7], [.int (jz 1), .ref 1, .int ((jn 1) + r2)])) (q2 := (62, [some (.ref 1), some (.int l1), some (.int l2), u3, some (.int l4), some (.int (jz 1)), some (.int (jz 1)), u7], [.int ((jn 1) + r2)])) (M := M3) (o := (pcl GG lay d 251 [.ref 1, .int (jz 1)] M3)) (hf := rfl) rfl rfl).trans ?_
        refine kI_in (fun r4 M4 => ?_)
        refine (evn_adv 7 (q' := (75, [some (.ref 1), some (.int l1), some (.int l2), u3, some (.int l4), some (.int (jz 1)), some (.int (jz 1)), some (.int (((jn 1) + r2) + r4))], [.int l2, .int l1, .ref 2], M4)) rfl).trans ?_
        refine (e_kV (q := (75, [some (.ref 1), some (.int l1), some (.int l2), u3, some (.int l4), some (.int (jz 1)), some (.int (jz 1)), some (.int (((jn 1) + r2) + r4))], [.int l2, .int l1, .ref 2])) (q2 := (78, [some (.ref 1), some (.int l1), some (.int l2), u3, some (.int l4), some (.int (jz 1)), some (.int (jz 1)), some (.int (((jn 1) + r2) + r4))], [])) (M := M4) (o := (pcl GG lay d 66 [.ref 2, .int l1, .int l2] M4)) (hf := rfl) rfl rfl).trans ?_
        refine kV_in (fun M5 => ?_)
        refine (evn_adv 4 (q' := (85, [some (.ref 1), some (.int l1), some (.int l2), u3, some (.int l4), some (.int (jz 1)), some (.int (jz 1)), some (.int (((jn 1) + r2) + r4))], [.int (jz 1), .int l1, .ref 3], M5)) rfl).trans ?_
        refine (e_kV (q := (85, [some (.ref 1), some (.int l1), some (.int l2), u3, some (.int l4), some (.int (jz 1)), some (.int (jz 1)), some (.int (((jn 1) + r2) + r4))], [.int (jz 1), .int l1, .ref 3])) (q2 := (88, [some (.ref 1), some (.int l1), some (.int l2), u3, some (.int l4), some (.int (jz 1)), some (.int (jz 1)), some (.int (((jn 1) + r2) + r4))], [])) (M := M5) (o := (pcl GG lay d 66 [.ref 3, .int l1, .int (jz 1)] M5)) (hf := rfl) rfl rfl).trans ?_
        refine kV_in (fun M6 => ?_)
        refine (evn_adv 4 (q' := (95, [some (.ref 1), some (.int l1), some (.int l2), u3, some (.int l4), some (.int (jz 1)), some (.int (jz 1)), some (.int (((jn 1) + r2) + r4))], [.int (jz 1), .int l1, .ref 4], M6)) rfl).trans ?_
        refine (e_kV (q := (95, [some (.ref 1), some (.int l1), some (.int l2), u3, some (.int l4), some (.int (jz 1)), some (.int (jz 1)), some (.int (((jn 1) + r2) + r4))], [.int (jz 1), .int l1, .ref 4])) (q2 := (98, [some (.ref 1), some (.int l1), some (.int l2), u3, some (.int l4), some (.int (jz 1)), some (.int (jz 1)), some (.int (((jn 1) + r2) + r4))], [])) (M := M6) (o := (pcl GG lay d 66 [.ref 4, .int l1, .int (jz 1)] M6)) (hf := rfl) rfl rfl).trans ?_
        refine kV_in (fun M7 => ?_)
        refine (evn_adv 5 (q' := (108, [some (.ref 1), some (.int l1), some (.int l2), u3, some (.int l4), some (.int (jz 1)), some (.int (jz 1)), some (.int (((jn 1) + r2) + r4))], [.int (jn 1000), .int (((jn 1) + r2) + r4), .int l1, .ref 5], M7)) rfl).trans ?_
        refine (e_kI (q := (108, [some (.ref 1), some (.int l1), some (.int l2), u3, some (.int l4), some (.int (jz 1)), some (.int (jz 1)), some (.int (((jn 1) + r2) + r4))], [.int (jn 1000), .int (((jn 1) + r2) + r4), .int l1, .ref 5])) (q2 := (111, [some (.ref 1), some (.int l1), some (.int l2), u3, some (.int l4), some (.int (jz 1)), some (.int (jz 1)), some (.int (((jn 1) + r2) + r4))], [.int l1, .ref 5])) (M := M7) (o := (pcl GG lay d 2 [.int (((jn 1) + r2) + r4), .int (jn 1000)] M7)) (hf := rfl) rfl rfl).trans ?_
        refine kI_in (fun r8 M8 => ?_)
        refine (e_kV (q := (111, [some (.ref 1), some (.int l1), some (.int l2), u3, some (.int l4), some (.int (jz 1)), some (.int (jz 1)), some (.int (((jn 1) + r2) + r4))], [.int r8, .int l1, .ref 5])) (q2 := (114, [some (.ref 1), some (.int l1), some (.int l2), u3, some (.int l4), some (.int (jz 1)), some (.int (jz 1)), some (.int (((jn 1) + r2) + r4))], [])) (M := M8) (o := (pcl GG lay d 66 [.ref 5, .int l1, .int r8] M8)) (hf := rfl) rfl rfl).trans ?_
        refine kV_in (fun M9 => ?_)
        exact evn_end 1 rfl
    · refine (evn_adv 3 (q' := (50, [some (.ref 1), some (.int l1), some (.int l2), u3, some (.int l4), some (.int (jz 1)), some (.int (jz 1)), u7], [.int l2, .int ((jn 1) + (jn 0))], M1)) rfl).trans ?_
      refine (e_kI (q := (50, [some (.ref 1), some (.int l1), some (.int l2), u3, some (.int l4), some (.int (jz 1)), some (.int (jz 1)), u7], [.int l2, .int ((jn 1) + (jn 0))])) (q2 := (53, [some (.ref 1), some (.int l1), some (.int l2), u3, some (.int l4), some (.int (jz 1)), some (.int (jz 1)), u7], [.int ((jn 1) + (jn 0))])) (M := M1) (o := (pcl GG lay d 64 [.int l2] M1)) (hf := rfl) rfl rfl).trans ?_
      refine kI_in (fun r2 M2 => ?_)
      refine (e_if_eq (hf := rfl)).trans ?_
      refine ite_in ?_ ?_
      · refine (evn_adv 7 (q' := (75, [some (.ref 1), some (.int l1), some (.int l2), u3, some (.int l4), some (.int (jz 1)), some (.int (jz 1)), some (.int (((jn 1) + (jn 0)) + (jn 0)))], [.int l2, .int l1, .ref 2], M2)) rfl).trans ?_
        refine (e_kV (q := (75, [some (.ref 1), some (.int l1), some (.int l2), u3, some (.int l4), some (.int (jz 1)), some (.int (jz 1)), some (.int (((jn 1) + (jn 0)) + (jn 0)))], [.int l2, .int l1, .ref 2])) (q2 := (78, [some (.ref 1), some (.int l1), some (.int l2), u3, some (.int l4), some (.int (jz 1)), some (.int (jz 1)), some (.int (((jn 1) + (jn 0)) + (jn 0)))], [])) (M := M2) (o := (pcl GG lay d 66 [.ref 2, .int l1, .int l2] M2)) (hf := rfl) rfl rfl).trans ?_
        refine kV_in (fun M3 => ?_)
        refine (evn_adv 4 (q' := (85, [some (.ref 1), some (.int l1), some (.int l2), u3, some (.int l4), some (.int (jz 1)), some (.int (jz 1)), some (.int (((jn 1) + (jn 0)) + (jn 0)))], [.int (jz 1), .int l1, .ref 3], M3)) rfl).trans ?_
        refine (e_kV (q := (85, [some (.ref 1), some (.int l1), some (.int l2), u3, some (.int l4), some (.int (jz 1)), some (.int (jz 1)), some (.int (((jn 1) + (jn 0)) + (jn 0)))], [.int (jz 1), .int l1, .ref 3])) (q2 := (88, [some (.ref 1), some (.int l1), some (.int l2), u3, some (.int l4), some (.int (jz 1)), some (.int (jz 1)), some (.int (((jn 1) + (jn 0)) + (jn 0)))], [])) (M := M3) (o := (pcl GG lay d 66 [.ref 3, .int l1, .int (jz 1)] M3)) (hf := rfl) rfl rfl).trans ?_
        refine kV_in (fun M4 => ?_)
        refine (evn_adv 4 (q' := (95, [some (.ref 1), some (.int l1), some (.int l2), u3, some (.int l4), some (.int (jz 1)), some (.int (jz 1)), some (.int (((jn 1) + (jn 0)) + (jn 0)))], [.int (jz 1), .int l1, .ref 4], M4)) rfl).trans ?_
        refine (e_kV (q := (95, [some (.ref 1), some (.int l1), some (.int l2), u3, some (.int l4), some (.int (jz 1)), some (.int (jz 1)), some (.int (((jn 1) + (jn 0)) + (jn 0)))], [.int (jz 1), .int l1, .ref 4])) (q2 := (98, [some (.ref 1), some (.int l1), some (.int l2), u3, some (.int l4), some (.int (jz 1)), some (.int (jz 1)), some (.int (((jn 1) + (jn 0)) + (jn 0)))], [])) (M := M4) (o := (pcl GG lay d 66 [.ref 4, .int l1, .int (jz 1)] M4)) (hf := rfl) rfl rfl).trans ?_
        refine kV_in (fun M5 => ?_)
        refine (evn_adv 5 (q' := (108, [some (.ref 1), some (.int l1), some (.int l2), u3, some (.int l4), some (.int (jz 1)), some (.int (jz 1)), some (.int (((jn 1) + (jn 0)) + (jn 0)))], [.int (jn 1000), .int (((jn 1) + (jn 0)) + (jn 0)), .int l1, .ref 5], M5)) rfl).trans ?_
        refine (e_kI (q := (108, [some (.ref 1), some (.int l1), some (.int l2), u3, some (.int l4), some (.int (jz 1)), some (.int (jz 1)), some (.int (((jn 1) + (jn 0)) + (jn 0)))], [.int (jn 1000), .int (((jn 1) + (jn 0)) + (jn 0)), .int l1, .ref 5])) (q2 := (111, [some (.ref 1), some (.int l1), some (.int l2), u3, some (.int l4), some (.int (jz 1)), some (.int (jz 1)), some (.int (((jn 1) + (jn 0)) + (jn 0)))], [.int l1, .ref 5])) (M := M5) (o := (pcl GG lay d 2 [.int (((jn 1) + (jn 0)) + (jn 0)), .int (jn 1000)] M5)) (hf := rfl) rfl rfl).trans ?_
        refine kI_in (fun r6 M6 => ?_)
        refine (e_kV (q := (111, [some (.ref 1), some (.int l1), some (.int l2), u3, some (.int l4), some (.int (jz 1)), some (.int (jz 1)), some (.int (((jn 1) + (jn 0)) + (jn 0)))], [.int r6, .int l1, .ref 5])) (q2 := (114, [some (.ref 1), some (.int l1), some (.int l2), u3, some (.int l4), some (.int (jz 1)), some (.int (jz 1)), some (.int (((jn 1) + (jn 0)) + (jn 0)))], [])) (M := M6) (o := (pcl GG lay d 66 [.ref 5, .int l1, .int r6] M6)) (hf := rfl) rfl rfl).trans ?_
        refine kV_in (fun M7 => ?_)
        exact evn_end 1 rfl
      · refine (evn_adv 2 (q' := (59, [some (.ref 1), some (.int l1), some (.int l2), u3, some (.int l4), some (.int (jz 1)), some (.int (jz 1)), u7], [.int (jz 1), .ref 1, .int ((jn 1) + (jn 0))], M2)) rfl).trans ?_
        refine (e_kI (q := (59, [some (.ref 1), some (.int l1), some (.int l2), u3, some (.int l4), some (.int (jz 1)), some (.int (jz 1)), u7], [.int (jz 1), .ref 1, .int ((jn 1) + (jn 0))])) (q2 := (62, [some (.ref 1), some (.int l1), some (.int l2), u3, some (.int l4), some (.int (jz 1)), some (.int (jz 1)), u7], [.int ((jn 1) + (jn 0))])) (M := M2) (o := (pcl GG lay d 251 [.ref 1, .int (jz 1)] M2)) (hf := rfl) rfl rfl).trans ?_
        refine kI_in (fun r3 M3 => ?_)
        refine (evn_adv 7 (q' := (75, [some (.ref 1), some (.int l1), some (.int l2), u3, some (.int l4), some (.int (jz 1)), some (.int (jz 1)), some (.int (((jn 1) + (jn 0)) + r3))], [.int l2, .int l1, .ref 2], M3)) rfl).trans ?_
        refine (e_kV (q := (75, [some (.ref 1), some (.int l1), some (.int l2), u3, some (.int l4), some (.int (jz 1)), some (.int (jz 1)), some (.int (((jn 1) + (jn 0)) + r3))], [.int l2, .int l1, .ref 2])) (q2 := (78, [some (.ref 1), some (.int l1), some (.int l2), u3, some (.int l4), some (.int (jz 1)), some (.int (jz 1)), some (.int (((jn 1) + (jn 0)) + r3))], [])) (M := M3) (o := (pcl GG lay d 66 [.ref 2, .int l1, .int l2] M3)) (hf := rfl) rfl rfl).trans ?_
        refine kV_in (fun M4 => ?_)
        refine (evn_adv 4 (q' := (85, [some (.ref 1), some (.int l1), some (.int l2), u3, some (.int l4), some (.int (jz 1)), some (.int (jz 1)), some (.int (((jn 1) + (jn 0)) + r3))], [.int (jz 1), .int l1, .ref 3], M4)) rfl).trans ?_
        refine (e_kV (q := (85, [some (.ref 1), some (.int l1), some (.int l2), u3, some (.int l4), some (.int (jz 1)), some (.int (jz 1)), some (.int (((jn 1) + (jn 0)) + r3))], [.int (jz 1), .int l1, .ref 3])) (q2 := (88, [some (.ref 1), some (.int l1), some (.int l2), u3, some (.int l4), some (.int (jz 1)), some (.int (jz 1)), some (.int (((jn 1) + (jn 0)) + r3))], [])) (M := M4) (o := (pcl GG lay d 66 [.ref 3, .int l1, .int (jz 1)] M4)) (hf := rfl) rfl rfl).trans ?_
        refine kV_in (fun M5 => ?_)
        refine (evn_adv 4 (q' := (95, [some (.ref 1), some (.int l1), some (.int l2), u3, some (.int l4), some (.int (jz 1)), some (.int (jz 1)), some (.int (((jn 1) + (jn 0)) + r3))], [.int (jz 1), .int l1, .ref 4], M5)) rfl).trans ?_
        refine (e_kV (q := (95, [some (.ref 1), some (.int l1), some (.int l2), u3, some (.int l4), some (.int (jz 1)), some (.int (jz 1)), some (.int (((jn 1) + (jn 0)) + r3))], [.int (jz 1), .int l1, .ref 4])) (q2 := (98, [some (.ref 1), some (.int l1), some (.int l2), u3, some (.int l4), some (.int (jz 1)), some (.int (jz 1)), some (.int (((jn 1) + (jn 0)) + r3))], [])) (M := M5) (o := (pcl GG lay d 66 [.ref 4, .int l1, .int (jz 1)] M5)) (hf := rfl) rfl rfl).trans ?_
        refine kV_in (fun M6 => ?_)
        refine (evn_adv 5 (q' := (108, [some (.ref 1), some (.int l1), some (.int l2), u3, some (.int l4), some (.int (jz 1)), some (.int (jz 1)), some (.int (((jn 1) + (jn 0)) + r3))], [.int (jn 1000), .int (((jn 1) + (jn 0)) + r3), .int l1, .ref 5], M6)) rfl).trans ?_
        refine (e_kI (q := (108, [some (.ref 1), some (.int l1), some (.int l2), u3, some (.int l4), some (.int (jz 1)), some (.int (jz 1)), some (.int (((jn 1) + (jn 0)) + r3))], [.int (jn 1000), .int (((jn 1) + (jn 0)) + r3), .int l1, .ref 5])) (q2 := (111, [some (.ref 1), some (.int l1), some (.int l2), u3, some (.int l4), some (.int (jz 1)), some (.int (jz 1)), some (.int (((jn 1) + (jn 0)) + r3))], [.int l1, .ref 5])) (M := M6) (o := (pcl GG lay d 2 [.int (((jn 1) + (jn 0)) + r3), .int (jn 1000)] M6)) (hf := rfl) rfl rfl).trans ?_
        refine kI_in (fun r7 M7 => ?_)
        refine (e_kV (q := (111, [some (.ref 1), some (.int l1), some (.int l2), u3, some (.int l4), some (.int (jz 1)), some (.int (jz 1)), some (.int (((jn 1) + (jn 0)) + r3))], [.int r7, .int l1, .ref 5])) (q2 := (114, [some (.ref 1), some (.int l1), some (.int l2), u3, some (.int l4), some (.int (jz 1)), some (.int (jz 1)), some (.int (((jn 1) + (jn 0)) + r3))], [])) (M := M7) (o := (pcl GG lay d 66 [.ref 5, .int l1, .int r7] M7)) (hf := rfl) rfl rfl).trans ?_
        refine kV_in (fun M8 => ?_)
        exact evn_end 1 rfl
  · refine (evn_adv 6 (q' := (35, [some (.ref 1), some (.int l1), some (.int l2), u3, some (.int l4), some (.int (jz 1)), some (.int l4), u7], [.int (jn 2), .int l2, .int (jn 1)], M1)) rfl).trans ?_
    refine (e_ic_le (hf := rfl)).trans ?_
    refine ite_in ?_ ?_
    · refine (evn_adv 2 (q' := (41, [some (.ref 1), some (.int l1), some (.int l2), u3, some (.int l4), some (.int (jz 1)), some (.int l4), u7], [.int (jz 1), .ref 1, .int (jn 1)], M1)) rfl).trans ?_
      refine (e_kI (q := (41, [some (.ref 1), some (.int l1), some (.int l2), u3, some (.int l4), some (.int (jz 1)), some (.int l4), u7], [.int (jz 1), .ref 1, .int (jn 1)])) (q2 := (44, [some (.ref 1), some (.int l1), some (.int l2), u3, some (.int l4), some (.int (jz 1)), some (.int l4), u7], [.int (jn 1)])) (M := M1) (o := (pcl GG lay d 251 [.ref 1, .int (jz 1)] M1)) (hf := rfl) rfl rfl).trans ?_
      refine kI_in (fun r2 M2 => ?_)
      refine (evn_adv 3 (q' := (50, [some (.ref 1), some (.int l1), some (.int l2), u3, some (.int l4), some (.int (jz 1)), some (.int l4), u7], [.int l2, .int ((jn 1) + r2)], M2)) rfl).trans ?_
      refine (e_kI (q := (50, [some (.ref 1), some (.int l1), some (.int l2), u3, some (.int l4), some (.int (jz 1)), some (.int l4), u7], [.int l2, .int ((jn 1) + r2)])) (q2 := (53, [some (.ref 1), some (.int l1), some (.int l2), u3, some (.int l4), some (.int (jz 1)), some (.int l4), u7], [.int ((jn 1) + r2)])) (M := M2) (o := (pcl GG lay d 64 [.int l2] M2)) (hf := rfl) rfl rfl).trans ?_
      refine kI_in (fun r3 M3 => ?_)
      refine (e_if_eq (hf := rfl)).trans ?_
      refine ite_in ?_ ?_
      · refine (evn_adv 7 (q' := (75, [some (.ref 1), some (.int l1), some (.int l2), u3, some (.int l4), some (.int (jz 1)), some (.int l4), some (.int (((jn 1) + r2) + (jn 0)))], [.int l2, .int l1, .ref 2], M3)) rfl).trans ?_
        refine (e_kV (q := (75, [some (.ref 1), some (.int l1), some (.int l2), u3, some (.int l4), some (.int (jz 1)), some (.int l4), some (.int (((jn 1) + r2) + (jn 0)))], [.int l2, .int l1, .ref 2])) (q2 := (78, [some (.ref 1), some (.int l1), some (.int l2), u3, some (.int l4), some (.int (jz 1)), some (.int l4), some (.int (((jn 1) + r2) + (jn 0)))], [])) (M := M3) (o := (pcl GG lay d 66 [.ref 2, .int l1, .int l2] M3)) (hf := rfl) rfl rfl).trans ?_
        refine kV_in (fun M4 => ?_)
        refine (evn_adv 4 (q' := (85, [some (.ref 1), some (.int l1), some (.int l2), u3, some (.int l4), some (.int (jz 1)), some (.int l4), some (.int (((jn 1) + r2) + (jn 0)))], [.int (jz 1), .int l1, .ref 3], M4)) rfl).trans ?_
        refine (e_kV (q := (85, [some (.ref 1), some (.int l1), some (.int l2), u3, some (.int l4), some (.int (jz 1)), some (.int l4), some (.int (((jn 1) + r2) + (jn 0)))], [.int (jz 1), .int l1, .ref 3])) (q2 := (88, [some (.ref 1), some (.int l1), some (.int l2), u3, some (.int l4), some (.int (jz 1)), some (.int l4), some (.int (((jn 1) + r2) + (jn 0)))], [])) (M := M4) (o := (pcl GG lay d 66 [.ref 3, .int l1, .int (jz 1)] M4)) (hf := rfl) rfl rfl).trans ?_
        refine kV_in (fun M5 => ?_)
        refine (evn_adv 4 (q' := (95, [some (.ref 1), some (.int l1), some (.int l2), u3, some (.int l4), some (.int (jz 1)), some (.int l4), some (.int (((jn 1) + r2) + (jn 0)))], [.int l4, .int l1, .ref 4], M5)) rfl).trans ?_
        refine (e_kV (q := (95, [some (.ref 1), some (.int l1), some (.int l2), u3, some (.int l4), some (.int (jz 1)), some (.int l4), some (.int (((jn 1) + r2) + (jn 0)))], [.int l4, .int l1, .ref 4])) (q2 := (98, [some (.ref 1), some (.int l1), some (.int l2), u3, some (.int l4), some (.int (jz 1)), some (.int l4), some (.int (((jn 1) + r2) + (jn 0)))], [])) (M := M5) (o := (pcl GG lay d 66 [.ref 4, .int l1, .int l4] M5)) (hf := rfl) rfl rfl).trans ?_
        refine kV_in (fun M6 => ?_)
        refine (evn_adv 5 (q' := (108, [some (.ref 1), some (.int l1), some (.int l2), u3, some (.int l4), some (.int (jz 1)), some (.int l4), some (.int (((jn 1) + r2) + (jn 0)))], [.int (jn 1000), .int (((jn 1) + r2) + (jn 0)), .int l1, .ref 5], M6)) rfl).trans ?_
        refine (e_kI (q := (108, [some (.ref 1), some (.int l1), some (.int l2), u3, some (.int l4), some (.int (jz 1)), some (.int l4), some (.int (((jn 1) + r2) + (jn 0)))], [.int (jn 1000), .int (((jn 1) + r2) + (jn 0)), .int l1, .ref 5])) (q2 := (111, [some (.ref 1), some (.int l1), some (.int l2), u3, some (.int l4), some (.int (jz 1)), some (.int l4), some (.int (((jn 1) + r2) + (jn 0)))], [.int l1, .ref 5])) (M := M6) (o := (pcl GG lay d 2 [.int (((jn 1) + r2) + (jn 0)), .int (jn 1000)] M6)) (hf := rfl) rfl rfl).trans ?_
        refine kI_in (fun r7 M7 => ?_)
        refine (e_kV (q := (111, [some (.ref 1), some (.int l1), some (.int l2), u3, some (.int l4), some (.int (jz 1)), some (.int l4), some (.int (((jn 1) + r2) + (jn 0)))], [.int r7, .int l1, .ref 5])) (q2 := (114, [some (.ref 1), some (.int l1), some (.int l2), u3, some (.int l4), some (.int (jz 1)), some (.int l4), some (.int (((jn 1) + r2) + (jn 0)))], [])) (M := M7) (o := (pcl GG lay d 66 [.ref 5, .int l1, .int r7] M7)) (hf := rfl) rfl rfl).trans ?_
        refine kV_in (fun M8 => ?_)
        exact evn_end 1 rfl
      · refine (evn_adv 2 (q' := (59, [some (.ref 1), some (.int l1), some (.int l2), u3, some (.int l4), some (.int (jz 1)), some (.int l4), u7], [.int l4, .ref 1, .int ((jn 1) + r2)], M3)) rfl).trans ?_
        refine (e_kI (q := (59, [some (.ref 1), some (.int l1), some (.int l2), u3, some (.int l4), some (.int (jz 1)), some (.int l4), u7], [.int l4, .ref 1, .int ((jn 1) + r2)])) (q2 := (62, [some (.ref 1), some (.int l1), some (.int l2), u3, some (.int l4), some (.int (jz 1)), some (.int l4), u7], [.int ((jn 1) + r2)])) (M := M3) (o := (pcl GG lay d 251 [.ref 1, .int l4] M3)) (hf := rfl) rfl rfl).trans ?_
        refine kI_in (fun r4 M4 => ?_)
        refine (evn_adv 7 (q' := (75, [some (.ref 1), some (.int l1), some (.int l2), u3, some (.int l4), some (.int (jz 1)), some (.int l4), some (.int (((jn 1) + r2) + r4))], [.int l2, .int l1, .ref 2], M4)) rfl).trans ?_
        refine (e_kV (q := (75, [some (.ref 1), some (.int l1), some (.int l2), u3, some (.int l4), some (.int (jz 1)), some (.int l4), some (.int (((jn 1) + r2) + r4))], [.int l2, .int l1, .ref 2])) (q2 := (78, [some (.ref 1), some (.int l1), some (.int l2), u3, some (.int l4), some (.int (jz 1)), some (.int l4), some (.int (((jn 1) + r2) + r4))], [])) (M := M4) (o := (pcl GG lay d 66 [.ref 2, .int l1, .int l2] M4)) (hf := rfl) rfl rfl).trans ?_
        refine kV_in (fun M5 => ?_)
        refine (evn_adv 4 (q' := (85, [some (.ref 1), some (.int l1), some (.int l2), u3, some (.int l4), some (.int (jz 1)), some (.int l4), some (.int (((jn 1) + r2) + r4))], [.int (jz 1), .int l1, .ref 3], M5)) rfl).trans ?_
        refine (e_kV (q := (85, [some (.ref 1), some (.int l1), some (.int l2), u3, some (.int l4), some (.int (jz 1)), some (.int l4), some (.int (((jn 1) + r2) + r4))], [.int (jz 1), .int l1, .ref 3])) (q2 := (88, [some (.ref 1), some (.int l1), some (.int l2), u3, some (.int l4), some (.int (jz 1)), some (.int l4), some (.int (((jn 1) + r2) + r4))], [])) (M := M5) (o := (pcl GG lay d 66 [.ref 3, .int l1, .int (jz 1)] M5)) (hf := rfl) rfl rfl).trans ?_
        refine kV_in (fun M6 => ?_)
        refine (evn_adv 4 (q' := (95, [some (.ref 1), some (.int l1), some (.int l2), u3, some (.int l4), some (.int (jz 1)), some (.int l4), some (.int (((jn 1) + r2) + r4))], [.int l4, .int l1, .ref 4], M6)) rfl).trans ?_
        refine (e_kV (q := (95, [some (.ref 1), some (.int l1), some (.int l2), u3, some (.int l4), some (.int (jz 1)), some (.int l4), some (.int (((jn 1) + r2) + r4))], [.int l4, .int l1, .ref 4])) (q2 := (98, [some (.ref 1), some (.int l1), some (.int l2), u3, some (.int l4), some (.int (jz 1)), some (.int l4), some (.int (((jn 1) + r2) + r4))], [])) (M := M6) (o := (pcl GG lay d 66 [.ref 4, .int l1, .int l4] M6)) (hf := rfl) rfl rfl).trans ?_
        refine kV_in (fun M7 => ?_)
        refine (evn_adv 5 (q' := (108, [some (.ref 1), some (.int l1), some (.int l2), u3, some (.int l4), some (.int (jz 1)), some (.int l4), some (.int (((jn 1) + r2) + r4))], [.int (jn 1000), .int (((jn 1) + r2) + r4), .int l1, .ref 5], M7)) rfl).trans ?_
        refine (e_kI (q := (108, [some (.ref 1), some (.int l1), some (.int l2), u3, some (.int l4), some (.int (jz 1)), some (.int l4), some (.int (((jn 1) + r2) + r4))], [.int (jn 1000), .int (((jn 1) + r2) + r4), .int l1, .ref 5])) (q2 := (111, [some (.ref 1), some (.int l1), some (.int l2), u3, some (.int l4), some (.int (jz 1)), some (.int l4), some (.int (((jn 1) + r2) + r4))], [.int l1, .ref 5])) (M := M7) (o := (pcl GG lay d 2 [.int (((jn 1) + r2) + r4), .int (jn 1000)] M7)) (hf := rfl) rfl rfl).trans ?_
        refine kI_in (fun r8 M8 => ?_)
        refine (e_kV (q := (111, [some (.ref 1), some (.int l1), some (.int l2), u3, some (.int l4), some (.int (jz 1)), some (.int l4), some (.int (((jn 1) + r2) + r4))], [.int r8, .int l1, .ref 5])) (q2 := (114, [some (.ref 1), some (.int l1), some (.int l2), u3, some (.int l4), some (.int (jz 1)), some (.int l4), some (.int (((jn 1) + r2) + r4))], [])) (M := M8) (o := (pcl GG lay d 66 [.ref 5, .int l1, .int r8] M8)) (hf := rfl) rfl rfl).trans ?_
        refine kV_in (fun M9 => ?_)
        exact evn_end 1 rfl
    · refine (evn_adv 3 (q' := (50, [some (.ref 1), some (.int l1), some (.int l2), u3, some (.int l4), some (.int (jz 1)), some (.int l4), u7], [.int l2, .int ((jn 1) + (jn 0))], M1)) rfl).trans ?_
      refine (e_kI (q := (50, [some (.ref 1), some (.int l1), some (.int l2), u3, some (.int l4), some (.int (jz 1)), some (.int l4), u7], [.int l2, .int ((jn 1) + (jn 0))])) (q2 := (53, [some (.ref 1), some (.int l1), some (.int l2), u3, some (.int l4), some (.int (jz 1)), some (.int l4), u7], [.int ((jn 1) + (jn 0))])) (M := M1) (o := (pcl GG lay d 64 [.int l2] M1)) (hf := rfl) rfl rfl).trans ?_
      refine kI_in (fun r2 M2 => ?_)
      refine (e_if_eq (hf := rfl)).trans ?_
      refine ite_in ?_ ?_
      · refine (evn_adv 7 (q' := (75, [some (.ref 1), some (.int l1), some (.int l2), u3, some (.int l4), some (.int (jz 1)), some (.int l4), some (.int (((jn 1) + (jn 0)) + (jn 0)))], [.int l2, .int l1, .ref 2], M2)) rfl).trans ?_
        refine (e_kV (q := (75, [some (.ref 1), some (.int l1), some (.int l2), u3, some (.int l4), some (.int (jz 1)), some (.int l4), some (.int (((jn 1) + (jn 0)) + (jn 0)))], [.int l2, .int l1, .ref 2])) (q2 := (78, [some (.ref 1), some (.int l1), some (.int l2), u3, some (.int l4), some (.int (jz 1)), some (.int l4), some (.int (((jn 1) + (jn 0)) + (jn 0)))], [])) (M := M2) (o := (pcl GG lay d 66 [.ref 2, .int l1, .int l2] M2)) (hf := rfl) rfl rfl).trans ?_
        refine kV_in (fun M3 => ?_)
        refine (evn_adv 4 (q' := (85, [some (.ref 1), some (.int l1), some (.int l2), u3, some (.int l4), some (.int (jz 1)), some (.int l4), some (.int (((jn 1) + (jn 0)) + (jn 0)))], [.int (jz 1), .int l1, .ref 3], M3)) rfl).trans ?_
        refine (e_kV (q := (85, [some (.ref 1), some (.int l1), some (.int l2), u3, some (.int l4), some (.int (jz 1)), some (.int l4), some (.int (((jn 1) + (jn 0)) + (jn 0)))], [.int (jz 1), .int l1, .ref 3])) (q2 := (88, [some (.ref 1), some (.int l1), some (.int l2), u3, some (.int l4), some (.int (jz 1)), some (.int l4), some (.int (((jn 1) + (jn 0)) + (jn 0)))], [])) (M := M3) (o := (pcl GG lay d 66 [.ref 3, .int l1, .int (jz 1)] M3)) (hf := rfl) rfl rfl).trans ?_
        refine kV_in (fun M4 => ?_)
        refine (evn_adv 4 (q' := (95, [some (.ref 1), some (.int l1), some (.int l2), u3, some (.int l4), some (.int (jz 1)), some (.int l4), some (.int (((jn 1) + (jn 0)) + (jn 0)))], [.int l4, .int l1, .ref 4], M4)) rfl).trans ?_
        refine (e_kV (q := (95, [some (.ref 1), some (.int l1), some (.int l2), u3, some (.int l4), some (.int (jz 1)), some (.int l4), some (.int (((jn 1) + (jn 0)) + (jn 0)))], [.int l4, .int l1, .ref 4])) (q2 := (98, [some (.ref 1), some (.int l1), some (.int l2), u3, some (.int l4), some (.int (jz 1)), some (.int l4), some (.int (((jn 1) + (jn 0)) + (jn 0)))], [])) (M := M4) (o := (pcl GG lay d 66 [.ref 4, .int l1, .int l4] M4)) (hf := rfl) rfl rfl).trans ?_
        refine kV_in (fun M5 => ?_)
        refine (evn_adv 5 (q' := (108, [some (.ref 1), some (.int l1), some (.int l2), u3, some (.int l4), some (.int (jz 1)), some (.int l4), some (.int (((jn 1) + (jn 0)) + (jn 0)))], [.int (jn 1000), .int (((jn 1) + (jn 0)) + (jn 0)), .int l1, .ref 5], M5)) rfl).trans ?_
        refine (e_kI (q := (108, [some (.ref 1), some (.int l1), some (.int l2), u3, some (.int l4), some (.int (jz 1)), some (.int l4), some (.int (((jn 1) + (jn 0)) + (jn 0)))], [.int (jn 1000), .int (((jn 1) + (jn 0)) + (jn 0)), .int l1, .ref 5])) (q2 := (111, [some (.ref 1), some (.int l1), some (.int l2), u3, some (.int l4), some (.int (jz 1)), some (.int l4), some (.int (((jn 1) + (jn 0)) + (jn 0)))], [.int l1, .ref 5])) (M := M5) (o := (pcl GG lay d 2 [.int (((jn 1) + (jn 0)) + (jn 0)), .int (jn 1000)] M5)) (hf := rfl) rfl rfl).trans ?_
        refine kI_in (fun r6 M6 => ?_)
        refine (e_kV (q := (111, [some (.ref 1), some (.int l1), some (.int l2), u3, some (.int l4), some (.int (jz 1)), some (.int l4), some (.int (((jn 1) + (jn 0)) + (jn 0)))], [.int r6, .int l1, .ref 5])) (q2 := (114, [some (.ref 1), some (.int l1), some (.int l2), u3, some (.int l4), some (.int (jz 1)), some (.int l4), some (.int (((jn 1) + (jn 0)) + (jn 0)))], [])) (M := M6) (o := (pcl GG lay d 66 [.ref 5, .int l1, .int r6] M6)) (hf := rfl) rfl rfl).trans ?_
        refine kV_in (fun M7 => ?_)
        exact evn_end 1 rfl
      · refine (evn_adv 2 (q' := (59, [some (.ref 1), some (.int l1), some (.int l2), u3, some (.int l4), some (.int (jz 1)), some (.int l4), u7], [.int l4, .ref 1, .int ((jn 1) + (jn 0))], M2)) rfl).trans ?_
        refine (e_kI (q := (59, [some (.ref 1), some (.int l1), some (.int l2), u3, some (.int l4), some (.int (jz 1)), some (.int l4), u7], [.int l4, .ref 1, .int ((jn 1) + (jn 0))])) (q2 := (62, [some (.ref 1), some (.int l1), some (.int l2), u3, some (.int l4), some (.int (jz 1)), some (.int l4), u7], [.int ((jn 1) + (jn 0))])) (M := M2) (o := (pcl GG lay d 251 [.ref 1, .int l4] M2)) (hf := rfl) rfl rfl).trans ?_
        refine kI_in (fun r3 M3 => ?_)
        refine (evn_adv 7 (q' := (75, [some (.ref 1), some (.int l1), some (.int l2), u3, some (.int l4), some (.int (jz 1)), some (.int l4), some (.int (((jn 1) + (jn 0)) + r3))], [.int l2, .int l1, .ref 2], M3)) rfl).trans ?_
        refine (e_kV (q := (75, [some (.ref 1), some (.int l1), some (.int l2), u3, some (.int l4), some (.int (jz 1)), some (.int l4), some (.int (((jn 1) + (jn 0)) + r3))], [.int l2, .int l1, .ref 2])) (q2 := (78, [some (.ref 1), some (.int l1), some (.int l2), u3, some (.int l4), some (.int (jz 1)), some (.int l4), some (.int (((jn 1) + (jn 0)) + r3))], [])) (M := M3) (o := (pcl GG lay d 66 [.ref 2, .int l1, .int l2] M3)) (hf := rfl) rfl rfl).trans ?_
        refine kV_in (fun M4 => ?_)
        refine (evn_adv 4 (q' := (85, [some (.ref 1), some (.int l1), some (.int l2), u3, some (.int l4), some (.int (jz 1)), some (.int l4), some (.int (((jn 1) + (jn 0)) + r3))], [.int (jz 1), .int l1, .ref 3], M4)) rfl).trans ?_
        refine (e_kV (q := (85, [some (.ref 1), some (.int l1), some (.int l2), u3, some (.int l4), some (.int (jz 1)), some (.int l4), some (.int (((jn 1) + (jn 0)) + r3))], [.int (jz 1), .int l1, .ref 3])) (q2 := (88, [some (.ref 1), some (.int l1), some (.int l2), u3, some (.int l4), some (.int (jz 1)), some (.int l4), some (.int (((jn 1) + (jn 0)) + r3))], [])) (M := M4) (o := (pcl GG lay d 66 [.ref 3, .int l1, .int (jz 1)] M4)) (hf := rfl) rfl rfl).trans ?_
        refine kV_in (fun M5 => ?_)
        refine (evn_adv 4 (q' := (95, [some (.ref 1), some (.int l1), some (.int l2), u3, some (.int l4), some (.int (jz 1)), some (.int l4), some (.int (((jn 1) + (jn 0)) + r3))], [.int l4, .int l1, .ref 4], M5)) rfl).trans ?_
        refine (e_kV (q := (95, [some (.ref 1), some (.int l1), some (.int l2), u3, some (.int l4), some (.int (jz 1)), some (.int l4), some (.int (((jn 1) + (jn 0)) + r3))], [.int l4, .int l1, .ref 4])) (q2 := (98, [some (.ref 1), some (.int l1), some (.int l2), u3, some (.int l4), some (.int (jz 1)), some (.int l4), some (.int (((jn 1) + (jn 0)) + r3))], [])) (M := M5) (o := (pcl GG lay d 66 [.ref 4, .int l1, .int l4] M5)) (hf := rfl) rfl rfl).trans ?_
        refine kV_in (fun M6 => ?_)
        refine (evn_adv 5 (q' := (108, [some (.ref 1), some (.int l1), some (.int l2), u3, some (.int l4), some (.int (jz 1)), some (.int l4), some (.int (((jn 1) + (jn 0)) + r3))], [.int (jn 1000), .int (((jn 1) + (jn 0)) + r3), .int l1, .ref 5], M6)) rfl).trans ?_
        refine (e_kI (q := (108, [some (.ref 1), some (.int l1), some (.int l2), u3, some (.int l4), some (.int (jz 1)), some (.int l4), some (.int (((jn 1) + (jn 0)) + r3))], [.int (jn 1000), .int (((jn 1) + (jn 0)) + r3), .int l1, .ref 5])) (q2 := (111, [some (.ref 1), some (.int l1), some (.int l2), u3, some (.int l4), some (.int (jz 1)), some (.int l4), some (.int (((jn 1) + (jn 0)) + r3))], [.int l1, .ref 5])) (M := M6) (o := (pcl GG lay d 2 [.int (((jn 1) + (jn 0)) + r3), .int (jn 1000)] M6)) (hf := rfl) rfl rfl).trans ?_
        refine kI_in (fun r7 M7 => ?_)
        refine (e_kV (q := (111, [some (.ref 1), some (.int l1), some (.int l2), u3, some (.int l4), some (.int (jz 1)), some (.int l4), some (.int (((jn 1) + (jn 0)) + r3))], [.int r7, .int l1, .ref 5])) (q2 := (114, [some (.ref 1), some (.int l1), some (.int l2), u3, some (.int l4), some (.int (jz 1)), some (.int l4), some (.int (((jn 1) + (jn 0)) + r3))], [])) (M := M7) (o := (pcl GG lay d 66 [.ref 5, .int l1, .int r7] M7)) (hf := rfl) rfl rfl).trans ?_
        refine kV_in (fun M8 => ?_)
        exact evn_end 1 rfl
/-- TermStrategies$State.buildInnermost()I -/
noncomputable abbrev E_247 (d : Nat) : PQ → PO := evn (rnn k_247 lay none (pcl GG lay d) 1)
theorem q_247 (d : Nat)  (M : PM) : pcl GG lay (d + 1) 247 [.ref 1] M = (kV (pcl GG lay d 246 [.ref 1, .int (jn 24), .int (jn 0), .int (jn 0), .int (jz 1)] M) fun M1 => E_247 d (14, [some (.ref 1), some (.int (jn 24)), some (.int (jn 1))], [], M1)) := by
  refine (pcl_un (mt := t_247) (by decide) rfl (Nat.le_of_ble_eq_true rfl)).trans ?_
  show E_247 d (0, [some (.ref 1), none, none], [], M) = _
  refine (evn_adv 7 (q' := (9, [some (.ref 1), some (.int (jn 24)), none], [.int (jz 1), .int (jn 0), .int (jn 0), .int (jn 24), .ref 1], M)) rfl).trans ?_
  refine (e_kV (q := (9, [some (.ref 1), some (.int (jn 24)), none], [.int (jz 1), .int (jn 0), .int (jn 0), .int (jn 24), .ref 1])) (q2 := (12, [some (.ref 1), some (.int (jn 24)), none], [])) (M := M) (o := (pcl GG lay d 246 [.ref 1, .int (jn 24), .int (jn 0), .int (jn 0), .int (jz 1)] M)) (hf := rfl) rfl rfl).trans ?_
  refine kV_in (fun M1 => ?_)
  refine (evn_adv 2 (q' := (14, [some (.ref 1), some (.int (jn 24)), some (.int (jn 1))], [], M1)) rfl).trans ?_
  rfl
theorem h_247_14 (d : Nat) (l1 : Int32) (l2 : Int32) (M : PM) : E_247 d (14, [some (.ref 1), some (.int l1), some (.int l2)], [], M) = (if l2 < (M.1 1 6) then (kV (pcl GG lay d 246 [.ref 1, .int ((jn 24) + l2), .int (jn 0), .int l2, .int (jz 1)] M) fun M1 => (kV (pcl GG lay d 246 [.ref 1, .int ((jn 36) + l2), .int (jn 4), .int l1, .int ((jn 24) + l2)] M1) fun M2 => E_247 d (14, [some (.ref 1), some (.int ((jn 36) + l2)), some (.int (l2 + (jn 1)))], [], M2))) else (kV (pcl GG lay d 246 [.ref 1, .int (jn 36), .int (jn 12), .int l1, .int (jz 1)] M) fun M1 => (rI (jn 36) M1))) := by
  refine (evn_adv 3 (q' := (19, [some (.ref 1), some (.int l1), some (.int l2)], [.int (M.1 1 6), .int l2], M)) rfl).trans ?_
  refine (e_ic_ge (hf := rfl)).trans ?_
  refine ite_in ?_ ?_
  · refine (evn_adv 7 (q' := (30, [some (.ref 1), some (.int l1), some (.int l2)], [.int (jz 1), .int l2, .int (jn 0), .int ((jn 24) + l2), .ref 1], M)) rfl).trans ?_
    refine (e_kV (q := (30, [some (.ref 1), some (.int l1), some (.int l2)], [.int (jz 1), .int l2, .int (jn 0), .int ((jn 24) + l2), .ref 1])) (q2 := (33, [some (.ref 1), some (.int l1), some (.int l2)], [])) (M := M) (o := (pcl GG lay d 246 [.ref 1, .int ((jn 24) + l2), .int (jn 0), .int l2, .int (jz 1)] M)) (hf := rfl) rfl rfl).trans ?_
    refine kV_in (fun M1 => ?_)
    refine (evn_adv 9 (q' := (44, [some (.ref 1), some (.int l1), some (.int l2)], [.int ((jn 24) + l2), .int l1, .int (jn 4), .int ((jn 36) + l2), .ref 1], M1)) rfl).trans ?_
    refine (e_kV (q := (44, [some (.ref 1), some (.int l1), some (.int l2)], [.int ((jn 24) + l2), .int l1, .int (jn 4), .int ((jn 36) + l2), .ref 1])) (q2 := (47, [some (.ref 1), some (.int l1), some (.int l2)], [])) (M := M1) (o := (pcl GG lay d 246 [.ref 1, .int ((jn 36) + l2), .int (jn 4), .int l1, .int ((jn 24) + l2)] M1)) (hf := rfl) rfl rfl).trans ?_
    refine kV_in (fun M2 => ?_)
    refine (evn_adv 6 (q' := (14, [some (.ref 1), some (.int ((jn 36) + l2)), some (.int (l2 + (jn 1)))], [], M2)) rfl).trans ?_
    rfl
  · refine (evn_adv 5 (q' := (65, [some (.ref 1), some (.int l1), some (.int l2)], [.int (jz 1), .int l1, .int (jn 12), .int (jn 36), .ref 1], M)) rfl).trans ?_
    refine (e_kV (q := (65, [some (.ref 1), some (.int l1), some (.int l2)], [.int (jz 1), .int l1, .int (jn 12), .int (jn 36), .ref 1])) (q2 := (68, [some (.ref 1), some (.int l1), some (.int l2)], [])) (M := M) (o := (pcl GG lay d 246 [.ref 1, .int (jn 36), .int (jn 12), .int l1, .int (jz 1)] M)) (hf := rfl) rfl rfl).trans ?_
    refine kV_in (fun M1 => ?_)
    refine (evn_adv 1 (q' := (70, [some (.ref 1), some (.int l1), some (.int l2)], [.int (jn 36)], M1)) rfl).trans ?_
    exact evn_end 1 rfl
/-- TermStrategies$State.kindOf(I)I -/
noncomputable abbrev E_248 (d : Nat) : PQ → PO := evn (rnn k_248 lay none (pcl GG lay d) 1)
theorem q_248 (d : Nat) (l1 : Int32) (M : PM) : pcl GG lay (d + 1) 248 [.ref 1, .int l1] M = (kI (pcl GG lay d 65 [.ref 2, .int l1] M) fun r1 M1 => (rI r1 M1)) := by
  refine (pcl_un (mt := t_248) (by decide) rfl (Nat.le_of_ble_eq_true rfl)).trans ?_
  show E_248 d (0, [some (.ref 1), some (.int l1)], [], M) = _
  refine (evn_adv 3 (q' := (5, [some (.ref 1), some (.int l1)], [.int l1, .ref 2], M)) rfl).trans ?_
  refine (e_kI (q := (5, [some (.ref 1), some (.int l1)], [.int l1, .ref 2])) (q2 := (8, [some (.ref 1), some (.int l1)], [])) (M := M) (o := (pcl GG lay d 65 [.ref 2, .int l1] M)) (hf := rfl) rfl rfl).trans ?_
  refine kI_in (fun r1 M1 => ?_)
  exact evn_end 1 rfl
/-- TermStrategies$State.firstOf(I)I -/
noncomputable abbrev E_249 (d : Nat) : PQ → PO := evn (rnn k_249 lay none (pcl GG lay d) 1)
theorem q_249 (d : Nat) (l1 : Int32) (M : PM) : pcl GG lay (d + 1) 249 [.ref 1, .int l1] M = (kI (pcl GG lay d 65 [.ref 3, .int l1] M) fun r1 M1 => (rI r1 M1)) := by
  refine (pcl_un (mt := t_249) (by decide) rfl (Nat.le_of_ble_eq_true rfl)).trans ?_
  show E_249 d (0, [some (.ref 1), some (.int l1)], [], M) = _
  refine (evn_adv 3 (q' := (5, [some (.ref 1), some (.int l1)], [.int l1, .ref 3], M)) rfl).trans ?_
  refine (e_kI (q := (5, [some (.ref 1), some (.int l1)], [.int l1, .ref 3])) (q2 := (8, [some (.ref 1), some (.int l1)], [])) (M := M) (o := (pcl GG lay d 65 [.ref 3, .int l1] M)) (hf := rfl) rfl rfl).trans ?_
  refine kI_in (fun r1 M1 => ?_)
  exact evn_end 1 rfl
/-- TermStrategies$State.secondOf(I)I -/
noncomputable abbrev E_250 (d : Nat) : PQ → PO := evn (rnn k_250 lay none (pcl GG lay d) 1)
theorem q_250 (d : Nat) (l1 : Int32) (M : PM) : pcl GG lay (d + 1) 250 [.ref 1, .int l1] M = (kI (pcl GG lay d 65 [.ref 4, .int l1] M) fun r1 M1 => (rI r1 M1)) := by
  refine (pcl_un (mt := t_250) (by decide) rfl (Nat.le_of_ble_eq_true rfl)).trans ?_
  show E_250 d (0, [some (.ref 1), some (.int l1)], [], M) = _
  refine (evn_adv 3 (q' := (5, [some (.ref 1), some (.int l1)], [.int l1, .ref 4], M)) rfl).trans ?_
  refine (e_kI (q := (5, [some (.ref 1), some (.int l1)], [.int l1, .ref 4])) (q2 := (8, [some (.ref 1), some (.int l1)], [])) (M := M) (o := (pcl GG lay d 65 [.ref 4, .int l1] M)) (hf := rfl) rfl rfl).trans ?_
  refine kI_in (fun r1 M1 => ?_)
  exact evn_end 1 rfl
/-- TermStrategies$State.weightOf(I)I -/
noncomputable abbrev E_251 (d : Nat) : PQ → PO := evn (rnn k_251 lay none (pcl GG lay d) 1)
theorem q_251 (d : Nat) (l1 : Int32) (M : PM) : pcl GG lay (d + 1) 251 [.ref 1, .int l1] M = (kI (pcl GG lay d 65 [.ref 5, .int l1] M) fun r1 M1 => (rI r1 M1)) := by
  refine (pcl_un (mt := t_251) (by decide) rfl (Nat.le_of_ble_eq_true rfl)).trans ?_
  show E_251 d (0, [some (.ref 1), some (.int l1)], [], M) = _
  refine (evn_adv 3 (q' := (5, [some (.ref 1), some (.int l1)], [.int l1, .ref 5], M)) rfl).trans ?_
  refine (e_kI (q := (5, [some (.ref 1), some (.int l1)], [.int l1, .ref 5])) (q2 := (8, [some (.ref 1), some (.int l1)], [])) (M := M) (o := (pcl GG lay d 65 [.ref 5, .int l1] M)) (hf := rfl) rfl rfl).trans ?_
  refine kI_in (fun r1 M1 => ?_)
  exact evn_end 1 rfl
/-- TermStrategies$State.draw(I)I -/
noncomputable abbrev E_252 (d : Nat) : PQ → PO := evn (rnn k_252 lay none (pcl GG lay d) 1)
theorem q_252 (d : Nat) (l1 : Int32) (M : PM) : pcl GG lay (d + 1) 252 [.ref 1, .int l1] M = (wr (sI M 1 (va_up (M.1 1) 9 (((M.1 1 9) * (jn 1103515245)) + (jn 12345)))) fun M1 => (if l1 < (jn 1) then (rI (jn 0) M1) else (if l1 = jn 0 then none else (rI (((M1.1 1 9).toUInt32 >>> ((jn 16).toUInt32 &&& Int32.toUInt32 31)).toInt32 - ((M1.1 1 9).toUInt32 >>> ((jn 16).toUInt32 &&& Int32.toUInt32 31)).toInt32 / l1 * l1) M1)))) := by
  refine (pcl_un (mt := t_252) (by decide) rfl (Nat.le_of_ble_eq_true rfl)).trans ?_
  show E_252 d (0, [some (.ref 1), some (.int l1)], [], M) = _
  refine (evn_adv 7 (q' := (12, [some (.ref 1), some (.int l1)], [.int (((M.1 1 9) * (jn 1103515245)) + (jn 12345)), .ref 1], M)) rfl).trans ?_
  refine (evn_adv 1 (q' := (15, [some (.ref 1), some (.int l1)], [], (sI M 1 (va_up (M.1 1) 9 (((M.1 1 9) * (jn 1103515245)) + (jn 12345)))))) rfl).trans ?_
  refine wr_in (f := fun M1 => E_252 d (15, [some (.ref 1), some (.int l1)], [], M1)) (fun M1 => ?_)
  refine (evn_adv 2 (q' := (17, [some (.ref 1), some (.int l1)], [.int (jn 1), .int l1], M1)) rfl).trans ?_
  refine (e_ic_ge (hf := rfl)).trans ?_
  refine ite_in ?_ ?_
  · refine (evn_adv 2 (q' := (33, [some (.ref 1), some (.int l1)], [.int (jn 0)], M1)) rfl).trans ?_
    exact evn_end 1 rfl
  · refine (evn_adv 5 (q' := (32, [some (.ref 1), some (.int l1)], [.int l1, .int ((M1.1 1 9).toUInt32 >>> ((jn 16).toUInt32 &&& Int32.toUInt32 31)).toInt32], M1)) rfl).trans ?_
    refine (e_irem (hf := rfl)).trans ?_
    refine ite_in rfl ?_
    exact evn_end 1 rfl
/-- TermStrategies$State.takeFrom(LTermStrategies$State;)V -/
noncomputable abbrev E_253 (d : Nat) : PQ → PO := evn (rnn k_253 lay none (pcl GG lay d) 0)
theorem q_253 (d : Nat)  (M : PM) : pcl GG lay (d + 1) 253 [.ref 1, .ref 8] M = (kV (pcl GG lay d 239 [.ref 6, .ref 13, .int (jn 1920)] M) fun M1 => (kV (pcl GG lay d 0 [.ref 9, .int (jn 0), .ref 2, .int (jn 0), .int (jn 24)] M1) fun M2 => (kV (pcl GG lay d 0 [.ref 10, .int (jn 0), .ref 3, .int (jn 0), .int (jn 24)] M2) fun M3 => (kV (pcl GG lay d 0 [.ref 11, .int (jn 0), .ref 4, .int (jn 0), .int (jn 24)] M3) fun M4 => (kV (pcl GG lay d 0 [.ref 12, .int (jn 0), .ref 5, .int (jn 0), .int (jn 24)] M4) fun M5 => (wr (sI M5 1 (va_up (M5.1 1) 5 (M5.1 8 5))) fun M6 => (wr (sI M6 1 (va_up (M6.1 1) 6 (M6.1 8 6))) fun M7 => (wr (sI M7 1 (va_up (M7.1 1) 7 (M7.1 8 7))) fun M8 => (wr (sI M8 1 (va_up (M8.1 1) 8 (M8.1 8 8))) fun M9 => (wr (sI M9 1 (va_up (M9.1 1) 9 (M9.1 8 9))) fun M10 => (rV M10))))))))))) := by
  refine (pcl_un (mt := t_253) (by decide) rfl (Nat.le_of_ble_eq_true rfl)).trans ?_
  show E_253 d (0, [some (.ref 1), some (.ref 8)], [], M) = _
  refine (evn_adv 5 (q' := (11, [some (.ref 1), some (.ref 8)], [.int (jn 1920), .ref 13, .ref 6], M)) rfl).trans ?_
  refine (e_kV (q := (11, [some (.ref 1), some (.ref 8)], [.int (jn 1920), .ref 13, .ref 6])) (q2 := (14, [some (.ref 1), some (.ref 8)], [])) (M := M) (o := (pcl GG lay d 239 [.ref 6, .ref 13, .int (jn 1920)] M)) (hf := rfl) rfl rfl).trans ?_
  refine kV_in (fun M1 => ?_)
  refine (evn_adv 7 (q' := (26, [some (.ref 1), some (.ref 8)], [.int (jn 24), .int (jn 0), .ref 2, .int (jn 0), .ref 9], M1)) rfl).trans ?_
  refine (e_kV (q := (26, [some (.ref 1), some (.ref 8)], [.int (jn 24), .int (jn 0), .ref 2, .int (jn 0), .ref 9])) (q2 := (29, [some (.ref 1), some (.ref 8)], [])) (M := M1) (o := (pcl GG lay d 0 [.ref 9, .int (jn 0), .ref 2, .int (jn 0), .int (jn 24)] M1)) (hf := rfl) rfl rfl).trans ?_
  refine kV_in (fun M2 => ?_)
  refine (evn_adv 7 (q' := (41, [some (.ref 1), some (.ref 8)], [.int (jn 24), .int (jn 0), .ref 3, .int (jn 0), .ref 10], M2)) rfl).trans ?_
  refine (e_kV (q := (41, [some (.ref 1), some (.ref 8)], [.int (jn 24), .int (jn 0), .ref 3, .int (jn 0), .ref 10])) (q2 := (44, [some (.ref 1), some (.ref 8)], [])) (M := M2) (o := (pcl GG lay d 0 [.ref 10, .int (jn 0), .ref 3, .int (jn 0), .int (jn 24)] M2)) (hf := rfl) rfl rfl).trans ?_
  refine kV_in (fun M3 => ?_)
  refine (evn_adv 7 (q' := (56, [some (.ref 1), some (.ref 8)], [.int (jn 24), .int (jn 0), .ref 4, .int (jn 0), .ref 11], M3)) rfl).trans ?_
  refine (e_kV (q := (56, [some (.ref 1), some (.ref 8)], [.int (jn 24), .int (jn 0), .ref 4, .int (jn 0), .ref 11])) (q2 := (59, [some (.ref 1), some (.ref 8)], [])) (M := M3) (o := (pcl GG lay d 0 [.ref 11, .int (jn 0), .ref 4, .int (jn 0), .int (jn 24)] M3)) (hf := rfl) rfl rfl).trans ?_
  refine kV_in (fun M4 => ?_)
  refine (evn_adv 7 (q' := (71, [some (.ref 1), some (.ref 8)], [.int (jn 24), .int (jn 0), .ref 5, .int (jn 0), .ref 12], M4)) rfl).trans ?_
  refine (e_kV (q := (71, [some (.ref 1), some (.ref 8)], [.int (jn 24), .int (jn 0), .ref 5, .int (jn 0), .ref 12])) (q2 := (74, [some (.ref 1), some (.ref 8)], [])) (M := M4) (o := (pcl GG lay d 0 [.ref 12, .int (jn 0), .ref 5, .int (jn 0), .int (jn 24)] M4)) (hf := rfl) rfl rfl).trans ?_
  refine kV_in (fun M5 => ?_)
  refine (evn_adv 3 (q' := (79, [some (.ref 1), some (.ref 8)], [.int (M5.1 8 5), .ref 1], M5)) rfl).trans ?_
  refine (evn_adv 1 (q' := (82, [some (.ref 1), some (.ref 8)], [], (sI M5 1 (va_up (M5.1 1) 5 (M5.1 8 5))))) rfl).trans ?_
  refine wr_in (f := fun M6 => E_253 d (82, [some (.ref 1), some (.ref 8)], [], M6)) (fun M6 => ?_)
  refine (evn_adv 3 (q' := (87, [some (.ref 1), some (.ref 8)], [.int (M6.1 8 6), .ref 1], M6)) rfl).trans ?_
  refine (evn_adv 1 (q' := (90, [some (.ref 1), some (.ref 8)], [], (sI M6 1 (va_up (M6.1 1) 6 (M6.1 8 6))))) rfl).trans ?_
  refine wr_in (f := fun M7 => E_253 d (90, [some (.ref 1), some (.ref 8)], [], M7)) (fun M7 => ?_)
  refine (evn_adv 3 (q' := (95, [some (.ref 1), some (.ref 8)], [.int (M7.1 8 7), .ref 1], M7)) rfl).trans ?_
  refine (evn_adv 1 (q' := (98, [some (.ref 1), some (.ref 8)], [], (sI M7 1 (va_up (M7.1 1) 7 (M7.1 8 7))))) rfl).trans ?_
  refine wr_in (f := fun M8 => E_253 d (98, [some (.ref 1), some (.ref 8)], [], M8)) (fun M8 => ?_)
  refine (evn_adv 3 (q' := (103, [some (.ref 1), some (.ref 8)], [.int (M8.1 8 8), .ref 1], M8)) rfl).trans ?_
  refine (evn_adv 1 (q' := (106, [some (.ref 1), some (.ref 8)], [], (sI M8 1 (va_up (M8.1 1) 8 (M8.1 8 8))))) rfl).trans ?_
  refine wr_in (f := fun M9 => E_253 d (106, [some (.ref 1), some (.ref 8)], [], M9)) (fun M9 => ?_)
  refine (evn_adv 3 (q' := (111, [some (.ref 1), some (.ref 8)], [.int (M9.1 8 9), .ref 1], M9)) rfl).trans ?_
  refine (evn_adv 1 (q' := (114, [some (.ref 1), some (.ref 8)], [], (sI M9 1 (va_up (M9.1 1) 9 (M9.1 8 9))))) rfl).trans ?_
  refine wr_in (f := fun M10 => E_253 d (114, [some (.ref 1), some (.ref 8)], [], M10)) (fun M10 => ?_)
  exact evn_end 1 rfl
/-- TermStrategies$State.takeFrom(LTermStrategies$State;)V -/
theorem q_253b (d : Nat)  (M : PM) : pcl GG lay (d + 1) 253 [.ref 8, .ref 1] M = (kV (pcl GG lay d 239 [.ref 13, .ref 6, .int (jn 1920)] M) fun M1 => (kV (pcl GG lay d 0 [.ref 2, .int (jn 0), .ref 9, .int (jn 0), .int (jn 24)] M1) fun M2 => (kV (pcl GG lay d 0 [.ref 3, .int (jn 0), .ref 10, .int (jn 0), .int (jn 24)] M2) fun M3 => (kV (pcl GG lay d 0 [.ref 4, .int (jn 0), .ref 11, .int (jn 0), .int (jn 24)] M3) fun M4 => (kV (pcl GG lay d 0 [.ref 5, .int (jn 0), .ref 12, .int (jn 0), .int (jn 24)] M4) fun M5 => (wr (sI M5 8 (va_up (M5.1 8) 5 (M5.1 1 5))) fun M6 => (wr (sI M6 8 (va_up (M6.1 8) 6 (M6.1 1 6))) fun M7 => (wr (sI M7 8 (va_up (M7.1 8) 7 (M7.1 1 7))) fun M8 => (wr (sI M8 8 (va_up (M8.1 8) 8 (M8.1 1 8))) fun M9 => (wr (sI M9 8 (va_up (M9.1 8) 9 (M9.1 1 9))) fun M10 => (rV M10))))))))))) := by
  refine (pcl_un (mt := t_253) (by decide) rfl (Nat.le_of_ble_eq_true rfl)).trans ?_
  show E_253 d (0, [some (.ref 8), some (.ref 1)], [], M) = _
  refine (evn_adv 5 (q' := (11, [some (.ref 8), some (.ref 1)], [.int (jn 1920), .ref 6, .ref 13], M)) rfl).trans ?_
  refine (e_kV (q := (11, [some (.ref 8), some (.ref 1)], [.int (jn 1920), .ref 6, .ref 13])) (q2 := (14, [some (.ref 8), some (.ref 1)], [])) (M := M) (o := (pcl GG lay d 239 [.ref 13, .ref 6, .int (jn 1920)] M)) (hf := rfl) rfl rfl).trans ?_
  refine kV_in (fun M1 => ?_)
  refine (evn_adv 7 (q' := (26, [some (.ref 8), some (.ref 1)], [.int (jn 24), .int (jn 0), .ref 9, .int (jn 0), .ref 2], M1)) rfl).trans ?_
  refine (e_kV (q := (26, [some (.ref 8), some (.ref 1)], [.int (jn 24), .int (jn 0), .ref 9, .int (jn 0), .ref 2])) (q2 := (29, [some (.ref 8), some (.ref 1)], [])) (M := M1) (o := (pcl GG lay d 0 [.ref 2, .int (jn 0), .ref 9, .int (jn 0), .int (jn 24)] M1)) (hf := rfl) rfl rfl).trans ?_
  refine kV_in (fun M2 => ?_)
  refine (evn_adv 7 (q' := (41, [some (.ref 8), some (.ref 1)], [.int (jn 24), .int (jn 0), .ref 10, .int (jn 0), .ref 3], M2)) rfl).trans ?_
  refine (e_kV (q := (41, [some (.ref 8), some (.ref 1)], [.int (jn 24), .int (jn 0), .ref 10, .int (jn 0), .ref 3])) (q2 := (44, [some (.ref 8), some (.ref 1)], [])) (M := M2) (o := (pcl GG lay d 0 [.ref 3, .int (jn 0), .ref 10, .int (jn 0), .int (jn 24)] M2)) (hf := rfl) rfl rfl).trans ?_
  refine kV_in (fun M3 => ?_)
  refine (evn_adv 7 (q' := (56, [some (.ref 8), some (.ref 1)], [.int (jn 24), .int (jn 0), .ref 11, .int (jn 0), .ref 4], M3)) rfl).trans ?_
  refine (e_kV (q := (56, [some (.ref 8), some (.ref 1)], [.int (jn 24), .int (jn 0), .ref 11, .int (jn 0), .ref 4])) (q2 := (59, [some (.ref 8), some (.ref 1)], [])) (M := M3) (o := (pcl GG lay d 0 [.ref 4, .int (jn 0), .ref 11, .int (jn 0), .int (jn 24)] M3)) (hf := rfl) rfl rfl).trans ?_
  refine kV_in (fun M4 => ?_)
  refine (evn_adv 7 (q' := (71, [some (.ref 8), some (.ref 1)], [.int (jn 24), .int (jn 0), .ref 12, .int (jn 0), .ref 5], M4)) rfl).trans ?_
  refine (e_kV (q := (71, [some (.ref 8), some (.ref 1)], [.int (jn 24), .int (jn 0), .ref 12, .int (jn 0), .ref 5])) (q2 := (74, [some (.ref 8), some (.ref 1)], [])) (M := M4) (o := (pcl GG lay d 0 [.ref 5, .int (jn 0), .ref 12, .int (jn 0), .int (jn 24)] M4)) (hf := rfl) rfl rfl).trans ?_
  refine kV_in (fun M5 => ?_)
  refine (evn_adv 3 (q' := (79, [some (.ref 8), some (.ref 1)], [.int (M5.1 1 5), .ref 8], M5)) rfl).trans ?_
  refine (evn_adv 1 (q' := (82, [some (.ref 8), some (.ref 1)], [], (sI M5 8 (va_up (M5.1 8) 5 (M5.1 1 5))))) rfl).trans ?_
  refine wr_in (f := fun M6 => E_253 d (82, [some (.ref 8), some (.ref 1)], [], M6)) (fun M6 => ?_)
  refine (evn_adv 3 (q' := (87, [some (.ref 8), some (.ref 1)], [.int (M6.1 1 6), .ref 8], M6)) rfl).trans ?_
  refine (evn_adv 1 (q' := (90, [some (.ref 8), some (.ref 1)], [], (sI M6 8 (va_up (M6.1 8) 6 (M6.1 1 6))))) rfl).trans ?_
  refine wr_in (f := fun M7 => E_253 d (90, [some (.ref 8), some (.ref 1)], [], M7)) (fun M7 => ?_)
  refine (evn_adv 3 (q' := (95, [some (.ref 8), some (.ref 1)], [.int (M7.1 1 7), .ref 8], M7)) rfl).trans ?_
  refine (evn_adv 1 (q' := (98, [some (.ref 8), some (.ref 1)], [], (sI M7 8 (va_up (M7.1 8) 7 (M7.1 1 7))))) rfl).trans ?_
  refine wr_in (f := fun M8 => E_253 d (98, [some (.ref 8), some (.ref 1)], [], M8)) (fun M8 => ?_)
  refine (evn_adv 3 (q' := (103, [some (.ref 8), some (.ref 1)], [.int (M8.1 1 8), .ref 8], M8)) rfl).trans ?_
  refine (evn_adv 1 (q' := (106, [some (.ref 8), some (.ref 1)], [], (sI M8 8 (va_up (M8.1 8) 8 (M8.1 1 8))))) rfl).trans ?_
  refine wr_in (f := fun M9 => E_253 d (106, [some (.ref 8), some (.ref 1)], [], M9)) (fun M9 => ?_)
  refine (evn_adv 3 (q' := (111, [some (.ref 8), some (.ref 1)], [.int (M9.1 1 9), .ref 8], M9)) rfl).trans ?_
  refine (evn_adv 1 (q' := (114, [some (.ref 8), some (.ref 1)], [], (sI M9 8 (va_up (M9.1 8) 9 (M9.1 1 9))))) rfl).trans ?_
  refine wr_in (f := fun M10 => E_253 d (114, [some (.ref 8), some (.ref 1)], [], M10)) (fun M10 => ?_)
  exact evn_end 1 rfl
/-- TermStrategies$Trail.add(IJ)V -/
noncomputable abbrev E_254 (d : Nat) : PQ → PO := evn (rnn k_254 lay none (pcl GG lay d) 0)
theorem q_254 (d : Nat) (l1 : Int32) (l2 : Int64) (M : PM) : pcl GG lay (d + 1) 254 [.ref 30, .int l1, .long l2] M = (kV (pcl GG lay d 66 [.ref 31, .int (M.1 30 2), .int l1] M) fun M1 => (kV (pcl GG lay d 68 [.ref 32, .int (M1.1 30 2), .long l2] M1) fun M2 => (kI (pcl GG lay d 2 [.int ((M2.1 30 2) + (jn 1)), .int (jn 40)] M2) fun r3 M3 => (wr (sI M3 30 (va_up (M3.1 30) 2 r3)) fun M4 => (rV M4))))) := by
  refine (pcl_un (mt := t_254) (by decide) rfl (Nat.le_of_ble_eq_true rfl)).trans ?_
  show E_254 d (0, [some (.ref 30), some (.int l1), some (.long l2), none], [], M) = _
  refine (evn_adv 5 (q' := (9, [some (.ref 30), some (.int l1), some (.long l2), none], [.int l1, .int (M.1 30 2), .ref 31], M)) rfl).trans ?_
  refine (e_kV (q := (9, [some (.ref 30), some (.int l1), some (.long l2), none], [.int l1, .int (M.1 30 2), .ref 31])) (q2 := (12, [some (.ref 30), some (.int l1), some (.long l2), none], [])) (M := M) (o := (pcl GG lay d 66 [.ref 31, .int (M.1 30 2), .int l1] M)) (hf := rfl) rfl rfl).trans ?_
  refine kV_in (fun M1 => ?_)
  refine (evn_adv 5 (q' := (21, [some (.ref 30), some (.int l1), some (.long l2), none], [.long l2, .int (M1.1 30 2), .ref 32], M1)) rfl).trans ?_
  refine (e_kV (q := (21, [some (.ref 30), some (.int l1), some (.long l2), none], [.long l2, .int (M1.1 30 2), .ref 32])) (q2 := (24, [some (.ref 30), some (.int l1), some (.long l2), none], [])) (M := M1) (o := (pcl GG lay d 68 [.ref 32, .int (M1.1 30 2), .long l2] M1)) (hf := rfl) rfl rfl).trans ?_
  refine kV_in (fun M2 => ?_)
  refine (evn_adv 6 (q' := (33, [some (.ref 30), some (.int l1), some (.long l2), none], [.int (jn 40), .int ((M2.1 30 2) + (jn 1)), .ref 30], M2)) rfl).trans ?_
  refine (e_kI (q := (33, [some (.ref 30), some (.int l1), some (.long l2), none], [.int (jn 40), .int ((M2.1 30 2) + (jn 1)), .ref 30])) (q2 := (36, [some (.ref 30), some (.int l1), some (.long l2), none], [.ref 30])) (M := M2) (o := (pcl GG lay d 2 [.int ((M2.1 30 2) + (jn 1)), .int (jn 40)] M2)) (hf := rfl) rfl rfl).trans ?_
  refine kI_in (fun r3 M3 => ?_)
  refine (evn_adv 1 (q' := (39, [some (.ref 30), some (.int l1), some (.long l2), none], [], (sI M3 30 (va_up (M3.1 30) 2 r3)))) rfl).trans ?_
  refine wr_in (f := fun M4 => E_254 d (39, [some (.ref 30), some (.int l1), some (.long l2), none], [], M4)) (fun M4 => ?_)
  exact evn_end 1 rfl
/-- TermStrategies$Trail.cut(I)V -/
noncomputable abbrev E_255 (d : Nat) : PQ → PO := evn (rnn k_255 lay none (pcl GG lay d) 0)
theorem q_255 (d : Nat) (l1 : Int32) (M : PM) : pcl GG lay (d + 1) 255 [.ref 30, .int l1] M = (wr (sI M 30 (va_up (M.1 30) 2 l1)) fun M1 => (rV M1)) := by
  refine (pcl_un (mt := t_255) (by decide) rfl (Nat.le_of_ble_eq_true rfl)).trans ?_
  show E_255 d (0, [some (.ref 30), some (.int l1)], [], M) = _
  refine (evn_adv 2 (q' := (2, [some (.ref 30), some (.int l1)], [.int l1, .ref 30], M)) rfl).trans ?_
  refine (evn_adv 1 (q' := (5, [some (.ref 30), some (.int l1)], [], (sI M 30 (va_up (M.1 30) 2 l1)))) rfl).trans ?_
  refine wr_in (f := fun M1 => E_255 d (5, [some (.ref 30), some (.int l1)], [], M1)) (fun M1 => ?_)
  exact evn_end 1 rfl
/-- TermStrategies$Trail.ruleAt(I)I -/
noncomputable abbrev E_256 (d : Nat) : PQ → PO := evn (rnn k_256 lay none (pcl GG lay d) 1)
theorem q_256 (d : Nat) (l1 : Int32) (M : PM) : pcl GG lay (d + 1) 256 [.ref 30, .int l1] M = (if l1 < jn 0 then (rI (jz 1) M) else (if l1 < (M.1 30 2) then (kI (pcl GG lay d 65 [.ref 31, .int l1] M) fun r1 M1 => (rI r1 M1)) else (rI (jz 1) M))) := by
  refine (pcl_un (mt := t_256) (by decide) rfl (Nat.le_of_ble_eq_true rfl)).trans ?_
  show E_256 d (0, [some (.ref 30), some (.int l1)], [], M) = _
  refine (evn_adv 1 (q' := (1, [some (.ref 30), some (.int l1)], [.int l1], M)) rfl).trans ?_
  refine (e_if_lt (hf := rfl)).trans ?_
  refine ite_in ?_ ?_
  · refine (evn_adv 1 (q' := (24, [some (.ref 30), some (.int l1)], [.int (jz 1)], M)) rfl).trans ?_
    exact evn_end 1 rfl
  · refine (evn_adv 3 (q' := (9, [some (.ref 30), some (.int l1)], [.int (M.1 30 2), .int l1], M)) rfl).trans ?_
    refine (e_ic_ge (hf := rfl)).trans ?_
    refine ite_in ?_ ?_
    · refine (evn_adv 3 (q' := (17, [some (.ref 30), some (.int l1)], [.int l1, .ref 31], M)) rfl).trans ?_
      refine (e_kI (q := (17, [some (.ref 30), some (.int l1)], [.int l1, .ref 31])) (q2 := (20, [some (.ref 30), some (.int l1)], [])) (M := M) (o := (pcl GG lay d 65 [.ref 31, .int l1] M)) (hf := rfl) rfl rfl).trans ?_
      refine kI_in (fun r1 M1 => ?_)
      refine (evn_adv 1 (q' := (24, [some (.ref 30), some (.int l1)], [.int r1], M1)) rfl).trans ?_
      exact evn_end 1 rfl
    · refine (evn_adv 1 (q' := (24, [some (.ref 30), some (.int l1)], [.int (jz 1)], M)) rfl).trans ?_
      exact evn_end 1 rfl
/-- TermStrategies$Trail.ruleAt(I)I -/
theorem q_256b (d : Nat) (l1 : Int32) (M : PM) : pcl GG lay (d + 1) 256 [.ref 48, .int l1] M = (if l1 < jn 0 then (rI (jz 1) M) else (if l1 < (M.1 48 2) then (kI (pcl GG lay d 65 [.ref 49, .int l1] M) fun r1 M1 => (rI r1 M1)) else (rI (jz 1) M))) := by
  refine (pcl_un (mt := t_256) (by decide) rfl (Nat.le_of_ble_eq_true rfl)).trans ?_
  show E_256 d (0, [some (.ref 48), some (.int l1)], [], M) = _
  refine (evn_adv 1 (q' := (1, [some (.ref 48), some (.int l1)], [.int l1], M)) rfl).trans ?_
  refine (e_if_lt (hf := rfl)).trans ?_
  refine ite_in ?_ ?_
  · refine (evn_adv 1 (q' := (24, [some (.ref 48), some (.int l1)], [.int (jz 1)], M)) rfl).trans ?_
    exact evn_end 1 rfl
  · refine (evn_adv 3 (q' := (9, [some (.ref 48), some (.int l1)], [.int (M.1 48 2), .int l1], M)) rfl).trans ?_
    refine (e_ic_ge (hf := rfl)).trans ?_
    refine ite_in ?_ ?_
    · refine (evn_adv 3 (q' := (17, [some (.ref 48), some (.int l1)], [.int l1, .ref 49], M)) rfl).trans ?_
      refine (e_kI (q := (17, [some (.ref 48), some (.int l1)], [.int l1, .ref 49])) (q2 := (20, [some (.ref 48), some (.int l1)], [])) (M := M) (o := (pcl GG lay d 65 [.ref 49, .int l1] M)) (hf := rfl) rfl rfl).trans ?_
      refine kI_in (fun r1 M1 => ?_)
      refine (evn_adv 1 (q' := (24, [some (.ref 48), some (.int l1)], [.int r1], M1)) rfl).trans ?_
      exact evn_end 1 rfl
    · refine (evn_adv 1 (q' := (24, [some (.ref 48), some (.int l1)], [.int (jz 1)], M)) rfl).trans ?_
      exact evn_end 1 rfl
/-- TermStrategies$Trail.pathAt(I)J -/
noncomputable abbrev E_257 (d : Nat) : PQ → PO := evn (rnn k_257 lay none (pcl GG lay d) 3)
theorem q_257 (d : Nat) (l1 : Int32) (M : PM) : pcl GG lay (d + 1) 257 [.ref 30, .int l1] M = (if l1 < jn 0 then (rL (Int64.ofInt (-1)) M) else (if l1 < (M.1 30 2) then (kL (pcl GG lay d 67 [.ref 32, .int l1] M) fun r1 M1 => (rL r1 M1)) else (rL (Int64.ofInt (-1)) M))) := by
  refine (pcl_un (mt := t_257) (by decide) rfl (Nat.le_of_ble_eq_true rfl)).trans ?_
  show E_257 d (0, [some (.ref 30), some (.int l1)], [], M) = _
  refine (evn_adv 1 (q' := (1, [some (.ref 30), some (.int l1)], [.int l1], M)) rfl).trans ?_
  refine (e_if_lt (hf := rfl)).trans ?_
  refine ite_in ?_ ?_
  · refine (evn_adv 1 (q' := (26, [some (.ref 30), some (.int l1)], [.long (Int64.ofInt (-1))], M)) rfl).trans ?_
    exact evn_end 1 rfl
  · refine (evn_adv 3 (q' := (9, [some (.ref 30), some (.int l1)], [.int (M.1 30 2), .int l1], M)) rfl).trans ?_
    refine (e_ic_ge (hf := rfl)).trans ?_
    refine ite_in ?_ ?_
    · refine (evn_adv 3 (q' := (17, [some (.ref 30), some (.int l1)], [.int l1, .ref 32], M)) rfl).trans ?_
      refine (e_kL (q := (17, [some (.ref 30), some (.int l1)], [.int l1, .ref 32])) (q2 := (20, [some (.ref 30), some (.int l1)], [])) (M := M) (o := (pcl GG lay d 67 [.ref 32, .int l1] M)) (hf := rfl) rfl rfl).trans ?_
      refine kL_in (fun r1 M1 => ?_)
      refine (evn_adv 1 (q' := (26, [some (.ref 30), some (.int l1)], [.long r1], M1)) rfl).trans ?_
      exact evn_end 1 rfl
    · refine (evn_adv 1 (q' := (26, [some (.ref 30), some (.int l1)], [.long (Int64.ofInt (-1))], M)) rfl).trans ?_
      exact evn_end 1 rfl
/-- TermStrategies$Trail.pathAt(I)J -/
theorem q_257b (d : Nat) (l1 : Int32) (M : PM) : pcl GG lay (d + 1) 257 [.ref 48, .int l1] M = (if l1 < jn 0 then (rL (Int64.ofInt (-1)) M) else (if l1 < (M.1 48 2) then (kL (pcl GG lay d 67 [.ref 50, .int l1] M) fun r1 M1 => (rL r1 M1)) else (rL (Int64.ofInt (-1)) M))) := by
  refine (pcl_un (mt := t_257) (by decide) rfl (Nat.le_of_ble_eq_true rfl)).trans ?_
  show E_257 d (0, [some (.ref 48), some (.int l1)], [], M) = _
  refine (evn_adv 1 (q' := (1, [some (.ref 48), some (.int l1)], [.int l1], M)) rfl).trans ?_
  refine (e_if_lt (hf := rfl)).trans ?_
  refine ite_in ?_ ?_
  · refine (evn_adv 1 (q' := (26, [some (.ref 48), some (.int l1)], [.long (Int64.ofInt (-1))], M)) rfl).trans ?_
    exact evn_end 1 rfl
  · refine (evn_adv 3 (q' := (9, [some (.ref 48), some (.int l1)], [.int (M.1 48 2), .int l1], M)) rfl).trans ?_
    refine (e_ic_ge (hf := rfl)).trans ?_
    refine ite_in ?_ ?_
    · refine (evn_adv 3 (q' := (17, [some (.ref 48), some (.int l1)], [.int l1, .ref 50], M)) rfl).trans ?_
      refine (e_kL (q := (17, [some (.ref 48), some (.int l1)], [.int l1, .ref 50])) (q2 := (20, [some (.ref 48), some (.int l1)], [])) (M := M) (o := (pcl GG lay d 67 [.ref 50, .int l1] M)) (hf := rfl) rfl rfl).trans ?_
      refine kL_in (fun r1 M1 => ?_)
      refine (evn_adv 1 (q' := (26, [some (.ref 48), some (.int l1)], [.long r1], M1)) rfl).trans ?_
      exact evn_end 1 rfl
    · refine (evn_adv 1 (q' := (26, [some (.ref 48), some (.int l1)], [.long (Int64.ofInt (-1))], M)) rfl).trans ?_
      exact evn_end 1 rfl
/-- TermStrategies$Trail.takeFrom(LTermStrategies$Trail;)V -/
noncomputable abbrev E_258 (d : Nat) : PQ → PO := evn (rnn k_258 lay none (pcl GG lay d) 0)
theorem q_258 (d : Nat)  (M : PM) : pcl GG lay (d + 1) 258 [.ref 48, .ref 30] M = (wr (sI M 48 (va_up (M.1 48) 2 (M.1 30 2))) fun M1 => E_258 d (10, [some (.ref 48), some (.ref 30), some (.int (jn 0))], [], M1)) := by
  refine (pcl_un (mt := t_258) (by decide) rfl (Nat.le_of_ble_eq_true rfl)).trans ?_
  show E_258 d (0, [some (.ref 48), some (.ref 30), none], [], M) = _
  refine (evn_adv 3 (q' := (5, [some (.ref 48), some (.ref 30), none], [.int (M.1 30 2), .ref 48], M)) rfl).trans ?_
  refine (evn_adv 1 (q' := (8, [some (.ref 48), some (.ref 30), none], [], (sI M 48 (va_up (M.1 48) 2 (M.1 30 2))))) rfl).trans ?_
  refine wr_in (f := fun M1 => E_258 d (8, [some (.ref 48), some (.ref 30), none], [], M1)) (fun M1 => ?_)
  refine (evn_adv 2 (q' := (10, [some (.ref 48), some (.ref 30), some (.int (jn 0))], [], M1)) rfl).trans ?_
  rfl
theorem h_258_10 (d : Nat) (l2 : Int32) (M : PM) : E_258 d (10, [some (.ref 48), some (.ref 30), some (.int l2)], [], M) = (if l2 < (M.1 48 2) then (kI (pcl GG lay d 256 [.ref 30, .int l2] M) fun r1 M1 => (kV (pcl GG lay d 66 [.ref 49, .int l2, .int r1] M1) fun M2 => (kL (pcl GG lay d 257 [.ref 30, .int l2] M2) fun r3 M3 => (kV (pcl GG lay d 68 [.ref 50, .int l2, .long r3] M3) fun M4 => E_258 d (10, [some (.ref 48), some (.ref 30), some (.int (l2 + (jn 1)))], [], M4))))) else (rV M)) := by
  refine (evn_adv 3 (q' := (15, [some (.ref 48), some (.ref 30), some (.int l2)], [.int (M.1 48 2), .int l2], M)) rfl).trans ?_
  refine (e_ic_ge (hf := rfl)).trans ?_
  refine ite_in ?_ ?_
  · refine (evn_adv 5 (q' := (25, [some (.ref 48), some (.ref 30), some (.int l2)], [.int l2, .ref 30, .int l2, .ref 49], M)) rfl).trans ?_
    refine (e_kI (q := (25, [some (.ref 48), some (.ref 30), some (.int l2)], [.int l2, .ref 30, .int l2, .ref 49])) (q2 := (28, [some (.ref 48), some (.ref 30), some (.int l2)], [.int l2, .ref 49])) (M := M) (o := (pcl GG lay d 256 [.ref 30, .int l2] M)) (hf := rfl) rfl rfl).trans ?_
    refine kI_in (fun r1 M1 => ?_)
    refine (e_kV (q := (28, [some (.ref 48), some (.ref 30), some (.int l2)], [.int r1, .int l2, .ref 49])) (q2 := (31, [some (.ref 48), some (.ref 30), some (.int l2)], [])) (M := M1) (o := (pcl GG lay d 66 [.ref 49, .int l2, .int r1] M1)) (hf := rfl) rfl rfl).trans ?_
    refine kV_in (fun M2 => ?_)
    refine (evn_adv 5 (q' := (38, [some (.ref 48), some (.ref 30), some (.int l2)], [.int l2, .ref 30, .int l2, .ref 50], M2)) rfl).trans ?_
    refine (e_kL (q := (38, [some (.ref 48), some (.ref 30), some (.int l2)], [.int l2, .ref 30, .int l2, .ref 50])) (q2 := (41, [some (.ref 48), some (.ref 30), some (.int l2)], [.int l2, .ref 50])) (M := M2) (o := (pcl GG lay d 257 [.ref 30, .int l2] M2)) (hf := rfl) rfl rfl).trans ?_
    refine kL_in (fun r3 M3 => ?_)
    refine (e_kV (q := (41, [some (.ref 48), some (.ref 30), some (.int l2)], [.long r3, .int l2, .ref 50])) (q2 := (44, [some (.ref 48), some (.ref 30), some (.int l2)], [])) (M := M3) (o := (pcl GG lay d 68 [.ref 50, .int l2, .long r3] M3)) (hf := rfl) rfl rfl).trans ?_
    refine kV_in (fun M4 => ?_)
    refine (evn_adv 2 (q' := (10, [some (.ref 48), some (.ref 30), some (.int (l2 + (jn 1)))], [], M4)) rfl).trans ?_
    rfl
  · exact evn_end 1 rfl
/-- TermStrategies$Unifier.unifies(III)Z -/
noncomputable abbrev E_259 (d : Nat) : PQ → PO := evn (rnn k_259 lay none (pcl GG lay d) 2)
theorem q_259 (d : Nat) (l1 : Int32) (l2 : Int32) (l3 : Int32) (M : PM) : pcl GG lay (d + 1) 259 [.ref 40, .int l1, .int l2, .int l3] M = (kV (pcl GG lay d 260 [.ref 40] M) fun M1 => (kV (pcl GG lay d 261 [.ref 40, .int l1, .int (jn 0)] M1) fun M2 => (kV (pcl GG lay d 261 [.ref 40, .int l2, .int (jn 40)] M2) fun M3 => (kV (pcl GG lay d 262 [.ref 40, .int l3, .int (jn 40)] M3) fun M4 => E_259 d (27, [some (.ref 40), some (.int l1), some (.int l2), some (.int l3), some (.int (jn 0))], [], M4))))) := by
  refine (pcl_un (mt := t_259) (by decide) rfl (Nat.le_of_ble_eq_true rfl)).trans ?_
  show E_259 d (0, [some (.ref 40), some (.int l1), some (.int l2), some (.int l3), none], [], M) = _
  refine (evn_adv 1 (q' := (1, [some (.ref 40), some (.int l1), some (.int l2), some (.int l3), none], [.ref 40], M)) rfl).trans ?_
  refine (e_kV (q := (1, [some (.ref 40), some (.int l1), some (.int l2), some (.int l3), none], [.ref 40])) (q2 := (4, [some (.ref 40), some (.int l1), some (.int l2), some (.int l3), none], [])) (M := M) (o := (pcl GG lay d 260 [.ref 40] M)) (hf := rfl) rfl rfl).trans ?_
  refine kV_in (fun M1 => ?_)
  refine (evn_adv 3 (q' := (7, [some (.ref 40), some (.int l1), some (.int l2), some (.int l3), none], [.int (jn 0), .int l1, .ref 40], M1)) rfl).trans ?_
  refine (e_kV (q := (7, [some (.ref 40), some (.int l1), some (.int l2), some (.int l3), none], [.int (jn 0), .int l1, .ref 40])) (q2 := (10, [some (.ref 40), some (.int l1), some (.int l2), some (.int l3), none], [])) (M := M1) (o := (pcl GG lay d 261 [.ref 40, .int l1, .int (jn 0)] M1)) (hf := rfl) rfl rfl).trans ?_
  refine kV_in (fun M2 => ?_)
  refine (evn_adv 3 (q' := (14, [some (.ref 40), some (.int l1), some (.int l2), some (.int l3), none], [.int (jn 40), .int l2, .ref 40], M2)) rfl).trans ?_
  refine (e_kV (q := (14, [some (.ref 40), some (.int l1), some (.int l2), some (.int l3), none], [.int (jn 40), .int l2, .ref 40])) (q2 := (17, [some (.ref 40), some (.int l1), some (.int l2), some (.int l3), none], [])) (M := M2) (o := (pcl GG lay d 261 [.ref 40, .int l2, .int (jn 40)] M2)) (hf := rfl) rfl rfl).trans ?_
  refine kV_in (fun M3 => ?_)
  refine (evn_adv 3 (q' := (21, [some (.ref 40), some (.int l1), some (.int l2), some (.int l3), none], [.int (jn 40), .int l3, .ref 40], M3)) rfl).trans ?_
  refine (e_kV (q := (21, [some (.ref 40), some (.int l1), some (.int l2), some (.int l3), none], [.int (jn 40), .int l3, .ref 40])) (q2 := (24, [some (.ref 40), some (.int l1), some (.int l2), some (.int l3), none], [])) (M := M3) (o := (pcl GG lay d 262 [.ref 40, .int l3, .int (jn 40)] M3)) (hf := rfl) rfl rfl).trans ?_
  refine kV_in (fun M4 => ?_)
  refine (evn_adv 2 (q' := (27, [some (.ref 40), some (.int l1), some (.int l2), some (.int l3), some (.int (jn 0))], [], M4)) rfl).trans ?_
  rfl
theorem h_259_27 (d : Nat) (u1 : Option Value) (u2 : Option Value) (u3 : Option Value) (l4 : Int32) (M : PM) : E_259 d (27, [some (.ref 40), u1, u2, u3, some (.int l4)], [], M) = (if l4 < (jn 184) then (if jn 0 < (M.1 40 8) then (wr (sI M 40 (va_up (M.1 40) 8 ((M.1 40 8) - (jn 2)))) fun M1 => (kI (pcl GG lay d 65 [.ref 47, .int (M1.1 40 8)] M1) fun r2 M2 => (kI (pcl GG lay d 65 [.ref 47, .int ((M2.1 40 8) + (jn 1))] M2) fun r3 M3 => (kI (pcl GG lay d 263 [.ref 40, .int r2, .int r3] M3) fun r4 M4 => (if r4 = jn 0 then (rZ (jn 0) M4) else E_259 d (27, [some (.ref 40), u1, u2, u3, some (.int (l4 + (jn 1)))], [], M4)))))) else (kI (pcl GG lay d 266 [.ref 40] M) fun r1 M1 => (rZ r1 M1))) else (kI (pcl GG lay d 266 [.ref 40] M) fun r1 M1 => (rZ r1 M1))) := by
  refine (evn_adv 2 (q' := (32, [some (.ref 40), u1, u2, u3, some (.int l4)], [.int (jn 184), .int l4], M)) rfl).trans ?_
  refine (e_ic_ge (hf := rfl)).trans ?_
  refine ite_in ?_ ?_
  · refine (evn_adv 2 (q' := (39, [some (.ref 40), u1, u2, u3, some (.int l4)], [.int (M.1 40 8)], M)) rfl).trans ?_
    refine (e_if_le (hf := rfl)).trans ?_
    refine ite_in ?_ ?_
    · refine (evn_adv 5 (q' := (49, [some (.ref 40), u1, u2, u3, some (.int l4)], [.int ((M.1 40 8) - (jn 2)), .ref 40], M)) rfl).trans ?_
      refine (evn_adv 1 (q' := (52, [some (.ref 40), u1, u2, u3, some (.int l4)], [], (sI M 40 (va_up (M.1 40) 8 ((M.1 40 8) - (jn 2)))))) rfl).trans ?_
      refine wr_in (f := fun M1 => E_259 d (52, [some (.ref 40), u1, u2, u3, some (.int l4)], [], M1)) (fun M1 => ?_)
      refine (evn_adv 5 (q' := (61, [some (.ref 40), u1, u2, u3, some (.int l4)], [.int (M1.1 40 8), .ref 47, .ref 40], M1)) rfl).trans ?_
      refine (e_kI (q := (61, [some (.ref 40), u1, u2, u3, some (.int l4)], [.int (M1.1 40 8), .ref 47, .ref 40])) (q2 := (64, [some (.ref 40), u1, u2, u3, some (.int l4)], [.ref 40])) (M := M1) (o := (pcl GG lay d 65 [.ref 47, .int (M1.1 40 8)] M1)) (hf := rfl) rfl rfl).trans ?_
      refine kI_in (fun r2 M2 => ?_)
      refine (evn_adv 6 (q' := (74, [some (.ref 40), u1, u2, u3, some (.int l4)], [.int ((M2.1 40 8) + (jn 1)), .ref 47, .int r2, .ref 40], M2)) rfl).trans ?_
      refine (e_kI (q := (74, [some (.ref 40), u1, u2, u3, some (.int l4)], [.int ((M2.1 40 8) + (jn 1)), .ref 47, .int r2, .ref 40])) (q2 := (77, [some (.ref 40), u1, u2, u3, some (.int l4)], [.int r2, .ref 40])) (M := M2) (o := (pcl GG lay d 65 [.ref 47, .int ((M2.1 40 8) + (jn 1))] M2)) (hf := rfl) rfl rfl).trans ?_
      refine kI_in (fun r3 M3 => ?_)
      refine (e_kI (q := (77, [some (.ref 40), u1, u2, u3, some (.int l4)], [.int r3, .int r2, .ref 40])) (q2 := (80, [some (.ref 40), u1, u2, u3, some (.int l4)], [])) (M := M3) (o := (pcl GG lay d 263 [.ref 40, .int r2, .int r3] M3)) (hf := rfl) rfl rfl).trans ?_
      refine kI_in (fun r4 M4 => ?_)
      refine (e_if_ne (hf := rfl)).trans ?_
      refine ite_in ?_ ?_
      · refine (evn_adv 1 (q' := (84, [some (.ref 40), u1, u2, u3, some (.int l4)], [.int (jn 0)], M4)) rfl).trans ?_
        exact e_iretz (hf := rfl)
      · refine (evn_adv 2 (q' := (27, [some (.ref 40), u1, u2, u3, some (.int (l4 + (jn 1)))], [], M4)) rfl).trans ?_
        rfl
    · refine (evn_adv 1 (q' := (92, [some (.ref 40), u1, u2, u3, some (.int l4)], [.ref 40], M)) rfl).trans ?_
      refine (e_kI (q := (92, [some (.ref 40), u1, u2, u3, some (.int l4)], [.ref 40])) (q2 := (95, [some (.ref 40), u1, u2, u3, some (.int l4)], [])) (M := M) (o := (pcl GG lay d 266 [.ref 40] M)) (hf := rfl) rfl rfl).trans ?_
      refine kI_in (fun r1 M1 => ?_)
      exact e_iretz (hf := rfl)
  · refine (evn_adv 1 (q' := (92, [some (.ref 40), u1, u2, u3, some (.int l4)], [.ref 40], M)) rfl).trans ?_
    refine (e_kI (q := (92, [some (.ref 40), u1, u2, u3, some (.int l4)], [.ref 40])) (q2 := (95, [some (.ref 40), u1, u2, u3, some (.int l4)], [])) (M := M) (o := (pcl GG lay d 266 [.ref 40] M)) (hf := rfl) rfl rfl).trans ?_
    refine kI_in (fun r1 M1 => ?_)
    exact e_iretz (hf := rfl)
/-- TermStrategies$Unifier.clear()V -/
noncomputable abbrev E_260 (d : Nat) : PQ → PO := evn (rnn k_260 lay none (pcl GG lay d) 0)
theorem q_260 (d : Nat)  (M : PM) : pcl GG lay (d + 1) 260 [.ref 40] M = (wr (sI M 40 (va_up (M.1 40) 8 (jn 0))) fun M1 => (wr (sI M1 40 (va_up (M1.1 40) 9 (jn 0))) fun M2 => (wr (sI M2 40 (va_up (M2.1 40) 12 (jn 0))) fun M3 => (kV (pcl GG lay d 274 [.ref 41, .int (jn 0)] M3) fun M4 => (kV (pcl GG lay d 274 [.ref 46, .int (jn 0)] M4) fun M5 => (kV (pcl GG lay d 274 [.ref 45, .int (jn 0)] M5) fun M6 => E_260 d (41, [some (.ref 40), some (.int (jn 0))], [], M6))))))) := by
  refine (pcl_un (mt := t_260) (by decide) rfl (Nat.le_of_ble_eq_true rfl)).trans ?_
  show E_260 d (0, [some (.ref 40), none], [], M) = _
  refine (evn_adv 2 (q' := (2, [some (.ref 40), none], [.int (jn 0), .ref 40], M)) rfl).trans ?_
  refine (evn_adv 1 (q' := (5, [some (.ref 40), none], [], (sI M 40 (va_up (M.1 40) 8 (jn 0))))) rfl).trans ?_
  refine wr_in (f := fun M1 => E_260 d (5, [some (.ref 40), none], [], M1)) (fun M1 => ?_)
  refine (evn_adv 2 (q' := (7, [some (.ref 40), none], [.int (jn 0), .ref 40], M1)) rfl).trans ?_
  refine (evn_adv 1 (q' := (10, [some (.ref 40), none], [], (sI M1 40 (va_up (M1.1 40) 9 (jn 0))))) rfl).trans ?_
  refine wr_in (f := fun M2 => E_260 d (10, [some (.ref 40), none], [], M2)) (fun M2 => ?_)
  refine (evn_adv 2 (q' := (12, [some (.ref 40), none], [.int (jn 0), .ref 40], M2)) rfl).trans ?_
  refine (e_putz (q2 := (15, [some (.ref 40), none], [])) (k := 40) (j := 12) rfl rfl).trans ?_
  refine (if_pos (Or.inl rfl)).trans ?_
  refine wr_in (f := fun M3 => E_260 d (15, [some (.ref 40), none], [], M3)) (fun M3 => ?_)
  refine (evn_adv 3 (q' := (20, [some (.ref 40), none], [.int (jn 0), .ref 41], M3)) rfl).trans ?_
  refine (e_kV (q := (20, [some (.ref 40), none], [.int (jn 0), .ref 41])) (q2 := (23, [some (.ref 40), none], [])) (M := M3) (o := (pcl GG lay d 274 [.ref 41, .int (jn 0)] M3)) (hf := rfl) rfl rfl).trans ?_
  refine kV_in (fun M4 => ?_)
  refine (evn_adv 3 (q' := (28, [some (.ref 40), none], [.int (jn 0), .ref 46], M4)) rfl).trans ?_
  refine (e_kV (q := (28, [some (.ref 40), none], [.int (jn 0), .ref 46])) (q2 := (31, [some (.ref 40), none], [])) (M := M4) (o := (pcl GG lay d 274 [.ref 46, .int (jn 0)] M4)) (hf := rfl) rfl rfl).trans ?_
  refine kV_in (fun M5 => ?_)
  refine (evn_adv 3 (q' := (36, [some (.ref 40), none], [.int (jn 0), .ref 45], M5)) rfl).trans ?_
  refine (e_kV (q := (36, [some (.ref 40), none], [.int (jn 0), .ref 45])) (q2 := (39, [some (.ref 40), none], [])) (M := M5) (o := (pcl GG lay d 274 [.ref 45, .int (jn 0)] M5)) (hf := rfl) rfl rfl).trans ?_
  refine kV_in (fun M6 => ?_)
  refine (evn_adv 2 (q' := (41, [some (.ref 40), some (.int (jn 0))], [], M6)) rfl).trans ?_
  rfl
theorem h_260_41 (d : Nat) (l1 : Int32) (M : PM) : E_260 d (41, [some (.ref 40), some (.int l1)], [], M) = (if l1 < (jn 92) then (kV (pcl GG lay d 66 [.ref 43, .int l1, .int l1] M) fun M1 => (if l1 < (jn 12) then (kV (pcl GG lay d 66 [.ref 44, .int l1, .int (jz 1)] M1) fun M2 => E_260 d (41, [some (.ref 40), some (.int (l1 + (jn 1)))], [], M2)) else (kV (pcl GG lay d 66 [.ref 44, .int l1, .int (l1 - (jn 12))] M1) fun M2 => E_260 d (41, [some (.ref 40), some (.int (l1 + (jn 1)))], [], M2)))) else (rV M)) := by
  refine (evn_adv 2 (q' := (44, [some (.ref 40), some (.int l1)], [.int (jn 92), .int l1], M)) rfl).trans ?_
  refine (e_ic_ge (hf := rfl)).trans ?_
  refine ite_in ?_ ?_
  · refine (evn_adv 4 (q' := (53, [some (.ref 40), some (.int l1)], [.int l1, .int l1, .ref 43], M)) rfl).trans ?_
    refine (e_kV (q := (53, [some (.ref 40), some (.int l1)], [.int l1, .int l1, .ref 43])) (q2 := (56, [some (.ref 40), some (.int l1)], [])) (M := M) (o := (pcl GG lay d 66 [.ref 43, .int l1, .int l1] M)) (hf := rfl) rfl rfl).trans ?_
    refine kV_in (fun M1 => ?_)
    refine (evn_adv 5 (q' := (64, [some (.ref 40), some (.int l1)], [.int (jn 12), .int l1, .int l1, .ref 44], M1)) rfl).trans ?_
    refine (e_ic_ge (hf := rfl)).trans ?_
    refine ite_in ?_ ?_
    · refine (evn_adv 2 (q' := (75, [some (.ref 40), some (.int l1)], [.int (jz 1), .int l1, .ref 44], M1)) rfl).trans ?_
      refine (e_kV (q := (75, [some (.ref 40), some (.int l1)], [.int (jz 1), .int l1, .ref 44])) (q2 := (78, [some (.ref 40), some (.int l1)], [])) (M := M1) (o := (pcl GG lay d 66 [.ref 44, .int l1, .int (jz 1)] M1)) (hf := rfl) rfl rfl).trans ?_
      refine kV_in (fun M2 => ?_)
      refine (evn_adv 2 (q' := (41, [some (.ref 40), some (.int (l1 + (jn 1)))], [], M2)) rfl).trans ?_
      rfl
    · refine (evn_adv 3 (q' := (75, [some (.ref 40), some (.int l1)], [.int (l1 - (jn 12)), .int l1, .ref 44], M1)) rfl).trans ?_
      refine (e_kV (q := (75, [some (.ref 40), some (.int l1)], [.int (l1 - (jn 12)), .int l1, .ref 44])) (q2 := (78, [some (.ref 40), some (.int l1)], [])) (M := M1) (o := (pcl GG lay d 66 [.ref 44, .int l1, .int (l1 - (jn 12))] M1)) (hf := rfl) rfl rfl).trans ?_
      refine kV_in (fun M2 => ?_)
      refine (evn_adv 2 (q' := (41, [some (.ref 40), some (.int (l1 + (jn 1)))], [], M2)) rfl).trans ?_
      rfl
  · exact evn_end 1 rfl
/-- TermStrategies$Unifier.load(II)V -/
noncomputable abbrev E_261 (d : Nat) : PQ → PO := evn (rnn k_261 lay none (pcl GG lay d) 0)
theorem q_261 (d : Nat) (l1 : Int32) (l2 : Int32) (M : PM) : pcl GG lay (d + 1) 261 [.ref 40, .int l1, .int l2] M = (kI (pcl GG lay d 234 [.ref 6, .int l1] M) fun r1 M1 => E_261 d (12, [some (.ref 40), some (.int l1), some (.int l2), some (.int r1), some (.int (jn 0)), none], [], M1)) := by
  refine (pcl_un (mt := t_261) (by decide) rfl (Nat.le_of_ble_eq_true rfl)).trans ?_
  show E_261 d (0, [some (.ref 40), some (.int l1), some (.int l2), none, none, none], [], M) = _
  refine (evn_adv 3 (q' := (5, [some (.ref 40), some (.int l1), some (.int l2), none, none, none], [.int l1, .ref 6], M)) rfl).trans ?_
  refine (e_kI (q := (5, [some (.ref 40), some (.int l1), some (.int l2), none, none, none], [.int l1, .ref 6])) (q2 := (8, [some (.ref 40), some (.int l1), some (.int l2), none, none, none], [])) (M := M) (o := (pcl GG lay d 234 [.ref 6, .int l1] M)) (hf := rfl) rfl rfl).trans ?_
  refine kI_in (fun r1 M1 => ?_)
  refine (evn_adv 3 (q' := (12, [some (.ref 40), some (.int l1), some (.int l2), some (.int r1), some (.int (jn 0)), none], [], M1)) rfl).trans ?_
  rfl
theorem h_261_12 (d : Nat) (l1 : Int32) (l2 : Int32) (l3 : Int32) (l4 : Int32) (u5 : Option Value) (M : PM) : E_261 d (12, [some (.ref 40), some (.int l1), some (.int l2), some (.int l3), some (.int l4), u5], [], M) = (if l4 < l3 then (kI (pcl GG lay d 231 [.ref 6, .int (l1 + l4)] M) fun r1 M1 => (kV (pcl GG lay d 66 [.ref 41, .int (l2 + l4), .int r1] M1) fun M2 => (kI (pcl GG lay d 63 [.int r1] M2) fun r3 M3 => (if r3 = (jn 2) then (kI (pcl GG lay d 233 [.ref 6, .int ((l1 + l4) + (jn 1))] M3) fun r4 M4 => (kV (pcl GG lay d 66 [.ref 42, .int (l2 + l4), .int ((l2 + r4) - l1)] M4) fun M5 => E_261 d (12, [some (.ref 40), some (.int l1), some (.int l2), some (.int l3), some (.int (l4 + (jn 1))), some (.int r1)], [], M5))) else (kV (pcl GG lay d 66 [.ref 42, .int (l2 + l4), .int (jz 1)] M3) fun M4 => E_261 d (12, [some (.ref 40), some (.int l1), some (.int l2), some (.int l3), some (.int (l4 + (jn 1))), some (.int r1)], [], M4)))))) else (rV M)) := by
  refine (evn_adv 2 (q' := (15, [some (.ref 40), some (.int l1), some (.int l2), some (.int l3), some (.int l4), u5], [.int l3, .int l4], M)) rfl).trans ?_
  refine (e_ic_ge (hf := rfl)).trans ?_
  refine ite_in ?_ ?_
  · refine (evn_adv 5 (q' := (26, [some (.ref 40), some (.int l1), some (.int l2), some (.int l3), some (.int l4), u5], [.int (l1 + l4), .ref 6], M)) rfl).trans ?_
    refine (e_kI (q := (26, [some (.ref 40), some (.int l1), some (.int l2), some (.int l3), some (.int l4), u5], [.int (l1 + l4), .ref 6])) (q2 := (29, [some (.ref 40), some (.int l1), some (.int l2), some (.int l3), some (.int l4), u5], [])) (M := M) (o := (pcl GG lay d 231 [.ref 6, .int (l1 + l4)] M)) (hf := rfl) rfl rfl).trans ?_
    refine kI_in (fun r1 M1 => ?_)
    refine (evn_adv 7 (q' := (41, [some (.ref 40), some (.int l1), some (.int l2), some (.int l3), some (.int l4), some (.int r1)], [.int r1, .int (l2 + l4), .ref 41], M1)) rfl).trans ?_
    refine (e_kV (q := (41, [some (.ref 40), some (.int l1), some (.int l2), some (.int l3), some (.int l4), some (.int r1)], [.int r1, .int (l2 + l4), .ref 41])) (q2 := (44, [some (.ref 40), some (.int l1), some (.int l2), some (.int l3), some (.int l4), some (.int r1)], [])) (M := M1) (o := (pcl GG lay d 66 [.ref 41, .int (l2 + l4), .int r1] M1)) (hf := rfl) rfl rfl).trans ?_
    refine kV_in (fun M2 => ?_)
    refine (evn_adv 6 (q' := (54, [some (.ref 40), some (.int l1), some (.int l2), some (.int l3), some (.int l4), some (.int r1)], [.int r1, .int (l2 + l4), .ref 42], M2)) rfl).trans ?_
    refine (e_kI (q := (54, [some (.ref 40), some (.int l1), some (.int l2), some (.int l3), some (.int l4), some (.int r1)], [.int r1, .int (l2 + l4), .ref 42])) (q2 := (57, [some (.ref 40), some (.int l1), some (.int l2), some (.int l3), some (.int l4), some (.int r1)], [.int (l2 + l4), .ref 42])) (M := M2) (o := (pcl GG lay d 63 [.int r1] M2)) (hf := rfl) rfl rfl).trans ?_
    refine kI_in (fun r3 M3 => ?_)
    refine (evn_adv 1 (q' := (58, [some (.ref 40), some (.int l1), some (.int l2), some (.int l3), some (.int l4), some (.int r1)], [.int (jn 2), .int r3, .int (l2 + l4), .ref 42], M3)) rfl).trans ?_
    refine (e_ic_ne (hf := rfl)).trans ?_
    refine ite_in ?_ ?_
    · refine (evn_adv 8 (q' := (72, [some (.ref 40), some (.int l1), some (.int l2), some (.int l3), some (.int l4), some (.int r1)], [.int ((l1 + l4) + (jn 1)), .ref 6, .int l2, .int (l2 + l4), .ref 42], M3)) rfl).trans ?_
      refine (e_kI (q := (72, [some (.ref 40), some (.int l1), some (.int l2), some (.int l3), some (.int l4), some (.int r1)], [.int ((l1 + l4) + (jn 1)), .ref 6, .int l2, .int (l2 + l4), .ref 42])) (q2 := (75, [some (.ref 40), some (.int l1), some (.int l2), some (.int l3), some (.int l4), some (.int r1)], [.int l2, .int (l2 + l4), .ref 42])) (M := M3) (o := (pcl GG lay d 233 [.ref 6, .int ((l1 + l4) + (jn 1))] M3)) (hf := rfl) rfl rfl).trans ?_
      refine kI_in (fun r4 M4 => ?_)
      refine (evn_adv 4 (q' := (82, [some (.ref 40), some (.int l1), some (.int l2), some (.int l3), some (.int l4), some (.int r1)], [.int ((l2 + r4) - l1), .int (l2 + l4), .ref 42], M4)) rfl).trans ?_
      refine (e_kV (q := (82, [some (.ref 40), some (.int l1), some (.int l2), some (.int l3), some (.int l4), some (.int r1)], [.int ((l2 + r4) - l1), .int (l2 + l4), .ref 42])) (q2 := (85, [some (.ref 40), some (.int l1), some (.int l2), some (.int l3), some (.int l4), some (.int r1)], [])) (M := M4) (o := (pcl GG lay d 66 [.ref 42, .int (l2 + l4), .int ((l2 + r4) - l1)] M4)) (hf := rfl) rfl rfl).trans ?_
      refine kV_in (fun M5 => ?_)
      refine (evn_adv 2 (q' := (12, [some (.ref 40), some (.int l1), some (.int l2), some (.int l3), some (.int (l4 + (jn 1))), some (.int r1)], [], M5)) rfl).trans ?_
      rfl
    · refine (evn_adv 1 (q' := (82, [some (.ref 40), some (.int l1), some (.int l2), some (.int l3), some (.int l4), some (.int r1)], [.int (jz 1), .int (l2 + l4), .ref 42], M3)) rfl).trans ?_
      refine (e_kV (q := (82, [some (.ref 40), some (.int l1), some (.int l2), some (.int l3), some (.int l4), some (.int r1)], [.int (jz 1), .int (l2 + l4), .ref 42])) (q2 := (85, [some (.ref 40), some (.int l1), some (.int l2), some (.int l3), some (.int l4), some (.int r1)], [])) (M := M3) (o := (pcl GG lay d 66 [.ref 42, .int (l2 + l4), .int (jz 1)] M3)) (hf := rfl) rfl rfl).trans ?_
      refine kV_in (fun M4 => ?_)
      refine (evn_adv 2 (q' := (12, [some (.ref 40), some (.int l1), some (.int l2), some (.int l3), some (.int (l4 + (jn 1))), some (.int r1)], [], M4)) rfl).trans ?_
      rfl
  · exact evn_end 1 rfl
/-- TermStrategies$Unifier.putOff(II)V -/
noncomputable abbrev E_262 (d : Nat) : PQ → PO := evn (rnn k_262 lay none (pcl GG lay d) 0)
theorem q_262 (d : Nat) (l1 : Int32) (l2 : Int32) (M : PM) : pcl GG lay (d + 1) 262 [.ref 40, .int l1, .int l2] M = (kV (pcl GG lay d 66 [.ref 47, .int (M.1 40 8), .int l1] M) fun M1 => (kV (pcl GG lay d 66 [.ref 47, .int ((M1.1 40 8) + (jn 1)), .int l2] M1) fun M2 => (wr (sI M2 40 (va_up (M2.1 40) 8 ((M2.1 40 8) + (jn 2)))) fun M3 => (rV M3)))) := by
  refine (pcl_un (mt := t_262) (by decide) rfl (Nat.le_of_ble_eq_true rfl)).trans ?_
  show E_262 d (0, [some (.ref 40), some (.int l1), some (.int l2)], [], M) = _
  refine (evn_adv 5 (q' := (9, [some (.ref 40), some (.int l1), some (.int l2)], [.int l1, .int (M.1 40 8), .ref 47], M)) rfl).trans ?_
  refine (e_kV (q := (9, [some (.ref 40), some (.int l1), some (.int l2)], [.int l1, .int (M.1 40 8), .ref 47])) (q2 := (12, [some (.ref 40), some (.int l1), some (.int l2)], [])) (M := M) (o := (pcl GG lay d 66 [.ref 47, .int (M.1 40 8), .int l1] M)) (hf := rfl) rfl rfl).trans ?_
  refine kV_in (fun M1 => ?_)
  refine (evn_adv 7 (q' := (23, [some (.ref 40), some (.int l1), some (.int l2)], [.int l2, .int ((M1.1 40 8) + (jn 1)), .ref 47], M1)) rfl).trans ?_
  refine (e_kV (q := (23, [some (.ref 40), some (.int l1), some (.int l2)], [.int l2, .int ((M1.1 40 8) + (jn 1)), .ref 47])) (q2 := (26, [some (.ref 40), some (.int l1), some (.int l2)], [])) (M := M1) (o := (pcl GG lay d 66 [.ref 47, .int ((M1.1 40 8) + (jn 1)), .int l2] M1)) (hf := rfl) rfl rfl).trans ?_
  refine kV_in (fun M2 => ?_)
  refine (evn_adv 5 (q' := (33, [some (.ref 40), some (.int l1), some (.int l2)], [.int ((M2.1 40 8) + (jn 2)), .ref 40], M2)) rfl).trans ?_
  refine (evn_adv 1 (q' := (36, [some (.ref 40), some (.int l1), some (.int l2)], [], (sI M2 40 (va_up (M2.1 40) 8 ((M2.1 40 8) + (jn 2)))))) rfl).trans ?_
  refine wr_in (f := fun M3 => E_262 d (36, [some (.ref 40), some (.int l1), some (.int l2)], [], M3)) (fun M3 => ?_)
  exact evn_end 1 rfl
/-- TermStrategies$Unifier.joins(II)Z -/
noncomputable abbrev E_263 (d : Nat) : PQ → PO := evn (rnn k_263 lay none (pcl GG lay d) 2)
theorem q_263 (d : Nat) (l1 : Int32) (l2 : Int32) (M : PM) : pcl GG lay (d + 1) 263 [.ref 40, .int l1, .int l2] M = (kI (pcl GG lay d 264 [.ref 40, .int l1] M) fun r1 M1 => (kI (pcl GG lay d 265 [.ref 40, .int r1] M1) fun r2 M2 => (kI (pcl GG lay d 264 [.ref 40, .int l2] M2) fun r3 M3 => (kI (pcl GG lay d 265 [.ref 40, .int r3] M3) fun r4 M4 => (if r2 = r4 then (rZ (jn 1) M4) else (kI (pcl GG lay d 65 [.ref 44, .int r2] M4) fun r5 M5 => (kI (pcl GG lay d 65 [.ref 44, .int r4] M5) fun r6 M6 => (kV (pcl GG lay d 66 [.ref 43, .int r2, .int r4] M6) fun M7 => (if r6 = (jz 1) then (kV (pcl GG lay d 66 [.ref 44, .int r4, .int r5] M7) fun M8 => (if r5 = (jz 1) then (rZ (jn 1) M8) else (if r6 = (jz 1) then (rZ (jn 1) M8) else (kI (pcl GG lay d 65 [.ref 41, .int r5] M8) fun r9 M9 => (kI (pcl GG lay d 65 [.ref 41, .int r6] M9) fun r10 M10 => (if r9 = r10 then (kI (pcl GG lay d 63 [.int r9] M10) fun r11 M11 => (if r11 < (jn 1) then (kI (pcl GG lay d 63 [.int r9] M11) fun r12 M12 => (if r12 = (jn 2) then (kI (pcl GG lay d 65 [.ref 42, .int r5] M12) fun r13 M13 => (kI (pcl GG lay d 65 [.ref 42, .int r6] M13) fun r14 M14 => (kV (pcl GG lay d 262 [.ref 40, .int r13, .int r14] M14) fun M15 => (rZ (jn 1) M15)))) else (rZ (jn 1) M12))) else (kV (pcl GG lay d 262 [.ref 40, .int (r5 + (jn 1)), .int (r6 + (jn 1))] M11) fun M12 => (kI (pcl GG lay d 63 [.int r9] M12) fun r13 M13 => (if r13 = (jn 2) then (kI (pcl GG lay d 65 [.ref 42, .int r5] M13) fun r14 M14 => (kI (pcl GG lay d 65 [.ref 42, .int r6] M14) fun r15 M15 => (kV (pcl GG lay d 262 [.ref 40, .int r14, .int r15] M15) fun M16 => (rZ (jn 1) M16)))) else (rZ (jn 1) M13)))))) else (rZ (jn 0) M10))))))) else (if r5 = (jz 1) then (rZ (jn 1) M7) else (if r6 = (jz 1) then (rZ (jn 1) M7) else (kI (pcl GG lay d 65 [.ref 41, .int r5] M7) fun r8 M8 => (kI (pcl GG lay d 65 [.ref 41, .int r6] M8) fun r9 M9 => (if r8 = r9 then (kI (pcl GG lay d 63 [.int r8] M9) fun r10 M10 => (if r10 < (jn 1) then (kI (pcl GG lay d 63 [.int r8] M10) fun r11 M11 => (if r11 = (jn 2) then (kI (pcl GG lay d 65 [.ref 42, .int r5] M11) fun r12 M12 => (kI (pcl GG lay d 65 [.ref 42, .int r6] M12) fun r13 M13 => (kV (pcl GG lay d 262 [.ref 40, .int r12, .int r13] M13) fun M14 => (rZ (jn 1) M14)))) else (rZ (jn 1) M11))) else (kV (pcl GG lay d 262 [.ref 40, .int (r5 + (jn 1)), .int (r6 + (jn 1))] M10) fun M11 => (kI (pcl GG lay d 63 [.int r8] M11) fun r12 M12 => (if r12 = (jn 2) then (kI (pcl GG lay d 65 [.ref 42, .int r5] M12) fun r13 M13 => (kI (pcl GG lay d 65 [.ref 42, .int r6] M13) fun r14 M14 => (kV (pcl GG lay d 262 [.ref 40, .int r13, .int r14] M14) fun M15 => (rZ (jn 1) M15)))) else (rZ (jn 1) M12)))))) else (rZ (jn 0) M9))))))))))))))) := by
  refine (pcl_un (mt := t_263) (by decide) rfl (Nat.le_of_ble_eq_true rfl)).trans ?_
  show E_263 d (0, [some (.ref 40), some (.int l1), some (.int l2), none, none, none, none, none], [], M) = _
  refine (evn_adv 3 (q' := (3, [some (.ref 40), some (.int l1), some (.int l2), none, none, none, none, none], [.int l1, .ref 40, .ref 40], M)) rfl).trans ?_
  refine (e_kI (q := (3, [some (.ref 40), some (.int l1), some (.int l2), none, none, none, none, none], [.int l1, .ref 40, .ref 40])) (q2 := (6, [some (.ref 40), some (.int l1), some (.int l2), none, none, none, none, none], [.ref 40])) (M := M) (o := (pcl GG lay d 264 [.ref 40, .int l1] M)) (hf := rfl) rfl rfl).trans ?_
  refine kI_in (fun r1 M1 => ?_)
  refine (e_kI (q := (6, [some (.ref 40), some (.int l1), some (.int l2), none, none, none, none, none], [.int r1, .ref 40])) (q2 := (9, [some (.ref 40), some (.int l1), some (.int l2), none, none, none, none, none], [])) (M := M1) (o := (pcl GG lay d 265 [.ref 40, .int r1] M1)) (hf := rfl) rfl rfl).trans ?_
  refine kI_in (fun r2 M2 => ?_)
  refine (evn_adv 4 (q' := (13, [some (.ref 40), some (.int l1), some (.int l2), some (.int r2), none, none, none, none], [.int l2, .ref 40, .ref 40], M2)) rfl).trans ?_
  refine (e_kI (q := (13, [some (.ref 40), some (.int l1), some (.int l2), some (.int r2), none, none, none, none], [.int l2, .ref 40, .ref 40])) (q2 := (16, [some (.ref 40), some (.int l1), some (.int l2), some (.int r2), none, none, none, none], [.ref 40])) (M := M2) (o := (pcl GG lay d 264 [.ref 40, .int l2] M2)) (hf := rfl) rfl rfl).trans ?_
  refine kI_in (fun r3 M3 => ?_)
  refine (e_kI (q := (16, [some (.ref 40), some (.int l1), some (.int l2), some (.int r2), none, none, none, none], [.int r3, .ref 40])) (q2 := (19, [some (.ref 40), some (.int l1), some (.int l2), some (.int r2), none, none, none, none], [])) (M := M3) (o := (pcl GG lay d 265 [.ref 40, .int r3] M3)) (hf := rfl) rfl rfl).trans ?_
  refine kI_in (fun r4 M4 => ?_)
  refine (evn_adv 3 (q' := (24, [some (.ref 40), some (.int l1), some (.int l2), some (.int r2), some (.int r4), none, none, none], [.int r4, .int r2], M4)) rfl).trans ?_
  refine (e_ic_ne (hf := rfl)).trans ?_
  refine ite_in ?_ ?_
  · refine (evn_adv 1 (q' := (28, [some (.ref 40), some (.int l1), some (.int l2), some (.int r2), some (.int r4), none, none, none], [.int (jn 1)], M4)) rfl).trans ?_
    exact e_iretz (hf := rfl)
  · refine (evn_adv 3 (q' := (34, [some (.ref 40), some (.int l1), some (.int l2), some (.int r2), some (.int r4), none, none, none], [.int r2, .ref 44], M4)) rfl).trans ?_
    refine (e_kI (q := (34, [some (.ref 40), some (.int l1), some (.int l2), some (.int r2), some (.int r4), none, none, none], [.int r2, .ref 44])) (q2 := (37, [some (.ref 40), some (.int l1), some (.int l2), some (.int r2), some (.int r4), none, none, none], [])) (M := M4) (o := (pcl GG lay d 65 [.ref 44, .int r2] M4)) (hf := rfl) rfl rfl).trans ?_
    refine kI_in (fun r5 M5 => ?_)
    refine (evn_adv 4 (q' := (45, [some (.ref 40), some (.int l1), some (.int l2), some (.int r2), some (.int r4), some (.int r5), none, none], [.int r4, .ref 44], M5)) rfl).trans ?_
    refine (e_kI (q := (45, [some (.ref 40), some (.int l1), some (.int l2), some (.int r2), some (.int r4), some (.int r5), none, none], [.int r4, .ref 44])) (q2 := (48, [some (.ref 40), some (.int l1), some (.int l2), some (.int r2), some (.int r4), some (.int r5), none, none], [])) (M := M5) (o := (pcl GG lay d 65 [.ref 44, .int r4] M5)) (hf := rfl) rfl rfl).trans ?_
    refine kI_in (fun r6 M6 => ?_)
    refine (evn_adv 5 (q' := (57, [some (.ref 40), some (.int l1), some (.int l2), some (.int r2), some (.int r4), some (.int r5), some (.int r6), none], [.int r4, .int r2, .ref 43], M6)) rfl).trans ?_
    refine (e_kV (q := (57, [some (.ref 40), some (.int l1), some (.int l2), some (.int r2), some (.int r4), some (.int r5), some (.int r6), none], [.int r4, .int r2, .ref 43])) (q2 := (60, [some (.ref 40), some (.int l1), some (.int l2), some (.int r2), some (.int r4), some (.int r5), some (.int r6), none], [])) (M := M6) (o := (pcl GG lay d 66 [.ref 43, .int r2, .int r4] M6)) (hf := rfl) rfl rfl).trans ?_
    refine kV_in (fun M7 => ?_)
    refine (evn_adv 2 (q' := (63, [some (.ref 40), some (.int l1), some (.int l2), some (.int r2), some (.int r4), some (.int r5), some (.int r6), none], [.int (jz 1), .int r6], M7)) rfl).trans ?_
    refine (e_ic_ne (hf := rfl)).trans ?_
    refine ite_in ?_ ?_
    · refine (evn_adv 4 (q' := (74, [some (.ref 40), some (.int l1), some (.int l2), some (.int r2), some (.int r4), some (.int r5), some (.int r6), none], [.int r5, .int r4, .ref 44], M7)) rfl).trans ?_
      refine (e_kV (q := (74, [some (.ref 40), some (.int l1), some (.int l2), some (.int r2), some (.int r4), some (.int r5), some (.int r6), none], [.int r5, .int r4, .ref 44])) (q2 := (77, [some (.ref 40), some (.int l1), some (.int l2), some (.int r2), some (.int r4), some (.int r5), some (.int r6), none], [])) (M := M7) (o := (pcl GG lay d 66 [.ref 44, .int r4, .int r5] M7)) (hf := rfl) rfl rfl).trans ?_
      refine kV_in (fun M8 => ?_)
      refine (evn_adv 2 (q' := (80, [some (.ref 40), some (.int l1), some (.int l2), some (.int r2), some (.int r4), some (.int r5), some (.int r6), none], [.int (jz 1), .int r5], M8)) rfl).trans ?_
      refine (e_ic_eq (hf := rfl)).trans ?_
      refine ite_in ?_ ?_
      · refine (evn_adv 1 (q' := (90, [some (.ref 40), some (.int l1), some (.int l2), some (.int r2), some (.int r4), some (.int r5), some (.int r6), none], [.int (jn 1)], M8)) rfl).trans ?_
        exact e_iretz (hf := rfl)
      · refine (evn_adv 2 (q' := (86, [some (.ref 40), some (.int l1), some (.int l2), some (.int r2), some (.int r4), some (.int r5), some (.int r6), none], [.int (jz 1), .int r6], M8)) rfl).trans ?_
        refine (e_ic_ne (hf := rfl)).trans ?_
        refine ite_in ?_ ?_
        · refine (evn_adv 1 (q' := (90, [some (.ref 40), some (.int l1), some (.int l2), some (.int r2), some (.int r4), some (.int r5), some (.int r6), none], [.int (jn 1)], M8)) rfl).trans ?_
          exact e_iretz (hf := rfl)
        · refine (evn_adv 3 (q' := (97, [some (.ref 40), some (.int l1), some (.int l2), some (.int r2), some (.int r4), some (.int r5), some (.int r6), none], [.int r5, .ref 41], M8)) rfl).trans ?_
          refine (e_kI (q := (97, [some (.ref 40), some (.int l1), some (.int l2), some (.int r2), some (.int r4), some (.int r5), some (.int r6), none], [.int r5, .ref 41])) (q2 := (100, [some (.ref 40), some (.int l1), some (.int l2), some (.int r2), some (.int r4), some (.int r5), some (.int r6), none], [])) (M := M8) (o := (pcl GG lay d 65 [.ref 41, .int r5] M8)) (hf := rfl) rfl rfl).trans ?_
          refine kI_in (fun r9 M9 => ?_)
          refine (evn_adv 5 (q' := (110, [some (.ref 40), some (.int l1), some (.int l2), some (.int r2), some (.int r4), some (.int r5), some (.int r6), some (.int r9)], [.int r6, .ref 41, .int r9], M9)) rfl).trans ?_
          refine (e_kI (q := (110, [some (.ref 40), some (.int l1), some (.int l2), some (.int r2), some (.int r4), some (.int r5), some (.int r6), some (.int r9)], [.int r6, .ref 41, .int r9])) (q2 := (113, [some (.ref 40), some (.int l1), some (.int l2), some (.int r2), some (.int r4), some (.int r5), some (.int r6), some (.int r9)], [.int r9])) (M := M9) (o := (pcl GG lay d 65 [.ref 41, .int r6] M9)) (hf := rfl) rfl rfl).trans ?_
          refine kI_in (fun r10 M10 => ?_)
          refine (e_ic_eq (hf := rfl)).trans ?_
          refine ite_in ?_ ?_
          · refine (evn_adv 1 (q' := (120, [some (.ref 40), some (.int l1), some (.int l2), some (.int r2), some (.int r4), some (.int r5), some (.int r6), some (.int r9)], [.int r9], M10)) rfl).trans ?_
            refine (e_kI (q := (120, [some (.ref 40), some (.int l1), some (.int l2), some (.int r2), some (.int r4), some (.int r5), some (.int r6), some (.int r9)], [.int r9])) (q2 := (123, [some (.ref 40), some (.int l1), some (.int l2), some (.int r2), some (.int r4), some (.int r5), some (.int r6), some (.int r9)], [])) (M := M10) (o := (pcl GG lay d 63 [.int r9] M10)) (hf := rfl) rfl rfl).trans ?_
            refine kI_in (fun r11 M11 => ?_)
            refine (evn_adv 1 (q' := (124, [some (.ref 40), some (.int l1), some (.int l2), some (.int r2), some (.int r4), some (.int r5), some (.int r6), some (.int r9)], [.int (jn 1), .int r11], M11)) rfl).trans ?_
            refine (e_ic_lt (hf := rfl)).trans ?_
            refine ite_in ?_ ?_
            · refine (evn_adv 1 (q' := (141, [some (.ref 40), some (.int l1), some (.int l2), some (.int r2), some (.int r4), some (.int r5), some (.int r6), some (.int r9)], [.int r9], M11)) rfl).trans ?_
              refine (e_kI (q := (141, [some (.ref 40), some (.int l1), some (.int l2), some (.int r2), some (.int r4), some (.int r5), some (.int r6), some (.int r9)], [.int r9])) (q2 := (144, [some (.ref 40), some (.int l1), some (.int l2), some (.int r2), some (.int r4), some (.int r5), some (.int r6), some (.int r9)], [])) (M := M11) (o := (pcl GG lay d 63 [.int r9] M11)) (hf := rfl) rfl rfl).trans ?_
              refine kI_in (fun r12 M12 => ?_)
              refine (evn_adv 1 (q' := (145, [some (.ref 40), some (.int l1), some (.int l2), some (.int r2), some (.int r4), some (.int r5), some (.int r6), some (.int r9)], [.int (jn 2), .int r12], M12)) rfl).trans ?_
              refine (e_ic_ne (hf := rfl)).trans ?_
              refine ite_in ?_ ?_
              · refine (evn_adv 4 (q' := (155, [some (.ref 40), some (.int l1), some (.int l2), some (.int r2), some (.int r4), some (.int r5), some (.int r6), some (.int r9)], [.int r5, .ref 42, .ref 40], M12)) rfl).trans ?_
                refine (e_kI (q := (155, [some (.ref 40), some (.int l1), some (.int l2), some (.int r2), some (.int r4), some (.int r5), some (.int r6), some (.int r9)], [.int r5, .ref 42, .ref 40])) (q2 := (158, [some (.ref 40), some (.int l1), some (.int l2), some (.int r2), some (.int r4), some (.int r5), some (.int r6), some (.int r9)], [.ref 40])) (M := M12) (o := (pcl GG lay d 65 [.ref 42, .int r5] M12)) (hf := rfl) rfl rfl).trans ?_
                refine kI_in (fun r13 M13 => ?_)
                refine (evn_adv 3 (q' := (164, [some (.ref 40), some (.int l1), some (.int l2), some (.int r2), some (.int r4), some (.int r5), some (.int r6), some (.int r9)], [.int r6, .ref 42, .int r13, .ref 40], M13)) rfl).trans ?_
                refine (e_kI (q := (164, [some (.ref 40), some (.int l1), some (.int l2), some (.int r2), some (.int r4), some (.int r5), some (.int r6), some (.int r9)], [.int r6, .ref 42, .int r13, .ref 40])) (q2 := (167, [some (.ref 40), some (.int l1), some (.int l2), some (.int r2), some (.int r4), some (.int r5), some (.int r6), some (.int r9)], [.int r13, .ref 40])) (M := M13) (o := (pcl GG lay d 65 [.ref 42, .int r6] M13)) (hf := rfl) rfl rfl).trans ?_
                refine kI_in (fun r14 M14 => ?_)
                refine (e_kV (q := (167, [some (.ref 40), some (.int l1), some (.int l2), some (.int r2), some (.int r4), some (.int r5), some (.int r6), some (.int r9)], [.int r14, .int r13, .ref 40])) (q2 := (170, [some (.ref 40), some (.int l1), some (.int l2), some (.int r2), some (.int r4), some (.int r5), some (.int r6), some (.int r9)], [])) (M := M14) (o := (pcl GG lay d 262 [.ref 40, .int r13, .int r14] M14)) (hf := rfl) rfl rfl).trans ?_
                refine kV_in (fun M15 => ?_)
                refine (evn_adv 1 (q' := (171, [some (.ref 40), some (.int l1), some (.int l2), some (.int r2), some (.int r4), some (.int r5), some (.int r6), some (.int r9)], [.int (jn 1)], M15)) rfl).trans ?_
                exact e_iretz (hf := rfl)
              · refine (evn_adv 1 (q' := (171, [some (.ref 40), some (.int l1), some (.int l2), some (.int r2), some (.int r4), some (.int r5), some (.int r6), some (.int r9)], [.int (jn 1)], M12)) rfl).trans ?_
                exact e_iretz (hf := rfl)
            · refine (evn_adv 7 (q' := (136, [some (.ref 40), some (.int l1), some (.int l2), some (.int r2), some (.int r4), some (.int r5), some (.int r6), some (.int r9)], [.int (r6 + (jn 1)), .int (r5 + (jn 1)), .ref 40], M11)) rfl).trans ?_
              refine (e_kV (q := (136, [some (.ref 40), some (.int l1), some (.int l2), some (.int r2), some (.int r4), some (.int r5), some (.int r6), some (.int r9)], [.int (r6 + (jn 1)), .int (r5 + (jn 1)), .ref 40])) (q2 := (139, [some (.ref 40), some (.int l1), some (.int l2), some (.int r2), some (.int r4), some (.int r5), some (.int r6), some (.int r9)], [])) (M := M11) (o := (pcl GG lay d 262 [.ref 40, .int (r5 + (jn 1)), .int (r6 + (jn 1))] M11)) (hf := rfl) rfl rfl).trans ?_
              refine kV_in (fun M12 => ?_)
              refine (evn_adv 1 (q' := (141, [some (.ref 40), some (.int l1), some (.int l2), some (.int r2), some (.int r4), some (.int r5), some (.int r6), some (.int r9)], [.int r9], M12)) rfl).trans ?_
              refine (e_kI (q := (141, [some (.ref 40), some (.int l1), some (.int l2), some (.int r2), some (.int r4), some (.int r5), some (.int r6), some (.int r9)], [.int r9])) (q2 := (144, [some (.ref 40), some (.int l1), some (.int l2), some (.int r2), some (.int r4), some (.int r5), some (.int r6), some (.int r9)], [])) (M := M12) (o := (pcl GG lay d 63 [.int r9] M12)) (hf := rfl) rfl rfl).trans ?_
              refine kI_in (fun r13 M13 => ?_)
              refine (evn_adv 1 (q' := (145, [some (.ref 40), some (.int l1), some (.int l2), some (.int r2), some (.int r4), some (.int r5), some (.int r6), some (.int r9)], [.int (jn 2), .int r13], M13)) rfl).trans ?_
              refine (e_ic_ne (hf := rfl)).trans ?_
              refine ite_in ?_ ?_
              · refine (evn_adv 4 (q' := (155, [some (.ref 40), some (.int l1), some (.int l2), some (.int r2), some (.int r4), some (.int r5), some (.int r6), some (.int r9)], [.int r5, .ref 42, .ref 40], M13)) rfl).trans ?_
                refine (e_kI (q := (155, [some (.ref 40), some (.int l1), some (.int l2), some (.int r2), some (.int r4), some (.int r5), some (.int r6), some (.int r9)], [.int r5, .ref 42, .ref 40])) (q2 := (158, [some (.ref 40), some (.int l1), some (.int l2), some (.int r2), some (.int r4), some (.int r5), some (.int r6), some (.int r9)], [.ref 40])) (M := M13) (o := (pcl GG lay d 65 [.ref 42, .int r5] M13)) (hf := rfl) rfl rfl).trans ?_
                refine kI_in (fun r14 M14 => ?_)
                refine (evn_adv 3 (q' := (164, [some (.ref 40), some (.int l1), some (.int l2), some (.int r2), some (.int r4), some (.int r5), some (.int r6), some (.int r9)], [.int r6, .ref 42, .int r14, .ref 40], M14)) rfl).trans ?_
                refine (e_kI (q := (164, [some (.ref 40), some (.int l1), some (.int l2), some (.int r2), some (.int r4), some (.int r5), some (.int r6), some (.int r9)], [.int r6, .ref 42, .int r14, .ref 40])) (q2 := (167, [some (.ref 40), some (.int l1), some (.int l2), some (.int r2), some (.int r4), some (.int r5), some (.int r6), some (.int r9)], [.int r14, .ref 40])) (M := M14) (o := (pcl GG lay d 65 [.ref 42, .int r6] M14)) (hf := rfl) rfl rfl).trans ?_
                refine kI_in (fun r15 M15 => ?_)
                refine (e_kV (q := (167, [some (.ref 40), some (.int l1), some (.int l2), some (.int r2), some (.int r4), some (.int r5), some (.int r6), some (.int r9)], [.int r15, .int r14, .ref 40])) (q2 := (170, [some (.ref 40), some (.int l1), some (.int l2), some (.int r2), some (.int r4), some (.int r5), some (.int r6), some (.int r9)], [])) (M := M15) (o := (pcl GG lay d 262 [.ref 40, .int r14, .int r15] M15)) (hf := rfl) rfl rfl).trans ?_
                refine kV_in (fun M16 => ?_)
                refine (evn_adv 1 (q' := (171, [some (.ref 40), some (.int l1), some (.int l2), some (.int r2), some (.int r4), some (.int r5), some (.int r6), some (.int r9)], [.int (jn 1)], M16)) rfl).trans ?_
                exact e_iretz (hf := rfl)
              · refine (evn_adv 1 (q' := (171, [some (.ref 40), some (.int l1), some (.int l2), some (.int r2), some (.int r4), some (.int r5), some (.int r6), some (.int r9)], [.int (jn 1)], M13)) rfl).trans ?_
                exact e_iretz (hf := rfl)
          · refine (evn_adv 1 (q' := (117, [some (.ref 40), some (.int l1), some (.int l2), some (.int r2), some (.int r4), some (.int r5), some (.int r6), some (.int r9)], [.int (jn 0)], M10)) rfl).trans ?_
            exact e_iretz (hf := rfl)
    · refine (evn_adv 2 (q' := (80, [some (.ref 40), some (.int l1), some (.int l2), some (.int r2), some (.int r4), some (.int r5), some (.int r6), none], [.int (jz 1), .int r5], M7)) rfl).trans ?_
      refine (e_ic_eq (hf := rfl)).trans ?_
      refine ite_in ?_ ?_
      · refine (evn_adv 1 (q' := (90, [some (.ref 40), some (.int l1), some (.int l2), some (.int r2), some (.int r4), some (.int r5), some (.int r6), none], [.int (jn 1)], M7)) rfl).trans ?_
        exact e_iretz (hf := rfl)
      · refine (evn_adv 2 (q' := (86, [some (.ref 40), some (.int l1), some (.int l2), some (.int r2), some (.int r4), some (.int r5), some (.int r6), none], [.int (jz 1), .int r6], M7)) rfl).trans ?_
        refine (e_ic_ne (hf := rfl)).trans ?_
        refine ite_in ?_ ?_
        · refine (evn_adv 1 (q' := (90, [some (.ref 40), some (.int l1), some (.int l2), some (.int r2), some (.int r4), some (.int r5), some (.int r6), none], [.int (jn 1)], M7)) rfl).trans ?_
          exact e_iretz (hf := rfl)
        · refine (evn_adv 3 (q' := (97, [some (.ref 40), some (.int l1), some (.int l2), some (.int r2), some (.int r4), some (.int r5), some (.int r6), none], [.int r5, .ref 41], M7)) rfl).trans ?_
          refine (e_kI (q := (97, [some (.ref 40), some (.int l1), some (.int l2), some (.int r2), some (.int r4), some (.int r5), some (.int r6), none], [.int r5, .ref 41])) (q2 := (100, [some (.ref 40), some (.int l1), some (.int l2), some (.int r2), some (.int r4), some (.int r5), some (.int r6), none], [])) (M := M7) (o := (pcl GG lay d 65 [.ref 41, .int r5] M7)) (hf := rfl) rfl rfl).trans ?_
          refine kI_in (fun r8 M8 => ?_)
          refine (evn_adv 5 (q' := (110, [some (.ref 40), some (.int l1), some (.int l2), some (.int r2), some (.int r4), some (.int r5), some (.int r6), some (.int r8)], [.int r6, .ref 41, .int r8], M8)) rfl).trans ?_
          refine (e_kI (q := (110, [some (.ref 40), some (.int l1), some (.int l2), some (.int r2), some (.int r4), some (.int r5), some (.int r6), some (.int r8)], [.int r6, .ref 41, .int r8])) (q2 := (113, [some (.ref 40), some (.int l1), some (.int l2), some (.int r2), some (.int r4), some (.int r5), some (.int r6), some (.int r8)], [.int r8])) (M := M8) (o := (pcl GG lay d 65 [.ref 41, .int r6] M8)) (hf := rfl) rfl rfl).trans ?_
          refine kI_in (fun r9 M9 => ?_)
          refine (e_ic_eq (hf := rfl)).trans ?_
          refine ite_in ?_ ?_
          · refine (evn_adv 1 (q' := (120, [some (.ref 40), some (.int l1), some (.int l2), some (.int r2), some (.int r4), some (.int r5), some (.int r6), some (.int r8)], [.int r8], M9)) rfl).trans ?_
            refine (e_kI (q := (120, [some (.ref 40), some (.int l1), some (.int l2), some (.int r2), some (.int r4), some (.int r5), some (.int r6), some (.int r8)], [.int r8])) (q2 := (123, [some (.ref 40), some (.int l1), some (.int l2), some (.int r2), some (.int r4), some (.int r5), some (.int r6), some (.int r8)], [])) (M := M9) (o := (pcl GG lay d 63 [.int r8] M9)) (hf := rfl) rfl rfl).trans ?_
            refine kI_in (fun r10 M10 => ?_)
            refine (evn_adv 1 (q' := (124, [some (.ref 40), some (.int l1), some (.int l2), some (.int r2), some (.int r4), some (.int r5), some (.int r6), some (.int r8)], [.int (jn 1), .int r10], M10)) rfl).trans ?_
            refine (e_ic_lt (hf := rfl)).trans ?_
            refine ite_in ?_ ?_
            · refine (evn_adv 1 (q' := (141, [some (.ref 40), some (.int l1), some (.int l2), some (.int r2), some (.int r4), some (.int r5), some (.int r6), some (.int r8)], [.int r8], M10)) rfl).trans ?_
              refine (e_kI (q := (141, [some (.ref 40), some (.int l1), some (.int l2), some (.int r2), some (.int r4), some (.int r5), some (.int r6), some (.int r8)], [.int r8])) (q2 := (144, [some (.ref 40), some (.int l1), some (.int l2), some (.int r2), some (.int r4), some (.int r5), some (.int r6), some (.int r8)], [])) (M := M10) (o := (pcl GG lay d 63 [.int r8] M10)) (hf := rfl) rfl rfl).trans ?_
              refine kI_in (fun r11 M11 => ?_)
              refine (evn_adv 1 (q' := (145, [some (.ref 40), some (.int l1), some (.int l2), some (.int r2), some (.int r4), some (.int r5), some (.int r6), some (.int r8)], [.int (jn 2), .int r11], M11)) rfl).trans ?_
              refine (e_ic_ne (hf := rfl)).trans ?_
              refine ite_in ?_ ?_
              · refine (evn_adv 4 (q' := (155, [some (.ref 40), some (.int l1), some (.int l2), some (.int r2), some (.int r4), some (.int r5), some (.int r6), some (.int r8)], [.int r5, .ref 42, .ref 40], M11)) rfl).trans ?_
                refine (e_kI (q := (155, [some (.ref 40), some (.int l1), some (.int l2), some (.int r2), some (.int r4), some (.int r5), some (.int r6), some (.int r8)], [.int r5, .ref 42, .ref 40])) (q2 := (158, [some (.ref 40), some (.int l1), some (.int l2), some (.int r2), some (.int r4), some (.int r5), some (.int r6), some (.int r8)], [.ref 40])) (M := M11) (o := (pcl GG lay d 65 [.ref 42, .int r5] M11)) (hf := rfl) rfl rfl).trans ?_
                refine kI_in (fun r12 M12 => ?_)
                refine (evn_adv 3 (q' := (164, [some (.ref 40), some (.int l1), some (.int l2), some (.int r2), some (.int r4), some (.int r5), some (.int r6), some (.int r8)], [.int r6, .ref 42, .int r12, .ref 40], M12)) rfl).trans ?_
                refine (e_kI (q := (164, [some (.ref 40), some (.int l1), some (.int l2), some (.int r2), some (.int r4), some (.int r5), some (.int r6), some (.int r8)], [.int r6, .ref 42, .int r12, .ref 40])) (q2 := (167, [some (.ref 40), some (.int l1), some (.int l2), some (.int r2), some (.int r4), some (.int r5), some (.int r6), some (.int r8)], [.int r12, .ref 40])) (M := M12) (o := (pcl GG lay d 65 [.ref 42, .int r6] M12)) (hf := rfl) rfl rfl).trans ?_
                refine kI_in (fun r13 M13 => ?_)
                refine (e_kV (q := (167, [some (.ref 40), some (.int l1), some (.int l2), some (.int r2), some (.int r4), some (.int r5), some (.int r6), some (.int r8)], [.int r13, .int r12, .ref 40])) (q2 := (170, [some (.ref 40), some (.int l1), some (.int l2), some (.int r2), some (.int r4), some (.int r5), some (.int r6), some (.int r8)], [])) (M := M13) (o := (pcl GG lay d 262 [.ref 40, .int r12, .int r13] M13)) (hf := rfl) rfl rfl).trans ?_
                refine kV_in (fun M14 => ?_)
                refine (evn_adv 1 (q' := (171, [some (.ref 40), some (.int l1), some (.int l2), some (.int r2), some (.int r4), some (.int r5), some (.int r6), some (.int r8)], [.int (jn 1)], M14)) rfl).trans ?_
                exact e_iretz (hf := rfl)
              · refine (evn_adv 1 (q' := (171, [some (.ref 40), some (.int l1), some (.int l2), some (.int r2), some (.int r4), some (.int r5), some (.int r6), some (.int r8)], [.int (jn 1)], M11)) rfl).trans ?_
                exact e_iretz (hf := rfl)
            · refine (evn_adv 7 (q' := (136, [some (.ref 40), some (.int l1), some (.int l2), some (.int r2), some (.int r4), some (.int r5), some (.int r6), some (.int r8)], [.int (r6 + (jn 1)), .int (r5 + (jn 1)), .ref 40], M10)) rfl).trans ?_
              refine (e_kV (q := (136, [some (.ref 40), some (.int l1), some (.int l2), some (.int r2), some (.int r4), some (.int r5), some (.int r6), some (.int r8)], [.int (r6 + (jn 1)), .int (r5 + (jn 1)), .ref 40])) (q2 := (139, [some (.ref 40), some (.int l1), some (.int l2), some (.int r2), some (.int r4), some (.int r5), some (.int r6), some (.int r8)], [])) (M := M10) (o := (pcl GG lay d 262 [.ref 40, .int (r5 + (jn 1)), .int (r6 + (jn 1))] M10)) (hf := rfl) rfl rfl).trans ?_
              refine kV_in (fun M11 => ?_)
              refine (evn_adv 1 (q' := (141, [some (.ref 40), some (.int l1), some (.int l2), some (.int r2), some (.int r4), some (.int r5), some (.int r6), some (.int r8)], [.int r8], M11)) rfl).trans ?_
              refine (e_kI (q := (141, [some (.ref 40), some (.int l1), some (.int l2), some (.int r2), some (.int r4), some (.int r5), some (.int r6), some (.int r8)], [.int r8])) (q2 := (144, [some (.ref 40), some (.int l1), some (.int l2), some (.int r2), some (.int r4), some (.int r5), some (.int r6), some (.int r8)], [])) (M := M11) (o := (pcl GG lay d 63 [.int r8] M11)) (hf := rfl) rfl rfl).trans ?_
              refine kI_in (fun r12 M12 => ?_)
              refine (evn_adv 1 (q' := (145, [some (.ref 40), some (.int l1), some (.int l2), some (.int r2), some (.int r4), some (.int r5), some (.int r6), some (.int r8)], [.int (jn 2), .int r12], M12)) rfl).trans ?_
              refine (e_ic_ne (hf := rfl)).trans ?_
              refine ite_in ?_ ?_
              · refine (evn_adv 4 (q' := (155, [some (.ref 40), some (.int l1), some (.int l2), some (.int r2), some (.int r4), some (.int r5), some (.int r6), some (.int r8)], [.int r5, .ref 42, .ref 40], M12)) rfl).trans ?_
                refine (e_kI (q := (155, [some (.ref 40), some (.int l1), some (.int l2), some (.int r2), some (.int r4), some (.int r5), some (.int r6), some (.int r8)], [.int r5, .ref 42, .ref 40])) (q2 := (158, [some (.ref 40), some (.int l1), some (.int l2), some (.int r2), some (.int r4), some (.int r5), some (.int r6), some (.int r8)], [.ref 40])) (M := M12) (o := (pcl GG lay d 65 [.ref 42, .int r5] M12)) (hf := rfl) rfl rfl).trans ?_
                refine kI_in (fun r13 M13 => ?_)
                refine (evn_adv 3 (q' := (164, [some (.ref 40), some (.int l1), some (.int l2), some (.int r2), some (.int r4), some (.int r5), some (.int r6), some (.int r8)], [.int r6, .ref 42, .int r13, .ref 40], M13)) rfl).trans ?_
                refine (e_kI (q := (164, [some (.ref 40), some (.int l1), some (.int l2), some (.int r2), some (.int r4), some (.int r5), some (.int r6), some (.int r8)], [.int r6, .ref 42, .int r13, .ref 40])) (q2 := (167, [some (.ref 40), some (.int l1), some (.int l2), some (.int r2), some (.int r4), some (.int r5), some (.int r6), some (.int r8)], [.int r13, .ref 40])) (M := M13) (o := (pcl GG lay d 65 [.ref 42, .int r6] M13)) (hf := rfl) rfl rfl).trans ?_
                refine kI_in (fun r14 M14 => ?_)
                refine (e_kV (q := (167, [some (.ref 40), some (.int l1), some (.int l2), some (.int r2), some (.int r4), some (.int r5), some (.int r6), some (.int r8)], [.int r14, .int r13, .ref 40])) (q2 := (170, [some (.ref 40), some (.int l1), some (.int l2), some (.int r2), some (.int r4), some (.int r5), some (.int r6), some (.int r8)], [])) (M := M14) (o := (pcl GG lay d 262 [.ref 40, .int r13, .int r14] M14)) (hf := rfl) rfl rfl).trans ?_
                refine kV_in (fun M15 => ?_)
                refine (evn_adv 1 (q' := (171, [some (.ref 40), some (.int l1), some (.int l2), some (.int r2), some (.int r4), some (.int r5), some (.int r6), some (.int r8)], [.int (jn 1)], M15)) rfl).trans ?_
                exact e_iretz (hf := rfl)
              · refine (evn_adv 1 (q' := (171, [some (.ref 40), some (.int l1), some (.int l2), some (.int r2), some (.int r4), some (.int r5), some (.int r6), some (.int r8)], [.int (jn 1)], M12)) rfl).trans ?_
                exact e_iretz (hf := rfl)
          · refine (evn_adv 1 (q' := (117, [some (.ref 40), some (.int l1), some (.int l2), some (.int r2), some (.int r4), some (.int r5), some (.int r6), some (.int r8)], [.int (jn 0)], M9)) rfl).trans ?_
            exact e_iretz (hf := rfl)
/-- TermStrategies$Unifier.idOf(I)I -/
noncomputable abbrev E_264 (d : Nat) : PQ → PO := evn (rnn k_264 lay none (pcl GG lay d) 1)
theorem q_264 (d : Nat) (l1 : Int32) (M : PM) : pcl GG lay (d + 1) 264 [.ref 40, .int l1] M = (kI (pcl GG lay d 65 [.ref 41, .int l1] M) fun r1 M1 => (kI (pcl GG lay d 62 [.int r1] M1) fun r2 M2 => (if r2 = jn 0 then (rI ((jn 12) + l1) M2) else (if l1 < (jn 40) then (rI (((jn 0) + r1) - (jn 117)) M2) else (rI (((jn 6) + r1) - (jn 117)) M2))))) := by
  refine (pcl_un (mt := t_264) (by decide) rfl (Nat.le_of_ble_eq_true rfl)).trans ?_
  show E_264 d (0, [some (.ref 40), some (.int l1), none], [], M) = _
  refine (evn_adv 3 (q' := (5, [some (.ref 40), some (.int l1), none], [.int l1, .ref 41], M)) rfl).trans ?_
  refine (e_kI (q := (5, [some (.ref 40), some (.int l1), none], [.int l1, .ref 41])) (q2 := (8, [some (.ref 40), some (.int l1), none], [])) (M := M) (o := (pcl GG lay d 65 [.ref 41, .int l1] M)) (hf := rfl) rfl rfl).trans ?_
  refine kI_in (fun r1 M1 => ?_)
  refine (evn_adv 2 (q' := (10, [some (.ref 40), some (.int l1), some (.int r1)], [.int r1], M1)) rfl).trans ?_
  refine (e_kI (q := (10, [some (.ref 40), some (.int l1), some (.int r1)], [.int r1])) (q2 := (13, [some (.ref 40), some (.int l1), some (.int r1)], [])) (M := M1) (o := (pcl GG lay d 62 [.int r1] M1)) (hf := rfl) rfl rfl).trans ?_
  refine kI_in (fun r2 M2 => ?_)
  refine (e_if_ne (hf := rfl)).trans ?_
  refine ite_in ?_ ?_
  · refine (evn_adv 3 (q' := (20, [some (.ref 40), some (.int l1), some (.int r1)], [.int ((jn 12) + l1)], M2)) rfl).trans ?_
    exact evn_end 1 rfl
  · refine (evn_adv 2 (q' := (24, [some (.ref 40), some (.int l1), some (.int r1)], [.int (jn 40), .int l1], M2)) rfl).trans ?_
    refine (e_ic_ge (hf := rfl)).trans ?_
    refine ite_in ?_ ?_
    · refine (evn_adv 6 (q' := (38, [some (.ref 40), some (.int l1), some (.int r1)], [.int (((jn 0) + r1) - (jn 117))], M2)) rfl).trans ?_
      exact evn_end 1 rfl
    · refine (evn_adv 5 (q' := (38, [some (.ref 40), some (.int l1), some (.int r1)], [.int (((jn 6) + r1) - (jn 117))], M2)) rfl).trans ?_
      exact evn_end 1 rfl
/-- TermStrategies$Unifier.root(I)I -/
noncomputable abbrev E_265 (d : Nat) : PQ → PO := evn (rnn k_265 lay none (pcl GG lay d) 1)
theorem q_265 (d : Nat) (l1 : Int32) (M : PM) : pcl GG lay (d + 1) 265 [.ref 40, .int l1] M = E_265 d (4, [some (.ref 40), some (.int l1), some (.int l1), some (.int (jn 0))], [], M) := by
  refine (pcl_un (mt := t_265) (by decide) rfl (Nat.le_of_ble_eq_true rfl)).trans ?_
  show E_265 d (0, [some (.ref 40), some (.int l1), none, none], [], M) = _
  refine (evn_adv 4 (q' := (4, [some (.ref 40), some (.int l1), some (.int l1), some (.int (jn 0))], [], M)) rfl).trans ?_
  rfl
theorem h_265_4 (d : Nat) (u1 : Option Value) (l2 : Int32) (l3 : Int32) (M : PM) : E_265 d (4, [some (.ref 40), u1, some (.int l2), some (.int l3)], [], M) = (if l3 < (jn 92) then (kI (pcl GG lay d 65 [.ref 43, .int l2] M) fun r1 M1 => (if r1 = l2 then (rI l2 M1) else (kI (pcl GG lay d 65 [.ref 43, .int l2] M1) fun r2 M2 => E_265 d (4, [some (.ref 40), u1, some (.int r2), some (.int (l3 + (jn 1)))], [], M2)))) else (rI l2 M)) := by
  refine (evn_adv 2 (q' := (7, [some (.ref 40), u1, some (.int l2), some (.int l3)], [.int (jn 92), .int l3], M)) rfl).trans ?_
  refine (e_ic_ge (hf := rfl)).trans ?_
  refine ite_in ?_ ?_
  · refine (evn_adv 3 (q' := (15, [some (.ref 40), u1, some (.int l2), some (.int l3)], [.int l2, .ref 43], M)) rfl).trans ?_
    refine (e_kI (q := (15, [some (.ref 40), u1, some (.int l2), some (.int l3)], [.int l2, .ref 43])) (q2 := (18, [some (.ref 40), u1, some (.int l2), some (.int l3)], [])) (M := M) (o := (pcl GG lay d 65 [.ref 43, .int l2] M)) (hf := rfl) rfl rfl).trans ?_
    refine kI_in (fun r1 M1 => ?_)
    refine (evn_adv 1 (q' := (19, [some (.ref 40), u1, some (.int l2), some (.int l3)], [.int l2, .int r1], M1)) rfl).trans ?_
    refine (e_ic_eq (hf := rfl)).trans ?_
    refine ite_in ?_ ?_
    · refine (evn_adv 1 (q' := (38, [some (.ref 40), u1, some (.int l2), some (.int l3)], [.int l2], M1)) rfl).trans ?_
      exact evn_end 1 rfl
    · refine (evn_adv 3 (q' := (27, [some (.ref 40), u1, some (.int l2), some (.int l3)], [.int l2, .ref 43], M1)) rfl).trans ?_
      refine (e_kI (q := (27, [some (.ref 40), u1, some (.int l2), some (.int l3)], [.int l2, .ref 43])) (q2 := (30, [some (.ref 40), u1, some (.int l2), some (.int l3)], [])) (M := M1) (o := (pcl GG lay d 65 [.ref 43, .int l2] M1)) (hf := rfl) rfl rfl).trans ?_
      refine kI_in (fun r2 M2 => ?_)
      refine (evn_adv 3 (q' := (4, [some (.ref 40), u1, some (.int r2), some (.int (l3 + (jn 1)))], [], M2)) rfl).trans ?_
      rfl
  · refine (evn_adv 1 (q' := (38, [some (.ref 40), u1, some (.int l2), some (.int l3)], [.int l2], M)) rfl).trans ?_
    exact evn_end 1 rfl
/-- TermStrategies$Unifier.isWithoutCircle()Z -/
noncomputable abbrev E_266 (d : Nat) : PQ → PO := evn (rnn k_266 lay none (pcl GG lay d) 2)
theorem q_266 (d : Nat)  (M : PM) : pcl GG lay (d + 1) 266 [.ref 40] M = E_266 d (8, [some (.ref 40), some (.int (jn 80)), some (.int (jn 81)), some (.int (jn 0)), none], [], M) := by
  refine (pcl_un (mt := t_266) (by decide) rfl (Nat.le_of_ble_eq_true rfl)).trans ?_
  show E_266 d (0, [some (.ref 40), none, none, none, none], [], M) = _
  refine (evn_adv 6 (q' := (8, [some (.ref 40), some (.int (jn 80)), some (.int (jn 81)), some (.int (jn 0)), none], [], M)) rfl).trans ?_
  rfl
theorem h_266_8 (d : Nat) (l1 : Int32) (l2 : Int32) (l3 : Int32) (u4 : Option Value) (M : PM) : E_266 d (8, [some (.ref 40), some (.int l1), some (.int l2), some (.int l3), u4], [], M) = (if (jn 80) < l3 then (if l1 = jn 0 then (rZ (jn 1) M) else (rZ (jn 0) M)) else (if jn 0 < l1 then (if l1 < l2 then E_266 d (31, [some (.ref 40), some (.int (jn 0)), some (.int l1), some (.int l3), some (.int (jn 79))], [], M) else (if l1 = jn 0 then (rZ (jn 1) M) else (rZ (jn 0) M))) else (if l1 = jn 0 then (rZ (jn 1) M) else (rZ (jn 0) M)))) := by
  refine (evn_adv 2 (q' := (11, [some (.ref 40), some (.int l1), some (.int l2), some (.int l3), u4], [.int (jn 80), .int l3], M)) rfl).trans ?_
  refine (e_ic_gt (hf := rfl)).trans ?_
  refine ite_in ?_ ?_
  · refine (evn_adv 1 (q' := (81, [some (.ref 40), some (.int l1), some (.int l2), some (.int l3), u4], [.int l1], M)) rfl).trans ?_
    refine (e_if_ne (hf := rfl)).trans ?_
    refine ite_in ?_ ?_
    · refine (evn_adv 2 (q' := (89, [some (.ref 40), some (.int l1), some (.int l2), some (.int l3), u4], [.int (jn 1)], M)) rfl).trans ?_
      exact e_iretz (hf := rfl)
    · refine (evn_adv 1 (q' := (89, [some (.ref 40), some (.int l1), some (.int l2), some (.int l3), u4], [.int (jn 0)], M)) rfl).trans ?_
      exact e_iretz (hf := rfl)
  · refine (evn_adv 1 (q' := (15, [some (.ref 40), some (.int l1), some (.int l2), some (.int l3), u4], [.int l1], M)) rfl).trans ?_
    refine (e_if_le (hf := rfl)).trans ?_
    refine ite_in ?_ ?_
    · refine (evn_adv 2 (q' := (20, [some (.ref 40), some (.int l1), some (.int l2), some (.int l3), u4], [.int l2, .int l1], M)) rfl).trans ?_
      refine (e_ic_ge (hf := rfl)).trans ?_
      refine ite_in ?_ ?_
      · refine (evn_adv 6 (q' := (31, [some (.ref 40), some (.int (jn 0)), some (.int l1), some (.int l3), some (.int (jn 79))], [], M)) rfl).trans ?_
        rfl
      · refine (evn_adv 1 (q' := (81, [some (.ref 40), some (.int l1), some (.int l2), some (.int l3), u4], [.int l1], M)) rfl).trans ?_
        refine (e_if_ne (hf := rfl)).trans ?_
        refine ite_in ?_ ?_
        · refine (evn_adv 2 (q' := (89, [some (.ref 40), some (.int l1), some (.int l2), some (.int l3), u4], [.int (jn 1)], M)) rfl).trans ?_
          exact e_iretz (hf := rfl)
        · refine (evn_adv 1 (q' := (89, [some (.ref 40), some (.int l1), some (.int l2), some (.int l3), u4], [.int (jn 0)], M)) rfl).trans ?_
          exact e_iretz (hf := rfl)
    · refine (evn_adv 1 (q' := (81, [some (.ref 40), some (.int l1), some (.int l2), some (.int l3), u4], [.int l1], M)) rfl).trans ?_
      refine (e_if_ne (hf := rfl)).trans ?_
      refine ite_in ?_ ?_
      · refine (evn_adv 2 (q' := (89, [some (.ref 40), some (.int l1), some (.int l2), some (.int l3), u4], [.int (jn 1)], M)) rfl).trans ?_
        exact e_iretz (hf := rfl)
      · refine (evn_adv 1 (q' := (89, [some (.ref 40), some (.int l1), some (.int l2), some (.int l3), u4], [.int (jn 0)], M)) rfl).trans ?_
        exact e_iretz (hf := rfl)
theorem h_266_31 (d : Nat) (l1 : Int32) (l2 : Int32) (l3 : Int32) (l4 : Int32) (M : PM) : E_266 d (31, [some (.ref 40), some (.int l1), some (.int l2), some (.int l3), some (.int l4)], [], M) = (if l4 < jn 0 then E_266 d (8, [some (.ref 40), some (.int l1), some (.int l2), some (.int (l3 + (jn 1))), some (.int l4)], [], M) else (kI (pcl GG lay d 65 [.ref 41, .int l4] M) fun r1 M1 => (if r1 = jn 0 then E_266 d (31, [some (.ref 40), some (.int l1), some (.int l2), some (.int l3), some (.int (l4 + (jz 1)))], [], M1) else (kI (pcl GG lay d 264 [.ref 40, .int l4] M1) fun r2 M2 => (kI (pcl GG lay d 265 [.ref 40, .int r2] M2) fun r3 M3 => (kI (pcl GG lay d 267 [.ref 40, .int r3] M3) fun r4 M4 => (if r4 = jn 0 then E_266 d (31, [some (.ref 40), some (.int (l1 + (jn 1))), some (.int l2), some (.int l3), some (.int (l4 + (jz 1)))], [], M4) else E_266 d (31, [some (.ref 40), some (.int l1), some (.int l2), some (.int l3), some (.int (l4 + (jz 1)))], [], M4)))))))) := by
  refine (evn_adv 1 (q' := (33, [some (.ref 40), some (.int l1), some (.int l2), some (.int l3), some (.int l4)], [.int l4], M)) rfl).trans ?_
  refine (e_if_lt (hf := rfl)).trans ?_
  refine ite_in ?_ ?_
  · refine (evn_adv 2 (q' := (8, [some (.ref 40), some (.int l1), some (.int l2), some (.int (l3 + (jn 1))), some (.int l4)], [], M)) rfl).trans ?_
    rfl
  · refine (evn_adv 3 (q' := (42, [some (.ref 40), some (.int l1), some (.int l2), some (.int l3), some (.int l4)], [.int l4, .ref 41], M)) rfl).trans ?_
    refine (e_kI (q := (42, [some (.ref 40), some (.int l1), some (.int l2), some (.int l3), some (.int l4)], [.int l4, .ref 41])) (q2 := (45, [some (.ref 40), some (.int l1), some (.int l2), some (.int l3), some (.int l4)], [])) (M := M) (o := (pcl GG lay d 65 [.ref 41, .int l4] M)) (hf := rfl) rfl rfl).trans ?_
    refine kI_in (fun r1 M1 => ?_)
    refine (e_if_eq (hf := rfl)).trans ?_
    refine ite_in ?_ ?_
    · refine (evn_adv 2 (q' := (31, [some (.ref 40), some (.int l1), some (.int l2), some (.int l3), some (.int (l4 + (jz 1)))], [], M1)) rfl).trans ?_
      rfl
    · refine (evn_adv 4 (q' := (53, [some (.ref 40), some (.int l1), some (.int l2), some (.int l3), some (.int l4)], [.int l4, .ref 40, .ref 40, .ref 40], M1)) rfl).trans ?_
      refine (e_kI (q := (53, [some (.ref 40), some (.int l1), some (.int l2), some (.int l3), some (.int l4)], [.int l4, .ref 40, .ref 40, .ref 40])) (q2 := (56, [some (.ref 40), some (.int l1), some (.int l2), some (.int l3), some (.int l4)], [.ref 40, .ref 40])) (M := M1) (o := (pcl GG lay d 264 [.ref 40, .int l4] M1)) (hf := rfl) rfl rfl).trans ?_
      refine kI_in (fun r2 M2 => ?_)
      refine (e_kI (q := (56, [some (.ref 40), some (.int l1), some (.int l2), some (.int l3), some (.int l4)], [.int r2, .ref 40, .ref 40])) (q2 := (59, [some (.ref 40), some (.int l1), some (.int l2), some (.int l3), some (.int l4)], [.ref 40])) (M := M2) (o := (pcl GG lay d 265 [.ref 40, .int r2] M2)) (hf := rfl) rfl rfl).trans ?_
      refine kI_in (fun r3 M3 => ?_)
      refine (e_kI (q := (59, [some (.ref 40), some (.int l1), some (.int l2), some (.int l3), some (.int l4)], [.int r3, .ref 40])) (q2 := (62, [some (.ref 40), some (.int l1), some (.int l2), some (.int l3), some (.int l4)], [])) (M := M3) (o := (pcl GG lay d 267 [.ref 40, .int r3] M3)) (hf := rfl) rfl rfl).trans ?_
      refine kI_in (fun r4 M4 => ?_)
      refine (e_if_ne (hf := rfl)).trans ?_
      refine ite_in ?_ ?_
      · refine (evn_adv 3 (q' := (31, [some (.ref 40), some (.int (l1 + (jn 1))), some (.int l2), some (.int l3), some (.int (l4 + (jz 1)))], [], M4)) rfl).trans ?_
        rfl
      · refine (evn_adv 2 (q' := (31, [some (.ref 40), some (.int l1), some (.int l2), some (.int l3), some (.int (l4 + (jz 1)))], [], M4)) rfl).trans ?_
        rfl
/-- TermStrategies$Unifier.settles(I)Z -/
noncomputable abbrev E_267 (d : Nat) : PQ → PO := evn (rnn k_267 lay none (pcl GG lay d) 2)
theorem q_267 (d : Nat) (l1 : Int32) (M : PM) : pcl GG lay (d + 1) 267 [.ref 40, .int l1] M = (kI (pcl GG lay d 65 [.ref 44, .int l1] M) fun r1 M1 => (if r1 = (jz 1) then (if (jn 0) < (jn 1) then (if (jn 0) = (jn 2) then (kI (pcl GG lay d 65 [.ref 42, .int r1] M1) fun r2 M2 => (kI (pcl GG lay d 264 [.ref 40, .int r2] M2) fun r3 M3 => (kI (pcl GG lay d 265 [.ref 40, .int r3] M3) fun r4 M4 => (kI (pcl GG lay d 65 [.ref 45, .int r4] M4) fun r5 M5 => (if r5 = jn 0 then (rZ (jn 0) M5) else (kV (pcl GG lay d 66 [.ref 45, .int l1, .int (jn 1)] M5) fun M6 => (rZ (jn 1) M6))))))) else (kV (pcl GG lay d 66 [.ref 45, .int l1, .int (jn 1)] M1) fun M2 => (rZ (jn 1) M2))) else (kI (pcl GG lay d 264 [.ref 40, .int (r1 + (jn 1))] M1) fun r2 M2 => (kI (pcl GG lay d 265 [.ref 40, .int r2] M2) fun r3 M3 => (kI (pcl GG lay d 65 [.ref 45, .int r3] M3) fun r4 M4 => (if r4 = jn 0 then (rZ (jn 0) M4) else (if (jn 0) = (jn 2) then (kI (pcl GG lay d 65 [.ref 42, .int r1] M4) fun r5 M5 => (kI (pcl GG lay d 264 [.ref 40, .int r5] M5) fun r6 M6 => (kI (pcl GG lay d 265 [.ref 40, .int r6] M6) fun r7 M7 => (kI (pcl GG lay d 65 [.ref 45, .int r7] M7) fun r8 M8 => (if r8 = jn 0 then (rZ (jn 0) M8) else (kV (pcl GG lay d 66 [.ref 45, .int l1, .int (jn 1)] M8) fun M9 => (rZ (jn 1) M9))))))) else (kV (pcl GG lay d 66 [.ref 45, .int l1, .int (jn 1)] M4) fun M5 => (rZ (jn 1) M5)))))))) else (kI (pcl GG lay d 65 [.ref 41, .int r1] M1) fun r2 M2 => (kI (pcl GG lay d 63 [.int r2] M2) fun r3 M3 => (if r3 < (jn 1) then (if r3 = (jn 2) then (kI (pcl GG lay d 65 [.ref 42, .int r1] M3) fun r4 M4 => (kI (pcl GG lay d 264 [.ref 40, .int r4] M4) fun r5 M5 => (kI (pcl GG lay d 265 [.ref 40, .int r5] M5) fun r6 M6 => (kI (pcl GG lay d 65 [.ref 45, .int r6] M6) fun r7 M7 => (if r7 = jn 0 then (rZ (jn 0) M7) else (kV (pcl GG lay d 66 [.ref 45, .int l1, .int (jn 1)] M7) fun M8 => (rZ (jn 1) M8))))))) else (kV (pcl GG lay d 66 [.ref 45, .int l1, .int (jn 1)] M3) fun M4 => (rZ (jn 1) M4))) else (kI (pcl GG lay d 264 [.ref 40, .int (r1 + (jn 1))] M3) fun r4 M4 => (kI (pcl GG lay d 265 [.ref 40, .int r4] M4) fun r5 M5 => (kI (pcl GG lay d 65 [.ref 45, .int r5] M5) fun r6 M6 => (if r6 = jn 0 then (rZ (jn 0) M6) else (if r3 = (jn 2) then (kI (pcl GG lay d 65 [.ref 42, .int r1] M6) fun r7 M7 => (kI (pcl GG lay d 264 [.ref 40, .int r7] M7) fun r8 M8 => (kI (pcl GG lay d 265 [.ref 40, .int r8] M8) fun r9 M9 => (kI (pcl GG lay d 65 [.ref 45, .int r9] M9) fun r10 M10 => (if r10 = jn 0 then (rZ (jn 0) M10) else (kV (pcl GG lay d 66 [.ref 45, .int l1, .int (jn 1)] M10) fun M11 => (rZ (jn 1) M11))))))) else (kV (pcl GG lay d 66 [.ref 45, .int l1, .int (jn 1)] M6) fun M7 => (rZ (jn 1) M7)))))))))))) := by
  refine (pcl_un (mt := t_267) (by decide) rfl (Nat.le_of_ble_eq_true rfl)).trans ?_
  show E_267 d (0, [some (.ref 40), some (.int l1), none, none], [], M) = _
  refine (evn_adv 3 (q' := (5, [some (.ref 40), some (.int l1), none, none], [.int l1, .ref 44], M)) rfl).trans ?_
  refine (e_kI (q := (5, [some (.ref 40), some (.int l1), none, none], [.int l1, .ref 44])) (q2 := (8, [some (.ref 40), some (.int l1), none, none], [])) (M := M) (o := (pcl GG lay d 65 [.ref 44, .int l1] M)) (hf := rfl) rfl rfl).trans ?_
  refine kI_in (fun r1 M1 => ?_)
  refine (evn_adv 3 (q' := (11, [some (.ref 40), some (.int l1), some (.int r1), none], [.int (jz 1), .int r1], M1)) rfl).trans ?_
  refine (e_ic_ne (hf := rfl)).trans ?_
  refine ite_in ?_ ?_
  · refine (evn_adv 5 (q' := (32, [some (.ref 40), some (.int l1), some (.int r1), some (.int (jn 0))], [.int (jn 1), .int (jn 0)], M1)) rfl).trans ?_
    refine (e_ic_lt (hf := rfl)).trans ?_
    refine ite_in ?_ ?_
    · refine (evn_adv 2 (q' := (60, [some (.ref 40), some (.int l1), some (.int r1), some (.int (jn 0))], [.int (jn 2), .int (jn 0)], M1)) rfl).trans ?_
      refine (e_ic_ne (hf := rfl)).trans ?_
      refine ite_in ?_ ?_
      · refine (evn_adv 7 (q' := (74, [some (.ref 40), some (.int l1), some (.int r1), some (.int (jn 0))], [.int r1, .ref 42, .ref 40, .ref 40, .ref 45], M1)) rfl).trans ?_
        refine (e_kI (q := (74, [some (.ref 40), some (.int l1), some (.int r1), some (.int (jn 0))], [.int r1, .ref 42, .ref 40, .ref 40, .ref 45])) (q2 := (77, [some (.ref 40), some (.int l1), some (.int r1), some (.int (jn 0))], [.ref 40, .ref 40, .ref 45])) (M := M1) (o := (pcl GG lay d 65 [.ref 42, .int r1] M1)) (hf := rfl) rfl rfl).trans ?_
        refine kI_in (fun r2 M2 => ?_)
        refine (e_kI (q := (77, [some (.ref 40), some (.int l1), some (.int r1), some (.int (jn 0))], [.int r2, .ref 40, .ref 40, .ref 45])) (q2 := (80, [some (.ref 40), some (.int l1), some (.int r1), some (.int (jn 0))], [.ref 40, .ref 45])) (M := M2) (o := (pcl GG lay d 264 [.ref 40, .int r2] M2)) (hf := rfl) rfl rfl).trans ?_
        refine kI_in (fun r3 M3 => ?_)
        refine (e_kI (q := (80, [some (.ref 40), some (.int l1), some (.int r1), some (.int (jn 0))], [.int r3, .ref 40, .ref 45])) (q2 := (83, [some (.ref 40), some (.int l1), some (.int r1), some (.int (jn 0))], [.ref 45])) (M := M3) (o := (pcl GG lay d 265 [.ref 40, .int r3] M3)) (hf := rfl) rfl rfl).trans ?_
        refine kI_in (fun r4 M4 => ?_)
        refine (e_kI (q := (83, [some (.ref 40), some (.int l1), some (.int r1), some (.int (jn 0))], [.int r4, .ref 45])) (q2 := (86, [some (.ref 40), some (.int l1), some (.int r1), some (.int (jn 0))], [])) (M := M4) (o := (pcl GG lay d 65 [.ref 45, .int r4] M4)) (hf := rfl) rfl rfl).trans ?_
        refine kI_in (fun r5 M5 => ?_)
        refine (e_if_ne (hf := rfl)).trans ?_
        refine ite_in ?_ ?_
        · refine (evn_adv 1 (q' := (90, [some (.ref 40), some (.int l1), some (.int r1), some (.int (jn 0))], [.int (jn 0)], M5)) rfl).trans ?_
          exact e_iretz (hf := rfl)
        · refine (evn_adv 4 (q' := (97, [some (.ref 40), some (.int l1), some (.int r1), some (.int (jn 0))], [.int (jn 1), .int l1, .ref 45], M5)) rfl).trans ?_
          refine (e_kV (q := (97, [some (.ref 40), some (.int l1), some (.int r1), some (.int (jn 0))], [.int (jn 1), .int l1, .ref 45])) (q2 := (100, [some (.ref 40), some (.int l1), some (.int r1), some (.int (jn 0))], [])) (M := M5) (o := (pcl GG lay d 66 [.ref 45, .int l1, .int (jn 1)] M5)) (hf := rfl) rfl rfl).trans ?_
          refine kV_in (fun M6 => ?_)
          refine (evn_adv 1 (q' := (101, [some (.ref 40), some (.int l1), some (.int r1), some (.int (jn 0))], [.int (jn 1)], M6)) rfl).trans ?_
          exact e_iretz (hf := rfl)
      · refine (evn_adv 4 (q' := (97, [some (.ref 40), some (.int l1), some (.int r1), some (.int (jn 0))], [.int (jn 1), .int l1, .ref 45], M1)) rfl).trans ?_
        refine (e_kV (q := (97, [some (.ref 40), some (.int l1), some (.int r1), some (.int (jn 0))], [.int (jn 1), .int l1, .ref 45])) (q2 := (100, [some (.ref 40), some (.int l1), some (.int r1), some (.int (jn 0))], [])) (M := M1) (o := (pcl GG lay d 66 [.ref 45, .int l1, .int (jn 1)] M1)) (hf := rfl) rfl rfl).trans ?_
        refine kV_in (fun M2 => ?_)
        refine (evn_adv 1 (q' := (101, [some (.ref 40), some (.int l1), some (.int r1), some (.int (jn 0))], [.int (jn 1)], M2)) rfl).trans ?_
        exact e_iretz (hf := rfl)
    · refine (evn_adv 7 (q' := (44, [some (.ref 40), some (.int l1), some (.int r1), some (.int (jn 0))], [.int (r1 + (jn 1)), .ref 40, .ref 40, .ref 45], M1)) rfl).trans ?_
      refine (e_kI (q := (44, [some (.ref 40), some (.int l1), some (.int r1), some (.int (jn 0))], [.int (r1 + (jn 1)), .ref 40, .ref 40, .ref 45])) (q2 := (47, [some (.ref 40), some (.int l1), some (.int r1), some (.int (jn 0))], [.ref 40, .ref 45])) (M := M1) (o := (pcl GG lay d 264 [.ref 40, .int (r1 + (jn 1))] M1)) (hf := rfl) rfl rfl).trans ?_
      refine kI_in (fun r2 M2 => ?_)
      refine (e_kI (q := (47, [some (.ref 40), some (.int l1), some (.int r1), some (.int (jn 0))], [.int r2, .ref 40, .ref 45])) (q2 := (50, [some (.ref 40), some (.int l1), some (.int r1), some (.int (jn 0))], [.ref 45])) (M := M2) (o := (pcl GG lay d 265 [.ref 40, .int r2] M2)) (hf := rfl) rfl rfl).trans ?_
      refine kI_in (fun r3 M3 => ?_)
      refine (e_kI (q := (50, [some (.ref 40), some (.int l1), some (.int r1), some (.int (jn 0))], [.int r3, .ref 45])) (q2 := (53, [some (.ref 40), some (.int l1), some (.int r1), some (.int (jn 0))], [])) (M := M3) (o := (pcl GG lay d 65 [.ref 45, .int r3] M3)) (hf := rfl) rfl rfl).trans ?_
      refine kI_in (fun r4 M4 => ?_)
      refine (e_if_ne (hf := rfl)).trans ?_
      refine ite_in ?_ ?_
      · refine (evn_adv 1 (q' := (57, [some (.ref 40), some (.int l1), some (.int r1), some (.int (jn 0))], [.int (jn 0)], M4)) rfl).trans ?_
        exact e_iretz (hf := rfl)
      · refine (evn_adv 2 (q' := (60, [some (.ref 40), some (.int l1), some (.int r1), some (.int (jn 0))], [.int (jn 2), .int (jn 0)], M4)) rfl).trans ?_
        refine (e_ic_ne (hf := rfl)).trans ?_
        refine ite_in ?_ ?_
        · refine (evn_adv 7 (q' := (74, [some (.ref 40), some (.int l1), some (.int r1), some (.int (jn 0))], [.int r1, .ref 42, .ref 40, .ref 40, .ref 45], M4)) rfl).trans ?_
          refine (e_kI (q := (74, [some (.ref 40), some (.int l1), some (.int r1), some (.int (jn 0))], [.int r1, .ref 42, .ref 40, .ref 40, .ref 45])) (q2 := (77, [some (.ref 40), some (.int l1), some (.int r1), some (.int (jn 0))], [.ref 40, .ref 40, .ref 45])) (M := M4) (o := (pcl GG lay d 65 [.ref 42, .int r1] M4)) (hf := rfl) rfl rfl).trans ?_
          refine kI_in (fun r5 M5 => ?_)
          refine (e_kI (q := (77, [some (.ref 40), some (.int l1), some (.int r1), some (.int (jn 0))], [.int r5, .ref 40, .ref 40, .ref 45])) (q2 := (80, [some (.ref 40), some (.int l1), some (.int r1), some (.int (jn 0))], [.ref 40, .ref 45])) (M := M5) (o := (pcl GG lay d 264 [.ref 40, .int r5] M5)) (hf := rfl) rfl rfl).trans ?_
          refine kI_in (fun r6 M6 => ?_)
          refine (e_kI (q := (80, [some (.ref 40), some (.int l1), some (.int r1), some (.int (jn 0))], [.int r6, .ref 40, .ref 45])) (q2 := (83, [some (.ref 40), some (.int l1), some (.int r1), some (.int (jn 0))], [.ref 45])) (M := M6) (o := (pcl GG lay d 265 [.ref 40, .int r6] M6)) (hf := rfl) rfl rfl).trans ?_
          refine kI_in (fun r7 M7 => ?_)
          refine (e_kI (q := (83, [some (.ref 40), some (.int l1), some (.int r1), some (.int (jn 0))], [.int r7, .ref 45])) (q2 := (86, [some (.ref 40), some (.int l1), some (.int r1), some (.int (jn 0))], [])) (M := M7) (o := (pcl GG lay d 65 [.ref 45, .int r7] M7)) (hf := rfl) rfl rfl).trans ?_
          refine kI_in (fun r8 M8 => ?_)
          refine (e_if_ne (hf := rfl)).trans ?_
          refine ite_in ?_ ?_
          · refine (evn_adv 1 (q' := (90, [some (.ref 40), some (.int l1), some (.int r1), some (.int (jn 0))], [.int (jn 0)], M8)) rfl).trans ?_
            exact e_iretz (hf := rfl)
          · refine (evn_adv 4 (q' := (97, [some (.ref 40), some (.int l1), some (.int r1), some (.int (jn 0))], [.int (jn 1), .int l1, .ref 45], M8)) rfl).trans ?_
            refine (e_kV (q := (97, [some (.ref 40), some (.int l1), some (.int r1), some (.int (jn 0))], [.int (jn 1), .int l1, .ref 45])) (q2 := (100, [some (.ref 40), some (.int l1), some (.int r1), some (.int (jn 0))], [])) (M := M8) (o := (pcl GG lay d 66 [.ref 45, .int l1, .int (jn 1)] M8)) (hf := rfl) rfl rfl).trans ?_
            refine kV_in (fun M9 => ?_)
            refine (evn_adv 1 (q' := (101, [some (.ref 40), some (.int l1), some (.int r1), some (.int (jn 0))], [.int (jn 1)], M9)) rfl).trans ?_
            exact e_iretz (hf := rfl)
        · refine (evn_adv 4 (q' := (97, [some (.ref 40), some (.int l1), some (.int r1), some (.int (jn 0))], [.int (jn 1), .int l1, .ref 45], M4)) rfl).trans ?_
          refine (e_kV (q := (97, [some (.ref 40), some (.int l1), some (.int r1), some (.int (jn 0))], [.int (jn 1), .int l1, .ref 45])) (q2 := (100, [some (.ref 40), some (.int l1), some (.int r1), some (.int (jn 0))], [])) (M := M4) (o := (pcl GG lay d 66 [.ref 45, .int l1, .int (jn 1)] M4)) (hf := rfl) rfl rfl).trans ?_
          refine kV_in (fun M5 => ?_)
          refine (evn_adv 1 (q' := (101, [some (.ref 40), some (.int l1), some (.int r1), some (.int (jn 0))], [.int (jn 1)], M5)) rfl).trans ?_
          exact e_iretz (hf := rfl)
  · refine (evn_adv 3 (q' := (23, [some (.ref 40), some (.int l1), some (.int r1), none], [.int r1, .ref 41], M1)) rfl).trans ?_
    refine (e_kI (q := (23, [some (.ref 40), some (.int l1), some (.int r1), none], [.int r1, .ref 41])) (q2 := (26, [some (.ref 40), some (.int l1), some (.int r1), none], [])) (M := M1) (o := (pcl GG lay d 65 [.ref 41, .int r1] M1)) (hf := rfl) rfl rfl).trans ?_
    refine kI_in (fun r2 M2 => ?_)
    refine (e_kI (q := (26, [some (.ref 40), some (.int l1), some (.int r1), none], [.int r2])) (q2 := (29, [some (.ref 40), some (.int l1), some (.int r1), none], [])) (M := M2) (o := (pcl GG lay d 63 [.int r2] M2)) (hf := rfl) rfl rfl).trans ?_
    refine kI_in (fun r3 M3 => ?_)
    refine (evn_adv 3 (q' := (32, [some (.ref 40), some (.int l1), some (.int r1), some (.int r3)], [.int (jn 1), .int r3], M3)) rfl).trans ?_
    refine (e_ic_lt (hf := rfl)).trans ?_
    refine ite_in ?_ ?_
    · refine (evn_adv 2 (q' := (60, [some (.ref 40), some (.int l1), some (.int r1), some (.int r3)], [.int (jn 2), .int r3], M3)) rfl).trans ?_
      refine (e_ic_ne (hf := rfl)).trans ?_
      refine ite_in ?_ ?_
      · refine (evn_adv 7 (q' := (74, [some (.ref 40), some (.int l1), some (.int r1), some (.int r3)], [.int r1, .ref 42, .ref 40, .ref 40, .ref 45], M3)) rfl).trans ?_
        refine (e_kI (q := (74, [some (.ref 40), some (.int l1), some (.int r1), some (.int r3)], [.int r1, .ref 42, .ref 40, .ref 40, .ref 45])) (q2 := (77, [some (.ref 40), some (.int l1), some (.int r1), some (.int r3)], [.ref 40, .ref 40, .ref 45])) (M := M3) (o := (pcl GG lay d 65 [.ref 42, .int r1] M3)) (hf := rfl) rfl rfl).trans ?_
        refine kI_in (fun r4 M4 => ?_)
        refine (e_kI (q := (77, [some (.ref 40), some (.int l1), some (.int r1), some (.int r3)], [.int r4, .ref 40, .ref 40, .ref 45])) (q2 := (80, [some (.ref 40), some (.int l1), some (.int r1), some (.int r3)], [.ref 40, .ref 45])) (M := M4) (o := (pcl GG lay d 264 [.ref 40, .int r4] M4)) (hf := rfl) rfl rfl).trans ?_
        refine kI_in (fun r5 M5 => ?_)
        refine (e_kI (q := (80, [some (.ref 40), some (.int l1), some (.int r1), some (.int r3)], [.int r5, .ref 40, .ref 45])) (q2 := (83, [some (.ref 40), some (.int l1), some (.int r1), some (.int r3)], [.ref 45])) (M := M5) (o := (pcl GG lay d 265 [.ref 40, .int r5] M5)) (hf := rfl) rfl rfl).trans ?_
        refine kI_in (fun r6 M6 => ?_)
        refine (e_kI (q := (83, [some (.ref 40), some (.int l1), some (.int r1), some (.int r3)], [.int r6, .ref 45])) (q2 := (86, [some (.ref 40), some (.int l1), some (.int r1), some (.int r3)], [])) (M := M6) (o := (pcl GG lay d 65 [.ref 45, .int r6] M6)) (hf := rfl) rfl rfl).trans ?_
        refine kI_in (fun r7 M7 => ?_)
        refine (e_if_ne (hf := rfl)).trans ?_
        refine ite_in ?_ ?_
        · refine (evn_adv 1 (q' := (90, [some (.ref 40), some (.int l1), some (.int r1), some (.int r3)], [.int (jn 0)], M7)) rfl).trans ?_
          exact e_iretz (hf := rfl)
        · refine (evn_adv 4 (q' := (97, [some (.ref 40), some (.int l1), some (.int r1), some (.int r3)], [.int (jn 1), .int l1, .ref 45], M7)) rfl).trans ?_
          refine (e_kV (q := (97, [some (.ref 40), some (.int l1), some (.int r1), some (.int r3)], [.int (jn 1), .int l1, .ref 45])) (q2 := (100, [some (.ref 40), some (.int l1), some (.int r1), some (.int r3)], [])) (M := M7) (o := (pcl GG lay d 66 [.ref 45, .int l1, .int (jn 1)] M7)) (hf := rfl) rfl rfl).trans ?_
          refine kV_in (fun M8 => ?_)
          refine (evn_adv 1 (q' := (101, [some (.ref 40), some (.int l1), some (.int r1), some (.int r3)], [.int (jn 1)], M8)) rfl).trans ?_
          exact e_iretz (hf := rfl)
      · refine (evn_adv 4 (q' := (97, [some (.ref 40), some (.int l1), some (.int r1), some (.int r3)], [.int (jn 1), .int l1, .ref 45], M3)) rfl).trans ?_
        refine (e_kV (q := (97, [some (.ref 40), some (.int l1), some (.int r1), some (.int r3)], [.int (jn 1), .int l1, .ref 45])) (q2 := (100, [some (.ref 40), some (.int l1), some (.int r1), some (.int r3)], [])) (M := M3) (o := (pcl GG lay d 66 [.ref 45, .int l1, .int (jn 1)] M3)) (hf := rfl) rfl rfl).trans ?_
        refine kV_in (fun M4 => ?_)
        refine (evn_adv 1 (q' := (101, [some (.ref 40), some (.int l1), some (.int r1), some (.int r3)], [.int (jn 1)], M4)) rfl).trans ?_
        exact e_iretz (hf := rfl)
    · refine (evn_adv 7 (q' := (44, [some (.ref 40), some (.int l1), some (.int r1), some (.int r3)], [.int (r1 + (jn 1)), .ref 40, .ref 40, .ref 45], M3)) rfl).trans ?_
      refine (e_kI (q := (44, [some (.ref 40), some (.int l1), some (.int r1), some (.int r3)], [.int (r1 + (jn 1)), .ref 40, .ref 40, .ref 45])) (q2 := (47, [some (.ref 40), some (.int l1), some (.int r1), some (.int r3)], [.ref 40, .ref 45])) (M := M3) (o := (pcl GG lay d 264 [.ref 40, .int (r1 + (jn 1))] M3)) (hf := rfl) rfl rfl).trans ?_
      refine kI_in (fun r4 M4 => ?_)
      refine (e_kI (q := (47, [some (.ref 40), some (.int l1), some (.int r1), some (.int r3)], [.int r4, .ref 40, .ref 45])) (q2 := (50, [some (.ref 40), some (.int l1), some (.int r1), some (.int r3)], [.ref 45])) (M := M4) (o := (pcl GG lay d 265 [.ref 40, .int r4] M4)) (hf := rfl) rfl rfl).trans ?_
      refine kI_in (fun r5 M5 => ?_)
      refine (e_kI (q := (50, [some (.ref 40), some (.int l1), some (.int r1), some (.int r3)], [.int r5, .ref 45])) (q2 := (53, [some (.ref 40), some (.int l1), some (.int r1), some (.int r3)], [])) (M := M5) (o := (pcl GG lay d 65 [.ref 45, .int r5] M5)) (hf := rfl) rfl rfl).trans ?_
      refine kI_in (fun r6 M6 => ?_)
      refine (e_if_ne (hf := rfl)).trans ?_
      refine ite_in ?_ ?_
      · refine (evn_adv 1 (q' := (57, [some (.ref 40), some (.int l1), some (.int r1), some (.int r3)], [.int (jn 0)], M6)) rfl).trans ?_
        exact e_iretz (hf := rfl)
      · refine (evn_adv 2 (q' := (60, [some (.ref 40), some (.int l1), some (.int r1), some (.int r3)], [.int (jn 2), .int r3], M6)) rfl).trans ?_
        refine (e_ic_ne (hf := rfl)).trans ?_
        refine ite_in ?_ ?_
        · refine (evn_adv 7 (q' := (74, [some (.ref 40), some (.int l1), some (.int r1), some (.int r3)], [.int r1, .ref 42, .ref 40, .ref 40, .ref 45], M6)) rfl).trans ?_
          refine (e_kI (q := (74, [some (.ref 40), some (.int l1), some (.int r1), some (.int r3)], [.int r1, .ref 42, .ref 40, .ref 40, .ref 45])) (q2 := (77, [some (.ref 40), some (.int l1), some (.int r1), some (.int r3)], [.ref 40, .ref 40, .ref 45])) (M := M6) (o := (pcl GG lay d 65 [.ref 42, .int r1] M6)) (hf := rfl) rfl rfl).trans ?_
          refine kI_in (fun r7 M7 => ?_)
          refine (e_kI (q := (77, [some (.ref 40), some (.int l1), some (.int r1), some (.int r3)], [.int r7, .ref 40, .ref 40, .ref 45])) (q2 := (80, [some (.ref 40), some (.int l1), some (.int r1), some (.int r3)], [.ref 40, .ref 45])) (M := M7) (o := (pcl GG lay d 264 [.ref 40, .int r7] M7)) (hf := rfl) rfl rfl).trans ?_
          refine kI_in (fun r8 M8 => ?_)
          refine (e_kI (q := (80, [some (.ref 40), some (.int l1), some (.int r1), some (.int r3)], [.int r8, .ref 40, .ref 45])) (q2 := (83, [some (.ref 40), some (.int l1), some (.int r1), some (.int r3)], [.ref 45])) (M := M8) (o := (pcl GG lay d 265 [.ref 40, .int r8] M8)) (hf := rfl) rfl rfl).trans ?_
          refine kI_in (fun r9 M9 => ?_)
          refine (e_kI (q := (83, [some (.ref 40), some (.int l1), some (.int r1), some (.int r3)], [.int r9, .ref 45])) (q2 := (86, [some (.ref 40), some (.int l1), some (.int r1), some (.int r3)], [])) (M := M9) (o := (pcl GG lay d 65 [.ref 45, .int r9] M9)) (hf := rfl) rfl rfl).trans ?_
          refine kI_in (fun r10 M10 => ?_)
          refine (e_if_ne (hf := rfl)).trans ?_
          refine ite_in ?_ ?_
          · refine (evn_adv 1 (q' := (90, [some (.ref 40), some (.int l1), some (.int r1), some (.int r3)], [.int (jn 0)], M10)) rfl).trans ?_
            exact e_iretz (hf := rfl)
          · refine (evn_adv 4 (q' := (97, [some (.ref 40), some (.int l1), some (.int r1), some (.int r3)], [.int (jn 1), .int l1, .ref 45], M10)) rfl).trans ?_
            refine (e_kV (q := (97, [some (.ref 40), some (.int l1), some (.int r1), some (.int r3)], [.int (jn 1), .int l1, .ref 45])) (q2 := (100, [some (.ref 40), some (.int l1), some (.int r1), some (.int r3)], [])) (M := M10) (o := (pcl GG lay d 66 [.ref 45, .int l1, .int (jn 1)] M10)) (hf := rfl) rfl rfl).trans ?_
            refine kV_in (fun M11 => ?_)
            refine (evn_adv 1 (q' := (101, [some (.ref 40), some (.int l1), some (.int r1), some (.int r3)], [.int (jn 1)], M11)) rfl).trans ?_
            exact e_iretz (hf := rfl)
        · refine (evn_adv 4 (q' := (97, [some (.ref 40), some (.int l1), some (.int r1), some (.int r3)], [.int (jn 1), .int l1, .ref 45], M6)) rfl).trans ?_
          refine (e_kV (q := (97, [some (.ref 40), some (.int l1), some (.int r1), some (.int r3)], [.int (jn 1), .int l1, .ref 45])) (q2 := (100, [some (.ref 40), some (.int l1), some (.int r1), some (.int r3)], [])) (M := M6) (o := (pcl GG lay d 66 [.ref 45, .int l1, .int (jn 1)] M6)) (hf := rfl) rfl rfl).trans ?_
          refine kV_in (fun M7 => ?_)
          refine (evn_adv 1 (q' := (101, [some (.ref 40), some (.int l1), some (.int r1), some (.int r3)], [.int (jn 1)], M7)) rfl).trans ?_
          exact e_iretz (hf := rfl)
/-- TermStrategies$Unifier.writeTo(I)V -/
noncomputable abbrev E_268 (d : Nat) : PQ → PO := evn (rnn k_268 lay none (pcl GG lay d) 0)
theorem q_268 (d : Nat) (l1 : Int32) (M : PM) : pcl GG lay (d + 1) 268 [.ref 40, .int l1] M = (wr (sI M 40 (va_up (M.1 40) 10 l1)) fun M1 => (wr (sI M1 40 (va_up (M1.1 40) 11 (jn 0))) fun M2 => (rV M2))) := by
  refine (pcl_un (mt := t_268) (by decide) rfl (Nat.le_of_ble_eq_true rfl)).trans ?_
  show E_268 d (0, [some (.ref 40), some (.int l1)], [], M) = _
  refine (evn_adv 2 (q' := (2, [some (.ref 40), some (.int l1)], [.int l1, .ref 40], M)) rfl).trans ?_
  refine (evn_adv 1 (q' := (5, [some (.ref 40), some (.int l1)], [], (sI M 40 (va_up (M.1 40) 10 l1)))) rfl).trans ?_
  refine wr_in (f := fun M1 => E_268 d (5, [some (.ref 40), some (.int l1)], [], M1)) (fun M1 => ?_)
  refine (evn_adv 2 (q' := (7, [some (.ref 40), some (.int l1)], [.int (jn 0), .ref 40], M1)) rfl).trans ?_
  refine (evn_adv 1 (q' := (10, [some (.ref 40), some (.int l1)], [], (sI M1 40 (va_up (M1.1 40) 11 (jn 0))))) rfl).trans ?_
  refine wr_in (f := fun M2 => E_268 d (10, [some (.ref 40), some (.int l1)], [], M2)) (fun M2 => ?_)
  exact evn_end 1 rfl
