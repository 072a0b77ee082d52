/-- TermStrategiesModel.says(II)I -/
noncomputable abbrev E_89 (d : Nat) : PQ → PO := evn (rnn k_89 lay none (pcl GG lay d) 1)
theorem q_89 (d : Nat) (l1 : Int32) (l2 : Int32) (M : PM) : pcl GG lay (d + 1) 89 [.ref 52, .int l1, .int l2] M = (kI (pcl GG lay d 71 [.int l1, .int (jn 0), .int (jn 7)] M) fun r1 M1 => (if r1 = jn 0 then (kI (pcl GG lay d 69 [.ref 52, .int (jz 1)] M1) fun r2 M2 => (rI r2 M2)) else (kI (pcl GG lay d 71 [.int l2, .int (jn 0), .int (jn 4)] M1) fun r2 M2 => (if r2 = jn 0 then (kI (pcl GG lay d 69 [.ref 52, .int (jz 1)] M2) fun r3 M3 => (rI r3 M3)) else (oB (aldI lay none M2 61 l1) fun v3 => (if v3 < jn 0 then (if v3 < jn 0 then (kI (pcl GG lay d 69 [.ref 52, .int (jz 3)] M2) fun r4 M4 => (rI r4 M4)) else (if l2 = (jn 0) then (oB (aldI lay none M2 57 v3) fun v4 => (rI v4 M2)) else (if l2 = (jn 1) then (oB (aldI lay none M2 57 v3) fun v4 => (if v4 = jn 0 then (oB (aldI lay none M2 58 v3) fun v5 => (rI v5 M2)) else (oB (aldI lay none M2 57 v3) fun v5 => (if v5 = (jn 1) then (rI (jn 99) M2) else (rI (jn 98) M2))))) else (if l2 = (jn 2) then (oB (aldI lay none M2 58 v3) fun v4 => (rI v4 M2)) else (if l2 = (jn 3) then (oB (aldI lay none M2 58 v3) fun v4 => (oB (aldI lay none M2 59 v3) fun v5 => (rI (((jn 100) * v4) + v5) M2))) else (kI (pcl GG lay d 88 [.ref 52, .int v3] M2) fun r4 M4 => (rI r4 M4))))))) else (kI (pcl GG lay d 75 [.ref 52, .int l1] M2) fun r4 M4 => (if r4 = jn 0 then (oB (aldI lay none M4 57 v3) fun v5 => (kI (pcl GG lay d 87 [.int v5, .int l2] M4) fun r6 M6 => (if r6 = jn 0 then (kI (pcl GG lay d 69 [.ref 52, .int (jz 2)] M6) fun r7 M7 => (rI r7 M7)) else (if v3 < jn 0 then (kI (pcl GG lay d 69 [.ref 52, .int (jz 3)] M6) fun r7 M7 => (rI r7 M7)) else (if l2 = (jn 0) then (oB (aldI lay none M6 57 v3) fun v7 => (rI v7 M6)) else (if l2 = (jn 1) then (oB (aldI lay none M6 57 v3) fun v7 => (if v7 = jn 0 then (oB (aldI lay none M6 58 v3) fun v8 => (rI v8 M6)) else (oB (aldI lay none M6 57 v3) fun v8 => (if v8 = (jn 1) then (rI (jn 99) M6) else (rI (jn 98) M6))))) else (if l2 = (jn 2) then (oB (aldI lay none M6 58 v3) fun v7 => (rI v7 M6)) else (if l2 = (jn 3) then (oB (aldI lay none M6 58 v3) fun v7 => (oB (aldI lay none M6 59 v3) fun v8 => (rI (((jn 100) * v7) + v8) M6))) else (kI (pcl GG lay d 88 [.ref 52, .int v3] M6) fun r7 M7 => (rI r7 M7)))))))))) else (kI (pcl GG lay d 69 [.ref 52, .int (jz 2)] M4) fun r5 M5 => (rI r5 M5)))))))))) := by
  refine (pcl_un (mt := t_89) (by decide) rfl (Nat.le_of_ble_eq_true rfl)).trans ?_
  show E_89 d (0, [some (.ref 52), some (.int l1), some (.int l2), none], [], M) = _
  refine (evn_adv 3 (q' := (4, [some (.ref 52), some (.int l1), some (.int l2), none], [.int (jn 7), .int (jn 0), .int l1], M)) rfl).trans ?_
  refine (e_kI (q := (4, [some (.ref 52), some (.int l1), some (.int l2), none], [.int (jn 7), .int (jn 0), .int l1])) (q2 := (7, [some (.ref 52), some (.int l1), some (.int l2), none], [])) (M := M) (o := (pcl GG lay d 71 [.int l1, .int (jn 0), .int (jn 7)] M)) (hf := rfl) rfl rfl).trans ?_
  refine kI_in (fun r1 M1 => ?_)
  refine (e_if_eq (hf := rfl)).trans ?_
  refine ite_in ?_ ?_
  · refine (evn_adv 2 (q' := (21, [some (.ref 52), some (.int l1), some (.int l2), none], [.int (jz 1), .ref 52], M1)) rfl).trans ?_
    refine (e_kI (q := (21, [some (.ref 52), some (.int l1), some (.int l2), none], [.int (jz 1), .ref 52])) (q2 := (24, [some (.ref 52), some (.int l1), some (.int l2), none], [])) (M := M1) (o := (pcl GG lay d 69 [.ref 52, .int (jz 1)] M1)) (hf := rfl) rfl rfl).trans ?_
    refine kI_in (fun r2 M2 => ?_)
    exact evn_end 1 rfl
  · refine (evn_adv 3 (q' := (13, [some (.ref 52), some (.int l1), some (.int l2), none], [.int (jn 4), .int (jn 0), .int l2], M1)) rfl).trans ?_
    refine (e_kI (q := (13, [some (.ref 52), some (.int l1), some (.int l2), none], [.int (jn 4), .int (jn 0), .int l2])) (q2 := (16, [some (.ref 52), some (.int l1), some (.int l2), none], [])) (M := M1) (o := (pcl GG lay d 71 [.int l2, .int (jn 0), .int (jn 4)] M1)) (hf := rfl) rfl rfl).trans ?_
    refine kI_in (fun r2 M2 => ?_)
    refine (e_if_ne (hf := rfl)).trans ?_
    refine ite_in ?_ ?_
    · refine (evn_adv 2 (q' := (21, [some (.ref 52), some (.int l1), some (.int l2), none], [.int (jz 1), .ref 52], M2)) rfl).trans ?_
      refine (e_kI (q := (21, [some (.ref 52), some (.int l1), some (.int l2), none], [.int (jz 1), .ref 52])) (q2 := (24, [some (.ref 52), some (.int l1), some (.int l2), none], [])) (M := M2) (o := (pcl GG lay d 69 [.ref 52, .int (jz 1)] M2)) (hf := rfl) rfl rfl).trans ?_
      refine kI_in (fun r3 M3 => ?_)
      exact evn_end 1 rfl
    · refine (evn_adv 3 (q' := (30, [some (.ref 52), some (.int l1), some (.int l2), none], [.int l1, .ref 61], M2)) rfl).trans ?_
      refine (e_oB (q := (30, [some (.ref 52), some (.int l1), some (.int l2), none], [.int l1, .ref 61], M2)) (o := (aldI lay none M2 61 l1)) (f := fun v3 => (31, [some (.ref 52), some (.int l1), some (.int l2), none], [.int v3], M2)) (hf := rfl) rfl).trans ?_
      refine oB_in (fun v3 => ?_)
      refine (evn_adv 2 (q' := (33, [some (.ref 52), some (.int l1), some (.int l2), some (.int v3)], [.int v3], M2)) rfl).trans ?_
      refine (e_if_lt (hf := rfl)).trans ?_
      refine ite_in ?_ ?_
      · refine (evn_adv 1 (q' := (65, [some (.ref 52), some (.int l1), some (.int l2), some (.int v3)], [.int v3], M2)) rfl).trans ?_
        refine (e_if_ge (hf := rfl)).trans ?_
        refine ite_in ?_ ?_
        · refine (evn_adv 2 (q' := (71, [some (.ref 52), some (.int l1), some (.int l2), some (.int v3)], [.int (jz 3), .ref 52], M2)) rfl).trans ?_
          refine (e_kI (q := (71, [some (.ref 52), some (.int l1), some (.int l2), some (.int v3)], [.int (jz 3), .ref 52])) (q2 := (74, [some (.ref 52), some (.int l1), some (.int l2), some (.int v3)], [])) (M := M2) (o := (pcl GG lay d 69 [.ref 52, .int (jz 3)] M2)) (hf := rfl) rfl rfl).trans ?_
          refine kI_in (fun r4 M4 => ?_)
          exact evn_end 1 rfl
        · refine (evn_adv 1 (q' := (76, [some (.ref 52), some (.int l1), some (.int l2), some (.int v3)], [.int l2], M2)) rfl).trans ?_
          refine (e_sw0 (dflt := 175) (lo := ((0 : Nat) : Int)) (ts := [108, 115, 151, 158]) (hf := rfl) rfl).trans ?_
          refine sw_cons (lo := 0) (F := fun pc => E_89 d (pc, [some (.ref 52), some (.int l1), some (.int l2), some (.int v3)], [], M2)) (by decide) ?_ ?_
          · refine (evn_adv 3 (q' := (113, [some (.ref 52), some (.int l1), some (.int l2), some (.int v3)], [.int v3, .ref 57], M2)) rfl).trans ?_
            refine (e_oB (q := (113, [some (.ref 52), some (.int l1), some (.int l2), some (.int v3)], [.int v3, .ref 57], M2)) (o := (aldI lay none M2 57 v3)) (f := fun v4 => (114, [some (.ref 52), some (.int l1), some (.int l2), some (.int v3)], [.int v4], M2)) (hf := rfl) rfl).trans ?_
            refine oB_in (fun v4 => ?_)
            exact evn_end 1 rfl
          refine sw_cons (lo := 1) (F := fun pc => E_89 d (pc, [some (.ref 52), some (.int l1), some (.int l2), some (.int v3)], [], M2)) (by decide) ?_ ?_
          · refine (evn_adv 3 (q' := (120, [some (.ref 52), some (.int l1), some (.int l2), some (.int v3)], [.int v3, .ref 57], M2)) rfl).trans ?_
            refine (e_oB (q := (120, [some (.ref 52), some (.int l1), some (.int l2), some (.int v3)], [.int v3, .ref 57], M2)) (o := (aldI lay none M2 57 v3)) (f := fun v4 => (121, [some (.ref 52), some (.int l1), some (.int l2), some (.int v3)], [.int v4], M2)) (hf := rfl) rfl).trans ?_
            refine oB_in (fun v4 => ?_)
            refine (e_if_ne (hf := rfl)).trans ?_
            refine ite_in ?_ ?_
            · refine (evn_adv 3 (q' := (129, [some (.ref 52), some (.int l1), some (.int l2), some (.int v3)], [.int v3, .ref 58], M2)) rfl).trans ?_
              refine (e_oB (q := (129, [some (.ref 52), some (.int l1), some (.int l2), some (.int v3)], [.int v3, .ref 58], M2)) (o := (aldI lay none M2 58 v3)) (f := fun v5 => (130, [some (.ref 52), some (.int l1), some (.int l2), some (.int v3)], [.int v5], M2)) (hf := rfl) rfl).trans ?_
              refine oB_in (fun v5 => ?_)
              refine (evn_adv 1 (q' := (150, [some (.ref 52), some (.int l1), some (.int l2), some (.int v3)], [.int v5], M2)) rfl).trans ?_
              exact evn_end 1 rfl
            · refine (evn_adv 3 (q' := (138, [some (.ref 52), some (.int l1), some (.int l2), some (.int v3)], [.int v3, .ref 57], M2)) rfl).trans ?_
              refine (e_oB (q := (138, [some (.ref 52), some (.int l1), some (.int l2), some (.int v3)], [.int v3, .ref 57], M2)) (o := (aldI lay none M2 57 v3)) (f := fun v5 => (139, [some (.ref 52), some (.int l1), some (.int l2), some (.int v3)], [.int v5], M2)) (hf := rfl) rfl).trans ?_
              refine oB_in (fun v5 => ?_)
              refine (evn_adv 1 (q' := (140, [some (.ref 52), some (.int l1), some (.int l2), some (.int v3)], [.int (jn 1), .int v5], M2)) rfl).trans ?_
              refine (e_ic_ne (hf := rfl)).trans ?_
              refine ite_in ?_ ?_
              · refine (evn_adv 2 (q' := (150, [some (.ref 52), some (.int l1), some (.int l2), some (.int v3)], [.int (jn 99)], M2)) rfl).trans ?_
                exact evn_end 1 rfl
              · refine (evn_adv 1 (q' := (150, [some (.ref 52), some (.int l1), some (.int l2), some (.int v3)], [.int (jn 98)], M2)) rfl).trans ?_
                exact evn_end 1 rfl
          refine sw_cons (lo := 2) (F := fun pc => E_89 d (pc, [some (.ref 52), some (.int l1), some (.int l2), some (.int v3)], [], M2)) (by decide) ?_ ?_
          · refine (evn_adv 3 (q' := (156, [some (.ref 52), some (.int l1), some (.int l2), some (.int v3)], [.int v3, .ref 58], M2)) rfl).trans ?_
            refine (e_oB (q := (156, [some (.ref 52), some (.int l1), some (.int l2), some (.int v3)], [.int v3, .ref 58], M2)) (o := (aldI lay none M2 58 v3)) (f := fun v4 => (157, [some (.ref 52), some (.int l1), some (.int l2), some (.int v3)], [.int v4], M2)) (hf := rfl) rfl).trans ?_
            refine oB_in (fun v4 => ?_)
            exact evn_end 1 rfl
          refine sw_cons (lo := 3) (F := fun pc => E_89 d (pc, [some (.ref 52), some (.int l1), some (.int l2), some (.int v3)], [], M2)) (by decide) ?_ ?_
          · refine (evn_adv 4 (q' := (165, [some (.ref 52), some (.int l1), some (.int l2), some (.int v3)], [.int v3, .ref 58, .int (jn 100)], M2)) rfl).trans ?_
            refine (e_oB (q := (165, [some (.ref 52), some (.int l1), some (.int l2), some (.int v3)], [.int v3, .ref 58, .int (jn 100)], M2)) (o := (aldI lay none M2 58 v3)) (f := fun v4 => (166, [some (.ref 52), some (.int l1), some (.int l2), some (.int v3)], [.int v4, .int (jn 100)], M2)) (hf := rfl) rfl).trans ?_
            refine oB_in (fun v4 => ?_)
            refine (evn_adv 4 (q' := (172, [some (.ref 52), some (.int l1), some (.int l2), some (.int v3)], [.int v3, .ref 59, .int ((jn 100) * v4)], M2)) rfl).trans ?_
            refine (e_oB (q := (172, [some (.ref 52), some (.int l1), some (.int l2), some (.int v3)], [.int v3, .ref 59, .int ((jn 100) * v4)], M2)) (o := (aldI lay none M2 59 v3)) (f := fun v5 => (173, [some (.ref 52), some (.int l1), some (.int l2), some (.int v3)], [.int v5, .int ((jn 100) * v4)], M2)) (hf := rfl) rfl).trans ?_
            refine oB_in (fun v5 => ?_)
            refine (evn_adv 1 (q' := (174, [some (.ref 52), some (.int l1), some (.int l2), some (.int v3)], [.int (((jn 100) * v4) + v5)], M2)) rfl).trans ?_
            exact evn_end 1 rfl
          show E_89 d (175, [some (.ref 52), some (.int l1), some (.int l2), some (.int v3)], [], M2) = _
          refine (evn_adv 2 (q' := (177, [some (.ref 52), some (.int l1), some (.int l2), some (.int v3)], [.int v3, .ref 52], M2)) rfl).trans ?_
          refine (e_kI (q := (177, [some (.ref 52), some (.int l1), some (.int l2), some (.int v3)], [.int v3, .ref 52])) (q2 := (180, [some (.ref 52), some (.int l1), some (.int l2), some (.int v3)], [])) (M := M2) (o := (pcl GG lay d 88 [.ref 52, .int v3] M2)) (hf := rfl) rfl rfl).trans ?_
          refine kI_in (fun r4 M4 => ?_)
          exact evn_end 1 rfl
      · refine (evn_adv 2 (q' := (38, [some (.ref 52), some (.int l1), some (.int l2), some (.int v3)], [.int l1, .ref 52], M2)) rfl).trans ?_
        refine (e_kI (q := (38, [some (.ref 52), some (.int l1), some (.int l2), some (.int v3)], [.int l1, .ref 52])) (q2 := (41, [some (.ref 52), some (.int l1), some (.int l2), some (.int v3)], [])) (M := M2) (o := (pcl GG lay d 75 [.ref 52, .int l1] M2)) (hf := rfl) rfl rfl).trans ?_
        refine kI_in (fun r4 M4 => ?_)
        refine (e_if_ne (hf := rfl)).trans ?_
        refine ite_in ?_ ?_
        · refine (evn_adv 3 (q' := (49, [some (.ref 52), some (.int l1), some (.int l2), some (.int v3)], [.int v3, .ref 57], M4)) rfl).trans ?_
          refine (e_oB (q := (49, [some (.ref 52), some (.int l1), some (.int l2), some (.int v3)], [.int v3, .ref 57], M4)) (o := (aldI lay none M4 57 v3)) (f := fun v5 => (50, [some (.ref 52), some (.int l1), some (.int l2), some (.int v3)], [.int v5], M4)) (hf := rfl) rfl).trans ?_
          refine oB_in (fun v5 => ?_)
          refine (evn_adv 1 (q' := (51, [some (.ref 52), some (.int l1), some (.int l2), some (.int v3)], [.int l2, .int v5], M4)) rfl).trans ?_
          refine (e_kI (q := (51, [some (.ref 52), some (.int l1), some (.int l2), some (.int v3)], [.int l2, .int v5])) (q2 := (54, [some (.ref 52), some (.int l1), some (.int l2), some (.int v3)], [])) (M := M4) (o := (pcl GG lay d 87 [.int v5, .int l2] M4)) (hf := rfl) rfl rfl).trans ?_
          refine kI_in (fun r6 M6 => ?_)
          refine (e_if_ne (hf := rfl)).trans ?_
          refine ite_in ?_ ?_
          · refine (evn_adv 2 (q' := (60, [some (.ref 52), some (.int l1), some (.int l2), some (.int v3)], [.int (jz 2), .ref 52], M6)) rfl).trans ?_
            refine (e_kI (q := (60, [some (.ref 52), some (.int l1), some (.int l2), some (.int v3)], [.int (jz 2), .ref 52])) (q2 := (63, [some (.ref 52), some (.int l1), some (.int l2), some (.int v3)], [])) (M := M6) (o := (pcl GG lay d 69 [.ref 52, .int (jz 2)] M6)) (hf := rfl) rfl rfl).trans ?_
            refine kI_in (fun r7 M7 => ?_)
            exact evn_end 1 rfl
          · refine (evn_adv 1 (q' := (65, [some (.ref 52), some (.int l1), some (.int l2), some (.int v3)], [.int v3], M6)) rfl).trans ?_
            refine (e_if_ge (hf := rfl)).trans ?_
            refine ite_in ?_ ?_
            · refine (evn_adv 2 (q' := (71, [some (.ref 52), some (.int l1), some (.int l2), some (.int v3)], [.int (jz 3), .ref 52], M6)) rfl).trans ?_
              refine (e_kI (q := (71, [some (.ref 52), some (.int l1), some (.int l2), some (.int v3)], [.int (jz 3), .ref 52])) (q2 := (74, [some (.ref 52), some (.int l1), some (.int l2), some (.int v3)], [])) (M := M6) (o := (pcl GG lay d 69 [.ref 52, .int (jz 3)] M6)) (hf := rfl) rfl rfl).trans ?_
              refine kI_in (fun r7 M7 => ?_)
              exact evn_end 1 rfl
            · refine (evn_adv 1 (q' := (76, [some (.ref 52), some (.int l1), some (.int l2), some (.int v3)], [.int l2], M6)) rfl).trans ?_
              refine (e_sw0 (dflt := 175) (lo := ((0 : Nat) : Int)) (ts := [108, 115, 151, 158]) (hf := rfl) rfl).trans ?_
              refine sw_cons (lo := 0) (F := fun pc => E_89 d (pc, [some (.ref 52), some (.int l1), some (.int l2), some (.int v3)], [], M6)) (by decide) ?_ ?_
              · refine (evn_adv 3 (q' := (113, [some (.ref 52), some (.int l1), some (.int l2), some (.int v3)], [.int v3, .ref 57], M6)) rfl).trans ?_
                refine (e_oB (q := (113, [some (.ref 52), some (.int l1), some (.int l2), some (.int v3)], [.int v3, .ref 57], M6)) (o := (aldI lay none M6 57 v3)) (f := fun v7 => (114, [some (.ref 52), some (.int l1), some (.int l2), some (.int v3)], [.int v7], M6)) (hf := rfl) rfl).trans ?_
                refine oB_in (fun v7 => ?_)
                exact evn_end 1 rfl
              refine sw_cons (lo := 1) (F := fun pc => E_89 d (pc, [some (.ref 52), some (.int l1), some (.int l2), some (.int v3)], [], M6)) (by decide) ?_ ?_
              · refine (evn_adv 3 (q' := (120, [some (.ref 52), some (.int l1), some (.int l2), some (.int v3)], [.int v3, .ref 57], M6)) rfl).trans ?_
                refine (e_oB (q := (120, [some (.ref 52), some (.int l1), some (.int l2), some (.int v3)], [.int v3, .ref 57], M6)) (o := (aldI lay none M6 57 v3)) (f := fun v7 => (121, [some (.ref 52), some (.int l1), some (.int l2), some (.int v3)], [.int v7], M6)) (hf := rfl) rfl).trans ?_
                refine oB_in (fun v7 => ?_)
                refine (e_if_ne (hf := rfl)).trans ?_
                refine ite_in ?_ ?_
                · refine (evn_adv 3 (q' := (129, [some (.ref 52), some (.int l1), some (.int l2), some (.int v3)], [.int v3, .ref 58], M6)) rfl).trans ?_
                  refine (e_oB (q := (129, [some (.ref 52), some (.int l1), some (.int l2), some (.int v3)], [.int v3, .ref 58], M6)) (o := (aldI lay none M6 58 v3)) (f := fun v8 => (130, [some (.ref 52), some (.int l1), some (.int l2), some (.int v3)], [.int v8], M6)) (hf := rfl) rfl).trans ?_
                  refine oB_in (fun v8 => ?_)
                  refine (evn_adv 1 (q' := (150, [some (.ref 52), some (.int l1), some (.int l2), some (.int v3)], [.int v8], M6)) rfl).trans ?_
                  exact evn_end 1 rfl
                · refine (evn_adv 3 (q' := (138, [some (.ref 52), some (.int l1), some (.int l2), some (.int v3)], [.int v3, .ref 57], M6)) rfl).trans ?_
                  refine (e_oB (q := (138, [some (.ref 52), some (.int l1), some (.int l2), some (.int v3)], [.int v3, .ref 57], M6)) (o := (aldI lay none M6 57 v3)) (f := fun v8 => (139, [some (.ref 52), some (.int l1), some (.int l2), some (.int v3)], [.int v8], M6)) (hf := rfl) rfl).trans ?_
                  refine oB_in (fun v8 => ?_)
                  refine (evn_adv 1 (q' := (140, [some (.ref 52), some (.int l1), some (.int l2), some (.int v3)], [.int (jn 1), .int v8], M6)) rfl).trans ?_
                  refine (e_ic_ne (hf := rfl)).trans ?_
                  refine ite_in ?_ ?_
                  · refine (evn_adv 2 (q' := (150, [some (.ref 52), some (.int l1), some (.int l2), some (.int v3)], [.int (jn 99)], M6)) rfl).trans ?_
                    exact evn_end 1 rfl
                  · refine (evn_adv 1 (q' := (150, [some (.ref 52), some (.int l1), some (.int l2), some (.int v3)], [.int (jn 98)], M6)) rfl).trans ?_
                    exact evn_end 1 rfl
              refine sw_cons (lo := 2) (F := fun pc => E_89 d (pc, [some (.ref 52), some (.int l1), some (.int l2), some (.int v3)], [], M6)) (by decide) ?_ ?_
              · refine (evn_adv 3 (q' := (156, [some (.ref 52), some (.int l1), some (.int l2), some (.int v3)], [.int v3, .ref 58], M6)) rfl).trans ?_
                refine (e_oB (q := (156, [some (.ref 52), some (.int l1), some (.int l2), some (.int v3)], [.int v3, .ref 58], M6)) (o := (aldI lay none M6 58 v3)) (f := fun v7 => (157, [some (.ref 52), some (.int l1), some (.int l2), some (.int v3)], [.int v7], M6)) (hf := rfl) rfl).trans ?_
                refine oB_in (fun v7 => ?_)
                exact evn_end 1 rfl
              refine sw_cons (lo := 3) (F := fun pc => E_89 d (pc, [some (.ref 52), some (.int l1), some (.int l2), some (.int v3)], [], M6)) (by decide) ?_ ?_
              · refine (evn_adv 4 (q' := (165, [some (.ref 52), some (.int l1), some (.int l2), some (.int v3)], [.int v3, .ref 58, .int (jn 100)], M6)) rfl).trans ?_
                refine (e_oB (q := (165, [some (.ref 52), some (.int l1), some (.int l2), some (.int v3)], [.int v3, .ref 58, .int (jn 100)], M6)) (o := (aldI lay none M6 58 v3)) (f := fun v7 => (166, [some (.ref 52), some (.int l1), some (.int l2), some (.int v3)], [.int v7, .int (jn 100)], M6)) (hf := rfl) rfl).trans ?_
                refine oB_in (fun v7 => ?_)
                refine (evn_adv 4 (q' := (172, [some (.ref 52), some (.int l1), some (.int l2), some (.int v3)], [.int v3, .ref 59, .int ((jn 100) * v7)], M6)) rfl).trans ?_
                refine (e_oB (q := (172, [some (.ref 52), some (.int l1), some (.int l2), some (.int v3)], [.int v3, .ref 59, .int ((jn 100) * v7)], M6)) (o := (aldI lay none M6 59 v3)) (f := fun v8 => (173, [some (.ref 52), some (.int l1), some (.int l2), some (.int v3)], [.int v8, .int ((jn 100) * v7)], M6)) (hf := rfl) rfl).trans ?_
                refine oB_in (fun v8 => ?_)
                refine (evn_adv 1 (q' := (174, [some (.ref 52), some (.int l1), some (.int l2), some (.int v3)], [.int (((jn 100) * v7) + v8)], M6)) rfl).trans ?_
                exact evn_end 1 rfl
              show E_89 d (175, [some (.ref 52), some (.int l1), some (.int l2), some (.int v3)], [], M6) = _
              refine (evn_adv 2 (q' := (177, [some (.ref 52), some (.int l1), some (.int l2), some (.int v3)], [.int v3, .ref 52], M6)) rfl).trans ?_
              refine (e_kI (q := (177, [some (.ref 52), some (.int l1), some (.int l2), some (.int v3)], [.int v3, .ref 52])) (q2 := (180, [some (.ref 52), some (.int l1), some (.int l2), some (.int v3)], [])) (M := M6) (o := (pcl GG lay d 88 [.ref 52, .int v3] M6)) (hf := rfl) rfl rfl).trans ?_
              refine kI_in (fun r7 M7 => ?_)
              exact evn_end 1 rfl
        · refine (evn_adv 2 (q' := (60, [some (.ref 52), some (.int l1), some (.int l2), some (.int v3)], [.int (jz 2), .ref 52], M4)) rfl).trans ?_
          refine (e_kI (q := (60, [some (.ref 52), some (.int l1), some (.int l2), some (.int v3)], [.int (jz 2), .ref 52])) (q2 := (63, [some (.ref 52), some (.int l1), some (.int l2), some (.int v3)], [])) (M := M4) (o := (pcl GG lay d 69 [.ref 52, .int (jz 2)] M4)) (hf := rfl) rfl rfl).trans ?_
          refine kI_in (fun r5 M5 => ?_)
          exact evn_end 1 rfl
/-- TermStrategiesModel.read(II)I -/
noncomputable abbrev E_90 (d : Nat) : PQ → PO := evn (rnn k_90 lay none (pcl GG lay d) 1)
theorem q_90 (d : Nat) (l1 : Int32) (l2 : Int32) (M : PM) : pcl GG lay (d + 1) 90 [.ref 52, .int l1, .int l2] M = (oB (aldL lay M 63 (((jn 160) * l1) + l2)) fun v1 => (rI (v1.toInt32) M)) := by
  refine (pcl_un (mt := t_90) (by decide) rfl (Nat.le_of_ble_eq_true rfl)).trans ?_
  show E_90 d (0, [some (.ref 52), some (.int l1), some (.int l2)], [], M) = _
  refine (evn_adv 7 (q' := (11, [some (.ref 52), some (.int l1), some (.int l2)], [.int (((jn 160) * l1) + l2), .ref 63], M)) rfl).trans ?_
  refine (e_oB (q := (11, [some (.ref 52), some (.int l1), some (.int l2)], [.int (((jn 160) * l1) + l2), .ref 63], M)) (o := (aldL lay M 63 (((jn 160) * l1) + l2))) (f := fun v1 => (12, [some (.ref 52), some (.int l1), some (.int l2)], [.long v1], M)) (hf := rfl) rfl).trans ?_
  refine oB_in (fun v1 => ?_)
  refine (evn_adv 1 (q' := (13, [some (.ref 52), some (.int l1), some (.int l2)], [.int (v1.toInt32)], M)) rfl).trans ?_
  exact evn_end 1 rfl
/-- TermStrategiesModel.reads(I)I -/
noncomputable abbrev E_91 (d : Nat) : PQ → PO := evn (rnn k_91 lay none (pcl GG lay d) 1)
theorem q_91 (d : Nat) (l1 : Int32) (M : PM) : pcl GG lay (d + 1) 91 [.ref 52, .int l1] M = (oB (aldI lay none M 62 l1) fun v1 => E_91 d (18, [some (.ref 52), some (.int l1), some (.int v1), some (.int (jn 0)), some (.int (jn 0)), some (.int (jn 1)), some (.int (jn 0)), none], [], M)) := by
  refine (pcl_un (mt := t_91) (by decide) rfl (Nat.le_of_ble_eq_true rfl)).trans ?_
  show E_91 d (0, [some (.ref 52), some (.int l1), none, none, none, none, none, none], [], M) = _
  refine (evn_adv 3 (q' := (5, [some (.ref 52), some (.int l1), none, none, none, none, none, none], [.int l1, .ref 62], M)) rfl).trans ?_
  refine (e_oB (q := (5, [some (.ref 52), some (.int l1), none, none, none, none, none, none], [.int l1, .ref 62], M)) (o := (aldI lay none M 62 l1)) (f := fun v1 => (6, [some (.ref 52), some (.int l1), none, none, none, none, none, none], [.int v1], M)) (hf := rfl) rfl).trans ?_
  refine oB_in (fun v1 => ?_)
  refine (evn_adv 9 (q' := (18, [some (.ref 52), some (.int l1), some (.int v1), some (.int (jn 0)), some (.int (jn 0)), some (.int (jn 1)), some (.int (jn 0)), none], [], M)) rfl).trans ?_
  rfl
theorem h_91_18 (d : Nat) (l1 : Int32) (l2 : Int32) (l3 : Int32) (l4 : Int32) (l5 : Int32) (l6 : Int32) (u7 : Option Value) (M : PM) : E_91 d (18, [some (.ref 52), some (.int l1), some (.int l2), some (.int l3), some (.int l4), some (.int l5), some (.int l6), u7], [], M) = (if l5 = jn 0 then (if jn 0 < l4 then (if l6 = l2 then (rI l2 M) else (kI (pcl GG lay d 90 [.ref 52, .int l1, .int l6] M) fun r1 M1 => (if l5 = jn 0 then (oB (aldI lay none M1 66 (l4 - (jn 1))) fun v2 => (if jn 0 < v2 then (if r1 = (jn 44) then (oB (aldI lay none M1 66 (l4 - (jn 1))) fun v3 => (oB (astI lay M1 66 (l4 - (jn 1)) (v3 - (jn 1))) fun M4 => E_91 d (18, [some (.ref 52), some (.int l1), some (.int l2), some (.int l3), some (.int l4), some (.int (jn 1)), some (.int (l6 + (jn 1))), some (.int r1)], [], M4))) else (rI l6 M1)) else (if r1 = (jn 41) then E_91 d (18, [some (.ref 52), some (.int l1), some (.int l2), some (.int l3), some (.int (l4 + (jz 1))), some (.int l5), some (.int (l6 + (jn 1))), some (.int r1)], [], M1) else (rI l6 M1)))) else (kI (pcl GG lay d 77 [.int r1] M1) fun r2 M2 => (if r2 < jn 0 then (rI l6 M2) else (if l3 = (jn 40) then (rI l6 M2) else (oB (astI lay M2 69 l3 r1) fun M3 => (kI (pcl GG lay d 77 [.int r1] M3) fun r4 M4 => (if jn 0 < r4 then (if (l6 + (jn 1)) = l2 then (rI (l6 + (jn 1)) M4) else (kI (pcl GG lay d 90 [.ref 52, .int l1, .int (l6 + (jn 1))] M4) fun r5 M5 => (if r5 = (jn 40) then (kI (pcl GG lay d 77 [.int r1] M5) fun r6 M6 => (oB (astI lay M6 66 l4 (r6 - (jn 1))) fun M7 => E_91 d (18, [some (.ref 52), some (.int l1), some (.int l2), some (.int (l3 + (jn 1))), some (.int (l4 + (jn 1))), some (.int l5), some (.int ((l6 + (jn 1)) + (jn 1))), some (.int r1)], [], M7))) else (rI (l6 + (jn 1)) M5)))) else E_91 d (18, [some (.ref 52), some (.int l1), some (.int l2), some (.int (l3 + (jn 1))), some (.int l4), some (.int (jn 0)), some (.int (l6 + (jn 1))), some (.int r1)], [], M4)))))))))) else (wr (sI M 52 (va_up (M.1 52) 26 l3)) fun M1 => (if l6 < l2 then (rI l6 M1) else (rI (jz 1) M1)))) else (if l6 = l2 then (rI l2 M) else (kI (pcl GG lay d 90 [.ref 52, .int l1, .int l6] M) fun r1 M1 => (if l5 = jn 0 then (oB (aldI lay none M1 66 (l4 - (jn 1))) fun v2 => (if jn 0 < v2 then (if r1 = (jn 44) then (oB (aldI lay none M1 66 (l4 - (jn 1))) fun v3 => (oB (astI lay M1 66 (l4 - (jn 1)) (v3 - (jn 1))) fun M4 => E_91 d (18, [some (.ref 52), some (.int l1), some (.int l2), some (.int l3), some (.int l4), some (.int (jn 1)), some (.int (l6 + (jn 1))), some (.int r1)], [], M4))) else (rI l6 M1)) else (if r1 = (jn 41) then E_91 d (18, [some (.ref 52), some (.int l1), some (.int l2), some (.int l3), some (.int (l4 + (jz 1))), some (.int l5), some (.int (l6 + (jn 1))), some (.int r1)], [], M1) else (rI l6 M1)))) else (kI (pcl GG lay d 77 [.int r1] M1) fun r2 M2 => (if r2 < jn 0 then (rI l6 M2) else (if l3 = (jn 40) then (rI l6 M2) else (oB (astI lay M2 69 l3 r1) fun M3 => (kI (pcl GG lay d 77 [.int r1] M3) fun r4 M4 => (if jn 0 < r4 then (if (l6 + (jn 1)) = l2 then (rI (l6 + (jn 1)) M4) else (kI (pcl GG lay d 90 [.ref 52, .int l1, .int (l6 + (jn 1))] M4) fun r5 M5 => (if r5 = (jn 40) then (kI (pcl GG lay d 77 [.int r1] M5) fun r6 M6 => (oB (astI lay M6 66 l4 (r6 - (jn 1))) fun M7 => E_91 d (18, [some (.ref 52), some (.int l1), some (.int l2), some (.int (l3 + (jn 1))), some (.int (l4 + (jn 1))), some (.int l5), some (.int ((l6 + (jn 1)) + (jn 1))), some (.int r1)], [], M7))) else (rI (l6 + (jn 1)) M5)))) else E_91 d (18, [some (.ref 52), some (.int l1), some (.int l2), some (.int (l3 + (jn 1))), some (.int l4), some (.int (jn 0)), some (.int (l6 + (jn 1))), some (.int r1)], [], M4))))))))))) := by
  refine (evn_adv 1 (q' := (20, [some (.ref 52), some (.int l1), some (.int l2), some (.int l3), some (.int l4), some (.int l5), some (.int l6), u7], [.int l5], M)) rfl).trans ?_
  refine (e_if_ne (hf := rfl)).trans ?_
  refine ite_in ?_ ?_
  · refine (evn_adv 1 (q' := (25, [some (.ref 52), some (.int l1), some (.int l2), some (.int l3), some (.int l4), some (.int l5), some (.int l6), u7], [.int l4], M)) rfl).trans ?_
    refine (e_if_le (hf := rfl)).trans ?_
    refine ite_in ?_ ?_
    · refine (evn_adv 2 (q' := (31, [some (.ref 52), some (.int l1), some (.int l2), some (.int l3), some (.int l4), some (.int l5), some (.int l6), u7], [.int l2, .int l6], M)) rfl).trans ?_
      refine (e_ic_ne (hf := rfl)).trans ?_
      refine ite_in ?_ ?_
      · refine (evn_adv 1 (q' := (35, [some (.ref 52), some (.int l1), some (.int l2), some (.int l3), some (.int l4), some (.int l5), some (.int l6), u7], [.int l2], M)) rfl).trans ?_
        exact evn_end 1 rfl
      · refine (evn_adv 3 (q' := (40, [some (.ref 52), some (.int l1), some (.int l2), some (.int l3), some (.int l4), some (.int l5), some (.int l6), u7], [.int l6, .int l1, .ref 52], M)) rfl).trans ?_
        refine (e_kI (q := (40, [some (.ref 52), some (.int l1), some (.int l2), some (.int l3), some (.int l4), some (.int l5), some (.int l6), u7], [.int l6, .int l1, .ref 52])) (q2 := (43, [some (.ref 52), some (.int l1), some (.int l2), some (.int l3), some (.int l4), some (.int l5), some (.int l6), u7], [])) (M := M) (o := (pcl GG lay d 90 [.ref 52, .int l1, .int l6] M)) (hf := rfl) rfl rfl).trans ?_
        refine kI_in (fun r1 M1 => ?_)
        refine (evn_adv 2 (q' := (47, [some (.ref 52), some (.int l1), some (.int l2), some (.int l3), some (.int l4), some (.int l5), some (.int l6), some (.int r1)], [.int l5], M1)) rfl).trans ?_
        refine (e_if_eq (hf := rfl)).trans ?_
        refine ite_in ?_ ?_
        · refine (evn_adv 5 (q' := (147, [some (.ref 52), some (.int l1), some (.int l2), some (.int l3), some (.int l4), some (.int l5), some (.int l6), some (.int r1)], [.int (l4 - (jn 1)), .ref 66], M1)) rfl).trans ?_
          refine (e_oB (q := (147, [some (.ref 52), some (.int l1), some (.int l2), some (.int l3), some (.int l4), some (.int l5), some (.int l6), some (.int r1)], [.int (l4 - (jn 1)), .ref 66], M1)) (o := (aldI lay none M1 66 (l4 - (jn 1)))) (f := fun v2 => (148, [some (.ref 52), some (.int l1), some (.int l2), some (.int l3), some (.int l4), some (.int l5), some (.int l6), some (.int r1)], [.int v2], M1)) (hf := rfl) rfl).trans ?_
          refine oB_in (fun v2 => ?_)
          refine (e_if_le (hf := rfl)).trans ?_
          refine ite_in ?_ ?_
          · refine (evn_adv 2 (q' := (155, [some (.ref 52), some (.int l1), some (.int l2), some (.int l3), some (.int l4), some (.int l5), some (.int l6), some (.int r1)], [.int (jn 44), .int r1], M1)) rfl).trans ?_
            refine (e_ic_eq (hf := rfl)).trans ?_
            refine ite_in ?_ ?_
            · refine (evn_adv 6 (q' := (170, [some (.ref 52), some (.int l1), some (.int l2), some (.int l3), some (.int l4), some (.int l5), some (.int l6), some (.int r1)], [.int (l4 - (jn 1)), .ref 66, .int (l4 - (jn 1)), .ref 66], M1)) rfl).trans ?_
              refine (e_oB (q := (170, [some (.ref 52), some (.int l1), some (.int l2), some (.int l3), some (.int l4), some (.int l5), some (.int l6), some (.int r1)], [.int (l4 - (jn 1)), .ref 66, .int (l4 - (jn 1)), .ref 66], M1)) (o := (aldI lay none M1 66 (l4 - (jn 1)))) (f := fun v3 => (171, [some (.ref 52), some (.int l1), some (.int l2), some (.int l3), some (.int l4), some (.int l5), some (.int l6), some (.int r1)], [.int v3, .int (l4 - (jn 1)), .ref 66], M1)) (hf := rfl) rfl).trans ?_
              refine oB_in (fun v3 => ?_)
              refine (evn_adv 2 (q' := (173, [some (.ref 52), some (.int l1), some (.int l2), some (.int l3), some (.int l4), some (.int l5), some (.int l6), some (.int r1)], [.int (v3 - (jn 1)), .int (l4 - (jn 1)), .ref 66], M1)) rfl).trans ?_
              refine (e_oB (q := (173, [some (.ref 52), some (.int l1), some (.int l2), some (.int l3), some (.int l4), some (.int l5), some (.int l6), some (.int r1)], [.int (v3 - (jn 1)), .int (l4 - (jn 1)), .ref 66], M1)) (o := (astI lay M1 66 (l4 - (jn 1)) (v3 - (jn 1)))) (f := fun M4 => (174, [some (.ref 52), some (.int l1), some (.int l2), some (.int l3), some (.int l4), some (.int l5), some (.int l6), some (.int r1)], [], M4)) (hf := rfl) rfl).trans ?_
              refine oB_in (fun M4 => ?_)
              refine (evn_adv 5 (q' := (18, [some (.ref 52), some (.int l1), some (.int l2), some (.int l3), some (.int l4), some (.int (jn 1)), some (.int (l6 + (jn 1))), some (.int r1)], [], M4)) rfl).trans ?_
              rfl
            · refine (evn_adv 1 (q' := (160, [some (.ref 52), some (.int l1), some (.int l2), some (.int l3), some (.int l4), some (.int l5), some (.int l6), some (.int r1)], [.int l6], M1)) rfl).trans ?_
              exact evn_end 1 rfl
          · refine (evn_adv 2 (q' := (187, [some (.ref 52), some (.int l1), some (.int l2), some (.int l3), some (.int l4), some (.int l5), some (.int l6), some (.int r1)], [.int (jn 41), .int r1], M1)) rfl).trans ?_
            refine (e_ic_eq (hf := rfl)).trans ?_
            refine ite_in ?_ ?_
            · refine (evn_adv 3 (q' := (18, [some (.ref 52), some (.int l1), some (.int l2), some (.int l3), some (.int (l4 + (jz 1))), some (.int l5), some (.int (l6 + (jn 1))), some (.int r1)], [], M1)) rfl).trans ?_
              rfl
            · refine (evn_adv 1 (q' := (192, [some (.ref 52), some (.int l1), some (.int l2), some (.int l3), some (.int l4), some (.int l5), some (.int l6), some (.int r1)], [.int l6], M1)) rfl).trans ?_
              exact evn_end 1 rfl
        · refine (evn_adv 1 (q' := (52, [some (.ref 52), some (.int l1), some (.int l2), some (.int l3), some (.int l4), some (.int l5), some (.int l6), some (.int r1)], [.int r1], M1)) rfl).trans ?_
          refine (e_kI (q := (52, [some (.ref 52), some (.int l1), some (.int l2), some (.int l3), some (.int l4), some (.int l5), some (.int l6), some (.int r1)], [.int r1])) (q2 := (55, [some (.ref 52), some (.int l1), some (.int l2), some (.int l3), some (.int l4), some (.int l5), some (.int l6), some (.int r1)], [])) (M := M1) (o := (pcl GG lay d 77 [.int r1] M1)) (hf := rfl) rfl rfl).trans ?_
          refine kI_in (fun r2 M2 => ?_)
          refine (e_if_lt (hf := rfl)).trans ?_
          refine ite_in ?_ ?_
          · refine (evn_adv 1 (q' := (66, [some (.ref 52), some (.int l1), some (.int l2), some (.int l3), some (.int l4), some (.int l5), some (.int l6), some (.int r1)], [.int l6], M2)) rfl).trans ?_
            exact evn_end 1 rfl
          · refine (evn_adv 2 (q' := (61, [some (.ref 52), some (.int l1), some (.int l2), some (.int l3), some (.int l4), some (.int l5), some (.int l6), some (.int r1)], [.int (jn 40), .int l3], M2)) rfl).trans ?_
            refine (e_ic_ne (hf := rfl)).trans ?_
            refine ite_in ?_ ?_
            · refine (evn_adv 1 (q' := (66, [some (.ref 52), some (.int l1), some (.int l2), some (.int l3), some (.int l4), some (.int l5), some (.int l6), some (.int r1)], [.int l6], M2)) rfl).trans ?_
              exact evn_end 1 rfl
            · refine (evn_adv 5 (q' := (77, [some (.ref 52), some (.int l1), some (.int l2), some (.int (l3 + (jn 1))), some (.int l4), some (.int l5), some (.int l6), some (.int r1)], [.int r1, .int l3, .ref 69], M2)) rfl).trans ?_
              refine (e_oB (q := (77, [some (.ref 52), some (.int l1), some (.int l2), some (.int (l3 + (jn 1))), some (.int l4), some (.int l5), some (.int l6), some (.int r1)], [.int r1, .int l3, .ref 69], M2)) (o := (astI lay M2 69 l3 r1)) (f := fun M3 => (78, [some (.ref 52), some (.int l1), some (.int l2), some (.int (l3 + (jn 1))), some (.int l4), some (.int l5), some (.int l6), some (.int r1)], [], M3)) (hf := rfl) rfl).trans ?_
              refine oB_in (fun M3 => ?_)
              refine (evn_adv 2 (q' := (83, [some (.ref 52), some (.int l1), some (.int l2), some (.int (l3 + (jn 1))), some (.int l4), some (.int l5), some (.int (l6 + (jn 1))), some (.int r1)], [.int r1], M3)) rfl).trans ?_
              refine (e_kI (q := (83, [some (.ref 52), some (.int l1), some (.int l2), some (.int (l3 + (jn 1))), some (.int l4), some (.int l5), some (.int (l6 + (jn 1))), some (.int r1)], [.int r1])) (q2 := (86, [some (.ref 52), some (.int l1), some (.int l2), some (.int (l3 + (jn 1))), some (.int l4), some (.int l5), some (.int (l6 + (jn 1))), some (.int r1)], [])) (M := M3) (o := (pcl GG lay d 77 [.int r1] M3)) (hf := rfl) rfl rfl).trans ?_
              refine kI_in (fun r4 M4 => ?_)
              refine (e_if_le (hf := rfl)).trans ?_
              refine ite_in ?_ ?_
              · refine (evn_adv 2 (q' := (92, [some (.ref 52), some (.int l1), some (.int l2), some (.int (l3 + (jn 1))), some (.int l4), some (.int l5), some (.int (l6 + (jn 1))), some (.int r1)], [.int l2, .int (l6 + (jn 1))], M4)) rfl).trans ?_
                refine (e_ic_eq (hf := rfl)).trans ?_
                refine ite_in ?_ ?_
                · refine (evn_adv 1 (q' := (109, [some (.ref 52), some (.int l1), some (.int l2), some (.int (l3 + (jn 1))), some (.int l4), some (.int l5), some (.int (l6 + (jn 1))), some (.int r1)], [.int (l6 + (jn 1))], M4)) rfl).trans ?_
                  exact evn_end 1 rfl
                · refine (evn_adv 3 (q' := (99, [some (.ref 52), some (.int l1), some (.int l2), some (.int (l3 + (jn 1))), some (.int l4), some (.int l5), some (.int (l6 + (jn 1))), some (.int r1)], [.int (l6 + (jn 1)), .int l1, .ref 52], M4)) rfl).trans ?_
                  refine (e_kI (q := (99, [some (.ref 52), some (.int l1), some (.int l2), some (.int (l3 + (jn 1))), some (.int l4), some (.int l5), some (.int (l6 + (jn 1))), some (.int r1)], [.int (l6 + (jn 1)), .int l1, .ref 52])) (q2 := (102, [some (.ref 52), some (.int l1), some (.int l2), some (.int (l3 + (jn 1))), some (.int l4), some (.int l5), some (.int (l6 + (jn 1))), some (.int r1)], [])) (M := M4) (o := (pcl GG lay d 90 [.ref 52, .int l1, .int (l6 + (jn 1))] M4)) (hf := rfl) rfl rfl).trans ?_
                  refine kI_in (fun r5 M5 => ?_)
                  refine (evn_adv 1 (q' := (104, [some (.ref 52), some (.int l1), some (.int l2), some (.int (l3 + (jn 1))), some (.int l4), some (.int l5), some (.int (l6 + (jn 1))), some (.int r1)], [.int (jn 40), .int r5], M5)) rfl).trans ?_
                  refine (e_ic_eq (hf := rfl)).trans ?_
                  refine ite_in ?_ ?_
                  · refine (evn_adv 5 (q' := (121, [some (.ref 52), some (.int l1), some (.int l2), some (.int (l3 + (jn 1))), some (.int l4), some (.int l5), some (.int ((l6 + (jn 1)) + (jn 1))), some (.int r1)], [.int r1, .int l4, .ref 66], M5)) rfl).trans ?_
                    refine (e_kI (q := (121, [some (.ref 52), some (.int l1), some (.int l2), some (.int (l3 + (jn 1))), some (.int l4), some (.int l5), some (.int ((l6 + (jn 1)) + (jn 1))), some (.int r1)], [.int r1, .int l4, .ref 66])) (q2 := (124, [some (.ref 52), some (.int l1), some (.int l2), some (.int (l3 + (jn 1))), some (.int l4), some (.int l5), some (.int ((l6 + (jn 1)) + (jn 1))), some (.int r1)], [.int l4, .ref 66])) (M := M5) (o := (pcl GG lay d 77 [.int r1] M5)) (hf := rfl) rfl rfl).trans ?_
                    refine kI_in (fun r6 M6 => ?_)
                    refine (evn_adv 2 (q' := (126, [some (.ref 52), some (.int l1), some (.int l2), some (.int (l3 + (jn 1))), some (.int l4), some (.int l5), some (.int ((l6 + (jn 1)) + (jn 1))), some (.int r1)], [.int (r6 - (jn 1)), .int l4, .ref 66], M6)) rfl).trans ?_
                    refine (e_oB (q := (126, [some (.ref 52), some (.int l1), some (.int l2), some (.int (l3 + (jn 1))), some (.int l4), some (.int l5), some (.int ((l6 + (jn 1)) + (jn 1))), some (.int r1)], [.int (r6 - (jn 1)), .int l4, .ref 66], M6)) (o := (astI lay M6 66 l4 (r6 - (jn 1)))) (f := fun M7 => (127, [some (.ref 52), some (.int l1), some (.int l2), some (.int (l3 + (jn 1))), some (.int l4), some (.int l5), some (.int ((l6 + (jn 1)) + (jn 1))), some (.int r1)], [], M7)) (hf := rfl) rfl).trans ?_
                    refine oB_in (fun M7 => ?_)
                    refine (evn_adv 3 (q' := (18, [some (.ref 52), some (.int l1), some (.int l2), some (.int (l3 + (jn 1))), some (.int (l4 + (jn 1))), some (.int l5), some (.int ((l6 + (jn 1)) + (jn 1))), some (.int r1)], [], M7)) rfl).trans ?_
                    rfl
                  · refine (evn_adv 1 (q' := (109, [some (.ref 52), some (.int l1), some (.int l2), some (.int (l3 + (jn 1))), some (.int l4), some (.int l5), some (.int (l6 + (jn 1))), some (.int r1)], [.int (l6 + (jn 1))], M5)) rfl).trans ?_
                    exact evn_end 1 rfl
              · refine (evn_adv 4 (q' := (18, [some (.ref 52), some (.int l1), some (.int l2), some (.int (l3 + (jn 1))), some (.int l4), some (.int (jn 0)), some (.int (l6 + (jn 1))), some (.int r1)], [], M4)) rfl).trans ?_
                rfl
    · refine (evn_adv 2 (q' := (204, [some (.ref 52), some (.int l1), some (.int l2), some (.int l3), some (.int l4), some (.int l5), some (.int l6), u7], [.int l3, .ref 52], M)) rfl).trans ?_
      refine (evn_adv 1 (q' := (207, [some (.ref 52), some (.int l1), some (.int l2), some (.int l3), some (.int l4), some (.int l5), some (.int l6), u7], [], (sI M 52 (va_up (M.1 52) 26 l3)))) rfl).trans ?_
      refine wr_in (f := fun M1 => E_91 d (207, [some (.ref 52), some (.int l1), some (.int l2), some (.int l3), some (.int l4), some (.int l5), some (.int l6), u7], [], M1)) (fun M1 => ?_)
      refine (evn_adv 2 (q' := (210, [some (.ref 52), some (.int l1), some (.int l2), some (.int l3), some (.int l4), some (.int l5), some (.int l6), u7], [.int l2, .int l6], M1)) rfl).trans ?_
      refine (e_ic_ge (hf := rfl)).trans ?_
      refine ite_in ?_ ?_
      · refine (evn_adv 2 (q' := (219, [some (.ref 52), some (.int l1), some (.int l2), some (.int l3), some (.int l4), some (.int l5), some (.int l6), u7], [.int l6], M1)) rfl).trans ?_
        exact evn_end 1 rfl
      · refine (evn_adv 1 (q' := (219, [some (.ref 52), some (.int l1), some (.int l2), some (.int l3), some (.int l4), some (.int l5), some (.int l6), u7], [.int (jz 1)], M1)) rfl).trans ?_
        exact evn_end 1 rfl
  · refine (evn_adv 2 (q' := (31, [some (.ref 52), some (.int l1), some (.int l2), some (.int l3), some (.int l4), some (.int l5), some (.int l6), u7], [.int l2, .int l6], M)) rfl).trans ?_
    refine (e_ic_ne (hf := rfl)).trans ?_
    refine ite_in ?_ ?_
    · refine (evn_adv 1 (q' := (35, [some (.ref 52), some (.int l1), some (.int l2), some (.int l3), some (.int l4), some (.int l5), some (.int l6), u7], [.int l2], M)) rfl).trans ?_
      exact evn_end 1 rfl
    · refine (evn_adv 3 (q' := (40, [some (.ref 52), some (.int l1), some (.int l2), some (.int l3), some (.int l4), some (.int l5), some (.int l6), u7], [.int l6, .int l1, .ref 52], M)) rfl).trans ?_
      refine (e_kI (q := (40, [some (.ref 52), some (.int l1), some (.int l2), some (.int l3), some (.int l4), some (.int l5), some (.int l6), u7], [.int l6, .int l1, .ref 52])) (q2 := (43, [some (.ref 52), some (.int l1), some (.int l2), some (.int l3), some (.int l4), some (.int l5), some (.int l6), u7], [])) (M := M) (o := (pcl GG lay d 90 [.ref 52, .int l1, .int l6] M)) (hf := rfl) rfl rfl).trans ?_
      refine kI_in (fun r1 M1 => ?_)
      refine (evn_adv 2 (q' := (47, [some (.ref 52), some (.int l1), some (.int l2), some (.int l3), some (.int l4), some (.int l5), some (.int l6), some (.int r1)], [.int l5], M1)) rfl).trans ?_
      refine (e_if_eq (hf := rfl)).trans ?_
      refine ite_in ?_ ?_
      · refine (evn_adv 5 (q' := (147, [some (.ref 52), some (.int l1), some (.int l2), some (.int l3), some (.int l4), some (.int l5), some (.int l6), some (.int r1)], [.int (l4 - (jn 1)), .ref 66], M1)) rfl).trans ?_
        refine (e_oB (q := (147, [some (.ref 52), some (.int l1), some (.int l2), some (.int l3), some (.int l4), some (.int l5), some (.int l6), some (.int r1)], [.int (l4 - (jn 1)), .ref 66], M1)) (o := (aldI lay none M1 66 (l4 - (jn 1)))) (f := fun v2 => (148, [some (.ref 52), some (.int l1), some (.int l2), some (.int l3), some (.int l4), some (.int l5), some (.int l6), some (.int r1)], [.int v2], M1)) (hf := rfl) rfl).trans ?_
        refine oB_in (fun v2 => ?_)
        refine (e_if_le (hf := rfl)).trans ?_
        refine ite_in ?_ ?_
        · refine (evn_adv 2 (q' := (155, [some (.ref 52), some (.int l1), some (.int l2), some (.int l3), some (.int l4), some (.int l5), some (.int l6), some (.int r1)], [.int (jn 44), .int r1], M1)) rfl).trans ?_
          refine (e_ic_eq (hf := rfl)).trans ?_
          refine ite_in ?_ ?_
          · refine (evn_adv 6 (q' := (170, [some (.ref 52), some (.int l1), some (.int l2), some (.int l3), some (.int l4), some (.int l5), some (.int l6), some (.int r1)], [.int (l4 - (jn 1)), .ref 66, .int (l4 - (jn 1)), .ref 66], M1)) rfl).trans ?_
            refine (e_oB (q := (170, [some (.ref 52), some (.int l1), some (.int l2), some (.int l3), some (.int l4), some (.int l5), some (.int l6), some (.int r1)], [.int (l4 - (jn 1)), .ref 66, .int (l4 - (jn 1)), .ref 66], M1)) (o := (aldI lay none M1 66 (l4 - (jn 1)))) (f := fun v3 => (171, [some (.ref 52), some (.int l1), some (.int l2), some (.int l3), some (.int l4), some (.int l5), some (.int l6), some (.int r1)], [.int v3, .int (l4 - (jn 1)), .ref 66], M1)) (hf := rfl) rfl).trans ?_
            refine oB_in (fun v3 => ?_)
            refine (evn_adv 2 (q' := (173, [some (.ref 52), some (.int l1), some (.int l2), some (.int l3), some (.int l4), some (.int l5), some (.int l6), some (.int r1)], [.int (v3 - (jn 1)), .int (l4 - (jn 1)), .ref 66], M1)) rfl).trans ?_
            refine (e_oB (q := (173, [some (.ref 52), some (.int l1), some (.int l2), some (.int l3), some (.int l4), some (.int l5), some (.int l6), some (.int r1)], [.int (v3 - (jn 1)), .int (l4 - (jn 1)), .ref 66], M1)) (o := (astI lay M1 66 (l4 - (jn 1)) (v3 - (jn 1)))) (f := fun M4 => (174, [some (.ref 52), some (.int l1), some (.int l2), some (.int l3), some (.int l4), some (.int l5), some (.int l6), some (.int r1)], [], M4)) (hf := rfl) rfl).trans ?_
            refine oB_in (fun M4 => ?_)
            refine (evn_adv 5 (q' := (18, [some (.ref 52), some (.int l1), some (.int l2), some (.int l3), some (.int l4), some (.int (jn 1)), some (.int (l6 + (jn 1))), some (.int r1)], [], M4)) rfl).trans ?_
            rfl
          · refine (evn_adv 1 (q' := (160, [some (.ref 52), some (.int l1), some (.int l2), some (.int l3), some (.int l4), some (.int l5), some (.int l6), some (.int r1)], [.int l6], M1)) rfl).trans ?_
            exact evn_end 1 rfl
        · refine (evn_adv 2 (q' := (187, [some (.ref 52), some (.int l1), some (.int l2), some (.int l3), some (.int l4), some (.int l5), some (.int l6), some (.int r1)], [.int (jn 41), .int r1], M1)) rfl).trans ?_
          refine (e_ic_eq (hf := rfl)).trans ?_
          refine ite_in ?_ ?_
          · refine (evn_adv 3 (q' := (18, [some (.ref 52), some (.int l1), some (.int l2), some (.int l3), some (.int (l4 + (jz 1))), some (.int l5), some (.int (l6 + (jn 1))), some (.int r1)], [], M1)) rfl).trans ?_
            rfl
          · refine (evn_adv 1 (q' := (192, [some (.ref 52), some (.int l1), some (.int l2), some (.int l3), some (.int l4), some (.int l5), some (.int l6), some (.int r1)], [.int l6], M1)) rfl).trans ?_
            exact evn_end 1 rfl
      · refine (evn_adv 1 (q' := (52, [some (.ref 52), some (.int l1), some (.int l2), some (.int l3), some (.int l4), some (.int l5), some (.int l6), some (.int r1)], [.int r1], M1)) rfl).trans ?_
        refine (e_kI (q := (52, [some (.ref 52), some (.int l1), some (.int l2), some (.int l3), some (.int l4), some (.int l5), some (.int l6), some (.int r1)], [.int r1])) (q2 := (55, [some (.ref 52), some (.int l1), some (.int l2), some (.int l3), some (.int l4), some (.int l5), some (.int l6), some (.int r1)], [])) (M := M1) (o := (pcl GG lay d 77 [.int r1] M1)) (hf := rfl) rfl rfl).trans ?_
        refine kI_in (fun r2 M2 => ?_)
        refine (e_if_lt (hf := rfl)).trans ?_
        refine ite_in ?_ ?_
        · refine (evn_adv 1 (q' := (66, [some (.ref 52), some (.int l1), some (.int l2), some (.int l3), some (.int l4), some (.int l5), some (.int l6), some (.int r1)], [.int l6], M2)) rfl).trans ?_
          exact evn_end 1 rfl
        · refine (evn_adv 2 (q' := (61, [some (.ref 52), some (.int l1), some (.int l2), some (.int l3), some (.int l4), some (.int l5), some (.int l6), some (.int r1)], [.int (jn 40), .int l3], M2)) rfl).trans ?_
          refine (e_ic_ne (hf := rfl)).trans ?_
          refine ite_in ?_ ?_
          · refine (evn_adv 1 (q' := (66, [some (.ref 52), some (.int l1), some (.int l2), some (.int l3), some (.int l4), some (.int l5), some (.int l6), some (.int r1)], [.int l6], M2)) rfl).trans ?_
            exact evn_end 1 rfl
          · refine (evn_adv 5 (q' := (77, [some (.ref 52), some (.int l1), some (.int l2), some (.int (l3 + (jn 1))), some (.int l4), some (.int l5), some (.int l6), some (.int r1)], [.int r1, .int l3, .ref 69], M2)) rfl).trans ?_
            refine (e_oB (q := (77, [some (.ref 52), some (.int l1), some (.int l2), some (.int (l3 + (jn 1))), some (.int l4), some (.int l5), some (.int l6), some (.int r1)], [.int r1, .int l3, .ref 69], M2)) (o := (astI lay M2 69 l3 r1)) (f := fun M3 => (78, [some (.ref 52), some (.int l1), some (.int l2), some (.int (l3 + (jn 1))), some (.int l4), some (.int l5), some (.int l6), some (.int r1)], [], M3)) (hf := rfl) rfl).trans ?_
            refine oB_in (fun M3 => ?_)
            refine (evn_adv 2 (q' := (83, [some (.ref 52), some (.int l1), some (.int l2), some (.int (l3 + (jn 1))), some (.int l4), some (.int l5), some (.int (l6 + (jn 1))), some (.int r1)], [.int r1], M3)) rfl).trans ?_
            refine (e_kI (q := (83, [some (.ref 52), some (.int l1), some (.int l2), some (.int (l3 + (jn 1))), some (.int l4), some (.int l5), some (.int (l6 + (jn 1))), some (.int r1)], [.int r1])) (q2 := (86, [some (.ref 52), some (.int l1), some (.int l2), some (.int (l3 + (jn 1))), some (.int l4), some (.int l5), some (.int (l6 + (jn 1))), some (.int r1)], [])) (M := M3) (o := (pcl GG lay d 77 [.int r1] M3)) (hf := rfl) rfl rfl).trans ?_
            refine kI_in (fun r4 M4 => ?_)
            refine (e_if_le (hf := rfl)).trans ?_
            refine ite_in ?_ ?_
            · refine (evn_adv 2 (q' := (92, [some (.ref 52), some (.int l1), some (.int l2), some (.int (l3 + (jn 1))), some (.int l4), some (.int l5), some (.int (l6 + (jn 1))), some (.int r1)], [.int l2, .int (l6 + (jn 1))], M4)) rfl).trans ?_
              refine (e_ic_eq (hf := rfl)).trans ?_
              refine ite_in ?_ ?_
              · refine (evn_adv 1 (q' := (109, [some (.ref 52), some (.int l1), some (.int l2), some (.int (l3 + (jn 1))), some (.int l4), some (.int l5), some (.int (l6 + (jn 1))), some (.int r1)], [.int (l6 + (jn 1))], M4)) rfl).trans ?_
                exact evn_end 1 rfl
              · refine (evn_adv 3 (q' := (99, [some (.ref 52), some (.int l1), some (.int l2), some (.int (l3 + (jn 1))), some (.int l4), some (.int l5), some (.int (l6 + (jn 1))), some (.int r1)], [.int (l6 + (jn 1)), .int l1, .ref 52], M4)) rfl).trans ?_
                refine (e_kI (q := (99, [some (.ref 52), some (.int l1), some (.int l2), some (.int (l3 + (jn 1))), some (.int l4), some (.int l5), some (.int (l6 + (jn 1))), some (.int r1)], [.int (l6 + (jn 1)), .int l1, .ref 52])) (q2 := (102, [some (.ref 52), some (.int l1), some (.int l2), some (.int (l3 + (jn 1))), some (.int l4), some (.int l5), some (.int (l6 + (jn 1))), some (.int r1)], [])) (M := M4) (o := (pcl GG lay d 90 [.ref 52, .int l1, .int (l6 + (jn 1))] M4)) (hf := rfl) rfl rfl).trans ?_
                refine kI_in (fun r5 M5 => ?_)
                refine (evn_adv 1 (q' := (104, [some (.ref 52), some (.int l1), some (.int l2), some (.int (l3 + (jn 1))), some (.int l4), some (.int l5), some (.int (l6 + (jn 1))), some (.int r1)], [.int (jn 40), .int r5], M5)) rfl).trans ?_
                refine (e_ic_eq (hf := rfl)).trans ?_
                refine ite_in ?_ ?_
                · refine (evn_adv 5 (q' := (121, [some (.ref 52), some (.int l1), some (.int l2), some (.int (l3 + (jn 1))), some (.int l4), some (.int l5), some (.int ((l6 + (jn 1)) + (jn 1))), some (.int r1)], [.int r1, .int l4, .ref 66], M5)) rfl).trans ?_
                  refine (e_kI (q := (121, [some (.ref 52), some (.int l1), some (.int l2), some (.int (l3 + (jn 1))), some (.int l4), some (.int l5), some (.int ((l6 + (jn 1)) + (jn 1))), some (.int r1)], [.int r1, .int l4, .ref 66])) (q2 := (124, [some (.ref 52), some (.int l1), some (.int l2), some (.int (l3 + (jn 1))), some (.int l4), some (.int l5), some (.int ((l6 + (jn 1)) + (jn 1))), some (.int r1)], [.int l4, .ref 66])) (M := M5) (o := (pcl GG lay d 77 [.int r1] M5)) (hf := rfl) rfl rfl).trans ?_
                  refine kI_in (fun r6 M6 => ?_)
                  refine (evn_adv 2 (q' := (126, [some (.ref 52), some (.int l1), some (.int l2), some (.int (l3 + (jn 1))), some (.int l4), some (.int l5), some (.int ((l6 + (jn 1)) + (jn 1))), some (.int r1)], [.int (r6 - (jn 1)), .int l4, .ref 66], M6)) rfl).trans ?_
                  refine (e_oB (q := (126, [some (.ref 52), some (.int l1), some (.int l2), some (.int (l3 + (jn 1))), some (.int l4), some (.int l5), some (.int ((l6 + (jn 1)) + (jn 1))), some (.int r1)], [.int (r6 - (jn 1)), .int l4, .ref 66], M6)) (o := (astI lay M6 66 l4 (r6 - (jn 1)))) (f := fun M7 => (127, [some (.ref 52), some (.int l1), some (.int l2), some (.int (l3 + (jn 1))), some (.int l4), some (.int l5), some (.int ((l6 + (jn 1)) + (jn 1))), some (.int r1)], [], M7)) (hf := rfl) rfl).trans ?_
                  refine oB_in (fun M7 => ?_)
                  refine (evn_adv 3 (q' := (18, [some (.ref 52), some (.int l1), some (.int l2), some (.int (l3 + (jn 1))), some (.int (l4 + (jn 1))), some (.int l5), some (.int ((l6 + (jn 1)) + (jn 1))), some (.int r1)], [], M7)) rfl).trans ?_
                  rfl
                · refine (evn_adv 1 (q' := (109, [some (.ref 52), some (.int l1), some (.int l2), some (.int (l3 + (jn 1))), some (.int l4), some (.int l5), some (.int (l6 + (jn 1))), some (.int r1)], [.int (l6 + (jn 1))], M5)) rfl).trans ?_
                  exact evn_end 1 rfl
            · refine (evn_adv 4 (q' := (18, [some (.ref 52), some (.int l1), some (.int l2), some (.int (l3 + (jn 1))), some (.int l4), some (.int (jn 0)), some (.int (l6 + (jn 1))), some (.int r1)], [], M4)) rfl).trans ?_
              rfl
/-- TermStrategiesModel.newTerm([II)I -/
noncomputable abbrev E_92 (d : Nat) : PQ → PO := evn (rnn k_92 lay none (pcl GG lay d) 1)
theorem q_92 (d : Nat) (l1 : Nat) (l2 : Int32) (M : PM) : pcl GG lay (d + 1) 92 [.ref 52, .ref l1, .int l2] M = (oB (astI lay M 53 (M.1 52 0) l2) fun M1 => E_92 d (12, [some (.ref 52), some (.ref l1), some (.int l2), some (.int (jn 0))], [], M1)) := by
  refine (pcl_un (mt := t_92) (by decide) rfl (Nat.le_of_ble_eq_true rfl)).trans ?_
  show E_92 d (0, [some (.ref 52), some (.ref l1), some (.int l2), none], [], M) = _
  refine (evn_adv 5 (q' := (9, [some (.ref 52), some (.ref l1), some (.int l2), none], [.int l2, .int (M.1 52 0), .ref 53], M)) rfl).trans ?_
  refine (e_oB (q := (9, [some (.ref 52), some (.ref l1), some (.int l2), none], [.int l2, .int (M.1 52 0), .ref 53], M)) (o := (astI lay M 53 (M.1 52 0) l2)) (f := fun M1 => (10, [some (.ref 52), some (.ref l1), some (.int l2), none], [], M1)) (hf := rfl) rfl).trans ?_
  refine oB_in (fun M1 => ?_)
  refine (evn_adv 2 (q' := (12, [some (.ref 52), some (.ref l1), some (.int l2), some (.int (jn 0))], [], M1)) rfl).trans ?_
  rfl
theorem h_92_12 (d : Nat) (l1 : Nat) (l2 : Int32) (l3 : Int32) (M : PM) : E_92 d (12, [some (.ref 52), some (.ref l1), some (.int l2), some (.int l3)], [], M) = (if l3 < l2 then (oB (aldI lay none M l1 l3) fun v1 => (oB (astI lay M 54 (((jn 40) * (M.1 52 0)) + l3) v1) fun M2 => E_92 d (12, [some (.ref 52), some (.ref l1), some (.int l2), some (.int (l3 + (jn 1)))], [], M2))) else (wr (sI M 52 (va_up (M.1 52) 0 ((M.1 52 0) + (jn 1)))) fun M1 => (rI (M.1 52 0) M1))) := by
  refine (evn_adv 2 (q' := (14, [some (.ref 52), some (.ref l1), some (.int l2), some (.int l3)], [.int l2, .int l3], M)) rfl).trans ?_
  refine (e_ic_ge (hf := rfl)).trans ?_
  refine ite_in ?_ ?_
  · refine (evn_adv 10 (q' := (32, [some (.ref 52), some (.ref l1), some (.int l2), some (.int l3)], [.int l3, .ref l1, .int (((jn 40) * (M.1 52 0)) + l3), .ref 54], M)) rfl).trans ?_
    refine (e_oB (q := (32, [some (.ref 52), some (.ref l1), some (.int l2), some (.int l3)], [.int l3, .ref l1, .int (((jn 40) * (M.1 52 0)) + l3), .ref 54], M)) (o := (aldI lay none M l1 l3)) (f := fun v1 => (33, [some (.ref 52), some (.ref l1), some (.int l2), some (.int l3)], [.int v1, .int (((jn 40) * (M.1 52 0)) + l3), .ref 54], M)) (hf := rfl) rfl).trans ?_
    refine oB_in (fun v1 => ?_)
    refine (e_oB (q := (33, [some (.ref 52), some (.ref l1), some (.int l2), some (.int l3)], [.int v1, .int (((jn 40) * (M.1 52 0)) + l3), .ref 54], M)) (o := (astI lay M 54 (((jn 40) * (M.1 52 0)) + l3) v1)) (f := fun M2 => (34, [some (.ref 52), some (.ref l1), some (.int l2), some (.int l3)], [], M2)) (hf := rfl) rfl).trans ?_
    refine oB_in (fun M2 => ?_)
    refine (evn_adv 2 (q' := (12, [some (.ref 52), some (.ref l1), some (.int l2), some (.int (l3 + (jn 1)))], [], M2)) rfl).trans ?_
    rfl
  · refine (evn_adv 6 (q' := (48, [some (.ref 52), some (.ref l1), some (.int l2), some (.int l3)], [.int ((M.1 52 0) + (jn 1)), .ref 52, .int (M.1 52 0)], M)) rfl).trans ?_
    refine (evn_adv 1 (q' := (51, [some (.ref 52), some (.ref l1), some (.int l2), some (.int l3)], [.int (M.1 52 0)], (sI M 52 (va_up (M.1 52) 0 ((M.1 52 0) + (jn 1)))))) rfl).trans ?_
    refine wr_in (f := fun M1 => E_92 d (51, [some (.ref 52), some (.ref l1), some (.int l2), some (.int l3)], [.int (M.1 52 0)], M1)) (fun M1 => ?_)
    exact evn_end 1 rfl
/-- TermStrategiesModel.term(I)I -/
noncomputable abbrev E_93 (d : Nat) : PQ → PO := evn (rnn k_93 lay none (pcl GG lay d) 1)
theorem q_93 (d : Nat) (l1 : Int32) (M : PM) : pcl GG lay (d + 1) 93 [.ref 52, .int l1] M = (kI (pcl GG lay d 81 [.ref 52, .int l1] M) fun r1 M1 => (if r1 < jn 0 then (kI (pcl GG lay d 69 [.ref 52, .int r1] M1) fun r2 M2 => (rI r2 M2)) else (kI (pcl GG lay d 91 [.ref 52, .int l1] M1) fun r2 M2 => (wr (sI M2 52 (va_up (M2.1 52) 16 r2)) fun M3 => (if (M3.1 52 16) = (jz 1) then (if (M3.1 52 0) = (jn 24) then (kI (pcl GG lay d 69 [.ref 52, .int (jz 7)] M3) fun r4 M4 => (rI r4 M4)) else (kI (pcl GG lay d 92 [.ref 52, .ref 69, .int (M3.1 52 26)] M3) fun r4 M4 => (rI r4 M4))) else (kI (pcl GG lay d 69 [.ref 52, .int (jz 6)] M3) fun r4 M4 => (rI r4 M4))))))) := by
  refine (pcl_un (mt := t_93) (by decide) rfl (Nat.le_of_ble_eq_true rfl)).trans ?_
  show E_93 d (0, [some (.ref 52), some (.int l1), none], [], M) = _
  refine (evn_adv 2 (q' := (2, [some (.ref 52), some (.int l1), none], [.int l1, .ref 52], M)) rfl).trans ?_
  refine (e_kI (q := (2, [some (.ref 52), some (.int l1), none], [.int l1, .ref 52])) (q2 := (5, [some (.ref 52), some (.int l1), none], [])) (M := M) (o := (pcl GG lay d 81 [.ref 52, .int l1] M)) (hf := rfl) rfl rfl).trans ?_
  refine kI_in (fun r1 M1 => ?_)
  refine (evn_adv 2 (q' := (7, [some (.ref 52), some (.int l1), some (.int r1)], [.int r1], M1)) rfl).trans ?_
  refine (e_if_ge (hf := rfl)).trans ?_
  refine ite_in ?_ ?_
  · refine (evn_adv 2 (q' := (12, [some (.ref 52), some (.int l1), some (.int r1)], [.int r1, .ref 52], M1)) rfl).trans ?_
    refine (e_kI (q := (12, [some (.ref 52), some (.int l1), some (.int r1)], [.int r1, .ref 52])) (q2 := (15, [some (.ref 52), some (.int l1), some (.int r1)], [])) (M := M1) (o := (pcl GG lay d 69 [.ref 52, .int r1] M1)) (hf := rfl) rfl rfl).trans ?_
    refine kI_in (fun r2 M2 => ?_)
    exact evn_end 1 rfl
  · refine (evn_adv 3 (q' := (19, [some (.ref 52), some (.int l1), some (.int r1)], [.int l1, .ref 52, .ref 52], M1)) rfl).trans ?_
    refine (e_kI (q := (19, [some (.ref 52), some (.int l1), some (.int r1)], [.int l1, .ref 52, .ref 52])) (q2 := (22, [some (.ref 52), some (.int l1), some (.int r1)], [.ref 52])) (M := M1) (o := (pcl GG lay d 91 [.ref 52, .int l1] M1)) (hf := rfl) rfl rfl).trans ?_
    refine kI_in (fun r2 M2 => ?_)
    refine (evn_adv 1 (q' := (25, [some (.ref 52), some (.int l1), some (.int r1)], [], (sI M2 52 (va_up (M2.1 52) 16 r2)))) rfl).trans ?_
    refine wr_in (f := fun M3 => E_93 d (25, [some (.ref 52), some (.int l1), some (.int r1)], [], M3)) (fun M3 => ?_)
    refine (evn_adv 3 (q' := (30, [some (.ref 52), some (.int l1), some (.int r1)], [.int (jz 1), .int (M3.1 52 16)], M3)) rfl).trans ?_
    refine (e_ic_eq (hf := rfl)).trans ?_
    refine ite_in ?_ ?_
    · refine (evn_adv 3 (q' := (46, [some (.ref 52), some (.int l1), some (.int r1)], [.int (jn 24), .int (M3.1 52 0)], M3)) rfl).trans ?_
      refine (e_ic_ne (hf := rfl)).trans ?_
      refine ite_in ?_ ?_
      · refine (evn_adv 2 (q' := (52, [some (.ref 52), some (.int l1), some (.int r1)], [.int (jz 7), .ref 52], M3)) rfl).trans ?_
        refine (e_kI (q := (52, [some (.ref 52), some (.int l1), some (.int r1)], [.int (jz 7), .ref 52])) (q2 := (55, [some (.ref 52), some (.int l1), some (.int r1)], [])) (M := M3) (o := (pcl GG lay d 69 [.ref 52, .int (jz 7)] M3)) (hf := rfl) rfl rfl).trans ?_
        refine kI_in (fun r4 M4 => ?_)
        refine (evn_adv 1 (q' := (70, [some (.ref 52), some (.int l1), some (.int r1)], [.int r4], M4)) rfl).trans ?_
        exact evn_end 1 rfl
      · refine (evn_adv 5 (q' := (67, [some (.ref 52), some (.int l1), some (.int r1)], [.int (M3.1 52 26), .ref 69, .ref 52], M3)) rfl).trans ?_
        refine (e_kI (q := (67, [some (.ref 52), some (.int l1), some (.int r1)], [.int (M3.1 52 26), .ref 69, .ref 52])) (q2 := (70, [some (.ref 52), some (.int l1), some (.int r1)], [])) (M := M3) (o := (pcl GG lay d 92 [.ref 52, .ref 69, .int (M3.1 52 26)] M3)) (hf := rfl) rfl rfl).trans ?_
        refine kI_in (fun r4 M4 => ?_)
        exact evn_end 1 rfl
    · refine (evn_adv 2 (q' := (36, [some (.ref 52), some (.int l1), some (.int r1)], [.int (jz 6), .ref 52], M3)) rfl).trans ?_
      refine (e_kI (q := (36, [some (.ref 52), some (.int l1), some (.int r1)], [.int (jz 6), .ref 52])) (q2 := (39, [some (.ref 52), some (.int l1), some (.int r1)], [])) (M := M3) (o := (pcl GG lay d 69 [.ref 52, .int (jz 6)] M3)) (hf := rfl) rfl rfl).trans ?_
      refine kI_in (fun r4 M4 => ?_)
      exact evn_end 1 rfl
/-- TermStrategiesModel.fault()I -/
noncomputable abbrev E_94 (d : Nat) : PQ → PO := evn (rnn k_94 lay none (pcl GG lay d) 1)
theorem q_94 (d : Nat)  (M : PM) : pcl GG lay (d + 1) 94 [.ref 52] M = (rI (M.1 52 16) M) := by
  refine (pcl_un (mt := t_94) (by decide) rfl (Nat.le_of_ble_eq_true rfl)).trans ?_
  show E_94 d (0, [some (.ref 52)], [], M) = _
  refine (evn_adv 2 (q' := (4, [some (.ref 52)], [.int (M.1 52 16)], M)) rfl).trans ?_
  exact evn_end 1 rfl
/-- TermStrategiesModel.drop()I -/
noncomputable abbrev E_95 (d : Nat) : PQ → PO := evn (rnn k_95 lay none (pcl GG lay d) 1)
theorem q_95 (d : Nat)  (M : PM) : pcl GG lay (d + 1) 95 [.ref 52] M = (if (M.1 52 0) = jn 0 then (kI (pcl GG lay d 69 [.ref 52, .int (jz 6)] M) fun r1 M1 => (rI r1 M1)) else (wr (sI M 52 (va_up (M.1 52) 0 ((M.1 52 0) - (jn 1)))) fun M1 => (rI (M1.1 52 0) M1))) := by
  refine (pcl_un (mt := t_95) (by decide) rfl (Nat.le_of_ble_eq_true rfl)).trans ?_
  show E_95 d (0, [some (.ref 52)], [], M) = _
  refine (evn_adv 2 (q' := (4, [some (.ref 52)], [.int (M.1 52 0)], M)) rfl).trans ?_
  refine (e_if_ne (hf := rfl)).trans ?_
  refine ite_in ?_ ?_
  · refine (evn_adv 2 (q' := (10, [some (.ref 52)], [.int (jz 6), .ref 52], M)) rfl).trans ?_
    refine (e_kI (q := (10, [some (.ref 52)], [.int (jz 6), .ref 52])) (q2 := (13, [some (.ref 52)], [])) (M := M) (o := (pcl GG lay d 69 [.ref 52, .int (jz 6)] M)) (hf := rfl) rfl rfl).trans ?_
    refine kI_in (fun r1 M1 => ?_)
    exact evn_end 1 rfl
  · refine (evn_adv 5 (q' := (21, [some (.ref 52)], [.int ((M.1 52 0) - (jn 1)), .ref 52], M)) rfl).trans ?_
    refine (evn_adv 1 (q' := (24, [some (.ref 52)], [], (sI M 52 (va_up (M.1 52) 0 ((M.1 52 0) - (jn 1)))))) rfl).trans ?_
    refine wr_in (f := fun M1 => E_95 d (24, [some (.ref 52)], [], M1)) (fun M1 => ?_)
    refine (evn_adv 2 (q' := (28, [some (.ref 52)], [.int (M1.1 52 0)], M1)) rfl).trans ?_
    exact evn_end 1 rfl
/-- TermStrategiesModel.commute(IZ)I -/
noncomputable abbrev E_96 (d : Nat) : PQ → PO := evn (rnn k_96 lay none (pcl GG lay d) 1)
theorem q_96 (d : Nat) (l1 : Int32) (l2 : Int32) (M : PM) : pcl GG lay (d + 1) 96 [.ref 52, .int l1, .int l2] M = (kI (pcl GG lay d 71 [.int l1, .int (jn 105), .int (jn 108)] M) fun r1 M1 => (if r1 = jn 0 then (kI (pcl GG lay d 69 [.ref 52, .int (jz 1)] M1) fun r2 M2 => (rI r2 M2)) else (if ((M1.1 52 11) &&& ((jn 1) <<< ((l1 - (jn 105)) &&& 31))) = jn 0 then (if l2 = jn 0 then (wr (sI M1 52 (va_up (M1.1 52) 11 ((M1.1 52 11) &&& (((jn 1) <<< ((l1 - (jn 105)) &&& 31)) ^^^ (jz 1))))) fun M2 => (rI (jn 0) M2)) else (wr (sI M1 52 (va_up (M1.1 52) 11 ((M1.1 52 11) ||| ((jn 1) <<< ((l1 - (jn 105)) &&& 31))))) fun M2 => (rI (jn 0) M2))) else (if l2 = jn 0 then (wr (sI M1 52 (va_up (M1.1 52) 11 ((M1.1 52 11) &&& (((jn 1) <<< ((l1 - (jn 105)) &&& 31)) ^^^ (jz 1))))) fun M2 => (rI (jn 1) M2)) else (wr (sI M1 52 (va_up (M1.1 52) 11 ((M1.1 52 11) ||| ((jn 1) <<< ((l1 - (jn 105)) &&& 31))))) fun M2 => (rI (jn 1) M2)))))) := by
  refine (pcl_un (mt := t_96) (by decide) rfl (Nat.le_of_ble_eq_true rfl)).trans ?_
  show E_96 d (0, [some (.ref 52), some (.int l1), some (.int l2), none, none], [], M) = _
  refine (evn_adv 3 (q' := (5, [some (.ref 52), some (.int l1), some (.int l2), none, none], [.int (jn 108), .int (jn 105), .int l1], M)) rfl).trans ?_
  refine (e_kI (q := (5, [some (.ref 52), some (.int l1), some (.int l2), none, none], [.int (jn 108), .int (jn 105), .int l1])) (q2 := (8, [some (.ref 52), some (.int l1), some (.int l2), none, none], [])) (M := M) (o := (pcl GG lay d 71 [.int l1, .int (jn 105), .int (jn 108)] M)) (hf := rfl) rfl rfl).trans ?_
  refine kI_in (fun r1 M1 => ?_)
  refine (e_if_ne (hf := rfl)).trans ?_
  refine ite_in ?_ ?_
  · refine (evn_adv 2 (q' := (13, [some (.ref 52), some (.int l1), some (.int l2), none, none], [.int (jz 1), .ref 52], M1)) rfl).trans ?_
    refine (e_kI (q := (13, [some (.ref 52), some (.int l1), some (.int l2), none, none], [.int (jz 1), .ref 52])) (q2 := (16, [some (.ref 52), some (.int l1), some (.int l2), none, none], [])) (M := M1) (o := (pcl GG lay d 69 [.ref 52, .int (jz 1)] M1)) (hf := rfl) rfl rfl).trans ?_
    refine kI_in (fun r2 M2 => ?_)
    exact evn_end 1 rfl
  · refine (evn_adv 10 (q' := (30, [some (.ref 52), some (.int l1), some (.int l2), some (.int ((jn 1) <<< ((l1 - (jn 105)) &&& 31))), none], [.int ((M1.1 52 11) &&& ((jn 1) <<< ((l1 - (jn 105)) &&& 31)))], M1)) rfl).trans ?_
    refine (e_if_eq (hf := rfl)).trans ?_
    refine ite_in ?_ ?_
    · refine (evn_adv 4 (q' := (42, [some (.ref 52), some (.int l1), some (.int l2), some (.int ((jn 1) <<< ((l1 - (jn 105)) &&& 31))), some (.int (jn 0))], [.int l2, .ref 52], M1)) rfl).trans ?_
      refine (e_if_eq (hf := rfl)).trans ?_
      refine ite_in ?_ ?_
      · refine (evn_adv 6 (q' := (62, [some (.ref 52), some (.int l1), some (.int l2), some (.int ((jn 1) <<< ((l1 - (jn 105)) &&& 31))), some (.int (jn 0))], [.int ((M1.1 52 11) &&& (((jn 1) <<< ((l1 - (jn 105)) &&& 31)) ^^^ (jz 1))), .ref 52], M1)) rfl).trans ?_
        refine (evn_adv 1 (q' := (65, [some (.ref 52), some (.int l1), some (.int l2), some (.int ((jn 1) <<< ((l1 - (jn 105)) &&& 31))), some (.int (jn 0))], [], (sI M1 52 (va_up (M1.1 52) 11 ((M1.1 52 11) &&& (((jn 1) <<< ((l1 - (jn 105)) &&& 31)) ^^^ (jz 1))))))) rfl).trans ?_
        refine wr_in (f := fun M2 => E_96 d (65, [some (.ref 52), some (.int l1), some (.int l2), some (.int ((jn 1) <<< ((l1 - (jn 105)) &&& 31))), some (.int (jn 0))], [], M2)) (fun M2 => ?_)
        refine (evn_adv 1 (q' := (67, [some (.ref 52), some (.int l1), some (.int l2), some (.int ((jn 1) <<< ((l1 - (jn 105)) &&& 31))), some (.int (jn 0))], [.int (jn 0)], M2)) rfl).trans ?_
        exact evn_end 1 rfl
      · refine (evn_adv 5 (q' := (62, [some (.ref 52), some (.int l1), some (.int l2), some (.int ((jn 1) <<< ((l1 - (jn 105)) &&& 31))), some (.int (jn 0))], [.int ((M1.1 52 11) ||| ((jn 1) <<< ((l1 - (jn 105)) &&& 31))), .ref 52], M1)) rfl).trans ?_
        refine (evn_adv 1 (q' := (65, [some (.ref 52), some (.int l1), some (.int l2), some (.int ((jn 1) <<< ((l1 - (jn 105)) &&& 31))), some (.int (jn 0))], [], (sI M1 52 (va_up (M1.1 52) 11 ((M1.1 52 11) ||| ((jn 1) <<< ((l1 - (jn 105)) &&& 31))))))) rfl).trans ?_
        refine wr_in (f := fun M2 => E_96 d (65, [some (.ref 52), some (.int l1), some (.int l2), some (.int ((jn 1) <<< ((l1 - (jn 105)) &&& 31))), some (.int (jn 0))], [], M2)) (fun M2 => ?_)
        refine (evn_adv 1 (q' := (67, [some (.ref 52), some (.int l1), some (.int l2), some (.int ((jn 1) <<< ((l1 - (jn 105)) &&& 31))), some (.int (jn 0))], [.int (jn 0)], M2)) rfl).trans ?_
        exact evn_end 1 rfl
    · refine (evn_adv 5 (q' := (42, [some (.ref 52), some (.int l1), some (.int l2), some (.int ((jn 1) <<< ((l1 - (jn 105)) &&& 31))), some (.int (jn 1))], [.int l2, .ref 52], M1)) rfl).trans ?_
      refine (e_if_eq (hf := rfl)).trans ?_
      refine ite_in ?_ ?_
      · refine (evn_adv 6 (q' := (62, [some (.ref 52), some (.int l1), some (.int l2), some (.int ((jn 1) <<< ((l1 - (jn 105)) &&& 31))), some (.int (jn 1))], [.int ((M1.1 52 11) &&& (((jn 1) <<< ((l1 - (jn 105)) &&& 31)) ^^^ (jz 1))), .ref 52], M1)) rfl).trans ?_
        refine (evn_adv 1 (q' := (65, [some (.ref 52), some (.int l1), some (.int l2), some (.int ((jn 1) <<< ((l1 - (jn 105)) &&& 31))), some (.int (jn 1))], [], (sI M1 52 (va_up (M1.1 52) 11 ((M1.1 52 11) &&& (((jn 1) <<< ((l1 - (jn 105)) &&& 31)) ^^^ (jz 1))))))) rfl).trans ?_
        refine wr_in (f := fun M2 => E_96 d (65, [some (.ref 52), some (.int l1), some (.int l2), some (.int ((jn 1) <<< ((l1 - (jn 105)) &&& 31))), some (.int (jn 1))], [], M2)) (fun M2 => ?_)
        refine (evn_adv 1 (q' := (67, [some (.ref 52), some (.int l1), some (.int l2), some (.int ((jn 1) <<< ((l1 - (jn 105)) &&& 31))), some (.int (jn 1))], [.int (jn 1)], M2)) rfl).trans ?_
        exact evn_end 1 rfl
      · refine (evn_adv 5 (q' := (62, [some (.ref 52), some (.int l1), some (.int l2), some (.int ((jn 1) <<< ((l1 - (jn 105)) &&& 31))), some (.int (jn 1))], [.int ((M1.1 52 11) ||| ((jn 1) <<< ((l1 - (jn 105)) &&& 31))), .ref 52], M1)) rfl).trans ?_
        refine (evn_adv 1 (q' := (65, [some (.ref 52), some (.int l1), some (.int l2), some (.int ((jn 1) <<< ((l1 - (jn 105)) &&& 31))), some (.int (jn 1))], [], (sI M1 52 (va_up (M1.1 52) 11 ((M1.1 52 11) ||| ((jn 1) <<< ((l1 - (jn 105)) &&& 31))))))) rfl).trans ?_
        refine wr_in (f := fun M2 => E_96 d (65, [some (.ref 52), some (.int l1), some (.int l2), some (.int ((jn 1) <<< ((l1 - (jn 105)) &&& 31))), some (.int (jn 1))], [], M2)) (fun M2 => ?_)
        refine (evn_adv 1 (q' := (67, [some (.ref 52), some (.int l1), some (.int l2), some (.int ((jn 1) <<< ((l1 - (jn 105)) &&& 31))), some (.int (jn 1))], [.int (jn 1)], M2)) rfl).trans ?_
        exact evn_end 1 rfl
/-- TermStrategiesModel.commutes(I)Z -/
noncomputable abbrev E_97 (d : Nat) : PQ → PO := evn (rnn k_97 lay none (pcl GG lay d) 2)
theorem q_97 (d : Nat) (l1 : Int32) (M : PM) : pcl GG lay (d + 1) 97 [.ref 52, .int l1] M = (kI (pcl GG lay d 71 [.int l1, .int (jn 105), .int (jn 108)] M) fun r1 M1 => (if r1 = jn 0 then (rZ (jn 0) M1) else (if (((M1.1 52 11) >>> ((l1 - (jn 105)) &&& 31)) &&& (jn 1)) = (jn 1) then (rZ (jn 1) M1) else (rZ (jn 0) M1)))) := by
  refine (pcl_un (mt := t_97) (by decide) rfl (Nat.le_of_ble_eq_true rfl)).trans ?_
  show E_97 d (0, [some (.ref 52), some (.int l1)], [], M) = _
  refine (evn_adv 3 (q' := (5, [some (.ref 52), some (.int l1)], [.int (jn 108), .int (jn 105), .int l1], M)) rfl).trans ?_
  refine (e_kI (q := (5, [some (.ref 52), some (.int l1)], [.int (jn 108), .int (jn 105), .int l1])) (q2 := (8, [some (.ref 52), some (.int l1)], [])) (M := M) (o := (pcl GG lay d 71 [.int l1, .int (jn 105), .int (jn 108)] M)) (hf := rfl) rfl rfl).trans ?_
  refine kI_in (fun r1 M1 => ?_)
  refine (e_if_eq (hf := rfl)).trans ?_
  refine ite_in ?_ ?_
  · refine (evn_adv 1 (q' := (31, [some (.ref 52), some (.int l1)], [.int (jn 0)], M1)) rfl).trans ?_
    exact e_iretz (hf := rfl)
  · refine (evn_adv 9 (q' := (23, [some (.ref 52), some (.int l1)], [.int (jn 1), .int (((M1.1 52 11) >>> ((l1 - (jn 105)) &&& 31)) &&& (jn 1))], M1)) rfl).trans ?_
    refine (e_ic_ne (hf := rfl)).trans ?_
    refine ite_in ?_ ?_
    · refine (evn_adv 2 (q' := (31, [some (.ref 52), some (.int l1)], [.int (jn 1)], M1)) rfl).trans ?_
      exact e_iretz (hf := rfl)
    · refine (evn_adv 1 (q' := (31, [some (.ref 52), some (.int l1)], [.int (jn 0)], M1)) rfl).trans ?_
      exact e_iretz (hf := rfl)
/-- TermStrategiesModel.node(II)I -/
noncomputable abbrev E_98 (d : Nat) : PQ → PO := evn (rnn k_98 lay none (pcl GG lay d) 1)
theorem q_98 (d : Nat) (l1 : Int32) (l2 : Int32) (M : PM) : pcl GG lay (d + 1) 98 [.ref 52, .int l1, .int l2] M = (kI (pcl GG lay d 72 [.ref 52, .int l1] M) fun r1 M1 => (if r1 = jn 0 then (kI (pcl GG lay d 69 [.ref 52, .int (jz 1)] M1) fun r2 M2 => (rI r2 M2)) else (oB (aldI lay none M1 53 l1) fun v2 => (kI (pcl GG lay d 71 [.int l2, .int (jn 0), .int (v2 - (jn 1))] M1) fun r3 M3 => (if r3 = jn 0 then (kI (pcl GG lay d 69 [.ref 52, .int (jz 5)] M3) fun r4 M4 => (rI r4 M4)) else (oB (aldI lay none M3 54 (((jn 40) * l1) + l2)) fun v4 => (rI v4 M3))))))) := by
  refine (pcl_un (mt := t_98) (by decide) rfl (Nat.le_of_ble_eq_true rfl)).trans ?_
  show E_98 d (0, [some (.ref 52), some (.int l1), some (.int l2)], [], M) = _
  refine (evn_adv 2 (q' := (2, [some (.ref 52), some (.int l1), some (.int l2)], [.int l1, .ref 52], M)) rfl).trans ?_
  refine (e_kI (q := (2, [some (.ref 52), some (.int l1), some (.int l2)], [.int l1, .ref 52])) (q2 := (5, [some (.ref 52), some (.int l1), some (.int l2)], [])) (M := M) (o := (pcl GG lay d 72 [.ref 52, .int l1] M)) (hf := rfl) rfl rfl).trans ?_
  refine kI_in (fun r1 M1 => ?_)
  refine (e_if_ne (hf := rfl)).trans ?_
  refine ite_in ?_ ?_
  · refine (evn_adv 2 (q' := (10, [some (.ref 52), some (.int l1), some (.int l2)], [.int (jz 1), .ref 52], M1)) rfl).trans ?_
    refine (e_kI (q := (10, [some (.ref 52), some (.int l1), some (.int l2)], [.int (jz 1), .ref 52])) (q2 := (13, [some (.ref 52), some (.int l1), some (.int l2)], [])) (M := M1) (o := (pcl GG lay d 69 [.ref 52, .int (jz 1)] M1)) (hf := rfl) rfl rfl).trans ?_
    refine kI_in (fun r2 M2 => ?_)
    exact evn_end 1 rfl
  · refine (evn_adv 5 (q' := (21, [some (.ref 52), some (.int l1), some (.int l2)], [.int l1, .ref 53, .int (jn 0), .int l2], M1)) rfl).trans ?_
    refine (e_oB (q := (21, [some (.ref 52), some (.int l1), some (.int l2)], [.int l1, .ref 53, .int (jn 0), .int l2], M1)) (o := (aldI lay none M1 53 l1)) (f := fun v2 => (22, [some (.ref 52), some (.int l1), some (.int l2)], [.int v2, .int (jn 0), .int l2], M1)) (hf := rfl) rfl).trans ?_
    refine oB_in (fun v2 => ?_)
    refine (evn_adv 2 (q' := (24, [some (.ref 52), some (.int l1), some (.int l2)], [.int (v2 - (jn 1)), .int (jn 0), .int l2], M1)) rfl).trans ?_
    refine (e_kI (q := (24, [some (.ref 52), some (.int l1), some (.int l2)], [.int (v2 - (jn 1)), .int (jn 0), .int l2])) (q2 := (27, [some (.ref 52), some (.int l1), some (.int l2)], [])) (M := M1) (o := (pcl GG lay d 71 [.int l2, .int (jn 0), .int (v2 - (jn 1))] M1)) (hf := rfl) rfl rfl).trans ?_
    refine kI_in (fun r3 M3 => ?_)
    refine (e_if_eq (hf := rfl)).trans ?_
    refine ite_in ?_ ?_
    · refine (evn_adv 2 (q' := (47, [some (.ref 52), some (.int l1), some (.int l2)], [.int (jz 5), .ref 52], M3)) rfl).trans ?_
      refine (e_kI (q := (47, [some (.ref 52), some (.int l1), some (.int l2)], [.int (jz 5), .ref 52])) (q2 := (50, [some (.ref 52), some (.int l1), some (.int l2)], [])) (M := M3) (o := (pcl GG lay d 69 [.ref 52, .int (jz 5)] M3)) (hf := rfl) rfl rfl).trans ?_
      refine kI_in (fun r4 M4 => ?_)
      exact evn_end 1 rfl
    · refine (evn_adv 7 (q' := (40, [some (.ref 52), some (.int l1), some (.int l2)], [.int (((jn 40) * l1) + l2), .ref 54], M3)) rfl).trans ?_
      refine (e_oB (q := (40, [some (.ref 52), some (.int l1), some (.int l2)], [.int (((jn 40) * l1) + l2), .ref 54], M3)) (o := (aldI lay none M3 54 (((jn 40) * l1) + l2))) (f := fun v4 => (41, [some (.ref 52), some (.int l1), some (.int l2)], [.int v4], M3)) (hf := rfl) rfl).trans ?_
      refine oB_in (fun v4 => ?_)
      refine (evn_adv 1 (q' := (50, [some (.ref 52), some (.int l1), some (.int l2)], [.int v4], M3)) rfl).trans ?_
      exact evn_end 1 rfl
/-- TermStrategiesModel.depth(I)I -/
noncomputable abbrev E_99 (d : Nat) : PQ → PO := evn (rnn k_99 lay none (pcl GG lay d) 1)
theorem q_99 (d : Nat) (l1 : Int32) (M : PM) : pcl GG lay (d + 1) 99 [.ref 52, .int l1] M = (oB (aldI lay none M 54 l1) fun v1 => E_99 d (12, [some (.ref 52), some (.int l1), some (.int (jn 0)), some (.int v1), some (.int (jn 0))], [], M)) := by
  refine (pcl_un (mt := t_99) (by decide) rfl (Nat.le_of_ble_eq_true rfl)).trans ?_
  show E_99 d (0, [some (.ref 52), some (.int l1), none, none, none], [], M) = _
  refine (evn_adv 5 (q' := (7, [some (.ref 52), some (.int l1), some (.int (jn 0)), none, none], [.int l1, .ref 54], M)) rfl).trans ?_
  refine (e_oB (q := (7, [some (.ref 52), some (.int l1), some (.int (jn 0)), none, none], [.int l1, .ref 54], M)) (o := (aldI lay none M 54 l1)) (f := fun v1 => (8, [some (.ref 52), some (.int l1), some (.int (jn 0)), none, none], [.int v1], M)) (hf := rfl) rfl).trans ?_
  refine oB_in (fun v1 => ?_)
  refine (evn_adv 3 (q' := (12, [some (.ref 52), some (.int l1), some (.int (jn 0)), some (.int v1), some (.int (jn 0))], [], M)) rfl).trans ?_
  rfl
theorem h_99_12 (d : Nat) (l1 : Int32) (l2 : Int32) (l3 : Int32) (l4 : Int32) (M : PM) : E_99 d (12, [some (.ref 52), some (.int l1), some (.int l2), some (.int l3), some (.int l4)], [], M) = (kI (pcl GG lay d 77 [.int l3] M) fun r1 M1 => (if l4 < r1 then (kI (pcl GG lay d 79 [.ref 54, .int l1, .int l4] M1) fun r2 M2 => (kI (pcl GG lay d 99 [.ref 52, .int r2] M2) fun r3 M3 => (kI (pcl GG lay d 1 [.int l2, .int r3] M3) fun r4 M4 => E_99 d (12, [some (.ref 52), some (.int l1), some (.int r4), some (.int l3), some (.int (l4 + (jn 1)))], [], M4)))) else (rI (l2 + (jn 1)) M1))) := by
  refine (evn_adv 2 (q' := (15, [some (.ref 52), some (.int l1), some (.int l2), some (.int l3), some (.int l4)], [.int l3, .int l4], M)) rfl).trans ?_
  refine (e_kI (q := (15, [some (.ref 52), some (.int l1), some (.int l2), some (.int l3), some (.int l4)], [.int l3, .int l4])) (q2 := (18, [some (.ref 52), some (.int l1), some (.int l2), some (.int l3), some (.int l4)], [.int l4])) (M := M) (o := (pcl GG lay d 77 [.int l3] M)) (hf := rfl) rfl rfl).trans ?_
  refine kI_in (fun r1 M1 => ?_)
  refine (e_ic_ge (hf := rfl)).trans ?_
  refine ite_in ?_ ?_
  · refine (evn_adv 6 (q' := (30, [some (.ref 52), some (.int l1), some (.int l2), some (.int l3), some (.int l4)], [.int l4, .int l1, .ref 54, .ref 52, .int l2], M1)) rfl).trans ?_
    refine (e_kI (q := (30, [some (.ref 52), some (.int l1), some (.int l2), some (.int l3), some (.int l4)], [.int l4, .int l1, .ref 54, .ref 52, .int l2])) (q2 := (33, [some (.ref 52), some (.int l1), some (.int l2), some (.int l3), some (.int l4)], [.ref 52, .int l2])) (M := M1) (o := (pcl GG lay d 79 [.ref 54, .int l1, .int l4] M1)) (hf := rfl) rfl rfl).trans ?_
    refine kI_in (fun r2 M2 => ?_)
    refine (e_kI (q := (33, [some (.ref 52), some (.int l1), some (.int l2), some (.int l3), some (.int l4)], [.int r2, .ref 52, .int l2])) (q2 := (36, [some (.ref 52), some (.int l1), some (.int l2), some (.int l3), some (.int l4)], [.int l2])) (M := M2) (o := (pcl GG lay d 99 [.ref 52, .int r2] M2)) (hf := rfl) rfl rfl).trans ?_
    refine kI_in (fun r3 M3 => ?_)
    refine (e_kI (q := (36, [some (.ref 52), some (.int l1), some (.int l2), some (.int l3), some (.int l4)], [.int r3, .int l2])) (q2 := (39, [some (.ref 52), some (.int l1), some (.int l2), some (.int l3), some (.int l4)], [])) (M := M3) (o := (pcl GG lay d 1 [.int l2, .int r3] M3)) (hf := rfl) rfl rfl).trans ?_
    refine kI_in (fun r4 M4 => ?_)
    refine (evn_adv 3 (q' := (12, [some (.ref 52), some (.int l1), some (.int r4), some (.int l3), some (.int (l4 + (jn 1)))], [], M4)) rfl).trans ?_
    rfl
  · refine (evn_adv 3 (q' := (49, [some (.ref 52), some (.int l1), some (.int l2), some (.int l3), some (.int l4)], [.int (l2 + (jn 1))], M1)) rfl).trans ?_
    exact evn_end 1 rfl
/-- TermStrategiesModel.variables([III)I -/
noncomputable abbrev E_100 (d : Nat) : PQ → PO := evn (rnn k_100 lay none (pcl GG lay d) 1)
theorem q_100 (d : Nat) (l0 : Nat) (l1 : Int32) (l2 : Int32) (M : PM) : pcl GG lay (d + 1) 100 [.ref l0, .int l1, .int l2] M = E_100 d (5, [some (.ref l0), some (.int l1), some (.int l2), some (.int (jn 0)), some (.int (jn 0))], [], M) := by
  refine (pcl_un (mt := t_100) (by decide) rfl (Nat.le_of_ble_eq_true rfl)).trans ?_
  show E_100 d (0, [some (.ref l0), some (.int l1), some (.int l2), none, none], [], M) = _
  refine (evn_adv 4 (q' := (5, [some (.ref l0), some (.int l1), some (.int l2), some (.int (jn 0)), some (.int (jn 0))], [], M)) rfl).trans ?_
  rfl
theorem h_100_5 (d : Nat) (l0 : Nat) (l1 : Int32) (l2 : Int32) (l3 : Int32) (l4 : Int32) (M : PM) : E_100 d (5, [some (.ref l0), some (.int l1), some (.int l2), some (.int l3), some (.int l4)], [], M) = (if l4 < l2 then (oB (aldI lay none M l0 (l1 + l4)) fun v1 => (kI (pcl GG lay d 76 [.int v1] M) fun r2 M2 => (if r2 = jn 0 then E_100 d (5, [some (.ref l0), some (.int l1), some (.int l2), some (.int l3), some (.int (l4 + (jn 1)))], [], M2) else (oB (aldI lay none M2 l0 (l1 + l4)) fun v3 => E_100 d (5, [some (.ref l0), some (.int l1), some (.int l2), some (.int (l3 ||| ((jn 1) <<< ((v3 - (jn 117)) &&& 31)))), some (.int (l4 + (jn 1)))], [], M2))))) else (rI l3 M)) := by
  refine (evn_adv 2 (q' := (8, [some (.ref l0), some (.int l1), some (.int l2), some (.int l3), some (.int l4)], [.int l2, .int l4], M)) rfl).trans ?_
  refine (e_ic_ge (hf := rfl)).trans ?_
  refine ite_in ?_ ?_
  · refine (evn_adv 4 (q' := (16, [some (.ref l0), some (.int l1), some (.int l2), some (.int l3), some (.int l4)], [.int (l1 + l4), .ref l0], M)) rfl).trans ?_
    refine (e_oB (q := (16, [some (.ref l0), some (.int l1), some (.int l2), some (.int l3), some (.int l4)], [.int (l1 + l4), .ref l0], M)) (o := (aldI lay none M l0 (l1 + l4))) (f := fun v1 => (17, [some (.ref l0), some (.int l1), some (.int l2), some (.int l3), some (.int l4)], [.int v1], M)) (hf := rfl) rfl).trans ?_
    refine oB_in (fun v1 => ?_)
    refine (e_kI (q := (17, [some (.ref l0), some (.int l1), some (.int l2), some (.int l3), some (.int l4)], [.int v1])) (q2 := (20, [some (.ref l0), some (.int l1), some (.int l2), some (.int l3), some (.int l4)], [])) (M := M) (o := (pcl GG lay d 76 [.int v1] M)) (hf := rfl) rfl rfl).trans ?_
    refine kI_in (fun r2 M2 => ?_)
    refine (e_if_eq (hf := rfl)).trans ?_
    refine ite_in ?_ ?_
    · refine (evn_adv 2 (q' := (5, [some (.ref l0), some (.int l1), some (.int l2), some (.int l3), some (.int (l4 + (jn 1)))], [], M2)) rfl).trans ?_
      rfl
    · refine (evn_adv 6 (q' := (30, [some (.ref l0), some (.int l1), some (.int l2), some (.int l3), some (.int l4)], [.int (l1 + l4), .ref l0, .int (jn 1), .int l3], M2)) rfl).trans ?_
      refine (e_oB (q := (30, [some (.ref l0), some (.int l1), some (.int l2), some (.int l3), some (.int l4)], [.int (l1 + l4), .ref l0, .int (jn 1), .int l3], M2)) (o := (aldI lay none M2 l0 (l1 + l4))) (f := fun v3 => (31, [some (.ref l0), some (.int l1), some (.int l2), some (.int l3), some (.int l4)], [.int v3, .int (jn 1), .int l3], M2)) (hf := rfl) rfl).trans ?_
      refine oB_in (fun v3 => ?_)
      refine (evn_adv 7 (q' := (5, [some (.ref l0), some (.int l1), some (.int l2), some (.int (l3 ||| ((jn 1) <<< ((v3 - (jn 117)) &&& 31)))), some (.int (l4 + (jn 1)))], [], M2)) rfl).trans ?_
      rfl
  · refine (evn_adv 1 (q' := (44, [some (.ref l0), some (.int l1), some (.int l2), some (.int l3), some (.int l4)], [.int l3], M)) rfl).trans ?_
    exact evn_end 1 rfl
/-- TermStrategiesModel.termOf(II)I -/
noncomputable abbrev E_101 (d : Nat) : PQ → PO := evn (rnn k_101 lay none (pcl GG lay d) 1)
theorem q_101 (d : Nat) (l1 : Int32) (l2 : Int32) (M : PM) : pcl GG lay (d + 1) 101 [.ref 52, .int l1, .int l2] M = (kI (pcl GG lay d 72 [.ref 52, .int l1] M) fun r1 M1 => (if r1 = jn 0 then (kI (pcl GG lay d 69 [.ref 52, .int (jz 1)] M1) fun r2 M2 => (rI r2 M2)) else (if l2 = (jn 0) then (oB (aldI lay none M1 53 l1) fun v2 => (rI v2 M1)) else (if l2 = (jn 1) then (kI (pcl GG lay d 99 [.ref 52, .int ((jn 40) * l1)] M1) fun r2 M2 => (rI r2 M2)) else (if l2 = (jn 2) then (oB (aldI lay none M1 53 l1) fun v2 => (kI (pcl GG lay d 100 [.ref 54, .int ((jn 40) * l1), .int v2] M1) fun r3 M3 => (rI r3 M3))) else (if l2 = (jn 3) then (kL (pcl GG lay d 118 [.ref 52, .int l1] M1) fun r2 M2 => (if (lg_cmp r2 (Int64.ofNat 0)) = jn 0 then (rI (jn 1) M2) else (rI (jn 0) M2))) else (kI (pcl GG lay d 69 [.ref 52, .int (jz 5)] M1) fun r2 M2 => (rI r2 M2)))))))) := by
  refine (pcl_un (mt := t_101) (by decide) rfl (Nat.le_of_ble_eq_true rfl)).trans ?_
  show E_101 d (0, [some (.ref 52), some (.int l1), some (.int l2)], [], M) = _
  refine (evn_adv 2 (q' := (2, [some (.ref 52), some (.int l1), some (.int l2)], [.int l1, .ref 52], M)) rfl).trans ?_
  refine (e_kI (q := (2, [some (.ref 52), some (.int l1), some (.int l2)], [.int l1, .ref 52])) (q2 := (5, [some (.ref 52), some (.int l1), some (.int l2)], [])) (M := M) (o := (pcl GG lay d 72 [.ref 52, .int l1] M)) (hf := rfl) rfl rfl).trans ?_
  refine kI_in (fun r1 M1 => ?_)
  refine (e_if_ne (hf := rfl)).trans ?_
  refine ite_in ?_ ?_
  · refine (evn_adv 2 (q' := (10, [some (.ref 52), some (.int l1), some (.int l2)], [.int (jz 1), .ref 52], M1)) rfl).trans ?_
    refine (e_kI (q := (10, [some (.ref 52), some (.int l1), some (.int l2)], [.int (jz 1), .ref 52])) (q2 := (13, [some (.ref 52), some (.int l1), some (.int l2)], [])) (M := M1) (o := (pcl GG lay d 69 [.ref 52, .int (jz 1)] M1)) (hf := rfl) rfl rfl).trans ?_
    refine kI_in (fun r2 M2 => ?_)
    exact evn_end 1 rfl
  · refine (evn_adv 1 (q' := (15, [some (.ref 52), some (.int l1), some (.int l2)], [.int l2], M1)) rfl).trans ?_
    refine (e_sw0 (dflt := 94) (lo := ((0 : Nat) : Int)) (ts := [44, 51, 60, 78]) (hf := rfl) rfl).trans ?_
    refine sw_cons (lo := 0) (F := fun pc => E_101 d (pc, [some (.ref 52), some (.int l1), some (.int l2)], [], M1)) (by decide) ?_ ?_
    · refine (evn_adv 3 (q' := (49, [some (.ref 52), some (.int l1), some (.int l2)], [.int l1, .ref 53], M1)) rfl).trans ?_
      refine (e_oB (q := (49, [some (.ref 52), some (.int l1), some (.int l2)], [.int l1, .ref 53], M1)) (o := (aldI lay none M1 53 l1)) (f := fun v2 => (50, [some (.ref 52), some (.int l1), some (.int l2)], [.int v2], M1)) (hf := rfl) rfl).trans ?_
      refine oB_in (fun v2 => ?_)
      exact evn_end 1 rfl
    refine sw_cons (lo := 1) (F := fun pc => E_101 d (pc, [some (.ref 52), some (.int l1), some (.int l2)], [], M1)) (by decide) ?_ ?_
    · refine (evn_adv 4 (q' := (56, [some (.ref 52), some (.int l1), some (.int l2)], [.int ((jn 40) * l1), .ref 52], M1)) rfl).trans ?_
      refine (e_kI (q := (56, [some (.ref 52), some (.int l1), some (.int l2)], [.int ((jn 40) * l1), .ref 52])) (q2 := (59, [some (.ref 52), some (.int l1), some (.int l2)], [])) (M := M1) (o := (pcl GG lay d 99 [.ref 52, .int ((jn 40) * l1)] M1)) (hf := rfl) rfl rfl).trans ?_
      refine kI_in (fun r2 M2 => ?_)
      exact evn_end 1 rfl
    refine sw_cons (lo := 2) (F := fun pc => E_101 d (pc, [some (.ref 52), some (.int l1), some (.int l2)], [], M1)) (by decide) ?_ ?_
    · refine (evn_adv 8 (q' := (73, [some (.ref 52), some (.int l1), some (.int l2)], [.int l1, .ref 53, .int ((jn 40) * l1), .ref 54], M1)) rfl).trans ?_
      refine (e_oB (q := (73, [some (.ref 52), some (.int l1), some (.int l2)], [.int l1, .ref 53, .int ((jn 40) * l1), .ref 54], M1)) (o := (aldI lay none M1 53 l1)) (f := fun v2 => (74, [some (.ref 52), some (.int l1), some (.int l2)], [.int v2, .int ((jn 40) * l1), .ref 54], M1)) (hf := rfl) rfl).trans ?_
      refine oB_in (fun v2 => ?_)
      refine (e_kI (q := (74, [some (.ref 52), some (.int l1), some (.int l2)], [.int v2, .int ((jn 40) * l1), .ref 54])) (q2 := (77, [some (.ref 52), some (.int l1), some (.int l2)], [])) (M := M1) (o := (pcl GG lay d 100 [.ref 54, .int ((jn 40) * l1), .int v2] M1)) (hf := rfl) rfl rfl).trans ?_
      refine kI_in (fun r3 M3 => ?_)
      exact evn_end 1 rfl
    refine sw_cons (lo := 3) (F := fun pc => E_101 d (pc, [some (.ref 52), some (.int l1), some (.int l2)], [], M1)) (by decide) ?_ ?_
    · refine (evn_adv 2 (q' := (80, [some (.ref 52), some (.int l1), some (.int l2)], [.int l1, .ref 52], M1)) rfl).trans ?_
      refine (e_kL (q := (80, [some (.ref 52), some (.int l1), some (.int l2)], [.int l1, .ref 52])) (q2 := (83, [some (.ref 52), some (.int l1), some (.int l2)], [])) (M := M1) (o := (pcl GG lay d 118 [.ref 52, .int l1] M1)) (hf := rfl) rfl rfl).trans ?_
      refine kL_in (fun r2 M2 => ?_)
      refine (evn_adv 2 (q' := (85, [some (.ref 52), some (.int l1), some (.int l2)], [.int (lg_cmp r2 (Int64.ofNat 0))], M2)) rfl).trans ?_
      refine (e_if_ne (hf := rfl)).trans ?_
      refine ite_in ?_ ?_
      · refine (evn_adv 2 (q' := (93, [some (.ref 52), some (.int l1), some (.int l2)], [.int (jn 1)], M2)) rfl).trans ?_
        exact evn_end 1 rfl
      · refine (evn_adv 1 (q' := (93, [some (.ref 52), some (.int l1), some (.int l2)], [.int (jn 0)], M2)) rfl).trans ?_
        exact evn_end 1 rfl
    show E_101 d (94, [some (.ref 52), some (.int l1), some (.int l2)], [], M1) = _
    refine (evn_adv 2 (q' := (97, [some (.ref 52), some (.int l1), some (.int l2)], [.int (jz 5), .ref 52], M1)) rfl).trans ?_
    refine (e_kI (q := (97, [some (.ref 52), some (.int l1), some (.int l2)], [.int (jz 5), .ref 52])) (q2 := (100, [some (.ref 52), some (.int l1), some (.int l2)], [])) (M := M1) (o := (pcl GG lay d 69 [.ref 52, .int (jz 5)] M1)) (hf := rfl) rfl rfl).trans ?_
    refine kI_in (fun r2 M2 => ?_)
    exact evn_end 1 rfl
/-- TermStrategiesModel.pathTo([III)J -/
noncomputable abbrev E_102 (d : Nat) : PQ → PO := evn (rnn k_102 lay none (pcl GG lay d) 3)
theorem q_102 (d : Nat) (l0 : Nat) (l1 : Int32) (l2 : Int32) (M : PM) : pcl GG lay (d + 1) 102 [.ref l0, .int l1, .int l2] M = E_102 d (5, [some (.ref l0), some (.int l1), some (.int l2), some (.long (Int64.ofNat 0)), none, some (.int l1), none], [], M) := by
  refine (pcl_un (mt := t_102) (by decide) rfl (Nat.le_of_ble_eq_true rfl)).trans ?_
  show E_102 d (0, [some (.ref l0), some (.int l1), some (.int l2), none, none, none, none], [], M) = _
  refine (evn_adv 4 (q' := (5, [some (.ref l0), some (.int l1), some (.int l2), some (.long (Int64.ofNat 0)), none, some (.int l1), none], [], M)) rfl).trans ?_
  rfl
theorem h_102_5 (d : Nat) (l0 : Nat) (u1 : Option Value) (l2 : Int32) (l3 : Int64) (l5 : Int32) (u6 : Option Value) (M : PM) : E_102 d (5, [some (.ref l0), u1, some (.int l2), some (.long l3), none, some (.int l5), u6], [], M) = (if l5 = l2 then (rL l3 M) else E_102 d (14, [some (.ref l0), u1, some (.int l2), some (.long l3), none, some (.int l5), some (.int (jn 0))], [], M)) := by
  refine (evn_adv 2 (q' := (8, [some (.ref l0), u1, some (.int l2), some (.long l3), none, some (.int l5), u6], [.int l2, .int l5], M)) rfl).trans ?_
  refine (e_ic_eq (hf := rfl)).trans ?_
  refine ite_in ?_ ?_
  · refine (evn_adv 1 (q' := (71, [some (.ref l0), u1, some (.int l2), some (.long l3), none, some (.int l5), u6], [.long l3], M)) rfl).trans ?_
    exact evn_end 1 rfl
  · refine (evn_adv 2 (q' := (14, [some (.ref l0), u1, some (.int l2), some (.long l3), none, some (.int l5), some (.int (jn 0))], [], M)) rfl).trans ?_
    rfl
theorem h_102_14 (d : Nat) (l0 : Nat) (u1 : Option Value) (l2 : Int32) (l3 : Int64) (l5 : Int32) (l6 : Int32) (M : PM) : E_102 d (14, [some (.ref l0), u1, some (.int l2), some (.long l3), none, some (.int l5), some (.int l6)], [], M) = (kI (pcl GG lay d 79 [.ref l0, .int l5, .int l6] M) fun r1 M1 => (kI (pcl GG lay d 79 [.ref l0, .int l5, .int l6] M1) fun r2 M2 => (kI (pcl GG lay d 78 [.ref l0, .int r2] M2) fun r3 M3 => (if l2 < (r1 + r3) then (kI (pcl GG lay d 79 [.ref l0, .int l5, .int l6] M3) fun r4 M4 => E_102 d (5, [some (.ref l0), u1, some (.int l2), some (.long ((((Int64.ofInt 3) * l3) + (Int64.ofNat 1)) + (l6.toInt64))), none, some (.int r4), some (.int l6)], [], M4)) else E_102 d (14, [some (.ref l0), u1, some (.int l2), some (.long l3), none, some (.int l5), some (.int (l6 + (jn 1)))], [], M3))))) := by
  refine (evn_adv 4 (q' := (20, [some (.ref l0), u1, some (.int l2), some (.long l3), none, some (.int l5), some (.int l6)], [.int l6, .int l5, .ref l0, .int l2], M)) rfl).trans ?_
  refine (e_kI (q := (20, [some (.ref l0), u1, some (.int l2), some (.long l3), none, some (.int l5), some (.int l6)], [.int l6, .int l5, .ref l0, .int l2])) (q2 := (23, [some (.ref l0), u1, some (.int l2), some (.long l3), none, some (.int l5), some (.int l6)], [.int l2])) (M := M) (o := (pcl GG lay d 79 [.ref l0, .int l5, .int l6] M)) (hf := rfl) rfl rfl).trans ?_
  refine kI_in (fun r1 M1 => ?_)
  refine (evn_adv 4 (q' := (29, [some (.ref l0), u1, some (.int l2), some (.long l3), none, some (.int l5), some (.int l6)], [.int l6, .int l5, .ref l0, .ref l0, .int r1, .int l2], M1)) rfl).trans ?_
  refine (e_kI (q := (29, [some (.ref l0), u1, some (.int l2), some (.long l3), none, some (.int l5), some (.int l6)], [.int l6, .int l5, .ref l0, .ref l0, .int r1, .int l2])) (q2 := (32, [some (.ref l0), u1, some (.int l2), some (.long l3), none, some (.int l5), some (.int l6)], [.ref l0, .int r1, .int l2])) (M := M1) (o := (pcl GG lay d 79 [.ref l0, .int l5, .int l6] M1)) (hf := rfl) rfl rfl).trans ?_
  refine kI_in (fun r2 M2 => ?_)
  refine (e_kI (q := (32, [some (.ref l0), u1, some (.int l2), some (.long l3), none, some (.int l5), some (.int l6)], [.int r2, .ref l0, .int r1, .int l2])) (q2 := (35, [some (.ref l0), u1, some (.int l2), some (.long l3), none, some (.int l5), some (.int l6)], [.int r1, .int l2])) (M := M2) (o := (pcl GG lay d 78 [.ref l0, .int r2] M2)) (hf := rfl) rfl rfl).trans ?_
  refine kI_in (fun r3 M3 => ?_)
  refine (evn_adv 1 (q' := (36, [some (.ref l0), u1, some (.int l2), some (.long l3), none, some (.int l5), some (.int l6)], [.int (r1 + r3), .int l2], M3)) rfl).trans ?_
  refine (e_ic_lt (hf := rfl)).trans ?_
  refine ite_in ?_ ?_
  · refine (evn_adv 3 (q' := (50, [some (.ref l0), u1, some (.int l2), some (.long l3), none, some (.int l5), some (.int l6)], [.int l6, .int l5, .ref l0], M3)) rfl).trans ?_
    refine (e_kI (q := (50, [some (.ref l0), u1, some (.int l2), some (.long l3), none, some (.int l5), some (.int l6)], [.int l6, .int l5, .ref l0])) (q2 := (53, [some (.ref l0), u1, some (.int l2), some (.long l3), none, some (.int l5), some (.int l6)], [])) (M := M3) (o := (pcl GG lay d 79 [.ref l0, .int l5, .int l6] M3)) (hf := rfl) rfl rfl).trans ?_
    refine kI_in (fun r4 M4 => ?_)
    refine (evn_adv 11 (q' := (5, [some (.ref l0), u1, some (.int l2), some (.long ((((Int64.ofInt 3) * l3) + (Int64.ofNat 1)) + (l6.toInt64))), none, some (.int r4), some (.int l6)], [], M4)) rfl).trans ?_
    rfl
  · refine (evn_adv 2 (q' := (14, [some (.ref l0), u1, some (.int l2), some (.long l3), none, some (.int l5), some (.int (l6 + (jn 1)))], [], M3)) rfl).trans ?_
    rfl
/-- TermStrategiesModel.path(II)J -/
noncomputable abbrev E_103 (d : Nat) : PQ → PO := evn (rnn k_103 lay none (pcl GG lay d) 3)
theorem q_103 (d : Nat) (l1 : Int32) (l2 : Int32) (M : PM) : pcl GG lay (d + 1) 103 [.ref 52, .int l1, .int l2] M = (kI (pcl GG lay d 72 [.ref 52, .int l1] M) fun r1 M1 => (if r1 = jn 0 then (kI (pcl GG lay d 69 [.ref 52, .int (jz 1)] M1) fun r2 M2 => (rL (r2.toInt64) M2)) else (oB (aldI lay none M1 53 l1) fun v2 => (kI (pcl GG lay d 71 [.int l2, .int (jn 0), .int (v2 - (jn 1))] M1) fun r3 M3 => (if r3 = jn 0 then (kI (pcl GG lay d 69 [.ref 52, .int (jz 5)] M3) fun r4 M4 => (rL (r4.toInt64) M4)) else (kL (pcl GG lay d 102 [.ref 54, .int ((jn 40) * l1), .int (((jn 40) * l1) + l2)] M3) fun r4 M4 => (rL r4 M4))))))) := by
  refine (pcl_un (mt := t_103) (by decide) rfl (Nat.le_of_ble_eq_true rfl)).trans ?_
  show E_103 d (0, [some (.ref 52), some (.int l1), some (.int l2)], [], M) = _
  refine (evn_adv 2 (q' := (2, [some (.ref 52), some (.int l1), some (.int l2)], [.int l1, .ref 52], M)) rfl).trans ?_
  refine (e_kI (q := (2, [some (.ref 52), some (.int l1), some (.int l2)], [.int l1, .ref 52])) (q2 := (5, [some (.ref 52), some (.int l1), some (.int l2)], [])) (M := M) (o := (pcl GG lay d 72 [.ref 52, .int l1] M)) (hf := rfl) rfl rfl).trans ?_
  refine kI_in (fun r1 M1 => ?_)
  refine (e_if_ne (hf := rfl)).trans ?_
  refine ite_in ?_ ?_
  · refine (evn_adv 2 (q' := (10, [some (.ref 52), some (.int l1), some (.int l2)], [.int (jz 1), .ref 52], M1)) rfl).trans ?_
    refine (e_kI (q := (10, [some (.ref 52), some (.int l1), some (.int l2)], [.int (jz 1), .ref 52])) (q2 := (13, [some (.ref 52), some (.int l1), some (.int l2)], [])) (M := M1) (o := (pcl GG lay d 69 [.ref 52, .int (jz 1)] M1)) (hf := rfl) rfl rfl).trans ?_
    refine kI_in (fun r2 M2 => ?_)
    refine (evn_adv 1 (q' := (14, [some (.ref 52), some (.int l1), some (.int l2)], [.long (r2.toInt64)], M2)) rfl).trans ?_
    exact evn_end 1 rfl
  · refine (evn_adv 5 (q' := (22, [some (.ref 52), some (.int l1), some (.int l2)], [.int l1, .ref 53, .int (jn 0), .int l2], M1)) rfl).trans ?_
    refine (e_oB (q := (22, [some (.ref 52), some (.int l1), some (.int l2)], [.int l1, .ref 53, .int (jn 0), .int l2], M1)) (o := (aldI lay none M1 53 l1)) (f := fun v2 => (23, [some (.ref 52), some (.int l1), some (.int l2)], [.int v2, .int (jn 0), .int l2], M1)) (hf := rfl) rfl).trans ?_
    refine oB_in (fun v2 => ?_)
    refine (evn_adv 2 (q' := (25, [some (.ref 52), some (.int l1), some (.int l2)], [.int (v2 - (jn 1)), .int (jn 0), .int l2], M1)) rfl).trans ?_
    refine (e_kI (q := (25, [some (.ref 52), some (.int l1), some (.int l2)], [.int (v2 - (jn 1)), .int (jn 0), .int l2])) (q2 := (28, [some (.ref 52), some (.int l1), some (.int l2)], [])) (M := M1) (o := (pcl GG lay d 71 [.int l2, .int (jn 0), .int (v2 - (jn 1))] M1)) (hf := rfl) rfl rfl).trans ?_
    refine kI_in (fun r3 M3 => ?_)
    refine (e_if_eq (hf := rfl)).trans ?_
    refine ite_in ?_ ?_
    · refine (evn_adv 2 (q' := (54, [some (.ref 52), some (.int l1), some (.int l2)], [.int (jz 5), .ref 52], M3)) rfl).trans ?_
      refine (e_kI (q := (54, [some (.ref 52), some (.int l1), some (.int l2)], [.int (jz 5), .ref 52])) (q2 := (57, [some (.ref 52), some (.int l1), some (.int l2)], [])) (M := M3) (o := (pcl GG lay d 69 [.ref 52, .int (jz 5)] M3)) (hf := rfl) rfl rfl).trans ?_
      refine kI_in (fun r4 M4 => ?_)
      refine (evn_adv 1 (q' := (58, [some (.ref 52), some (.int l1), some (.int l2)], [.long (r4.toInt64)], M4)) rfl).trans ?_
      exact evn_end 1 rfl
    · refine (evn_adv 10 (q' := (45, [some (.ref 52), some (.int l1), some (.int l2)], [.int (((jn 40) * l1) + l2), .int ((jn 40) * l1), .ref 54], M3)) rfl).trans ?_
      refine (e_kL (q := (45, [some (.ref 52), some (.int l1), some (.int l2)], [.int (((jn 40) * l1) + l2), .int ((jn 40) * l1), .ref 54])) (q2 := (48, [some (.ref 52), some (.int l1), some (.int l2)], [])) (M := M3) (o := (pcl GG lay d 102 [.ref 54, .int ((jn 40) * l1), .int (((jn 40) * l1) + l2)] M3)) (hf := rfl) rfl rfl).trans ?_
      refine kL_in (fun r4 M4 => ?_)
      refine (evn_adv 1 (q' := (58, [some (.ref 52), some (.int l1), some (.int l2)], [.long r4], M4)) rfl).trans ?_
      exact evn_end 1 rfl
/-- TermStrategiesModel.isSame([II[II)Z -/
noncomputable abbrev E_104 (d : Nat) : PQ → PO := evn (rnn k_104 lay none (pcl GG lay d) 2)
theorem q_104 (d : Nat) (l0 : Nat) (l1 : Int32) (l2 : Nat) (l3 : Int32) (M : PM) : pcl GG lay (d + 1) 104 [.ref l0, .int l1, .ref l2, .int l3] M = (kI (pcl GG lay d 78 [.ref l0, .int l1] M) fun r1 M1 => (kI (pcl GG lay d 78 [.ref l2, .int l3] M1) fun r2 M2 => (if r2 = r1 then E_104 d (22, [some (.ref l0), some (.int l1), some (.ref l2), some (.int l3), some (.int r1), some (.int (jn 0))], [], M2) else (rZ (jn 0) M2)))) := by
  refine (pcl_un (mt := t_104) (by decide) rfl (Nat.le_of_ble_eq_true rfl)).trans ?_
  show E_104 d (0, [some (.ref l0), some (.int l1), some (.ref l2), some (.int l3), none, none], [], M) = _
  refine (evn_adv 2 (q' := (2, [some (.ref l0), some (.int l1), some (.ref l2), some (.int l3), none, none], [.int l1, .ref l0], M)) rfl).trans ?_
  refine (e_kI (q := (2, [some (.ref l0), some (.int l1), some (.ref l2), some (.int l3), none, none], [.int l1, .ref l0])) (q2 := (5, [some (.ref l0), some (.int l1), some (.ref l2), some (.int l3), none, none], [])) (M := M) (o := (pcl GG lay d 78 [.ref l0, .int l1] M)) (hf := rfl) rfl rfl).trans ?_
  refine kI_in (fun r1 M1 => ?_)
  refine (evn_adv 3 (q' := (9, [some (.ref l0), some (.int l1), some (.ref l2), some (.int l3), some (.int r1), none], [.int l3, .ref l2], M1)) rfl).trans ?_
  refine (e_kI (q := (9, [some (.ref l0), some (.int l1), some (.ref l2), some (.int l3), some (.int r1), none], [.int l3, .ref l2])) (q2 := (12, [some (.ref l0), some (.int l1), some (.ref l2), some (.int l3), some (.int r1), none], [])) (M := M1) (o := (pcl GG lay d 78 [.ref l2, .int l3] M1)) (hf := rfl) rfl rfl).trans ?_
  refine kI_in (fun r2 M2 => ?_)
  refine (evn_adv 1 (q' := (14, [some (.ref l0), some (.int l1), some (.ref l2), some (.int l3), some (.int r1), none], [.int r1, .int r2], M2)) rfl).trans ?_
  refine (e_ic_eq (hf := rfl)).trans ?_
  refine ite_in ?_ ?_
  · refine (evn_adv 2 (q' := (22, [some (.ref l0), some (.int l1), some (.ref l2), some (.int l3), some (.int r1), some (.int (jn 0))], [], M2)) rfl).trans ?_
    rfl
  · refine (evn_adv 1 (q' := (18, [some (.ref l0), some (.int l1), some (.ref l2), some (.int l3), some (.int r1), none], [.int (jn 0)], M2)) rfl).trans ?_
    exact e_iretz (hf := rfl)
theorem h_104_22 (d : Nat) (l0 : Nat) (l1 : Int32) (l2 : Nat) (l3 : Int32) (l4 : Int32) (l5 : Int32) (M : PM) : E_104 d (22, [some (.ref l0), some (.int l1), some (.ref l2), some (.int l3), some (.int l4), some (.int l5)], [], M) = (if l5 < l4 then (oB (aldI lay none M l0 (l1 + l5)) fun v1 => (oB (aldI lay none M l2 (l3 + l5)) fun v2 => (if v1 = v2 then E_104 d (22, [some (.ref l0), some (.int l1), some (.ref l2), some (.int l3), some (.int l4), some (.int (l5 + (jn 1)))], [], M) else (rZ (jn 0) M)))) else (rZ (jn 1) M)) := by
  refine (evn_adv 2 (q' := (26, [some (.ref l0), some (.int l1), some (.ref l2), some (.int l3), some (.int l4), some (.int l5)], [.int l4, .int l5], M)) rfl).trans ?_
  refine (e_ic_ge (hf := rfl)).trans ?_
  refine ite_in ?_ ?_
  · refine (evn_adv 4 (q' := (34, [some (.ref l0), some (.int l1), some (.ref l2), some (.int l3), some (.int l4), some (.int l5)], [.int (l1 + l5), .ref l0], M)) rfl).trans ?_
    refine (e_oB (q := (34, [some (.ref l0), some (.int l1), some (.ref l2), some (.int l3), some (.int l4), some (.int l5)], [.int (l1 + l5), .ref l0], M)) (o := (aldI lay none M l0 (l1 + l5))) (f := fun v1 => (35, [some (.ref l0), some (.int l1), some (.ref l2), some (.int l3), some (.int l4), some (.int l5)], [.int v1], M)) (hf := rfl) rfl).trans ?_
    refine oB_in (fun v1 => ?_)
    refine (evn_adv 4 (q' := (40, [some (.ref l0), some (.int l1), some (.ref l2), some (.int l3), some (.int l4), some (.int l5)], [.int (l3 + l5), .ref l2, .int v1], M)) rfl).trans ?_
    refine (e_oB (q := (40, [some (.ref l0), some (.int l1), some (.ref l2), some (.int l3), some (.int l4), some (.int l5)], [.int (l3 + l5), .ref l2, .int v1], M)) (o := (aldI lay none M l2 (l3 + l5))) (f := fun v2 => (41, [some (.ref l0), some (.int l1), some (.ref l2), some (.int l3), some (.int l4), some (.int l5)], [.int v2, .int v1], M)) (hf := rfl) rfl).trans ?_
    refine oB_in (fun v2 => ?_)
    refine (e_ic_eq (hf := rfl)).trans ?_
    refine ite_in ?_ ?_
    · refine (evn_adv 2 (q' := (22, [some (.ref l0), some (.int l1), some (.ref l2), some (.int l3), some (.int l4), some (.int (l5 + (jn 1)))], [], M)) rfl).trans ?_
      rfl
    · refine (evn_adv 1 (q' := (45, [some (.ref l0), some (.int l1), some (.ref l2), some (.int l3), some (.int l4), some (.int l5)], [.int (jn 0)], M)) rfl).trans ?_
      exact e_iretz (hf := rfl)
  · refine (evn_adv 1 (q' := (53, [some (.ref l0), some (.int l1), some (.ref l2), some (.int l3), some (.int l4), some (.int l5)], [.int (jn 1)], M)) rfl).trans ?_
    exact e_iretz (hf := rfl)
/-- TermStrategiesModel.isSameBut(II)Z -/
noncomputable abbrev E_105 (d : Nat) : PQ → PO := evn (rnn k_105 lay none (pcl GG lay d) 2)
theorem q_105 (d : Nat) (l1 : Int32) (l2 : Int32) (M : PM) : pcl GG lay (d + 1) 105 [.ref 52, .int l1, .int l2] M = (oB (aldI lay none M 54 l1) fun v1 => (oB (aldI lay none M 54 l2) fun v2 => (if v1 = v2 then (kI (pcl GG lay d 78 [.ref 54, .int l1] M) fun r3 M3 => (kI (pcl GG lay d 78 [.ref 54, .int l2] M3) fun r4 M4 => (if r3 = r4 then (kI (pcl GG lay d 77 [.int v1] M4) fun r5 M5 => (if r5 = jn 0 then (rZ (jn 1) M5) else (kI (pcl GG lay d 79 [.ref 54, .int l2, .int (jn 0)] M5) fun r6 M6 => (kI (pcl GG lay d 79 [.ref 54, .int l1, .int (jn 0)] M6) fun r7 M7 => (if r5 = (jn 1) then (kI (pcl GG lay d 105 [.ref 52, .int r7, .int r6] M7) fun r8 M8 => (rZ r8 M8)) else (kI (pcl GG lay d 79 [.ref 54, .int l1, .int (jn 1)] M7) fun r8 M8 => (kI (pcl GG lay d 79 [.ref 54, .int l2, .int (jn 1)] M8) fun r9 M9 => (kI (pcl GG lay d 105 [.ref 52, .int r7, .int r6] M9) fun r10 M10 => (if r10 = jn 0 then (kI (pcl GG lay d 97 [.ref 52, .int v1] M10) fun r11 M11 => (if r11 = jn 0 then (rZ (jn 0) M11) else (kI (pcl GG lay d 105 [.ref 52, .int r7, .int r9] M11) fun r12 M12 => (if r12 = jn 0 then (rZ (jn 0) M12) else (kI (pcl GG lay d 105 [.ref 52, .int r8, .int r6] M12) fun r13 M13 => (if r13 = jn 0 then (rZ (jn 0) M13) else (rZ (jn 1) M13))))))) else (kI (pcl GG lay d 105 [.ref 52, .int r8, .int r9] M10) fun r11 M11 => (if r11 = jn 0 then (kI (pcl GG lay d 97 [.ref 52, .int v1] M11) fun r12 M12 => (if r12 = jn 0 then (rZ (jn 0) M12) else (kI (pcl GG lay d 105 [.ref 52, .int r7, .int r9] M12) fun r13 M13 => (if r13 = jn 0 then (rZ (jn 0) M13) else (kI (pcl GG lay d 105 [.ref 52, .int r8, .int r6] M13) fun r14 M14 => (if r14 = jn 0 then (rZ (jn 0) M14) else (rZ (jn 1) M14))))))) else (rZ (jn 1) M11)))))))))))) else (rZ (jn 0) M4)))) else (rZ (jn 0) M)))) := by
  refine (pcl_un (mt := t_105) (by decide) rfl (Nat.le_of_ble_eq_true rfl)).trans ?_
  show E_105 d (0, [some (.ref 52), some (.int l1), some (.int l2), none, none, none, none, none, none], [], M) = _
  refine (evn_adv 3 (q' := (5, [some (.ref 52), some (.int l1), some (.int l2), none, none, none, none, none, none], [.int l1, .ref 54], M)) rfl).trans ?_
  refine (e_oB (q := (5, [some (.ref 52), some (.int l1), some (.int l2), none, none, none, none, none, none], [.int l1, .ref 54], M)) (o := (aldI lay none M 54 l1)) (f := fun v1 => (6, [some (.ref 52), some (.int l1), some (.int l2), none, none, none, none, none, none], [.int v1], M)) (hf := rfl) rfl).trans ?_
  refine oB_in (fun v1 => ?_)
  refine (evn_adv 5 (q' := (13, [some (.ref 52), some (.int l1), some (.int l2), some (.int v1), none, none, none, none, none], [.int l2, .ref 54, .int v1], M)) rfl).trans ?_
  refine (e_oB (q := (13, [some (.ref 52), some (.int l1), some (.int l2), some (.int v1), none, none, none, none, none], [.int l2, .ref 54, .int v1], M)) (o := (aldI lay none M 54 l2)) (f := fun v2 => (14, [some (.ref 52), some (.int l1), some (.int l2), some (.int v1), none, none, none, none, none], [.int v2, .int v1], M)) (hf := rfl) rfl).trans ?_
  refine oB_in (fun v2 => ?_)
  refine (e_ic_ne (hf := rfl)).trans ?_
  refine ite_in ?_ ?_
  · refine (evn_adv 3 (q' := (22, [some (.ref 52), some (.int l1), some (.int l2), some (.int v1), none, none, none, none, none], [.int l1, .ref 54], M)) rfl).trans ?_
    refine (e_kI (q := (22, [some (.ref 52), some (.int l1), some (.int l2), some (.int v1), none, none, none, none, none], [.int l1, .ref 54])) (q2 := (25, [some (.ref 52), some (.int l1), some (.int l2), some (.int v1), none, none, none, none, none], [])) (M := M) (o := (pcl GG lay d 78 [.ref 54, .int l1] M)) (hf := rfl) rfl rfl).trans ?_
    refine kI_in (fun r3 M3 => ?_)
    refine (evn_adv 3 (q' := (30, [some (.ref 52), some (.int l1), some (.int l2), some (.int v1), none, none, none, none, none], [.int l2, .ref 54, .int r3], M3)) rfl).trans ?_
    refine (e_kI (q := (30, [some (.ref 52), some (.int l1), some (.int l2), some (.int v1), none, none, none, none, none], [.int l2, .ref 54, .int r3])) (q2 := (33, [some (.ref 52), some (.int l1), some (.int l2), some (.int v1), none, none, none, none, none], [.int r3])) (M := M3) (o := (pcl GG lay d 78 [.ref 54, .int l2] M3)) (hf := rfl) rfl rfl).trans ?_
    refine kI_in (fun r4 M4 => ?_)
    refine (e_ic_eq (hf := rfl)).trans ?_
    refine ite_in ?_ ?_
    · refine (evn_adv 1 (q' := (39, [some (.ref 52), some (.int l1), some (.int l2), some (.int v1), none, none, none, none, none], [.int v1], M4)) rfl).trans ?_
      refine (e_kI (q := (39, [some (.ref 52), some (.int l1), some (.int l2), some (.int v1), none, none, none, none, none], [.int v1])) (q2 := (42, [some (.ref 52), some (.int l1), some (.int l2), some (.int v1), none, none, none, none, none], [])) (M := M4) (o := (pcl GG lay d 77 [.int v1] M4)) (hf := rfl) rfl rfl).trans ?_
      refine kI_in (fun r5 M5 => ?_)
      refine (evn_adv 2 (q' := (46, [some (.ref 52), some (.int l1), some (.int l2), some (.int v1), some (.int r5), none, none, none, none], [.int r5], M5)) rfl).trans ?_
      refine (e_if_ne (hf := rfl)).trans ?_
      refine ite_in ?_ ?_
      · refine (evn_adv 1 (q' := (50, [some (.ref 52), some (.int l1), some (.int l2), some (.int v1), some (.int r5), none, none, none, none], [.int (jn 1)], M5)) rfl).trans ?_
        exact e_iretz (hf := rfl)
      · refine (evn_adv 4 (q' := (57, [some (.ref 52), some (.int l1), some (.int l2), some (.int v1), some (.int r5), none, none, none, none], [.int (jn 0), .int l2, .ref 54], M5)) rfl).trans ?_
        refine (e_kI (q := (57, [some (.ref 52), some (.int l1), some (.int l2), some (.int v1), some (.int r5), none, none, none, none], [.int (jn 0), .int l2, .ref 54])) (q2 := (60, [some (.ref 52), some (.int l1), some (.int l2), some (.int v1), some (.int r5), none, none, none, none], [])) (M := M5) (o := (pcl GG lay d 79 [.ref 54, .int l2, .int (jn 0)] M5)) (hf := rfl) rfl rfl).trans ?_
        refine kI_in (fun r6 M6 => ?_)
        refine (evn_adv 5 (q' := (68, [some (.ref 52), some (.int l1), some (.int l2), some (.int v1), some (.int r5), some (.int r6), none, none, none], [.int (jn 0), .int l1, .ref 54], M6)) rfl).trans ?_
        refine (e_kI (q := (68, [some (.ref 52), some (.int l1), some (.int l2), some (.int v1), some (.int r5), some (.int r6), none, none, none], [.int (jn 0), .int l1, .ref 54])) (q2 := (71, [some (.ref 52), some (.int l1), some (.int l2), some (.int v1), some (.int r5), some (.int r6), none, none, none], [])) (M := M6) (o := (pcl GG lay d 79 [.ref 54, .int l1, .int (jn 0)] M6)) (hf := rfl) rfl rfl).trans ?_
        refine kI_in (fun r7 M7 => ?_)
        refine (evn_adv 3 (q' := (76, [some (.ref 52), some (.int l1), some (.int l2), some (.int v1), some (.int r5), some (.int r6), some (.int r7), none, none], [.int (jn 1), .int r5], M7)) rfl).trans ?_
        refine (e_ic_ne (hf := rfl)).trans ?_
        refine ite_in ?_ ?_
        · refine (evn_adv 3 (q' := (84, [some (.ref 52), some (.int l1), some (.int l2), some (.int v1), some (.int r5), some (.int r6), some (.int r7), none, none], [.int r6, .int r7, .ref 52], M7)) rfl).trans ?_
          refine (e_kI (q := (84, [some (.ref 52), some (.int l1), some (.int l2), some (.int v1), some (.int r5), some (.int r6), some (.int r7), none, none], [.int r6, .int r7, .ref 52])) (q2 := (87, [some (.ref 52), some (.int l1), some (.int l2), some (.int v1), some (.int r5), some (.int r6), some (.int r7), none, none], [])) (M := M7) (o := (pcl GG lay d 105 [.ref 52, .int r7, .int r6] M7)) (hf := rfl) rfl rfl).trans ?_
          refine kI_in (fun r8 M8 => ?_)
          exact e_iretz (hf := rfl)
        · refine (evn_adv 4 (q' := (94, [some (.ref 52), some (.int l1), some (.int l2), some (.int v1), some (.int r5), some (.int r6), some (.int r7), none, none], [.int (jn 1), .int l1, .ref 54], M7)) rfl).trans ?_
          refine (e_kI (q := (94, [some (.ref 52), some (.int l1), some (.int l2), some (.int v1), some (.int r5), some (.int r6), some (.int r7), none, none], [.int (jn 1), .int l1, .ref 54])) (q2 := (97, [some (.ref 52), some (.int l1), some (.int l2), some (.int v1), some (.int r5), some (.int r6), some (.int r7), none, none], [])) (M := M7) (o := (pcl GG lay d 79 [.ref 54, .int l1, .int (jn 1)] M7)) (hf := rfl) rfl rfl).trans ?_
          refine kI_in (fun r8 M8 => ?_)
          refine (evn_adv 5 (q' := (105, [some (.ref 52), some (.int l1), some (.int l2), some (.int v1), some (.int r5), some (.int r6), some (.int r7), some (.int r8), none], [.int (jn 1), .int l2, .ref 54], M8)) rfl).trans ?_
          refine (e_kI (q := (105, [some (.ref 52), some (.int l1), some (.int l2), some (.int v1), some (.int r5), some (.int r6), some (.int r7), some (.int r8), none], [.int (jn 1), .int l2, .ref 54])) (q2 := (108, [some (.ref 52), some (.int l1), some (.int l2), some (.int v1), some (.int r5), some (.int r6), some (.int r7), some (.int r8), none], [])) (M := M8) (o := (pcl GG lay d 79 [.ref 54, .int l2, .int (jn 1)] M8)) (hf := rfl) rfl rfl).trans ?_
          refine kI_in (fun r9 M9 => ?_)
          refine (evn_adv 4 (q' := (115, [some (.ref 52), some (.int l1), some (.int l2), some (.int v1), some (.int r5), some (.int r6), some (.int r7), some (.int r8), some (.int r9)], [.int r6, .int r7, .ref 52], M9)) rfl).trans ?_
          refine (e_kI (q := (115, [some (.ref 52), some (.int l1), some (.int l2), some (.int v1), some (.int r5), some (.int r6), some (.int r7), some (.int r8), some (.int r9)], [.int r6, .int r7, .ref 52])) (q2 := (118, [some (.ref 52), some (.int l1), some (.int l2), some (.int v1), some (.int r5), some (.int r6), some (.int r7), some (.int r8), some (.int r9)], [])) (M := M9) (o := (pcl GG lay d 105 [.ref 52, .int r7, .int r6] M9)) (hf := rfl) rfl rfl).trans ?_
          refine kI_in (fun r10 M10 => ?_)
          refine (e_if_eq (hf := rfl)).trans ?_
          refine ite_in ?_ ?_
          · refine (evn_adv 2 (q' := (134, [some (.ref 52), some (.int l1), some (.int l2), some (.int v1), some (.int r5), some (.int r6), some (.int r7), some (.int r8), some (.int r9)], [.int v1, .ref 52], M10)) rfl).trans ?_
            refine (e_kI (q := (134, [some (.ref 52), some (.int l1), some (.int l2), some (.int v1), some (.int r5), some (.int r6), some (.int r7), some (.int r8), some (.int r9)], [.int v1, .ref 52])) (q2 := (137, [some (.ref 52), some (.int l1), some (.int l2), some (.int v1), some (.int r5), some (.int r6), some (.int r7), some (.int r8), some (.int r9)], [])) (M := M10) (o := (pcl GG lay d 97 [.ref 52, .int v1] M10)) (hf := rfl) rfl rfl).trans ?_
            refine kI_in (fun r11 M11 => ?_)
            refine (e_if_eq (hf := rfl)).trans ?_
            refine ite_in ?_ ?_
            · refine (evn_adv 1 (q' := (167, [some (.ref 52), some (.int l1), some (.int l2), some (.int v1), some (.int r5), some (.int r6), some (.int r7), some (.int r8), some (.int r9)], [.int (jn 0)], M11)) rfl).trans ?_
              exact e_iretz (hf := rfl)
            · refine (evn_adv 3 (q' := (145, [some (.ref 52), some (.int l1), some (.int l2), some (.int v1), some (.int r5), some (.int r6), some (.int r7), some (.int r8), some (.int r9)], [.int r9, .int r7, .ref 52], M11)) rfl).trans ?_
              refine (e_kI (q := (145, [some (.ref 52), some (.int l1), some (.int l2), some (.int v1), some (.int r5), some (.int r6), some (.int r7), some (.int r8), some (.int r9)], [.int r9, .int r7, .ref 52])) (q2 := (148, [some (.ref 52), some (.int l1), some (.int l2), some (.int v1), some (.int r5), some (.int r6), some (.int r7), some (.int r8), some (.int r9)], [])) (M := M11) (o := (pcl GG lay d 105 [.ref 52, .int r7, .int r9] M11)) (hf := rfl) rfl rfl).trans ?_
              refine kI_in (fun r12 M12 => ?_)
              refine (e_if_eq (hf := rfl)).trans ?_
              refine ite_in ?_ ?_
              · refine (evn_adv 1 (q' := (167, [some (.ref 52), some (.int l1), some (.int l2), some (.int v1), some (.int r5), some (.int r6), some (.int r7), some (.int r8), some (.int r9)], [.int (jn 0)], M12)) rfl).trans ?_
                exact e_iretz (hf := rfl)
              · refine (evn_adv 3 (q' := (156, [some (.ref 52), some (.int l1), some (.int l2), some (.int v1), some (.int r5), some (.int r6), some (.int r7), some (.int r8), some (.int r9)], [.int r6, .int r8, .ref 52], M12)) rfl).trans ?_
                refine (e_kI (q := (156, [some (.ref 52), some (.int l1), some (.int l2), some (.int v1), some (.int r5), some (.int r6), some (.int r7), some (.int r8), some (.int r9)], [.int r6, .int r8, .ref 52])) (q2 := (159, [some (.ref 52), some (.int l1), some (.int l2), some (.int v1), some (.int r5), some (.int r6), some (.int r7), some (.int r8), some (.int r9)], [])) (M := M12) (o := (pcl GG lay d 105 [.ref 52, .int r8, .int r6] M12)) (hf := rfl) rfl rfl).trans ?_
                refine kI_in (fun r13 M13 => ?_)
                refine (e_if_eq (hf := rfl)).trans ?_
                refine ite_in ?_ ?_
                · refine (evn_adv 1 (q' := (167, [some (.ref 52), some (.int l1), some (.int l2), some (.int v1), some (.int r5), some (.int r6), some (.int r7), some (.int r8), some (.int r9)], [.int (jn 0)], M13)) rfl).trans ?_
                  exact e_iretz (hf := rfl)
                · refine (evn_adv 2 (q' := (167, [some (.ref 52), some (.int l1), some (.int l2), some (.int v1), some (.int r5), some (.int r6), some (.int r7), some (.int r8), some (.int r9)], [.int (jn 1)], M13)) rfl).trans ?_
                  exact e_iretz (hf := rfl)
          · refine (evn_adv 3 (q' := (126, [some (.ref 52), some (.int l1), some (.int l2), some (.int v1), some (.int r5), some (.int r6), some (.int r7), some (.int r8), some (.int r9)], [.int r9, .int r8, .ref 52], M10)) rfl).trans ?_
            refine (e_kI (q := (126, [some (.ref 52), some (.int l1), some (.int l2), some (.int v1), some (.int r5), some (.int r6), some (.int r7), some (.int r8), some (.int r9)], [.int r9, .int r8, .ref 52])) (q2 := (129, [some (.ref 52), some (.int l1), some (.int l2), some (.int v1), some (.int r5), some (.int r6), some (.int r7), some (.int r8), some (.int r9)], [])) (M := M10) (o := (pcl GG lay d 105 [.ref 52, .int r8, .int r9] M10)) (hf := rfl) rfl rfl).trans ?_
            refine kI_in (fun r11 M11 => ?_)
            refine (e_if_ne (hf := rfl)).trans ?_
            refine ite_in ?_ ?_
            · refine (evn_adv 2 (q' := (134, [some (.ref 52), some (.int l1), some (.int l2), some (.int v1), some (.int r5), some (.int r6), some (.int r7), some (.int r8), some (.int r9)], [.int v1, .ref 52], M11)) rfl).trans ?_
              refine (e_kI (q := (134, [some (.ref 52), some (.int l1), some (.int l2), some (.int v1), some (.int r5), some (.int r6), some (.int r7), some (.int r8), some (.int r9)], [.int v1, .ref 52])) (q2 := (137, [some (.ref 52), some (.int l1), some (.int l2), some (.int v1), some (.int r5), some (.int r6), some (.int r7), some (.int r8), some (.int r9)], [])) (M := M11) (o := (pcl GG lay d 97 [.ref 52, .int v1] M11)) (hf := rfl) rfl rfl).trans ?_
              refine kI_in (fun r12 M12 => ?_)
              refine (e_if_eq (hf := rfl)).trans ?_
              refine ite_in ?_ ?_
              · refine (evn_adv 1 (q' := (167, [some (.ref 52), some (.int l1), some (.int l2), some (.int v1), some (.int r5), some (.int r6), some (.int r7), some (.int r8), some (.int r9)], [.int (jn 0)], M12)) rfl).trans ?_
                exact e_iretz (hf := rfl)
              · refine (evn_adv 3 (q' := (145, [some (.ref 52), some (.int l1), some (.int l2), some (.int v1), some (.int r5), some (.int r6), some (.int r7), some (.int r8), some (.int r9)], [.int r9, .int r7, .ref 52], M12)) rfl).trans ?_
                refine (e_kI (q := (145, [some (.ref 52), some (.int l1), some (.int l2), some (.int v1), some (.int r5), some (.int r6), some (.int r7), some (.int r8), some (.int r9)], [.int r9, .int r7, .ref 52])) (q2 := (148, [some (.ref 52), some (.int l1), some (.int l2), some (.int v1), some (.int r5), some (.int r6), some (.int r7), some (.int r8), some (.int r9)], [])) (M := M12) (o := (pcl GG lay d 105 [.ref 52, .int r7, .int r9] M12)) (hf := rfl) rfl rfl).trans ?_
                refine kI_in (fun r13 M13 => ?_)
                refine (e_if_eq (hf := rfl)).trans ?_
                refine ite_in ?_ ?_
                · refine (evn_adv 1 (q' := (167, [some (.ref 52), some (.int l1), some (.int l2), some (.int v1), some (.int r5), some (.int r6), some (.int r7), some (.int r8), some (.int r9)], [.int (jn 0)], M13)) rfl).trans ?_
                  exact e_iretz (hf := rfl)
                · refine (evn_adv 3 (q' := (156, [some (.ref 52), some (.int l1), some (.int l2), some (.int v1), some (.int r5), some (.int r6), some (.int r7), some (.int r8), some (.int r9)], [.int r6, .int r8, .ref 52], M13)) rfl).trans ?_
                  refine (e_kI (q := (156, [some (.ref 52), some (.int l1), some (.int l2), some (.int v1), some (.int r5), some (.int r6), some (.int r7), some (.int r8), some (.int r9)], [.int r6, .int r8, .ref 52])) (q2 := (159, [some (.ref 52), some (.int l1), some (.int l2), some (.int v1), some (.int r5), some (.int r6), some (.int r7), some (.int r8), some (.int r9)], [])) (M := M13) (o := (pcl GG lay d 105 [.ref 52, .int r8, .int r6] M13)) (hf := rfl) rfl rfl).trans ?_
                  refine kI_in (fun r14 M14 => ?_)
                  refine (e_if_eq (hf := rfl)).trans ?_
                  refine ite_in ?_ ?_
                  · refine (evn_adv 1 (q' := (167, [some (.ref 52), some (.int l1), some (.int l2), some (.int v1), some (.int r5), some (.int r6), some (.int r7), some (.int r8), some (.int r9)], [.int (jn 0)], M14)) rfl).trans ?_
                    exact e_iretz (hf := rfl)
                  · refine (evn_adv 2 (q' := (167, [some (.ref 52), some (.int l1), some (.int l2), some (.int v1), some (.int r5), some (.int r6), some (.int r7), some (.int r8), some (.int r9)], [.int (jn 1)], M14)) rfl).trans ?_
                    exact e_iretz (hf := rfl)
            · refine (evn_adv 2 (q' := (167, [some (.ref 52), some (.int l1), some (.int l2), some (.int v1), some (.int r5), some (.int r6), some (.int r7), some (.int r8), some (.int r9)], [.int (jn 1)], M11)) rfl).trans ?_
              exact e_iretz (hf := rfl)
    · refine (evn_adv 1 (q' := (37, [some (.ref 52), some (.int l1), some (.int l2), some (.int v1), none, none, none, none, none], [.int (jn 0)], M4)) rfl).trans ?_
      exact e_iretz (hf := rfl)
  · refine (evn_adv 1 (q' := (37, [some (.ref 52), some (.int l1), some (.int l2), some (.int v1), none, none, none, none, none], [.int (jn 0)], M)) rfl).trans ?_
    exact e_iretz (hf := rfl)
/-- TermStrategiesModel.same(II)I -/
noncomputable abbrev E_106 (d : Nat) : PQ → PO := evn (rnn k_106 lay none (pcl GG lay d) 1)
theorem q_106 (d : Nat) (l1 : Int32) (l2 : Int32) (M : PM) : pcl GG lay (d + 1) 106 [.ref 52, .int l1, .int l2] M = (kI (pcl GG lay d 72 [.ref 52, .int l1] M) fun r1 M1 => (if r1 = jn 0 then (kI (pcl GG lay d 69 [.ref 52, .int (jz 1)] M1) fun r2 M2 => (rI r2 M2)) else (kI (pcl GG lay d 72 [.ref 52, .int l2] M1) fun r2 M2 => (if r2 = jn 0 then (kI (pcl GG lay d 69 [.ref 52, .int (jz 1)] M2) fun r3 M3 => (rI r3 M3)) else (kI (pcl GG lay d 104 [.ref 54, .int ((jn 40) * l1), .ref 54, .int ((jn 40) * l2)] M2) fun r3 M3 => (if r3 = jn 0 then (kI (pcl GG lay d 105 [.ref 52, .int ((jn 40) * l1), .int ((jn 40) * l2)] M3) fun r4 M4 => (if r4 = jn 0 then (rI (jn 2) M4) else (rI (jn 1) M4))) else (rI (jn 0) M3))))))) := by
  refine (pcl_un (mt := t_106) (by decide) rfl (Nat.le_of_ble_eq_true rfl)).trans ?_
  show E_106 d (0, [some (.ref 52), some (.int l1), some (.int l2)], [], M) = _
  refine (evn_adv 2 (q' := (2, [some (.ref 52), some (.int l1), some (.int l2)], [.int l1, .ref 52], M)) rfl).trans ?_
  refine (e_kI (q := (2, [some (.ref 52), some (.int l1), some (.int l2)], [.int l1, .ref 52])) (q2 := (5, [some (.ref 52), some (.int l1), some (.int l2)], [])) (M := M) (o := (pcl GG lay d 72 [.ref 52, .int l1] M)) (hf := rfl) rfl rfl).trans ?_
  refine kI_in (fun r1 M1 => ?_)
  refine (e_if_eq (hf := rfl)).trans ?_
  refine ite_in ?_ ?_
  · refine (evn_adv 2 (q' := (18, [some (.ref 52), some (.int l1), some (.int l2)], [.int (jz 1), .ref 52], M1)) rfl).trans ?_
    refine (e_kI (q := (18, [some (.ref 52), some (.int l1), some (.int l2)], [.int (jz 1), .ref 52])) (q2 := (21, [some (.ref 52), some (.int l1), some (.int l2)], [])) (M := M1) (o := (pcl GG lay d 69 [.ref 52, .int (jz 1)] M1)) (hf := rfl) rfl rfl).trans ?_
    refine kI_in (fun r2 M2 => ?_)
    exact evn_end 1 rfl
  · refine (evn_adv 2 (q' := (10, [some (.ref 52), some (.int l1), some (.int l2)], [.int l2, .ref 52], M1)) rfl).trans ?_
    refine (e_kI (q := (10, [some (.ref 52), some (.int l1), some (.int l2)], [.int l2, .ref 52])) (q2 := (13, [some (.ref 52), some (.int l1), some (.int l2)], [])) (M := M1) (o := (pcl GG lay d 72 [.ref 52, .int l2] M1)) (hf := rfl) rfl rfl).trans ?_
    refine kI_in (fun r2 M2 => ?_)
    refine (e_if_ne (hf := rfl)).trans ?_
    refine ite_in ?_ ?_
    · refine (evn_adv 2 (q' := (18, [some (.ref 52), some (.int l1), some (.int l2)], [.int (jz 1), .ref 52], M2)) rfl).trans ?_
      refine (e_kI (q := (18, [some (.ref 52), some (.int l1), some (.int l2)], [.int (jz 1), .ref 52])) (q2 := (21, [some (.ref 52), some (.int l1), some (.int l2)], [])) (M := M2) (o := (pcl GG lay d 69 [.ref 52, .int (jz 1)] M2)) (hf := rfl) rfl rfl).trans ?_
      refine kI_in (fun r3 M3 => ?_)
      exact evn_end 1 rfl
    · refine (evn_adv 10 (q' := (38, [some (.ref 52), some (.int l1), some (.int l2)], [.int ((jn 40) * l2), .ref 54, .int ((jn 40) * l1), .ref 54], M2)) rfl).trans ?_
      refine (e_kI (q := (38, [some (.ref 52), some (.int l1), some (.int l2)], [.int ((jn 40) * l2), .ref 54, .int ((jn 40) * l1), .ref 54])) (q2 := (41, [some (.ref 52), some (.int l1), some (.int l2)], [])) (M := M2) (o := (pcl GG lay d 104 [.ref 54, .int ((jn 40) * l1), .ref 54, .int ((jn 40) * l2)] M2)) (hf := rfl) rfl rfl).trans ?_
      refine kI_in (fun r3 M3 => ?_)
      refine (e_if_eq (hf := rfl)).trans ?_
      refine ite_in ?_ ?_
      · refine (evn_adv 7 (q' := (55, [some (.ref 52), some (.int l1), some (.int l2)], [.int ((jn 40) * l2), .int ((jn 40) * l1), .ref 52], M3)) rfl).trans ?_
        refine (e_kI (q := (55, [some (.ref 52), some (.int l1), some (.int l2)], [.int ((jn 40) * l2), .int ((jn 40) * l1), .ref 52])) (q2 := (58, [some (.ref 52), some (.int l1), some (.int l2)], [])) (M := M3) (o := (pcl GG lay d 105 [.ref 52, .int ((jn 40) * l1), .int ((jn 40) * l2)] M3)) (hf := rfl) rfl rfl).trans ?_
        refine kI_in (fun r4 M4 => ?_)
        refine (e_if_eq (hf := rfl)).trans ?_
        refine ite_in ?_ ?_
        · refine (evn_adv 1 (q' := (66, [some (.ref 52), some (.int l1), some (.int l2)], [.int (jn 2)], M4)) rfl).trans ?_
          exact evn_end 1 rfl
        · refine (evn_adv 2 (q' := (66, [some (.ref 52), some (.int l1), some (.int l2)], [.int (jn 1)], M4)) rfl).trans ?_
          exact evn_end 1 rfl
      · refine (evn_adv 1 (q' := (45, [some (.ref 52), some (.int l1), some (.int l2)], [.int (jn 0)], M3)) rfl).trans ?_
        exact evn_end 1 rfl
/-- TermStrategiesModel.rule(II)I -/
noncomputable abbrev E_107 (d : Nat) : PQ → PO := evn (rnn k_107 lay none (pcl GG lay d) 1)
theorem q_107 (d : Nat) (l1 : Int32) (l2 : Int32) (M : PM) : pcl GG lay (d + 1) 107 [.ref 52, .int l1, .int l2] M = (kI (pcl GG lay d 72 [.ref 52, .int l1] M) fun r1 M1 => (if r1 = jn 0 then (kI (pcl GG lay d 69 [.ref 52, .int (jz 1)] M1) fun r2 M2 => (rI r2 M2)) else (kI (pcl GG lay d 72 [.ref 52, .int l2] M1) fun r2 M2 => (if r2 = jn 0 then (kI (pcl GG lay d 69 [.ref 52, .int (jz 1)] M2) fun r3 M3 => (rI r3 M3)) else (oB (aldI lay none M2 53 l1) fun v3 => (kI (pcl GG lay d 100 [.ref 54, .int ((jn 40) * l1), .int v3] M2) fun r4 M4 => (oB (aldI lay none M4 54 ((jn 40) * l1)) fun v5 => (kI (pcl GG lay d 76 [.int v5] M4) fun r6 M6 => (if r6 = jn 0 then (oB (aldI lay none M6 53 l2) fun v7 => (kI (pcl GG lay d 100 [.ref 54, .int ((jn 40) * l2), .int v7] M6) fun r8 M8 => (if (r8 &&& (r4 ^^^ (jz 1))) = jn 0 then (if (M8.1 52 3) = (jn 12) then (kI (pcl GG lay d 69 [.ref 52, .int (jz 7)] M8) fun r9 M9 => (rI r9 M9)) else (oB (aldI lay none M8 53 l1) fun v9 => (oB (astI lay M8 55 ((jn 2) * (M8.1 52 3)) v9) fun M10 => (oB (aldI lay none M10 53 l2) fun v11 => (oB (astI lay M10 55 (((jn 2) * (M10.1 52 3)) + (jn 1)) v11) fun M12 => E_107 d (141, [some (.ref 52), some (.int l1), some (.int l2), some (.int r4), some (.int (jn 0))], [], M12)))))) else (kI (pcl GG lay d 69 [.ref 52, .int (jz 6)] M8) fun r9 M9 => (rI r9 M9))))) else (kI (pcl GG lay d 69 [.ref 52, .int (jz 6)] M6) fun r7 M7 => (rI r7 M7))))))))))) := by
  refine (pcl_un (mt := t_107) (by decide) rfl (Nat.le_of_ble_eq_true rfl)).trans ?_
  show E_107 d (0, [some (.ref 52), some (.int l1), some (.int l2), none, none], [], M) = _
  refine (evn_adv 2 (q' := (2, [some (.ref 52), some (.int l1), some (.int l2), none, none], [.int l1, .ref 52], M)) rfl).trans ?_
  refine (e_kI (q := (2, [some (.ref 52), some (.int l1), some (.int l2), none, none], [.int l1, .ref 52])) (q2 := (5, [some (.ref 52), some (.int l1), some (.int l2), none, none], [])) (M := M) (o := (pcl GG lay d 72 [.ref 52, .int l1] M)) (hf := rfl) rfl rfl).trans ?_
  refine kI_in (fun r1 M1 => ?_)
  refine (e_if_eq (hf := rfl)).trans ?_
  refine ite_in ?_ ?_
  · refine (evn_adv 2 (q' := (18, [some (.ref 52), some (.int l1), some (.int l2), none, none], [.int (jz 1), .ref 52], M1)) rfl).trans ?_
    refine (e_kI (q := (18, [some (.ref 52), some (.int l1), some (.int l2), none, none], [.int (jz 1), .ref 52])) (q2 := (21, [some (.ref 52), some (.int l1), some (.int l2), none, none], [])) (M := M1) (o := (pcl GG lay d 69 [.ref 52, .int (jz 1)] M1)) (hf := rfl) rfl rfl).trans ?_
    refine kI_in (fun r2 M2 => ?_)
    exact evn_end 1 rfl
  · refine (evn_adv 2 (q' := (10, [some (.ref 52), some (.int l1), some (.int l2), none, none], [.int l2, .ref 52], M1)) rfl).trans ?_
    refine (e_kI (q := (10, [some (.ref 52), some (.int l1), some (.int l2), none, none], [.int l2, .ref 52])) (q2 := (13, [some (.ref 52), some (.int l1), some (.int l2), none, none], [])) (M := M1) (o := (pcl GG lay d 72 [.ref 52, .int l2] M1)) (hf := rfl) rfl rfl).trans ?_
    refine kI_in (fun r2 M2 => ?_)
    refine (e_if_ne (hf := rfl)).trans ?_
    refine ite_in ?_ ?_
    · refine (evn_adv 2 (q' := (18, [some (.ref 52), some (.int l1), some (.int l2), none, none], [.int (jz 1), .ref 52], M2)) rfl).trans ?_
      refine (e_kI (q := (18, [some (.ref 52), some (.int l1), some (.int l2), none, none], [.int (jz 1), .ref 52])) (q2 := (21, [some (.ref 52), some (.int l1), some (.int l2), none, none], [])) (M := M2) (o := (pcl GG lay d 69 [.ref 52, .int (jz 1)] M2)) (hf := rfl) rfl rfl).trans ?_
      refine kI_in (fun r3 M3 => ?_)
      exact evn_end 1 rfl
    · refine (evn_adv 8 (q' := (35, [some (.ref 52), some (.int l1), some (.int l2), none, none], [.int l1, .ref 53, .int ((jn 40) * l1), .ref 54], M2)) rfl).trans ?_
      refine (e_oB (q := (35, [some (.ref 52), some (.int l1), some (.int l2), none, none], [.int l1, .ref 53, .int ((jn 40) * l1), .ref 54], M2)) (o := (aldI lay none M2 53 l1)) (f := fun v3 => (36, [some (.ref 52), some (.int l1), some (.int l2), none, none], [.int v3, .int ((jn 40) * l1), .ref 54], M2)) (hf := rfl) rfl).trans ?_
      refine oB_in (fun v3 => ?_)
      refine (e_kI (q := (36, [some (.ref 52), some (.int l1), some (.int l2), none, none], [.int v3, .int ((jn 40) * l1), .ref 54])) (q2 := (39, [some (.ref 52), some (.int l1), some (.int l2), none, none], [])) (M := M2) (o := (pcl GG lay d 100 [.ref 54, .int ((jn 40) * l1), .int v3] M2)) (hf := rfl) rfl rfl).trans ?_
      refine kI_in (fun r4 M4 => ?_)
      refine (evn_adv 6 (q' := (48, [some (.ref 52), some (.int l1), some (.int l2), some (.int r4), none], [.int ((jn 40) * l1), .ref 54], M4)) rfl).trans ?_
      refine (e_oB (q := (48, [some (.ref 52), some (.int l1), some (.int l2), some (.int r4), none], [.int ((jn 40) * l1), .ref 54], M4)) (o := (aldI lay none M4 54 ((jn 40) * l1))) (f := fun v5 => (49, [some (.ref 52), some (.int l1), some (.int l2), some (.int r4), none], [.int v5], M4)) (hf := rfl) rfl).trans ?_
      refine oB_in (fun v5 => ?_)
      refine (e_kI (q := (49, [some (.ref 52), some (.int l1), some (.int l2), some (.int r4), none], [.int v5])) (q2 := (52, [some (.ref 52), some (.int l1), some (.int l2), some (.int r4), none], [])) (M := M4) (o := (pcl GG lay d 76 [.int v5] M4)) (hf := rfl) rfl rfl).trans ?_
      refine kI_in (fun r6 M6 => ?_)
      refine (e_if_ne (hf := rfl)).trans ?_
      refine ite_in ?_ ?_
      · refine (evn_adv 8 (q' := (68, [some (.ref 52), some (.int l1), some (.int l2), some (.int r4), none], [.int l2, .ref 53, .int ((jn 40) * l2), .ref 54], M6)) rfl).trans ?_
        refine (e_oB (q := (68, [some (.ref 52), some (.int l1), some (.int l2), some (.int r4), none], [.int l2, .ref 53, .int ((jn 40) * l2), .ref 54], M6)) (o := (aldI lay none M6 53 l2)) (f := fun v7 => (69, [some (.ref 52), some (.int l1), some (.int l2), some (.int r4), none], [.int v7, .int ((jn 40) * l2), .ref 54], M6)) (hf := rfl) rfl).trans ?_
        refine oB_in (fun v7 => ?_)
        refine (e_kI (q := (69, [some (.ref 52), some (.int l1), some (.int l2), some (.int r4), none], [.int v7, .int ((jn 40) * l2), .ref 54])) (q2 := (72, [some (.ref 52), some (.int l1), some (.int l2), some (.int r4), none], [])) (M := M6) (o := (pcl GG lay d 100 [.ref 54, .int ((jn 40) * l2), .int v7] M6)) (hf := rfl) rfl rfl).trans ?_
        refine kI_in (fun r8 M8 => ?_)
        refine (evn_adv 4 (q' := (76, [some (.ref 52), some (.int l1), some (.int l2), some (.int r4), none], [.int (r8 &&& (r4 ^^^ (jz 1)))], M8)) rfl).trans ?_
        refine (e_if_eq (hf := rfl)).trans ?_
        refine ite_in ?_ ?_
        · refine (evn_adv 3 (q' := (92, [some (.ref 52), some (.int l1), some (.int l2), some (.int r4), none], [.int (jn 12), .int (M8.1 52 3)], M8)) rfl).trans ?_
          refine (e_ic_ne (hf := rfl)).trans ?_
          refine ite_in ?_ ?_
          · refine (evn_adv 2 (q' := (98, [some (.ref 52), some (.int l1), some (.int l2), some (.int r4), none], [.int (jz 7), .ref 52], M8)) rfl).trans ?_
            refine (e_kI (q := (98, [some (.ref 52), some (.int l1), some (.int l2), some (.int r4), none], [.int (jz 7), .ref 52])) (q2 := (101, [some (.ref 52), some (.int l1), some (.int l2), some (.int r4), none], [])) (M := M8) (o := (pcl GG lay d 69 [.ref 52, .int (jz 7)] M8)) (hf := rfl) rfl rfl).trans ?_
            refine kI_in (fun r9 M9 => ?_)
            exact evn_end 1 rfl
          · refine (evn_adv 9 (q' := (117, [some (.ref 52), some (.int l1), some (.int l2), some (.int r4), none], [.int l1, .ref 53, .int ((jn 2) * (M8.1 52 3)), .ref 55], M8)) rfl).trans ?_
            refine (e_oB (q := (117, [some (.ref 52), some (.int l1), some (.int l2), some (.int r4), none], [.int l1, .ref 53, .int ((jn 2) * (M8.1 52 3)), .ref 55], M8)) (o := (aldI lay none M8 53 l1)) (f := fun v9 => (118, [some (.ref 52), some (.int l1), some (.int l2), some (.int r4), none], [.int v9, .int ((jn 2) * (M8.1 52 3)), .ref 55], M8)) (hf := rfl) rfl).trans ?_
            refine oB_in (fun v9 => ?_)
            refine (e_oB (q := (118, [some (.ref 52), some (.int l1), some (.int l2), some (.int r4), none], [.int v9, .int ((jn 2) * (M8.1 52 3)), .ref 55], M8)) (o := (astI lay M8 55 ((jn 2) * (M8.1 52 3)) v9)) (f := fun M10 => (119, [some (.ref 52), some (.int l1), some (.int l2), some (.int r4), none], [], M10)) (hf := rfl) rfl).trans ?_
            refine oB_in (fun M10 => ?_)
            refine (evn_adv 11 (q' := (136, [some (.ref 52), some (.int l1), some (.int l2), some (.int r4), none], [.int l2, .ref 53, .int (((jn 2) * (M10.1 52 3)) + (jn 1)), .ref 55], M10)) rfl).trans ?_
            refine (e_oB (q := (136, [some (.ref 52), some (.int l1), some (.int l2), some (.int r4), none], [.int l2, .ref 53, .int (((jn 2) * (M10.1 52 3)) + (jn 1)), .ref 55], M10)) (o := (aldI lay none M10 53 l2)) (f := fun v11 => (137, [some (.ref 52), some (.int l1), some (.int l2), some (.int r4), none], [.int v11, .int (((jn 2) * (M10.1 52 3)) + (jn 1)), .ref 55], M10)) (hf := rfl) rfl).trans ?_
            refine oB_in (fun v11 => ?_)
            refine (e_oB (q := (137, [some (.ref 52), some (.int l1), some (.int l2), some (.int r4), none], [.int v11, .int (((jn 2) * (M10.1 52 3)) + (jn 1)), .ref 55], M10)) (o := (astI lay M10 55 (((jn 2) * (M10.1 52 3)) + (jn 1)) v11)) (f := fun M12 => (138, [some (.ref 52), some (.int l1), some (.int l2), some (.int r4), none], [], M12)) (hf := rfl) rfl).trans ?_
            refine oB_in (fun M12 => ?_)
            refine (evn_adv 2 (q' := (141, [some (.ref 52), some (.int l1), some (.int l2), some (.int r4), some (.int (jn 0))], [], M12)) rfl).trans ?_
            rfl
        · refine (evn_adv 2 (q' := (82, [some (.ref 52), some (.int l1), some (.int l2), some (.int r4), none], [.int (jz 6), .ref 52], M8)) rfl).trans ?_
          refine (e_kI (q := (82, [some (.ref 52), some (.int l1), some (.int l2), some (.int r4), none], [.int (jz 6), .ref 52])) (q2 := (85, [some (.ref 52), some (.int l1), some (.int l2), some (.int r4), none], [])) (M := M8) (o := (pcl GG lay d 69 [.ref 52, .int (jz 6)] M8)) (hf := rfl) rfl rfl).trans ?_
          refine kI_in (fun r9 M9 => ?_)
          exact evn_end 1 rfl
      · refine (evn_adv 2 (q' := (82, [some (.ref 52), some (.int l1), some (.int l2), some (.int r4), none], [.int (jz 6), .ref 52], M6)) rfl).trans ?_
        refine (e_kI (q := (82, [some (.ref 52), some (.int l1), some (.int l2), some (.int r4), none], [.int (jz 6), .ref 52])) (q2 := (85, [some (.ref 52), some (.int l1), some (.int l2), some (.int r4), none], [])) (M := M6) (o := (pcl GG lay d 69 [.ref 52, .int (jz 6)] M6)) (hf := rfl) rfl rfl).trans ?_
        refine kI_in (fun r7 M7 => ?_)
        exact evn_end 1 rfl
theorem h_107_141 (d : Nat) (l1 : Int32) (l2 : Int32) (u3 : Option Value) (l4 : Int32) (M : PM) : E_107 d (141, [some (.ref 52), some (.int l1), some (.int l2), u3, some (.int l4)], [], M) = (if l4 < (jn 40) then (oB (aldI lay none M 54 (((jn 40) * l1) + l4)) fun v1 => (oB (astI lay M 56 (((jn 80) * (M.1 52 3)) + l4) v1) fun M2 => (oB (aldI lay none M2 54 (((jn 40) * l2) + l4)) fun v3 => (oB (astI lay M2 56 ((((jn 80) * (M2.1 52 3)) + (jn 40)) + l4) v3) fun M4 => E_107 d (141, [some (.ref 52), some (.int l1), some (.int l2), u3, some (.int (l4 + (jn 1)))], [], M4))))) else (wr (sI M 52 (va_up (M.1 52) 3 ((M.1 52 3) + (jn 1)))) fun M1 => (rI (M.1 52 3) M1))) := by
  refine (evn_adv 2 (q' := (145, [some (.ref 52), some (.int l1), some (.int l2), u3, some (.int l4)], [.int (jn 40), .int l4], M)) rfl).trans ?_
  refine (e_ic_ge (hf := rfl)).trans ?_
  refine ite_in ?_ ?_
  · refine (evn_adv 15 (q' := (173, [some (.ref 52), some (.int l1), some (.int l2), u3, some (.int l4)], [.int (((jn 40) * l1) + l4), .ref 54, .int (((jn 80) * (M.1 52 3)) + l4), .ref 56], M)) rfl).trans ?_
    refine (e_oB (q := (173, [some (.ref 52), some (.int l1), some (.int l2), u3, some (.int l4)], [.int (((jn 40) * l1) + l4), .ref 54, .int (((jn 80) * (M.1 52 3)) + l4), .ref 56], M)) (o := (aldI lay none M 54 (((jn 40) * l1) + l4))) (f := fun v1 => (174, [some (.ref 52), some (.int l1), some (.int l2), u3, some (.int l4)], [.int v1, .int (((jn 80) * (M.1 52 3)) + l4), .ref 56], M)) (hf := rfl) rfl).trans ?_
    refine oB_in (fun v1 => ?_)
    refine (e_oB (q := (174, [some (.ref 52), some (.int l1), some (.int l2), u3, some (.int l4)], [.int v1, .int (((jn 80) * (M.1 52 3)) + l4), .ref 56], M)) (o := (astI lay M 56 (((jn 80) * (M.1 52 3)) + l4) v1)) (f := fun M2 => (175, [some (.ref 52), some (.int l1), some (.int l2), u3, some (.int l4)], [], M2)) (hf := rfl) rfl).trans ?_
    refine oB_in (fun M2 => ?_)
    refine (evn_adv 17 (q' := (203, [some (.ref 52), some (.int l1), some (.int l2), u3, some (.int l4)], [.int (((jn 40) * l2) + l4), .ref 54, .int ((((jn 80) * (M2.1 52 3)) + (jn 40)) + l4), .ref 56], M2)) rfl).trans ?_
    refine (e_oB (q := (203, [some (.ref 52), some (.int l1), some (.int l2), u3, some (.int l4)], [.int (((jn 40) * l2) + l4), .ref 54, .int ((((jn 80) * (M2.1 52 3)) + (jn 40)) + l4), .ref 56], M2)) (o := (aldI lay none M2 54 (((jn 40) * l2) + l4))) (f := fun v3 => (204, [some (.ref 52), some (.int l1), some (.int l2), u3, some (.int l4)], [.int v3, .int ((((jn 80) * (M2.1 52 3)) + (jn 40)) + l4), .ref 56], M2)) (hf := rfl) rfl).trans ?_
    refine oB_in (fun v3 => ?_)
    refine (e_oB (q := (204, [some (.ref 52), some (.int l1), some (.int l2), u3, some (.int l4)], [.int v3, .int ((((jn 80) * (M2.1 52 3)) + (jn 40)) + l4), .ref 56], M2)) (o := (astI lay M2 56 ((((jn 80) * (M2.1 52 3)) + (jn 40)) + l4) v3)) (f := fun M4 => (205, [some (.ref 52), some (.int l1), some (.int l2), u3, some (.int l4)], [], M4)) (hf := rfl) rfl).trans ?_
    refine oB_in (fun M4 => ?_)
    refine (evn_adv 2 (q' := (141, [some (.ref 52), some (.int l1), some (.int l2), u3, some (.int (l4 + (jn 1)))], [], M4)) rfl).trans ?_
    rfl
  · refine (evn_adv 6 (q' := (219, [some (.ref 52), some (.int l1), some (.int l2), u3, some (.int l4)], [.int ((M.1 52 3) + (jn 1)), .ref 52, .int (M.1 52 3)], M)) rfl).trans ?_
    refine (evn_adv 1 (q' := (222, [some (.ref 52), some (.int l1), some (.int l2), u3, some (.int l4)], [.int (M.1 52 3)], (sI M 52 (va_up (M.1 52) 3 ((M.1 52 3) + (jn 1)))))) rfl).trans ?_
    refine wr_in (f := fun M1 => E_107 d (222, [some (.ref 52), some (.int l1), some (.int l2), u3, some (.int l4)], [.int (M.1 52 3)], M1)) (fun M1 => ?_)
    exact evn_end 1 rfl
/-- TermStrategiesModel.ruleOf(IZI)I -/
noncomputable abbrev E_108 (d : Nat) : PQ → PO := evn (rnn k_108 lay none (pcl GG lay d) 1)
theorem q_108 (d : Nat) (l1 : Int32) (l2 : Int32) (l3 : Int32) (M : PM) : pcl GG lay (d + 1) 108 [.ref 52, .int l1, .int l2, .int l3] M = (kI (pcl GG lay d 73 [.ref 52, .int l1] M) fun r1 M1 => (if r1 = jn 0 then (kI (pcl GG lay d 69 [.ref 52, .int (jz 1)] M1) fun r2 M2 => (rI r2 M2)) else (if l2 = jn 0 then (oB (aldI lay none M1 55 (((jn 2) * l1) + (jn 0))) fun v2 => (kI (pcl GG lay d 71 [.int l3, .int (jn 0), .int (v2 - (jn 1))] M1) fun r3 M3 => (if r3 = jn 0 then (kI (pcl GG lay d 69 [.ref 52, .int (jz 5)] M3) fun r4 M4 => (rI r4 M4)) else (oB (aldI lay none M3 56 ((((jn 80) * l1) + ((jn 40) * (jn 0))) + l3)) fun v4 => (rI v4 M3))))) else (oB (aldI lay none M1 55 (((jn 2) * l1) + (jn 1))) fun v2 => (kI (pcl GG lay d 71 [.int l3, .int (jn 0), .int (v2 - (jn 1))] M1) fun r3 M3 => (if r3 = jn 0 then (kI (pcl GG lay d 69 [.ref 52, .int (jz 5)] M3) fun r4 M4 => (rI r4 M4)) else (oB (aldI lay none M3 56 ((((jn 80) * l1) + ((jn 40) * (jn 1))) + l3)) fun v4 => (rI v4 M3)))))))) := by
  refine (pcl_un (mt := t_108) (by decide) rfl (Nat.le_of_ble_eq_true rfl)).trans ?_
  show E_108 d (0, [some (.ref 52), some (.int l1), some (.int l2), some (.int l3), none], [], M) = _
  refine (evn_adv 2 (q' := (2, [some (.ref 52), some (.int l1), some (.int l2), some (.int l3), none], [.int l1, .ref 52], M)) rfl).trans ?_
  refine (e_kI (q := (2, [some (.ref 52), some (.int l1), some (.int l2), some (.int l3), none], [.int l1, .ref 52])) (q2 := (5, [some (.ref 52), some (.int l1), some (.int l2), some (.int l3), none], [])) (M := M) (o := (pcl GG lay d 73 [.ref 52, .int l1] M)) (hf := rfl) rfl rfl).trans ?_
  refine kI_in (fun r1 M1 => ?_)
  refine (e_if_ne (hf := rfl)).trans ?_
  refine ite_in ?_ ?_
  · refine (evn_adv 2 (q' := (10, [some (.ref 52), some (.int l1), some (.int l2), some (.int l3), none], [.int (jz 1), .ref 52], M1)) rfl).trans ?_
    refine (e_kI (q := (10, [some (.ref 52), some (.int l1), some (.int l2), some (.int l3), none], [.int (jz 1), .ref 52])) (q2 := (13, [some (.ref 52), some (.int l1), some (.int l2), some (.int l3), none], [])) (M := M1) (o := (pcl GG lay d 69 [.ref 52, .int (jz 1)] M1)) (hf := rfl) rfl rfl).trans ?_
    refine kI_in (fun r2 M2 => ?_)
    exact evn_end 1 rfl
  · refine (evn_adv 1 (q' := (15, [some (.ref 52), some (.int l1), some (.int l2), some (.int l3), none], [.int l2], M1)) rfl).trans ?_
    refine (e_if_eq (hf := rfl)).trans ?_
    refine ite_in ?_ ?_
    · refine (evn_adv 11 (q' := (37, [some (.ref 52), some (.int l1), some (.int l2), some (.int l3), some (.int (jn 0))], [.int (((jn 2) * l1) + (jn 0)), .ref 55, .int (jn 0), .int l3], M1)) rfl).trans ?_
      refine (e_oB (q := (37, [some (.ref 52), some (.int l1), some (.int l2), some (.int l3), some (.int (jn 0))], [.int (((jn 2) * l1) + (jn 0)), .ref 55, .int (jn 0), .int l3], M1)) (o := (aldI lay none M1 55 (((jn 2) * l1) + (jn 0)))) (f := fun v2 => (38, [some (.ref 52), some (.int l1), some (.int l2), some (.int l3), some (.int (jn 0))], [.int v2, .int (jn 0), .int l3], M1)) (hf := rfl) rfl).trans ?_
      refine oB_in (fun v2 => ?_)
      refine (evn_adv 2 (q' := (40, [some (.ref 52), some (.int l1), some (.int l2), some (.int l3), some (.int (jn 0))], [.int (v2 - (jn 1)), .int (jn 0), .int l3], M1)) rfl).trans ?_
      refine (e_kI (q := (40, [some (.ref 52), some (.int l1), some (.int l2), some (.int l3), some (.int (jn 0))], [.int (v2 - (jn 1)), .int (jn 0), .int l3])) (q2 := (43, [some (.ref 52), some (.int l1), some (.int l2), some (.int l3), some (.int (jn 0))], [])) (M := M1) (o := (pcl GG lay d 71 [.int l3, .int (jn 0), .int (v2 - (jn 1))] M1)) (hf := rfl) rfl rfl).trans ?_
      refine kI_in (fun r3 M3 => ?_)
      refine (e_if_eq (hf := rfl)).trans ?_
      refine ite_in ?_ ?_
      · refine (evn_adv 2 (q' := (69, [some (.ref 52), some (.int l1), some (.int l2), some (.int l3), some (.int (jn 0))], [.int (jz 5), .ref 52], M3)) rfl).trans ?_
        refine (e_kI (q := (69, [some (.ref 52), some (.int l1), some (.int l2), some (.int l3), some (.int (jn 0))], [.int (jz 5), .ref 52])) (q2 := (72, [some (.ref 52), some (.int l1), some (.int l2), some (.int l3), some (.int (jn 0))], [])) (M := M3) (o := (pcl GG lay d 69 [.ref 52, .int (jz 5)] M3)) (hf := rfl) rfl rfl).trans ?_
        refine kI_in (fun r4 M4 => ?_)
        exact evn_end 1 rfl
      · refine (evn_adv 11 (q' := (62, [some (.ref 52), some (.int l1), some (.int l2), some (.int l3), some (.int (jn 0))], [.int ((((jn 80) * l1) + ((jn 40) * (jn 0))) + l3), .ref 56], M3)) rfl).trans ?_
        refine (e_oB (q := (62, [some (.ref 52), some (.int l1), some (.int l2), some (.int l3), some (.int (jn 0))], [.int ((((jn 80) * l1) + ((jn 40) * (jn 0))) + l3), .ref 56], M3)) (o := (aldI lay none M3 56 ((((jn 80) * l1) + ((jn 40) * (jn 0))) + l3))) (f := fun v4 => (63, [some (.ref 52), some (.int l1), some (.int l2), some (.int l3), some (.int (jn 0))], [.int v4], M3)) (hf := rfl) rfl).trans ?_
        refine oB_in (fun v4 => ?_)
        refine (evn_adv 1 (q' := (72, [some (.ref 52), some (.int l1), some (.int l2), some (.int l3), some (.int (jn 0))], [.int v4], M3)) rfl).trans ?_
        exact evn_end 1 rfl
    · refine (evn_adv 12 (q' := (37, [some (.ref 52), some (.int l1), some (.int l2), some (.int l3), some (.int (jn 1))], [.int (((jn 2) * l1) + (jn 1)), .ref 55, .int (jn 0), .int l3], M1)) rfl).trans ?_
      refine (e_oB (q := (37, [some (.ref 52), some (.int l1), some (.int l2), some (.int l3), some (.int (jn 1))], [.int (((jn 2) * l1) + (jn 1)), .ref 55, .int (jn 0), .int l3], M1)) (o := (aldI lay none M1 55 (((jn 2) * l1) + (jn 1)))) (f := fun v2 => (38, [some (.ref 52), some (.int l1), some (.int l2), some (.int l3), some (.int (jn 1))], [.int v2, .int (jn 0), .int l3], M1)) (hf := rfl) rfl).trans ?_
      refine oB_in (fun v2 => ?_)
      refine (evn_adv 2 (q' := (40, [some (.ref 52), some (.int l1), some (.int l2), some (.int l3), some (.int (jn 1))], [.int (v2 - (jn 1)), .int (jn 0), .int l3], M1)) rfl).trans ?_
      refine (e_kI (q := (40, [some (.ref 52), some (.int l1), some (.int l2), some (.int l3), some (.int (jn 1))], [.int (v2 - (jn 1)), .int (jn 0), .int l3])) (q2 := (43, [some (.ref 52), some (.int l1), some (.int l2), some (.int l3), some (.int (jn 1))], [])) (M := M1) (o := (pcl GG lay d 71 [.int l3, .int (jn 0), .int (v2 - (jn 1))] M1)) (hf := rfl) rfl rfl).trans ?_
      refine kI_in (fun r3 M3 => ?_)
      refine (e_if_eq (hf := rfl)).trans ?_
      refine ite_in ?_ ?_
      · refine (evn_adv 2 (q' := (69, [some (.ref 52), some (.int l1), some (.int l2), some (.int l3), some (.int (jn 1))], [.int (jz 5), .ref 52], M3)) rfl).trans ?_
        refine (e_kI (q := (69, [some (.ref 52), some (.int l1), some (.int l2), some (.int l3), some (.int (jn 1))], [.int (jz 5), .ref 52])) (q2 := (72, [some (.ref 52), some (.int l1), some (.int l2), some (.int l3), some (.int (jn 1))], [])) (M := M3) (o := (pcl GG lay d 69 [.ref 52, .int (jz 5)] M3)) (hf := rfl) rfl rfl).trans ?_
        refine kI_in (fun r4 M4 => ?_)
        exact evn_end 1 rfl
      · refine (evn_adv 11 (q' := (62, [some (.ref 52), some (.int l1), some (.int l2), some (.int l3), some (.int (jn 1))], [.int ((((jn 80) * l1) + ((jn 40) * (jn 1))) + l3), .ref 56], M3)) rfl).trans ?_
        refine (e_oB (q := (62, [some (.ref 52), some (.int l1), some (.int l2), some (.int l3), some (.int (jn 1))], [.int ((((jn 80) * l1) + ((jn 40) * (jn 1))) + l3), .ref 56], M3)) (o := (aldI lay none M3 56 ((((jn 80) * l1) + ((jn 40) * (jn 1))) + l3))) (f := fun v4 => (63, [some (.ref 52), some (.int l1), some (.int l2), some (.int l3), some (.int (jn 1))], [.int v4], M3)) (hf := rfl) rfl).trans ?_
        refine oB_in (fun v4 => ?_)
        refine (evn_adv 1 (q' := (72, [some (.ref 52), some (.int l1), some (.int l2), some (.int l3), some (.int (jn 1))], [.int v4], M3)) rfl).trans ?_
        exact evn_end 1 rfl
/-- TermStrategiesModel.bindsTo(III)Z -/
noncomputable abbrev E_109 (d : Nat) : PQ → PO := evn (rnn k_109 lay none (pcl GG lay d) 2)
theorem q_109 (d : Nat) (l1 : Int32) (l2 : Int32) (l3 : Int32) (M : PM) : pcl GG lay (d + 1) 109 [.ref 52, .int l1, .int l2, .int l3] M = (oB (aldI lay none M 68 l1) fun v1 => (if v1 = (jz 1) then (oB (astI lay M 68 l1 l2) fun M2 => (kI (pcl GG lay d 112 [.ref 52, .int l3] M2) fun r3 M3 => (if r3 = jn 0 then (oB (astI lay M3 68 l1 (jz 1)) fun M4 => (rZ (jn 0) M4)) else (rZ (jn 1) M3)))) else (oB (aldI lay none M 68 l1) fun v2 => (kI (pcl GG lay d 104 [.ref 65, .int v2, .ref 65, .int l2] M) fun r3 M3 => (if r3 = jn 0 then (rZ (jn 0) M3) else (kI (pcl GG lay d 112 [.ref 52, .int l3] M3) fun r4 M4 => (if r4 = jn 0 then (rZ (jn 0) M4) else (rZ (jn 1) M4)))))))) := by
  refine (pcl_un (mt := t_109) (by decide) rfl (Nat.le_of_ble_eq_true rfl)).trans ?_
  show E_109 d (0, [some (.ref 52), some (.int l1), some (.int l2), some (.int l3)], [], M) = _
  refine (evn_adv 3 (q' := (5, [some (.ref 52), some (.int l1), some (.int l2), some (.int l3)], [.int l1, .ref 68], M)) rfl).trans ?_
  refine (e_oB (q := (5, [some (.ref 52), some (.int l1), some (.int l2), some (.int l3)], [.int l1, .ref 68], M)) (o := (aldI lay none M 68 l1)) (f := fun v1 => (6, [some (.ref 52), some (.int l1), some (.int l2), some (.int l3)], [.int v1], M)) (hf := rfl) rfl).trans ?_
  refine oB_in (fun v1 => ?_)
  refine (evn_adv 1 (q' := (7, [some (.ref 52), some (.int l1), some (.int l2), some (.int l3)], [.int (jz 1), .int v1], M)) rfl).trans ?_
  refine (e_ic_eq (hf := rfl)).trans ?_
  refine ite_in ?_ ?_
  · refine (evn_adv 4 (q' := (51, [some (.ref 52), some (.int l1), some (.int l2), some (.int l3)], [.int l2, .int l1, .ref 68], M)) rfl).trans ?_
    refine (e_oB (q := (51, [some (.ref 52), some (.int l1), some (.int l2), some (.int l3)], [.int l2, .int l1, .ref 68], M)) (o := (astI lay M 68 l1 l2)) (f := fun M2 => (52, [some (.ref 52), some (.int l1), some (.int l2), some (.int l3)], [], M2)) (hf := rfl) rfl).trans ?_
    refine oB_in (fun M2 => ?_)
    refine (evn_adv 2 (q' := (54, [some (.ref 52), some (.int l1), some (.int l2), some (.int l3)], [.int l3, .ref 52], M2)) rfl).trans ?_
    refine (e_kI (q := (54, [some (.ref 52), some (.int l1), some (.int l2), some (.int l3)], [.int l3, .ref 52])) (q2 := (57, [some (.ref 52), some (.int l1), some (.int l2), some (.int l3)], [])) (M := M2) (o := (pcl GG lay d 112 [.ref 52, .int l3] M2)) (hf := rfl) rfl rfl).trans ?_
    refine kI_in (fun r3 M3 => ?_)
    refine (e_if_eq (hf := rfl)).trans ?_
    refine ite_in ?_ ?_
    · refine (evn_adv 4 (q' := (68, [some (.ref 52), some (.int l1), some (.int l2), some (.int l3)], [.int (jz 1), .int l1, .ref 68], M3)) rfl).trans ?_
      refine (e_oB (q := (68, [some (.ref 52), some (.int l1), some (.int l2), some (.int l3)], [.int (jz 1), .int l1, .ref 68], M3)) (o := (astI lay M3 68 l1 (jz 1))) (f := fun M4 => (69, [some (.ref 52), some (.int l1), some (.int l2), some (.int l3)], [], M4)) (hf := rfl) rfl).trans ?_
      refine oB_in (fun M4 => ?_)
      refine (evn_adv 1 (q' := (70, [some (.ref 52), some (.int l1), some (.int l2), some (.int l3)], [.int (jn 0)], M4)) rfl).trans ?_
      exact e_iretz (hf := rfl)
    · refine (evn_adv 1 (q' := (61, [some (.ref 52), some (.int l1), some (.int l2), some (.int l3)], [.int (jn 1)], M3)) rfl).trans ?_
      exact e_iretz (hf := rfl)
  · refine (evn_adv 5 (q' := (19, [some (.ref 52), some (.int l1), some (.int l2), some (.int l3)], [.int l1, .ref 68, .ref 65], M)) rfl).trans ?_
    refine (e_oB (q := (19, [some (.ref 52), some (.int l1), some (.int l2), some (.int l3)], [.int l1, .ref 68, .ref 65], M)) (o := (aldI lay none M 68 l1)) (f := fun v2 => (20, [some (.ref 52), some (.int l1), some (.int l2), some (.int l3)], [.int v2, .ref 65], M)) (hf := rfl) rfl).trans ?_
    refine oB_in (fun v2 => ?_)
    refine (evn_adv 3 (q' := (25, [some (.ref 52), some (.int l1), some (.int l2), some (.int l3)], [.int l2, .ref 65, .int v2, .ref 65], M)) rfl).trans ?_
    refine (e_kI (q := (25, [some (.ref 52), some (.int l1), some (.int l2), some (.int l3)], [.int l2, .ref 65, .int v2, .ref 65])) (q2 := (28, [some (.ref 52), some (.int l1), some (.int l2), some (.int l3)], [])) (M := M) (o := (pcl GG lay d 104 [.ref 65, .int v2, .ref 65, .int l2] M)) (hf := rfl) rfl rfl).trans ?_
    refine kI_in (fun r3 M3 => ?_)
    refine (e_if_eq (hf := rfl)).trans ?_
    refine ite_in ?_ ?_
    · refine (evn_adv 1 (q' := (44, [some (.ref 52), some (.int l1), some (.int l2), some (.int l3)], [.int (jn 0)], M3)) rfl).trans ?_
      exact e_iretz (hf := rfl)
    · refine (evn_adv 2 (q' := (33, [some (.ref 52), some (.int l1), some (.int l2), some (.int l3)], [.int l3, .ref 52], M3)) rfl).trans ?_
      refine (e_kI (q := (33, [some (.ref 52), some (.int l1), some (.int l2), some (.int l3)], [.int l3, .ref 52])) (q2 := (36, [some (.ref 52), some (.int l1), some (.int l2), some (.int l3)], [])) (M := M3) (o := (pcl GG lay d 112 [.ref 52, .int l3] M3)) (hf := rfl) rfl rfl).trans ?_
      refine kI_in (fun r4 M4 => ?_)
      refine (e_if_eq (hf := rfl)).trans ?_
      refine ite_in ?_ ?_
      · refine (evn_adv 1 (q' := (44, [some (.ref 52), some (.int l1), some (.int l2), some (.int l3)], [.int (jn 0)], M4)) rfl).trans ?_
        exact e_iretz (hf := rfl)
      · refine (evn_adv 2 (q' := (44, [some (.ref 52), some (.int l1), some (.int l2), some (.int l3)], [.int (jn 1)], M4)) rfl).trans ?_
        exact e_iretz (hf := rfl)
/-- TermStrategiesModel.goal(III)V -/
noncomputable abbrev E_110 (d : Nat) : PQ → PO := evn (rnn k_110 lay none (pcl GG lay d) 0)
theorem q_110 (d : Nat) (l1 : Int32) (l2 : Int32) (l3 : Int32) (M : PM) : pcl GG lay (d + 1) 110 [.ref 52, .int l1, .int l2, .int l3] M = (oB (astI lay M 66 l1 l2) fun M1 => (oB (astI lay M1 67 l1 l3) fun M2 => (rV M2))) := by
  refine (pcl_un (mt := t_110) (by decide) rfl (Nat.le_of_ble_eq_true rfl)).trans ?_
  show E_110 d (0, [some (.ref 52), some (.int l1), some (.int l2), some (.int l3)], [], M) = _
  refine (evn_adv 4 (q' := (6, [some (.ref 52), some (.int l1), some (.int l2), some (.int l3)], [.int l2, .int l1, .ref 66], M)) rfl).trans ?_
  refine (e_oB (q := (6, [some (.ref 52), some (.int l1), some (.int l2), some (.int l3)], [.int l2, .int l1, .ref 66], M)) (o := (astI lay M 66 l1 l2)) (f := fun M1 => (7, [some (.ref 52), some (.int l1), some (.int l2), some (.int l3)], [], M1)) (hf := rfl) rfl).trans ?_
  refine oB_in (fun M1 => ?_)
  refine (evn_adv 4 (q' := (13, [some (.ref 52), some (.int l1), some (.int l2), some (.int l3)], [.int l3, .int l1, .ref 67], M1)) rfl).trans ?_
  refine (e_oB (q := (13, [some (.ref 52), some (.int l1), some (.int l2), some (.int l3)], [.int l3, .int l1, .ref 67], M1)) (o := (astI lay M1 67 l1 l3)) (f := fun M2 => (14, [some (.ref 52), some (.int l1), some (.int l2), some (.int l3)], [], M2)) (hf := rfl) rfl).trans ?_
  refine oB_in (fun M2 => ?_)
  exact evn_end 1 rfl
/-- TermStrategiesModel.bothMatch(IIIZ)Z -/
noncomputable abbrev E_111 (d : Nat) : PQ → PO := evn (rnn k_111 lay none (pcl GG lay d) 2)
theorem q_111 (d : Nat) (l1 : Int32) (l2 : Int32) (l3 : Int32) (l4 : Int32) (M : PM) : pcl GG lay (d + 1) 111 [.ref 52, .int l1, .int l2, .int l3, .int l4] M = (if M.1 52 20 < 0 then none else (kI (pcl GG lay d 79 [.ref (M.1 52 20).toNatClampNeg, .int l2, .int (jn 1)] M) fun r1 M1 => (if l4 = jn 0 then (kI (pcl GG lay d 79 [.ref 65, .int l3, .int (jn 1)] M1) fun r2 M2 => (kV (pcl GG lay d 110 [.ref 52, .int l1, .int r1, .int r2] M2) fun M3 => (if M3.1 52 20 < 0 then none else (kI (pcl GG lay d 79 [.ref (M3.1 52 20).toNatClampNeg, .int l2, .int (jn 0)] M3) fun r4 M4 => (if l4 = jn 0 then (kI (pcl GG lay d 79 [.ref 65, .int l3, .int (jn 0)] M4) fun r5 M5 => (kV (pcl GG lay d 110 [.ref 52, .int (l1 + (jn 1)), .int r4, .int r5] M5) fun M6 => (kI (pcl GG lay d 112 [.ref 52, .int (l1 + (jn 2))] M6) fun r7 M7 => (rZ r7 M7)))) else (kI (pcl GG lay d 79 [.ref 65, .int l3, .int (jn 1)] M4) fun r5 M5 => (kV (pcl GG lay d 110 [.ref 52, .int (l1 + (jn 1)), .int r4, .int r5] M5) fun M6 => (kI (pcl GG lay d 112 [.ref 52, .int (l1 + (jn 2))] M6) fun r7 M7 => (rZ r7 M7))))))))) else (kI (pcl GG lay d 79 [.ref 65, .int l3, .int (jn 0)] M1) fun r2 M2 => (kV (pcl GG lay d 110 [.ref 52, .int l1, .int r1, .int r2] M2) fun M3 => (if M3.1 52 20 < 0 then none else (kI (pcl GG lay d 79 [.ref (M3.1 52 20).toNatClampNeg, .int l2, .int (jn 0)] M3) fun r4 M4 => (if l4 = jn 0 then (kI (pcl GG lay d 79 [.ref 65, .int l3, .int (jn 0)] M4) fun r5 M5 => (kV (pcl GG lay d 110 [.ref 52, .int (l1 + (jn 1)), .int r4, .int r5] M5) fun M6 => (kI (pcl GG lay d 112 [.ref 52, .int (l1 + (jn 2))] M6) fun r7 M7 => (rZ r7 M7)))) else (kI (pcl GG lay d 79 [.ref 65, .int l3, .int (jn 1)] M4) fun r5 M5 => (kV (pcl GG lay d 110 [.ref 52, .int (l1 + (jn 1)), .int r4, .int r5] M5) fun M6 => (kI (pcl GG lay d 112 [.ref 52, .int (l1 + (jn 2))] M6) fun r7 M7 => (rZ r7 M7)))))))))))) := by
  refine (pcl_un (mt := t_111) (by decide) rfl (Nat.le_of_ble_eq_true rfl)).trans ?_
  show E_111 d (0, [some (.ref 52), some (.int l1), some (.int l2), some (.int l3), some (.int l4)], [], M) = _
  refine (evn_adv 3 (q' := (3, [some (.ref 52), some (.int l1), some (.int l2), some (.int l3), some (.int l4)], [.ref 52, .int l1, .ref 52], M)) rfl).trans ?_
  refine (e_getr (k := 52) (r1 := 11) (j := 20) (nx := 6) (st' := [.int l1, .ref 52]) rfl rfl).trans ?_
  refine ite_in rfl ?_
  refine (evn_adv 2 (q' := (8, [some (.ref 52), some (.int l1), some (.int l2), some (.int l3), some (.int l4)], [.int (jn 1), .int l2, .ref (M.1 52 20).toNatClampNeg, .int l1, .ref 52], M)) rfl).trans ?_
  refine (e_kI (q := (8, [some (.ref 52), some (.int l1), some (.int l2), some (.int l3), some (.int l4)], [.int (jn 1), .int l2, .ref (M.1 52 20).toNatClampNeg, .int l1, .ref 52])) (q2 := (11, [some (.ref 52), some (.int l1), some (.int l2), some (.int l3), some (.int l4)], [.int l1, .ref 52])) (M := M) (o := (pcl GG lay d 79 [.ref (M.1 52 20).toNatClampNeg, .int l2, .int (jn 1)] M)) (hf := rfl) rfl rfl).trans ?_
  refine kI_in (fun r1 M1 => ?_)
  refine (evn_adv 4 (q' := (18, [some (.ref 52), some (.int l1), some (.int l2), some (.int l3), some (.int l4)], [.int l4, .int l3, .ref 65, .int r1, .int l1, .ref 52], M1)) rfl).trans ?_
  refine (e_if_eq (hf := rfl)).trans ?_
  refine ite_in ?_ ?_
  · refine (evn_adv 1 (q' := (26, [some (.ref 52), some (.int l1), some (.int l2), some (.int l3), some (.int l4)], [.int (jn 1), .int l3, .ref 65, .int r1, .int l1, .ref 52], M1)) rfl).trans ?_
    refine (e_kI (q := (26, [some (.ref 52), some (.int l1), some (.int l2), some (.int l3), some (.int l4)], [.int (jn 1), .int l3, .ref 65, .int r1, .int l1, .ref 52])) (q2 := (29, [some (.ref 52), some (.int l1), some (.int l2), some (.int l3), some (.int l4)], [.int r1, .int l1, .ref 52])) (M := M1) (o := (pcl GG lay d 79 [.ref 65, .int l3, .int (jn 1)] M1)) (hf := rfl) rfl rfl).trans ?_
    refine kI_in (fun r2 M2 => ?_)
    refine (e_kV (q := (29, [some (.ref 52), some (.int l1), some (.int l2), some (.int l3), some (.int l4)], [.int r2, .int r1, .int l1, .ref 52])) (q2 := (32, [some (.ref 52), some (.int l1), some (.int l2), some (.int l3), some (.int l4)], [])) (M := M2) (o := (pcl GG lay d 110 [.ref 52, .int l1, .int r1, .int r2] M2)) (hf := rfl) rfl rfl).trans ?_
    refine kV_in (fun M3 => ?_)
    refine (evn_adv 5 (q' := (37, [some (.ref 52), some (.int l1), some (.int l2), some (.int l3), some (.int l4)], [.ref 52, .int (l1 + (jn 1)), .ref 52], M3)) rfl).trans ?_
    refine (e_getr (k := 52) (r1 := 11) (j := 20) (nx := 40) (st' := [.int (l1 + (jn 1)), .ref 52]) rfl rfl).trans ?_
    refine ite_in rfl ?_
    refine (evn_adv 2 (q' := (42, [some (.ref 52), some (.int l1), some (.int l2), some (.int l3), some (.int l4)], [.int (jn 0), .int l2, .ref (M3.1 52 20).toNatClampNeg, .int (l1 + (jn 1)), .ref 52], M3)) rfl).trans ?_
    refine (e_kI (q := (42, [some (.ref 52), some (.int l1), some (.int l2), some (.int l3), some (.int l4)], [.int (jn 0), .int l2, .ref (M3.1 52 20).toNatClampNeg, .int (l1 + (jn 1)), .ref 52])) (q2 := (45, [some (.ref 52), some (.int l1), some (.int l2), some (.int l3), some (.int l4)], [.int (l1 + (jn 1)), .ref 52])) (M := M3) (o := (pcl GG lay d 79 [.ref (M3.1 52 20).toNatClampNeg, .int l2, .int (jn 0)] M3)) (hf := rfl) rfl rfl).trans ?_
    refine kI_in (fun r4 M4 => ?_)
    refine (evn_adv 4 (q' := (52, [some (.ref 52), some (.int l1), some (.int l2), some (.int l3), some (.int l4)], [.int l4, .int l3, .ref 65, .int r4, .int (l1 + (jn 1)), .ref 52], M4)) rfl).trans ?_
    refine (e_if_eq (hf := rfl)).trans ?_
    refine ite_in ?_ ?_
    · refine (evn_adv 1 (q' := (60, [some (.ref 52), some (.int l1), some (.int l2), some (.int l3), some (.int l4)], [.int (jn 0), .int l3, .ref 65, .int r4, .int (l1 + (jn 1)), .ref 52], M4)) rfl).trans ?_
      refine (e_kI (q := (60, [some (.ref 52), some (.int l1), some (.int l2), some (.int l3), some (.int l4)], [.int (jn 0), .int l3, .ref 65, .int r4, .int (l1 + (jn 1)), .ref 52])) (q2 := (63, [some (.ref 52), some (.int l1), some (.int l2), some (.int l3), some (.int l4)], [.int r4, .int (l1 + (jn 1)), .ref 52])) (M := M4) (o := (pcl GG lay d 79 [.ref 65, .int l3, .int (jn 0)] M4)) (hf := rfl) rfl rfl).trans ?_
      refine kI_in (fun r5 M5 => ?_)
      refine (e_kV (q := (63, [some (.ref 52), some (.int l1), some (.int l2), some (.int l3), some (.int l4)], [.int r5, .int r4, .int (l1 + (jn 1)), .ref 52])) (q2 := (66, [some (.ref 52), some (.int l1), some (.int l2), some (.int l3), some (.int l4)], [])) (M := M5) (o := (pcl GG lay d 110 [.ref 52, .int (l1 + (jn 1)), .int r4, .int r5] M5)) (hf := rfl) rfl rfl).trans ?_
      refine kV_in (fun M6 => ?_)
      refine (evn_adv 4 (q' := (70, [some (.ref 52), some (.int l1), some (.int l2), some (.int l3), some (.int l4)], [.int (l1 + (jn 2)), .ref 52], M6)) rfl).trans ?_
      refine (e_kI (q := (70, [some (.ref 52), some (.int l1), some (.int l2), some (.int l3), some (.int l4)], [.int (l1 + (jn 2)), .ref 52])) (q2 := (73, [some (.ref 52), some (.int l1), some (.int l2), some (.int l3), some (.int l4)], [])) (M := M6) (o := (pcl GG lay d 112 [.ref 52, .int (l1 + (jn 2))] M6)) (hf := rfl) rfl rfl).trans ?_
      refine kI_in (fun r7 M7 => ?_)
      exact e_iretz (hf := rfl)
    · refine (evn_adv 2 (q' := (60, [some (.ref 52), some (.int l1), some (.int l2), some (.int l3), some (.int l4)], [.int (jn 1), .int l3, .ref 65, .int r4, .int (l1 + (jn 1)), .ref 52], M4)) rfl).trans ?_
      refine (e_kI (q := (60, [some (.ref 52), some (.int l1), some (.int l2), some (.int l3), some (.int l4)], [.int (jn 1), .int l3, .ref 65, .int r4, .int (l1 + (jn 1)), .ref 52])) (q2 := (63, [some (.ref 52), some (.int l1), some (.int l2), some (.int l3), some (.int l4)], [.int r4, .int (l1 + (jn 1)), .ref 52])) (M := M4) (o := (pcl GG lay d 79 [.ref 65, .int l3, .int (jn 1)] M4)) (hf := rfl) rfl rfl).trans ?_
      refine kI_in (fun r5 M5 => ?_)
      refine (e_kV (q := (63, [some (.ref 52), some (.int l1), some (.int l2), some (.int l3), some (.int l4)], [.int r5, .int r4, .int (l1 + (jn 1)), .ref 52])) (q2 := (66, [some (.ref 52), some (.int l1), some (.int l2), some (.int l3), some (.int l4)], [])) (M := M5) (o := (pcl GG lay d 110 [.ref 52, .int (l1 + (jn 1)), .int r4, .int r5] M5)) (hf := rfl) rfl rfl).trans ?_
      refine kV_in (fun M6 => ?_)
      refine (evn_adv 4 (q' := (70, [some (.ref 52), some (.int l1), some (.int l2), some (.int l3), some (.int l4)], [.int (l1 + (jn 2)), .ref 52], M6)) rfl).trans ?_
      refine (e_kI (q := (70, [some (.ref 52), some (.int l1), some (.int l2), some (.int l3), some (.int l4)], [.int (l1 + (jn 2)), .ref 52])) (q2 := (73, [some (.ref 52), some (.int l1), some (.int l2), some (.int l3), some (.int l4)], [])) (M := M6) (o := (pcl GG lay d 112 [.ref 52, .int (l1 + (jn 2))] M6)) (hf := rfl) rfl rfl).trans ?_
      refine kI_in (fun r7 M7 => ?_)
      exact e_iretz (hf := rfl)
  · refine (evn_adv 2 (q' := (26, [some (.ref 52), some (.int l1), some (.int l2), some (.int l3), some (.int l4)], [.int (jn 0), .int l3, .ref 65, .int r1, .int l1, .ref 52], M1)) rfl).trans ?_
    refine (e_kI (q := (26, [some (.ref 52), some (.int l1), some (.int l2), some (.int l3), some (.int l4)], [.int (jn 0), .int l3, .ref 65, .int r1, .int l1, .ref 52])) (q2 := (29, [some (.ref 52), some (.int l1), some (.int l2), some (.int l3), some (.int l4)], [.int r1, .int l1, .ref 52])) (M := M1) (o := (pcl GG lay d 79 [.ref 65, .int l3, .int (jn 0)] M1)) (hf := rfl) rfl rfl).trans ?_
    refine kI_in (fun r2 M2 => ?_)
    refine (e_kV (q := (29, [some (.ref 52), some (.int l1), some (.int l2), some (.int l3), some (.int l4)], [.int r2, .int r1, .int l1, .ref 52])) (q2 := (32, [some (.ref 52), some (.int l1), some (.int l2), some (.int l3), some (.int l4)], [])) (M := M2) (o := (pcl GG lay d 110 [.ref 52, .int l1, .int r1, .int r2] M2)) (hf := rfl) rfl rfl).trans ?_
    refine kV_in (fun M3 => ?_)
    refine (evn_adv 5 (q' := (37, [some (.ref 52), some (.int l1), some (.int l2), some (.int l3), some (.int l4)], [.ref 52, .int (l1 + (jn 1)), .ref 52], M3)) rfl).trans ?_
    refine (e_getr (k := 52) (r1 := 11) (j := 20) (nx := 40) (st' := [.int (l1 + (jn 1)), .ref 52]) rfl rfl).trans ?_
    refine ite_in rfl ?_
    refine (evn_adv 2 (q' := (42, [some (.ref 52), some (.int l1), some (.int l2), some (.int l3), some (.int l4)], [.int (jn 0), .int l2, .ref (M3.1 52 20).toNatClampNeg, .int (l1 + (jn 1)), .ref 52], M3)) rfl).trans ?_
    refine (e_kI (q := (42, [some (.ref 52), some (.int l1), some (.int l2), some (.int l3), some (.int l4)], [.int (jn 0), .int l2, .ref (M3.1 52 20).toNatClampNeg, .int (l1 + (jn 1)), .ref 52])) (q2 := (45, [some (.ref 52), some (.int l1), some (.int l2), some (.int l3), some (.int l4)], [.int (l1 + (jn 1)), .ref 52])) (M := M3) (o := (pcl GG lay d 79 [.ref (M3.1 52 20).toNatClampNeg, .int l2, .int (jn 0)] M3)) (hf := rfl) rfl rfl).trans ?_
    refine kI_in (fun r4 M4 => ?_)
    refine (evn_adv 4 (q' := (52, [some (.ref 52), some (.int l1), some (.int l2), some (.int l3), some (.int l4)], [.int l4, .int l3, .ref 65, .int r4, .int (l1 + (jn 1)), .ref 52], M4)) rfl).trans ?_
    refine (e_if_eq (hf := rfl)).trans ?_
    refine ite_in ?_ ?_
    · refine (evn_adv 1 (q' := (60, [some (.ref 52), some (.int l1), some (.int l2), some (.int l3), some (.int l4)], [.int (jn 0), .int l3, .ref 65, .int r4, .int (l1 + (jn 1)), .ref 52], M4)) rfl).trans ?_
      refine (e_kI (q := (60, [some (.ref 52), some (.int l1), some (.int l2), some (.int l3), some (.int l4)], [.int (jn 0), .int l3, .ref 65, .int r4, .int (l1 + (jn 1)), .ref 52])) (q2 := (63, [some (.ref 52), some (.int l1), some (.int l2), some (.int l3), some (.int l4)], [.int r4, .int (l1 + (jn 1)), .ref 52])) (M := M4) (o := (pcl GG lay d 79 [.ref 65, .int l3, .int (jn 0)] M4)) (hf := rfl) rfl rfl).trans ?_
      refine kI_in (fun r5 M5 => ?_)
      refine (e_kV (q := (63, [some (.ref 52), some (.int l1), some (.int l2), some (.int l3), some (.int l4)], [.int r5, .int r4, .int (l1 + (jn 1)), .ref 52])) (q2 := (66, [some (.ref 52), some (.int l1), some (.int l2), some (.int l3), some (.int l4)], [])) (M := M5) (o := (pcl GG lay d 110 [.ref 52, .int (l1 + (jn 1)), .int r4, .int r5] M5)) (hf := rfl) rfl rfl).trans ?_
      refine kV_in (fun M6 => ?_)
      refine (evn_adv 4 (q' := (70, [some (.ref 52), some (.int l1), some (.int l2), some (.int l3), some (.int l4)], [.int (l1 + (jn 2)), .ref 52], M6)) rfl).trans ?_
      refine (e_kI (q := (70, [some (.ref 52), some (.int l1), some (.int l2), some (.int l3), some (.int l4)], [.int (l1 + (jn 2)), .ref 52])) (q2 := (73, [some (.ref 52), some (.int l1), some (.int l2), some (.int l3), some (.int l4)], [])) (M := M6) (o := (pcl GG lay d 112 [.ref 52, .int (l1 + (jn 2))] M6)) (hf := rfl) rfl rfl).trans ?_
      refine kI_in (fun r7 M7 => ?_)
      exact e_iretz (hf := rfl)
    · refine (evn_adv 2 (q' := (60, [some (.ref 52), some (.int l1), some (.int l2), some (.int l3), some (.int l4)], [.int (jn 1), .int l3, .ref 65, .int r4, .int (l1 + (jn 1)), .ref 52], M4)) rfl).trans ?_
      refine (e_kI (q := (60, [some (.ref 52), some (.int l1), some (.int l2), some (.int l3), some (.int l4)], [.int (jn 1), .int l3, .ref 65, .int r4, .int (l1 + (jn 1)), .ref 52])) (q2 := (63, [some (.ref 52), some (.int l1), some (.int l2), some (.int l3), some (.int l4)], [.int r4, .int (l1 + (jn 1)), .ref 52])) (M := M4) (o := (pcl GG lay d 79 [.ref 65, .int l3, .int (jn 1)] M4)) (hf := rfl) rfl rfl).trans ?_
      refine kI_in (fun r5 M5 => ?_)
      refine (e_kV (q := (63, [some (.ref 52), some (.int l1), some (.int l2), some (.int l3), some (.int l4)], [.int r5, .int r4, .int (l1 + (jn 1)), .ref 52])) (q2 := (66, [some (.ref 52), some (.int l1), some (.int l2), some (.int l3), some (.int l4)], [])) (M := M5) (o := (pcl GG lay d 110 [.ref 52, .int (l1 + (jn 1)), .int r4, .int r5] M5)) (hf := rfl) rfl rfl).trans ?_
      refine kV_in (fun M6 => ?_)
      refine (evn_adv 4 (q' := (70, [some (.ref 52), some (.int l1), some (.int l2), some (.int l3), some (.int l4)], [.int (l1 + (jn 2)), .ref 52], M6)) rfl).trans ?_
      refine (e_kI (q := (70, [some (.ref 52), some (.int l1), some (.int l2), some (.int l3), some (.int l4)], [.int (l1 + (jn 2)), .ref 52])) (q2 := (73, [some (.ref 52), some (.int l1), some (.int l2), some (.int l3), some (.int l4)], [])) (M := M6) (o := (pcl GG lay d 112 [.ref 52, .int (l1 + (jn 2))] M6)) (hf := rfl) rfl rfl).trans ?_
      refine kI_in (fun r7 M7 => ?_)
      exact e_iretz (hf := rfl)
/-- TermStrategiesModel.solves(I)Z -/
noncomputable abbrev E_112 (d : Nat) : PQ → PO := evn (rnn k_112 lay none (pcl GG lay d) 2)
theorem q_112 (d : Nat) (l1 : Int32) (M : PM) : pcl GG lay (d + 1) 112 [.ref 52, .int l1] M = (if l1 = jn 0 then (rZ (jn 1) M) else (oB (aldI lay none M 66 (l1 - (jn 1))) fun v1 => (oB (aldI lay none M 67 (l1 - (jn 1))) fun v2 => (if M.1 52 20 < 0 then none else (oB (aldI lay none M (M.1 52 20).toNatClampNeg v1) fun v3 => (kI (pcl GG lay d 76 [.int v3] M) fun r4 M4 => (if r4 = jn 0 then (oB (aldI lay none M4 65 v2) fun v5 => (if v3 = v5 then (kI (pcl GG lay d 77 [.int v3] M4) fun r6 M6 => (if r6 = jn 0 then (kI (pcl GG lay d 112 [.ref 52, .int (l1 - (jn 1))] M6) fun r7 M7 => (if r7 = jn 0 then (kV (pcl GG lay d 110 [.ref 52, .int (l1 - (jn 1)), .int v1, .int v2] M7) fun M8 => (rZ r7 M8)) else (rZ r7 M7))) else (kI (pcl GG lay d 77 [.int v3] M6) fun r7 M7 => (if r7 = (jn 1) then (kV (pcl GG lay d 110 [.ref 52, .int (l1 - (jn 1)), .int (v1 + (jn 1)), .int (v2 + (jn 1))] M7) fun M8 => (kI (pcl GG lay d 112 [.ref 52, .int l1] M8) fun r9 M9 => (if r9 = jn 0 then (kV (pcl GG lay d 110 [.ref 52, .int (l1 - (jn 1)), .int v1, .int v2] M9) fun M10 => (rZ r9 M10)) else (rZ r9 M9)))) else (kI (pcl GG lay d 111 [.ref 52, .int (l1 - (jn 1)), .int v1, .int v2, .int (jn 0)] M7) fun r8 M8 => (if r8 = jn 0 then (if (((M8.1 52 21) >>> ((v3 - (jn 105)) &&& 31)) &&& (jn 1)) = (jn 1) then (kI (pcl GG lay d 111 [.ref 52, .int (l1 - (jn 1)), .int v1, .int v2, .int (jn 1)] M8) fun r9 M9 => (if r9 = jn 0 then (if (jn 0) = jn 0 then (kV (pcl GG lay d 110 [.ref 52, .int (l1 - (jn 1)), .int v1, .int v2] M9) fun M10 => (rZ (jn 0) M10)) else (rZ (jn 0) M9)) else (if (jn 1) = jn 0 then (kV (pcl GG lay d 110 [.ref 52, .int (l1 - (jn 1)), .int v1, .int v2] M9) fun M10 => (rZ (jn 1) M10)) else (rZ (jn 1) M9)))) else (if (jn 0) = jn 0 then (kV (pcl GG lay d 110 [.ref 52, .int (l1 - (jn 1)), .int v1, .int v2] M8) fun M9 => (rZ (jn 0) M9)) else (rZ (jn 0) M8))) else (if (jn 1) = jn 0 then (kV (pcl GG lay d 110 [.ref 52, .int (l1 - (jn 1)), .int v1, .int v2] M8) fun M9 => (rZ (jn 1) M9)) else (rZ (jn 1) M8)))))))) else (if (jn 0) = jn 0 then (kV (pcl GG lay d 110 [.ref 52, .int (l1 - (jn 1)), .int v1, .int v2] M4) fun M6 => (rZ (jn 0) M6)) else (rZ (jn 0) M4)))) else (kI (pcl GG lay d 109 [.ref 52, .int (v3 - (jn 117)), .int v2, .int (l1 - (jn 1))] M4) fun r5 M5 => (if r5 = jn 0 then (kV (pcl GG lay d 110 [.ref 52, .int (l1 - (jn 1)), .int v1, .int v2] M5) fun M6 => (rZ r5 M6)) else (rZ r5 M5)))))))))) := by
  refine (pcl_un (mt := t_112) (by decide) rfl (Nat.le_of_ble_eq_true rfl)).trans ?_
  show E_112 d (0, [some (.ref 52), some (.int l1), none, none, none, none, none], [], M) = _
  refine (evn_adv 1 (q' := (1, [some (.ref 52), some (.int l1), none, none, none, none, none], [.int l1], M)) rfl).trans ?_
  refine (e_if_ne (hf := rfl)).trans ?_
  refine ite_in ?_ ?_
  · refine (evn_adv 1 (q' := (5, [some (.ref 52), some (.int l1), none, none, none, none, none], [.int (jn 1)], M)) rfl).trans ?_
    exact e_iretz (hf := rfl)
  · refine (evn_adv 7 (q' := (15, [some (.ref 52), some (.int l1), some (.int (l1 - (jn 1))), none, none, none, none], [.int (l1 - (jn 1)), .ref 66], M)) rfl).trans ?_
    refine (e_oB (q := (15, [some (.ref 52), some (.int l1), some (.int (l1 - (jn 1))), none, none, none, none], [.int (l1 - (jn 1)), .ref 66], M)) (o := (aldI lay none M 66 (l1 - (jn 1)))) (f := fun v1 => (16, [some (.ref 52), some (.int l1), some (.int (l1 - (jn 1))), none, none, none, none], [.int v1], M)) (hf := rfl) rfl).trans ?_
    refine oB_in (fun v1 => ?_)
    refine (evn_adv 4 (q' := (22, [some (.ref 52), some (.int l1), some (.int (l1 - (jn 1))), some (.int v1), none, none, none], [.int (l1 - (jn 1)), .ref 67], M)) rfl).trans ?_
    refine (e_oB (q := (22, [some (.ref 52), some (.int l1), some (.int (l1 - (jn 1))), some (.int v1), none, none, none], [.int (l1 - (jn 1)), .ref 67], M)) (o := (aldI lay none M 67 (l1 - (jn 1)))) (f := fun v2 => (23, [some (.ref 52), some (.int l1), some (.int (l1 - (jn 1))), some (.int v1), none, none, none], [.int v2], M)) (hf := rfl) rfl).trans ?_
    refine oB_in (fun v2 => ?_)
    refine (evn_adv 2 (q' := (26, [some (.ref 52), some (.int l1), some (.int (l1 - (jn 1))), some (.int v1), some (.int v2), none, none], [.ref 52], M)) rfl).trans ?_
    refine (e_getr (k := 52) (r1 := 11) (j := 20) (nx := 29) (st' := []) rfl rfl).trans ?_
    refine ite_in rfl ?_
    refine (evn_adv 1 (q' := (30, [some (.ref 52), some (.int l1), some (.int (l1 - (jn 1))), some (.int v1), some (.int v2), none, none], [.int v1, .ref (M.1 52 20).toNatClampNeg], M)) rfl).trans ?_
    refine (e_oB (q := (30, [some (.ref 52), some (.int l1), some (.int (l1 - (jn 1))), some (.int v1), some (.int v2), none, none], [.int v1, .ref (M.1 52 20).toNatClampNeg], M)) (o := (aldI lay none M (M.1 52 20).toNatClampNeg v1)) (f := fun v3 => (31, [some (.ref 52), some (.int l1), some (.int (l1 - (jn 1))), some (.int v1), some (.int v2), none, none], [.int v3], M)) (hf := rfl) rfl).trans ?_
    refine oB_in (fun v3 => ?_)
    refine (evn_adv 2 (q' := (35, [some (.ref 52), some (.int l1), some (.int (l1 - (jn 1))), some (.int v1), some (.int v2), some (.int v3), none], [.int v3], M)) rfl).trans ?_
    refine (e_kI (q := (35, [some (.ref 52), some (.int l1), some (.int (l1 - (jn 1))), some (.int v1), some (.int v2), some (.int v3), none], [.int v3])) (q2 := (38, [some (.ref 52), some (.int l1), some (.int (l1 - (jn 1))), some (.int v1), some (.int v2), some (.int v3), none], [])) (M := M) (o := (pcl GG lay d 76 [.int v3] M)) (hf := rfl) rfl rfl).trans ?_
    refine kI_in (fun r4 M4 => ?_)
    refine (e_if_eq (hf := rfl)).trans ?_
    refine ite_in ?_ ?_
    · refine (evn_adv 4 (q' := (66, [some (.ref 52), some (.int l1), some (.int (l1 - (jn 1))), some (.int v1), some (.int v2), some (.int v3), none], [.int v2, .ref 65, .int v3], M4)) rfl).trans ?_
      refine (e_oB (q := (66, [some (.ref 52), some (.int l1), some (.int (l1 - (jn 1))), some (.int v1), some (.int v2), some (.int v3), none], [.int v2, .ref 65, .int v3], M4)) (o := (aldI lay none M4 65 v2)) (f := fun v5 => (67, [some (.ref 52), some (.int l1), some (.int (l1 - (jn 1))), some (.int v1), some (.int v2), some (.int v3), none], [.int v5, .int v3], M4)) (hf := rfl) rfl).trans ?_
      refine oB_in (fun v5 => ?_)
      refine (e_ic_eq (hf := rfl)).trans ?_
      refine ite_in ?_ ?_
      · refine (evn_adv 1 (q' := (78, [some (.ref 52), some (.int l1), some (.int (l1 - (jn 1))), some (.int v1), some (.int v2), some (.int v3), none], [.int v3], M4)) rfl).trans ?_
        refine (e_kI (q := (78, [some (.ref 52), some (.int l1), some (.int (l1 - (jn 1))), some (.int v1), some (.int v2), some (.int v3), none], [.int v3])) (q2 := (81, [some (.ref 52), some (.int l1), some (.int (l1 - (jn 1))), some (.int v1), some (.int v2), some (.int v3), none], [])) (M := M4) (o := (pcl GG lay d 77 [.int v3] M4)) (hf := rfl) rfl rfl).trans ?_
        refine kI_in (fun r6 M6 => ?_)
        refine (e_if_ne (hf := rfl)).trans ?_
        refine ite_in ?_ ?_
        · refine (evn_adv 2 (q' := (86, [some (.ref 52), some (.int l1), some (.int (l1 - (jn 1))), some (.int v1), some (.int v2), some (.int v3), none], [.int (l1 - (jn 1)), .ref 52], M6)) rfl).trans ?_
          refine (e_kI (q := (86, [some (.ref 52), some (.int l1), some (.int (l1 - (jn 1))), some (.int v1), some (.int v2), some (.int v3), none], [.int (l1 - (jn 1)), .ref 52])) (q2 := (89, [some (.ref 52), some (.int l1), some (.int (l1 - (jn 1))), some (.int v1), some (.int v2), some (.int v3), none], [])) (M := M6) (o := (pcl GG lay d 112 [.ref 52, .int (l1 - (jn 1))] M6)) (hf := rfl) rfl rfl).trans ?_
          refine kI_in (fun r7 M7 => ?_)
          refine (evn_adv 3 (q' := (174, [some (.ref 52), some (.int l1), some (.int (l1 - (jn 1))), some (.int v1), some (.int v2), some (.int v3), some (.int r7)], [.int r7], M7)) rfl).trans ?_
          refine (e_if_ne (hf := rfl)).trans ?_
          refine ite_in ?_ ?_
          · refine (evn_adv 4 (q' := (182, [some (.ref 52), some (.int l1), some (.int (l1 - (jn 1))), some (.int v1), some (.int v2), some (.int v3), some (.int r7)], [.int v2, .int v1, .int (l1 - (jn 1)), .ref 52], M7)) rfl).trans ?_
            refine (e_kV (q := (182, [some (.ref 52), some (.int l1), some (.int (l1 - (jn 1))), some (.int v1), some (.int v2), some (.int v3), some (.int r7)], [.int v2, .int v1, .int (l1 - (jn 1)), .ref 52])) (q2 := (185, [some (.ref 52), some (.int l1), some (.int (l1 - (jn 1))), some (.int v1), some (.int v2), some (.int v3), some (.int r7)], [])) (M := M7) (o := (pcl GG lay d 110 [.ref 52, .int (l1 - (jn 1)), .int v1, .int v2] M7)) (hf := rfl) rfl rfl).trans ?_
            refine kV_in (fun M8 => ?_)
            refine (evn_adv 1 (q' := (187, [some (.ref 52), some (.int l1), some (.int (l1 - (jn 1))), some (.int v1), some (.int v2), some (.int v3), some (.int r7)], [.int r7], M8)) rfl).trans ?_
            exact e_iretz (hf := rfl)
          · refine (evn_adv 1 (q' := (187, [some (.ref 52), some (.int l1), some (.int (l1 - (jn 1))), some (.int v1), some (.int v2), some (.int v3), some (.int r7)], [.int r7], M7)) rfl).trans ?_
            exact e_iretz (hf := rfl)
        · refine (evn_adv 1 (q' := (96, [some (.ref 52), some (.int l1), some (.int (l1 - (jn 1))), some (.int v1), some (.int v2), some (.int v3), none], [.int v3], M6)) rfl).trans ?_
          refine (e_kI (q := (96, [some (.ref 52), some (.int l1), some (.int (l1 - (jn 1))), some (.int v1), some (.int v2), some (.int v3), none], [.int v3])) (q2 := (99, [some (.ref 52), some (.int l1), some (.int (l1 - (jn 1))), some (.int v1), some (.int v2), some (.int v3), none], [])) (M := M6) (o := (pcl GG lay d 77 [.int v3] M6)) (hf := rfl) rfl rfl).trans ?_
          refine kI_in (fun r7 M7 => ?_)
          refine (evn_adv 1 (q' := (100, [some (.ref 52), some (.int l1), some (.int (l1 - (jn 1))), some (.int v1), some (.int v2), some (.int v3), none], [.int (jn 1), .int r7], M7)) rfl).trans ?_
          refine (e_ic_ne (hf := rfl)).trans ?_
          refine ite_in ?_ ?_
          · refine (evn_adv 8 (q' := (112, [some (.ref 52), some (.int l1), some (.int (l1 - (jn 1))), some (.int v1), some (.int v2), some (.int v3), none], [.int (v2 + (jn 1)), .int (v1 + (jn 1)), .int (l1 - (jn 1)), .ref 52], M7)) rfl).trans ?_
            refine (e_kV (q := (112, [some (.ref 52), some (.int l1), some (.int (l1 - (jn 1))), some (.int v1), some (.int v2), some (.int v3), none], [.int (v2 + (jn 1)), .int (v1 + (jn 1)), .int (l1 - (jn 1)), .ref 52])) (q2 := (115, [some (.ref 52), some (.int l1), some (.int (l1 - (jn 1))), some (.int v1), some (.int v2), some (.int v3), none], [])) (M := M7) (o := (pcl GG lay d 110 [.ref 52, .int (l1 - (jn 1)), .int (v1 + (jn 1)), .int (v2 + (jn 1))] M7)) (hf := rfl) rfl rfl).trans ?_
            refine kV_in (fun M8 => ?_)
            refine (evn_adv 2 (q' := (117, [some (.ref 52), some (.int l1), some (.int (l1 - (jn 1))), some (.int v1), some (.int v2), some (.int v3), none], [.int l1, .ref 52], M8)) rfl).trans ?_
            refine (e_kI (q := (117, [some (.ref 52), some (.int l1), some (.int (l1 - (jn 1))), some (.int v1), some (.int v2), some (.int v3), none], [.int l1, .ref 52])) (q2 := (120, [some (.ref 52), some (.int l1), some (.int (l1 - (jn 1))), some (.int v1), some (.int v2), some (.int v3), none], [])) (M := M8) (o := (pcl GG lay d 112 [.ref 52, .int l1] M8)) (hf := rfl) rfl rfl).trans ?_
            refine kI_in (fun r9 M9 => ?_)
            refine (evn_adv 3 (q' := (174, [some (.ref 52), some (.int l1), some (.int (l1 - (jn 1))), some (.int v1), some (.int v2), some (.int v3), some (.int r9)], [.int r9], M9)) rfl).trans ?_
            refine (e_if_ne (hf := rfl)).trans ?_
            refine ite_in ?_ ?_
            · refine (evn_adv 4 (q' := (182, [some (.ref 52), some (.int l1), some (.int (l1 - (jn 1))), some (.int v1), some (.int v2), some (.int v3), some (.int r9)], [.int v2, .int v1, .int (l1 - (jn 1)), .ref 52], M9)) rfl).trans ?_
              refine (e_kV (q := (182, [some (.ref 52), some (.int l1), some (.int (l1 - (jn 1))), some (.int v1), some (.int v2), some (.int v3), some (.int r9)], [.int v2, .int v1, .int (l1 - (jn 1)), .ref 52])) (q2 := (185, [some (.ref 52), some (.int l1), some (.int (l1 - (jn 1))), some (.int v1), some (.int v2), some (.int v3), some (.int r9)], [])) (M := M9) (o := (pcl GG lay d 110 [.ref 52, .int (l1 - (jn 1)), .int v1, .int v2] M9)) (hf := rfl) rfl rfl).trans ?_
              refine kV_in (fun M10 => ?_)
              refine (evn_adv 1 (q' := (187, [some (.ref 52), some (.int l1), some (.int (l1 - (jn 1))), some (.int v1), some (.int v2), some (.int v3), some (.int r9)], [.int r9], M10)) rfl).trans ?_
              exact e_iretz (hf := rfl)
            · refine (evn_adv 1 (q' := (187, [some (.ref 52), some (.int l1), some (.int (l1 - (jn 1))), some (.int v1), some (.int v2), some (.int v3), some (.int r9)], [.int r9], M9)) rfl).trans ?_
              exact e_iretz (hf := rfl)
          · refine (evn_adv 5 (q' := (131, [some (.ref 52), some (.int l1), some (.int (l1 - (jn 1))), some (.int v1), some (.int v2), some (.int v3), none], [.int (jn 0), .int v2, .int v1, .int (l1 - (jn 1)), .ref 52], M7)) rfl).trans ?_
            refine (e_kI (q := (131, [some (.ref 52), some (.int l1), some (.int (l1 - (jn 1))), some (.int v1), some (.int v2), some (.int v3), none], [.int (jn 0), .int v2, .int v1, .int (l1 - (jn 1)), .ref 52])) (q2 := (134, [some (.ref 52), some (.int l1), some (.int (l1 - (jn 1))), some (.int v1), some (.int v2), some (.int v3), none], [])) (M := M7) (o := (pcl GG lay d 111 [.ref 52, .int (l1 - (jn 1)), .int v1, .int v2, .int (jn 0)] M7)) (hf := rfl) rfl rfl).trans ?_
            refine kI_in (fun r8 M8 => ?_)
            refine (e_if_ne (hf := rfl)).trans ?_
            refine ite_in ?_ ?_
            · refine (evn_adv 9 (q' := (150, [some (.ref 52), some (.int l1), some (.int (l1 - (jn 1))), some (.int v1), some (.int v2), some (.int v3), none], [.int (jn 1), .int (((M8.1 52 21) >>> ((v3 - (jn 105)) &&& 31)) &&& (jn 1))], M8)) rfl).trans ?_
              refine (e_ic_ne (hf := rfl)).trans ?_
              refine ite_in ?_ ?_
              · refine (evn_adv 5 (q' := (159, [some (.ref 52), some (.int l1), some (.int (l1 - (jn 1))), some (.int v1), some (.int v2), some (.int v3), none], [.int (jn 1), .int v2, .int v1, .int (l1 - (jn 1)), .ref 52], M8)) rfl).trans ?_
                refine (e_kI (q := (159, [some (.ref 52), some (.int l1), some (.int (l1 - (jn 1))), some (.int v1), some (.int v2), some (.int v3), none], [.int (jn 1), .int v2, .int v1, .int (l1 - (jn 1)), .ref 52])) (q2 := (162, [some (.ref 52), some (.int l1), some (.int (l1 - (jn 1))), some (.int v1), some (.int v2), some (.int v3), none], [])) (M := M8) (o := (pcl GG lay d 111 [.ref 52, .int (l1 - (jn 1)), .int v1, .int v2, .int (jn 1)] M8)) (hf := rfl) rfl rfl).trans ?_
                refine kI_in (fun r9 M9 => ?_)
                refine (e_if_eq (hf := rfl)).trans ?_
                refine ite_in ?_ ?_
                · refine (evn_adv 3 (q' := (174, [some (.ref 52), some (.int l1), some (.int (l1 - (jn 1))), some (.int v1), some (.int v2), some (.int v3), some (.int (jn 0))], [.int (jn 0)], M9)) rfl).trans ?_
                  refine (e_if_ne (hf := rfl)).trans ?_
                  refine ite_in ?_ ?_
                  · refine (evn_adv 4 (q' := (182, [some (.ref 52), some (.int l1), some (.int (l1 - (jn 1))), some (.int v1), some (.int v2), some (.int v3), some (.int (jn 0))], [.int v2, .int v1, .int (l1 - (jn 1)), .ref 52], M9)) rfl).trans ?_
                    refine (e_kV (q := (182, [some (.ref 52), some (.int l1), some (.int (l1 - (jn 1))), some (.int v1), some (.int v2), some (.int v3), some (.int (jn 0))], [.int v2, .int v1, .int (l1 - (jn 1)), .ref 52])) (q2 := (185, [some (.ref 52), some (.int l1), some (.int (l1 - (jn 1))), some (.int v1), some (.int v2), some (.int v3), some (.int (jn 0))], [])) (M := M9) (o := (pcl GG lay d 110 [.ref 52, .int (l1 - (jn 1)), .int v1, .int v2] M9)) (hf := rfl) rfl rfl).trans ?_
                    refine kV_in (fun M10 => ?_)
                    refine (evn_adv 1 (q' := (187, [some (.ref 52), some (.int l1), some (.int (l1 - (jn 1))), some (.int v1), some (.int v2), some (.int v3), some (.int (jn 0))], [.int (jn 0)], M10)) rfl).trans ?_
                    exact e_iretz (hf := rfl)
                  · refine (evn_adv 1 (q' := (187, [some (.ref 52), some (.int l1), some (.int (l1 - (jn 1))), some (.int v1), some (.int v2), some (.int v3), some (.int (jn 0))], [.int (jn 0)], M9)) rfl).trans ?_
                    exact e_iretz (hf := rfl)
                · refine (evn_adv 4 (q' := (174, [some (.ref 52), some (.int l1), some (.int (l1 - (jn 1))), some (.int v1), some (.int v2), some (.int v3), some (.int (jn 1))], [.int (jn 1)], M9)) rfl).trans ?_
                  refine (e_if_ne (hf := rfl)).trans ?_
                  refine ite_in ?_ ?_
                  · refine (evn_adv 4 (q' := (182, [some (.ref 52), some (.int l1), some (.int (l1 - (jn 1))), some (.int v1), some (.int v2), some (.int v3), some (.int (jn 1))], [.int v2, .int v1, .int (l1 - (jn 1)), .ref 52], M9)) rfl).trans ?_
                    refine (e_kV (q := (182, [some (.ref 52), some (.int l1), some (.int (l1 - (jn 1))), some (.int v1), some (.int v2), some (.int v3), some (.int (jn 1))], [.int v2, .int v1, .int (l1 - (jn 1)), .ref 52])) (q2 := (185, [some (.ref 52), some (.int l1), some (.int (l1 - (jn 1))), some (.int v1), some (.int v2), some (.int v3), some (.int (jn 1))], [])) (M := M9) (o := (pcl GG lay d 110 [.ref 52, .int (l1 - (jn 1)), .int v1, .int v2] M9)) (hf := rfl) rfl rfl).trans ?_
                    refine kV_in (fun M10 => ?_)
                    refine (evn_adv 1 (q' := (187, [some (.ref 52), some (.int l1), some (.int (l1 - (jn 1))), some (.int v1), some (.int v2), some (.int v3), some (.int (jn 1))], [.int (jn 1)], M10)) rfl).trans ?_
                    exact e_iretz (hf := rfl)
                  · refine (evn_adv 1 (q' := (187, [some (.ref 52), some (.int l1), some (.int (l1 - (jn 1))), some (.int v1), some (.int v2), some (.int v3), some (.int (jn 1))], [.int (jn 1)], M9)) rfl).trans ?_
                    exact e_iretz (hf := rfl)
              · refine (evn_adv 3 (q' := (174, [some (.ref 52), some (.int l1), some (.int (l1 - (jn 1))), some (.int v1), some (.int v2), some (.int v3), some (.int (jn 0))], [.int (jn 0)], M8)) rfl).trans ?_
                refine (e_if_ne (hf := rfl)).trans ?_
                refine ite_in ?_ ?_
                · refine (evn_adv 4 (q' := (182, [some (.ref 52), some (.int l1), some (.int (l1 - (jn 1))), some (.int v1), some (.int v2), some (.int v3), some (.int (jn 0))], [.int v2, .int v1, .int (l1 - (jn 1)), .ref 52], M8)) rfl).trans ?_
                  refine (e_kV (q := (182, [some (.ref 52), some (.int l1), some (.int (l1 - (jn 1))), some (.int v1), some (.int v2), some (.int v3), some (.int (jn 0))], [.int v2, .int v1, .int (l1 - (jn 1)), .ref 52])) (q2 := (185, [some (.ref 52), some (.int l1), some (.int (l1 - (jn 1))), some (.int v1), some (.int v2), some (.int v3), some (.int (jn 0))], [])) (M := M8) (o := (pcl GG lay d 110 [.ref 52, .int (l1 - (jn 1)), .int v1, .int v2] M8)) (hf := rfl) rfl rfl).trans ?_
                  refine kV_in (fun M9 => ?_)
                  refine (evn_adv 1 (q' := (187, [some (.ref 52), some (.int l1), some (.int (l1 - (jn 1))), some (.int v1), some (.int v2), some (.int v3), some (.int (jn 0))], [.int (jn 0)], M9)) rfl).trans ?_
                  exact e_iretz (hf := rfl)
                · refine (evn_adv 1 (q' := (187, [some (.ref 52), some (.int l1), some (.int (l1 - (jn 1))), some (.int v1), some (.int v2), some (.int v3), some (.int (jn 0))], [.int (jn 0)], M8)) rfl).trans ?_
                  exact e_iretz (hf := rfl)
            · refine (evn_adv 4 (q' := (174, [some (.ref 52), some (.int l1), some (.int (l1 - (jn 1))), some (.int v1), some (.int v2), some (.int v3), some (.int (jn 1))], [.int (jn 1)], M8)) rfl).trans ?_
              refine (e_if_ne (hf := rfl)).trans ?_
              refine ite_in ?_ ?_
              · refine (evn_adv 4 (q' := (182, [some (.ref 52), some (.int l1), some (.int (l1 - (jn 1))), some (.int v1), some (.int v2), some (.int v3), some (.int (jn 1))], [.int v2, .int v1, .int (l1 - (jn 1)), .ref 52], M8)) rfl).trans ?_
                refine (e_kV (q := (182, [some (.ref 52), some (.int l1), some (.int (l1 - (jn 1))), some (.int v1), some (.int v2), some (.int v3), some (.int (jn 1))], [.int v2, .int v1, .int (l1 - (jn 1)), .ref 52])) (q2 := (185, [some (.ref 52), some (.int l1), some (.int (l1 - (jn 1))), some (.int v1), some (.int v2), some (.int v3), some (.int (jn 1))], [])) (M := M8) (o := (pcl GG lay d 110 [.ref 52, .int (l1 - (jn 1)), .int v1, .int v2] M8)) (hf := rfl) rfl rfl).trans ?_
                refine kV_in (fun M9 => ?_)
                refine (evn_adv 1 (q' := (187, [some (.ref 52), some (.int l1), some (.int (l1 - (jn 1))), some (.int v1), some (.int v2), some (.int v3), some (.int (jn 1))], [.int (jn 1)], M9)) rfl).trans ?_
                exact e_iretz (hf := rfl)
              · refine (evn_adv 1 (q' := (187, [some (.ref 52), some (.int l1), some (.int (l1 - (jn 1))), some (.int v1), some (.int v2), some (.int v3), some (.int (jn 1))], [.int (jn 1)], M8)) rfl).trans ?_
                exact e_iretz (hf := rfl)
      · refine (evn_adv 4 (q' := (174, [some (.ref 52), some (.int l1), some (.int (l1 - (jn 1))), some (.int v1), some (.int v2), some (.int v3), some (.int (jn 0))], [.int (jn 0)], M4)) rfl).trans ?_
        refine (e_if_ne (hf := rfl)).trans ?_
        refine ite_in ?_ ?_
        · refine (evn_adv 4 (q' := (182, [some (.ref 52), some (.int l1), some (.int (l1 - (jn 1))), some (.int v1), some (.int v2), some (.int v3), some (.int (jn 0))], [.int v2, .int v1, .int (l1 - (jn 1)), .ref 52], M4)) rfl).trans ?_
          refine (e_kV (q := (182, [some (.ref 52), some (.int l1), some (.int (l1 - (jn 1))), some (.int v1), some (.int v2), some (.int v3), some (.int (jn 0))], [.int v2, .int v1, .int (l1 - (jn 1)), .ref 52])) (q2 := (185, [some (.ref 52), some (.int l1), some (.int (l1 - (jn 1))), some (.int v1), some (.int v2), some (.int v3), some (.int (jn 0))], [])) (M := M4) (o := (pcl GG lay d 110 [.ref 52, .int (l1 - (jn 1)), .int v1, .int v2] M4)) (hf := rfl) rfl rfl).trans ?_
          refine kV_in (fun M6 => ?_)
          refine (evn_adv 1 (q' := (187, [some (.ref 52), some (.int l1), some (.int (l1 - (jn 1))), some (.int v1), some (.int v2), some (.int v3), some (.int (jn 0))], [.int (jn 0)], M6)) rfl).trans ?_
          exact e_iretz (hf := rfl)
        · refine (evn_adv 1 (q' := (187, [some (.ref 52), some (.int l1), some (.int (l1 - (jn 1))), some (.int v1), some (.int v2), some (.int v3), some (.int (jn 0))], [.int (jn 0)], M4)) rfl).trans ?_
          exact e_iretz (hf := rfl)
    · refine (evn_adv 6 (q' := (50, [some (.ref 52), some (.int l1), some (.int (l1 - (jn 1))), some (.int v1), some (.int v2), some (.int v3), none], [.int (l1 - (jn 1)), .int v2, .int (v3 - (jn 117)), .ref 52], M4)) rfl).trans ?_
      refine (e_kI (q := (50, [some (.ref 52), some (.int l1), some (.int (l1 - (jn 1))), some (.int v1), some (.int v2), some (.int v3), none], [.int (l1 - (jn 1)), .int v2, .int (v3 - (jn 117)), .ref 52])) (q2 := (53, [some (.ref 52), some (.int l1), some (.int (l1 - (jn 1))), some (.int v1), some (.int v2), some (.int v3), none], [])) (M := M4) (o := (pcl GG lay d 109 [.ref 52, .int (v3 - (jn 117)), .int v2, .int (l1 - (jn 1))] M4)) (hf := rfl) rfl rfl).trans ?_
      refine kI_in (fun r5 M5 => ?_)
      refine (evn_adv 3 (q' := (174, [some (.ref 52), some (.int l1), some (.int (l1 - (jn 1))), some (.int v1), some (.int v2), some (.int v3), some (.int r5)], [.int r5], M5)) rfl).trans ?_
      refine (e_if_ne (hf := rfl)).trans ?_
      refine ite_in ?_ ?_
      · refine (evn_adv 4 (q' := (182, [some (.ref 52), some (.int l1), some (.int (l1 - (jn 1))), some (.int v1), some (.int v2), some (.int v3), some (.int r5)], [.int v2, .int v1, .int (l1 - (jn 1)), .ref 52], M5)) rfl).trans ?_
        refine (e_kV (q := (182, [some (.ref 52), some (.int l1), some (.int (l1 - (jn 1))), some (.int v1), some (.int v2), some (.int v3), some (.int r5)], [.int v2, .int v1, .int (l1 - (jn 1)), .ref 52])) (q2 := (185, [some (.ref 52), some (.int l1), some (.int (l1 - (jn 1))), some (.int v1), some (.int v2), some (.int v3), some (.int r5)], [])) (M := M5) (o := (pcl GG lay d 110 [.ref 52, .int (l1 - (jn 1)), .int v1, .int v2] M5)) (hf := rfl) rfl rfl).trans ?_
        refine kV_in (fun M6 => ?_)
        refine (evn_adv 1 (q' := (187, [some (.ref 52), some (.int l1), some (.int (l1 - (jn 1))), some (.int v1), some (.int v2), some (.int v3), some (.int r5)], [.int r5], M6)) rfl).trans ?_
        exact e_iretz (hf := rfl)
      · refine (evn_adv 1 (q' := (187, [some (.ref 52), some (.int l1), some (.int (l1 - (jn 1))), some (.int v1), some (.int v2), some (.int v3), some (.int r5)], [.int r5], M5)) rfl).trans ?_
        exact e_iretz (hf := rfl)
/-- TermStrategiesModel.matches([III)Z -/
noncomputable abbrev E_113 (d : Nat) : PQ → PO := evn (rnn k_113 lay none (pcl GG lay d) 2)
theorem q_113 (d : Nat) (l1 : Nat) (l2 : Int32) (l3 : Int32) (M : PM) : pcl GG lay (d + 1) 113 [.ref 52, .ref l1, .int l2, .int l3] M = (if l1 < 1000 then (wr (sI M 52 (va_up (M.1 52) 20 (Int32.ofNat l1))) fun M1 => (kI (pcl GG lay d 78 [.ref l1, .int l2] M1) fun r2 M2 => E_113 d (19, [some (.ref 52), some (.ref l1), some (.int l2), some (.int l3), some (.int (jn 0)), some (.int ((l2 + r2) - (jn 1)))], [], M2))) else none) := by
  refine (pcl_un (mt := t_113) (by decide) rfl (Nat.le_of_ble_eq_true rfl)).trans ?_
  show E_113 d (0, [some (.ref 52), some (.ref l1), some (.int l2), some (.int l3), none, none], [], M) = _
  refine (evn_adv 2 (q' := (2, [some (.ref 52), some (.ref l1), some (.int l2), some (.int l3), none, none], [.ref l1, .ref 52], M)) rfl).trans ?_
  refine (e_putr (q2 := (5, [some (.ref 52), some (.ref l1), some (.int l2), some (.int l3), none, none], [])) (k := 52) (j := 20) rfl rfl).trans ?_
  refine ite_in ?_ rfl
  refine wr_in (f := fun M1 => E_113 d (5, [some (.ref 52), some (.ref l1), some (.int l2), some (.int l3), none, none], [], M1)) (fun M1 => ?_)
  refine (evn_adv 5 (q' := (11, [some (.ref 52), some (.ref l1), some (.int l2), some (.int l3), some (.int (jn 0)), none], [.int l2, .ref l1, .int l2], M1)) rfl).trans ?_
  refine (e_kI (q := (11, [some (.ref 52), some (.ref l1), some (.int l2), some (.int l3), some (.int (jn 0)), none], [.int l2, .ref l1, .int l2])) (q2 := (14, [some (.ref 52), some (.ref l1), some (.int l2), some (.int l3), some (.int (jn 0)), none], [.int l2])) (M := M1) (o := (pcl GG lay d 78 [.ref l1, .int l2] M1)) (hf := rfl) rfl rfl).trans ?_
  refine kI_in (fun r2 M2 => ?_)
  refine (evn_adv 4 (q' := (19, [some (.ref 52), some (.ref l1), some (.int l2), some (.int l3), some (.int (jn 0)), some (.int ((l2 + r2) - (jn 1)))], [], M2)) rfl).trans ?_
  rfl
theorem h_113_19 (d : Nat) (l1 : Nat) (l2 : Int32) (l3 : Int32) (l4 : Int32) (l5 : Int32) (M : PM) : E_113 d (19, [some (.ref 52), some (.ref l1), some (.int l2), some (.int l3), some (.int l4), some (.int l5)], [], M) = (if l5 < l2 then (if (jn 6) < l4 then (wr (sI M 52 (va_up (M.1 52) 21 (jn 0))) fun M1 => E_113 d (74, [some (.ref 52), some (.ref l1), some (.int l2), some (.int l3), some (.int l4), some (.int (jn 0))], [], M1)) else (wr (sI M 52 (va_up (M.1 52) 21 (M.1 52 11))) fun M1 => E_113 d (74, [some (.ref 52), some (.ref l1), some (.int l2), some (.int l3), some (.int l4), some (.int (jn 0))], [], M1))) else (oB (aldI lay none M l1 l5) fun v1 => (kI (pcl GG lay d 97 [.ref 52, .int v1] M) fun r2 M2 => (if r2 = jn 0 then E_113 d (19, [some (.ref 52), some (.ref l1), some (.int l2), some (.int l3), some (.int (l4 + (jn 0))), some (.int (l5 + (jz 1)))], [], M2) else E_113 d (19, [some (.ref 52), some (.ref l1), some (.int l2), some (.int l3), some (.int (l4 + (jn 1))), some (.int (l5 + (jz 1)))], [], M2))))) := by
  refine (evn_adv 2 (q' := (22, [some (.ref 52), some (.ref l1), some (.int l2), some (.int l3), some (.int l4), some (.int l5)], [.int l2, .int l5], M)) rfl).trans ?_
  refine (e_ic_lt (hf := rfl)).trans ?_
  refine ite_in ?_ ?_
  · refine (evn_adv 3 (q' := (57, [some (.ref 52), some (.ref l1), some (.int l2), some (.int l3), some (.int l4), some (.int l5)], [.int (jn 6), .int l4, .ref 52], M)) rfl).trans ?_
    refine (e_ic_le (hf := rfl)).trans ?_
    refine ite_in ?_ ?_
    · refine (evn_adv 2 (q' := (68, [some (.ref 52), some (.ref l1), some (.int l2), some (.int l3), some (.int l4), some (.int l5)], [.int (jn 0), .ref 52], M)) rfl).trans ?_
      refine (evn_adv 1 (q' := (71, [some (.ref 52), some (.ref l1), some (.int l2), some (.int l3), some (.int l4), some (.int l5)], [], (sI M 52 (va_up (M.1 52) 21 (jn 0))))) rfl).trans ?_
      refine wr_in (f := fun M1 => E_113 d (71, [some (.ref 52), some (.ref l1), some (.int l2), some (.int l3), some (.int l4), some (.int l5)], [], M1)) (fun M1 => ?_)
      refine (evn_adv 2 (q' := (74, [some (.ref 52), some (.ref l1), some (.int l2), some (.int l3), some (.int l4), some (.int (jn 0))], [], M1)) rfl).trans ?_
      rfl
    · refine (evn_adv 2 (q' := (68, [some (.ref 52), some (.ref l1), some (.int l2), some (.int l3), some (.int l4), some (.int l5)], [.int (M.1 52 11), .ref 52], M)) rfl).trans ?_
      refine (evn_adv 1 (q' := (71, [some (.ref 52), some (.ref l1), some (.int l2), some (.int l3), some (.int l4), some (.int l5)], [], (sI M 52 (va_up (M.1 52) 21 (M.1 52 11))))) rfl).trans ?_
      refine wr_in (f := fun M1 => E_113 d (71, [some (.ref 52), some (.ref l1), some (.int l2), some (.int l3), some (.int l4), some (.int l5)], [], M1)) (fun M1 => ?_)
      refine (evn_adv 2 (q' := (74, [some (.ref 52), some (.ref l1), some (.int l2), some (.int l3), some (.int l4), some (.int (jn 0))], [], M1)) rfl).trans ?_
      rfl
  · refine (evn_adv 4 (q' := (31, [some (.ref 52), some (.ref l1), some (.int l2), some (.int l3), some (.int l4), some (.int l5)], [.int l5, .ref l1, .ref 52, .int l4], M)) rfl).trans ?_
    refine (e_oB (q := (31, [some (.ref 52), some (.ref l1), some (.int l2), some (.int l3), some (.int l4), some (.int l5)], [.int l5, .ref l1, .ref 52, .int l4], M)) (o := (aldI lay none M l1 l5)) (f := fun v1 => (32, [some (.ref 52), some (.ref l1), some (.int l2), some (.int l3), some (.int l4), some (.int l5)], [.int v1, .ref 52, .int l4], M)) (hf := rfl) rfl).trans ?_
    refine oB_in (fun v1 => ?_)
    refine (e_kI (q := (32, [some (.ref 52), some (.ref l1), some (.int l2), some (.int l3), some (.int l4), some (.int l5)], [.int v1, .ref 52, .int l4])) (q2 := (35, [some (.ref 52), some (.ref l1), some (.int l2), some (.int l3), some (.int l4), some (.int l5)], [.int l4])) (M := M) (o := (pcl GG lay d 97 [.ref 52, .int v1] M)) (hf := rfl) rfl rfl).trans ?_
    refine kI_in (fun r2 M2 => ?_)
    refine (e_if_eq (hf := rfl)).trans ?_
    refine ite_in ?_ ?_
    · refine (evn_adv 5 (q' := (19, [some (.ref 52), some (.ref l1), some (.int l2), some (.int l3), some (.int (l4 + (jn 0))), some (.int (l5 + (jz 1)))], [], M2)) rfl).trans ?_
      rfl
    · refine (evn_adv 6 (q' := (19, [some (.ref 52), some (.ref l1), some (.int l2), some (.int l3), some (.int (l4 + (jn 1))), some (.int (l5 + (jz 1)))], [], M2)) rfl).trans ?_
      rfl
theorem h_113_74 (d : Nat) (u1 : Option Value) (l2 : Int32) (l3 : Int32) (u4 : Option Value) (l5 : Int32) (M : PM) : E_113 d (74, [some (.ref 52), u1, some (.int l2), some (.int l3), u4, some (.int l5)], [], M) = (if l5 < (jn 6) then (oB (astI lay M 68 l5 (jz 1)) fun M1 => E_113 d (74, [some (.ref 52), u1, some (.int l2), some (.int l3), u4, some (.int (l5 + (jn 1)))], [], M1)) else (kV (pcl GG lay d 110 [.ref 52, .int (jn 0), .int l2, .int l3] M) fun M1 => (kI (pcl GG lay d 112 [.ref 52, .int (jn 1)] M1) fun r2 M2 => (rZ r2 M2)))) := by
  refine (evn_adv 2 (q' := (78, [some (.ref 52), u1, some (.int l2), some (.int l3), u4, some (.int l5)], [.int (jn 6), .int l5], M)) rfl).trans ?_
  refine (e_ic_ge (hf := rfl)).trans ?_
  refine ite_in ?_ ?_
  · refine (evn_adv 4 (q' := (88, [some (.ref 52), u1, some (.int l2), some (.int l3), u4, some (.int l5)], [.int (jz 1), .int l5, .ref 68], M)) rfl).trans ?_
    refine (e_oB (q := (88, [some (.ref 52), u1, some (.int l2), some (.int l3), u4, some (.int l5)], [.int (jz 1), .int l5, .ref 68], M)) (o := (astI lay M 68 l5 (jz 1))) (f := fun M1 => (89, [some (.ref 52), u1, some (.int l2), some (.int l3), u4, some (.int l5)], [], M1)) (hf := rfl) rfl).trans ?_
    refine oB_in (fun M1 => ?_)
    refine (evn_adv 2 (q' := (74, [some (.ref 52), u1, some (.int l2), some (.int l3), u4, some (.int (l5 + (jn 1)))], [], M1)) rfl).trans ?_
    rfl
  · refine (evn_adv 4 (q' := (99, [some (.ref 52), u1, some (.int l2), some (.int l3), u4, some (.int l5)], [.int l3, .int l2, .int (jn 0), .ref 52], M)) rfl).trans ?_
    refine (e_kV (q := (99, [some (.ref 52), u1, some (.int l2), some (.int l3), u4, some (.int l5)], [.int l3, .int l2, .int (jn 0), .ref 52])) (q2 := (102, [some (.ref 52), u1, some (.int l2), some (.int l3), u4, some (.int l5)], [])) (M := M) (o := (pcl GG lay d 110 [.ref 52, .int (jn 0), .int l2, .int l3] M)) (hf := rfl) rfl rfl).trans ?_
    refine kV_in (fun M1 => ?_)
    refine (evn_adv 2 (q' := (104, [some (.ref 52), u1, some (.int l2), some (.int l3), u4, some (.int l5)], [.int (jn 1), .ref 52], M1)) rfl).trans ?_
    refine (e_kI (q := (104, [some (.ref 52), u1, some (.int l2), some (.int l3), u4, some (.int l5)], [.int (jn 1), .ref 52])) (q2 := (107, [some (.ref 52), u1, some (.int l2), some (.int l3), u4, some (.int l5)], [])) (M := M1) (o := (pcl GG lay d 112 [.ref 52, .int (jn 1)] M1)) (hf := rfl) rfl rfl).trans ?_
    refine kI_in (fun r2 M2 => ?_)
    exact e_iretz (hf := rfl)
/-- TermStrategiesModel.isFit(II)Z -/
noncomputable abbrev E_114 (d : Nat) : PQ → PO := evn (rnn k_114 lay none (pcl GG lay d) 2)
theorem q_114 (d : Nat) (l1 : Int32) (l2 : Int32) (M : PM) : pcl GG lay (d + 1) 114 [.ref 52, .int l1, .int l2] M = (kI (pcl GG lay d 113 [.ref 52, .ref 56, .int ((jn 80) * l1), .int l2] M) fun r1 M1 => (rZ r1 M1)) := by
  refine (pcl_un (mt := t_114) (by decide) rfl (Nat.le_of_ble_eq_true rfl)).trans ?_
  show E_114 d (0, [some (.ref 52), some (.int l1), some (.int l2)], [], M) = _
  refine (evn_adv 7 (q' := (10, [some (.ref 52), some (.int l1), some (.int l2)], [.int l2, .int ((jn 80) * l1), .ref 56, .ref 52], M)) rfl).trans ?_
  refine (e_kI (q := (10, [some (.ref 52), some (.int l1), some (.int l2)], [.int l2, .int ((jn 80) * l1), .ref 56, .ref 52])) (q2 := (13, [some (.ref 52), some (.int l1), some (.int l2)], [])) (M := M) (o := (pcl GG lay d 113 [.ref 52, .ref 56, .int ((jn 80) * l1), .int l2] M)) (hf := rfl) rfl rfl).trans ?_
  refine kI_in (fun r1 M1 => ?_)
  exact e_iretz (hf := rfl)
/-- TermStrategiesModel.grows(I)V -/
noncomputable abbrev E_115 (d : Nat) : PQ → PO := evn (rnn k_115 lay none (pcl GG lay d) 0)
theorem q_115 (d : Nat) (l1 : Int32) (M : PM) : pcl GG lay (d + 1) 115 [.ref 52, .int l1] M = (oB (aldI lay none M 53 l1) fun v1 => (wr (sI M 52 (va_up (M.1 52) 19 v1)) fun M2 => E_115 d (12, [some (.ref 52), some (.int l1), some (.int (jn 0))], [], M2))) := by
  refine (pcl_un (mt := t_115) (by decide) rfl (Nat.le_of_ble_eq_true rfl)).trans ?_
  show E_115 d (0, [some (.ref 52), some (.int l1), none], [], M) = _
  refine (evn_adv 4 (q' := (6, [some (.ref 52), some (.int l1), none], [.int l1, .ref 53, .ref 52], M)) rfl).trans ?_
  refine (e_oB (q := (6, [some (.ref 52), some (.int l1), none], [.int l1, .ref 53, .ref 52], M)) (o := (aldI lay none M 53 l1)) (f := fun v1 => (7, [some (.ref 52), some (.int l1), none], [.int v1, .ref 52], M)) (hf := rfl) rfl).trans ?_
  refine oB_in (fun v1 => ?_)
  refine (evn_adv 1 (q' := (10, [some (.ref 52), some (.int l1), none], [], (sI M 52 (va_up (M.1 52) 19 v1)))) rfl).trans ?_
  refine wr_in (f := fun M2 => E_115 d (10, [some (.ref 52), some (.int l1), none], [], M2)) (fun M2 => ?_)
  refine (evn_adv 2 (q' := (12, [some (.ref 52), some (.int l1), some (.int (jn 0))], [], M2)) rfl).trans ?_
  rfl
theorem h_115_12 (d : Nat) (l1 : Int32) (l2 : Int32) (M : PM) : E_115 d (12, [some (.ref 52), some (.int l1), some (.int l2)], [], M) = (if l2 < (M.1 52 19) then (oB (aldI lay none M 54 (((jn 40) * l1) + l2)) fun v1 => (oB (astI lay M 65 l2 v1) fun M2 => E_115 d (12, [some (.ref 52), some (.int l1), some (.int (l2 + (jn 1)))], [], M2))) else (rV M)) := by
  refine (evn_adv 3 (q' := (17, [some (.ref 52), some (.int l1), some (.int l2)], [.int (M.1 52 19), .int l2], M)) rfl).trans ?_
  refine (e_ic_ge (hf := rfl)).trans ?_
  refine ite_in ?_ ?_
  · refine (evn_adv 10 (q' := (35, [some (.ref 52), some (.int l1), some (.int l2)], [.int (((jn 40) * l1) + l2), .ref 54, .int l2, .ref 65], M)) rfl).trans ?_
    refine (e_oB (q := (35, [some (.ref 52), some (.int l1), some (.int l2)], [.int (((jn 40) * l1) + l2), .ref 54, .int l2, .ref 65], M)) (o := (aldI lay none M 54 (((jn 40) * l1) + l2))) (f := fun v1 => (36, [some (.ref 52), some (.int l1), some (.int l2)], [.int v1, .int l2, .ref 65], M)) (hf := rfl) rfl).trans ?_
    refine oB_in (fun v1 => ?_)
    refine (e_oB (q := (36, [some (.ref 52), some (.int l1), some (.int l2)], [.int v1, .int l2, .ref 65], M)) (o := (astI lay M 65 l2 v1)) (f := fun M2 => (37, [some (.ref 52), some (.int l1), some (.int l2)], [], M2)) (hf := rfl) rfl).trans ?_
    refine oB_in (fun M2 => ?_)
    refine (evn_adv 2 (q' := (12, [some (.ref 52), some (.int l1), some (.int (l2 + (jn 1)))], [], M2)) rfl).trans ?_
    rfl
  · exact evn_end 1 rfl
/-- TermStrategiesModel.bound(IIII)I -/
noncomputable abbrev E_116 (d : Nat) : PQ → PO := evn (rnn k_116 lay none (pcl GG lay d) 1)
theorem q_116 (d : Nat) (l1 : Int32) (l2 : Int32) (l3 : Int32) (l4 : Int32) (M : PM) : pcl GG lay (d + 1) 116 [.ref 52, .int l1, .int l2, .int l3, .int l4] M = (kI (pcl GG lay d 72 [.ref 52, .int l1] M) fun r1 M1 => (if r1 = jn 0 then (kI (pcl GG lay d 69 [.ref 52, .int (jz 1)] M1) fun r2 M2 => (rI r2 M2)) else (kI (pcl GG lay d 72 [.ref 52, .int l2] M1) fun r2 M2 => (if r2 = jn 0 then (kI (pcl GG lay d 69 [.ref 52, .int (jz 1)] M2) fun r3 M3 => (rI r3 M3)) else (kV (pcl GG lay d 115 [.ref 52, .int l2] M2) fun M3 => (kI (pcl GG lay d 113 [.ref 52, .ref 54, .int ((jn 40) * l1), .int (jn 0)] M3) fun r4 M4 => (if r4 = jn 0 then (kI (pcl GG lay d 69 [.ref 52, .int (jz 6)] M4) fun r5 M5 => (rI r5 M5)) else (kI (pcl GG lay d 76 [.int l3] M4) fun r5 M5 => (if r5 = jn 0 then (kI (pcl GG lay d 69 [.ref 52, .int (jz 5)] M5) fun r6 M6 => (rI r6 M6)) else (oB (aldI lay none M5 68 (l3 - (jn 117))) fun v6 => (if v6 = (jz 1) then (kI (pcl GG lay d 69 [.ref 52, .int (jz 5)] M5) fun r7 M7 => (rI r7 M7)) else (oB (aldI lay none M5 68 (l3 - (jn 117))) fun v7 => (kI (pcl GG lay d 78 [.ref 65, .int v7] M5) fun r8 M8 => (kI (pcl GG lay d 71 [.int l4, .int (jn 0), .int (r8 - (jn 1))] M8) fun r9 M9 => (if r9 = jn 0 then (kI (pcl GG lay d 69 [.ref 52, .int (jz 5)] M9) fun r10 M10 => (rI r10 M10)) else (oB (aldI lay none M9 65 (v7 + l4)) fun v10 => (rI v10 M9))))))))))))))))) := by
  refine (pcl_un (mt := t_116) (by decide) rfl (Nat.le_of_ble_eq_true rfl)).trans ?_
  show E_116 d (0, [some (.ref 52), some (.int l1), some (.int l2), some (.int l3), some (.int l4), none], [], M) = _
  refine (evn_adv 2 (q' := (2, [some (.ref 52), some (.int l1), some (.int l2), some (.int l3), some (.int l4), none], [.int l1, .ref 52], M)) rfl).trans ?_
  refine (e_kI (q := (2, [some (.ref 52), some (.int l1), some (.int l2), some (.int l3), some (.int l4), none], [.int l1, .ref 52])) (q2 := (5, [some (.ref 52), some (.int l1), some (.int l2), some (.int l3), some (.int l4), none], [])) (M := M) (o := (pcl GG lay d 72 [.ref 52, .int l1] M)) (hf := rfl) rfl rfl).trans ?_
  refine kI_in (fun r1 M1 => ?_)
  refine (e_if_eq (hf := rfl)).trans ?_
  refine ite_in ?_ ?_
  · refine (evn_adv 2 (q' := (18, [some (.ref 52), some (.int l1), some (.int l2), some (.int l3), some (.int l4), none], [.int (jz 1), .ref 52], M1)) rfl).trans ?_
    refine (e_kI (q := (18, [some (.ref 52), some (.int l1), some (.int l2), some (.int l3), some (.int l4), none], [.int (jz 1), .ref 52])) (q2 := (21, [some (.ref 52), some (.int l1), some (.int l2), some (.int l3), some (.int l4), none], [])) (M := M1) (o := (pcl GG lay d 69 [.ref 52, .int (jz 1)] M1)) (hf := rfl) rfl rfl).trans ?_
    refine kI_in (fun r2 M2 => ?_)
    exact evn_end 1 rfl
  · refine (evn_adv 2 (q' := (10, [some (.ref 52), some (.int l1), some (.int l2), some (.int l3), some (.int l4), none], [.int l2, .ref 52], M1)) rfl).trans ?_
    refine (e_kI (q := (10, [some (.ref 52), some (.int l1), some (.int l2), some (.int l3), some (.int l4), none], [.int l2, .ref 52])) (q2 := (13, [some (.ref 52), some (.int l1), some (.int l2), some (.int l3), some (.int l4), none], [])) (M := M1) (o := (pcl GG lay d 72 [.ref 52, .int l2] M1)) (hf := rfl) rfl rfl).trans ?_
    refine kI_in (fun r2 M2 => ?_)
    refine (e_if_ne (hf := rfl)).trans ?_
    refine ite_in ?_ ?_
    · refine (evn_adv 2 (q' := (18, [some (.ref 52), some (.int l1), some (.int l2), some (.int l3), some (.int l4), none], [.int (jz 1), .ref 52], M2)) rfl).trans ?_
      refine (e_kI (q := (18, [some (.ref 52), some (.int l1), some (.int l2), some (.int l3), some (.int l4), none], [.int (jz 1), .ref 52])) (q2 := (21, [some (.ref 52), some (.int l1), some (.int l2), some (.int l3), some (.int l4), none], [])) (M := M2) (o := (pcl GG lay d 69 [.ref 52, .int (jz 1)] M2)) (hf := rfl) rfl rfl).trans ?_
      refine kI_in (fun r3 M3 => ?_)
      exact evn_end 1 rfl
    · refine (evn_adv 2 (q' := (24, [some (.ref 52), some (.int l1), some (.int l2), some (.int l3), some (.int l4), none], [.int l2, .ref 52], M2)) rfl).trans ?_
      refine (e_kV (q := (24, [some (.ref 52), some (.int l1), some (.int l2), some (.int l3), some (.int l4), none], [.int l2, .ref 52])) (q2 := (27, [some (.ref 52), some (.int l1), some (.int l2), some (.int l3), some (.int l4), none], [])) (M := M2) (o := (pcl GG lay d 115 [.ref 52, .int l2] M2)) (hf := rfl) rfl rfl).trans ?_
      refine kV_in (fun M3 => ?_)
      refine (evn_adv 7 (q' := (37, [some (.ref 52), some (.int l1), some (.int l2), some (.int l3), some (.int l4), none], [.int (jn 0), .int ((jn 40) * l1), .ref 54, .ref 52], M3)) rfl).trans ?_
      refine (e_kI (q := (37, [some (.ref 52), some (.int l1), some (.int l2), some (.int l3), some (.int l4), none], [.int (jn 0), .int ((jn 40) * l1), .ref 54, .ref 52])) (q2 := (40, [some (.ref 52), some (.int l1), some (.int l2), some (.int l3), some (.int l4), none], [])) (M := M3) (o := (pcl GG lay d 113 [.ref 52, .ref 54, .int ((jn 40) * l1), .int (jn 0)] M3)) (hf := rfl) rfl rfl).trans ?_
      refine kI_in (fun r4 M4 => ?_)
      refine (e_if_ne (hf := rfl)).trans ?_
      refine ite_in ?_ ?_
      · refine (evn_adv 2 (q' := (46, [some (.ref 52), some (.int l1), some (.int l2), some (.int l3), some (.int l4), none], [.int (jz 6), .ref 52], M4)) rfl).trans ?_
        refine (e_kI (q := (46, [some (.ref 52), some (.int l1), some (.int l2), some (.int l3), some (.int l4), none], [.int (jz 6), .ref 52])) (q2 := (49, [some (.ref 52), some (.int l1), some (.int l2), some (.int l3), some (.int l4), none], [])) (M := M4) (o := (pcl GG lay d 69 [.ref 52, .int (jz 6)] M4)) (hf := rfl) rfl rfl).trans ?_
        refine kI_in (fun r5 M5 => ?_)
        exact evn_end 1 rfl
      · refine (evn_adv 1 (q' := (51, [some (.ref 52), some (.int l1), some (.int l2), some (.int l3), some (.int l4), none], [.int l3], M4)) rfl).trans ?_
        refine (e_kI (q := (51, [some (.ref 52), some (.int l1), some (.int l2), some (.int l3), some (.int l4), none], [.int l3])) (q2 := (54, [some (.ref 52), some (.int l1), some (.int l2), some (.int l3), some (.int l4), none], [])) (M := M4) (o := (pcl GG lay d 76 [.int l3] M4)) (hf := rfl) rfl rfl).trans ?_
        refine kI_in (fun r5 M5 => ?_)
        refine (e_if_eq (hf := rfl)).trans ?_
        refine ite_in ?_ ?_
        · refine (evn_adv 2 (q' := (73, [some (.ref 52), some (.int l1), some (.int l2), some (.int l3), some (.int l4), none], [.int (jz 5), .ref 52], M5)) rfl).trans ?_
          refine (e_kI (q := (73, [some (.ref 52), some (.int l1), some (.int l2), some (.int l3), some (.int l4), none], [.int (jz 5), .ref 52])) (q2 := (76, [some (.ref 52), some (.int l1), some (.int l2), some (.int l3), some (.int l4), none], [])) (M := M5) (o := (pcl GG lay d 69 [.ref 52, .int (jz 5)] M5)) (hf := rfl) rfl rfl).trans ?_
          refine kI_in (fun r6 M6 => ?_)
          exact evn_end 1 rfl
        · refine (evn_adv 5 (q' := (65, [some (.ref 52), some (.int l1), some (.int l2), some (.int l3), some (.int l4), none], [.int (l3 - (jn 117)), .ref 68], M5)) rfl).trans ?_
          refine (e_oB (q := (65, [some (.ref 52), some (.int l1), some (.int l2), some (.int l3), some (.int l4), none], [.int (l3 - (jn 117)), .ref 68], M5)) (o := (aldI lay none M5 68 (l3 - (jn 117)))) (f := fun v6 => (66, [some (.ref 52), some (.int l1), some (.int l2), some (.int l3), some (.int l4), none], [.int v6], M5)) (hf := rfl) rfl).trans ?_
          refine oB_in (fun v6 => ?_)
          refine (evn_adv 1 (q' := (67, [some (.ref 52), some (.int l1), some (.int l2), some (.int l3), some (.int l4), none], [.int (jz 1), .int v6], M5)) rfl).trans ?_
          refine (e_ic_ne (hf := rfl)).trans ?_
          refine ite_in ?_ ?_
          · refine (evn_adv 2 (q' := (73, [some (.ref 52), some (.int l1), some (.int l2), some (.int l3), some (.int l4), none], [.int (jz 5), .ref 52], M5)) rfl).trans ?_
            refine (e_kI (q := (73, [some (.ref 52), some (.int l1), some (.int l2), some (.int l3), some (.int l4), none], [.int (jz 5), .ref 52])) (q2 := (76, [some (.ref 52), some (.int l1), some (.int l2), some (.int l3), some (.int l4), none], [])) (M := M5) (o := (pcl GG lay d 69 [.ref 52, .int (jz 5)] M5)) (hf := rfl) rfl rfl).trans ?_
            refine kI_in (fun r7 M7 => ?_)
            exact evn_end 1 rfl
          · refine (evn_adv 5 (q' := (85, [some (.ref 52), some (.int l1), some (.int l2), some (.int l3), some (.int l4), none], [.int (l3 - (jn 117)), .ref 68], M5)) rfl).trans ?_
            refine (e_oB (q := (85, [some (.ref 52), some (.int l1), some (.int l2), some (.int l3), some (.int l4), none], [.int (l3 - (jn 117)), .ref 68], M5)) (o := (aldI lay none M5 68 (l3 - (jn 117)))) (f := fun v7 => (86, [some (.ref 52), some (.int l1), some (.int l2), some (.int l3), some (.int l4), none], [.int v7], M5)) (hf := rfl) rfl).trans ?_
            refine oB_in (fun v7 => ?_)
            refine (evn_adv 6 (q' := (97, [some (.ref 52), some (.int l1), some (.int l2), some (.int l3), some (.int l4), some (.int v7)], [.int v7, .ref 65, .int (jn 0), .int l4], M5)) rfl).trans ?_
            refine (e_kI (q := (97, [some (.ref 52), some (.int l1), some (.int l2), some (.int l3), some (.int l4), some (.int v7)], [.int v7, .ref 65, .int (jn 0), .int l4])) (q2 := (100, [some (.ref 52), some (.int l1), some (.int l2), some (.int l3), some (.int l4), some (.int v7)], [.int (jn 0), .int l4])) (M := M5) (o := (pcl GG lay d 78 [.ref 65, .int v7] M5)) (hf := rfl) rfl rfl).trans ?_
            refine kI_in (fun r8 M8 => ?_)
            refine (evn_adv 2 (q' := (102, [some (.ref 52), some (.int l1), some (.int l2), some (.int l3), some (.int l4), some (.int v7)], [.int (r8 - (jn 1)), .int (jn 0), .int l4], M8)) rfl).trans ?_
            refine (e_kI (q := (102, [some (.ref 52), some (.int l1), some (.int l2), some (.int l3), some (.int l4), some (.int v7)], [.int (r8 - (jn 1)), .int (jn 0), .int l4])) (q2 := (105, [some (.ref 52), some (.int l1), some (.int l2), some (.int l3), some (.int l4), some (.int v7)], [])) (M := M8) (o := (pcl GG lay d 71 [.int l4, .int (jn 0), .int (r8 - (jn 1))] M8)) (hf := rfl) rfl rfl).trans ?_
            refine kI_in (fun r9 M9 => ?_)
            refine (e_if_eq (hf := rfl)).trans ?_
            refine ite_in ?_ ?_
            · refine (evn_adv 2 (q' := (124, [some (.ref 52), some (.int l1), some (.int l2), some (.int l3), some (.int l4), some (.int v7)], [.int (jz 5), .ref 52], M9)) rfl).trans ?_
              refine (e_kI (q := (124, [some (.ref 52), some (.int l1), some (.int l2), some (.int l3), some (.int l4), some (.int v7)], [.int (jz 5), .ref 52])) (q2 := (127, [some (.ref 52), some (.int l1), some (.int l2), some (.int l3), some (.int l4), some (.int v7)], [])) (M := M9) (o := (pcl GG lay d 69 [.ref 52, .int (jz 5)] M9)) (hf := rfl) rfl rfl).trans ?_
              refine kI_in (fun r10 M10 => ?_)
              exact evn_end 1 rfl
            · refine (evn_adv 5 (q' := (117, [some (.ref 52), some (.int l1), some (.int l2), some (.int l3), some (.int l4), some (.int v7)], [.int (v7 + l4), .ref 65], M9)) rfl).trans ?_
              refine (e_oB (q := (117, [some (.ref 52), some (.int l1), some (.int l2), some (.int l3), some (.int l4), some (.int v7)], [.int (v7 + l4), .ref 65], M9)) (o := (aldI lay none M9 65 (v7 + l4))) (f := fun v10 => (118, [some (.ref 52), some (.int l1), some (.int l2), some (.int l3), some (.int l4), some (.int v7)], [.int v10], M9)) (hf := rfl) rfl).trans ?_
              refine oB_in (fun v10 => ?_)
              refine (evn_adv 1 (q' := (127, [some (.ref 52), some (.int l1), some (.int l2), some (.int l3), some (.int l4), some (.int v7)], [.int v10], M9)) rfl).trans ?_
              exact evn_end 1 rfl
/-- TermStrategiesModel.fits(III)I -/
noncomputable abbrev E_117 (d : Nat) : PQ → PO := evn (rnn k_117 lay none (pcl GG lay d) 1)
theorem q_117 (d : Nat) (l1 : Int32) (l2 : Int32) (l3 : Int32) (M : PM) : pcl GG lay (d + 1) 117 [.ref 52, .int l1, .int l2, .int l3] M = (kI (pcl GG lay d 73 [.ref 52, .int l1] M) fun r1 M1 => (if r1 = jn 0 then (kI (pcl GG lay d 70 [.ref 52, .int (jz 1)] M1) fun r2 M2 => (rI r2 M2)) else (kI (pcl GG lay d 72 [.ref 52, .int l2] M1) fun r2 M2 => (if r2 = jn 0 then (kI (pcl GG lay d 70 [.ref 52, .int (jz 1)] M2) fun r3 M3 => (rI r3 M3)) else (kV (pcl GG lay d 115 [.ref 52, .int l2] M2) fun M3 => E_117 d (33, [some (.ref 52), some (.int l1), some (.int l2), some (.int l3), some (.int (jn 0)), some (.int (jn 0))], [], M3)))))) := by
  refine (pcl_un (mt := t_117) (by decide) rfl (Nat.le_of_ble_eq_true rfl)).trans ?_
  show E_117 d (0, [some (.ref 52), some (.int l1), some (.int l2), some (.int l3), none, none], [], M) = _
  refine (evn_adv 2 (q' := (2, [some (.ref 52), some (.int l1), some (.int l2), some (.int l3), none, none], [.int l1, .ref 52], M)) rfl).trans ?_
  refine (e_kI (q := (2, [some (.ref 52), some (.int l1), some (.int l2), some (.int l3), none, none], [.int l1, .ref 52])) (q2 := (5, [some (.ref 52), some (.int l1), some (.int l2), some (.int l3), none, none], [])) (M := M) (o := (pcl GG lay d 73 [.ref 52, .int l1] M)) (hf := rfl) rfl rfl).trans ?_
  refine kI_in (fun r1 M1 => ?_)
  refine (e_if_eq (hf := rfl)).trans ?_
  refine ite_in ?_ ?_
  · refine (evn_adv 2 (q' := (18, [some (.ref 52), some (.int l1), some (.int l2), some (.int l3), none, none], [.int (jz 1), .ref 52], M1)) rfl).trans ?_
    refine (e_kI (q := (18, [some (.ref 52), some (.int l1), some (.int l2), some (.int l3), none, none], [.int (jz 1), .ref 52])) (q2 := (21, [some (.ref 52), some (.int l1), some (.int l2), some (.int l3), none, none], [])) (M := M1) (o := (pcl GG lay d 70 [.ref 52, .int (jz 1)] M1)) (hf := rfl) rfl rfl).trans ?_
    refine kI_in (fun r2 M2 => ?_)
    exact evn_end 1 rfl
  · refine (evn_adv 2 (q' := (10, [some (.ref 52), some (.int l1), some (.int l2), some (.int l3), none, none], [.int l2, .ref 52], M1)) rfl).trans ?_
    refine (e_kI (q := (10, [some (.ref 52), some (.int l1), some (.int l2), some (.int l3), none, none], [.int l2, .ref 52])) (q2 := (13, [some (.ref 52), some (.int l1), some (.int l2), some (.int l3), none, none], [])) (M := M1) (o := (pcl GG lay d 72 [.ref 52, .int l2] M1)) (hf := rfl) rfl rfl).trans ?_
    refine kI_in (fun r2 M2 => ?_)
    refine (e_if_ne (hf := rfl)).trans ?_
    refine ite_in ?_ ?_
    · refine (evn_adv 2 (q' := (18, [some (.ref 52), some (.int l1), some (.int l2), some (.int l3), none, none], [.int (jz 1), .ref 52], M2)) rfl).trans ?_
      refine (e_kI (q := (18, [some (.ref 52), some (.int l1), some (.int l2), some (.int l3), none, none], [.int (jz 1), .ref 52])) (q2 := (21, [some (.ref 52), some (.int l1), some (.int l2), some (.int l3), none, none], [])) (M := M2) (o := (pcl GG lay d 70 [.ref 52, .int (jz 1)] M2)) (hf := rfl) rfl rfl).trans ?_
      refine kI_in (fun r3 M3 => ?_)
      exact evn_end 1 rfl
    · refine (evn_adv 2 (q' := (24, [some (.ref 52), some (.int l1), some (.int l2), some (.int l3), none, none], [.int l2, .ref 52], M2)) rfl).trans ?_
      refine (e_kV (q := (24, [some (.ref 52), some (.int l1), some (.int l2), some (.int l3), none, none], [.int l2, .ref 52])) (q2 := (27, [some (.ref 52), some (.int l1), some (.int l2), some (.int l3), none, none], [])) (M := M2) (o := (pcl GG lay d 115 [.ref 52, .int l2] M2)) (hf := rfl) rfl rfl).trans ?_
      refine kV_in (fun M3 => ?_)
      refine (evn_adv 4 (q' := (33, [some (.ref 52), some (.int l1), some (.int l2), some (.int l3), some (.int (jn 0)), some (.int (jn 0))], [], M3)) rfl).trans ?_
      rfl
theorem h_117_33 (d : Nat) (l1 : Int32) (u2 : Option Value) (l3 : Int32) (l4 : Int32) (l5 : Int32) (M : PM) : E_117 d (33, [some (.ref 52), some (.int l1), u2, some (.int l3), some (.int l4), some (.int l5)], [], M) = (if l5 < (M.1 52 19) then (kI (pcl GG lay d 114 [.ref 52, .int l1, .int l5] M) fun r1 M1 => (if r1 = jn 0 then E_117 d (33, [some (.ref 52), some (.int l1), u2, some (.int l3), some (.int l4), some (.int (l5 + (jn 1)))], [], M1) else (if l4 = l3 then (rI l5 M1) else E_117 d (33, [some (.ref 52), some (.int l1), u2, some (.int l3), some (.int (l4 + (jn 1))), some (.int (l5 + (jn 1)))], [], M1)))) else (if l3 = (jz 1) then (rI l4 M) else (rI (jz 1) M))) := by
  refine (evn_adv 3 (q' := (39, [some (.ref 52), some (.int l1), u2, some (.int l3), some (.int l4), some (.int l5)], [.int (M.1 52 19), .int l5], M)) rfl).trans ?_
  refine (e_ic_ge (hf := rfl)).trans ?_
  refine ite_in ?_ ?_
  · refine (evn_adv 3 (q' := (46, [some (.ref 52), some (.int l1), u2, some (.int l3), some (.int l4), some (.int l5)], [.int l5, .int l1, .ref 52], M)) rfl).trans ?_
    refine (e_kI (q := (46, [some (.ref 52), some (.int l1), u2, some (.int l3), some (.int l4), some (.int l5)], [.int l5, .int l1, .ref 52])) (q2 := (49, [some (.ref 52), some (.int l1), u2, some (.int l3), some (.int l4), some (.int l5)], [])) (M := M) (o := (pcl GG lay d 114 [.ref 52, .int l1, .int l5] M)) (hf := rfl) rfl rfl).trans ?_
    refine kI_in (fun r1 M1 => ?_)
    refine (e_if_ne (hf := rfl)).trans ?_
    refine ite_in ?_ ?_
    · refine (evn_adv 3 (q' := (33, [some (.ref 52), some (.int l1), u2, some (.int l3), some (.int l4), some (.int (l5 + (jn 1)))], [], M1)) rfl).trans ?_
      rfl
    · refine (evn_adv 2 (q' := (58, [some (.ref 52), some (.int l1), u2, some (.int l3), some (.int l4), some (.int l5)], [.int l3, .int l4], M1)) rfl).trans ?_
      refine (e_ic_ne (hf := rfl)).trans ?_
      refine ite_in ?_ ?_
      · refine (evn_adv 1 (q' := (63, [some (.ref 52), some (.int l1), u2, some (.int l3), some (.int l4), some (.int l5)], [.int l5], M1)) rfl).trans ?_
        exact evn_end 1 rfl
      · refine (evn_adv 3 (q' := (33, [some (.ref 52), some (.int l1), u2, some (.int l3), some (.int (l4 + (jn 1))), some (.int (l5 + (jn 1)))], [], M1)) rfl).trans ?_
        rfl
  · refine (evn_adv 2 (q' := (75, [some (.ref 52), some (.int l1), u2, some (.int l3), some (.int l4), some (.int l5)], [.int (jz 1), .int l3], M)) rfl).trans ?_
    refine (e_ic_ne (hf := rfl)).trans ?_
    refine ite_in ?_ ?_
    · refine (evn_adv 2 (q' := (84, [some (.ref 52), some (.int l1), u2, some (.int l3), some (.int l4), some (.int l5)], [.int l4], M)) rfl).trans ?_
      exact evn_end 1 rfl
    · refine (evn_adv 1 (q' := (84, [some (.ref 52), some (.int l1), u2, some (.int l3), some (.int l4), some (.int l5)], [.int (jz 1)], M)) rfl).trans ?_
      exact evn_end 1 rfl
/-- TermStrategiesModel.fitting(I)J -/
noncomputable abbrev E_118 (d : Nat) : PQ → PO := evn (rnn k_118 lay none (pcl GG lay d) 3)
theorem q_118 (d : Nat) (l1 : Int32) (M : PM) : pcl GG lay (d + 1) 118 [.ref 52, .int l1] M = (kV (pcl GG lay d 115 [.ref 52, .int l1] M) fun M1 => E_118 d (10, [some (.ref 52), some (.int l1), some (.long (Int64.ofNat 0)), none, some (.int (jn 0)), none], [], M1)) := by
  refine (pcl_un (mt := t_118) (by decide) rfl (Nat.le_of_ble_eq_true rfl)).trans ?_
  show E_118 d (0, [some (.ref 52), some (.int l1), none, none, none, none], [], M) = _
  refine (evn_adv 2 (q' := (2, [some (.ref 52), some (.int l1), none, none, none, none], [.int l1, .ref 52], M)) rfl).trans ?_
  refine (e_kV (q := (2, [some (.ref 52), some (.int l1), none, none, none, none], [.int l1, .ref 52])) (q2 := (5, [some (.ref 52), some (.int l1), none, none, none, none], [])) (M := M) (o := (pcl GG lay d 115 [.ref 52, .int l1] M)) (hf := rfl) rfl rfl).trans ?_
  refine kV_in (fun M1 => ?_)
  refine (evn_adv 4 (q' := (10, [some (.ref 52), some (.int l1), some (.long (Int64.ofNat 0)), none, some (.int (jn 0)), none], [], M1)) rfl).trans ?_
  rfl
theorem h_118_10 (d : Nat) (u1 : Option Value) (l2 : Int64) (l4 : Int32) (u5 : Option Value) (M : PM) : E_118 d (10, [some (.ref 52), u1, some (.long l2), none, some (.int l4), u5], [], M) = (if l4 < (M.1 52 19) then E_118 d (22, [some (.ref 52), u1, some (.long l2), none, some (.int l4), some (.int (jn 0))], [], M) else (rL l2 M)) := by
  refine (evn_adv 3 (q' := (16, [some (.ref 52), u1, some (.long l2), none, some (.int l4), u5], [.int (M.1 52 19), .int l4], M)) rfl).trans ?_
  refine (e_ic_ge (hf := rfl)).trans ?_
  refine ite_in ?_ ?_
  · refine (evn_adv 2 (q' := (22, [some (.ref 52), u1, some (.long l2), none, some (.int l4), some (.int (jn 0))], [], M)) rfl).trans ?_
    rfl
  · refine (evn_adv 1 (q' := (62, [some (.ref 52), u1, some (.long l2), none, some (.int l4), u5], [.long l2], M)) rfl).trans ?_
    exact evn_end 1 rfl
theorem h_118_22 (d : Nat) (u1 : Option Value) (l2 : Int64) (l4 : Int32) (l5 : Int32) (M : PM) : E_118 d (22, [some (.ref 52), u1, some (.long l2), none, some (.int l4), some (.int l5)], [], M) = (if l5 < (M.1 52 3) then (kI (pcl GG lay d 114 [.ref 52, .int l5, .int l4] M) fun r1 M1 => (if r1 = jn 0 then E_118 d (22, [some (.ref 52), u1, some (.long l2), none, some (.int l4), some (.int (l5 + (jn 1)))], [], M1) else E_118 d (22, [some (.ref 52), u1, some (.long (l2 ||| ((Int64.ofNat 1) <<< (l4.toInt64 &&& 63)))), none, some (.int l4), some (.int (l5 + (jn 1)))], [], M1))) else E_118 d (10, [some (.ref 52), u1, some (.long l2), none, some (.int (l4 + (jn 1))), some (.int l5)], [], M)) := by
  refine (evn_adv 3 (q' := (28, [some (.ref 52), u1, some (.long l2), none, some (.int l4), some (.int l5)], [.int (M.1 52 3), .int l5], M)) rfl).trans ?_
  refine (e_ic_ge (hf := rfl)).trans ?_
  refine ite_in ?_ ?_
  · refine (evn_adv 3 (q' := (36, [some (.ref 52), u1, some (.long l2), none, some (.int l4), some (.int l5)], [.int l4, .int l5, .ref 52], M)) rfl).trans ?_
    refine (e_kI (q := (36, [some (.ref 52), u1, some (.long l2), none, some (.int l4), some (.int l5)], [.int l4, .int l5, .ref 52])) (q2 := (39, [some (.ref 52), u1, some (.long l2), none, some (.int l4), some (.int l5)], [])) (M := M) (o := (pcl GG lay d 114 [.ref 52, .int l5, .int l4] M)) (hf := rfl) rfl rfl).trans ?_
    refine kI_in (fun r1 M1 => ?_)
    refine (e_if_eq (hf := rfl)).trans ?_
    refine ite_in ?_ ?_
    · refine (evn_adv 2 (q' := (22, [some (.ref 52), u1, some (.long l2), none, some (.int l4), some (.int (l5 + (jn 1)))], [], M1)) rfl).trans ?_
      rfl
    · refine (evn_adv 8 (q' := (22, [some (.ref 52), u1, some (.long (l2 ||| ((Int64.ofNat 1) <<< (l4.toInt64 &&& 63)))), none, some (.int l4), some (.int (l5 + (jn 1)))], [], M1)) rfl).trans ?_
      rfl
  · refine (evn_adv 2 (q' := (10, [some (.ref 52), u1, some (.long l2), none, some (.int (l4 + (jn 1))), some (.int l5)], [], M)) rfl).trans ?_
    rfl
/-- TermStrategiesModel.redexes(I)J -/
noncomputable abbrev E_119 (d : Nat) : PQ → PO := evn (rnn k_119 lay none (pcl GG lay d) 3)
theorem q_119 (d : Nat) (l1 : Int32) (M : PM) : pcl GG lay (d + 1) 119 [.ref 52, .int l1] M = (kI (pcl GG lay d 72 [.ref 52, .int l1] M) fun r1 M1 => (if r1 = jn 0 then (kI (pcl GG lay d 69 [.ref 52, .int (jz 1)] M1) fun r2 M2 => (rL (r2.toInt64) M2)) else (kL (pcl GG lay d 118 [.ref 52, .int l1] M1) fun r2 M2 => (rL r2 M2)))) := by
  refine (pcl_un (mt := t_119) (by decide) rfl (Nat.le_of_ble_eq_true rfl)).trans ?_
  show E_119 d (0, [some (.ref 52), some (.int l1)], [], M) = _
  refine (evn_adv 2 (q' := (2, [some (.ref 52), some (.int l1)], [.int l1, .ref 52], M)) rfl).trans ?_
  refine (e_kI (q := (2, [some (.ref 52), some (.int l1)], [.int l1, .ref 52])) (q2 := (5, [some (.ref 52), some (.int l1)], [])) (M := M) (o := (pcl GG lay d 72 [.ref 52, .int l1] M)) (hf := rfl) rfl rfl).trans ?_
  refine kI_in (fun r1 M1 => ?_)
  refine (e_if_eq (hf := rfl)).trans ?_
  refine ite_in ?_ ?_
  · refine (evn_adv 2 (q' := (18, [some (.ref 52), some (.int l1)], [.int (jz 1), .ref 52], M1)) rfl).trans ?_
    refine (e_kI (q := (18, [some (.ref 52), some (.int l1)], [.int (jz 1), .ref 52])) (q2 := (21, [some (.ref 52), some (.int l1)], [])) (M := M1) (o := (pcl GG lay d 69 [.ref 52, .int (jz 1)] M1)) (hf := rfl) rfl rfl).trans ?_
    refine kI_in (fun r2 M2 => ?_)
    refine (evn_adv 1 (q' := (22, [some (.ref 52), some (.int l1)], [.long (r2.toInt64)], M2)) rfl).trans ?_
    exact evn_end 1 rfl
  · refine (evn_adv 2 (q' := (10, [some (.ref 52), some (.int l1)], [.int l1, .ref 52], M1)) rfl).trans ?_
    refine (e_kL (q := (10, [some (.ref 52), some (.int l1)], [.int l1, .ref 52])) (q2 := (13, [some (.ref 52), some (.int l1)], [])) (M := M1) (o := (pcl GG lay d 118 [.ref 52, .int l1] M1)) (hf := rfl) rfl rfl).trans ?_
    refine kL_in (fun r2 M2 => ?_)
    refine (evn_adv 1 (q' := (22, [some (.ref 52), some (.int l1)], [.long r2], M2)) rfl).trans ?_
    exact evn_end 1 rfl
/-- TermStrategiesModel.builds(I)V -/
noncomputable abbrev E_120 (d : Nat) : PQ → PO := evn (rnn k_120 lay none (pcl GG lay d) 0)
theorem q_120 (d : Nat) (l1 : Int32) (M : PM) : pcl GG lay (d + 1) 120 [.ref 52, .int l1] M = (wr (sI M 52 (va_up (M.1 52) 26 (jn 0))) fun M1 => E_120 d (7, [some (.ref 52), some (.int l1), some (.int (jn 0)), none, none, none, none], [], M1)) := by
  refine (pcl_un (mt := t_120) (by decide) rfl (Nat.le_of_ble_eq_true rfl)).trans ?_
  show E_120 d (0, [some (.ref 52), some (.int l1), none, none, none, none, none], [], M) = _
  refine (evn_adv 2 (q' := (2, [some (.ref 52), some (.int l1), none, none, none, none, none], [.int (jn 0), .ref 52], M)) rfl).trans ?_
  refine (evn_adv 1 (q' := (5, [some (.ref 52), some (.int l1), none, none, none, none, none], [], (sI M 52 (va_up (M.1 52) 26 (jn 0))))) rfl).trans ?_
  refine wr_in (f := fun M1 => E_120 d (5, [some (.ref 52), some (.int l1), none, none, none, none, none], [], M1)) (fun M1 => ?_)
  refine (evn_adv 2 (q' := (7, [some (.ref 52), some (.int l1), some (.int (jn 0)), none, none, none, none], [], M1)) rfl).trans ?_
  rfl
theorem h_120_7 (d : Nat) (l1 : Int32) (l2 : Int32) (u3 : Option Value) (u4 : Option Value) (u5 : Option Value) (u6 : Option Value) (M : PM) : E_120 d (7, [some (.ref 52), some (.int l1), some (.int l2), u3, u4, u5, u6], [], M) = (oB (aldI lay none M 55 (((jn 2) * l1) + (jn 1))) fun v1 => (if l2 < v1 then (oB (aldI lay none M 56 ((((jn 80) * l1) + (jn 40)) + l2)) fun v2 => (kI (pcl GG lay d 76 [.int v2] M) fun r3 M3 => (if r3 = jn 0 then (wr (sI M3 52 (va_up (M3.1 52) 26 ((M3.1 52 26) + (jn 1)))) fun M4 => (oB (astI lay M4 69 (M3.1 52 26) v2) fun M5 => E_120 d (7, [some (.ref 52), some (.int l1), some (.int (l2 + (jn 1))), some (.int v2), u4, u5, u6], [], M5))) else (oB (aldI lay none M3 68 (v2 - (jn 117))) fun v4 => (kI (pcl GG lay d 78 [.ref 65, .int v4] M3) fun r5 M5 => E_120 d (88, [some (.ref 52), some (.int l1), some (.int l2), some (.int v2), some (.int v4), some (.int r5), some (.int (jn 0))], [], M5)))))) else (rV M))) := by
  refine (evn_adv 8 (q' := (17, [some (.ref 52), some (.int l1), some (.int l2), u3, u4, u5, u6], [.int (((jn 2) * l1) + (jn 1)), .ref 55, .int l2], M)) rfl).trans ?_
  refine (e_oB (q := (17, [some (.ref 52), some (.int l1), some (.int l2), u3, u4, u5, u6], [.int (((jn 2) * l1) + (jn 1)), .ref 55, .int l2], M)) (o := (aldI lay none M 55 (((jn 2) * l1) + (jn 1)))) (f := fun v1 => (18, [some (.ref 52), some (.int l1), some (.int l2), u3, u4, u5, u6], [.int v1, .int l2], M)) (hf := rfl) rfl).trans ?_
  refine oB_in (fun v1 => ?_)
  refine (e_ic_ge (hf := rfl)).trans ?_
  refine ite_in ?_ ?_
  · refine (evn_adv 9 (q' := (34, [some (.ref 52), some (.int l1), some (.int l2), u3, u4, u5, u6], [.int ((((jn 80) * l1) + (jn 40)) + l2), .ref 56], M)) rfl).trans ?_
    refine (e_oB (q := (34, [some (.ref 52), some (.int l1), some (.int l2), u3, u4, u5, u6], [.int ((((jn 80) * l1) + (jn 40)) + l2), .ref 56], M)) (o := (aldI lay none M 56 ((((jn 80) * l1) + (jn 40)) + l2))) (f := fun v2 => (35, [some (.ref 52), some (.int l1), some (.int l2), u3, u4, u5, u6], [.int v2], M)) (hf := rfl) rfl).trans ?_
    refine oB_in (fun v2 => ?_)
    refine (evn_adv 2 (q' := (37, [some (.ref 52), some (.int l1), some (.int l2), some (.int v2), u4, u5, u6], [.int v2], M)) rfl).trans ?_
    refine (e_kI (q := (37, [some (.ref 52), some (.int l1), some (.int l2), some (.int v2), u4, u5, u6], [.int v2])) (q2 := (40, [some (.ref 52), some (.int l1), some (.int l2), some (.int v2), u4, u5, u6], [])) (M := M) (o := (pcl GG lay d 76 [.int v2] M)) (hf := rfl) rfl rfl).trans ?_
    refine kI_in (fun r3 M3 => ?_)
    refine (e_if_ne (hf := rfl)).trans ?_
    refine ite_in ?_ ?_
    · refine (evn_adv 8 (q' := (55, [some (.ref 52), some (.int l1), some (.int l2), some (.int v2), u4, u5, u6], [.int ((M3.1 52 26) + (jn 1)), .ref 52, .int (M3.1 52 26), .ref 69], M3)) rfl).trans ?_
      refine (evn_adv 1 (q' := (58, [some (.ref 52), some (.int l1), some (.int l2), some (.int v2), u4, u5, u6], [.int (M3.1 52 26), .ref 69], (sI M3 52 (va_up (M3.1 52) 26 ((M3.1 52 26) + (jn 1)))))) rfl).trans ?_
      refine wr_in (f := fun M4 => E_120 d (58, [some (.ref 52), some (.int l1), some (.int l2), some (.int v2), u4, u5, u6], [.int (M3.1 52 26), .ref 69], M4)) (fun M4 => ?_)
      refine (evn_adv 1 (q' := (59, [some (.ref 52), some (.int l1), some (.int l2), some (.int v2), u4, u5, u6], [.int v2, .int (M3.1 52 26), .ref 69], M4)) rfl).trans ?_
      refine (e_oB (q := (59, [some (.ref 52), some (.int l1), some (.int l2), some (.int v2), u4, u5, u6], [.int v2, .int (M3.1 52 26), .ref 69], M4)) (o := (astI lay M4 69 (M3.1 52 26) v2)) (f := fun M5 => (60, [some (.ref 52), some (.int l1), some (.int l2), some (.int v2), u4, u5, u6], [], M5)) (hf := rfl) rfl).trans ?_
      refine oB_in (fun M5 => ?_)
      refine (evn_adv 3 (q' := (7, [some (.ref 52), some (.int l1), some (.int (l2 + (jn 1))), some (.int v2), u4, u5, u6], [], M5)) rfl).trans ?_
      rfl
    · refine (evn_adv 5 (q' := (71, [some (.ref 52), some (.int l1), some (.int l2), some (.int v2), u4, u5, u6], [.int (v2 - (jn 117)), .ref 68], M3)) rfl).trans ?_
      refine (e_oB (q := (71, [some (.ref 52), some (.int l1), some (.int l2), some (.int v2), u4, u5, u6], [.int (v2 - (jn 117)), .ref 68], M3)) (o := (aldI lay none M3 68 (v2 - (jn 117)))) (f := fun v4 => (72, [some (.ref 52), some (.int l1), some (.int l2), some (.int v2), u4, u5, u6], [.int v4], M3)) (hf := rfl) rfl).trans ?_
      refine oB_in (fun v4 => ?_)
      refine (evn_adv 4 (q' := (80, [some (.ref 52), some (.int l1), some (.int l2), some (.int v2), some (.int v4), u5, u6], [.int v4, .ref 65], M3)) rfl).trans ?_
      refine (e_kI (q := (80, [some (.ref 52), some (.int l1), some (.int l2), some (.int v2), some (.int v4), u5, u6], [.int v4, .ref 65])) (q2 := (83, [some (.ref 52), some (.int l1), some (.int l2), some (.int v2), some (.int v4), u5, u6], [])) (M := M3) (o := (pcl GG lay d 78 [.ref 65, .int v4] M3)) (hf := rfl) rfl rfl).trans ?_
      refine kI_in (fun r5 M5 => ?_)
      refine (evn_adv 3 (q' := (88, [some (.ref 52), some (.int l1), some (.int l2), some (.int v2), some (.int v4), some (.int r5), some (.int (jn 0))], [], M5)) rfl).trans ?_
      rfl
  · exact evn_end 1 rfl
theorem h_120_88 (d : Nat) (l1 : Int32) (l2 : Int32) (u3 : Option Value) (l4 : Int32) (l5 : Int32) (l6 : Int32) (M : PM) : E_120 d (88, [some (.ref 52), some (.int l1), some (.int l2), u3, some (.int l4), some (.int l5), some (.int l6)], [], M) = (if l6 < l5 then (wr (sI M 52 (va_up (M.1 52) 26 ((M.1 52 26) + (jn 1)))) fun M1 => (oB (aldI lay none M1 65 (l4 + l6)) fun v2 => (oB (astI lay M1 69 (M.1 52 26) v2) fun M3 => E_120 d (88, [some (.ref 52), some (.int l1), some (.int l2), u3, some (.int l4), some (.int l5), some (.int (l6 + (jn 1)))], [], M3)))) else E_120 d (7, [some (.ref 52), some (.int l1), some (.int (l2 + (jn 1))), u3, some (.int l4), some (.int l5), some (.int l6)], [], M)) := by
  refine (evn_adv 2 (q' := (92, [some (.ref 52), some (.int l1), some (.int l2), u3, some (.int l4), some (.int l5), some (.int l6)], [.int l5, .int l6], M)) rfl).trans ?_
  refine (e_ic_ge (hf := rfl)).trans ?_
  refine ite_in ?_ ?_
  · refine (evn_adv 8 (q' := (107, [some (.ref 52), some (.int l1), some (.int l2), u3, some (.int l4), some (.int l5), some (.int l6)], [.int ((M.1 52 26) + (jn 1)), .ref 52, .int (M.1 52 26), .ref 69], M)) rfl).trans ?_
    refine (evn_adv 1 (q' := (110, [some (.ref 52), some (.int l1), some (.int l2), u3, some (.int l4), some (.int l5), some (.int l6)], [.int (M.1 52 26), .ref 69], (sI M 52 (va_up (M.1 52) 26 ((M.1 52 26) + (jn 1)))))) rfl).trans ?_
    refine wr_in (f := fun M1 => E_120 d (110, [some (.ref 52), some (.int l1), some (.int l2), u3, some (.int l4), some (.int l5), some (.int l6)], [.int (M.1 52 26), .ref 69], M1)) (fun M1 => ?_)
    refine (evn_adv 5 (q' := (119, [some (.ref 52), some (.int l1), some (.int l2), u3, some (.int l4), some (.int l5), some (.int l6)], [.int (l4 + l6), .ref 65, .int (M.1 52 26), .ref 69], M1)) rfl).trans ?_
    refine (e_oB (q := (119, [some (.ref 52), some (.int l1), some (.int l2), u3, some (.int l4), some (.int l5), some (.int l6)], [.int (l4 + l6), .ref 65, .int (M.1 52 26), .ref 69], M1)) (o := (aldI lay none M1 65 (l4 + l6))) (f := fun v2 => (120, [some (.ref 52), some (.int l1), some (.int l2), u3, some (.int l4), some (.int l5), some (.int l6)], [.int v2, .int (M.1 52 26), .ref 69], M1)) (hf := rfl) rfl).trans ?_
    refine oB_in (fun v2 => ?_)
    refine (e_oB (q := (120, [some (.ref 52), some (.int l1), some (.int l2), u3, some (.int l4), some (.int l5), some (.int l6)], [.int v2, .int (M.1 52 26), .ref 69], M1)) (o := (astI lay M1 69 (M.1 52 26) v2)) (f := fun M3 => (121, [some (.ref 52), some (.int l1), some (.int l2), u3, some (.int l4), some (.int l5), some (.int l6)], [], M3)) (hf := rfl) rfl).trans ?_
    refine oB_in (fun M3 => ?_)
    refine (evn_adv 2 (q' := (88, [some (.ref 52), some (.int l1), some (.int l2), u3, some (.int l4), some (.int l5), some (.int (l6 + (jn 1)))], [], M3)) rfl).trans ?_
    rfl
  · refine (evn_adv 2 (q' := (7, [some (.ref 52), some (.int l1), some (.int (l2 + (jn 1))), u3, some (.int l4), some (.int l5), some (.int l6)], [], M)) rfl).trans ?_
    rfl
/-- TermStrategiesModel.becomes(I[III)V -/
noncomputable abbrev E_121 (d : Nat) : PQ → PO := evn (rnn k_121 lay none (pcl GG lay d) 0)
theorem q_121 (d : Nat) (l1 : Int32) (l2 : Nat) (l3 : Int32) (l4 : Int32) (M : PM) : pcl GG lay (d + 1) 121 [.ref 52, .int l1, .ref l2, .int l3, .int l4] M = (kI (pcl GG lay d 78 [.ref 65, .int l1] M) fun r1 M1 => (if jn 0 < (l4 - r1) then E_121 d (30, [some (.ref 52), some (.int l1), some (.ref l2), some (.int l3), some (.int l4), some (.int r1), some (.int (l4 - r1)), some (.int ((M1.1 52 19) - (jn 1)))], [], M1) else (if (l4 - r1) < jn 0 then E_121 d (73, [some (.ref 52), some (.int l1), some (.ref l2), some (.int l3), some (.int l4), some (.int r1), some (.int (l4 - r1)), some (.int (l1 + r1))], [], M1) else (wr (sI M1 52 (va_up (M1.1 52) 19 ((M1.1 52 19) + (l4 - r1)))) fun M2 => E_121 d (119, [some (.ref 52), some (.int l1), some (.ref l2), some (.int l3), some (.int l4), some (.int r1), some (.int (l4 - r1)), some (.int (jn 0))], [], M2))))) := by
  refine (pcl_un (mt := t_121) (by decide) rfl (Nat.le_of_ble_eq_true rfl)).trans ?_
  show E_121 d (0, [some (.ref 52), some (.int l1), some (.ref l2), some (.int l3), some (.int l4), none, none, none], [], M) = _
  refine (evn_adv 3 (q' := (5, [some (.ref 52), some (.int l1), some (.ref l2), some (.int l3), some (.int l4), none, none, none], [.int l1, .ref 65], M)) rfl).trans ?_
  refine (e_kI (q := (5, [some (.ref 52), some (.int l1), some (.ref l2), some (.int l3), some (.int l4), none, none, none], [.int l1, .ref 65])) (q2 := (8, [some (.ref 52), some (.int l1), some (.ref l2), some (.int l3), some (.int l4), none, none, none], [])) (M := M) (o := (pcl GG lay d 78 [.ref 65, .int l1] M)) (hf := rfl) rfl rfl).trans ?_
  refine kI_in (fun r1 M1 => ?_)
  refine (evn_adv 6 (q' := (19, [some (.ref 52), some (.int l1), some (.ref l2), some (.int l3), some (.int l4), some (.int r1), some (.int (l4 - r1)), none], [.int (l4 - r1)], M1)) rfl).trans ?_
  refine (e_if_le (hf := rfl)).trans ?_
  refine ite_in ?_ ?_
  · refine (evn_adv 5 (q' := (30, [some (.ref 52), some (.int l1), some (.ref l2), some (.int l3), some (.int l4), some (.int r1), some (.int (l4 - r1)), some (.int ((M1.1 52 19) - (jn 1)))], [], M1)) rfl).trans ?_
    rfl
  · refine (evn_adv 1 (q' := (64, [some (.ref 52), some (.int l1), some (.ref l2), some (.int l3), some (.int l4), some (.int r1), some (.int (l4 - r1)), none], [.int (l4 - r1)], M1)) rfl).trans ?_
    refine (e_if_ge (hf := rfl)).trans ?_
    refine ite_in ?_ ?_
    · refine (evn_adv 4 (q' := (73, [some (.ref 52), some (.int l1), some (.ref l2), some (.int l3), some (.int l4), some (.int r1), some (.int (l4 - r1)), some (.int (l1 + r1))], [], M1)) rfl).trans ?_
      rfl
    · refine (evn_adv 5 (q' := (113, [some (.ref 52), some (.int l1), some (.ref l2), some (.int l3), some (.int l4), some (.int r1), some (.int (l4 - r1)), none], [.int ((M1.1 52 19) + (l4 - r1)), .ref 52], M1)) rfl).trans ?_
      refine (evn_adv 1 (q' := (116, [some (.ref 52), some (.int l1), some (.ref l2), some (.int l3), some (.int l4), some (.int r1), some (.int (l4 - r1)), none], [], (sI M1 52 (va_up (M1.1 52) 19 ((M1.1 52 19) + (l4 - r1)))))) rfl).trans ?_
      refine wr_in (f := fun M2 => E_121 d (116, [some (.ref 52), some (.int l1), some (.ref l2), some (.int l3), some (.int l4), some (.int r1), some (.int (l4 - r1)), none], [], M2)) (fun M2 => ?_)
      refine (evn_adv 2 (q' := (119, [some (.ref 52), some (.int l1), some (.ref l2), some (.int l3), some (.int l4), some (.int r1), some (.int (l4 - r1)), some (.int (jn 0))], [], M2)) rfl).trans ?_
      rfl
theorem h_121_30 (d : Nat) (l1 : Int32) (l2 : Nat) (l3 : Int32) (l4 : Int32) (l5 : Int32) (l6 : Int32) (l7 : Int32) (M : PM) : E_121 d (30, [some (.ref 52), some (.int l1), some (.ref l2), some (.int l3), some (.int l4), some (.int l5), some (.int l6), some (.int l7)], [], M) = (if l7 < (l1 + l5) then (if l6 < jn 0 then E_121 d (73, [some (.ref 52), some (.int l1), some (.ref l2), some (.int l3), some (.int l4), some (.int l5), some (.int l6), some (.int (l1 + l5))], [], M) else (wr (sI M 52 (va_up (M.1 52) 19 ((M.1 52 19) + l6))) fun M1 => E_121 d (119, [some (.ref 52), some (.int l1), some (.ref l2), some (.int l3), some (.int l4), some (.int l5), some (.int l6), some (.int (jn 0))], [], M1))) else (oB (aldI lay none M 65 l7) fun v1 => (oB (astI lay M 65 (l7 + l6) v1) fun M2 => E_121 d (30, [some (.ref 52), some (.int l1), some (.ref l2), some (.int l3), some (.int l4), some (.int l5), some (.int l6), some (.int (l7 + (jz 1)))], [], M2)))) := by
  refine (evn_adv 4 (q' := (36, [some (.ref 52), some (.int l1), some (.ref l2), some (.int l3), some (.int l4), some (.int l5), some (.int l6), some (.int l7)], [.int (l1 + l5), .int l7], M)) rfl).trans ?_
  refine (e_ic_lt (hf := rfl)).trans ?_
  refine ite_in ?_ ?_
  · refine (evn_adv 1 (q' := (64, [some (.ref 52), some (.int l1), some (.ref l2), some (.int l3), some (.int l4), some (.int l5), some (.int l6), some (.int l7)], [.int l6], M)) rfl).trans ?_
    refine (e_if_ge (hf := rfl)).trans ?_
    refine ite_in ?_ ?_
    · refine (evn_adv 4 (q' := (73, [some (.ref 52), some (.int l1), some (.ref l2), some (.int l3), some (.int l4), some (.int l5), some (.int l6), some (.int (l1 + l5))], [], M)) rfl).trans ?_
      rfl
    · refine (evn_adv 5 (q' := (113, [some (.ref 52), some (.int l1), some (.ref l2), some (.int l3), some (.int l4), some (.int l5), some (.int l6), some (.int l7)], [.int ((M.1 52 19) + l6), .ref 52], M)) rfl).trans ?_
      refine (evn_adv 1 (q' := (116, [some (.ref 52), some (.int l1), some (.ref l2), some (.int l3), some (.int l4), some (.int l5), some (.int l6), some (.int l7)], [], (sI M 52 (va_up (M.1 52) 19 ((M.1 52 19) + l6))))) rfl).trans ?_
      refine wr_in (f := fun M1 => E_121 d (116, [some (.ref 52), some (.int l1), some (.ref l2), some (.int l3), some (.int l4), some (.int l5), some (.int l6), some (.int l7)], [], M1)) (fun M1 => ?_)
      refine (evn_adv 2 (q' := (119, [some (.ref 52), some (.int l1), some (.ref l2), some (.int l3), some (.int l4), some (.int l5), some (.int l6), some (.int (jn 0))], [], M1)) rfl).trans ?_
      rfl
  · refine (evn_adv 8 (q' := (54, [some (.ref 52), some (.int l1), some (.ref l2), some (.int l3), some (.int l4), some (.int l5), some (.int l6), some (.int l7)], [.int l7, .ref 65, .int (l7 + l6), .ref 65], M)) rfl).trans ?_
    refine (e_oB (q := (54, [some (.ref 52), some (.int l1), some (.ref l2), some (.int l3), some (.int l4), some (.int l5), some (.int l6), some (.int l7)], [.int l7, .ref 65, .int (l7 + l6), .ref 65], M)) (o := (aldI lay none M 65 l7)) (f := fun v1 => (55, [some (.ref 52), some (.int l1), some (.ref l2), some (.int l3), some (.int l4), some (.int l5), some (.int l6), some (.int l7)], [.int v1, .int (l7 + l6), .ref 65], M)) (hf := rfl) rfl).trans ?_
    refine oB_in (fun v1 => ?_)
    refine (e_oB (q := (55, [some (.ref 52), some (.int l1), some (.ref l2), some (.int l3), some (.int l4), some (.int l5), some (.int l6), some (.int l7)], [.int v1, .int (l7 + l6), .ref 65], M)) (o := (astI lay M 65 (l7 + l6) v1)) (f := fun M2 => (56, [some (.ref 52), some (.int l1), some (.ref l2), some (.int l3), some (.int l4), some (.int l5), some (.int l6), some (.int l7)], [], M2)) (hf := rfl) rfl).trans ?_
    refine oB_in (fun M2 => ?_)
    refine (evn_adv 2 (q' := (30, [some (.ref 52), some (.int l1), some (.ref l2), some (.int l3), some (.int l4), some (.int l5), some (.int l6), some (.int (l7 + (jz 1)))], [], M2)) rfl).trans ?_
    rfl
theorem h_121_73 (d : Nat) (l1 : Int32) (l2 : Nat) (l3 : Int32) (l4 : Int32) (u5 : Option Value) (l6 : Int32) (l7 : Int32) (M : PM) : E_121 d (73, [some (.ref 52), some (.int l1), some (.ref l2), some (.int l3), some (.int l4), u5, some (.int l6), some (.int l7)], [], M) = (if l7 < (M.1 52 19) then (oB (aldI lay none M 65 l7) fun v1 => (oB (astI lay M 65 (l7 + l6) v1) fun M2 => E_121 d (73, [some (.ref 52), some (.int l1), some (.ref l2), some (.int l3), some (.int l4), u5, some (.int l6), some (.int (l7 + (jn 1)))], [], M2))) else (wr (sI M 52 (va_up (M.1 52) 19 ((M.1 52 19) + l6))) fun M1 => E_121 d (119, [some (.ref 52), some (.int l1), some (.ref l2), some (.int l3), some (.int l4), u5, some (.int l6), some (.int (jn 0))], [], M1))) := by
  refine (evn_adv 3 (q' := (79, [some (.ref 52), some (.int l1), some (.ref l2), some (.int l3), some (.int l4), u5, some (.int l6), some (.int l7)], [.int (M.1 52 19), .int l7], M)) rfl).trans ?_
  refine (e_ic_ge (hf := rfl)).trans ?_
  refine ite_in ?_ ?_
  · refine (evn_adv 8 (q' := (97, [some (.ref 52), some (.int l1), some (.ref l2), some (.int l3), some (.int l4), u5, some (.int l6), some (.int l7)], [.int l7, .ref 65, .int (l7 + l6), .ref 65], M)) rfl).trans ?_
    refine (e_oB (q := (97, [some (.ref 52), some (.int l1), some (.ref l2), some (.int l3), some (.int l4), u5, some (.int l6), some (.int l7)], [.int l7, .ref 65, .int (l7 + l6), .ref 65], M)) (o := (aldI lay none M 65 l7)) (f := fun v1 => (98, [some (.ref 52), some (.int l1), some (.ref l2), some (.int l3), some (.int l4), u5, some (.int l6), some (.int l7)], [.int v1, .int (l7 + l6), .ref 65], M)) (hf := rfl) rfl).trans ?_
    refine oB_in (fun v1 => ?_)
    refine (e_oB (q := (98, [some (.ref 52), some (.int l1), some (.ref l2), some (.int l3), some (.int l4), u5, some (.int l6), some (.int l7)], [.int v1, .int (l7 + l6), .ref 65], M)) (o := (astI lay M 65 (l7 + l6) v1)) (f := fun M2 => (99, [some (.ref 52), some (.int l1), some (.ref l2), some (.int l3), some (.int l4), u5, some (.int l6), some (.int l7)], [], M2)) (hf := rfl) rfl).trans ?_
    refine oB_in (fun M2 => ?_)
    refine (evn_adv 2 (q' := (73, [some (.ref 52), some (.int l1), some (.ref l2), some (.int l3), some (.int l4), u5, some (.int l6), some (.int (l7 + (jn 1)))], [], M2)) rfl).trans ?_
    rfl
  · refine (evn_adv 5 (q' := (113, [some (.ref 52), some (.int l1), some (.ref l2), some (.int l3), some (.int l4), u5, some (.int l6), some (.int l7)], [.int ((M.1 52 19) + l6), .ref 52], M)) rfl).trans ?_
    refine (evn_adv 1 (q' := (116, [some (.ref 52), some (.int l1), some (.ref l2), some (.int l3), some (.int l4), u5, some (.int l6), some (.int l7)], [], (sI M 52 (va_up (M.1 52) 19 ((M.1 52 19) + l6))))) rfl).trans ?_
    refine wr_in (f := fun M1 => E_121 d (116, [some (.ref 52), some (.int l1), some (.ref l2), some (.int l3), some (.int l4), u5, some (.int l6), some (.int l7)], [], M1)) (fun M1 => ?_)
    refine (evn_adv 2 (q' := (119, [some (.ref 52), some (.int l1), some (.ref l2), some (.int l3), some (.int l4), u5, some (.int l6), some (.int (jn 0))], [], M1)) rfl).trans ?_
    rfl
theorem h_121_119 (d : Nat) (l1 : Int32) (l2 : Nat) (l3 : Int32) (l4 : Int32) (u5 : Option Value) (u6 : Option Value) (l7 : Int32) (M : PM) : E_121 d (119, [some (.ref 52), some (.int l1), some (.ref l2), some (.int l3), some (.int l4), u5, u6, some (.int l7)], [], M) = (if l7 < l4 then (oB (aldI lay none M l2 (l3 + l7)) fun v1 => (oB (astI lay M 65 (l1 + l7) v1) fun M2 => E_121 d (119, [some (.ref 52), some (.int l1), some (.ref l2), some (.int l3), some (.int l4), u5, u6, some (.int (l7 + (jn 1)))], [], M2))) else (rV M)) := by
  refine (evn_adv 2 (q' := (123, [some (.ref 52), some (.int l1), some (.ref l2), some (.int l3), some (.int l4), u5, u6, some (.int l7)], [.int l4, .int l7], M)) rfl).trans ?_
  refine (e_ic_ge (hf := rfl)).trans ?_
  refine ite_in ?_ ?_
  · refine (evn_adv 9 (q' := (139, [some (.ref 52), some (.int l1), some (.ref l2), some (.int l3), some (.int l4), u5, u6, some (.int l7)], [.int (l3 + l7), .ref l2, .int (l1 + l7), .ref 65], M)) rfl).trans ?_
    refine (e_oB (q := (139, [some (.ref 52), some (.int l1), some (.ref l2), some (.int l3), some (.int l4), u5, u6, some (.int l7)], [.int (l3 + l7), .ref l2, .int (l1 + l7), .ref 65], M)) (o := (aldI lay none M l2 (l3 + l7))) (f := fun v1 => (140, [some (.ref 52), some (.int l1), some (.ref l2), some (.int l3), some (.int l4), u5, u6, some (.int l7)], [.int v1, .int (l1 + l7), .ref 65], M)) (hf := rfl) rfl).trans ?_
    refine oB_in (fun v1 => ?_)
    refine (e_oB (q := (140, [some (.ref 52), some (.int l1), some (.ref l2), some (.int l3), some (.int l4), u5, u6, some (.int l7)], [.int v1, .int (l1 + l7), .ref 65], M)) (o := (astI lay M 65 (l1 + l7) v1)) (f := fun M2 => (141, [some (.ref 52), some (.int l1), some (.ref l2), some (.int l3), some (.int l4), u5, u6, some (.int l7)], [], M2)) (hf := rfl) rfl).trans ?_
    refine oB_in (fun M2 => ?_)
    refine (evn_adv 2 (q' := (119, [some (.ref 52), some (.int l1), some (.ref l2), some (.int l3), some (.int l4), u5, u6, some (.int (l7 + (jn 1)))], [], M2)) rfl).trans ?_
    rfl
  · exact evn_end 1 rfl
/-- TermStrategiesModel.rewrite(III)I -/
noncomputable abbrev E_122 (d : Nat) : PQ → PO := evn (rnn k_122 lay none (pcl GG lay d) 1)
theorem q_122 (d : Nat) (l1 : Int32) (l2 : Int32) (l3 : Int32) (M : PM) : pcl GG lay (d + 1) 122 [.ref 52, .int l1, .int l2, .int l3] M = (kI (pcl GG lay d 73 [.ref 52, .int l1] M) fun r1 M1 => (if r1 = jn 0 then (kI (pcl GG lay d 69 [.ref 52, .int (jz 1)] M1) fun r2 M2 => (rI r2 M2)) else (kI (pcl GG lay d 72 [.ref 52, .int l2] M1) fun r2 M2 => (if r2 = jn 0 then (kI (pcl GG lay d 69 [.ref 52, .int (jz 1)] M2) fun r3 M3 => (rI r3 M3)) else (oB (aldI lay none M2 53 l2) fun v3 => (kI (pcl GG lay d 71 [.int l3, .int (jn 0), .int (v3 - (jn 1))] M2) fun r4 M4 => (if r4 = jn 0 then (kI (pcl GG lay d 69 [.ref 52, .int (jz 5)] M4) fun r5 M5 => (rI r5 M5)) else (kV (pcl GG lay d 115 [.ref 52, .int l2] M4) fun M5 => (kI (pcl GG lay d 114 [.ref 52, .int l1, .int l3] M5) fun r6 M6 => (if r6 = jn 0 then (kI (pcl GG lay d 69 [.ref 52, .int (jz 6)] M6) fun r7 M7 => (rI r7 M7)) else (kV (pcl GG lay d 120 [.ref 52, .int l1] M6) fun M7 => (kI (pcl GG lay d 78 [.ref 65, .int l3] M7) fun r8 M8 => (if (jn 40) < (((M7.1 52 19) - r8) + (M8.1 52 26)) then (kI (pcl GG lay d 69 [.ref 52, .int (jz 7)] M8) fun r9 M9 => (rI r9 M9)) else (if (M8.1 52 0) = (jn 24) then (kI (pcl GG lay d 69 [.ref 52, .int (jz 7)] M8) fun r9 M9 => (rI r9 M9)) else (kV (pcl GG lay d 121 [.ref 52, .int l3, .ref 69, .int (jn 0), .int (M8.1 52 26)] M8) fun M9 => (kI (pcl GG lay d 92 [.ref 52, .ref 65, .int (M9.1 52 19)] M9) fun r10 M10 => (rI r10 M10))))))))))))))))) := by
  refine (pcl_un (mt := t_122) (by decide) rfl (Nat.le_of_ble_eq_true rfl)).trans ?_
  show E_122 d (0, [some (.ref 52), some (.int l1), some (.int l2), some (.int l3)], [], M) = _
  refine (evn_adv 2 (q' := (2, [some (.ref 52), some (.int l1), some (.int l2), some (.int l3)], [.int l1, .ref 52], M)) rfl).trans ?_
  refine (e_kI (q := (2, [some (.ref 52), some (.int l1), some (.int l2), some (.int l3)], [.int l1, .ref 52])) (q2 := (5, [some (.ref 52), some (.int l1), some (.int l2), some (.int l3)], [])) (M := M) (o := (pcl GG lay d 73 [.ref 52, .int l1] M)) (hf := rfl) rfl rfl).trans ?_
  refine kI_in (fun r1 M1 => ?_)
  refine (e_if_eq (hf := rfl)).trans ?_
  refine ite_in ?_ ?_
  · refine (evn_adv 2 (q' := (18, [some (.ref 52), some (.int l1), some (.int l2), some (.int l3)], [.int (jz 1), .ref 52], M1)) rfl).trans ?_
    refine (e_kI (q := (18, [some (.ref 52), some (.int l1), some (.int l2), some (.int l3)], [.int (jz 1), .ref 52])) (q2 := (21, [some (.ref 52), some (.int l1), some (.int l2), some (.int l3)], [])) (M := M1) (o := (pcl GG lay d 69 [.ref 52, .int (jz 1)] M1)) (hf := rfl) rfl rfl).trans ?_
    refine kI_in (fun r2 M2 => ?_)
    exact evn_end 1 rfl
  · refine (evn_adv 2 (q' := (10, [some (.ref 52), some (.int l1), some (.int l2), some (.int l3)], [.int l2, .ref 52], M1)) rfl).trans ?_
    refine (e_kI (q := (10, [some (.ref 52), some (.int l1), some (.int l2), some (.int l3)], [.int l2, .ref 52])) (q2 := (13, [some (.ref 52), some (.int l1), some (.int l2), some (.int l3)], [])) (M := M1) (o := (pcl GG lay d 72 [.ref 52, .int l2] M1)) (hf := rfl) rfl rfl).trans ?_
    refine kI_in (fun r2 M2 => ?_)
    refine (e_if_ne (hf := rfl)).trans ?_
    refine ite_in ?_ ?_
    · refine (evn_adv 2 (q' := (18, [some (.ref 52), some (.int l1), some (.int l2), some (.int l3)], [.int (jz 1), .ref 52], M2)) rfl).trans ?_
      refine (e_kI (q := (18, [some (.ref 52), some (.int l1), some (.int l2), some (.int l3)], [.int (jz 1), .ref 52])) (q2 := (21, [some (.ref 52), some (.int l1), some (.int l2), some (.int l3)], [])) (M := M2) (o := (pcl GG lay d 69 [.ref 52, .int (jz 1)] M2)) (hf := rfl) rfl rfl).trans ?_
      refine kI_in (fun r3 M3 => ?_)
      exact evn_end 1 rfl
    · refine (evn_adv 5 (q' := (29, [some (.ref 52), some (.int l1), some (.int l2), some (.int l3)], [.int l2, .ref 53, .int (jn 0), .int l3], M2)) rfl).trans ?_
      refine (e_oB (q := (29, [some (.ref 52), some (.int l1), some (.int l2), some (.int l3)], [.int l2, .ref 53, .int (jn 0), .int l3], M2)) (o := (aldI lay none M2 53 l2)) (f := fun v3 => (30, [some (.ref 52), some (.int l1), some (.int l2), some (.int l3)], [.int v3, .int (jn 0), .int l3], M2)) (hf := rfl) rfl).trans ?_
      refine oB_in (fun v3 => ?_)
      refine (evn_adv 2 (q' := (32, [some (.ref 52), some (.int l1), some (.int l2), some (.int l3)], [.int (v3 - (jn 1)), .int (jn 0), .int l3], M2)) rfl).trans ?_
      refine (e_kI (q := (32, [some (.ref 52), some (.int l1), some (.int l2), some (.int l3)], [.int (v3 - (jn 1)), .int (jn 0), .int l3])) (q2 := (35, [some (.ref 52), some (.int l1), some (.int l2), some (.int l3)], [])) (M := M2) (o := (pcl GG lay d 71 [.int l3, .int (jn 0), .int (v3 - (jn 1))] M2)) (hf := rfl) rfl rfl).trans ?_
      refine kI_in (fun r4 M4 => ?_)
      refine (e_if_ne (hf := rfl)).trans ?_
      refine ite_in ?_ ?_
      · refine (evn_adv 2 (q' := (41, [some (.ref 52), some (.int l1), some (.int l2), some (.int l3)], [.int (jz 5), .ref 52], M4)) rfl).trans ?_
        refine (e_kI (q := (41, [some (.ref 52), some (.int l1), some (.int l2), some (.int l3)], [.int (jz 5), .ref 52])) (q2 := (44, [some (.ref 52), some (.int l1), some (.int l2), some (.int l3)], [])) (M := M4) (o := (pcl GG lay d 69 [.ref 52, .int (jz 5)] M4)) (hf := rfl) rfl rfl).trans ?_
        refine kI_in (fun r5 M5 => ?_)
        exact evn_end 1 rfl
      · refine (evn_adv 2 (q' := (47, [some (.ref 52), some (.int l1), some (.int l2), some (.int l3)], [.int l2, .ref 52], M4)) rfl).trans ?_
        refine (e_kV (q := (47, [some (.ref 52), some (.int l1), some (.int l2), some (.int l3)], [.int l2, .ref 52])) (q2 := (50, [some (.ref 52), some (.int l1), some (.int l2), some (.int l3)], [])) (M := M4) (o := (pcl GG lay d 115 [.ref 52, .int l2] M4)) (hf := rfl) rfl rfl).trans ?_
        refine kV_in (fun M5 => ?_)
        refine (evn_adv 3 (q' := (53, [some (.ref 52), some (.int l1), some (.int l2), some (.int l3)], [.int l3, .int l1, .ref 52], M5)) rfl).trans ?_
        refine (e_kI (q := (53, [some (.ref 52), some (.int l1), some (.int l2), some (.int l3)], [.int l3, .int l1, .ref 52])) (q2 := (56, [some (.ref 52), some (.int l1), some (.int l2), some (.int l3)], [])) (M := M5) (o := (pcl GG lay d 114 [.ref 52, .int l1, .int l3] M5)) (hf := rfl) rfl rfl).trans ?_
        refine kI_in (fun r6 M6 => ?_)
        refine (e_if_ne (hf := rfl)).trans ?_
        refine ite_in ?_ ?_
        · refine (evn_adv 2 (q' := (62, [some (.ref 52), some (.int l1), some (.int l2), some (.int l3)], [.int (jz 6), .ref 52], M6)) rfl).trans ?_
          refine (e_kI (q := (62, [some (.ref 52), some (.int l1), some (.int l2), some (.int l3)], [.int (jz 6), .ref 52])) (q2 := (65, [some (.ref 52), some (.int l1), some (.int l2), some (.int l3)], [])) (M := M6) (o := (pcl GG lay d 69 [.ref 52, .int (jz 6)] M6)) (hf := rfl) rfl rfl).trans ?_
          refine kI_in (fun r7 M7 => ?_)
          exact evn_end 1 rfl
        · refine (evn_adv 2 (q' := (68, [some (.ref 52), some (.int l1), some (.int l2), some (.int l3)], [.int l1, .ref 52], M6)) rfl).trans ?_
          refine (e_kV (q := (68, [some (.ref 52), some (.int l1), some (.int l2), some (.int l3)], [.int l1, .ref 52])) (q2 := (71, [some (.ref 52), some (.int l1), some (.int l2), some (.int l3)], [])) (M := M6) (o := (pcl GG lay d 120 [.ref 52, .int l1] M6)) (hf := rfl) rfl rfl).trans ?_
          refine kV_in (fun M7 => ?_)
          refine (evn_adv 5 (q' := (80, [some (.ref 52), some (.int l1), some (.int l2), some (.int l3)], [.int l3, .ref 65, .int (M7.1 52 19)], M7)) rfl).trans ?_
          refine (e_kI (q := (80, [some (.ref 52), some (.int l1), some (.int l2), some (.int l3)], [.int l3, .ref 65, .int (M7.1 52 19)])) (q2 := (83, [some (.ref 52), some (.int l1), some (.int l2), some (.int l3)], [.int (M7.1 52 19)])) (M := M7) (o := (pcl GG lay d 78 [.ref 65, .int l3] M7)) (hf := rfl) rfl rfl).trans ?_
          refine kI_in (fun r8 M8 => ?_)
          refine (evn_adv 5 (q' := (91, [some (.ref 52), some (.int l1), some (.int l2), some (.int l3)], [.int (jn 40), .int (((M7.1 52 19) - r8) + (M8.1 52 26))], M8)) rfl).trans ?_
          refine (e_ic_gt (hf := rfl)).trans ?_
          refine ite_in ?_ ?_
          · refine (evn_adv 2 (q' := (106, [some (.ref 52), some (.int l1), some (.int l2), some (.int l3)], [.int (jz 7), .ref 52], M8)) rfl).trans ?_
            refine (e_kI (q := (106, [some (.ref 52), some (.int l1), some (.int l2), some (.int l3)], [.int (jz 7), .ref 52])) (q2 := (109, [some (.ref 52), some (.int l1), some (.int l2), some (.int l3)], [])) (M := M8) (o := (pcl GG lay d 69 [.ref 52, .int (jz 7)] M8)) (hf := rfl) rfl rfl).trans ?_
            refine kI_in (fun r9 M9 => ?_)
            exact evn_end 1 rfl
          · refine (evn_adv 3 (q' := (100, [some (.ref 52), some (.int l1), some (.int l2), some (.int l3)], [.int (jn 24), .int (M8.1 52 0)], M8)) rfl).trans ?_
            refine (e_ic_ne (hf := rfl)).trans ?_
            refine ite_in ?_ ?_
            · refine (evn_adv 2 (q' := (106, [some (.ref 52), some (.int l1), some (.int l2), some (.int l3)], [.int (jz 7), .ref 52], M8)) rfl).trans ?_
              refine (e_kI (q := (106, [some (.ref 52), some (.int l1), some (.int l2), some (.int l3)], [.int (jz 7), .ref 52])) (q2 := (109, [some (.ref 52), some (.int l1), some (.int l2), some (.int l3)], [])) (M := M8) (o := (pcl GG lay d 69 [.ref 52, .int (jz 7)] M8)) (hf := rfl) rfl rfl).trans ?_
              refine kI_in (fun r9 M9 => ?_)
              exact evn_end 1 rfl
            · refine (evn_adv 7 (q' := (121, [some (.ref 52), some (.int l1), some (.int l2), some (.int l3)], [.int (M8.1 52 26), .int (jn 0), .ref 69, .int l3, .ref 52], M8)) rfl).trans ?_
              refine (e_kV (q := (121, [some (.ref 52), some (.int l1), some (.int l2), some (.int l3)], [.int (M8.1 52 26), .int (jn 0), .ref 69, .int l3, .ref 52])) (q2 := (124, [some (.ref 52), some (.int l1), some (.int l2), some (.int l3)], [])) (M := M8) (o := (pcl GG lay d 121 [.ref 52, .int l3, .ref 69, .int (jn 0), .int (M8.1 52 26)] M8)) (hf := rfl) rfl rfl).trans ?_
              refine kV_in (fun M9 => ?_)
              refine (evn_adv 5 (q' := (133, [some (.ref 52), some (.int l1), some (.int l2), some (.int l3)], [.int (M9.1 52 19), .ref 65, .ref 52], M9)) rfl).trans ?_
              refine (e_kI (q := (133, [some (.ref 52), some (.int l1), some (.int l2), some (.int l3)], [.int (M9.1 52 19), .ref 65, .ref 52])) (q2 := (136, [some (.ref 52), some (.int l1), some (.int l2), some (.int l3)], [])) (M := M9) (o := (pcl GG lay d 92 [.ref 52, .ref 65, .int (M9.1 52 19)] M9)) (hf := rfl) rfl rfl).trans ?_
              refine kI_in (fun r10 M10 => ?_)
              exact evn_end 1 rfl
/-- TermStrategiesModel.strategy(III)I -/
noncomputable abbrev E_123 (d : Nat) : PQ → PO := evn (rnn k_123 lay none (pcl GG lay d) 1)
theorem q_123 (d : Nat) (l1 : Int32) (l2 : Int32) (l3 : Int32) (M : PM) : pcl GG lay (d + 1) 123 [.ref 52, .int l1, .int l2, .int l3] M = (kI (pcl GG lay d 71 [.int l1, .int (jn 0), .int (jn 13)] M) fun r1 M1 => (if r1 = jn 0 then E_123 d (52, [some (.ref 52), some (.int l1), some (.int l2), some (.int l3)], [], M1) else (if l1 = jn 0 then (kI (pcl GG lay d 73 [.ref 52, .int l2] M1) fun r2 M2 => (if r2 = jn 0 then E_123 d (52, [some (.ref 52), some (.int l1), some (.int l2), some (.int l3)], [], M2) else E_123 d (22, [some (.ref 52), some (.int l1), some (.int l2), some (.int l3)], [], M2))) else E_123 d (22, [some (.ref 52), some (.int l1), some (.int l2), some (.int l3)], [], M1)))) := by
  refine (pcl_un (mt := t_123) (by decide) rfl (Nat.le_of_ble_eq_true rfl)).trans ?_
  show E_123 d (0, [some (.ref 52), some (.int l1), some (.int l2), some (.int l3)], [], M) = _
  refine (evn_adv 3 (q' := (4, [some (.ref 52), some (.int l1), some (.int l2), some (.int l3)], [.int (jn 13), .int (jn 0), .int l1], M)) rfl).trans ?_
  refine (e_kI (q := (4, [some (.ref 52), some (.int l1), some (.int l2), some (.int l3)], [.int (jn 13), .int (jn 0), .int l1])) (q2 := (7, [some (.ref 52), some (.int l1), some (.int l2), some (.int l3)], [])) (M := M) (o := (pcl GG lay d 71 [.int l1, .int (jn 0), .int (jn 13)] M)) (hf := rfl) rfl rfl).trans ?_
  refine kI_in (fun r1 M1 => ?_)
  refine (e_if_eq (hf := rfl)).trans ?_
  refine ite_in ?_ ?_
  · rfl
  · refine (evn_adv 1 (q' := (11, [some (.ref 52), some (.int l1), some (.int l2), some (.int l3)], [.int l1], M1)) rfl).trans ?_
    refine (e_if_ne (hf := rfl)).trans ?_
    refine ite_in ?_ ?_
    · refine (evn_adv 2 (q' := (16, [some (.ref 52), some (.int l1), some (.int l2), some (.int l3)], [.int l2, .ref 52], M1)) rfl).trans ?_
      refine (e_kI (q := (16, [some (.ref 52), some (.int l1), some (.int l2), some (.int l3)], [.int l2, .ref 52])) (q2 := (19, [some (.ref 52), some (.int l1), some (.int l2), some (.int l3)], [])) (M := M1) (o := (pcl GG lay d 73 [.ref 52, .int l2] M1)) (hf := rfl) rfl rfl).trans ?_
      refine kI_in (fun r2 M2 => ?_)
      refine (e_if_eq (hf := rfl)).trans ?_
      refine ite_in ?_ ?_
      · rfl
      · rfl
    · rfl
theorem h_123_52 (d : Nat) (u1 : Option Value) (u2 : Option Value) (u3 : Option Value) (M : PM) : E_123 d (52, [some (.ref 52), u1, u2, u3], [], M) = (kI (pcl GG lay d 69 [.ref 52, .int (jz 1)] M) fun r1 M1 => (rI r1 M1)) := by
  refine (evn_adv 2 (q' := (54, [some (.ref 52), u1, u2, u3], [.int (jz 1), .ref 52], M)) rfl).trans ?_
  refine (e_kI (q := (54, [some (.ref 52), u1, u2, u3], [.int (jz 1), .ref 52])) (q2 := (57, [some (.ref 52), u1, u2, u3], [])) (M := M) (o := (pcl GG lay d 69 [.ref 52, .int (jz 1)] M)) (hf := rfl) rfl rfl).trans ?_
  refine kI_in (fun r1 M1 => ?_)
  exact evn_end 1 rfl
theorem h_123_22 (d : Nat) (l1 : Int32) (l2 : Int32) (l3 : Int32) (M : PM) : E_123 d (22, [some (.ref 52), some (.int l1), some (.int l2), some (.int l3)], [], M) = (if (jn 2) < l1 then (kI (pcl GG lay d 74 [.ref 52, .int l2] M) fun r1 M1 => (if r1 = jn 0 then E_123 d (52, [some (.ref 52), some (.int l1), some (.int l2), some (.int l3)], [], M1) else E_123 d (35, [some (.ref 52), some (.int l1), some (.int l2), some (.int l3)], [], M1))) else E_123 d (35, [some (.ref 52), some (.int l1), some (.int l2), some (.int l3)], [], M)) := by
  refine (evn_adv 2 (q' := (24, [some (.ref 52), some (.int l1), some (.int l2), some (.int l3)], [.int (jn 2), .int l1], M)) rfl).trans ?_
  refine (e_ic_le (hf := rfl)).trans ?_
  refine ite_in ?_ ?_
  · refine (evn_adv 2 (q' := (29, [some (.ref 52), some (.int l1), some (.int l2), some (.int l3)], [.int l2, .ref 52], M)) rfl).trans ?_
    refine (e_kI (q := (29, [some (.ref 52), some (.int l1), some (.int l2), some (.int l3)], [.int l2, .ref 52])) (q2 := (32, [some (.ref 52), some (.int l1), some (.int l2), some (.int l3)], [])) (M := M) (o := (pcl GG lay d 74 [.ref 52, .int l2] M)) (hf := rfl) rfl rfl).trans ?_
    refine kI_in (fun r1 M1 => ?_)
    refine (e_if_eq (hf := rfl)).trans ?_
    refine ite_in ?_ ?_
    · rfl
    · rfl
  · rfl
theorem h_123_35 (d : Nat) (l1 : Int32) (l2 : Int32) (l3 : Int32) (M : PM) : E_123 d (35, [some (.ref 52), some (.int l1), some (.int l2), some (.int l3)], [], M) = (kI (pcl GG lay d 71 [.int l1, .int (jn 3), .int (jn 4)] M) fun r1 M1 => (if r1 = jn 0 then E_123 d (58, [some (.ref 52), some (.int l1), some (.int l2), some (.int l3)], [], M1) else (kI (pcl GG lay d 74 [.ref 52, .int l3] M1) fun r2 M2 => (if r2 = jn 0 then E_123 d (52, [some (.ref 52), some (.int l1), some (.int l2), some (.int l3)], [], M2) else E_123 d (58, [some (.ref 52), some (.int l1), some (.int l2), some (.int l3)], [], M2))))) := by
  refine (evn_adv 3 (q' := (38, [some (.ref 52), some (.int l1), some (.int l2), some (.int l3)], [.int (jn 4), .int (jn 3), .int l1], M)) rfl).trans ?_
  refine (e_kI (q := (38, [some (.ref 52), some (.int l1), some (.int l2), some (.int l3)], [.int (jn 4), .int (jn 3), .int l1])) (q2 := (41, [some (.ref 52), some (.int l1), some (.int l2), some (.int l3)], [])) (M := M) (o := (pcl GG lay d 71 [.int l1, .int (jn 3), .int (jn 4)] M)) (hf := rfl) rfl rfl).trans ?_
  refine kI_in (fun r1 M1 => ?_)
  refine (e_if_eq (hf := rfl)).trans ?_
  refine ite_in ?_ ?_
  · rfl
  · refine (evn_adv 2 (q' := (46, [some (.ref 52), some (.int l1), some (.int l2), some (.int l3)], [.int l3, .ref 52], M1)) rfl).trans ?_
    refine (e_kI (q := (46, [some (.ref 52), some (.int l1), some (.int l2), some (.int l3)], [.int l3, .ref 52])) (q2 := (49, [some (.ref 52), some (.int l1), some (.int l2), some (.int l3)], [])) (M := M1) (o := (pcl GG lay d 74 [.ref 52, .int l3] M1)) (hf := rfl) rfl rfl).trans ?_
    refine kI_in (fun r2 M2 => ?_)
    refine (e_if_ne (hf := rfl)).trans ?_
    refine ite_in ?_ ?_
    · rfl
    · rfl
theorem h_123_58 (d : Nat) (l1 : Int32) (l2 : Int32) (l3 : Int32) (M : PM) : E_123 d (58, [some (.ref 52), some (.int l1), some (.int l2), some (.int l3)], [], M) = (if (M.1 52 6) = (jn 24) then (kI (pcl GG lay d 69 [.ref 52, .int (jz 7)] M) fun r1 M1 => (rI r1 M1)) else (oB (astI lay M 57 (M.1 52 6) l1) fun M1 => (if l1 = (jn 1) then (oB (astI lay M1 58 (M1.1 52 6) (jz 1)) fun M2 => (kI (pcl GG lay d 71 [.int l1, .int (jn 3), .int (jn 4)] M2) fun r3 M3 => (if r3 = jn 0 then (oB (astI lay M3 59 (M2.1 52 6) (jz 1)) fun M4 => (wr (sI M4 52 (va_up (M4.1 52) 6 ((M4.1 52 6) + (jn 1)))) fun M5 => (rI (M4.1 52 6) M5))) else (oB (astI lay M3 59 (M2.1 52 6) l3) fun M4 => (wr (sI M4 52 (va_up (M4.1 52) 6 ((M4.1 52 6) + (jn 1)))) fun M5 => (rI (M4.1 52 6) M5)))))) else (if l1 = (jn 2) then (oB (astI lay M1 58 (M1.1 52 6) (jz 1)) fun M2 => (kI (pcl GG lay d 71 [.int l1, .int (jn 3), .int (jn 4)] M2) fun r3 M3 => (if r3 = jn 0 then (oB (astI lay M3 59 (M2.1 52 6) (jz 1)) fun M4 => (wr (sI M4 52 (va_up (M4.1 52) 6 ((M4.1 52 6) + (jn 1)))) fun M5 => (rI (M4.1 52 6) M5))) else (oB (astI lay M3 59 (M2.1 52 6) l3) fun M4 => (wr (sI M4 52 (va_up (M4.1 52) 6 ((M4.1 52 6) + (jn 1)))) fun M5 => (rI (M4.1 52 6) M5)))))) else (oB (astI lay M1 58 (M1.1 52 6) l2) fun M2 => (kI (pcl GG lay d 71 [.int l1, .int (jn 3), .int (jn 4)] M2) fun r3 M3 => (if r3 = jn 0 then (oB (astI lay M3 59 (M2.1 52 6) (jz 1)) fun M4 => (wr (sI M4 52 (va_up (M4.1 52) 6 ((M4.1 52 6) + (jn 1)))) fun M5 => (rI (M4.1 52 6) M5))) else (oB (astI lay M3 59 (M2.1 52 6) l3) fun M4 => (wr (sI M4 52 (va_up (M4.1 52) 6 ((M4.1 52 6) + (jn 1)))) fun M5 => (rI (M4.1 52 6) M5)))))))))) := by
  refine (evn_adv 3 (q' := (64, [some (.ref 52), some (.int l1), some (.int l2), some (.int l3)], [.int (jn 24), .int (M.1 52 6)], M)) rfl).trans ?_
  refine (e_ic_ne (hf := rfl)).trans ?_
  refine ite_in ?_ ?_
  · refine (evn_adv 2 (q' := (70, [some (.ref 52), some (.int l1), some (.int l2), some (.int l3)], [.int (jz 7), .ref 52], M)) rfl).trans ?_
    refine (e_kI (q := (70, [some (.ref 52), some (.int l1), some (.int l2), some (.int l3)], [.int (jz 7), .ref 52])) (q2 := (73, [some (.ref 52), some (.int l1), some (.int l2), some (.int l3)], [])) (M := M) (o := (pcl GG lay d 69 [.ref 52, .int (jz 7)] M)) (hf := rfl) rfl rfl).trans ?_
    refine kI_in (fun r1 M1 => ?_)
    exact evn_end 1 rfl
  · refine (evn_adv 5 (q' := (83, [some (.ref 52), some (.int l1), some (.int l2), some (.int l3)], [.int l1, .int (M.1 52 6), .ref 57], M)) rfl).trans ?_
    refine (e_oB (q := (83, [some (.ref 52), some (.int l1), some (.int l2), some (.int l3)], [.int l1, .int (M.1 52 6), .ref 57], M)) (o := (astI lay M 57 (M.1 52 6) l1)) (f := fun M1 => (84, [some (.ref 52), some (.int l1), some (.int l2), some (.int l3)], [], M1)) (hf := rfl) rfl).trans ?_
    refine oB_in (fun M1 => ?_)
    refine (evn_adv 6 (q' := (94, [some (.ref 52), some (.int l1), some (.int l2), some (.int l3)], [.int (jn 1), .int l1, .int (M1.1 52 6), .ref 58], M1)) rfl).trans ?_
    refine (e_ic_eq (hf := rfl)).trans ?_
    refine ite_in ?_ ?_
    · refine (evn_adv 2 (q' := (107, [some (.ref 52), some (.int l1), some (.int l2), some (.int l3)], [.int (jz 1), .int (M1.1 52 6), .ref 58], M1)) rfl).trans ?_
      refine (e_oB (q := (107, [some (.ref 52), some (.int l1), some (.int l2), some (.int l3)], [.int (jz 1), .int (M1.1 52 6), .ref 58], M1)) (o := (astI lay M1 58 (M1.1 52 6) (jz 1))) (f := fun M2 => (108, [some (.ref 52), some (.int l1), some (.int l2), some (.int l3)], [], M2)) (hf := rfl) rfl).trans ?_
      refine oB_in (fun M2 => ?_)
      refine (evn_adv 7 (q' := (119, [some (.ref 52), some (.int l1), some (.int l2), some (.int l3)], [.int (jn 4), .int (jn 3), .int l1, .int (M2.1 52 6), .ref 59], M2)) rfl).trans ?_
      refine (e_kI (q := (119, [some (.ref 52), some (.int l1), some (.int l2), some (.int l3)], [.int (jn 4), .int (jn 3), .int l1, .int (M2.1 52 6), .ref 59])) (q2 := (122, [some (.ref 52), some (.int l1), some (.int l2), some (.int l3)], [.int (M2.1 52 6), .ref 59])) (M := M2) (o := (pcl GG lay d 71 [.int l1, .int (jn 3), .int (jn 4)] M2)) (hf := rfl) rfl rfl).trans ?_
      refine kI_in (fun r3 M3 => ?_)
      refine (e_if_eq (hf := rfl)).trans ?_
      refine ite_in ?_ ?_
      · refine (evn_adv 1 (q' := (130, [some (.ref 52), some (.int l1), some (.int l2), some (.int l3)], [.int (jz 1), .int (M2.1 52 6), .ref 59], M3)) rfl).trans ?_
        refine (e_oB (q := (130, [some (.ref 52), some (.int l1), some (.int l2), some (.int l3)], [.int (jz 1), .int (M2.1 52 6), .ref 59], M3)) (o := (astI lay M3 59 (M2.1 52 6) (jz 1))) (f := fun M4 => (131, [some (.ref 52), some (.int l1), some (.int l2), some (.int l3)], [], M4)) (hf := rfl) rfl).trans ?_
        refine oB_in (fun M4 => ?_)
        refine (evn_adv 6 (q' := (139, [some (.ref 52), some (.int l1), some (.int l2), some (.int l3)], [.int ((M4.1 52 6) + (jn 1)), .ref 52, .int (M4.1 52 6)], M4)) rfl).trans ?_
        refine (evn_adv 1 (q' := (142, [some (.ref 52), some (.int l1), some (.int l2), some (.int l3)], [.int (M4.1 52 6)], (sI M4 52 (va_up (M4.1 52) 6 ((M4.1 52 6) + (jn 1)))))) rfl).trans ?_
        refine wr_in (f := fun M5 => E_123 d (142, [some (.ref 52), some (.int l1), some (.int l2), some (.int l3)], [.int (M4.1 52 6)], M5)) (fun M5 => ?_)
        exact evn_end 1 rfl
      · refine (evn_adv 2 (q' := (130, [some (.ref 52), some (.int l1), some (.int l2), some (.int l3)], [.int l3, .int (M2.1 52 6), .ref 59], M3)) rfl).trans ?_
        refine (e_oB (q := (130, [some (.ref 52), some (.int l1), some (.int l2), some (.int l3)], [.int l3, .int (M2.1 52 6), .ref 59], M3)) (o := (astI lay M3 59 (M2.1 52 6) l3)) (f := fun M4 => (131, [some (.ref 52), some (.int l1), some (.int l2), some (.int l3)], [], M4)) (hf := rfl) rfl).trans ?_
        refine oB_in (fun M4 => ?_)
        refine (evn_adv 6 (q' := (139, [some (.ref 52), some (.int l1), some (.int l2), some (.int l3)], [.int ((M4.1 52 6) + (jn 1)), .ref 52, .int (M4.1 52 6)], M4)) rfl).trans ?_
        refine (evn_adv 1 (q' := (142, [some (.ref 52), some (.int l1), some (.int l2), some (.int l3)], [.int (M4.1 52 6)], (sI M4 52 (va_up (M4.1 52) 6 ((M4.1 52 6) + (jn 1)))))) rfl).trans ?_
        refine wr_in (f := fun M5 => E_123 d (142, [some (.ref 52), some (.int l1), some (.int l2), some (.int l3)], [.int (M4.1 52 6)], M5)) (fun M5 => ?_)
        exact evn_end 1 rfl
    · refine (evn_adv 2 (q' := (99, [some (.ref 52), some (.int l1), some (.int l2), some (.int l3)], [.int (jn 2), .int l1, .int (M1.1 52 6), .ref 58], M1)) rfl).trans ?_
      refine (e_ic_ne (hf := rfl)).trans ?_
      refine ite_in ?_ ?_
      · refine (evn_adv 2 (q' := (107, [some (.ref 52), some (.int l1), some (.int l2), some (.int l3)], [.int (jz 1), .int (M1.1 52 6), .ref 58], M1)) rfl).trans ?_
        refine (e_oB (q := (107, [some (.ref 52), some (.int l1), some (.int l2), some (.int l3)], [.int (jz 1), .int (M1.1 52 6), .ref 58], M1)) (o := (astI lay M1 58 (M1.1 52 6) (jz 1))) (f := fun M2 => (108, [some (.ref 52), some (.int l1), some (.int l2), some (.int l3)], [], M2)) (hf := rfl) rfl).trans ?_
        refine oB_in (fun M2 => ?_)
        refine (evn_adv 7 (q' := (119, [some (.ref 52), some (.int l1), some (.int l2), some (.int l3)], [.int (jn 4), .int (jn 3), .int l1, .int (M2.1 52 6), .ref 59], M2)) rfl).trans ?_
        refine (e_kI (q := (119, [some (.ref 52), some (.int l1), some (.int l2), some (.int l3)], [.int (jn 4), .int (jn 3), .int l1, .int (M2.1 52 6), .ref 59])) (q2 := (122, [some (.ref 52), some (.int l1), some (.int l2), some (.int l3)], [.int (M2.1 52 6), .ref 59])) (M := M2) (o := (pcl GG lay d 71 [.int l1, .int (jn 3), .int (jn 4)] M2)) (hf := rfl) rfl rfl).trans ?_
        refine kI_in (fun r3 M3 => ?_)
        refine (e_if_eq (hf := rfl)).trans ?_
        refine ite_in ?_ ?_
        · refine (evn_adv 1 (q' := (130, [some (.ref 52), some (.int l1), some (.int l2), some (.int l3)], [.int (jz 1), .int (M2.1 52 6), .ref 59], M3)) rfl).trans ?_
          refine (e_oB (q := (130, [some (.ref 52), some (.int l1), some (.int l2), some (.int l3)], [.int (jz 1), .int (M2.1 52 6), .ref 59], M3)) (o := (astI lay M3 59 (M2.1 52 6) (jz 1))) (f := fun M4 => (131, [some (.ref 52), some (.int l1), some (.int l2), some (.int l3)], [], M4)) (hf := rfl) rfl).trans ?_
          refine oB_in (fun M4 => ?_)
          refine (evn_adv 6 (q' := (139, [some (.ref 52), some (.int l1), some (.int l2), some (.int l3)], [.int ((M4.1 52 6) + (jn 1)), .ref 52, .int (M4.1 52 6)], M4)) rfl).trans ?_
          refine (evn_adv 1 (q' := (142, [some (.ref 52), some (.int l1), some (.int l2), some (.int l3)], [.int (M4.1 52 6)], (sI M4 52 (va_up (M4.1 52) 6 ((M4.1 52 6) + (jn 1)))))) rfl).trans ?_
          refine wr_in (f := fun M5 => E_123 d (142, [some (.ref 52), some (.int l1), some (.int l2), some (.int l3)], [.int (M4.1 52 6)], M5)) (fun M5 => ?_)
          exact evn_end 1 rfl
        · refine (evn_adv 2 (q' := (130, [some (.ref 52), some (.int l1), some (.int l2), some (.int l3)], [.int l3, .int (M2.1 52 6), .ref 59], M3)) rfl).trans ?_
          refine (e_oB (q := (130, [some (.ref 52), some (.int l1), some (.int l2), some (.int l3)], [.int l3, .int (M2.1 52 6), .ref 59], M3)) (o := (astI lay M3 59 (M2.1 52 6) l3)) (f := fun M4 => (131, [some (.ref 52), some (.int l1), some (.int l2), some (.int l3)], [], M4)) (hf := rfl) rfl).trans ?_
          refine oB_in (fun M4 => ?_)
          refine (evn_adv 6 (q' := (139, [some (.ref 52), some (.int l1), some (.int l2), some (.int l3)], [.int ((M4.1 52 6) + (jn 1)), .ref 52, .int (M4.1 52 6)], M4)) rfl).trans ?_
          refine (evn_adv 1 (q' := (142, [some (.ref 52), some (.int l1), some (.int l2), some (.int l3)], [.int (M4.1 52 6)], (sI M4 52 (va_up (M4.1 52) 6 ((M4.1 52 6) + (jn 1)))))) rfl).trans ?_
          refine wr_in (f := fun M5 => E_123 d (142, [some (.ref 52), some (.int l1), some (.int l2), some (.int l3)], [.int (M4.1 52 6)], M5)) (fun M5 => ?_)
          exact evn_end 1 rfl
      · refine (evn_adv 1 (q' := (107, [some (.ref 52), some (.int l1), some (.int l2), some (.int l3)], [.int l2, .int (M1.1 52 6), .ref 58], M1)) rfl).trans ?_
        refine (e_oB (q := (107, [some (.ref 52), some (.int l1), some (.int l2), some (.int l3)], [.int l2, .int (M1.1 52 6), .ref 58], M1)) (o := (astI lay M1 58 (M1.1 52 6) l2)) (f := fun M2 => (108, [some (.ref 52), some (.int l1), some (.int l2), some (.int l3)], [], M2)) (hf := rfl) rfl).trans ?_
        refine oB_in (fun M2 => ?_)
        refine (evn_adv 7 (q' := (119, [some (.ref 52), some (.int l1), some (.int l2), some (.int l3)], [.int (jn 4), .int (jn 3), .int l1, .int (M2.1 52 6), .ref 59], M2)) rfl).trans ?_
        refine (e_kI (q := (119, [some (.ref 52), some (.int l1), some (.int l2), some (.int l3)], [.int (jn 4), .int (jn 3), .int l1, .int (M2.1 52 6), .ref 59])) (q2 := (122, [some (.ref 52), some (.int l1), some (.int l2), some (.int l3)], [.int (M2.1 52 6), .ref 59])) (M := M2) (o := (pcl GG lay d 71 [.int l1, .int (jn 3), .int (jn 4)] M2)) (hf := rfl) rfl rfl).trans ?_
        refine kI_in (fun r3 M3 => ?_)
        refine (e_if_eq (hf := rfl)).trans ?_
        refine ite_in ?_ ?_
        · refine (evn_adv 1 (q' := (130, [some (.ref 52), some (.int l1), some (.int l2), some (.int l3)], [.int (jz 1), .int (M2.1 52 6), .ref 59], M3)) rfl).trans ?_
          refine (e_oB (q := (130, [some (.ref 52), some (.int l1), some (.int l2), some (.int l3)], [.int (jz 1), .int (M2.1 52 6), .ref 59], M3)) (o := (astI lay M3 59 (M2.1 52 6) (jz 1))) (f := fun M4 => (131, [some (.ref 52), some (.int l1), some (.int l2), some (.int l3)], [], M4)) (hf := rfl) rfl).trans ?_
          refine oB_in (fun M4 => ?_)
          refine (evn_adv 6 (q' := (139, [some (.ref 52), some (.int l1), some (.int l2), some (.int l3)], [.int ((M4.1 52 6) + (jn 1)), .ref 52, .int (M4.1 52 6)], M4)) rfl).trans ?_
          refine (evn_adv 1 (q' := (142, [some (.ref 52), some (.int l1), some (.int l2), some (.int l3)], [.int (M4.1 52 6)], (sI M4 52 (va_up (M4.1 52) 6 ((M4.1 52 6) + (jn 1)))))) rfl).trans ?_
          refine wr_in (f := fun M5 => E_123 d (142, [some (.ref 52), some (.int l1), some (.int l2), some (.int l3)], [.int (M4.1 52 6)], M5)) (fun M5 => ?_)
          exact evn_end 1 rfl
        · refine (evn_adv 2 (q' := (130, [some (.ref 52), some (.int l1), some (.int l2), some (.int l3)], [.int l3, .int (M2.1 52 6), .ref 59], M3)) rfl).trans ?_
          refine (e_oB (q := (130, [some (.ref 52), some (.int l1), some (.int l2), some (.int l3)], [.int l3, .int (M2.1 52 6), .ref 59], M3)) (o := (astI lay M3 59 (M2.1 52 6) l3)) (f := fun M4 => (131, [some (.ref 52), some (.int l1), some (.int l2), some (.int l3)], [], M4)) (hf := rfl) rfl).trans ?_
          refine oB_in (fun M4 => ?_)
          refine (evn_adv 6 (q' := (139, [some (.ref 52), some (.int l1), some (.int l2), some (.int l3)], [.int ((M4.1 52 6) + (jn 1)), .ref 52, .int (M4.1 52 6)], M4)) rfl).trans ?_
          refine (evn_adv 1 (q' := (142, [some (.ref 52), some (.int l1), some (.int l2), some (.int l3)], [.int (M4.1 52 6)], (sI M4 52 (va_up (M4.1 52) 6 ((M4.1 52 6) + (jn 1)))))) rfl).trans ?_
          refine wr_in (f := fun M5 => E_123 d (142, [some (.ref 52), some (.int l1), some (.int l2), some (.int l3)], [.int (M4.1 52 6)], M5)) (fun M5 => ?_)
          exact evn_end 1 rfl
/-- TermStrategiesModel.strategyOf(II)I -/
noncomputable abbrev E_124 (d : Nat) : PQ → PO := evn (rnn k_124 lay none (pcl GG lay d) 1)
theorem q_124 (d : Nat) (l1 : Int32) (l2 : Int32) (M : PM) : pcl GG lay (d + 1) 124 [.ref 52, .int l1, .int l2] M = (kI (pcl GG lay d 74 [.ref 52, .int l1] M) fun r1 M1 => (if r1 = jn 0 then (kI (pcl GG lay d 69 [.ref 52, .int (jz 5)] M1) fun r2 M2 => (rI r2 M2)) else (kI (pcl GG lay d 71 [.int l2, .int (jn 0), .int (jn 2)] M1) fun r2 M2 => (if r2 = jn 0 then (kI (pcl GG lay d 69 [.ref 52, .int (jz 5)] M2) fun r3 M3 => (rI r3 M3)) else (if l2 = jn 0 then (oB (aldI lay none M2 57 l1) fun v3 => (rI v3 M2)) else (if l2 = (jn 1) then (oB (aldI lay none M2 58 l1) fun v3 => (rI v3 M2)) else (oB (aldI lay none M2 59 l1) fun v3 => (rI v3 M2)))))))) := by
  refine (pcl_un (mt := t_124) (by decide) rfl (Nat.le_of_ble_eq_true rfl)).trans ?_
  show E_124 d (0, [some (.ref 52), some (.int l1), some (.int l2)], [], M) = _
  refine (evn_adv 2 (q' := (2, [some (.ref 52), some (.int l1), some (.int l2)], [.int l1, .ref 52], M)) rfl).trans ?_
  refine (e_kI (q := (2, [some (.ref 52), some (.int l1), some (.int l2)], [.int l1, .ref 52])) (q2 := (5, [some (.ref 52), some (.int l1), some (.int l2)], [])) (M := M) (o := (pcl GG lay d 74 [.ref 52, .int l1] M)) (hf := rfl) rfl rfl).trans ?_
  refine kI_in (fun r1 M1 => ?_)
  refine (e_if_eq (hf := rfl)).trans ?_
  refine ite_in ?_ ?_
  · refine (evn_adv 2 (q' := (20, [some (.ref 52), some (.int l1), some (.int l2)], [.int (jz 5), .ref 52], M1)) rfl).trans ?_
    refine (e_kI (q := (20, [some (.ref 52), some (.int l1), some (.int l2)], [.int (jz 5), .ref 52])) (q2 := (23, [some (.ref 52), some (.int l1), some (.int l2)], [])) (M := M1) (o := (pcl GG lay d 69 [.ref 52, .int (jz 5)] M1)) (hf := rfl) rfl rfl).trans ?_
    refine kI_in (fun r2 M2 => ?_)
    exact evn_end 1 rfl
  · refine (evn_adv 3 (q' := (11, [some (.ref 52), some (.int l1), some (.int l2)], [.int (jn 2), .int (jn 0), .int l2], M1)) rfl).trans ?_
    refine (e_kI (q := (11, [some (.ref 52), some (.int l1), some (.int l2)], [.int (jn 2), .int (jn 0), .int l2])) (q2 := (14, [some (.ref 52), some (.int l1), some (.int l2)], [])) (M := M1) (o := (pcl GG lay d 71 [.int l2, .int (jn 0), .int (jn 2)] M1)) (hf := rfl) rfl rfl).trans ?_
    refine kI_in (fun r2 M2 => ?_)
    refine (e_if_ne (hf := rfl)).trans ?_
    refine ite_in ?_ ?_
    · refine (evn_adv 2 (q' := (20, [some (.ref 52), some (.int l1), some (.int l2)], [.int (jz 5), .ref 52], M2)) rfl).trans ?_
      refine (e_kI (q := (20, [some (.ref 52), some (.int l1), some (.int l2)], [.int (jz 5), .ref 52])) (q2 := (23, [some (.ref 52), some (.int l1), some (.int l2)], [])) (M := M2) (o := (pcl GG lay d 69 [.ref 52, .int (jz 5)] M2)) (hf := rfl) rfl rfl).trans ?_
      refine kI_in (fun r3 M3 => ?_)
      exact evn_end 1 rfl
    · refine (evn_adv 1 (q' := (25, [some (.ref 52), some (.int l1), some (.int l2)], [.int l2], M2)) rfl).trans ?_
      refine (e_if_ne (hf := rfl)).trans ?_
      refine ite_in ?_ ?_
      · refine (evn_adv 3 (q' := (33, [some (.ref 52), some (.int l1), some (.int l2)], [.int l1, .ref 57], M2)) rfl).trans ?_
        refine (e_oB (q := (33, [some (.ref 52), some (.int l1), some (.int l2)], [.int l1, .ref 57], M2)) (o := (aldI lay none M2 57 l1)) (f := fun v3 => (34, [some (.ref 52), some (.int l1), some (.int l2)], [.int v3], M2)) (hf := rfl) rfl).trans ?_
        refine oB_in (fun v3 => ?_)
        refine (evn_adv 1 (q' := (57, [some (.ref 52), some (.int l1), some (.int l2)], [.int v3], M2)) rfl).trans ?_
        exact evn_end 1 rfl
      · refine (evn_adv 2 (q' := (39, [some (.ref 52), some (.int l1), some (.int l2)], [.int (jn 1), .int l2], M2)) rfl).trans ?_
        refine (e_ic_ne (hf := rfl)).trans ?_
        refine ite_in ?_ ?_
        · refine (evn_adv 3 (q' := (47, [some (.ref 52), some (.int l1), some (.int l2)], [.int l1, .ref 58], M2)) rfl).trans ?_
          refine (e_oB (q := (47, [some (.ref 52), some (.int l1), some (.int l2)], [.int l1, .ref 58], M2)) (o := (aldI lay none M2 58 l1)) (f := fun v3 => (48, [some (.ref 52), some (.int l1), some (.int l2)], [.int v3], M2)) (hf := rfl) rfl).trans ?_
          refine oB_in (fun v3 => ?_)
          refine (evn_adv 1 (q' := (57, [some (.ref 52), some (.int l1), some (.int l2)], [.int v3], M2)) rfl).trans ?_
          exact evn_end 1 rfl
        · refine (evn_adv 3 (q' := (56, [some (.ref 52), some (.int l1), some (.int l2)], [.int l1, .ref 59], M2)) rfl).trans ?_
          refine (e_oB (q := (56, [some (.ref 52), some (.int l1), some (.int l2)], [.int l1, .ref 59], M2)) (o := (aldI lay none M2 59 l1)) (f := fun v3 => (57, [some (.ref 52), some (.int l1), some (.int l2)], [.int v3], M2)) (hf := rfl) rfl).trans ?_
          refine oB_in (fun v3 => ?_)
          exact evn_end 1 rfl
/-- TermStrategiesModel.end()Z -/
noncomputable abbrev E_125 (d : Nat) : PQ → PO := evn (rnn k_125 lay none (pcl GG lay d) 2)
theorem q_125 (d : Nat)  (M : PM) : pcl GG lay (d + 1) 125 [.ref 52] M = (wr (sI M 52 (va_up (M.1 52) 27 (jn 1))) fun M1 => (rZ (jn 0) M1)) := by
  refine (pcl_un (mt := t_125) (by decide) rfl (Nat.le_of_ble_eq_true rfl)).trans ?_
  show E_125 d (0, [some (.ref 52)], [], M) = _
  refine (evn_adv 2 (q' := (2, [some (.ref 52)], [.int (jn 1), .ref 52], M)) rfl).trans ?_
  refine (e_putz (q2 := (5, [some (.ref 52)], [])) (k := 52) (j := 27) rfl rfl).trans ?_
  refine (if_pos (Or.inr rfl)).trans ?_
  refine wr_in (f := fun M1 => E_125 d (5, [some (.ref 52)], [], M1)) (fun M1 => ?_)
  refine (evn_adv 1 (q' := (6, [some (.ref 52)], [.int (jn 0)], M1)) rfl).trans ?_
  exact e_iretz (hf := rfl)
/-- TermStrategiesModel.rewrites(II)Z -/
noncomputable abbrev E_126 (d : Nat) : PQ → PO := evn (rnn k_126 lay none (pcl GG lay d) 2)
theorem q_126 (d : Nat) (l1 : Int32) (l2 : Int32) (M : PM) : pcl GG lay (d + 1) 126 [.ref 52, .int l1, .int l2] M = (kI (pcl GG lay d 114 [.ref 52, .int l1, .int l2] M) fun r1 M1 => (if r1 = jn 0 then (rZ (jn 0) M1) else (kV (pcl GG lay d 120 [.ref 52, .int l1] M1) fun M2 => (if (M2.1 52 29) = (jn 40) then (kI (pcl GG lay d 125 [.ref 52] M2) fun r3 M3 => (rZ r3 M3)) else (if (jn 40) < (M2.1 52 26) then (kI (pcl GG lay d 125 [.ref 52] M2) fun r3 M3 => (rZ r3 M3)) else (oB (astI lay M2 70 (M2.1 52 30) l1) fun M3 => (kL (pcl GG lay d 102 [.ref 65, .int (jn 0), .int l2] M3) fun r4 M4 => (oB (astL lay M4 71 (M3.1 52 30) r4) fun M5 => (wr (sI M5 52 (va_up (M5.1 52) 30 ((M5.1 52 30) + (jn 1)))) fun M6 => (wr (sI M6 52 (va_up (M6.1 52) 29 ((M6.1 52 29) + (jn 1)))) fun M7 => (kV (pcl GG lay d 121 [.ref 52, .int l2, .ref 69, .int (jn 0), .int (M7.1 52 26)] M7) fun M8 => (rZ (jn 1) M8)))))))))))) := by
  refine (pcl_un (mt := t_126) (by decide) rfl (Nat.le_of_ble_eq_true rfl)).trans ?_
  show E_126 d (0, [some (.ref 52), some (.int l1), some (.int l2)], [], M) = _
  refine (evn_adv 3 (q' := (3, [some (.ref 52), some (.int l1), some (.int l2)], [.int l2, .int l1, .ref 52], M)) rfl).trans ?_
  refine (e_kI (q := (3, [some (.ref 52), some (.int l1), some (.int l2)], [.int l2, .int l1, .ref 52])) (q2 := (6, [some (.ref 52), some (.int l1), some (.int l2)], [])) (M := M) (o := (pcl GG lay d 114 [.ref 52, .int l1, .int l2] M)) (hf := rfl) rfl rfl).trans ?_
  refine kI_in (fun r1 M1 => ?_)
  refine (e_if_ne (hf := rfl)).trans ?_
  refine ite_in ?_ ?_
  · refine (evn_adv 1 (q' := (10, [some (.ref 52), some (.int l1), some (.int l2)], [.int (jn 0)], M1)) rfl).trans ?_
    exact e_iretz (hf := rfl)
  · refine (evn_adv 2 (q' := (13, [some (.ref 52), some (.int l1), some (.int l2)], [.int l1, .ref 52], M1)) rfl).trans ?_
    refine (e_kV (q := (13, [some (.ref 52), some (.int l1), some (.int l2)], [.int l1, .ref 52])) (q2 := (16, [some (.ref 52), some (.int l1), some (.int l2)], [])) (M := M1) (o := (pcl GG lay d 120 [.ref 52, .int l1] M1)) (hf := rfl) rfl rfl).trans ?_
    refine kV_in (fun M2 => ?_)
    refine (evn_adv 3 (q' := (22, [some (.ref 52), some (.int l1), some (.int l2)], [.int (jn 40), .int (M2.1 52 29)], M2)) rfl).trans ?_
    refine (e_ic_eq (hf := rfl)).trans ?_
    refine ite_in ?_ ?_
    · refine (evn_adv 1 (q' := (35, [some (.ref 52), some (.int l1), some (.int l2)], [.ref 52], M2)) rfl).trans ?_
      refine (e_kI (q := (35, [some (.ref 52), some (.int l1), some (.int l2)], [.ref 52])) (q2 := (38, [some (.ref 52), some (.int l1), some (.int l2)], [])) (M := M2) (o := (pcl GG lay d 125 [.ref 52] M2)) (hf := rfl) rfl rfl).trans ?_
      refine kI_in (fun r3 M3 => ?_)
      exact e_iretz (hf := rfl)
    · refine (evn_adv 3 (q' := (31, [some (.ref 52), some (.int l1), some (.int l2)], [.int (jn 40), .int (M2.1 52 26)], M2)) rfl).trans ?_
      refine (e_ic_le (hf := rfl)).trans ?_
      refine ite_in ?_ ?_
      · refine (evn_adv 1 (q' := (35, [some (.ref 52), some (.int l1), some (.int l2)], [.ref 52], M2)) rfl).trans ?_
        refine (e_kI (q := (35, [some (.ref 52), some (.int l1), some (.int l2)], [.ref 52])) (q2 := (38, [some (.ref 52), some (.int l1), some (.int l2)], [])) (M := M2) (o := (pcl GG lay d 125 [.ref 52] M2)) (hf := rfl) rfl rfl).trans ?_
        refine kI_in (fun r3 M3 => ?_)
        exact e_iretz (hf := rfl)
      · refine (evn_adv 5 (q' := (48, [some (.ref 52), some (.int l1), some (.int l2)], [.int l1, .int (M2.1 52 30), .ref 70], M2)) rfl).trans ?_
        refine (e_oB (q := (48, [some (.ref 52), some (.int l1), some (.int l2)], [.int l1, .int (M2.1 52 30), .ref 70], M2)) (o := (astI lay M2 70 (M2.1 52 30) l1)) (f := fun M3 => (49, [some (.ref 52), some (.int l1), some (.int l2)], [], M3)) (hf := rfl) rfl).trans ?_
        refine oB_in (fun M3 => ?_)
        refine (evn_adv 8 (q' := (63, [some (.ref 52), some (.int l1), some (.int l2)], [.int l2, .int (jn 0), .ref 65, .int (M3.1 52 30), .ref 71], M3)) rfl).trans ?_
        refine (e_kL (q := (63, [some (.ref 52), some (.int l1), some (.int l2)], [.int l2, .int (jn 0), .ref 65, .int (M3.1 52 30), .ref 71])) (q2 := (66, [some (.ref 52), some (.int l1), some (.int l2)], [.int (M3.1 52 30), .ref 71])) (M := M3) (o := (pcl GG lay d 102 [.ref 65, .int (jn 0), .int l2] M3)) (hf := rfl) rfl rfl).trans ?_
        refine kL_in (fun r4 M4 => ?_)
        refine (e_oB (q := (66, [some (.ref 52), some (.int l1), some (.int l2)], [.long r4, .int (M3.1 52 30), .ref 71], M4)) (o := (astL lay M4 71 (M3.1 52 30) r4)) (f := fun M5 => (67, [some (.ref 52), some (.int l1), some (.int l2)], [], M5)) (hf := rfl) rfl).trans ?_
        refine oB_in (fun M5 => ?_)
        refine (evn_adv 5 (q' := (74, [some (.ref 52), some (.int l1), some (.int l2)], [.int ((M5.1 52 30) + (jn 1)), .ref 52], M5)) rfl).trans ?_
        refine (evn_adv 1 (q' := (77, [some (.ref 52), some (.int l1), some (.int l2)], [], (sI M5 52 (va_up (M5.1 52) 30 ((M5.1 52 30) + (jn 1)))))) rfl).trans ?_
        refine wr_in (f := fun M6 => E_126 d (77, [some (.ref 52), some (.int l1), some (.int l2)], [], M6)) (fun M6 => ?_)
        refine (evn_adv 5 (q' := (84, [some (.ref 52), some (.int l1), some (.int l2)], [.int ((M6.1 52 29) + (jn 1)), .ref 52], M6)) rfl).trans ?_
        refine (evn_adv 1 (q' := (87, [some (.ref 52), some (.int l1), some (.int l2)], [], (sI M6 52 (va_up (M6.1 52) 29 ((M6.1 52 29) + (jn 1)))))) rfl).trans ?_
        refine wr_in (f := fun M7 => E_126 d (87, [some (.ref 52), some (.int l1), some (.int l2)], [], M7)) (fun M7 => ?_)
        refine (evn_adv 7 (q' := (98, [some (.ref 52), some (.int l1), some (.int l2)], [.int (M7.1 52 26), .int (jn 0), .ref 69, .int l2, .ref 52], M7)) rfl).trans ?_
        refine (e_kV (q := (98, [some (.ref 52), some (.int l1), some (.int l2)], [.int (M7.1 52 26), .int (jn 0), .ref 69, .int l2, .ref 52])) (q2 := (101, [some (.ref 52), some (.int l1), some (.int l2)], [])) (M := M7) (o := (pcl GG lay d 121 [.ref 52, .int l2, .ref 69, .int (jn 0), .int (M7.1 52 26)] M7)) (hf := rfl) rfl rfl).trans ?_
        refine kV_in (fun M8 => ?_)
        refine (evn_adv 1 (q' := (102, [some (.ref 52), some (.int l1), some (.int l2)], [.int (jn 1)], M8)) rfl).trans ?_
        exact e_iretz (hf := rfl)
/-- TermStrategiesModel.kindOf(I)I -/
noncomputable abbrev E_127 (d : Nat) : PQ → PO := evn (rnn k_127 lay none (pcl GG lay d) 1)
theorem q_127 (d : Nat) (l1 : Int32) (M : PM) : pcl GG lay (d + 1) 127 [.ref 52, .int l1] M = (if l1 = (jn 300) then (rI (jn 12) M) else (if l1 < (jn 1000) then (if l1 < (jn 200) then (oB (aldI lay none M 57 l1) fun v1 => (rI v1 M)) else (rI (jn 0) M)) else (if l1 = (jn 1000) then (rI (jn 0) M) else (rI (jn 4) M)))) := by
  refine (pcl_un (mt := t_127) (by decide) rfl (Nat.le_of_ble_eq_true rfl)).trans ?_
  show E_127 d (0, [some (.ref 52), some (.int l1)], [], M) = _
  refine (evn_adv 2 (q' := (4, [some (.ref 52), some (.int l1)], [.int (jn 300), .int l1], M)) rfl).trans ?_
  refine (e_ic_ne (hf := rfl)).trans ?_
  refine ite_in ?_ ?_
  · refine (evn_adv 2 (q' := (51, [some (.ref 52), some (.int l1)], [.int (jn 12)], M)) rfl).trans ?_
    exact evn_end 1 rfl
  · refine (evn_adv 2 (q' := (16, [some (.ref 52), some (.int l1)], [.int (jn 1000), .int l1], M)) rfl).trans ?_
    refine (e_ic_lt (hf := rfl)).trans ?_
    refine ite_in ?_ ?_
    · refine (evn_adv 2 (q' := (38, [some (.ref 52), some (.int l1)], [.int (jn 200), .int l1], M)) rfl).trans ?_
      refine (e_ic_lt (hf := rfl)).trans ?_
      refine ite_in ?_ ?_
      · refine (evn_adv 3 (q' := (50, [some (.ref 52), some (.int l1)], [.int l1, .ref 57], M)) rfl).trans ?_
        refine (e_oB (q := (50, [some (.ref 52), some (.int l1)], [.int l1, .ref 57], M)) (o := (aldI lay none M 57 l1)) (f := fun v1 => (51, [some (.ref 52), some (.int l1)], [.int v1], M)) (hf := rfl) rfl).trans ?_
        refine oB_in (fun v1 => ?_)
        exact evn_end 1 rfl
      · refine (evn_adv 2 (q' := (51, [some (.ref 52), some (.int l1)], [.int (jn 0)], M)) rfl).trans ?_
        exact evn_end 1 rfl
    · refine (evn_adv 2 (q' := (23, [some (.ref 52), some (.int l1)], [.int (jn 1000), .int l1], M)) rfl).trans ?_
      refine (e_ic_ne (hf := rfl)).trans ?_
      refine ite_in ?_ ?_
      · refine (evn_adv 2 (q' := (51, [some (.ref 52), some (.int l1)], [.int (jn 0)], M)) rfl).trans ?_
        exact evn_end 1 rfl
      · refine (evn_adv 2 (q' := (51, [some (.ref 52), some (.int l1)], [.int (jn 4)], M)) rfl).trans ?_
        exact evn_end 1 rfl
/-- TermStrategiesModel.oneOf(I)I -/
noncomputable abbrev E_128 (d : Nat) : PQ → PO := evn (rnn k_128 lay none (pcl GG lay d) 1)
theorem q_128 (d : Nat) (l1 : Int32) (M : PM) : pcl GG lay (d + 1) 128 [.ref 52, .int l1] M = (if l1 = (jn 300) then (rI (((jn 1000) + (M.1 52 3)) - (jn 1)) M) else (if l1 < (jn 1000) then (if l1 < (jn 200) then (oB (aldI lay none M 58 l1) fun v1 => (rI v1 M)) else (rI (l1 - (jn 200)) M)) else (if l1 = (jn 1000) then (rI (jn 0) M) else (rI (l1 - (jn 1)) M)))) := by
  refine (pcl_un (mt := t_128) (by decide) rfl (Nat.le_of_ble_eq_true rfl)).trans ?_
  show E_128 d (0, [some (.ref 52), some (.int l1)], [], M) = _
  refine (evn_adv 2 (q' := (4, [some (.ref 52), some (.int l1)], [.int (jn 300), .int l1], M)) rfl).trans ?_
  refine (e_ic_ne (hf := rfl)).trans ?_
  refine ite_in ?_ ?_
  · refine (evn_adv 7 (q' := (65, [some (.ref 52), some (.int l1)], [.int (((jn 1000) + (M.1 52 3)) - (jn 1))], M)) rfl).trans ?_
    exact evn_end 1 rfl
  · refine (evn_adv 2 (q' := (24, [some (.ref 52), some (.int l1)], [.int (jn 1000), .int l1], M)) rfl).trans ?_
    refine (e_ic_lt (hf := rfl)).trans ?_
    refine ite_in ?_ ?_
    · refine (evn_adv 2 (q' := (48, [some (.ref 52), some (.int l1)], [.int (jn 200), .int l1], M)) rfl).trans ?_
      refine (e_ic_lt (hf := rfl)).trans ?_
      refine ite_in ?_ ?_
      · refine (evn_adv 3 (q' := (64, [some (.ref 52), some (.int l1)], [.int l1, .ref 58], M)) rfl).trans ?_
        refine (e_oB (q := (64, [some (.ref 52), some (.int l1)], [.int l1, .ref 58], M)) (o := (aldI lay none M 58 l1)) (f := fun v1 => (65, [some (.ref 52), some (.int l1)], [.int v1], M)) (hf := rfl) rfl).trans ?_
        refine oB_in (fun v1 => ?_)
        exact evn_end 1 rfl
      · refine (evn_adv 4 (q' := (65, [some (.ref 52), some (.int l1)], [.int (l1 - (jn 200))], M)) rfl).trans ?_
        exact evn_end 1 rfl
    · refine (evn_adv 2 (q' := (31, [some (.ref 52), some (.int l1)], [.int (jn 1000), .int l1], M)) rfl).trans ?_
      refine (e_ic_ne (hf := rfl)).trans ?_
      refine ite_in ?_ ?_
      · refine (evn_adv 2 (q' := (65, [some (.ref 52), some (.int l1)], [.int (jn 0)], M)) rfl).trans ?_
        exact evn_end 1 rfl
      · refine (evn_adv 4 (q' := (65, [some (.ref 52), some (.int l1)], [.int (l1 - (jn 1))], M)) rfl).trans ?_
        exact evn_end 1 rfl
/-- TermStrategiesModel.twoOf(I)I -/
noncomputable abbrev E_129 (d : Nat) : PQ → PO := evn (rnn k_129 lay none (pcl GG lay d) 1)
theorem q_129 (d : Nat) (l1 : Int32) (M : PM) : pcl GG lay (d + 1) 129 [.ref 52, .int l1] M = (if l1 < (jn 1000) then (oB (aldI lay none M 59 l1) fun v1 => (rI v1 M)) else (rI (((jn 200) + l1) - (jn 1000)) M)) := by
  refine (pcl_un (mt := t_129) (by decide) rfl (Nat.le_of_ble_eq_true rfl)).trans ?_
  show E_129 d (0, [some (.ref 52), some (.int l1)], [], M) = _
  refine (evn_adv 2 (q' := (4, [some (.ref 52), some (.int l1)], [.int (jn 1000), .int l1], M)) rfl).trans ?_
  refine (e_ic_lt (hf := rfl)).trans ?_
  refine ite_in ?_ ?_
  · refine (evn_adv 3 (q' := (24, [some (.ref 52), some (.int l1)], [.int l1, .ref 59], M)) rfl).trans ?_
    refine (e_oB (q := (24, [some (.ref 52), some (.int l1)], [.int l1, .ref 59], M)) (o := (aldI lay none M 59 l1)) (f := fun v1 => (25, [some (.ref 52), some (.int l1)], [.int v1], M)) (hf := rfl) rfl).trans ?_
    refine oB_in (fun v1 => ?_)
    exact evn_end 1 rfl
  · refine (evn_adv 6 (q' := (25, [some (.ref 52), some (.int l1)], [.int (((jn 200) + l1) - (jn 1000))], M)) rfl).trans ?_
    exact evn_end 1 rfl
/-- TermStrategiesModel.lays(I)V -/
noncomputable abbrev E_130 (d : Nat) : PQ → PO := evn (rnn k_130 lay none (pcl GG lay d) 0)
theorem q_130 (d : Nat) (l1 : Int32) (M : PM) : pcl GG lay (d + 1) 130 [.ref 52, .int l1] M = (kI (pcl GG lay d 78 [.ref 65, .int l1] M) fun r1 M1 => E_130 d (11, [some (.ref 52), some (.int l1), some (.int r1), some (.int (jn 0))], [], M1)) := by
  refine (pcl_un (mt := t_130) (by decide) rfl (Nat.le_of_ble_eq_true rfl)).trans ?_
  show E_130 d (0, [some (.ref 52), some (.int l1), none, none], [], M) = _
  refine (evn_adv 3 (q' := (5, [some (.ref 52), some (.int l1), none, none], [.int l1, .ref 65], M)) rfl).trans ?_
  refine (e_kI (q := (5, [some (.ref 52), some (.int l1), none, none], [.int l1, .ref 65])) (q2 := (8, [some (.ref 52), some (.int l1), none, none], [])) (M := M) (o := (pcl GG lay d 78 [.ref 65, .int l1] M)) (hf := rfl) rfl rfl).trans ?_
  refine kI_in (fun r1 M1 => ?_)
  refine (evn_adv 3 (q' := (11, [some (.ref 52), some (.int l1), some (.int r1), some (.int (jn 0))], [], M1)) rfl).trans ?_
  rfl
theorem h_130_11 (d : Nat) (l1 : Int32) (l2 : Int32) (l3 : Int32) (M : PM) : E_130 d (11, [some (.ref 52), some (.int l1), some (.int l2), some (.int l3)], [], M) = (if l3 < l2 then (oB (aldI lay none M 65 (l1 + l3)) fun v1 => (oB (astI lay M 72 ((M.1 52 33) + l3) v1) fun M2 => E_130 d (11, [some (.ref 52), some (.int l1), some (.int l2), some (.int (l3 + (jn 1)))], [], M2))) else (wr (sI M 52 (va_up (M.1 52) 33 ((M.1 52 33) + l2))) fun M1 => (oB (astI lay M1 72 (M1.1 52 33) l2) fun M2 => (oB (astI lay M2 72 ((M2.1 52 33) + (jn 1)) (M2.1 52 30)) fun M3 => (wr (sI M3 52 (va_up (M3.1 52) 33 ((M3.1 52 33) + (jn 2)))) fun M4 => (rV M4)))))) := by
  refine (evn_adv 2 (q' := (13, [some (.ref 52), some (.int l1), some (.int l2), some (.int l3)], [.int l2, .int l3], M)) rfl).trans ?_
  refine (e_ic_ge (hf := rfl)).trans ?_
  refine ite_in ?_ ?_
  · refine (evn_adv 11 (q' := (33, [some (.ref 52), some (.int l1), some (.int l2), some (.int l3)], [.int (l1 + l3), .ref 65, .int ((M.1 52 33) + l3), .ref 72], M)) rfl).trans ?_
    refine (e_oB (q := (33, [some (.ref 52), some (.int l1), some (.int l2), some (.int l3)], [.int (l1 + l3), .ref 65, .int ((M.1 52 33) + l3), .ref 72], M)) (o := (aldI lay none M 65 (l1 + l3))) (f := fun v1 => (34, [some (.ref 52), some (.int l1), some (.int l2), some (.int l3)], [.int v1, .int ((M.1 52 33) + l3), .ref 72], M)) (hf := rfl) rfl).trans ?_
    refine oB_in (fun v1 => ?_)
    refine (e_oB (q := (34, [some (.ref 52), some (.int l1), some (.int l2), some (.int l3)], [.int v1, .int ((M.1 52 33) + l3), .ref 72], M)) (o := (astI lay M 72 ((M.1 52 33) + l3) v1)) (f := fun M2 => (35, [some (.ref 52), some (.int l1), some (.int l2), some (.int l3)], [], M2)) (hf := rfl) rfl).trans ?_
    refine oB_in (fun M2 => ?_)
    refine (evn_adv 2 (q' := (11, [some (.ref 52), some (.int l1), some (.int l2), some (.int (l3 + (jn 1)))], [], M2)) rfl).trans ?_
    rfl
  · refine (evn_adv 5 (q' := (48, [some (.ref 52), some (.int l1), some (.int l2), some (.int l3)], [.int ((M.1 52 33) + l2), .ref 52], M)) rfl).trans ?_
    refine (evn_adv 1 (q' := (51, [some (.ref 52), some (.int l1), some (.int l2), some (.int l3)], [], (sI M 52 (va_up (M.1 52) 33 ((M.1 52 33) + l2))))) rfl).trans ?_
    refine wr_in (f := fun M1 => E_130 d (51, [some (.ref 52), some (.int l1), some (.int l2), some (.int l3)], [], M1)) (fun M1 => ?_)
    refine (evn_adv 5 (q' := (60, [some (.ref 52), some (.int l1), some (.int l2), some (.int l3)], [.int l2, .int (M1.1 52 33), .ref 72], M1)) rfl).trans ?_
    refine (e_oB (q := (60, [some (.ref 52), some (.int l1), some (.int l2), some (.int l3)], [.int l2, .int (M1.1 52 33), .ref 72], M1)) (o := (astI lay M1 72 (M1.1 52 33) l2)) (f := fun M2 => (61, [some (.ref 52), some (.int l1), some (.int l2), some (.int l3)], [], M2)) (hf := rfl) rfl).trans ?_
    refine oB_in (fun M2 => ?_)
    refine (evn_adv 8 (q' := (75, [some (.ref 52), some (.int l1), some (.int l2), some (.int l3)], [.int (M2.1 52 30), .int ((M2.1 52 33) + (jn 1)), .ref 72], M2)) rfl).trans ?_
    refine (e_oB (q := (75, [some (.ref 52), some (.int l1), some (.int l2), some (.int l3)], [.int (M2.1 52 30), .int ((M2.1 52 33) + (jn 1)), .ref 72], M2)) (o := (astI lay M2 72 ((M2.1 52 33) + (jn 1)) (M2.1 52 30))) (f := fun M3 => (76, [some (.ref 52), some (.int l1), some (.int l2), some (.int l3)], [], M3)) (hf := rfl) rfl).trans ?_
    refine oB_in (fun M3 => ?_)
    refine (evn_adv 5 (q' := (83, [some (.ref 52), some (.int l1), some (.int l2), some (.int l3)], [.int ((M3.1 52 33) + (jn 2)), .ref 52], M3)) rfl).trans ?_
    refine (evn_adv 1 (q' := (86, [some (.ref 52), some (.int l1), some (.int l2), some (.int l3)], [], (sI M3 52 (va_up (M3.1 52) 33 ((M3.1 52 33) + (jn 2)))))) rfl).trans ?_
    refine wr_in (f := fun M4 => E_130 d (86, [some (.ref 52), some (.int l1), some (.int l2), some (.int l3)], [], M4)) (fun M4 => ?_)
    exact evn_end 1 rfl
/-- TermStrategiesModel.again(IZ)V -/
noncomputable abbrev E_131 (d : Nat) : PQ → PO := evn (rnn k_131 lay none (pcl GG lay d) 0)
theorem q_131 (d : Nat) (l1 : Int32) (l2 : Int32) (M : PM) : pcl GG lay (d + 1) 131 [.ref 52, .int l1, .int l2] M = (oB (aldI lay none M 72 ((M.1 52 33) - (jn 2))) fun v1 => (oB (aldI lay none M 72 ((M.1 52 33) - (jn 1))) fun v2 => (wr (sI M 52 (va_up (M.1 52) 33 ((M.1 52 33) - (v1 + (jn 2))))) fun M3 => (if l2 = jn 0 then (rV M3) else (kV (pcl GG lay d 121 [.ref 52, .int l1, .ref 72, .int (M3.1 52 33), .int v1] M3) fun M4 => (wr (sI M4 52 (va_up (M4.1 52) 30 v2)) fun M5 => (rV M5))))))) := by
  refine (pcl_un (mt := t_131) (by decide) rfl (Nat.le_of_ble_eq_true rfl)).trans ?_
  show E_131 d (0, [some (.ref 52), some (.int l1), some (.int l2), none, none], [], M) = _
  refine (evn_adv 6 (q' := (10, [some (.ref 52), some (.int l1), some (.int l2), none, none], [.int ((M.1 52 33) - (jn 2)), .ref 72], M)) rfl).trans ?_
  refine (e_oB (q := (10, [some (.ref 52), some (.int l1), some (.int l2), none, none], [.int ((M.1 52 33) - (jn 2)), .ref 72], M)) (o := (aldI lay none M 72 ((M.1 52 33) - (jn 2)))) (f := fun v1 => (11, [some (.ref 52), some (.int l1), some (.int l2), none, none], [.int v1], M)) (hf := rfl) rfl).trans ?_
  refine oB_in (fun v1 => ?_)
  refine (evn_adv 7 (q' := (22, [some (.ref 52), some (.int l1), some (.int l2), some (.int v1), none], [.int ((M.1 52 33) - (jn 1)), .ref 72], M)) rfl).trans ?_
  refine (e_oB (q := (22, [some (.ref 52), some (.int l1), some (.int l2), some (.int v1), none], [.int ((M.1 52 33) - (jn 1)), .ref 72], M)) (o := (aldI lay none M 72 ((M.1 52 33) - (jn 1)))) (f := fun v2 => (23, [some (.ref 52), some (.int l1), some (.int l2), some (.int v1), none], [.int v2], M)) (hf := rfl) rfl).trans ?_
  refine oB_in (fun v2 => ?_)
  refine (evn_adv 8 (q' := (34, [some (.ref 52), some (.int l1), some (.int l2), some (.int v1), some (.int v2)], [.int ((M.1 52 33) - (v1 + (jn 2))), .ref 52], M)) rfl).trans ?_
  refine (evn_adv 1 (q' := (37, [some (.ref 52), some (.int l1), some (.int l2), some (.int v1), some (.int v2)], [], (sI M 52 (va_up (M.1 52) 33 ((M.1 52 33) - (v1 + (jn 2))))))) rfl).trans ?_
  refine wr_in (f := fun M3 => E_131 d (37, [some (.ref 52), some (.int l1), some (.int l2), some (.int v1), some (.int v2)], [], M3)) (fun M3 => ?_)
  refine (evn_adv 1 (q' := (38, [some (.ref 52), some (.int l1), some (.int l2), some (.int v1), some (.int v2)], [.int l2], M3)) rfl).trans ?_
  refine (e_if_ne (hf := rfl)).trans ?_
  refine ite_in ?_ ?_
  · exact evn_end 1 rfl
  · refine (evn_adv 7 (q' := (53, [some (.ref 52), some (.int l1), some (.int l2), some (.int v1), some (.int v2)], [.int v1, .int (M3.1 52 33), .ref 72, .int l1, .ref 52], M3)) rfl).trans ?_
    refine (e_kV (q := (53, [some (.ref 52), some (.int l1), some (.int l2), some (.int v1), some (.int v2)], [.int v1, .int (M3.1 52 33), .ref 72, .int l1, .ref 52])) (q2 := (56, [some (.ref 52), some (.int l1), some (.int l2), some (.int v1), some (.int v2)], [])) (M := M3) (o := (pcl GG lay d 121 [.ref 52, .int l1, .ref 72, .int (M3.1 52 33), .int v1] M3)) (hf := rfl) rfl rfl).trans ?_
    refine kV_in (fun M4 => ?_)
    refine (evn_adv 2 (q' := (59, [some (.ref 52), some (.int l1), some (.int l2), some (.int v1), some (.int v2)], [.int v2, .ref 52], M4)) rfl).trans ?_
    refine (evn_adv 1 (q' := (62, [some (.ref 52), some (.int l1), some (.int l2), some (.int v1), some (.int v2)], [], (sI M4 52 (va_up (M4.1 52) 30 v2)))) rfl).trans ?_
    refine wr_in (f := fun M5 => E_131 d (62, [some (.ref 52), some (.int l1), some (.int l2), some (.int v1), some (.int v2)], [], M5)) (fun M5 => ?_)
    exact evn_end 1 rfl
/-- TermStrategiesModel.tries(II)Z -/
noncomputable abbrev E_132 (d : Nat) : PQ → PO := evn (rnn k_132 lay none (pcl GG lay d) 2)
theorem q_132 (d : Nat) (l1 : Int32) (l2 : Int32) (M : PM) : pcl GG lay (d + 1) 132 [.ref 52, .int l1, .int l2] M = (kV (pcl GG lay d 130 [.ref 52, .int l2] M) fun M1 => (kI (pcl GG lay d 140 [.ref 52, .int l1, .int l2] M1) fun r2 M2 => (if (M2.1 52 27) = jn 0 then (if r2 = jn 0 then (kV (pcl GG lay d 131 [.ref 52, .int l2, .int (jn 1)] M2) fun M3 => (rZ r2 M3)) else (kV (pcl GG lay d 131 [.ref 52, .int l2, .int (jn 0)] M2) fun M3 => (rZ r2 M3))) else (rZ (jn 0) M2)))) := by
  refine (pcl_un (mt := t_132) (by decide) rfl (Nat.le_of_ble_eq_true rfl)).trans ?_
  show E_132 d (0, [some (.ref 52), some (.int l1), some (.int l2), none], [], M) = _
  refine (evn_adv 2 (q' := (2, [some (.ref 52), some (.int l1), some (.int l2), none], [.int l2, .ref 52], M)) rfl).trans ?_
  refine (e_kV (q := (2, [some (.ref 52), some (.int l1), some (.int l2), none], [.int l2, .ref 52])) (q2 := (5, [some (.ref 52), some (.int l1), some (.int l2), none], [])) (M := M) (o := (pcl GG lay d 130 [.ref 52, .int l2] M)) (hf := rfl) rfl rfl).trans ?_
  refine kV_in (fun M1 => ?_)
  refine (evn_adv 3 (q' := (8, [some (.ref 52), some (.int l1), some (.int l2), none], [.int l2, .int l1, .ref 52], M1)) rfl).trans ?_
  refine (e_kI (q := (8, [some (.ref 52), some (.int l1), some (.int l2), none], [.int l2, .int l1, .ref 52])) (q2 := (11, [some (.ref 52), some (.int l1), some (.int l2), none], [])) (M := M1) (o := (pcl GG lay d 140 [.ref 52, .int l1, .int l2] M1)) (hf := rfl) rfl rfl).trans ?_
  refine kI_in (fun r2 M2 => ?_)
  refine (evn_adv 3 (q' := (16, [some (.ref 52), some (.int l1), some (.int l2), some (.int r2)], [.int (M2.1 52 27)], M2)) rfl).trans ?_
  refine (e_if_eq (hf := rfl)).trans ?_
  refine ite_in ?_ ?_
  · refine (evn_adv 3 (q' := (24, [some (.ref 52), some (.int l1), some (.int l2), some (.int r2)], [.int r2, .int l2, .ref 52], M2)) rfl).trans ?_
    refine (e_if_ne (hf := rfl)).trans ?_
    refine ite_in ?_ ?_
    · refine (evn_adv 2 (q' := (32, [some (.ref 52), some (.int l1), some (.int l2), some (.int r2)], [.int (jn 1), .int l2, .ref 52], M2)) rfl).trans ?_
      refine (e_kV (q := (32, [some (.ref 52), some (.int l1), some (.int l2), some (.int r2)], [.int (jn 1), .int l2, .ref 52])) (q2 := (35, [some (.ref 52), some (.int l1), some (.int l2), some (.int r2)], [])) (M := M2) (o := (pcl GG lay d 131 [.ref 52, .int l2, .int (jn 1)] M2)) (hf := rfl) rfl rfl).trans ?_
      refine kV_in (fun M3 => ?_)
      refine (evn_adv 1 (q' := (36, [some (.ref 52), some (.int l1), some (.int l2), some (.int r2)], [.int r2], M3)) rfl).trans ?_
      exact e_iretz (hf := rfl)
    · refine (evn_adv 1 (q' := (32, [some (.ref 52), some (.int l1), some (.int l2), some (.int r2)], [.int (jn 0), .int l2, .ref 52], M2)) rfl).trans ?_
      refine (e_kV (q := (32, [some (.ref 52), some (.int l1), some (.int l2), some (.int r2)], [.int (jn 0), .int l2, .ref 52])) (q2 := (35, [some (.ref 52), some (.int l1), some (.int l2), some (.int r2)], [])) (M := M2) (o := (pcl GG lay d 131 [.ref 52, .int l2, .int (jn 0)] M2)) (hf := rfl) rfl rfl).trans ?_
      refine kV_in (fun M3 => ?_)
      refine (evn_adv 1 (q' := (36, [some (.ref 52), some (.int l1), some (.int l2), some (.int r2)], [.int r2], M3)) rfl).trans ?_
      exact e_iretz (hf := rfl)
  · refine (evn_adv 1 (q' := (20, [some (.ref 52), some (.int l1), some (.int l2), some (.int r2)], [.int (jn 0)], M2)) rfl).trans ?_
    exact e_iretz (hf := rfl)
/-- TermStrategiesModel.fitsIn(I)Z -/
noncomputable abbrev E_133 (d : Nat) : PQ → PO := evn (rnn k_133 lay none (pcl GG lay d) 2)
theorem q_133 (d : Nat) (l1 : Int32) (M : PM) : pcl GG lay (d + 1) 133 [.ref 52, .int l1] M = (kI (pcl GG lay d 78 [.ref 65, .int l1] M) fun r1 M1 => (if (jn 40) < r1 then (kI (pcl GG lay d 125 [.ref 52] M1) fun r2 M2 => (if r2 = jn 0 then (rZ (jn 0) M2) else (rZ (jn 1) M2))) else (rZ (jn 1) M1))) := by
  refine (pcl_un (mt := t_133) (by decide) rfl (Nat.le_of_ble_eq_true rfl)).trans ?_
  show E_133 d (0, [some (.ref 52), some (.int l1)], [], M) = _
  refine (evn_adv 3 (q' := (5, [some (.ref 52), some (.int l1)], [.int l1, .ref 65], M)) rfl).trans ?_
  refine (e_kI (q := (5, [some (.ref 52), some (.int l1)], [.int l1, .ref 65])) (q2 := (8, [some (.ref 52), some (.int l1)], [])) (M := M) (o := (pcl GG lay d 78 [.ref 65, .int l1] M)) (hf := rfl) rfl rfl).trans ?_
  refine kI_in (fun r1 M1 => ?_)
  refine (evn_adv 1 (q' := (10, [some (.ref 52), some (.int l1)], [.int (jn 40), .int r1], M1)) rfl).trans ?_
  refine (e_ic_le (hf := rfl)).trans ?_
  refine ite_in ?_ ?_
  · refine (evn_adv 1 (q' := (14, [some (.ref 52), some (.int l1)], [.ref 52], M1)) rfl).trans ?_
    refine (e_kI (q := (14, [some (.ref 52), some (.int l1)], [.ref 52])) (q2 := (17, [some (.ref 52), some (.int l1)], [])) (M := M1) (o := (pcl GG lay d 125 [.ref 52] M1)) (hf := rfl) rfl rfl).trans ?_
    refine kI_in (fun r2 M2 => ?_)
    refine (e_if_eq (hf := rfl)).trans ?_
    refine ite_in ?_ ?_
    · refine (evn_adv 1 (q' := (25, [some (.ref 52), some (.int l1)], [.int (jn 0)], M2)) rfl).trans ?_
      exact e_iretz (hf := rfl)
    · refine (evn_adv 2 (q' := (25, [some (.ref 52), some (.int l1)], [.int (jn 1)], M2)) rfl).trans ?_
      exact e_iretz (hf := rfl)
  · refine (evn_adv 2 (q' := (25, [some (.ref 52), some (.int l1)], [.int (jn 1)], M1)) rfl).trans ?_
    exact e_iretz (hf := rfl)
/-- TermStrategiesModel.goesAll(II)Z -/
noncomputable abbrev E_134 (d : Nat) : PQ → PO := evn (rnn k_134 lay none (pcl GG lay d) 2)
theorem q_134 (d : Nat) (l1 : Int32) (l2 : Int32) (M : PM) : pcl GG lay (d + 1) 134 [.ref 52, .int l1, .int l2] M = (oB (aldI lay none M 65 l2) fun v1 => (kI (pcl GG lay d 77 [.int v1] M) fun r2 M2 => E_134 d (13, [some (.ref 52), some (.int l1), some (.int l2), some (.int r2), some (.int (jn 0))], [], M2))) := by
  refine (pcl_un (mt := t_134) (by decide) rfl (Nat.le_of_ble_eq_true rfl)).trans ?_
  show E_134 d (0, [some (.ref 52), some (.int l1), some (.int l2), none, none], [], M) = _
  refine (evn_adv 3 (q' := (5, [some (.ref 52), some (.int l1), some (.int l2), none, none], [.int l2, .ref 65], M)) rfl).trans ?_
  refine (e_oB (q := (5, [some (.ref 52), some (.int l1), some (.int l2), none, none], [.int l2, .ref 65], M)) (o := (aldI lay none M 65 l2)) (f := fun v1 => (6, [some (.ref 52), some (.int l1), some (.int l2), none, none], [.int v1], M)) (hf := rfl) rfl).trans ?_
  refine oB_in (fun v1 => ?_)
  refine (e_kI (q := (6, [some (.ref 52), some (.int l1), some (.int l2), none, none], [.int v1])) (q2 := (9, [some (.ref 52), some (.int l1), some (.int l2), none, none], [])) (M := M) (o := (pcl GG lay d 77 [.int v1] M)) (hf := rfl) rfl rfl).trans ?_
  refine kI_in (fun r2 M2 => ?_)
  refine (evn_adv 3 (q' := (13, [some (.ref 52), some (.int l1), some (.int l2), some (.int r2), some (.int (jn 0))], [], M2)) rfl).trans ?_
  rfl
theorem h_134_13 (d : Nat) (l1 : Int32) (l2 : Int32) (l3 : Int32) (l4 : Int32) (M : PM) : E_134 d (13, [some (.ref 52), some (.int l1), some (.int l2), some (.int l3), some (.int l4)], [], M) = (if l4 < l3 then (kI (pcl GG lay d 79 [.ref 65, .int l2, .int l4] M) fun r1 M1 => (kI (pcl GG lay d 140 [.ref 52, .int l1, .int r1] M1) fun r2 M2 => (if r2 = jn 0 then (rZ (jn 0) M2) else E_134 d (13, [some (.ref 52), some (.int l1), some (.int l2), some (.int l3), some (.int (l4 + (jn 1)))], [], M2)))) else (kI (pcl GG lay d 133 [.ref 52, .int l2] M) fun r1 M1 => (rZ r1 M1))) := by
  refine (evn_adv 2 (q' := (16, [some (.ref 52), some (.int l1), some (.int l2), some (.int l3), some (.int l4)], [.int l3, .int l4], M)) rfl).trans ?_
  refine (e_ic_ge (hf := rfl)).trans ?_
  refine ite_in ?_ ?_
  · refine (evn_adv 6 (q' := (28, [some (.ref 52), some (.int l1), some (.int l2), some (.int l3), some (.int l4)], [.int l4, .int l2, .ref 65, .int l1, .ref 52], M)) rfl).trans ?_
    refine (e_kI (q := (28, [some (.ref 52), some (.int l1), some (.int l2), some (.int l3), some (.int l4)], [.int l4, .int l2, .ref 65, .int l1, .ref 52])) (q2 := (31, [some (.ref 52), some (.int l1), some (.int l2), some (.int l3), some (.int l4)], [.int l1, .ref 52])) (M := M) (o := (pcl GG lay d 79 [.ref 65, .int l2, .int l4] M)) (hf := rfl) rfl rfl).trans ?_
    refine kI_in (fun r1 M1 => ?_)
    refine (e_kI (q := (31, [some (.ref 52), some (.int l1), some (.int l2), some (.int l3), some (.int l4)], [.int r1, .int l1, .ref 52])) (q2 := (34, [some (.ref 52), some (.int l1), some (.int l2), some (.int l3), some (.int l4)], [])) (M := M1) (o := (pcl GG lay d 140 [.ref 52, .int l1, .int r1] M1)) (hf := rfl) rfl rfl).trans ?_
    refine kI_in (fun r2 M2 => ?_)
    refine (e_if_ne (hf := rfl)).trans ?_
    refine ite_in ?_ ?_
    · refine (evn_adv 1 (q' := (38, [some (.ref 52), some (.int l1), some (.int l2), some (.int l3), some (.int l4)], [.int (jn 0)], M2)) rfl).trans ?_
      exact e_iretz (hf := rfl)
    · refine (evn_adv 2 (q' := (13, [some (.ref 52), some (.int l1), some (.int l2), some (.int l3), some (.int (l4 + (jn 1)))], [], M2)) rfl).trans ?_
      rfl
  · refine (evn_adv 2 (q' := (47, [some (.ref 52), some (.int l1), some (.int l2), some (.int l3), some (.int l4)], [.int l2, .ref 52], M)) rfl).trans ?_
    refine (e_kI (q := (47, [some (.ref 52), some (.int l1), some (.int l2), some (.int l3), some (.int l4)], [.int l2, .ref 52])) (q2 := (50, [some (.ref 52), some (.int l1), some (.int l2), some (.int l3), some (.int l4)], [])) (M := M) (o := (pcl GG lay d 133 [.ref 52, .int l2] M)) (hf := rfl) rfl rfl).trans ?_
    refine kI_in (fun r1 M1 => ?_)
    exact e_iretz (hf := rfl)
/-- TermStrategiesModel.goesOne(II)Z -/
noncomputable abbrev E_135 (d : Nat) : PQ → PO := evn (rnn k_135 lay none (pcl GG lay d) 2)
theorem q_135 (d : Nat) (l1 : Int32) (l2 : Int32) (M : PM) : pcl GG lay (d + 1) 135 [.ref 52, .int l1, .int l2] M = (oB (aldI lay none M 65 l2) fun v1 => (kI (pcl GG lay d 77 [.int v1] M) fun r2 M2 => E_135 d (13, [some (.ref 52), some (.int l1), some (.int l2), some (.int r2), some (.int (jn 0))], [], M2))) := by
  refine (pcl_un (mt := t_135) (by decide) rfl (Nat.le_of_ble_eq_true rfl)).trans ?_
  show E_135 d (0, [some (.ref 52), some (.int l1), some (.int l2), none, none], [], M) = _
  refine (evn_adv 3 (q' := (5, [some (.ref 52), some (.int l1), some (.int l2), none, none], [.int l2, .ref 65], M)) rfl).trans ?_
  refine (e_oB (q := (5, [some (.ref 52), some (.int l1), some (.int l2), none, none], [.int l2, .ref 65], M)) (o := (aldI lay none M 65 l2)) (f := fun v1 => (6, [some (.ref 52), some (.int l1), some (.int l2), none, none], [.int v1], M)) (hf := rfl) rfl).trans ?_
  refine oB_in (fun v1 => ?_)
  refine (e_kI (q := (6, [some (.ref 52), some (.int l1), some (.int l2), none, none], [.int v1])) (q2 := (9, [some (.ref 52), some (.int l1), some (.int l2), none, none], [])) (M := M) (o := (pcl GG lay d 77 [.int v1] M)) (hf := rfl) rfl rfl).trans ?_
  refine kI_in (fun r2 M2 => ?_)
  refine (evn_adv 3 (q' := (13, [some (.ref 52), some (.int l1), some (.int l2), some (.int r2), some (.int (jn 0))], [], M2)) rfl).trans ?_
  rfl
theorem h_135_13 (d : Nat) (l1 : Int32) (l2 : Int32) (l3 : Int32) (l4 : Int32) (M : PM) : E_135 d (13, [some (.ref 52), some (.int l1), some (.int l2), some (.int l3), some (.int l4)], [], M) = (if l4 < l3 then (kI (pcl GG lay d 79 [.ref 65, .int l2, .int l4] M) fun r1 M1 => (kI (pcl GG lay d 132 [.ref 52, .int l1, .int r1] M1) fun r2 M2 => (if r2 = jn 0 then (if (M2.1 52 27) = jn 0 then E_135 d (13, [some (.ref 52), some (.int l1), some (.int l2), some (.int l3), some (.int (l4 + (jn 1)))], [], M2) else (rZ (jn 0) M2)) else (kI (pcl GG lay d 133 [.ref 52, .int l2] M2) fun r3 M3 => (rZ r3 M3))))) else (rZ (jn 0) M)) := by
  refine (evn_adv 2 (q' := (16, [some (.ref 52), some (.int l1), some (.int l2), some (.int l3), some (.int l4)], [.int l3, .int l4], M)) rfl).trans ?_
  refine (e_ic_ge (hf := rfl)).trans ?_
  refine ite_in ?_ ?_
  · refine (evn_adv 6 (q' := (28, [some (.ref 52), some (.int l1), some (.int l2), some (.int l3), some (.int l4)], [.int l4, .int l2, .ref 65, .int l1, .ref 52], M)) rfl).trans ?_
    refine (e_kI (q := (28, [some (.ref 52), some (.int l1), some (.int l2), some (.int l3), some (.int l4)], [.int l4, .int l2, .ref 65, .int l1, .ref 52])) (q2 := (31, [some (.ref 52), some (.int l1), some (.int l2), some (.int l3), some (.int l4)], [.int l1, .ref 52])) (M := M) (o := (pcl GG lay d 79 [.ref 65, .int l2, .int l4] M)) (hf := rfl) rfl rfl).trans ?_
    refine kI_in (fun r1 M1 => ?_)
    refine (e_kI (q := (31, [some (.ref 52), some (.int l1), some (.int l2), some (.int l3), some (.int l4)], [.int r1, .int l1, .ref 52])) (q2 := (34, [some (.ref 52), some (.int l1), some (.int l2), some (.int l3), some (.int l4)], [])) (M := M1) (o := (pcl GG lay d 132 [.ref 52, .int l1, .int r1] M1)) (hf := rfl) rfl rfl).trans ?_
    refine kI_in (fun r2 M2 => ?_)
    refine (e_if_eq (hf := rfl)).trans ?_
    refine ite_in ?_ ?_
    · refine (evn_adv 2 (q' := (47, [some (.ref 52), some (.int l1), some (.int l2), some (.int l3), some (.int l4)], [.int (M2.1 52 27)], M2)) rfl).trans ?_
      refine (e_if_eq (hf := rfl)).trans ?_
      refine ite_in ?_ ?_
      · refine (evn_adv 2 (q' := (13, [some (.ref 52), some (.int l1), some (.int l2), some (.int l3), some (.int (l4 + (jn 1)))], [], M2)) rfl).trans ?_
        rfl
      · refine (evn_adv 1 (q' := (51, [some (.ref 52), some (.int l1), some (.int l2), some (.int l3), some (.int l4)], [.int (jn 0)], M2)) rfl).trans ?_
        exact e_iretz (hf := rfl)
    · refine (evn_adv 2 (q' := (39, [some (.ref 52), some (.int l1), some (.int l2), some (.int l3), some (.int l4)], [.int l2, .ref 52], M2)) rfl).trans ?_
      refine (e_kI (q := (39, [some (.ref 52), some (.int l1), some (.int l2), some (.int l3), some (.int l4)], [.int l2, .ref 52])) (q2 := (42, [some (.ref 52), some (.int l1), some (.int l2), some (.int l3), some (.int l4)], [])) (M := M2) (o := (pcl GG lay d 133 [.ref 52, .int l2] M2)) (hf := rfl) rfl rfl).trans ?_
      refine kI_in (fun r3 M3 => ?_)
      exact e_iretz (hf := rfl)
  · refine (evn_adv 1 (q' := (59, [some (.ref 52), some (.int l1), some (.int l2), some (.int l3), some (.int l4)], [.int (jn 0)], M)) rfl).trans ?_
    exact e_iretz (hf := rfl)
/-- TermStrategiesModel.goesSome(II)Z -/
noncomputable abbrev E_136 (d : Nat) : PQ → PO := evn (rnn k_136 lay none (pcl GG lay d) 2)
theorem q_136 (d : Nat) (l1 : Int32) (l2 : Int32) (M : PM) : pcl GG lay (d + 1) 136 [.ref 52, .int l1, .int l2] M = (oB (aldI lay none M 65 l2) fun v1 => (kI (pcl GG lay d 77 [.int v1] M) fun r2 M2 => E_136 d (16, [some (.ref 52), some (.int l1), some (.int l2), some (.int r2), some (.int (jn 0)), some (.int (jn 0))], [], M2))) := by
  refine (pcl_un (mt := t_136) (by decide) rfl (Nat.le_of_ble_eq_true rfl)).trans ?_
  show E_136 d (0, [some (.ref 52), some (.int l1), some (.int l2), none, none, none], [], M) = _
  refine (evn_adv 3 (q' := (5, [some (.ref 52), some (.int l1), some (.int l2), none, none, none], [.int l2, .ref 65], M)) rfl).trans ?_
  refine (e_oB (q := (5, [some (.ref 52), some (.int l1), some (.int l2), none, none, none], [.int l2, .ref 65], M)) (o := (aldI lay none M 65 l2)) (f := fun v1 => (6, [some (.ref 52), some (.int l1), some (.int l2), none, none, none], [.int v1], M)) (hf := rfl) rfl).trans ?_
  refine oB_in (fun v1 => ?_)
  refine (e_kI (q := (6, [some (.ref 52), some (.int l1), some (.int l2), none, none, none], [.int v1])) (q2 := (9, [some (.ref 52), some (.int l1), some (.int l2), none, none, none], [])) (M := M) (o := (pcl GG lay d 77 [.int v1] M)) (hf := rfl) rfl rfl).trans ?_
  refine kI_in (fun r2 M2 => ?_)
  refine (evn_adv 5 (q' := (16, [some (.ref 52), some (.int l1), some (.int l2), some (.int r2), some (.int (jn 0)), some (.int (jn 0))], [], M2)) rfl).trans ?_
  rfl
theorem h_136_16 (d : Nat) (l1 : Int32) (l2 : Int32) (l3 : Int32) (l4 : Int32) (l5 : Int32) (M : PM) : E_136 d (16, [some (.ref 52), some (.int l1), some (.int l2), some (.int l3), some (.int l4), some (.int l5)], [], M) = (if l5 < l3 then (kI (pcl GG lay d 79 [.ref 65, .int l2, .int l5] M) fun r1 M1 => (kI (pcl GG lay d 132 [.ref 52, .int l1, .int r1] M1) fun r2 M2 => (if r2 = jn 0 then (if (M2.1 52 27) = jn 0 then E_136 d (16, [some (.ref 52), some (.int l1), some (.int l2), some (.int l3), some (.int l4), some (.int (l5 + (jn 1)))], [], M2) else (rZ (jn 0) M2)) else (if (M2.1 52 27) = jn 0 then E_136 d (16, [some (.ref 52), some (.int l1), some (.int l2), some (.int l3), some (.int (jn 1)), some (.int (l5 + (jn 1)))], [], M2) else (rZ (jn 0) M2))))) else (if l4 = jn 0 then (rZ (jn 0) M) else (kI (pcl GG lay d 133 [.ref 52, .int l2] M) fun r1 M1 => (if r1 = jn 0 then (rZ (jn 0) M1) else (rZ (jn 1) M1))))) := by
  refine (evn_adv 2 (q' := (19, [some (.ref 52), some (.int l1), some (.int l2), some (.int l3), some (.int l4), some (.int l5)], [.int l3, .int l5], M)) rfl).trans ?_
  refine (e_ic_ge (hf := rfl)).trans ?_
  refine ite_in ?_ ?_
  · refine (evn_adv 6 (q' := (31, [some (.ref 52), some (.int l1), some (.int l2), some (.int l3), some (.int l4), some (.int l5)], [.int l5, .int l2, .ref 65, .int l1, .ref 52], M)) rfl).trans ?_
    refine (e_kI (q := (31, [some (.ref 52), some (.int l1), some (.int l2), some (.int l3), some (.int l4), some (.int l5)], [.int l5, .int l2, .ref 65, .int l1, .ref 52])) (q2 := (34, [some (.ref 52), some (.int l1), some (.int l2), some (.int l3), some (.int l4), some (.int l5)], [.int l1, .ref 52])) (M := M) (o := (pcl GG lay d 79 [.ref 65, .int l2, .int l5] M)) (hf := rfl) rfl rfl).trans ?_
    refine kI_in (fun r1 M1 => ?_)
    refine (e_kI (q := (34, [some (.ref 52), some (.int l1), some (.int l2), some (.int l3), some (.int l4), some (.int l5)], [.int r1, .int l1, .ref 52])) (q2 := (37, [some (.ref 52), some (.int l1), some (.int l2), some (.int l3), some (.int l4), some (.int l5)], [])) (M := M1) (o := (pcl GG lay d 132 [.ref 52, .int l1, .int r1] M1)) (hf := rfl) rfl rfl).trans ?_
    refine kI_in (fun r2 M2 => ?_)
    refine (e_if_eq (hf := rfl)).trans ?_
    refine ite_in ?_ ?_
    · refine (evn_adv 2 (q' := (47, [some (.ref 52), some (.int l1), some (.int l2), some (.int l3), some (.int l4), some (.int l5)], [.int (M2.1 52 27)], M2)) rfl).trans ?_
      refine (e_if_eq (hf := rfl)).trans ?_
      refine ite_in ?_ ?_
      · refine (evn_adv 2 (q' := (16, [some (.ref 52), some (.int l1), some (.int l2), some (.int l3), some (.int l4), some (.int (l5 + (jn 1)))], [], M2)) rfl).trans ?_
        rfl
      · refine (evn_adv 1 (q' := (51, [some (.ref 52), some (.int l1), some (.int l2), some (.int l3), some (.int l4), some (.int l5)], [.int (jn 0)], M2)) rfl).trans ?_
        exact e_iretz (hf := rfl)
    · refine (evn_adv 4 (q' := (47, [some (.ref 52), some (.int l1), some (.int l2), some (.int l3), some (.int (jn 1)), some (.int l5)], [.int (M2.1 52 27)], M2)) rfl).trans ?_
      refine (e_if_eq (hf := rfl)).trans ?_
      refine ite_in ?_ ?_
      · refine (evn_adv 2 (q' := (16, [some (.ref 52), some (.int l1), some (.int l2), some (.int l3), some (.int (jn 1)), some (.int (l5 + (jn 1)))], [], M2)) rfl).trans ?_
        rfl
      · refine (evn_adv 1 (q' := (51, [some (.ref 52), some (.int l1), some (.int l2), some (.int l3), some (.int (jn 1)), some (.int l5)], [.int (jn 0)], M2)) rfl).trans ?_
        exact e_iretz (hf := rfl)
  · refine (evn_adv 1 (q' := (60, [some (.ref 52), some (.int l1), some (.int l2), some (.int l3), some (.int l4), some (.int l5)], [.int l4], M)) rfl).trans ?_
    refine (e_if_eq (hf := rfl)).trans ?_
    refine ite_in ?_ ?_
    · refine (evn_adv 1 (q' := (76, [some (.ref 52), some (.int l1), some (.int l2), some (.int l3), some (.int l4), some (.int l5)], [.int (jn 0)], M)) rfl).trans ?_
      exact e_iretz (hf := rfl)
    · refine (evn_adv 2 (q' := (65, [some (.ref 52), some (.int l1), some (.int l2), some (.int l3), some (.int l4), some (.int l5)], [.int l2, .ref 52], M)) rfl).trans ?_
      refine (e_kI (q := (65, [some (.ref 52), some (.int l1), some (.int l2), some (.int l3), some (.int l4), some (.int l5)], [.int l2, .ref 52])) (q2 := (68, [some (.ref 52), some (.int l1), some (.int l2), some (.int l3), some (.int l4), some (.int l5)], [])) (M := M) (o := (pcl GG lay d 133 [.ref 52, .int l2] M)) (hf := rfl) rfl rfl).trans ?_
      refine kI_in (fun r1 M1 => ?_)
      refine (e_if_eq (hf := rfl)).trans ?_
      refine ite_in ?_ ?_
      · refine (evn_adv 1 (q' := (76, [some (.ref 52), some (.int l1), some (.int l2), some (.int l3), some (.int l4), some (.int l5)], [.int (jn 0)], M1)) rfl).trans ?_
        exact e_iretz (hf := rfl)
      · refine (evn_adv 2 (q' := (76, [some (.ref 52), some (.int l1), some (.int l2), some (.int l3), some (.int l4), some (.int l5)], [.int (jn 1)], M1)) rfl).trans ?_
        exact e_iretz (hf := rfl)
/-- TermStrategiesModel.repeats(II)Z -/
noncomputable abbrev E_137 (d : Nat) : PQ → PO := evn (rnn k_137 lay none (pcl GG lay d) 2)
theorem q_137 (d : Nat) (l1 : Int32) (l2 : Int32) (M : PM) : pcl GG lay (d + 1) 137 [.ref 52, .int l1, .int l2] M = E_137 d (2, [some (.ref 52), some (.int l1), some (.int l2), some (.int (jn 1))], [], M) := by
  refine (pcl_un (mt := t_137) (by decide) rfl (Nat.le_of_ble_eq_true rfl)).trans ?_
  show E_137 d (0, [some (.ref 52), some (.int l1), some (.int l2), none], [], M) = _
  refine (evn_adv 2 (q' := (2, [some (.ref 52), some (.int l1), some (.int l2), some (.int (jn 1))], [], M)) rfl).trans ?_
  rfl
theorem h_137_2 (d : Nat) (l1 : Int32) (l2 : Int32) (l3 : Int32) (M : PM) : E_137 d (2, [some (.ref 52), some (.int l1), some (.int l2), some (.int l3)], [], M) = (if l3 = jn 0 then (if (M.1 52 27) = jn 0 then (rZ (jn 1) M) else (rZ (jn 0) M)) else (kI (pcl GG lay d 132 [.ref 52, .int l1, .int l2] M) fun r1 M1 => E_137 d (2, [some (.ref 52), some (.int l1), some (.int l2), some (.int r1)], [], M1))) := by
  refine (evn_adv 1 (q' := (3, [some (.ref 52), some (.int l1), some (.int l2), some (.int l3)], [.int l3], M)) rfl).trans ?_
  refine (e_if_eq (hf := rfl)).trans ?_
  refine ite_in ?_ ?_
  · refine (evn_adv 2 (q' := (20, [some (.ref 52), some (.int l1), some (.int l2), some (.int l3)], [.int (M.1 52 27)], M)) rfl).trans ?_
    refine (e_if_ne (hf := rfl)).trans ?_
    refine ite_in ?_ ?_
    · refine (evn_adv 2 (q' := (28, [some (.ref 52), some (.int l1), some (.int l2), some (.int l3)], [.int (jn 1)], M)) rfl).trans ?_
      exact e_iretz (hf := rfl)
    · refine (evn_adv 1 (q' := (28, [some (.ref 52), some (.int l1), some (.int l2), some (.int l3)], [.int (jn 0)], M)) rfl).trans ?_
      exact e_iretz (hf := rfl)
  · refine (evn_adv 3 (q' := (9, [some (.ref 52), some (.int l1), some (.int l2), some (.int l3)], [.int l2, .int l1, .ref 52], M)) rfl).trans ?_
    refine (e_kI (q := (9, [some (.ref 52), some (.int l1), some (.int l2), some (.int l3)], [.int l2, .int l1, .ref 52])) (q2 := (12, [some (.ref 52), some (.int l1), some (.int l2), some (.int l3)], [])) (M := M) (o := (pcl GG lay d 132 [.ref 52, .int l1, .int l2] M)) (hf := rfl) rfl rfl).trans ?_
    refine kI_in (fun r1 M1 => ?_)
    refine (evn_adv 2 (q' := (2, [some (.ref 52), some (.int l1), some (.int l2), some (.int r1)], [], M1)) rfl).trans ?_
    rfl
/-- TermStrategiesModel.innermost(II)Z -/
noncomputable abbrev E_138 (d : Nat) : PQ → PO := evn (rnn k_138 lay none (pcl GG lay d) 2)
theorem q_138 (d : Nat) (l1 : Int32) (l2 : Int32) (M : PM) : pcl GG lay (d + 1) 138 [.ref 52, .int l1, .int l2] M = E_138 d (2, [some (.ref 52), some (.int l1), some (.int l2), some (.int (jn 1))], [], M) := by
  refine (pcl_un (mt := t_138) (by decide) rfl (Nat.le_of_ble_eq_true rfl)).trans ?_
  show E_138 d (0, [some (.ref 52), some (.int l1), some (.int l2), none], [], M) = _
  refine (evn_adv 2 (q' := (2, [some (.ref 52), some (.int l1), some (.int l2), some (.int (jn 1))], [], M)) rfl).trans ?_
  rfl
theorem h_138_2 (d : Nat) (l1 : Int32) (l2 : Int32) (l3 : Int32) (M : PM) : E_138 d (2, [some (.ref 52), some (.int l1), some (.int l2), some (.int l3)], [], M) = (if l3 = jn 0 then (rZ (jn 1) M) else (kI (pcl GG lay d 134 [.ref 52, .int l1, .int l2] M) fun r1 M1 => (if r1 = jn 0 then (rZ (jn 0) M1) else (kI (pcl GG lay d 128 [.ref 52, .int l1] M1) fun r2 M2 => (kI (pcl GG lay d 132 [.ref 52, .int r2, .int l2] M2) fun r3 M3 => (if (M3.1 52 27) = jn 0 then (if r3 = jn 0 then E_138 d (2, [some (.ref 52), some (.int l1), some (.int l2), some (.int r3)], [], M3) else (kI (pcl GG lay d 139 [.ref 52] M3) fun r4 M4 => (if r4 = jn 0 then (rZ (jn 0) M4) else E_138 d (2, [some (.ref 52), some (.int l1), some (.int l2), some (.int r3)], [], M4)))) else (rZ (jn 0) M3))))))) := by
  refine (evn_adv 1 (q' := (3, [some (.ref 52), some (.int l1), some (.int l2), some (.int l3)], [.int l3], M)) rfl).trans ?_
  refine (e_if_eq (hf := rfl)).trans ?_
  refine ite_in ?_ ?_
  · refine (evn_adv 1 (q' := (51, [some (.ref 52), some (.int l1), some (.int l2), some (.int l3)], [.int (jn 1)], M)) rfl).trans ?_
    exact e_iretz (hf := rfl)
  · refine (evn_adv 3 (q' := (9, [some (.ref 52), some (.int l1), some (.int l2), some (.int l3)], [.int l2, .int l1, .ref 52], M)) rfl).trans ?_
    refine (e_kI (q := (9, [some (.ref 52), some (.int l1), some (.int l2), some (.int l3)], [.int l2, .int l1, .ref 52])) (q2 := (12, [some (.ref 52), some (.int l1), some (.int l2), some (.int l3)], [])) (M := M) (o := (pcl GG lay d 134 [.ref 52, .int l1, .int l2] M)) (hf := rfl) rfl rfl).trans ?_
    refine kI_in (fun r1 M1 => ?_)
    refine (e_if_ne (hf := rfl)).trans ?_
    refine ite_in ?_ ?_
    · refine (evn_adv 1 (q' := (16, [some (.ref 52), some (.int l1), some (.int l2), some (.int l3)], [.int (jn 0)], M1)) rfl).trans ?_
      exact e_iretz (hf := rfl)
    · refine (evn_adv 3 (q' := (20, [some (.ref 52), some (.int l1), some (.int l2), some (.int l3)], [.int l1, .ref 52, .ref 52], M1)) rfl).trans ?_
      refine (e_kI (q := (20, [some (.ref 52), some (.int l1), some (.int l2), some (.int l3)], [.int l1, .ref 52, .ref 52])) (q2 := (23, [some (.ref 52), some (.int l1), some (.int l2), some (.int l3)], [.ref 52])) (M := M1) (o := (pcl GG lay d 128 [.ref 52, .int l1] M1)) (hf := rfl) rfl rfl).trans ?_
      refine kI_in (fun r2 M2 => ?_)
      refine (evn_adv 1 (q' := (24, [some (.ref 52), some (.int l1), some (.int l2), some (.int l3)], [.int l2, .int r2, .ref 52], M2)) rfl).trans ?_
      refine (e_kI (q := (24, [some (.ref 52), some (.int l1), some (.int l2), some (.int l3)], [.int l2, .int r2, .ref 52])) (q2 := (27, [some (.ref 52), some (.int l1), some (.int l2), some (.int l3)], [])) (M := M2) (o := (pcl GG lay d 132 [.ref 52, .int r2, .int l2] M2)) (hf := rfl) rfl rfl).trans ?_
      refine kI_in (fun r3 M3 => ?_)
      refine (evn_adv 3 (q' := (32, [some (.ref 52), some (.int l1), some (.int l2), some (.int r3)], [.int (M3.1 52 27)], M3)) rfl).trans ?_
      refine (e_if_eq (hf := rfl)).trans ?_
      refine ite_in ?_ ?_
      · refine (evn_adv 1 (q' := (38, [some (.ref 52), some (.int l1), some (.int l2), some (.int r3)], [.int r3], M3)) rfl).trans ?_
        refine (e_if_eq (hf := rfl)).trans ?_
        refine ite_in ?_ ?_
        · rfl
        · refine (evn_adv 1 (q' := (42, [some (.ref 52), some (.int l1), some (.int l2), some (.int r3)], [.ref 52], M3)) rfl).trans ?_
          refine (e_kI (q := (42, [some (.ref 52), some (.int l1), some (.int l2), some (.int r3)], [.ref 52])) (q2 := (45, [some (.ref 52), some (.int l1), some (.int l2), some (.int r3)], [])) (M := M3) (o := (pcl GG lay d 139 [.ref 52] M3)) (hf := rfl) rfl rfl).trans ?_
          refine kI_in (fun r4 M4 => ?_)
          refine (e_if_ne (hf := rfl)).trans ?_
          refine ite_in ?_ ?_
          · refine (evn_adv 1 (q' := (49, [some (.ref 52), some (.int l1), some (.int l2), some (.int r3)], [.int (jn 0)], M4)) rfl).trans ?_
            exact e_iretz (hf := rfl)
          · rfl
      · refine (evn_adv 1 (q' := (36, [some (.ref 52), some (.int l1), some (.int l2), some (.int r3)], [.int (jn 0)], M3)) rfl).trans ?_
        exact e_iretz (hf := rfl)
/-- TermStrategiesModel.begins()Z -/
noncomputable abbrev E_139 (d : Nat) : PQ → PO := evn (rnn k_139 lay none (pcl GG lay d) 2)
theorem q_139 (d : Nat)  (M : PM) : pcl GG lay (d + 1) 139 [.ref 52] M = (if (M.1 52 28) = (jn 600) then (kI (pcl GG lay d 125 [.ref 52] M) fun r1 M1 => (rZ r1 M1)) else (wr (sI M 52 (va_up (M.1 52) 28 ((M.1 52 28) + (jn 1)))) fun M1 => (rZ (jn 1) M1))) := by
  refine (pcl_un (mt := t_139) (by decide) rfl (Nat.le_of_ble_eq_true rfl)).trans ?_
  show E_139 d (0, [some (.ref 52)], [], M) = _
  refine (evn_adv 3 (q' := (7, [some (.ref 52)], [.int (jn 600), .int (M.1 52 28)], M)) rfl).trans ?_
  refine (e_ic_ne (hf := rfl)).trans ?_
  refine ite_in ?_ ?_
  · refine (evn_adv 1 (q' := (11, [some (.ref 52)], [.ref 52], M)) rfl).trans ?_
    refine (e_kI (q := (11, [some (.ref 52)], [.ref 52])) (q2 := (14, [some (.ref 52)], [])) (M := M) (o := (pcl GG lay d 125 [.ref 52] M)) (hf := rfl) rfl rfl).trans ?_
    refine kI_in (fun r1 M1 => ?_)
    exact e_iretz (hf := rfl)
  · refine (evn_adv 5 (q' := (22, [some (.ref 52)], [.int ((M.1 52 28) + (jn 1)), .ref 52], M)) rfl).trans ?_
    refine (evn_adv 1 (q' := (25, [some (.ref 52)], [], (sI M 52 (va_up (M.1 52) 28 ((M.1 52 28) + (jn 1)))))) rfl).trans ?_
    refine wr_in (f := fun M1 => E_139 d (25, [some (.ref 52)], [], M1)) (fun M1 => ?_)
    refine (evn_adv 1 (q' := (26, [some (.ref 52)], [.int (jn 1)], M1)) rfl).trans ?_
    exact e_iretz (hf := rfl)
/-- TermStrategiesModel.goes(II)Z -/
noncomputable abbrev E_140 (d : Nat) : PQ → PO := evn (rnn k_140 lay none (pcl GG lay d) 2)
theorem q_140 (d : Nat) (l1 : Int32) (l2 : Int32) (M : PM) : pcl GG lay (d + 1) 140 [.ref 52, .int l1, .int l2] M = (kI (pcl GG lay d 139 [.ref 52] M) fun r1 M1 => (if r1 = jn 0 then (rZ (jn 0) M1) else (kI (pcl GG lay d 128 [.ref 52, .int l1] M1) fun r2 M2 => (kI (pcl GG lay d 127 [.ref 52, .int l1] M2) fun r3 M3 => (if r3 = (jn 0) then (kI (pcl GG lay d 126 [.ref 52, .int r2, .int l2] M3) fun r4 M4 => (rZ r4 M4)) else (if r3 = (jn 1) then (rZ (jn 1) M3) else (if r3 = (jn 2) then (rZ (jn 0) M3) else (if r3 = (jn 3) then (kI (pcl GG lay d 140 [.ref 52, .int r2, .int l2] M3) fun r4 M4 => (if r4 = jn 0 then (rZ (jn 0) M4) else (kI (pcl GG lay d 129 [.ref 52, .int l1] M4) fun r5 M5 => (kI (pcl GG lay d 140 [.ref 52, .int r5, .int l2] M5) fun r6 M6 => (if r6 = jn 0 then (rZ (jn 0) M6) else (rZ (jn 1) M6)))))) else (if r3 = (jn 4) then (kI (pcl GG lay d 132 [.ref 52, .int r2, .int l2] M3) fun r4 M4 => (if r4 = jn 0 then (if (M4.1 52 27) = jn 0 then (kI (pcl GG lay d 129 [.ref 52, .int l1] M4) fun r5 M5 => (kI (pcl GG lay d 140 [.ref 52, .int r5, .int l2] M5) fun r6 M6 => (if r6 = jn 0 then (rZ (jn 0) M6) else (rZ (jn 1) M6)))) else (rZ (jn 0) M4)) else (rZ (jn 1) M4))) else (if r3 = (jn 5) then (kI (pcl GG lay d 132 [.ref 52, .int r2, .int l2] M3) fun r4 M4 => (if r4 = jn 0 then (if (M4.1 52 27) = jn 0 then (rZ (jn 1) M4) else (rZ (jn 0) M4)) else (rZ (jn 1) M4))) else (if r3 = (jn 6) then (kI (pcl GG lay d 134 [.ref 52, .int r2, .int l2] M3) fun r4 M4 => (rZ r4 M4)) else (if r3 = (jn 7) then (kI (pcl GG lay d 135 [.ref 52, .int r2, .int l2] M3) fun r4 M4 => (rZ r4 M4)) else (if r3 = (jn 8) then (kI (pcl GG lay d 136 [.ref 52, .int r2, .int l2] M3) fun r4 M4 => (rZ r4 M4)) else (if r3 = (jn 9) then (kI (pcl GG lay d 134 [.ref 52, .int l1, .int l2] M3) fun r4 M4 => (if r4 = jn 0 then (rZ (jn 0) M4) else (kI (pcl GG lay d 140 [.ref 52, .int r2, .int l2] M4) fun r5 M5 => (if r5 = jn 0 then (rZ (jn 0) M5) else (rZ (jn 1) M5))))) else (if r3 = (jn 10) then (kI (pcl GG lay d 140 [.ref 52, .int r2, .int l2] M3) fun r4 M4 => (if r4 = jn 0 then (rZ (jn 0) M4) else (kI (pcl GG lay d 134 [.ref 52, .int l1, .int l2] M4) fun r5 M5 => (if r5 = jn 0 then (rZ (jn 0) M5) else (rZ (jn 1) M5))))) else (if r3 = (jn 11) then (kI (pcl GG lay d 132 [.ref 52, .int r2, .int l2] M3) fun r4 M4 => (if r4 = jn 0 then (if (M4.1 52 27) = jn 0 then (kI (pcl GG lay d 135 [.ref 52, .int l1, .int l2] M4) fun r5 M5 => (if r5 = jn 0 then (rZ (jn 0) M5) else (rZ (jn 1) M5))) else (rZ (jn 0) M4)) else (rZ (jn 1) M4))) else (if r3 = (jn 12) then (kI (pcl GG lay d 138 [.ref 52, .int l1, .int l2] M3) fun r4 M4 => (rZ r4 M4)) else (kI (pcl GG lay d 137 [.ref 52, .int r2, .int l2] M3) fun r4 M4 => (rZ r4 M4))))))))))))))))))) := by
  refine (pcl_un (mt := t_140) (by decide) rfl (Nat.le_of_ble_eq_true rfl)).trans ?_
  show E_140 d (0, [some (.ref 52), some (.int l1), some (.int l2), none], [], M) = _
  refine (evn_adv 1 (q' := (1, [some (.ref 52), some (.int l1), some (.int l2), none], [.ref 52], M)) rfl).trans ?_
  refine (e_kI (q := (1, [some (.ref 52), some (.int l1), some (.int l2), none], [.ref 52])) (q2 := (4, [some (.ref 52), some (.int l1), some (.int l2), none], [])) (M := M) (o := (pcl GG lay d 139 [.ref 52] M)) (hf := rfl) rfl rfl).trans ?_
  refine kI_in (fun r1 M1 => ?_)
  refine (e_if_ne (hf := rfl)).trans ?_
  refine ite_in ?_ ?_
  · refine (evn_adv 1 (q' := (8, [some (.ref 52), some (.int l1), some (.int l2), none], [.int (jn 0)], M1)) rfl).trans ?_
    exact e_iretz (hf := rfl)
  · refine (evn_adv 2 (q' := (11, [some (.ref 52), some (.int l1), some (.int l2), none], [.int l1, .ref 52], M1)) rfl).trans ?_
    refine (e_kI (q := (11, [some (.ref 52), some (.int l1), some (.int l2), none], [.int l1, .ref 52])) (q2 := (14, [some (.ref 52), some (.int l1), some (.int l2), none], [])) (M := M1) (o := (pcl GG lay d 128 [.ref 52, .int l1] M1)) (hf := rfl) rfl rfl).trans ?_
    refine kI_in (fun r2 M2 => ?_)
    refine (evn_adv 3 (q' := (17, [some (.ref 52), some (.int l1), some (.int l2), some (.int r2)], [.int l1, .ref 52], M2)) rfl).trans ?_
    refine (e_kI (q := (17, [some (.ref 52), some (.int l1), some (.int l2), some (.int r2)], [.int l1, .ref 52])) (q2 := (20, [some (.ref 52), some (.int l1), some (.int l2), some (.int r2)], [])) (M := M2) (o := (pcl GG lay d 127 [.ref 52, .int l1] M2)) (hf := rfl) rfl rfl).trans ?_
    refine kI_in (fun r3 M3 => ?_)
    refine (e_sw0 (dflt := 291) (lo := ((0 : Nat) : Int)) (ts := [88, 95, 97, 99, 127, 162, 184, 191, 198, 205, 229, 253, 284]) (hf := rfl) rfl).trans ?_
    refine sw_cons (lo := 0) (F := fun pc => E_140 d (pc, [some (.ref 52), some (.int l1), some (.int l2), some (.int r2)], [], M3)) (by decide) ?_ ?_
    · refine (evn_adv 3 (q' := (91, [some (.ref 52), some (.int l1), some (.int l2), some (.int r2)], [.int l2, .int r2, .ref 52], M3)) rfl).trans ?_
      refine (e_kI (q := (91, [some (.ref 52), some (.int l1), some (.int l2), some (.int r2)], [.int l2, .int r2, .ref 52])) (q2 := (94, [some (.ref 52), some (.int l1), some (.int l2), some (.int r2)], [])) (M := M3) (o := (pcl GG lay d 126 [.ref 52, .int r2, .int l2] M3)) (hf := rfl) rfl rfl).trans ?_
      refine kI_in (fun r4 M4 => ?_)
      exact e_iretz (hf := rfl)
    refine sw_cons (lo := 1) (F := fun pc => E_140 d (pc, [some (.ref 52), some (.int l1), some (.int l2), some (.int r2)], [], M3)) (by decide) ?_ ?_
    · refine (evn_adv 1 (q' := (96, [some (.ref 52), some (.int l1), some (.int l2), some (.int r2)], [.int (jn 1)], M3)) rfl).trans ?_
      exact e_iretz (hf := rfl)
    refine sw_cons (lo := 2) (F := fun pc => E_140 d (pc, [some (.ref 52), some (.int l1), some (.int l2), some (.int r2)], [], M3)) (by decide) ?_ ?_
    · refine (evn_adv 1 (q' := (98, [some (.ref 52), some (.int l1), some (.int l2), some (.int r2)], [.int (jn 0)], M3)) rfl).trans ?_
      exact e_iretz (hf := rfl)
    refine sw_cons (lo := 3) (F := fun pc => E_140 d (pc, [some (.ref 52), some (.int l1), some (.int l2), some (.int r2)], [], M3)) (by decide) ?_ ?_
    · refine (evn_adv 3 (q' := (102, [some (.ref 52), some (.int l1), some (.int l2), some (.int r2)], [.int l2, .int r2, .ref 52], M3)) rfl).trans ?_
      refine (e_kI (q := (102, [some (.ref 52), some (.int l1), some (.int l2), some (.int r2)], [.int l2, .int r2, .ref 52])) (q2 := (105, [some (.ref 52), some (.int l1), some (.int l2), some (.int r2)], [])) (M := M3) (o := (pcl GG lay d 140 [.ref 52, .int r2, .int l2] M3)) (hf := rfl) rfl rfl).trans ?_
      refine kI_in (fun r4 M4 => ?_)
      refine (e_if_eq (hf := rfl)).trans ?_
      refine ite_in ?_ ?_
      · refine (evn_adv 1 (q' := (126, [some (.ref 52), some (.int l1), some (.int l2), some (.int r2)], [.int (jn 0)], M4)) rfl).trans ?_
        exact e_iretz (hf := rfl)
      · refine (evn_adv 3 (q' := (111, [some (.ref 52), some (.int l1), some (.int l2), some (.int r2)], [.int l1, .ref 52, .ref 52], M4)) rfl).trans ?_
        refine (e_kI (q := (111, [some (.ref 52), some (.int l1), some (.int l2), some (.int r2)], [.int l1, .ref 52, .ref 52])) (q2 := (114, [some (.ref 52), some (.int l1), some (.int l2), some (.int r2)], [.ref 52])) (M := M4) (o := (pcl GG lay d 129 [.ref 52, .int l1] M4)) (hf := rfl) rfl rfl).trans ?_
        refine kI_in (fun r5 M5 => ?_)
        refine (evn_adv 1 (q' := (115, [some (.ref 52), some (.int l1), some (.int l2), some (.int r2)], [.int l2, .int r5, .ref 52], M5)) rfl).trans ?_
        refine (e_kI (q := (115, [some (.ref 52), some (.int l1), some (.int l2), some (.int r2)], [.int l2, .int r5, .ref 52])) (q2 := (118, [some (.ref 52), some (.int l1), some (.int l2), some (.int r2)], [])) (M := M5) (o := (pcl GG lay d 140 [.ref 52, .int r5, .int l2] M5)) (hf := rfl) rfl rfl).trans ?_
        refine kI_in (fun r6 M6 => ?_)
        refine (e_if_eq (hf := rfl)).trans ?_
        refine ite_in ?_ ?_
        · refine (evn_adv 1 (q' := (126, [some (.ref 52), some (.int l1), some (.int l2), some (.int r2)], [.int (jn 0)], M6)) rfl).trans ?_
          exact e_iretz (hf := rfl)
        · refine (evn_adv 2 (q' := (126, [some (.ref 52), some (.int l1), some (.int l2), some (.int r2)], [.int (jn 1)], M6)) rfl).trans ?_
          exact e_iretz (hf := rfl)
    refine sw_cons (lo := 4) (F := fun pc => E_140 d (pc, [some (.ref 52), some (.int l1), some (.int l2), some (.int r2)], [], M3)) (by decide) ?_ ?_
    · refine (evn_adv 3 (q' := (130, [some (.ref 52), some (.int l1), some (.int l2), some (.int r2)], [.int l2, .int r2, .ref 52], M3)) rfl).trans ?_
      refine (e_kI (q := (130, [some (.ref 52), some (.int l1), some (.int l2), some (.int r2)], [.int l2, .int r2, .ref 52])) (q2 := (133, [some (.ref 52), some (.int l1), some (.int l2), some (.int r2)], [])) (M := M3) (o := (pcl GG lay d 132 [.ref 52, .int r2, .int l2] M3)) (hf := rfl) rfl rfl).trans ?_
      refine kI_in (fun r4 M4 => ?_)
      refine (e_if_ne (hf := rfl)).trans ?_
      refine ite_in ?_ ?_
      · refine (evn_adv 2 (q' := (140, [some (.ref 52), some (.int l1), some (.int l2), some (.int r2)], [.int (M4.1 52 27)], M4)) rfl).trans ?_
        refine (e_if_ne (hf := rfl)).trans ?_
        refine ite_in ?_ ?_
        · refine (evn_adv 3 (q' := (146, [some (.ref 52), some (.int l1), some (.int l2), some (.int r2)], [.int l1, .ref 52, .ref 52], M4)) rfl).trans ?_
          refine (e_kI (q := (146, [some (.ref 52), some (.int l1), some (.int l2), some (.int r2)], [.int l1, .ref 52, .ref 52])) (q2 := (149, [some (.ref 52), some (.int l1), some (.int l2), some (.int r2)], [.ref 52])) (M := M4) (o := (pcl GG lay d 129 [.ref 52, .int l1] M4)) (hf := rfl) rfl rfl).trans ?_
          refine kI_in (fun r5 M5 => ?_)
          refine (evn_adv 1 (q' := (150, [some (.ref 52), some (.int l1), some (.int l2), some (.int r2)], [.int l2, .int r5, .ref 52], M5)) rfl).trans ?_
          refine (e_kI (q := (150, [some (.ref 52), some (.int l1), some (.int l2), some (.int r2)], [.int l2, .int r5, .ref 52])) (q2 := (153, [some (.ref 52), some (.int l1), some (.int l2), some (.int r2)], [])) (M := M5) (o := (pcl GG lay d 140 [.ref 52, .int r5, .int l2] M5)) (hf := rfl) rfl rfl).trans ?_
          refine kI_in (fun r6 M6 => ?_)
          refine (e_if_eq (hf := rfl)).trans ?_
          refine ite_in ?_ ?_
          · refine (evn_adv 1 (q' := (161, [some (.ref 52), some (.int l1), some (.int l2), some (.int r2)], [.int (jn 0)], M6)) rfl).trans ?_
            exact e_iretz (hf := rfl)
          · refine (evn_adv 2 (q' := (161, [some (.ref 52), some (.int l1), some (.int l2), some (.int r2)], [.int (jn 1)], M6)) rfl).trans ?_
            exact e_iretz (hf := rfl)
        · refine (evn_adv 1 (q' := (161, [some (.ref 52), some (.int l1), some (.int l2), some (.int r2)], [.int (jn 0)], M4)) rfl).trans ?_
          exact e_iretz (hf := rfl)
      · refine (evn_adv 2 (q' := (161, [some (.ref 52), some (.int l1), some (.int l2), some (.int r2)], [.int (jn 1)], M4)) rfl).trans ?_
        exact e_iretz (hf := rfl)
    refine sw_cons (lo := 5) (F := fun pc => E_140 d (pc, [some (.ref 52), some (.int l1), some (.int l2), some (.int r2)], [], M3)) (by decide) ?_ ?_
    · refine (evn_adv 3 (q' := (165, [some (.ref 52), some (.int l1), some (.int l2), some (.int r2)], [.int l2, .int r2, .ref 52], M3)) rfl).trans ?_
      refine (e_kI (q := (165, [some (.ref 52), some (.int l1), some (.int l2), some (.int r2)], [.int l2, .int r2, .ref 52])) (q2 := (168, [some (.ref 52), some (.int l1), some (.int l2), some (.int r2)], [])) (M := M3) (o := (pcl GG lay d 132 [.ref 52, .int r2, .int l2] M3)) (hf := rfl) rfl rfl).trans ?_
      refine kI_in (fun r4 M4 => ?_)
      refine (e_if_ne (hf := rfl)).trans ?_
      refine ite_in ?_ ?_
      · refine (evn_adv 2 (q' := (175, [some (.ref 52), some (.int l1), some (.int l2), some (.int r2)], [.int (M4.1 52 27)], M4)) rfl).trans ?_
        refine (e_if_ne (hf := rfl)).trans ?_
        refine ite_in ?_ ?_
        · refine (evn_adv 2 (q' := (183, [some (.ref 52), some (.int l1), some (.int l2), some (.int r2)], [.int (jn 1)], M4)) rfl).trans ?_
          exact e_iretz (hf := rfl)
        · refine (evn_adv 1 (q' := (183, [some (.ref 52), some (.int l1), some (.int l2), some (.int r2)], [.int (jn 0)], M4)) rfl).trans ?_
          exact e_iretz (hf := rfl)
      · refine (evn_adv 2 (q' := (183, [some (.ref 52), some (.int l1), some (.int l2), some (.int r2)], [.int (jn 1)], M4)) rfl).trans ?_
        exact e_iretz (hf := rfl)
    refine sw_cons (lo := 6) (F := fun pc => E_140 d (pc, [some (.ref 52), some (.int l1), some (.int l2), some (.int r2)], [], M3)) (by decide) ?_ ?_
    · refine (evn_adv 3 (q' := (187, [some (.ref 52), some (.int l1), some (.int l2), some (.int r2)], [.int l2, .int r2, .ref 52], M3)) rfl).trans ?_
      refine (e_kI (q := (187, [some (.ref 52), some (.int l1), some (.int l2), some (.int r2)], [.int l2, .int r2, .ref 52])) (q2 := (190, [some (.ref 52), some (.int l1), some (.int l2), some (.int r2)], [])) (M := M3) (o := (pcl GG lay d 134 [.ref 52, .int r2, .int l2] M3)) (hf := rfl) rfl rfl).trans ?_
      refine kI_in (fun r4 M4 => ?_)
      exact e_iretz (hf := rfl)
    refine sw_cons (lo := 7) (F := fun pc => E_140 d (pc, [some (.ref 52), some (.int l1), some (.int l2), some (.int r2)], [], M3)) (by decide) ?_ ?_
    · refine (evn_adv 3 (q' := (194, [some (.ref 52), some (.int l1), some (.int l2), some (.int r2)], [.int l2, .int r2, .ref 52], M3)) rfl).trans ?_
      refine (e_kI (q := (194, [some (.ref 52), some (.int l1), some (.int l2), some (.int r2)], [.int l2, .int r2, .ref 52])) (q2 := (197, [some (.ref 52), some (.int l1), some (.int l2), some (.int r2)], [])) (M := M3) (o := (pcl GG lay d 135 [.ref 52, .int r2, .int l2] M3)) (hf := rfl) rfl rfl).trans ?_
      refine kI_in (fun r4 M4 => ?_)
      exact e_iretz (hf := rfl)
    refine sw_cons (lo := 8) (F := fun pc => E_140 d (pc, [some (.ref 52), some (.int l1), some (.int l2), some (.int r2)], [], M3)) (by decide) ?_ ?_
    · refine (evn_adv 3 (q' := (201, [some (.ref 52), some (.int l1), some (.int l2), some (.int r2)], [.int l2, .int r2, .ref 52], M3)) rfl).trans ?_
      refine (e_kI (q := (201, [some (.ref 52), some (.int l1), some (.int l2), some (.int r2)], [.int l2, .int r2, .ref 52])) (q2 := (204, [some (.ref 52), some (.int l1), some (.int l2), some (.int r2)], [])) (M := M3) (o := (pcl GG lay d 136 [.ref 52, .int r2, .int l2] M3)) (hf := rfl) rfl rfl).trans ?_
      refine kI_in (fun r4 M4 => ?_)
      exact e_iretz (hf := rfl)
    refine sw_cons (lo := 9) (F := fun pc => E_140 d (pc, [some (.ref 52), some (.int l1), some (.int l2), some (.int r2)], [], M3)) (by decide) ?_ ?_
    · refine (evn_adv 3 (q' := (208, [some (.ref 52), some (.int l1), some (.int l2), some (.int r2)], [.int l2, .int l1, .ref 52], M3)) rfl).trans ?_
      refine (e_kI (q := (208, [some (.ref 52), some (.int l1), some (.int l2), some (.int r2)], [.int l2, .int l1, .ref 52])) (q2 := (211, [some (.ref 52), some (.int l1), some (.int l2), some (.int r2)], [])) (M := M3) (o := (pcl GG lay d 134 [.ref 52, .int l1, .int l2] M3)) (hf := rfl) rfl rfl).trans ?_
      refine kI_in (fun r4 M4 => ?_)
      refine (e_if_eq (hf := rfl)).trans ?_
      refine ite_in ?_ ?_
      · refine (evn_adv 1 (q' := (228, [some (.ref 52), some (.int l1), some (.int l2), some (.int r2)], [.int (jn 0)], M4)) rfl).trans ?_
        exact e_iretz (hf := rfl)
      · refine (evn_adv 3 (q' := (217, [some (.ref 52), some (.int l1), some (.int l2), some (.int r2)], [.int l2, .int r2, .ref 52], M4)) rfl).trans ?_
        refine (e_kI (q := (217, [some (.ref 52), some (.int l1), some (.int l2), some (.int r2)], [.int l2, .int r2, .ref 52])) (q2 := (220, [some (.ref 52), some (.int l1), some (.int l2), some (.int r2)], [])) (M := M4) (o := (pcl GG lay d 140 [.ref 52, .int r2, .int l2] M4)) (hf := rfl) rfl rfl).trans ?_
        refine kI_in (fun r5 M5 => ?_)
        refine (e_if_eq (hf := rfl)).trans ?_
        refine ite_in ?_ ?_
        · refine (evn_adv 1 (q' := (228, [some (.ref 52), some (.int l1), some (.int l2), some (.int r2)], [.int (jn 0)], M5)) rfl).trans ?_
          exact e_iretz (hf := rfl)
        · refine (evn_adv 2 (q' := (228, [some (.ref 52), some (.int l1), some (.int l2), some (.int r2)], [.int (jn 1)], M5)) rfl).trans ?_
          exact e_iretz (hf := rfl)
    refine sw_cons (lo := 10) (F := fun pc => E_140 d (pc, [some (.ref 52), some (.int l1), some (.int l2), some (.int r2)], [], M3)) (by decide) ?_ ?_
    · refine (evn_adv 3 (q' := (232, [some (.ref 52), some (.int l1), some (.int l2), some (.int r2)], [.int l2, .int r2, .ref 52], M3)) rfl).trans ?_
      refine (e_kI (q := (232, [some (.ref 52), some (.int l1), some (.int l2), some (.int r2)], [.int l2, .int r2, .ref 52])) (q2 := (235, [some (.ref 52), some (.int l1), some (.int l2), some (.int r2)], [])) (M := M3) (o := (pcl GG lay d 140 [.ref 52, .int r2, .int l2] M3)) (hf := rfl) rfl rfl).trans ?_
      refine kI_in (fun r4 M4 => ?_)
      refine (e_if_eq (hf := rfl)).trans ?_
      refine ite_in ?_ ?_
      · refine (evn_adv 1 (q' := (252, [some (.ref 52), some (.int l1), some (.int l2), some (.int r2)], [.int (jn 0)], M4)) rfl).trans ?_
        exact e_iretz (hf := rfl)
      · refine (evn_adv 3 (q' := (241, [some (.ref 52), some (.int l1), some (.int l2), some (.int r2)], [.int l2, .int l1, .ref 52], M4)) rfl).trans ?_
        refine (e_kI (q := (241, [some (.ref 52), some (.int l1), some (.int l2), some (.int r2)], [.int l2, .int l1, .ref 52])) (q2 := (244, [some (.ref 52), some (.int l1), some (.int l2), some (.int r2)], [])) (M := M4) (o := (pcl GG lay d 134 [.ref 52, .int l1, .int l2] M4)) (hf := rfl) rfl rfl).trans ?_
        refine kI_in (fun r5 M5 => ?_)
        refine (e_if_eq (hf := rfl)).trans ?_
        refine ite_in ?_ ?_
        · refine (evn_adv 1 (q' := (252, [some (.ref 52), some (.int l1), some (.int l2), some (.int r2)], [.int (jn 0)], M5)) rfl).trans ?_
          exact e_iretz (hf := rfl)
        · refine (evn_adv 2 (q' := (252, [some (.ref 52), some (.int l1), some (.int l2), some (.int r2)], [.int (jn 1)], M5)) rfl).trans ?_
          exact e_iretz (hf := rfl)
    refine sw_cons (lo := 11) (F := fun pc => E_140 d (pc, [some (.ref 52), some (.int l1), some (.int l2), some (.int r2)], [], M3)) (by decide) ?_ ?_
    · refine (evn_adv 3 (q' := (256, [some (.ref 52), some (.int l1), some (.int l2), some (.int r2)], [.int l2, .int r2, .ref 52], M3)) rfl).trans ?_
      refine (e_kI (q := (256, [some (.ref 52), some (.int l1), some (.int l2), some (.int r2)], [.int l2, .int r2, .ref 52])) (q2 := (259, [some (.ref 52), some (.int l1), some (.int l2), some (.int r2)], [])) (M := M3) (o := (pcl GG lay d 132 [.ref 52, .int r2, .int l2] M3)) (hf := rfl) rfl rfl).trans ?_
      refine kI_in (fun r4 M4 => ?_)
      refine (e_if_ne (hf := rfl)).trans ?_
      refine ite_in ?_ ?_
      · refine (evn_adv 2 (q' := (266, [some (.ref 52), some (.int l1), some (.int l2), some (.int r2)], [.int (M4.1 52 27)], M4)) rfl).trans ?_
        refine (e_if_ne (hf := rfl)).trans ?_
        refine ite_in ?_ ?_
        · refine (evn_adv 3 (q' := (272, [some (.ref 52), some (.int l1), some (.int l2), some (.int r2)], [.int l2, .int l1, .ref 52], M4)) rfl).trans ?_
          refine (e_kI (q := (272, [some (.ref 52), some (.int l1), some (.int l2), some (.int r2)], [.int l2, .int l1, .ref 52])) (q2 := (275, [some (.ref 52), some (.int l1), some (.int l2), some (.int r2)], [])) (M := M4) (o := (pcl GG lay d 135 [.ref 52, .int l1, .int l2] M4)) (hf := rfl) rfl rfl).trans ?_
          refine kI_in (fun r5 M5 => ?_)
          refine (e_if_eq (hf := rfl)).trans ?_
          refine ite_in ?_ ?_
          · refine (evn_adv 1 (q' := (283, [some (.ref 52), some (.int l1), some (.int l2), some (.int r2)], [.int (jn 0)], M5)) rfl).trans ?_
            exact e_iretz (hf := rfl)
          · refine (evn_adv 2 (q' := (283, [some (.ref 52), some (.int l1), some (.int l2), some (.int r2)], [.int (jn 1)], M5)) rfl).trans ?_
            exact e_iretz (hf := rfl)
        · refine (evn_adv 1 (q' := (283, [some (.ref 52), some (.int l1), some (.int l2), some (.int r2)], [.int (jn 0)], M4)) rfl).trans ?_
          exact e_iretz (hf := rfl)
      · refine (evn_adv 2 (q' := (283, [some (.ref 52), some (.int l1), some (.int l2), some (.int r2)], [.int (jn 1)], M4)) rfl).trans ?_
        exact e_iretz (hf := rfl)
    refine sw_cons (lo := 12) (F := fun pc => E_140 d (pc, [some (.ref 52), some (.int l1), some (.int l2), some (.int r2)], [], M3)) (by decide) ?_ ?_
    · refine (evn_adv 3 (q' := (287, [some (.ref 52), some (.int l1), some (.int l2), some (.int r2)], [.int l2, .int l1, .ref 52], M3)) rfl).trans ?_
      refine (e_kI (q := (287, [some (.ref 52), some (.int l1), some (.int l2), some (.int r2)], [.int l2, .int l1, .ref 52])) (q2 := (290, [some (.ref 52), some (.int l1), some (.int l2), some (.int r2)], [])) (M := M3) (o := (pcl GG lay d 138 [.ref 52, .int l1, .int l2] M3)) (hf := rfl) rfl rfl).trans ?_
      refine kI_in (fun r4 M4 => ?_)
      exact e_iretz (hf := rfl)
    show E_140 d (291, [some (.ref 52), some (.int l1), some (.int l2), some (.int r2)], [], M3) = _
    refine (evn_adv 3 (q' := (294, [some (.ref 52), some (.int l1), some (.int l2), some (.int r2)], [.int l2, .int r2, .ref 52], M3)) rfl).trans ?_
    refine (e_kI (q := (294, [some (.ref 52), some (.int l1), some (.int l2), some (.int r2)], [.int l2, .int r2, .ref 52])) (q2 := (297, [some (.ref 52), some (.int l1), some (.int l2), some (.int r2)], [])) (M := M3) (o := (pcl GG lay d 137 [.ref 52, .int r2, .int l2] M3)) (hf := rfl) rfl rfl).trans ?_
    refine kI_in (fun r4 M4 => ?_)
    exact e_iretz (hf := rfl)
/-- TermStrategiesModel.counts()V -/
noncomputable abbrev E_141 (d : Nat) : PQ → PO := evn (rnn k_141 lay none (pcl GG lay d) 0)
theorem q_141 (d : Nat)  (M : PM) : pcl GG lay (d + 1) 141 [.ref 52] M = (wr (sI M 52 (va_up (M.1 52) 28 (jn 0))) fun M1 => (wr (sI M1 52 (va_up (M1.1 52) 29 (jn 0))) fun M2 => (rV M2))) := by
  refine (pcl_un (mt := t_141) (by decide) rfl (Nat.le_of_ble_eq_true rfl)).trans ?_
  show E_141 d (0, [some (.ref 52)], [], M) = _
  refine (evn_adv 2 (q' := (2, [some (.ref 52)], [.int (jn 0), .ref 52], M)) rfl).trans ?_
  refine (evn_adv 1 (q' := (5, [some (.ref 52)], [], (sI M 52 (va_up (M.1 52) 28 (jn 0))))) rfl).trans ?_
  refine wr_in (f := fun M1 => E_141 d (5, [some (.ref 52)], [], M1)) (fun M1 => ?_)
  refine (evn_adv 2 (q' := (7, [some (.ref 52)], [.int (jn 0), .ref 52], M1)) rfl).trans ?_
  refine (evn_adv 1 (q' := (10, [some (.ref 52)], [], (sI M1 52 (va_up (M1.1 52) 29 (jn 0))))) rfl).trans ?_
  refine wr_in (f := fun M2 => E_141 d (10, [some (.ref 52)], [], M2)) (fun M2 => ?_)
  exact evn_end 1 rfl
/-- TermStrategiesModel.goes(I)I -/
noncomputable abbrev E_142 (d : Nat) : PQ → PO := evn (rnn k_142 lay none (pcl GG lay d) 1)
theorem q_142 (d : Nat) (l1 : Int32) (M : PM) : pcl GG lay (d + 1) 142 [.ref 52, .int l1] M = (wr (sI M 52 (va_up (M.1 52) 27 (jn 0))) fun M1 => (wr (sI M1 52 (va_up (M1.1 52) 30 (jn 0))) fun M2 => (wr (sI M2 52 (va_up (M2.1 52) 33 (jn 0))) fun M3 => (kI (pcl GG lay d 140 [.ref 52, .int l1, .int (jn 0)] M3) fun r4 M4 => (if (M4.1 52 27) = jn 0 then (if r4 = jn 0 then (rI (jn 1) M4) else (rI (jn 0) M4)) else (rI (jn 2) M4)))))) := by
  refine (pcl_un (mt := t_142) (by decide) rfl (Nat.le_of_ble_eq_true rfl)).trans ?_
  show E_142 d (0, [some (.ref 52), some (.int l1), none], [], M) = _
  refine (evn_adv 2 (q' := (2, [some (.ref 52), some (.int l1), none], [.int (jn 0), .ref 52], M)) rfl).trans ?_
  refine (e_putz (q2 := (5, [some (.ref 52), some (.int l1), none], [])) (k := 52) (j := 27) rfl rfl).trans ?_
  refine (if_pos (Or.inl rfl)).trans ?_
  refine wr_in (f := fun M1 => E_142 d (5, [some (.ref 52), some (.int l1), none], [], M1)) (fun M1 => ?_)
  refine (evn_adv 2 (q' := (7, [some (.ref 52), some (.int l1), none], [.int (jn 0), .ref 52], M1)) rfl).trans ?_
  refine (evn_adv 1 (q' := (10, [some (.ref 52), some (.int l1), none], [], (sI M1 52 (va_up (M1.1 52) 30 (jn 0))))) rfl).trans ?_
  refine wr_in (f := fun M2 => E_142 d (10, [some (.ref 52), some (.int l1), none], [], M2)) (fun M2 => ?_)
  refine (evn_adv 2 (q' := (12, [some (.ref 52), some (.int l1), none], [.int (jn 0), .ref 52], M2)) rfl).trans ?_
  refine (evn_adv 1 (q' := (15, [some (.ref 52), some (.int l1), none], [], (sI M2 52 (va_up (M2.1 52) 33 (jn 0))))) rfl).trans ?_
  refine wr_in (f := fun M3 => E_142 d (15, [some (.ref 52), some (.int l1), none], [], M3)) (fun M3 => ?_)
  refine (evn_adv 3 (q' := (18, [some (.ref 52), some (.int l1), none], [.int (jn 0), .int l1, .ref 52], M3)) rfl).trans ?_
  refine (e_kI (q := (18, [some (.ref 52), some (.int l1), none], [.int (jn 0), .int l1, .ref 52])) (q2 := (21, [some (.ref 52), some (.int l1), none], [])) (M := M3) (o := (pcl GG lay d 140 [.ref 52, .int l1, .int (jn 0)] M3)) (hf := rfl) rfl rfl).trans ?_
  refine kI_in (fun r4 M4 => ?_)
  refine (evn_adv 3 (q' := (26, [some (.ref 52), some (.int l1), some (.int r4)], [.int (M4.1 52 27)], M4)) rfl).trans ?_
  refine (e_if_eq (hf := rfl)).trans ?_
  refine ite_in ?_ ?_
  · refine (evn_adv 1 (q' := (34, [some (.ref 52), some (.int l1), some (.int r4)], [.int r4], M4)) rfl).trans ?_
    refine (e_if_eq (hf := rfl)).trans ?_
    refine ite_in ?_ ?_
    · refine (evn_adv 1 (q' := (42, [some (.ref 52), some (.int l1), some (.int r4)], [.int (jn 1)], M4)) rfl).trans ?_
      exact evn_end 1 rfl
    · refine (evn_adv 2 (q' := (42, [some (.ref 52), some (.int l1), some (.int r4)], [.int (jn 0)], M4)) rfl).trans ?_
      exact evn_end 1 rfl
  · refine (evn_adv 2 (q' := (42, [some (.ref 52), some (.int l1), some (.int r4)], [.int (jn 2)], M4)) rfl).trans ?_
    exact evn_end 1 rfl
/-- TermStrategiesModel.run(II)I -/
noncomputable abbrev E_143 (d : Nat) : PQ → PO := evn (rnn k_143 lay none (pcl GG lay d) 1)
theorem q_143 (d : Nat) (l1 : Int32) (l2 : Int32) (M : PM) : pcl GG lay (d + 1) 143 [.ref 52, .int l1, .int l2] M = (kI (pcl GG lay d 74 [.ref 52, .int l1] M) fun r1 M1 => (if r1 = jn 0 then (kI (pcl GG lay d 69 [.ref 52, .int (jz 1)] M1) fun r2 M2 => (rI r2 M2)) else (kI (pcl GG lay d 72 [.ref 52, .int l2] M1) fun r2 M2 => (if r2 = jn 0 then (kI (pcl GG lay d 69 [.ref 52, .int (jz 1)] M2) fun r3 M3 => (rI r3 M3)) else (kV (pcl GG lay d 115 [.ref 52, .int l2] M2) fun M3 => (kV (pcl GG lay d 141 [.ref 52] M3) fun M4 => (kI (pcl GG lay d 142 [.ref 52, .int l1] M4) fun r5 M5 => (if r5 = (jn 1) then (kI (pcl GG lay d 69 [.ref 52, .int (jz 6)] M5) fun r6 M6 => (rI r6 M6)) else (if r5 = (jn 2) then (kI (pcl GG lay d 69 [.ref 52, .int (jz 7)] M5) fun r6 M6 => (rI r6 M6)) else (if (M5.1 52 0) = (jn 24) then (kI (pcl GG lay d 69 [.ref 52, .int (jz 7)] M5) fun r6 M6 => (rI r6 M6)) else (wr (sI M5 52 (va_up (M5.1 52) 35 (M5.1 52 30))) fun M6 => E_143 d (81, [some (.ref 52), some (.int l1), some (.int l2), some (.int r5), some (.int (jn 0))], [], M6)))))))))))) := by
  refine (pcl_un (mt := t_143) (by decide) rfl (Nat.le_of_ble_eq_true rfl)).trans ?_
  show E_143 d (0, [some (.ref 52), some (.int l1), some (.int l2), none, none], [], M) = _
  refine (evn_adv 2 (q' := (2, [some (.ref 52), some (.int l1), some (.int l2), none, none], [.int l1, .ref 52], M)) rfl).trans ?_
  refine (e_kI (q := (2, [some (.ref 52), some (.int l1), some (.int l2), none, none], [.int l1, .ref 52])) (q2 := (5, [some (.ref 52), some (.int l1), some (.int l2), none, none], [])) (M := M) (o := (pcl GG lay d 74 [.ref 52, .int l1] M)) (hf := rfl) rfl rfl).trans ?_
  refine kI_in (fun r1 M1 => ?_)
  refine (e_if_eq (hf := rfl)).trans ?_
  refine ite_in ?_ ?_
  · refine (evn_adv 2 (q' := (18, [some (.ref 52), some (.int l1), some (.int l2), none, none], [.int (jz 1), .ref 52], M1)) rfl).trans ?_
    refine (e_kI (q := (18, [some (.ref 52), some (.int l1), some (.int l2), none, none], [.int (jz 1), .ref 52])) (q2 := (21, [some (.ref 52), some (.int l1), some (.int l2), none, none], [])) (M := M1) (o := (pcl GG lay d 69 [.ref 52, .int (jz 1)] M1)) (hf := rfl) rfl rfl).trans ?_
    refine kI_in (fun r2 M2 => ?_)
    exact evn_end 1 rfl
  · refine (evn_adv 2 (q' := (10, [some (.ref 52), some (.int l1), some (.int l2), none, none], [.int l2, .ref 52], M1)) rfl).trans ?_
    refine (e_kI (q := (10, [some (.ref 52), some (.int l1), some (.int l2), none, none], [.int l2, .ref 52])) (q2 := (13, [some (.ref 52), some (.int l1), some (.int l2), none, none], [])) (M := M1) (o := (pcl GG lay d 72 [.ref 52, .int l2] M1)) (hf := rfl) rfl rfl).trans ?_
    refine kI_in (fun r2 M2 => ?_)
    refine (e_if_ne (hf := rfl)).trans ?_
    refine ite_in ?_ ?_
    · refine (evn_adv 2 (q' := (18, [some (.ref 52), some (.int l1), some (.int l2), none, none], [.int (jz 1), .ref 52], M2)) rfl).trans ?_
      refine (e_kI (q := (18, [some (.ref 52), some (.int l1), some (.int l2), none, none], [.int (jz 1), .ref 52])) (q2 := (21, [some (.ref 52), some (.int l1), some (.int l2), none, none], [])) (M := M2) (o := (pcl GG lay d 69 [.ref 52, .int (jz 1)] M2)) (hf := rfl) rfl rfl).trans ?_
      refine kI_in (fun r3 M3 => ?_)
      exact evn_end 1 rfl
    · refine (evn_adv 2 (q' := (24, [some (.ref 52), some (.int l1), some (.int l2), none, none], [.int l2, .ref 52], M2)) rfl).trans ?_
      refine (e_kV (q := (24, [some (.ref 52), some (.int l1), some (.int l2), none, none], [.int l2, .ref 52])) (q2 := (27, [some (.ref 52), some (.int l1), some (.int l2), none, none], [])) (M := M2) (o := (pcl GG lay d 115 [.ref 52, .int l2] M2)) (hf := rfl) rfl rfl).trans ?_
      refine kV_in (fun M3 => ?_)
      refine (evn_adv 1 (q' := (28, [some (.ref 52), some (.int l1), some (.int l2), none, none], [.ref 52], M3)) rfl).trans ?_
      refine (e_kV (q := (28, [some (.ref 52), some (.int l1), some (.int l2), none, none], [.ref 52])) (q2 := (31, [some (.ref 52), some (.int l1), some (.int l2), none, none], [])) (M := M3) (o := (pcl GG lay d 141 [.ref 52] M3)) (hf := rfl) rfl rfl).trans ?_
      refine kV_in (fun M4 => ?_)
      refine (evn_adv 2 (q' := (33, [some (.ref 52), some (.int l1), some (.int l2), none, none], [.int l1, .ref 52], M4)) rfl).trans ?_
      refine (e_kI (q := (33, [some (.ref 52), some (.int l1), some (.int l2), none, none], [.int l1, .ref 52])) (q2 := (36, [some (.ref 52), some (.int l1), some (.int l2), none, none], [])) (M := M4) (o := (pcl GG lay d 142 [.ref 52, .int l1] M4)) (hf := rfl) rfl rfl).trans ?_
      refine kI_in (fun r5 M5 => ?_)
      refine (evn_adv 3 (q' := (39, [some (.ref 52), some (.int l1), some (.int l2), some (.int r5), none], [.int (jn 1), .int r5], M5)) rfl).trans ?_
      refine (e_ic_ne (hf := rfl)).trans ?_
      refine ite_in ?_ ?_
      · refine (evn_adv 2 (q' := (45, [some (.ref 52), some (.int l1), some (.int l2), some (.int r5), none], [.int (jz 6), .ref 52], M5)) rfl).trans ?_
        refine (e_kI (q := (45, [some (.ref 52), some (.int l1), some (.int l2), some (.int r5), none], [.int (jz 6), .ref 52])) (q2 := (48, [some (.ref 52), some (.int l1), some (.int l2), some (.int r5), none], [])) (M := M5) (o := (pcl GG lay d 69 [.ref 52, .int (jz 6)] M5)) (hf := rfl) rfl rfl).trans ?_
        refine kI_in (fun r6 M6 => ?_)
        exact evn_end 1 rfl
      · refine (evn_adv 2 (q' := (51, [some (.ref 52), some (.int l1), some (.int l2), some (.int r5), none], [.int (jn 2), .int r5], M5)) rfl).trans ?_
        refine (e_ic_eq (hf := rfl)).trans ?_
        refine ite_in ?_ ?_
        · refine (evn_adv 2 (q' := (66, [some (.ref 52), some (.int l1), some (.int l2), some (.int r5), none], [.int (jz 7), .ref 52], M5)) rfl).trans ?_
          refine (e_kI (q := (66, [some (.ref 52), some (.int l1), some (.int l2), some (.int r5), none], [.int (jz 7), .ref 52])) (q2 := (69, [some (.ref 52), some (.int l1), some (.int l2), some (.int r5), none], [])) (M := M5) (o := (pcl GG lay d 69 [.ref 52, .int (jz 7)] M5)) (hf := rfl) rfl rfl).trans ?_
          refine kI_in (fun r6 M6 => ?_)
          exact evn_end 1 rfl
        · refine (evn_adv 3 (q' := (60, [some (.ref 52), some (.int l1), some (.int l2), some (.int r5), none], [.int (jn 24), .int (M5.1 52 0)], M5)) rfl).trans ?_
          refine (e_ic_ne (hf := rfl)).trans ?_
          refine ite_in ?_ ?_
          · refine (evn_adv 2 (q' := (66, [some (.ref 52), some (.int l1), some (.int l2), some (.int r5), none], [.int (jz 7), .ref 52], M5)) rfl).trans ?_
            refine (e_kI (q := (66, [some (.ref 52), some (.int l1), some (.int l2), some (.int r5), none], [.int (jz 7), .ref 52])) (q2 := (69, [some (.ref 52), some (.int l1), some (.int l2), some (.int r5), none], [])) (M := M5) (o := (pcl GG lay d 69 [.ref 52, .int (jz 7)] M5)) (hf := rfl) rfl rfl).trans ?_
            refine kI_in (fun r6 M6 => ?_)
            exact evn_end 1 rfl
          · refine (evn_adv 3 (q' := (75, [some (.ref 52), some (.int l1), some (.int l2), some (.int r5), none], [.int (M5.1 52 30), .ref 52], M5)) rfl).trans ?_
            refine (evn_adv 1 (q' := (78, [some (.ref 52), some (.int l1), some (.int l2), some (.int r5), none], [], (sI M5 52 (va_up (M5.1 52) 35 (M5.1 52 30))))) rfl).trans ?_
            refine wr_in (f := fun M6 => E_143 d (78, [some (.ref 52), some (.int l1), some (.int l2), some (.int r5), none], [], M6)) (fun M6 => ?_)
            refine (evn_adv 2 (q' := (81, [some (.ref 52), some (.int l1), some (.int l2), some (.int r5), some (.int (jn 0))], [], M6)) rfl).trans ?_
            rfl
theorem h_143_81 (d : Nat) (u1 : Option Value) (u2 : Option Value) (u3 : Option Value) (l4 : Int32) (M : PM) : E_143 d (81, [some (.ref 52), u1, u2, u3, some (.int l4)], [], M) = (if l4 < (M.1 52 30) then (oB (aldI lay none M 70 l4) fun v1 => (oB (astI lay M 73 l4 v1) fun M2 => (oB (aldL lay M2 71 l4) fun v3 => (oB (astL lay M2 74 l4 v3) fun M4 => E_143 d (81, [some (.ref 52), u1, u2, u3, some (.int (l4 + (jn 1)))], [], M4))))) else (kI (pcl GG lay d 92 [.ref 52, .ref 65, .int (M.1 52 19)] M) fun r1 M1 => (rI r1 M1))) := by
  refine (evn_adv 3 (q' := (87, [some (.ref 52), u1, u2, u3, some (.int l4)], [.int (M.1 52 30), .int l4], M)) rfl).trans ?_
  refine (e_ic_ge (hf := rfl)).trans ?_
  refine ite_in ?_ ?_
  · refine (evn_adv 6 (q' := (102, [some (.ref 52), u1, u2, u3, some (.int l4)], [.int l4, .ref 70, .int l4, .ref 73], M)) rfl).trans ?_
    refine (e_oB (q := (102, [some (.ref 52), u1, u2, u3, some (.int l4)], [.int l4, .ref 70, .int l4, .ref 73], M)) (o := (aldI lay none M 70 l4)) (f := fun v1 => (103, [some (.ref 52), u1, u2, u3, some (.int l4)], [.int v1, .int l4, .ref 73], M)) (hf := rfl) rfl).trans ?_
    refine oB_in (fun v1 => ?_)
    refine (e_oB (q := (103, [some (.ref 52), u1, u2, u3, some (.int l4)], [.int v1, .int l4, .ref 73], M)) (o := (astI lay M 73 l4 v1)) (f := fun M2 => (104, [some (.ref 52), u1, u2, u3, some (.int l4)], [], M2)) (hf := rfl) rfl).trans ?_
    refine oB_in (fun M2 => ?_)
    refine (evn_adv 6 (q' := (116, [some (.ref 52), u1, u2, u3, some (.int l4)], [.int l4, .ref 71, .int l4, .ref 74], M2)) rfl).trans ?_
    refine (e_oB (q := (116, [some (.ref 52), u1, u2, u3, some (.int l4)], [.int l4, .ref 71, .int l4, .ref 74], M2)) (o := (aldL lay M2 71 l4)) (f := fun v3 => (117, [some (.ref 52), u1, u2, u3, some (.int l4)], [.long v3, .int l4, .ref 74], M2)) (hf := rfl) rfl).trans ?_
    refine oB_in (fun v3 => ?_)
    refine (e_oB (q := (117, [some (.ref 52), u1, u2, u3, some (.int l4)], [.long v3, .int l4, .ref 74], M2)) (o := (astL lay M2 74 l4 v3)) (f := fun M4 => (118, [some (.ref 52), u1, u2, u3, some (.int l4)], [], M4)) (hf := rfl) rfl).trans ?_
    refine oB_in (fun M4 => ?_)
    refine (evn_adv 2 (q' := (81, [some (.ref 52), u1, u2, u3, some (.int (l4 + (jn 1)))], [], M4)) rfl).trans ?_
    rfl
  · refine (evn_adv 5 (q' := (133, [some (.ref 52), u1, u2, u3, some (.int l4)], [.int (M.1 52 19), .ref 65, .ref 52], M)) rfl).trans ?_
    refine (e_kI (q := (133, [some (.ref 52), u1, u2, u3, some (.int l4)], [.int (M.1 52 19), .ref 65, .ref 52])) (q2 := (136, [some (.ref 52), u1, u2, u3, some (.int l4)], [])) (M := M) (o := (pcl GG lay d 92 [.ref 52, .ref 65, .int (M.1 52 19)] M)) (hf := rfl) rfl rfl).trans ?_
    refine kI_in (fun r1 M1 => ?_)
    exact evn_end 1 rfl
/-- TermStrategiesModel.trial(III)I -/
noncomputable abbrev E_144 (d : Nat) : PQ → PO := evn (rnn k_144 lay none (pcl GG lay d) 1)
theorem q_144 (d : Nat) (l1 : Int32) (l2 : Int32) (l3 : Int32) (M : PM) : pcl GG lay (d + 1) 144 [.ref 52, .int l1, .int l2, .int l3] M = (kI (pcl GG lay d 74 [.ref 52, .int l1] M) fun r1 M1 => (if r1 = jn 0 then (kI (pcl GG lay d 69 [.ref 52, .int (jz 1)] M1) fun r2 M2 => (rI r2 M2)) else (kI (pcl GG lay d 72 [.ref 52, .int l2] M1) fun r2 M2 => (if r2 = jn 0 then (kI (pcl GG lay d 69 [.ref 52, .int (jz 1)] M2) fun r3 M3 => (rI r3 M3)) else (kI (pcl GG lay d 71 [.int l3, .int (jn 0), .int (jn 2)] M2) fun r3 M3 => (if r3 = jn 0 then (kI (pcl GG lay d 69 [.ref 52, .int (jz 5)] M3) fun r4 M4 => (rI r4 M4)) else (kV (pcl GG lay d 115 [.ref 52, .int l2] M3) fun M4 => (kV (pcl GG lay d 141 [.ref 52] M4) fun M5 => (kI (pcl GG lay d 142 [.ref 52, .int l1] M5) fun r6 M6 => (if l3 = jn 0 then (rI r6 M6) else (if r6 = jn 0 then (if l3 = (jn 1) then (rI (M6.1 52 19) M6) else (rI (M6.1 52 30) M6)) else (rI (jn 0) M6)))))))))))) := by
  refine (pcl_un (mt := t_144) (by decide) rfl (Nat.le_of_ble_eq_true rfl)).trans ?_
  show E_144 d (0, [some (.ref 52), some (.int l1), some (.int l2), some (.int l3), none], [], M) = _
  refine (evn_adv 2 (q' := (2, [some (.ref 52), some (.int l1), some (.int l2), some (.int l3), none], [.int l1, .ref 52], M)) rfl).trans ?_
  refine (e_kI (q := (2, [some (.ref 52), some (.int l1), some (.int l2), some (.int l3), none], [.int l1, .ref 52])) (q2 := (5, [some (.ref 52), some (.int l1), some (.int l2), some (.int l3), none], [])) (M := M) (o := (pcl GG lay d 74 [.ref 52, .int l1] M)) (hf := rfl) rfl rfl).trans ?_
  refine kI_in (fun r1 M1 => ?_)
  refine (e_if_eq (hf := rfl)).trans ?_
  refine ite_in ?_ ?_
  · refine (evn_adv 2 (q' := (18, [some (.ref 52), some (.int l1), some (.int l2), some (.int l3), none], [.int (jz 1), .ref 52], M1)) rfl).trans ?_
    refine (e_kI (q := (18, [some (.ref 52), some (.int l1), some (.int l2), some (.int l3), none], [.int (jz 1), .ref 52])) (q2 := (21, [some (.ref 52), some (.int l1), some (.int l2), some (.int l3), none], [])) (M := M1) (o := (pcl GG lay d 69 [.ref 52, .int (jz 1)] M1)) (hf := rfl) rfl rfl).trans ?_
    refine kI_in (fun r2 M2 => ?_)
    exact evn_end 1 rfl
  · refine (evn_adv 2 (q' := (10, [some (.ref 52), some (.int l1), some (.int l2), some (.int l3), none], [.int l2, .ref 52], M1)) rfl).trans ?_
    refine (e_kI (q := (10, [some (.ref 52), some (.int l1), some (.int l2), some (.int l3), none], [.int l2, .ref 52])) (q2 := (13, [some (.ref 52), some (.int l1), some (.int l2), some (.int l3), none], [])) (M := M1) (o := (pcl GG lay d 72 [.ref 52, .int l2] M1)) (hf := rfl) rfl rfl).trans ?_
    refine kI_in (fun r2 M2 => ?_)
    refine (e_if_ne (hf := rfl)).trans ?_
    refine ite_in ?_ ?_
    · refine (evn_adv 2 (q' := (18, [some (.ref 52), some (.int l1), some (.int l2), some (.int l3), none], [.int (jz 1), .ref 52], M2)) rfl).trans ?_
      refine (e_kI (q := (18, [some (.ref 52), some (.int l1), some (.int l2), some (.int l3), none], [.int (jz 1), .ref 52])) (q2 := (21, [some (.ref 52), some (.int l1), some (.int l2), some (.int l3), none], [])) (M := M2) (o := (pcl GG lay d 69 [.ref 52, .int (jz 1)] M2)) (hf := rfl) rfl rfl).trans ?_
      refine kI_in (fun r3 M3 => ?_)
      exact evn_end 1 rfl
    · refine (evn_adv 3 (q' := (25, [some (.ref 52), some (.int l1), some (.int l2), some (.int l3), none], [.int (jn 2), .int (jn 0), .int l3], M2)) rfl).trans ?_
      refine (e_kI (q := (25, [some (.ref 52), some (.int l1), some (.int l2), some (.int l3), none], [.int (jn 2), .int (jn 0), .int l3])) (q2 := (28, [some (.ref 52), some (.int l1), some (.int l2), some (.int l3), none], [])) (M := M2) (o := (pcl GG lay d 71 [.int l3, .int (jn 0), .int (jn 2)] M2)) (hf := rfl) rfl rfl).trans ?_
      refine kI_in (fun r3 M3 => ?_)
      refine (e_if_ne (hf := rfl)).trans ?_
      refine ite_in ?_ ?_
      · refine (evn_adv 2 (q' := (34, [some (.ref 52), some (.int l1), some (.int l2), some (.int l3), none], [.int (jz 5), .ref 52], M3)) rfl).trans ?_
        refine (e_kI (q := (34, [some (.ref 52), some (.int l1), some (.int l2), some (.int l3), none], [.int (jz 5), .ref 52])) (q2 := (37, [some (.ref 52), some (.int l1), some (.int l2), some (.int l3), none], [])) (M := M3) (o := (pcl GG lay d 69 [.ref 52, .int (jz 5)] M3)) (hf := rfl) rfl rfl).trans ?_
        refine kI_in (fun r4 M4 => ?_)
        exact evn_end 1 rfl
      · refine (evn_adv 2 (q' := (40, [some (.ref 52), some (.int l1), some (.int l2), some (.int l3), none], [.int l2, .ref 52], M3)) rfl).trans ?_
        refine (e_kV (q := (40, [some (.ref 52), some (.int l1), some (.int l2), some (.int l3), none], [.int l2, .ref 52])) (q2 := (43, [some (.ref 52), some (.int l1), some (.int l2), some (.int l3), none], [])) (M := M3) (o := (pcl GG lay d 115 [.ref 52, .int l2] M3)) (hf := rfl) rfl rfl).trans ?_
        refine kV_in (fun M4 => ?_)
        refine (evn_adv 1 (q' := (44, [some (.ref 52), some (.int l1), some (.int l2), some (.int l3), none], [.ref 52], M4)) rfl).trans ?_
        refine (e_kV (q := (44, [some (.ref 52), some (.int l1), some (.int l2), some (.int l3), none], [.ref 52])) (q2 := (47, [some (.ref 52), some (.int l1), some (.int l2), some (.int l3), none], [])) (M := M4) (o := (pcl GG lay d 141 [.ref 52] M4)) (hf := rfl) rfl rfl).trans ?_
        refine kV_in (fun M5 => ?_)
        refine (evn_adv 2 (q' := (49, [some (.ref 52), some (.int l1), some (.int l2), some (.int l3), none], [.int l1, .ref 52], M5)) rfl).trans ?_
        refine (e_kI (q := (49, [some (.ref 52), some (.int l1), some (.int l2), some (.int l3), none], [.int l1, .ref 52])) (q2 := (52, [some (.ref 52), some (.int l1), some (.int l2), some (.int l3), none], [])) (M := M5) (o := (pcl GG lay d 142 [.ref 52, .int l1] M5)) (hf := rfl) rfl rfl).trans ?_
        refine kI_in (fun r6 M6 => ?_)
        refine (evn_adv 2 (q' := (55, [some (.ref 52), some (.int l1), some (.int l2), some (.int l3), some (.int r6)], [.int l3], M6)) rfl).trans ?_
        refine (e_if_ne (hf := rfl)).trans ?_
        refine ite_in ?_ ?_
        · refine (evn_adv 2 (q' := (88, [some (.ref 52), some (.int l1), some (.int l2), some (.int l3), some (.int r6)], [.int r6], M6)) rfl).trans ?_
          exact evn_end 1 rfl
        · refine (evn_adv 1 (q' := (65, [some (.ref 52), some (.int l1), some (.int l2), some (.int l3), some (.int r6)], [.int r6], M6)) rfl).trans ?_
          refine (e_if_eq (hf := rfl)).trans ?_
          refine ite_in ?_ ?_
          · refine (evn_adv 2 (q' := (74, [some (.ref 52), some (.int l1), some (.int l2), some (.int l3), some (.int r6)], [.int (jn 1), .int l3], M6)) rfl).trans ?_
            refine (e_ic_ne (hf := rfl)).trans ?_
            refine ite_in ?_ ?_
            · refine (evn_adv 3 (q' := (88, [some (.ref 52), some (.int l1), some (.int l2), some (.int l3), some (.int r6)], [.int (M6.1 52 19)], M6)) rfl).trans ?_
              exact evn_end 1 rfl
            · refine (evn_adv 2 (q' := (88, [some (.ref 52), some (.int l1), some (.int l2), some (.int l3), some (.int r6)], [.int (M6.1 52 30)], M6)) rfl).trans ?_
              exact evn_end 1 rfl
          · refine (evn_adv 2 (q' := (88, [some (.ref 52), some (.int l1), some (.int l2), some (.int l3), some (.int r6)], [.int (jn 0)], M6)) rfl).trans ?_
            exact evn_end 1 rfl
/-- TermStrategiesModel.trace(I)I -/
noncomputable abbrev E_145 (d : Nat) : PQ → PO := evn (rnn k_145 lay none (pcl GG lay d) 1)
theorem q_145 (d : Nat) (l1 : Int32) (M : PM) : pcl GG lay (d + 1) 145 [.ref 52, .int l1] M = (kI (pcl GG lay d 71 [.int l1, .int (jn 0), .int ((M.1 52 35) - (jn 1))] M) fun r1 M1 => (if r1 = jn 0 then (rI (jz 1) M1) else (oB (aldI lay none M1 73 l1) fun v2 => (rI v2 M1)))) := by
  refine (pcl_un (mt := t_145) (by decide) rfl (Nat.le_of_ble_eq_true rfl)).trans ?_
  show E_145 d (0, [some (.ref 52), some (.int l1)], [], M) = _
  refine (evn_adv 6 (q' := (8, [some (.ref 52), some (.int l1)], [.int ((M.1 52 35) - (jn 1)), .int (jn 0), .int l1], M)) rfl).trans ?_
  refine (e_kI (q := (8, [some (.ref 52), some (.int l1)], [.int ((M.1 52 35) - (jn 1)), .int (jn 0), .int l1])) (q2 := (11, [some (.ref 52), some (.int l1)], [])) (M := M) (o := (pcl GG lay d 71 [.int l1, .int (jn 0), .int ((M.1 52 35) - (jn 1))] M)) (hf := rfl) rfl rfl).trans ?_
  refine kI_in (fun r1 M1 => ?_)
  refine (e_if_eq (hf := rfl)).trans ?_
  refine ite_in ?_ ?_
  · refine (evn_adv 1 (q' := (24, [some (.ref 52), some (.int l1)], [.int (jz 1)], M1)) rfl).trans ?_
    exact evn_end 1 rfl
  · refine (evn_adv 3 (q' := (19, [some (.ref 52), some (.int l1)], [.int l1, .ref 73], M1)) rfl).trans ?_
    refine (e_oB (q := (19, [some (.ref 52), some (.int l1)], [.int l1, .ref 73], M1)) (o := (aldI lay none M1 73 l1)) (f := fun v2 => (20, [some (.ref 52), some (.int l1)], [.int v2], M1)) (hf := rfl) rfl).trans ?_
    refine oB_in (fun v2 => ?_)
    refine (evn_adv 1 (q' := (24, [some (.ref 52), some (.int l1)], [.int v2], M1)) rfl).trans ?_
    exact evn_end 1 rfl
/-- TermStrategiesModel.tracePath(I)J -/
noncomputable abbrev E_146 (d : Nat) : PQ → PO := evn (rnn k_146 lay none (pcl GG lay d) 3)
theorem q_146 (d : Nat) (l1 : Int32) (M : PM) : pcl GG lay (d + 1) 146 [.ref 52, .int l1] M = (kI (pcl GG lay d 71 [.int l1, .int (jn 0), .int ((M.1 52 35) - (jn 1))] M) fun r1 M1 => (if r1 = jn 0 then (rL (Int64.ofInt (-1)) M1) else (oB (aldL lay M1 74 l1) fun v2 => (rL v2 M1)))) := by
  refine (pcl_un (mt := t_146) (by decide) rfl (Nat.le_of_ble_eq_true rfl)).trans ?_
  show E_146 d (0, [some (.ref 52), some (.int l1)], [], M) = _
  refine (evn_adv 6 (q' := (8, [some (.ref 52), some (.int l1)], [.int ((M.1 52 35) - (jn 1)), .int (jn 0), .int l1], M)) rfl).trans ?_
  refine (e_kI (q := (8, [some (.ref 52), some (.int l1)], [.int ((M.1 52 35) - (jn 1)), .int (jn 0), .int l1])) (q2 := (11, [some (.ref 52), some (.int l1)], [])) (M := M) (o := (pcl GG lay d 71 [.int l1, .int (jn 0), .int ((M.1 52 35) - (jn 1))] M)) (hf := rfl) rfl rfl).trans ?_
  refine kI_in (fun r1 M1 => ?_)
  refine (e_if_eq (hf := rfl)).trans ?_
  refine ite_in ?_ ?_
  · refine (evn_adv 1 (q' := (26, [some (.ref 52), some (.int l1)], [.long (Int64.ofInt (-1))], M1)) rfl).trans ?_
    exact evn_end 1 rfl
  · refine (evn_adv 3 (q' := (19, [some (.ref 52), some (.int l1)], [.int l1, .ref 74], M1)) rfl).trans ?_
    refine (e_oB (q := (19, [some (.ref 52), some (.int l1)], [.int l1, .ref 74], M1)) (o := (aldL lay M1 74 l1)) (f := fun v2 => (20, [some (.ref 52), some (.int l1)], [.long v2], M1)) (hf := rfl) rfl).trans ?_
    refine oB_in (fun v2 => ?_)
    refine (evn_adv 1 (q' := (26, [some (.ref 52), some (.int l1)], [.long v2], M1)) rfl).trans ?_
    exact evn_end 1 rfl
/-- TermStrategiesModel.nodeOf(J)I -/
noncomputable abbrev E_147 (d : Nat) : PQ → PO := evn (rnn k_147 lay none (pcl GG lay d) 1)
theorem q_147 (d : Nat) (l1 : Int64) (M : PM) : pcl GG lay (d + 1) 147 [.ref 52, .long l1] M = E_147 d (2, [some (.ref 52), some (.long l1), none, some (.int (jn 0))], [], M) := by
  refine (pcl_un (mt := t_147) (by decide) rfl (Nat.le_of_ble_eq_true rfl)).trans ?_
  show E_147 d (0, [some (.ref 52), some (.long l1), none, none], [], M) = _
  refine (evn_adv 2 (q' := (2, [some (.ref 52), some (.long l1), none, some (.int (jn 0))], [], M)) rfl).trans ?_
  rfl
theorem h_147_2 (d : Nat) (l1 : Int64) (l3 : Int32) (M : PM) : E_147 d (2, [some (.ref 52), some (.long l1), none, some (.int l3)], [], M) = (if l3 < (M.1 52 19) then (kL (pcl GG lay d 102 [.ref 65, .int (jn 0), .int l3] M) fun r1 M1 => (if (lg_cmp r1 l1) = jn 0 then (rI l3 M1) else E_147 d (2, [some (.ref 52), some (.long l1), none, some (.int (l3 + (jn 1)))], [], M1))) else (rI (jz 1) M)) := by
  refine (evn_adv 3 (q' := (7, [some (.ref 52), some (.long l1), none, some (.int l3)], [.int (M.1 52 19), .int l3], M)) rfl).trans ?_
  refine (e_ic_ge (hf := rfl)).trans ?_
  refine ite_in ?_ ?_
  · refine (evn_adv 4 (q' := (16, [some (.ref 52), some (.long l1), none, some (.int l3)], [.int l3, .int (jn 0), .ref 65], M)) rfl).trans ?_
    refine (e_kL (q := (16, [some (.ref 52), some (.long l1), none, some (.int l3)], [.int l3, .int (jn 0), .ref 65])) (q2 := (19, [some (.ref 52), some (.long l1), none, some (.int l3)], [])) (M := M) (o := (pcl GG lay d 102 [.ref 65, .int (jn 0), .int l3] M)) (hf := rfl) rfl rfl).trans ?_
    refine kL_in (fun r1 M1 => ?_)
    refine (evn_adv 2 (q' := (21, [some (.ref 52), some (.long l1), none, some (.int l3)], [.int (lg_cmp r1 l1)], M1)) rfl).trans ?_
    refine (e_if_ne (hf := rfl)).trans ?_
    refine ite_in ?_ ?_
    · refine (evn_adv 1 (q' := (25, [some (.ref 52), some (.long l1), none, some (.int l3)], [.int l3], M1)) rfl).trans ?_
      exact evn_end 1 rfl
    · refine (evn_adv 2 (q' := (2, [some (.ref 52), some (.long l1), none, some (.int (l3 + (jn 1)))], [], M1)) rfl).trans ?_
      rfl
  · refine (evn_adv 1 (q' := (33, [some (.ref 52), some (.long l1), none, some (.int l3)], [.int (jz 1)], M)) rfl).trans ?_
    exact evn_end 1 rfl
/-- TermStrategiesModel.replay(II)I -/
noncomputable abbrev E_148 (d : Nat) : PQ → PO := evn (rnn k_148 lay none (pcl GG lay d) 1)
theorem q_148 (d : Nat) (l1 : Int32) (l2 : Int32) (M : PM) : pcl GG lay (d + 1) 148 [.ref 52, .int l1, .int l2] M = (kI (pcl GG lay d 72 [.ref 52, .int l1] M) fun r1 M1 => (if r1 = jn 0 then (kI (pcl GG lay d 69 [.ref 52, .int (jz 1)] M1) fun r2 M2 => (rI r2 M2)) else (kI (pcl GG lay d 71 [.int l2, .int (jn 0), .int (M1.1 52 35)] M1) fun r2 M2 => (if r2 = jn 0 then (kI (pcl GG lay d 69 [.ref 52, .int (jz 5)] M2) fun r3 M3 => (rI r3 M3)) else (kV (pcl GG lay d 115 [.ref 52, .int l1] M2) fun M3 => E_148 d (40, [some (.ref 52), some (.int l1), some (.int l2), some (.int (jn 0)), none], [], M3)))))) := by
  refine (pcl_un (mt := t_148) (by decide) rfl (Nat.le_of_ble_eq_true rfl)).trans ?_
  show E_148 d (0, [some (.ref 52), some (.int l1), some (.int l2), none, none], [], M) = _
  refine (evn_adv 2 (q' := (2, [some (.ref 52), some (.int l1), some (.int l2), none, none], [.int l1, .ref 52], M)) rfl).trans ?_
  refine (e_kI (q := (2, [some (.ref 52), some (.int l1), some (.int l2), none, none], [.int l1, .ref 52])) (q2 := (5, [some (.ref 52), some (.int l1), some (.int l2), none, none], [])) (M := M) (o := (pcl GG lay d 72 [.ref 52, .int l1] M)) (hf := rfl) rfl rfl).trans ?_
  refine kI_in (fun r1 M1 => ?_)
  refine (e_if_ne (hf := rfl)).trans ?_
  refine ite_in ?_ ?_
  · refine (evn_adv 2 (q' := (10, [some (.ref 52), some (.int l1), some (.int l2), none, none], [.int (jz 1), .ref 52], M1)) rfl).trans ?_
    refine (e_kI (q := (10, [some (.ref 52), some (.int l1), some (.int l2), none, none], [.int (jz 1), .ref 52])) (q2 := (13, [some (.ref 52), some (.int l1), some (.int l2), none, none], [])) (M := M1) (o := (pcl GG lay d 69 [.ref 52, .int (jz 1)] M1)) (hf := rfl) rfl rfl).trans ?_
    refine kI_in (fun r2 M2 => ?_)
    exact evn_end 1 rfl
  · refine (evn_adv 4 (q' := (20, [some (.ref 52), some (.int l1), some (.int l2), none, none], [.int (M1.1 52 35), .int (jn 0), .int l2], M1)) rfl).trans ?_
    refine (e_kI (q := (20, [some (.ref 52), some (.int l1), some (.int l2), none, none], [.int (M1.1 52 35), .int (jn 0), .int l2])) (q2 := (23, [some (.ref 52), some (.int l1), some (.int l2), none, none], [])) (M := M1) (o := (pcl GG lay d 71 [.int l2, .int (jn 0), .int (M1.1 52 35)] M1)) (hf := rfl) rfl rfl).trans ?_
    refine kI_in (fun r2 M2 => ?_)
    refine (e_if_ne (hf := rfl)).trans ?_
    refine ite_in ?_ ?_
    · refine (evn_adv 2 (q' := (29, [some (.ref 52), some (.int l1), some (.int l2), none, none], [.int (jz 5), .ref 52], M2)) rfl).trans ?_
      refine (e_kI (q := (29, [some (.ref 52), some (.int l1), some (.int l2), none, none], [.int (jz 5), .ref 52])) (q2 := (32, [some (.ref 52), some (.int l1), some (.int l2), none, none], [])) (M := M2) (o := (pcl GG lay d 69 [.ref 52, .int (jz 5)] M2)) (hf := rfl) rfl rfl).trans ?_
      refine kI_in (fun r3 M3 => ?_)
      exact evn_end 1 rfl
    · refine (evn_adv 2 (q' := (35, [some (.ref 52), some (.int l1), some (.int l2), none, none], [.int l1, .ref 52], M2)) rfl).trans ?_
      refine (e_kV (q := (35, [some (.ref 52), some (.int l1), some (.int l2), none, none], [.int l1, .ref 52])) (q2 := (38, [some (.ref 52), some (.int l1), some (.int l2), none, none], [])) (M := M2) (o := (pcl GG lay d 115 [.ref 52, .int l1] M2)) (hf := rfl) rfl rfl).trans ?_
      refine kV_in (fun M3 => ?_)
      refine (evn_adv 2 (q' := (40, [some (.ref 52), some (.int l1), some (.int l2), some (.int (jn 0)), none], [], M3)) rfl).trans ?_
      rfl
theorem h_148_40 (d : Nat) (u1 : Option Value) (l2 : Int32) (l3 : Int32) (u4 : Option Value) (M : PM) : E_148 d (40, [some (.ref 52), u1, some (.int l2), some (.int l3), u4], [], M) = (if l3 < l2 then (oB (aldL lay M 74 l3) fun v1 => (kI (pcl GG lay d 147 [.ref 52, .long v1] M) fun r2 M2 => (if r2 = (jz 1) then (kI (pcl GG lay d 69 [.ref 52, .int (jz 6)] M2) fun r3 M3 => (rI r3 M3)) else (oB (aldI lay none M2 73 l3) fun v3 => (kI (pcl GG lay d 73 [.ref 52, .int v3] M2) fun r4 M4 => (if r4 = jn 0 then (kI (pcl GG lay d 69 [.ref 52, .int (jz 6)] M4) fun r5 M5 => (rI r5 M5)) else (oB (aldI lay none M4 73 l3) fun v5 => (kI (pcl GG lay d 114 [.ref 52, .int v5, .int r2] M4) fun r6 M6 => (if r6 = jn 0 then (kI (pcl GG lay d 69 [.ref 52, .int (jz 6)] M6) fun r7 M7 => (rI r7 M7)) else (oB (aldI lay none M6 73 l3) fun v7 => (kV (pcl GG lay d 120 [.ref 52, .int v7] M6) fun M8 => (kI (pcl GG lay d 78 [.ref 65, .int r2] M8) fun r9 M9 => (if (jn 40) < (((M8.1 52 19) - r9) + (M9.1 52 26)) then (kI (pcl GG lay d 69 [.ref 52, .int (jz 7)] M9) fun r10 M10 => (rI r10 M10)) else (kV (pcl GG lay d 121 [.ref 52, .int r2, .ref 69, .int (jn 0), .int (M9.1 52 26)] M9) fun M10 => E_148 d (40, [some (.ref 52), u1, some (.int l2), some (.int (l3 + (jn 1))), some (.int r2)], [], M10))))))))))))))) else (if (M.1 52 0) = (jn 24) then (kI (pcl GG lay d 69 [.ref 52, .int (jz 7)] M) fun r1 M1 => (rI r1 M1)) else (kI (pcl GG lay d 92 [.ref 52, .ref 65, .int (M.1 52 19)] M) fun r1 M1 => (rI r1 M1)))) := by
  refine (evn_adv 2 (q' := (42, [some (.ref 52), u1, some (.int l2), some (.int l3), u4], [.int l2, .int l3], M)) rfl).trans ?_
  refine (e_ic_ge (hf := rfl)).trans ?_
  refine ite_in ?_ ?_
  · refine (evn_adv 4 (q' := (51, [some (.ref 52), u1, some (.int l2), some (.int l3), u4], [.int l3, .ref 74, .ref 52], M)) rfl).trans ?_
    refine (e_oB (q := (51, [some (.ref 52), u1, some (.int l2), some (.int l3), u4], [.int l3, .ref 74, .ref 52], M)) (o := (aldL lay M 74 l3)) (f := fun v1 => (52, [some (.ref 52), u1, some (.int l2), some (.int l3), u4], [.long v1, .ref 52], M)) (hf := rfl) rfl).trans ?_
    refine oB_in (fun v1 => ?_)
    refine (e_kI (q := (52, [some (.ref 52), u1, some (.int l2), some (.int l3), u4], [.long v1, .ref 52])) (q2 := (55, [some (.ref 52), u1, some (.int l2), some (.int l3), u4], [])) (M := M) (o := (pcl GG lay d 147 [.ref 52, .long v1] M)) (hf := rfl) rfl rfl).trans ?_
    refine kI_in (fun r2 M2 => ?_)
    refine (evn_adv 3 (q' := (60, [some (.ref 52), u1, some (.int l2), some (.int l3), some (.int r2)], [.int (jz 1), .int r2], M2)) rfl).trans ?_
    refine (e_ic_eq (hf := rfl)).trans ?_
    refine ite_in ?_ ?_
    · refine (evn_adv 2 (q' := (94, [some (.ref 52), u1, some (.int l2), some (.int l3), some (.int r2)], [.int (jz 6), .ref 52], M2)) rfl).trans ?_
      refine (e_kI (q := (94, [some (.ref 52), u1, some (.int l2), some (.int l3), some (.int r2)], [.int (jz 6), .ref 52])) (q2 := (97, [some (.ref 52), u1, some (.int l2), some (.int l3), some (.int r2)], [])) (M := M2) (o := (pcl GG lay d 69 [.ref 52, .int (jz 6)] M2)) (hf := rfl) rfl rfl).trans ?_
      refine kI_in (fun r3 M3 => ?_)
      exact evn_end 1 rfl
    · refine (evn_adv 4 (q' := (69, [some (.ref 52), u1, some (.int l2), some (.int l3), some (.int r2)], [.int l3, .ref 73, .ref 52], M2)) rfl).trans ?_
      refine (e_oB (q := (69, [some (.ref 52), u1, some (.int l2), some (.int l3), some (.int r2)], [.int l3, .ref 73, .ref 52], M2)) (o := (aldI lay none M2 73 l3)) (f := fun v3 => (70, [some (.ref 52), u1, some (.int l2), some (.int l3), some (.int r2)], [.int v3, .ref 52], M2)) (hf := rfl) rfl).trans ?_
      refine oB_in (fun v3 => ?_)
      refine (e_kI (q := (70, [some (.ref 52), u1, some (.int l2), some (.int l3), some (.int r2)], [.int v3, .ref 52])) (q2 := (73, [some (.ref 52), u1, some (.int l2), some (.int l3), some (.int r2)], [])) (M := M2) (o := (pcl GG lay d 73 [.ref 52, .int v3] M2)) (hf := rfl) rfl rfl).trans ?_
      refine kI_in (fun r4 M4 => ?_)
      refine (e_if_eq (hf := rfl)).trans ?_
      refine ite_in ?_ ?_
      · refine (evn_adv 2 (q' := (94, [some (.ref 52), u1, some (.int l2), some (.int l3), some (.int r2)], [.int (jz 6), .ref 52], M4)) rfl).trans ?_
        refine (e_kI (q := (94, [some (.ref 52), u1, some (.int l2), some (.int l3), some (.int r2)], [.int (jz 6), .ref 52])) (q2 := (97, [some (.ref 52), u1, some (.int l2), some (.int l3), some (.int r2)], [])) (M := M4) (o := (pcl GG lay d 69 [.ref 52, .int (jz 6)] M4)) (hf := rfl) rfl rfl).trans ?_
        refine kI_in (fun r5 M5 => ?_)
        exact evn_end 1 rfl
      · refine (evn_adv 4 (q' := (82, [some (.ref 52), u1, some (.int l2), some (.int l3), some (.int r2)], [.int l3, .ref 73, .ref 52], M4)) rfl).trans ?_
        refine (e_oB (q := (82, [some (.ref 52), u1, some (.int l2), some (.int l3), some (.int r2)], [.int l3, .ref 73, .ref 52], M4)) (o := (aldI lay none M4 73 l3)) (f := fun v5 => (83, [some (.ref 52), u1, some (.int l2), some (.int l3), some (.int r2)], [.int v5, .ref 52], M4)) (hf := rfl) rfl).trans ?_
        refine oB_in (fun v5 => ?_)
        refine (evn_adv 1 (q' := (85, [some (.ref 52), u1, some (.int l2), some (.int l3), some (.int r2)], [.int r2, .int v5, .ref 52], M4)) rfl).trans ?_
        refine (e_kI (q := (85, [some (.ref 52), u1, some (.int l2), some (.int l3), some (.int r2)], [.int r2, .int v5, .ref 52])) (q2 := (88, [some (.ref 52), u1, some (.int l2), some (.int l3), some (.int r2)], [])) (M := M4) (o := (pcl GG lay d 114 [.ref 52, .int v5, .int r2] M4)) (hf := rfl) rfl rfl).trans ?_
        refine kI_in (fun r6 M6 => ?_)
        refine (e_if_ne (hf := rfl)).trans ?_
        refine ite_in ?_ ?_
        · refine (evn_adv 2 (q' := (94, [some (.ref 52), u1, some (.int l2), some (.int l3), some (.int r2)], [.int (jz 6), .ref 52], M6)) rfl).trans ?_
          refine (e_kI (q := (94, [some (.ref 52), u1, some (.int l2), some (.int l3), some (.int r2)], [.int (jz 6), .ref 52])) (q2 := (97, [some (.ref 52), u1, some (.int l2), some (.int l3), some (.int r2)], [])) (M := M6) (o := (pcl GG lay d 69 [.ref 52, .int (jz 6)] M6)) (hf := rfl) rfl rfl).trans ?_
          refine kI_in (fun r7 M7 => ?_)
          exact evn_end 1 rfl
        · refine (evn_adv 4 (q' := (104, [some (.ref 52), u1, some (.int l2), some (.int l3), some (.int r2)], [.int l3, .ref 73, .ref 52], M6)) rfl).trans ?_
          refine (e_oB (q := (104, [some (.ref 52), u1, some (.int l2), some (.int l3), some (.int r2)], [.int l3, .ref 73, .ref 52], M6)) (o := (aldI lay none M6 73 l3)) (f := fun v7 => (105, [some (.ref 52), u1, some (.int l2), some (.int l3), some (.int r2)], [.int v7, .ref 52], M6)) (hf := rfl) rfl).trans ?_
          refine oB_in (fun v7 => ?_)
          refine (e_kV (q := (105, [some (.ref 52), u1, some (.int l2), some (.int l3), some (.int r2)], [.int v7, .ref 52])) (q2 := (108, [some (.ref 52), u1, some (.int l2), some (.int l3), some (.int r2)], [])) (M := M6) (o := (pcl GG lay d 120 [.ref 52, .int v7] M6)) (hf := rfl) rfl rfl).trans ?_
          refine kV_in (fun M8 => ?_)
          refine (evn_adv 5 (q' := (118, [some (.ref 52), u1, some (.int l2), some (.int l3), some (.int r2)], [.int r2, .ref 65, .int (M8.1 52 19)], M8)) rfl).trans ?_
          refine (e_kI (q := (118, [some (.ref 52), u1, some (.int l2), some (.int l3), some (.int r2)], [.int r2, .ref 65, .int (M8.1 52 19)])) (q2 := (121, [some (.ref 52), u1, some (.int l2), some (.int l3), some (.int r2)], [.int (M8.1 52 19)])) (M := M8) (o := (pcl GG lay d 78 [.ref 65, .int r2] M8)) (hf := rfl) rfl rfl).trans ?_
          refine kI_in (fun r9 M9 => ?_)
          refine (evn_adv 5 (q' := (129, [some (.ref 52), u1, some (.int l2), some (.int l3), some (.int r2)], [.int (jn 40), .int (((M8.1 52 19) - r9) + (M9.1 52 26))], M9)) rfl).trans ?_
          refine (e_ic_le (hf := rfl)).trans ?_
          refine ite_in ?_ ?_
          · refine (evn_adv 2 (q' := (135, [some (.ref 52), u1, some (.int l2), some (.int l3), some (.int r2)], [.int (jz 7), .ref 52], M9)) rfl).trans ?_
            refine (e_kI (q := (135, [some (.ref 52), u1, some (.int l2), some (.int l3), some (.int r2)], [.int (jz 7), .ref 52])) (q2 := (138, [some (.ref 52), u1, some (.int l2), some (.int l3), some (.int r2)], [])) (M := M9) (o := (pcl GG lay d 69 [.ref 52, .int (jz 7)] M9)) (hf := rfl) rfl rfl).trans ?_
            refine kI_in (fun r10 M10 => ?_)
            exact evn_end 1 rfl
          · refine (evn_adv 7 (q' := (151, [some (.ref 52), u1, some (.int l2), some (.int l3), some (.int r2)], [.int (M9.1 52 26), .int (jn 0), .ref 69, .int r2, .ref 52], M9)) rfl).trans ?_
            refine (e_kV (q := (151, [some (.ref 52), u1, some (.int l2), some (.int l3), some (.int r2)], [.int (M9.1 52 26), .int (jn 0), .ref 69, .int r2, .ref 52])) (q2 := (154, [some (.ref 52), u1, some (.int l2), some (.int l3), some (.int r2)], [])) (M := M9) (o := (pcl GG lay d 121 [.ref 52, .int r2, .ref 69, .int (jn 0), .int (M9.1 52 26)] M9)) (hf := rfl) rfl rfl).trans ?_
            refine kV_in (fun M10 => ?_)
            refine (evn_adv 2 (q' := (40, [some (.ref 52), u1, some (.int l2), some (.int (l3 + (jn 1))), some (.int r2)], [], M10)) rfl).trans ?_
            rfl
  · refine (evn_adv 3 (q' := (166, [some (.ref 52), u1, some (.int l2), some (.int l3), u4], [.int (jn 24), .int (M.1 52 0)], M)) rfl).trans ?_
    refine (e_ic_ne (hf := rfl)).trans ?_
    refine ite_in ?_ ?_
    · refine (evn_adv 2 (q' := (172, [some (.ref 52), u1, some (.int l2), some (.int l3), u4], [.int (jz 7), .ref 52], M)) rfl).trans ?_
      refine (e_kI (q := (172, [some (.ref 52), u1, some (.int l2), some (.int l3), u4], [.int (jz 7), .ref 52])) (q2 := (175, [some (.ref 52), u1, some (.int l2), some (.int l3), u4], [])) (M := M) (o := (pcl GG lay d 69 [.ref 52, .int (jz 7)] M)) (hf := rfl) rfl rfl).trans ?_
      refine kI_in (fun r1 M1 => ?_)
      refine (evn_adv 1 (q' := (190, [some (.ref 52), u1, some (.int l2), some (.int l3), u4], [.int r1], M1)) rfl).trans ?_
      exact evn_end 1 rfl
    · refine (evn_adv 5 (q' := (187, [some (.ref 52), u1, some (.int l2), some (.int l3), u4], [.int (M.1 52 19), .ref 65, .ref 52], M)) rfl).trans ?_
      refine (e_kI (q := (187, [some (.ref 52), u1, some (.int l2), some (.int l3), u4], [.int (M.1 52 19), .ref 65, .ref 52])) (q2 := (190, [some (.ref 52), u1, some (.int l2), some (.int l3), u4], [])) (M := M) (o := (pcl GG lay d 92 [.ref 52, .ref 65, .int (M.1 52 19)] M)) (hf := rfl) rfl rfl).trans ?_
      refine kI_in (fun r1 M1 => ?_)
      exact evn_end 1 rfl
/-- TermStrategiesModel.isFree(I)Z -/
noncomputable abbrev E_149 (d : Nat) : PQ → PO := evn (rnn k_149 lay none (pcl GG lay d) 2)
theorem q_149 (d : Nat) (l0 : Int32) (M : PM) : pcl GG lay (d + 1) 149 [.int l0] M = (kI (pcl GG lay d 76 [.int l0] M) fun r1 M1 => (if r1 = jn 0 then (kI (pcl GG lay d 76 [.int (l0 + (jn 32))] M1) fun r2 M2 => (if r2 = jn 0 then (rZ (jn 0) M2) else (rZ (jn 1) M2))) else (rZ (jn 1) M1))) := by
  refine (pcl_un (mt := t_149) (by decide) rfl (Nat.le_of_ble_eq_true rfl)).trans ?_
  show E_149 d (0, [some (.int l0)], [], M) = _
  refine (evn_adv 1 (q' := (1, [some (.int l0)], [.int l0], M)) rfl).trans ?_
  refine (e_kI (q := (1, [some (.int l0)], [.int l0])) (q2 := (4, [some (.int l0)], [])) (M := M) (o := (pcl GG lay d 76 [.int l0] M)) (hf := rfl) rfl rfl).trans ?_
  refine kI_in (fun r1 M1 => ?_)
  refine (e_if_ne (hf := rfl)).trans ?_
  refine ite_in ?_ ?_
  · refine (evn_adv 3 (q' := (11, [some (.int l0)], [.int (l0 + (jn 32))], M1)) rfl).trans ?_
    refine (e_kI (q := (11, [some (.int l0)], [.int (l0 + (jn 32))])) (q2 := (14, [some (.int l0)], [])) (M := M1) (o := (pcl GG lay d 76 [.int (l0 + (jn 32))] M1)) (hf := rfl) rfl rfl).trans ?_
    refine kI_in (fun r2 M2 => ?_)
    refine (e_if_eq (hf := rfl)).trans ?_
    refine ite_in ?_ ?_
    · refine (evn_adv 1 (q' := (22, [some (.int l0)], [.int (jn 0)], M2)) rfl).trans ?_
      exact e_iretz (hf := rfl)
    · refine (evn_adv 2 (q' := (22, [some (.int l0)], [.int (jn 1)], M2)) rfl).trans ?_
      exact e_iretz (hf := rfl)
  · refine (evn_adv 2 (q' := (22, [some (.int l0)], [.int (jn 1)], M1)) rfl).trans ?_
    exact e_iretz (hf := rfl)
/-- TermStrategiesModel.number(I)I -/
noncomputable abbrev E_150 (d : Nat) : PQ → PO := evn (rnn k_150 lay none (pcl GG lay d) 1)
theorem q_150 (d : Nat) (l0 : Int32) (M : PM) : pcl GG lay (d + 1) 150 [.int l0] M = (if l0 < (jn 117) then (rI (((l0 + (jn 32)) - (jn 117)) + (jn 6)) M) else (rI (l0 - (jn 117)) M)) := by
  refine (pcl_un (mt := t_150) (by decide) rfl (Nat.le_of_ble_eq_true rfl)).trans ?_
  show E_150 d (0, [some (.int l0)], [], M) = _
  refine (evn_adv 2 (q' := (3, [some (.int l0)], [.int (jn 117), .int l0], M)) rfl).trans ?_
  refine (e_ic_lt (hf := rfl)).trans ?_
  refine ite_in ?_ ?_
  · refine (evn_adv 7 (q' := (23, [some (.int l0)], [.int (((l0 + (jn 32)) - (jn 117)) + (jn 6))], M)) rfl).trans ?_
    exact evn_end 1 rfl
  · refine (evn_adv 4 (q' := (23, [some (.int l0)], [.int (l0 - (jn 117))], M)) rfl).trans ?_
    exact evn_end 1 rfl
/-- TermStrategiesModel.wide(I)I -/
noncomputable abbrev E_151 (d : Nat) : PQ → PO := evn (rnn k_151 lay none (pcl GG lay d) 1)
theorem q_151 (d : Nat) (l0 : Int32) (M : PM) : pcl GG lay (d + 1) 151 [.int l0] M = (kI (pcl GG lay d 149 [.int l0] M) fun r1 M1 => (if r1 = jn 0 then (kI (pcl GG lay d 77 [.int l0] M1) fun r2 M2 => (rI r2 M2)) else (rI (jn 0) M1))) := by
  refine (pcl_un (mt := t_151) (by decide) rfl (Nat.le_of_ble_eq_true rfl)).trans ?_
  show E_151 d (0, [some (.int l0)], [], M) = _
  refine (evn_adv 1 (q' := (1, [some (.int l0)], [.int l0], M)) rfl).trans ?_
  refine (e_kI (q := (1, [some (.int l0)], [.int l0])) (q2 := (4, [some (.int l0)], [])) (M := M) (o := (pcl GG lay d 149 [.int l0] M)) (hf := rfl) rfl rfl).trans ?_
  refine kI_in (fun r1 M1 => ?_)
  refine (e_if_eq (hf := rfl)).trans ?_
  refine ite_in ?_ ?_
  · refine (evn_adv 1 (q' := (12, [some (.int l0)], [.int l0], M1)) rfl).trans ?_
    refine (e_kI (q := (12, [some (.int l0)], [.int l0])) (q2 := (15, [some (.int l0)], [])) (M := M1) (o := (pcl GG lay d 77 [.int l0] M1)) (hf := rfl) rfl rfl).trans ?_
    refine kI_in (fun r2 M2 => ?_)
    exact evn_end 1 rfl
  · refine (evn_adv 2 (q' := (15, [some (.int l0)], [.int (jn 0)], M1)) rfl).trans ?_
    exact evn_end 1 rfl
/-- TermStrategiesModel.poolSpan(I)I -/
noncomputable abbrev E_152 (d : Nat) : PQ → PO := evn (rnn k_152 lay none (pcl GG lay d) 1)
theorem q_152 (d : Nat) (l1 : Int32) (M : PM) : pcl GG lay (d + 1) 152 [.ref 52, .int l1] M = E_152 d (4, [some (.ref 52), some (.int l1), some (.int (jn 1)), some (.int l1)], [], M) := by
  refine (pcl_un (mt := t_152) (by decide) rfl (Nat.le_of_ble_eq_true rfl)).trans ?_
  show E_152 d (0, [some (.ref 52), some (.int l1), none, none], [], M) = _
  refine (evn_adv 4 (q' := (4, [some (.ref 52), some (.int l1), some (.int (jn 1)), some (.int l1)], [], M)) rfl).trans ?_
  rfl
theorem h_152_4 (d : Nat) (l1 : Int32) (l2 : Int32) (l3 : Int32) (M : PM) : E_152 d (4, [some (.ref 52), some (.int l1), some (.int l2), some (.int l3)], [], M) = (if jn 0 < l2 then (oB (aldI lay none M 75 l3) fun v1 => (kI (pcl GG lay d 151 [.int v1] M) fun r2 M2 => E_152 d (4, [some (.ref 52), some (.int l1), some (.int (l2 + (r2 - (jn 1)))), some (.int (l3 + (jn 1)))], [], M2))) else (rI (l3 - l1) M)) := by
  refine (evn_adv 1 (q' := (5, [some (.ref 52), some (.int l1), some (.int l2), some (.int l3)], [.int l2], M)) rfl).trans ?_
  refine (e_if_le (hf := rfl)).trans ?_
  refine ite_in ?_ ?_
  · refine (evn_adv 4 (q' := (14, [some (.ref 52), some (.int l1), some (.int l2), some (.int l3)], [.int l3, .ref 75, .int l2], M)) rfl).trans ?_
    refine (e_oB (q := (14, [some (.ref 52), some (.int l1), some (.int l2), some (.int l3)], [.int l3, .ref 75, .int l2], M)) (o := (aldI lay none M 75 l3)) (f := fun v1 => (15, [some (.ref 52), some (.int l1), some (.int l2), some (.int l3)], [.int v1, .int l2], M)) (hf := rfl) rfl).trans ?_
    refine oB_in (fun v1 => ?_)
    refine (e_kI (q := (15, [some (.ref 52), some (.int l1), some (.int l2), some (.int l3)], [.int v1, .int l2])) (q2 := (18, [some (.ref 52), some (.int l1), some (.int l2), some (.int l3)], [.int l2])) (M := M) (o := (pcl GG lay d 151 [.int v1] M)) (hf := rfl) rfl rfl).trans ?_
    refine kI_in (fun r2 M2 => ?_)
    refine (evn_adv 6 (q' := (4, [some (.ref 52), some (.int l1), some (.int (l2 + (r2 - (jn 1)))), some (.int (l3 + (jn 1)))], [], M2)) rfl).trans ?_
    rfl
  · refine (evn_adv 3 (q' := (31, [some (.ref 52), some (.int l1), some (.int l2), some (.int l3)], [.int (l3 - l1)], M)) rfl).trans ?_
    exact evn_end 1 rfl
/-- TermStrategiesModel.poolArgument(II)I -/
noncomputable abbrev E_153 (d : Nat) : PQ → PO := evn (rnn k_153 lay none (pcl GG lay d) 1)
theorem q_153 (d : Nat) (l1 : Int32) (l2 : Int32) (M : PM) : pcl GG lay (d + 1) 153 [.ref 52, .int l1, .int l2] M = (if l2 = jn 0 then (rI (l1 + (jn 1)) M) else (kI (pcl GG lay d 152 [.ref 52, .int (l1 + (jn 1))] M) fun r1 M1 => (rI ((l1 + (jn 1)) + r1) M1))) := by
  refine (pcl_un (mt := t_153) (by decide) rfl (Nat.le_of_ble_eq_true rfl)).trans ?_
  show E_153 d (0, [some (.ref 52), some (.int l1), some (.int l2)], [], M) = _
  refine (evn_adv 1 (q' := (1, [some (.ref 52), some (.int l1), some (.int l2)], [.int l2], M)) rfl).trans ?_
  refine (e_if_ne (hf := rfl)).trans ?_
  refine ite_in ?_ ?_
  · refine (evn_adv 4 (q' := (21, [some (.ref 52), some (.int l1), some (.int l2)], [.int (l1 + (jn 1))], M)) rfl).trans ?_
    exact evn_end 1 rfl
  · refine (evn_adv 7 (q' := (17, [some (.ref 52), some (.int l1), some (.int l2)], [.int (l1 + (jn 1)), .ref 52, .int (l1 + (jn 1))], M)) rfl).trans ?_
    refine (e_kI (q := (17, [some (.ref 52), some (.int l1), some (.int l2)], [.int (l1 + (jn 1)), .ref 52, .int (l1 + (jn 1))])) (q2 := (20, [some (.ref 52), some (.int l1), some (.int l2)], [.int (l1 + (jn 1))])) (M := M) (o := (pcl GG lay d 152 [.ref 52, .int (l1 + (jn 1))] M)) (hf := rfl) rfl rfl).trans ?_
    refine kI_in (fun r1 M1 => ?_)
    refine (evn_adv 1 (q' := (21, [some (.ref 52), some (.int l1), some (.int l2)], [.int ((l1 + (jn 1)) + r1)], M1)) rfl).trans ?_
    exact evn_end 1 rfl
/-- TermStrategiesModel.standsFor(I)I -/
noncomputable abbrev E_154 (d : Nat) : PQ → PO := evn (rnn k_154 lay none (pcl GG lay d) 1)
theorem q_154 (d : Nat) (l1 : Int32) (M : PM) : pcl GG lay (d + 1) 154 [.ref 52, .int l1] M = E_154 d (2, [some (.ref 52), some (.int l1), some (.int l1)], [], M) := by
  refine (pcl_un (mt := t_154) (by decide) rfl (Nat.le_of_ble_eq_true rfl)).trans ?_
  show E_154 d (0, [some (.ref 52), some (.int l1), none], [], M) = _
  refine (evn_adv 2 (q' := (2, [some (.ref 52), some (.int l1), some (.int l1)], [], M)) rfl).trans ?_
  rfl
theorem h_154_2 (d : Nat) (u1 : Option Value) (l2 : Int32) (M : PM) : E_154 d (2, [some (.ref 52), u1, some (.int l2)], [], M) = (oB (aldI lay none M 75 l2) fun v1 => (kI (pcl GG lay d 149 [.int v1] M) fun r2 M2 => (if r2 = jn 0 then (rI l2 M2) else (oB (aldI lay none M2 75 l2) fun v3 => (kI (pcl GG lay d 150 [.int v3] M2) fun r4 M4 => (oB (aldI lay none M4 76 r4) fun v5 => (if v5 = (jz 1) then (rI l2 M4) else (oB (aldI lay none M4 75 l2) fun v6 => (kI (pcl GG lay d 150 [.int v6] M4) fun r7 M7 => (oB (aldI lay none M7 76 r7) fun v8 => E_154 d (2, [some (.ref 52), u1, some (.int v8)], [], M7))))))))))) := by
  refine (evn_adv 3 (q' := (7, [some (.ref 52), u1, some (.int l2)], [.int l2, .ref 75], M)) rfl).trans ?_
  refine (e_oB (q := (7, [some (.ref 52), u1, some (.int l2)], [.int l2, .ref 75], M)) (o := (aldI lay none M 75 l2)) (f := fun v1 => (8, [some (.ref 52), u1, some (.int l2)], [.int v1], M)) (hf := rfl) rfl).trans ?_
  refine oB_in (fun v1 => ?_)
  refine (e_kI (q := (8, [some (.ref 52), u1, some (.int l2)], [.int v1])) (q2 := (11, [some (.ref 52), u1, some (.int l2)], [])) (M := M) (o := (pcl GG lay d 149 [.int v1] M)) (hf := rfl) rfl rfl).trans ?_
  refine kI_in (fun r2 M2 => ?_)
  refine (e_if_eq (hf := rfl)).trans ?_
  refine ite_in ?_ ?_
  · refine (evn_adv 1 (q' := (51, [some (.ref 52), u1, some (.int l2)], [.int l2], M2)) rfl).trans ?_
    exact evn_end 1 rfl
  · refine (evn_adv 5 (q' := (23, [some (.ref 52), u1, some (.int l2)], [.int l2, .ref 75, .ref 76], M2)) rfl).trans ?_
    refine (e_oB (q := (23, [some (.ref 52), u1, some (.int l2)], [.int l2, .ref 75, .ref 76], M2)) (o := (aldI lay none M2 75 l2)) (f := fun v3 => (24, [some (.ref 52), u1, some (.int l2)], [.int v3, .ref 76], M2)) (hf := rfl) rfl).trans ?_
    refine oB_in (fun v3 => ?_)
    refine (e_kI (q := (24, [some (.ref 52), u1, some (.int l2)], [.int v3, .ref 76])) (q2 := (27, [some (.ref 52), u1, some (.int l2)], [.ref 76])) (M := M2) (o := (pcl GG lay d 150 [.int v3] M2)) (hf := rfl) rfl rfl).trans ?_
    refine kI_in (fun r4 M4 => ?_)
    refine (e_oB (q := (27, [some (.ref 52), u1, some (.int l2)], [.int r4, .ref 76], M4)) (o := (aldI lay none M4 76 r4)) (f := fun v5 => (28, [some (.ref 52), u1, some (.int l2)], [.int v5], M4)) (hf := rfl) rfl).trans ?_
    refine oB_in (fun v5 => ?_)
    refine (evn_adv 1 (q' := (29, [some (.ref 52), u1, some (.int l2)], [.int (jz 1), .int v5], M4)) rfl).trans ?_
    refine (e_ic_eq (hf := rfl)).trans ?_
    refine ite_in ?_ ?_
    · refine (evn_adv 1 (q' := (51, [some (.ref 52), u1, some (.int l2)], [.int l2], M4)) rfl).trans ?_
      exact evn_end 1 rfl
    · refine (evn_adv 5 (q' := (41, [some (.ref 52), u1, some (.int l2)], [.int l2, .ref 75, .ref 76], M4)) rfl).trans ?_
      refine (e_oB (q := (41, [some (.ref 52), u1, some (.int l2)], [.int l2, .ref 75, .ref 76], M4)) (o := (aldI lay none M4 75 l2)) (f := fun v6 => (42, [some (.ref 52), u1, some (.int l2)], [.int v6, .ref 76], M4)) (hf := rfl) rfl).trans ?_
      refine oB_in (fun v6 => ?_)
      refine (e_kI (q := (42, [some (.ref 52), u1, some (.int l2)], [.int v6, .ref 76])) (q2 := (45, [some (.ref 52), u1, some (.int l2)], [.ref 76])) (M := M4) (o := (pcl GG lay d 150 [.int v6] M4)) (hf := rfl) rfl rfl).trans ?_
      refine kI_in (fun r7 M7 => ?_)
      refine (e_oB (q := (45, [some (.ref 52), u1, some (.int l2)], [.int r7, .ref 76], M7)) (o := (aldI lay none M7 76 r7)) (f := fun v8 => (46, [some (.ref 52), u1, some (.int l2)], [.int v8], M7)) (hf := rfl) rfl).trans ?_
      refine oB_in (fun v8 => ?_)
      refine (evn_adv 2 (q' := (2, [some (.ref 52), u1, some (.int v8)], [], M7)) rfl).trans ?_
      rfl
