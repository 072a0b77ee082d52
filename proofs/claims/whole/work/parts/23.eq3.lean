/-- TermStrategiesModel.isIn(II)Z -/
noncomputable abbrev E_155 (d : Nat) : PQ → PO := evn (rnn k_155 lay none (pcl GG lay d) 2)
theorem q_155 (d : Nat) (l1 : Int32) (l2 : Int32) (M : PM) : pcl GG lay (d + 1) 155 [.ref 52, .int l1, .int l2] M = (kI (pcl GG lay d 154 [.ref 52, .int l2] M) fun r1 M1 => (oB (aldI lay none M1 75 r1) fun v2 => (kI (pcl GG lay d 149 [.int v2] M1) fun r3 M3 => (if r3 = jn 0 then E_155 d (40, [some (.ref 52), some (.int l1), some (.int l2), some (.int r1), some (.int (jn 0))], [], M3) else (oB (aldI lay none M3 75 r1) fun v4 => (kI (pcl GG lay d 150 [.int v4] M3) fun r5 M5 => (if r5 = l1 then (rZ (jn 1) M5) else (rZ (jn 0) M5)))))))) := by
  refine (pcl_un (mt := t_155) (by decide) rfl (Nat.le_of_ble_eq_true rfl)).trans ?_
  show E_155 d (0, [some (.ref 52), some (.int l1), some (.int l2), none, none], [], M) = _
  refine (evn_adv 2 (q' := (2, [some (.ref 52), some (.int l1), some (.int l2), none, none], [.int l2, .ref 52], M)) rfl).trans ?_
  refine (e_kI (q := (2, [some (.ref 52), some (.int l1), some (.int l2), none, none], [.int l2, .ref 52])) (q2 := (5, [some (.ref 52), some (.int l1), some (.int l2), none, none], [])) (M := M) (o := (pcl GG lay d 154 [.ref 52, .int l2] M)) (hf := rfl) rfl rfl).trans ?_
  refine kI_in (fun r1 M1 => ?_)
  refine (evn_adv 4 (q' := (11, [some (.ref 52), some (.int l1), some (.int l2), some (.int r1), none], [.int r1, .ref 75], M1)) rfl).trans ?_
  refine (e_oB (q := (11, [some (.ref 52), some (.int l1), some (.int l2), some (.int r1), none], [.int r1, .ref 75], M1)) (o := (aldI lay none M1 75 r1)) (f := fun v2 => (12, [some (.ref 52), some (.int l1), some (.int l2), some (.int r1), none], [.int v2], M1)) (hf := rfl) rfl).trans ?_
  refine oB_in (fun v2 => ?_)
  refine (e_kI (q := (12, [some (.ref 52), some (.int l1), some (.int l2), some (.int r1), none], [.int v2])) (q2 := (15, [some (.ref 52), some (.int l1), some (.int l2), some (.int r1), none], [])) (M := M1) (o := (pcl GG lay d 149 [.int v2] M1)) (hf := rfl) rfl rfl).trans ?_
  refine kI_in (fun r3 M3 => ?_)
  refine (e_if_eq (hf := rfl)).trans ?_
  refine ite_in ?_ ?_
  · refine (evn_adv 2 (q' := (40, [some (.ref 52), some (.int l1), some (.int l2), some (.int r1), some (.int (jn 0))], [], M3)) rfl).trans ?_
    rfl
  · refine (evn_adv 3 (q' := (23, [some (.ref 52), some (.int l1), some (.int l2), some (.int r1), none], [.int r1, .ref 75], M3)) rfl).trans ?_
    refine (e_oB (q := (23, [some (.ref 52), some (.int l1), some (.int l2), some (.int r1), none], [.int r1, .ref 75], M3)) (o := (aldI lay none M3 75 r1)) (f := fun v4 => (24, [some (.ref 52), some (.int l1), some (.int l2), some (.int r1), none], [.int v4], M3)) (hf := rfl) rfl).trans ?_
    refine oB_in (fun v4 => ?_)
    refine (e_kI (q := (24, [some (.ref 52), some (.int l1), some (.int l2), some (.int r1), none], [.int v4])) (q2 := (27, [some (.ref 52), some (.int l1), some (.int l2), some (.int r1), none], [])) (M := M3) (o := (pcl GG lay d 150 [.int v4] M3)) (hf := rfl) rfl rfl).trans ?_
    refine kI_in (fun r5 M5 => ?_)
    refine (evn_adv 1 (q' := (28, [some (.ref 52), some (.int l1), some (.int l2), some (.int r1), none], [.int l1, .int r5], M5)) rfl).trans ?_
    refine (e_ic_ne (hf := rfl)).trans ?_
    refine ite_in ?_ ?_
    · refine (evn_adv 2 (q' := (36, [some (.ref 52), some (.int l1), some (.int l2), some (.int r1), none], [.int (jn 1)], M5)) rfl).trans ?_
      exact e_iretz (hf := rfl)
    · refine (evn_adv 1 (q' := (36, [some (.ref 52), some (.int l1), some (.int l2), some (.int r1), none], [.int (jn 0)], M5)) rfl).trans ?_
      exact e_iretz (hf := rfl)
theorem h_155_40 (d : Nat) (l1 : Int32) (u2 : Option Value) (l3 : Int32) (l4 : Int32) (M : PM) : E_155 d (40, [some (.ref 52), some (.int l1), u2, some (.int l3), some (.int l4)], [], M) = (oB (aldI lay none M 75 l3) fun v1 => (kI (pcl GG lay d 151 [.int v1] M) fun r2 M2 => (if l4 < r2 then (kI (pcl GG lay d 153 [.ref 52, .int l3, .int l4] M2) fun r3 M3 => (kI (pcl GG lay d 155 [.ref 52, .int l1, .int r3] M3) fun r4 M4 => (if r4 = jn 0 then E_155 d (40, [some (.ref 52), some (.int l1), u2, some (.int l3), some (.int (l4 + (jn 1)))], [], M4) else (rZ (jn 1) M4)))) else (rZ (jn 0) M2)))) := by
  refine (evn_adv 4 (q' := (47, [some (.ref 52), some (.int l1), u2, some (.int l3), some (.int l4)], [.int l3, .ref 75, .int l4], M)) rfl).trans ?_
  refine (e_oB (q := (47, [some (.ref 52), some (.int l1), u2, some (.int l3), some (.int l4)], [.int l3, .ref 75, .int l4], M)) (o := (aldI lay none M 75 l3)) (f := fun v1 => (48, [some (.ref 52), some (.int l1), u2, some (.int l3), some (.int l4)], [.int v1, .int l4], M)) (hf := rfl) rfl).trans ?_
  refine oB_in (fun v1 => ?_)
  refine (e_kI (q := (48, [some (.ref 52), some (.int l1), u2, some (.int l3), some (.int l4)], [.int v1, .int l4])) (q2 := (51, [some (.ref 52), some (.int l1), u2, some (.int l3), some (.int l4)], [.int l4])) (M := M) (o := (pcl GG lay d 151 [.int v1] M)) (hf := rfl) rfl rfl).trans ?_
  refine kI_in (fun r2 M2 => ?_)
  refine (e_ic_ge (hf := rfl)).trans ?_
  refine ite_in ?_ ?_
  · refine (evn_adv 5 (q' := (60, [some (.ref 52), some (.int l1), u2, some (.int l3), some (.int l4)], [.int l4, .int l3, .ref 52, .int l1, .ref 52], M2)) rfl).trans ?_
    refine (e_kI (q := (60, [some (.ref 52), some (.int l1), u2, some (.int l3), some (.int l4)], [.int l4, .int l3, .ref 52, .int l1, .ref 52])) (q2 := (63, [some (.ref 52), some (.int l1), u2, some (.int l3), some (.int l4)], [.int l1, .ref 52])) (M := M2) (o := (pcl GG lay d 153 [.ref 52, .int l3, .int l4] M2)) (hf := rfl) rfl rfl).trans ?_
    refine kI_in (fun r3 M3 => ?_)
    refine (e_kI (q := (63, [some (.ref 52), some (.int l1), u2, some (.int l3), some (.int l4)], [.int r3, .int l1, .ref 52])) (q2 := (66, [some (.ref 52), some (.int l1), u2, some (.int l3), some (.int l4)], [])) (M := M3) (o := (pcl GG lay d 155 [.ref 52, .int l1, .int r3] M3)) (hf := rfl) rfl rfl).trans ?_
    refine kI_in (fun r4 M4 => ?_)
    refine (e_if_eq (hf := rfl)).trans ?_
    refine ite_in ?_ ?_
    · refine (evn_adv 2 (q' := (40, [some (.ref 52), some (.int l1), u2, some (.int l3), some (.int (l4 + (jn 1)))], [], M4)) rfl).trans ?_
      rfl
    · refine (evn_adv 1 (q' := (70, [some (.ref 52), some (.int l1), u2, some (.int l3), some (.int l4)], [.int (jn 1)], M4)) rfl).trans ?_
      exact e_iretz (hf := rfl)
  · refine (evn_adv 1 (q' := (78, [some (.ref 52), some (.int l1), u2, some (.int l3), some (.int l4)], [.int (jn 0)], M2)) rfl).trans ?_
    exact e_iretz (hf := rfl)
/-- TermStrategiesModel.unifies(II)Z -/
noncomputable abbrev E_156 (d : Nat) : PQ → PO := evn (rnn k_156 lay none (pcl GG lay d) 2)
theorem q_156 (d : Nat) (l1 : Int32) (l2 : Int32) (M : PM) : pcl GG lay (d + 1) 156 [.ref 52, .int l1, .int l2] M = (kI (pcl GG lay d 154 [.ref 52, .int l1] M) fun r1 M1 => (kI (pcl GG lay d 154 [.ref 52, .int l2] M1) fun r2 M2 => (oB (aldI lay none M2 75 r1) fun v3 => (kI (pcl GG lay d 149 [.int v3] M2) fun r4 M4 => (if r4 = jn 0 then E_156 d (56, [some (.ref 52), some (.int l1), some (.int l2), some (.int r1), some (.int r2), none, none], [], M4) else (oB (aldI lay none M4 75 r2) fun v5 => (kI (pcl GG lay d 149 [.int v5] M4) fun r6 M6 => (if r6 = jn 0 then E_156 d (56, [some (.ref 52), some (.int l1), some (.int l2), some (.int r1), some (.int r2), none, none], [], M6) else (oB (aldI lay none M6 75 r1) fun v7 => (oB (aldI lay none M6 75 r2) fun v8 => (if v7 = v8 then (rZ (jn 1) M6) else E_156 d (56, [some (.ref 52), some (.int l1), some (.int l2), some (.int r1), some (.int r2), none, none], [], M6)))))))))))) := by
  refine (pcl_un (mt := t_156) (by decide) rfl (Nat.le_of_ble_eq_true rfl)).trans ?_
  show E_156 d (0, [some (.ref 52), some (.int l1), some (.int l2), none, none, none, none], [], M) = _
  refine (evn_adv 2 (q' := (2, [some (.ref 52), some (.int l1), some (.int l2), none, none, none, none], [.int l1, .ref 52], M)) rfl).trans ?_
  refine (e_kI (q := (2, [some (.ref 52), some (.int l1), some (.int l2), none, none, none, none], [.int l1, .ref 52])) (q2 := (5, [some (.ref 52), some (.int l1), some (.int l2), none, none, none, none], [])) (M := M) (o := (pcl GG lay d 154 [.ref 52, .int l1] M)) (hf := rfl) rfl rfl).trans ?_
  refine kI_in (fun r1 M1 => ?_)
  refine (evn_adv 3 (q' := (8, [some (.ref 52), some (.int l1), some (.int l2), some (.int r1), none, none, none], [.int l2, .ref 52], M1)) rfl).trans ?_
  refine (e_kI (q := (8, [some (.ref 52), some (.int l1), some (.int l2), some (.int r1), none, none, none], [.int l2, .ref 52])) (q2 := (11, [some (.ref 52), some (.int l1), some (.int l2), some (.int r1), none, none, none], [])) (M := M1) (o := (pcl GG lay d 154 [.ref 52, .int l2] M1)) (hf := rfl) rfl rfl).trans ?_
  refine kI_in (fun r2 M2 => ?_)
  refine (evn_adv 4 (q' := (18, [some (.ref 52), some (.int l1), some (.int l2), some (.int r1), some (.int r2), none, none], [.int r1, .ref 75], M2)) rfl).trans ?_
  refine (e_oB (q := (18, [some (.ref 52), some (.int l1), some (.int l2), some (.int r1), some (.int r2), none, none], [.int r1, .ref 75], M2)) (o := (aldI lay none M2 75 r1)) (f := fun v3 => (19, [some (.ref 52), some (.int l1), some (.int l2), some (.int r1), some (.int r2), none, none], [.int v3], M2)) (hf := rfl) rfl).trans ?_
  refine oB_in (fun v3 => ?_)
  refine (e_kI (q := (19, [some (.ref 52), some (.int l1), some (.int l2), some (.int r1), some (.int r2), none, none], [.int v3])) (q2 := (22, [some (.ref 52), some (.int l1), some (.int l2), some (.int r1), some (.int r2), none, none], [])) (M := M2) (o := (pcl GG lay d 149 [.int v3] M2)) (hf := rfl) rfl rfl).trans ?_
  refine kI_in (fun r4 M4 => ?_)
  refine (e_if_eq (hf := rfl)).trans ?_
  refine ite_in ?_ ?_
  · rfl
  · refine (evn_adv 3 (q' := (31, [some (.ref 52), some (.int l1), some (.int l2), some (.int r1), some (.int r2), none, none], [.int r2, .ref 75], M4)) rfl).trans ?_
    refine (e_oB (q := (31, [some (.ref 52), some (.int l1), some (.int l2), some (.int r1), some (.int r2), none, none], [.int r2, .ref 75], M4)) (o := (aldI lay none M4 75 r2)) (f := fun v5 => (32, [some (.ref 52), some (.int l1), some (.int l2), some (.int r1), some (.int r2), none, none], [.int v5], M4)) (hf := rfl) rfl).trans ?_
    refine oB_in (fun v5 => ?_)
    refine (e_kI (q := (32, [some (.ref 52), some (.int l1), some (.int l2), some (.int r1), some (.int r2), none, none], [.int v5])) (q2 := (35, [some (.ref 52), some (.int l1), some (.int l2), some (.int r1), some (.int r2), none, none], [])) (M := M4) (o := (pcl GG lay d 149 [.int v5] M4)) (hf := rfl) rfl rfl).trans ?_
    refine kI_in (fun r6 M6 => ?_)
    refine (e_if_eq (hf := rfl)).trans ?_
    refine ite_in ?_ ?_
    · rfl
    · refine (evn_adv 3 (q' := (43, [some (.ref 52), some (.int l1), some (.int l2), some (.int r1), some (.int r2), none, none], [.int r1, .ref 75], M6)) rfl).trans ?_
      refine (e_oB (q := (43, [some (.ref 52), some (.int l1), some (.int l2), some (.int r1), some (.int r2), none, none], [.int r1, .ref 75], M6)) (o := (aldI lay none M6 75 r1)) (f := fun v7 => (44, [some (.ref 52), some (.int l1), some (.int l2), some (.int r1), some (.int r2), none, none], [.int v7], M6)) (hf := rfl) rfl).trans ?_
      refine oB_in (fun v7 => ?_)
      refine (evn_adv 3 (q' := (50, [some (.ref 52), some (.int l1), some (.int l2), some (.int r1), some (.int r2), none, none], [.int r2, .ref 75, .int v7], M6)) rfl).trans ?_
      refine (e_oB (q := (50, [some (.ref 52), some (.int l1), some (.int l2), some (.int r1), some (.int r2), none, none], [.int r2, .ref 75, .int v7], M6)) (o := (aldI lay none M6 75 r2)) (f := fun v8 => (51, [some (.ref 52), some (.int l1), some (.int l2), some (.int r1), some (.int r2), none, none], [.int v8, .int v7], M6)) (hf := rfl) rfl).trans ?_
      refine oB_in (fun v8 => ?_)
      refine (e_ic_ne (hf := rfl)).trans ?_
      refine ite_in ?_ ?_
      · refine (evn_adv 1 (q' := (55, [some (.ref 52), some (.int l1), some (.int l2), some (.int r1), some (.int r2), none, none], [.int (jn 1)], M6)) rfl).trans ?_
        exact e_iretz (hf := rfl)
      · rfl
theorem h_156_56 (d : Nat) (u1 : Option Value) (u2 : Option Value) (l3 : Int32) (l4 : Int32) (u5 : Option Value) (u6 : Option Value) (M : PM) : E_156 d (56, [some (.ref 52), u1, u2, some (.int l3), some (.int l4), u5, u6], [], M) = (oB (aldI lay none M 75 l3) fun v1 => (kI (pcl GG lay d 149 [.int v1] M) fun r2 M2 => (if r2 = jn 0 then (oB (aldI lay none M2 75 l4) fun v3 => (kI (pcl GG lay d 149 [.int v3] M2) fun r4 M4 => (if r4 = jn 0 then (oB (aldI lay none M4 75 l3) fun v5 => (oB (aldI lay none M4 75 l4) fun v6 => (if v5 = v6 then E_156 d (176, [some (.ref 52), u1, u2, some (.int l3), some (.int l4), some (.int (jn 0)), u6], [], M4) else (rZ (jn 0) M4)))) else E_156 d (81, [some (.ref 52), u1, u2, some (.int l3), some (.int l4), u5, u6], [], M4)))) else E_156 d (81, [some (.ref 52), u1, u2, some (.int l3), some (.int l4), u5, u6], [], M2)))) := by
  refine (evn_adv 3 (q' := (61, [some (.ref 52), u1, u2, some (.int l3), some (.int l4), u5, u6], [.int l3, .ref 75], M)) rfl).trans ?_
  refine (e_oB (q := (61, [some (.ref 52), u1, u2, some (.int l3), some (.int l4), u5, u6], [.int l3, .ref 75], M)) (o := (aldI lay none M 75 l3)) (f := fun v1 => (62, [some (.ref 52), u1, u2, some (.int l3), some (.int l4), u5, u6], [.int v1], M)) (hf := rfl) rfl).trans ?_
  refine oB_in (fun v1 => ?_)
  refine (e_kI (q := (62, [some (.ref 52), u1, u2, some (.int l3), some (.int l4), u5, u6], [.int v1])) (q2 := (65, [some (.ref 52), u1, u2, some (.int l3), some (.int l4), u5, u6], [])) (M := M) (o := (pcl GG lay d 149 [.int v1] M)) (hf := rfl) rfl rfl).trans ?_
  refine kI_in (fun r2 M2 => ?_)
  refine (e_if_ne (hf := rfl)).trans ?_
  refine ite_in ?_ ?_
  · refine (evn_adv 3 (q' := (74, [some (.ref 52), u1, u2, some (.int l3), some (.int l4), u5, u6], [.int l4, .ref 75], M2)) rfl).trans ?_
    refine (e_oB (q := (74, [some (.ref 52), u1, u2, some (.int l3), some (.int l4), u5, u6], [.int l4, .ref 75], M2)) (o := (aldI lay none M2 75 l4)) (f := fun v3 => (75, [some (.ref 52), u1, u2, some (.int l3), some (.int l4), u5, u6], [.int v3], M2)) (hf := rfl) rfl).trans ?_
    refine oB_in (fun v3 => ?_)
    refine (e_kI (q := (75, [some (.ref 52), u1, u2, some (.int l3), some (.int l4), u5, u6], [.int v3])) (q2 := (78, [some (.ref 52), u1, u2, some (.int l3), some (.int l4), u5, u6], [])) (M := M2) (o := (pcl GG lay d 149 [.int v3] M2)) (hf := rfl) rfl rfl).trans ?_
    refine kI_in (fun r4 M4 => ?_)
    refine (e_if_eq (hf := rfl)).trans ?_
    refine ite_in ?_ ?_
    · refine (evn_adv 3 (q' := (160, [some (.ref 52), u1, u2, some (.int l3), some (.int l4), u5, u6], [.int l3, .ref 75], M4)) rfl).trans ?_
      refine (e_oB (q := (160, [some (.ref 52), u1, u2, some (.int l3), some (.int l4), u5, u6], [.int l3, .ref 75], M4)) (o := (aldI lay none M4 75 l3)) (f := fun v5 => (161, [some (.ref 52), u1, u2, some (.int l3), some (.int l4), u5, u6], [.int v5], M4)) (hf := rfl) rfl).trans ?_
      refine oB_in (fun v5 => ?_)
      refine (evn_adv 3 (q' := (167, [some (.ref 52), u1, u2, some (.int l3), some (.int l4), u5, u6], [.int l4, .ref 75, .int v5], M4)) rfl).trans ?_
      refine (e_oB (q := (167, [some (.ref 52), u1, u2, some (.int l3), some (.int l4), u5, u6], [.int l4, .ref 75, .int v5], M4)) (o := (aldI lay none M4 75 l4)) (f := fun v6 => (168, [some (.ref 52), u1, u2, some (.int l3), some (.int l4), u5, u6], [.int v6, .int v5], M4)) (hf := rfl) rfl).trans ?_
      refine oB_in (fun v6 => ?_)
      refine (e_ic_eq (hf := rfl)).trans ?_
      refine ite_in ?_ ?_
      · refine (evn_adv 2 (q' := (176, [some (.ref 52), u1, u2, some (.int l3), some (.int l4), some (.int (jn 0)), u6], [], M4)) rfl).trans ?_
        rfl
      · refine (evn_adv 1 (q' := (172, [some (.ref 52), u1, u2, some (.int l3), some (.int l4), u5, u6], [.int (jn 0)], M4)) rfl).trans ?_
        exact e_iretz (hf := rfl)
    · rfl
  · rfl
theorem h_156_176 (d : Nat) (u1 : Option Value) (u2 : Option Value) (l3 : Int32) (l4 : Int32) (l5 : Int32) (u6 : Option Value) (M : PM) : E_156 d (176, [some (.ref 52), u1, u2, some (.int l3), some (.int l4), some (.int l5), u6], [], M) = (oB (aldI lay none M 75 l3) fun v1 => (kI (pcl GG lay d 151 [.int v1] M) fun r2 M2 => (if l5 < r2 then (kI (pcl GG lay d 153 [.ref 52, .int l3, .int l5] M2) fun r3 M3 => (kI (pcl GG lay d 153 [.ref 52, .int l4, .int l5] M3) fun r4 M4 => (kI (pcl GG lay d 156 [.ref 52, .int r3, .int r4] M4) fun r5 M5 => (if r5 = jn 0 then (rZ (jn 0) M5) else E_156 d (176, [some (.ref 52), u1, u2, some (.int l3), some (.int l4), some (.int (l5 + (jn 1))), u6], [], M5))))) else (rZ (jn 1) M2)))) := by
  refine (evn_adv 4 (q' := (183, [some (.ref 52), u1, u2, some (.int l3), some (.int l4), some (.int l5), u6], [.int l3, .ref 75, .int l5], M)) rfl).trans ?_
  refine (e_oB (q := (183, [some (.ref 52), u1, u2, some (.int l3), some (.int l4), some (.int l5), u6], [.int l3, .ref 75, .int l5], M)) (o := (aldI lay none M 75 l3)) (f := fun v1 => (184, [some (.ref 52), u1, u2, some (.int l3), some (.int l4), some (.int l5), u6], [.int v1, .int l5], M)) (hf := rfl) rfl).trans ?_
  refine oB_in (fun v1 => ?_)
  refine (e_kI (q := (184, [some (.ref 52), u1, u2, some (.int l3), some (.int l4), some (.int l5), u6], [.int v1, .int l5])) (q2 := (187, [some (.ref 52), u1, u2, some (.int l3), some (.int l4), some (.int l5), u6], [.int l5])) (M := M) (o := (pcl GG lay d 151 [.int v1] M)) (hf := rfl) rfl rfl).trans ?_
  refine kI_in (fun r2 M2 => ?_)
  refine (e_ic_ge (hf := rfl)).trans ?_
  refine ite_in ?_ ?_
  · refine (evn_adv 4 (q' := (195, [some (.ref 52), u1, u2, some (.int l3), some (.int l4), some (.int l5), u6], [.int l5, .int l3, .ref 52, .ref 52], M2)) rfl).trans ?_
    refine (e_kI (q := (195, [some (.ref 52), u1, u2, some (.int l3), some (.int l4), some (.int l5), u6], [.int l5, .int l3, .ref 52, .ref 52])) (q2 := (198, [some (.ref 52), u1, u2, some (.int l3), some (.int l4), some (.int l5), u6], [.ref 52])) (M := M2) (o := (pcl GG lay d 153 [.ref 52, .int l3, .int l5] M2)) (hf := rfl) rfl rfl).trans ?_
    refine kI_in (fun r3 M3 => ?_)
    refine (evn_adv 3 (q' := (203, [some (.ref 52), u1, u2, some (.int l3), some (.int l4), some (.int l5), u6], [.int l5, .int l4, .ref 52, .int r3, .ref 52], M3)) rfl).trans ?_
    refine (e_kI (q := (203, [some (.ref 52), u1, u2, some (.int l3), some (.int l4), some (.int l5), u6], [.int l5, .int l4, .ref 52, .int r3, .ref 52])) (q2 := (206, [some (.ref 52), u1, u2, some (.int l3), some (.int l4), some (.int l5), u6], [.int r3, .ref 52])) (M := M3) (o := (pcl GG lay d 153 [.ref 52, .int l4, .int l5] M3)) (hf := rfl) rfl rfl).trans ?_
    refine kI_in (fun r4 M4 => ?_)
    refine (e_kI (q := (206, [some (.ref 52), u1, u2, some (.int l3), some (.int l4), some (.int l5), u6], [.int r4, .int r3, .ref 52])) (q2 := (209, [some (.ref 52), u1, u2, some (.int l3), some (.int l4), some (.int l5), u6], [])) (M := M4) (o := (pcl GG lay d 156 [.ref 52, .int r3, .int r4] M4)) (hf := rfl) rfl rfl).trans ?_
    refine kI_in (fun r5 M5 => ?_)
    refine (e_if_ne (hf := rfl)).trans ?_
    refine ite_in ?_ ?_
    · refine (evn_adv 1 (q' := (213, [some (.ref 52), u1, u2, some (.int l3), some (.int l4), some (.int l5), u6], [.int (jn 0)], M5)) rfl).trans ?_
      exact e_iretz (hf := rfl)
    · refine (evn_adv 2 (q' := (176, [some (.ref 52), u1, u2, some (.int l3), some (.int l4), some (.int (l5 + (jn 1))), u6], [], M5)) rfl).trans ?_
      rfl
  · refine (evn_adv 1 (q' := (221, [some (.ref 52), u1, u2, some (.int l3), some (.int l4), some (.int l5), u6], [.int (jn 1)], M2)) rfl).trans ?_
    exact e_iretz (hf := rfl)
theorem h_156_81 (d : Nat) (u1 : Option Value) (u2 : Option Value) (l3 : Int32) (l4 : Int32) (u5 : Option Value) (u6 : Option Value) (M : PM) : E_156 d (81, [some (.ref 52), u1, u2, some (.int l3), some (.int l4), u5, u6], [], M) = (oB (aldI lay none M 75 l3) fun v1 => (kI (pcl GG lay d 149 [.int v1] M) fun r2 M2 => (if r2 = jn 0 then (if l4 = l3 then (oB (aldI lay none M2 75 l4) fun v3 => (kI (pcl GG lay d 150 [.int v3] M2) fun r4 M4 => (kI (pcl GG lay d 155 [.ref 52, .int r4, .int l4] M4) fun r5 M5 => (if r5 = jn 0 then (oB (aldI lay none M5 75 l4) fun v6 => (kI (pcl GG lay d 150 [.int v6] M5) fun r7 M7 => (oB (astI lay M7 76 r7 l4) fun M8 => (rZ (jn 1) M8)))) else (rZ (jn 0) M5))))) else (oB (aldI lay none M2 75 l4) fun v3 => (kI (pcl GG lay d 150 [.int v3] M2) fun r4 M4 => (kI (pcl GG lay d 155 [.ref 52, .int r4, .int l3] M4) fun r5 M5 => (if r5 = jn 0 then (oB (aldI lay none M5 75 l4) fun v6 => (kI (pcl GG lay d 150 [.int v6] M5) fun r7 M7 => (oB (astI lay M7 76 r7 l3) fun M8 => (rZ (jn 1) M8)))) else (rZ (jn 0) M5)))))) else (if l3 = l3 then (oB (aldI lay none M2 75 l3) fun v3 => (kI (pcl GG lay d 150 [.int v3] M2) fun r4 M4 => (kI (pcl GG lay d 155 [.ref 52, .int r4, .int l4] M4) fun r5 M5 => (if r5 = jn 0 then (oB (aldI lay none M5 75 l3) fun v6 => (kI (pcl GG lay d 150 [.int v6] M5) fun r7 M7 => (oB (astI lay M7 76 r7 l4) fun M8 => (rZ (jn 1) M8)))) else (rZ (jn 0) M5))))) else (oB (aldI lay none M2 75 l3) fun v3 => (kI (pcl GG lay d 150 [.int v3] M2) fun r4 M4 => (kI (pcl GG lay d 155 [.ref 52, .int r4, .int l3] M4) fun r5 M5 => (if r5 = jn 0 then (oB (aldI lay none M5 75 l3) fun v6 => (kI (pcl GG lay d 150 [.int v6] M5) fun r7 M7 => (oB (astI lay M7 76 r7 l3) fun M8 => (rZ (jn 1) M8)))) else (rZ (jn 0) M5))))))))) := by
  refine (evn_adv 3 (q' := (86, [some (.ref 52), u1, u2, some (.int l3), some (.int l4), u5, u6], [.int l3, .ref 75], M)) rfl).trans ?_
  refine (e_oB (q := (86, [some (.ref 52), u1, u2, some (.int l3), some (.int l4), u5, u6], [.int l3, .ref 75], M)) (o := (aldI lay none M 75 l3)) (f := fun v1 => (87, [some (.ref 52), u1, u2, some (.int l3), some (.int l4), u5, u6], [.int v1], M)) (hf := rfl) rfl).trans ?_
  refine oB_in (fun v1 => ?_)
  refine (e_kI (q := (87, [some (.ref 52), u1, u2, some (.int l3), some (.int l4), u5, u6], [.int v1])) (q2 := (90, [some (.ref 52), u1, u2, some (.int l3), some (.int l4), u5, u6], [])) (M := M) (o := (pcl GG lay d 149 [.int v1] M)) (hf := rfl) rfl rfl).trans ?_
  refine kI_in (fun r2 M2 => ?_)
  refine (e_if_eq (hf := rfl)).trans ?_
  refine ite_in ?_ ?_
  · refine (evn_adv 4 (q' := (104, [some (.ref 52), u1, u2, some (.int l3), some (.int l4), some (.int l4), u6], [.int l3, .int l4], M2)) rfl).trans ?_
    refine (e_ic_ne (hf := rfl)).trans ?_
    refine ite_in ?_ ?_
    · refine (evn_adv 7 (q' := (122, [some (.ref 52), u1, u2, some (.int l3), some (.int l4), some (.int l4), some (.int l4)], [.int l4, .ref 75, .ref 52], M2)) rfl).trans ?_
      refine (e_oB (q := (122, [some (.ref 52), u1, u2, some (.int l3), some (.int l4), some (.int l4), some (.int l4)], [.int l4, .ref 75, .ref 52], M2)) (o := (aldI lay none M2 75 l4)) (f := fun v3 => (123, [some (.ref 52), u1, u2, some (.int l3), some (.int l4), some (.int l4), some (.int l4)], [.int v3, .ref 52], M2)) (hf := rfl) rfl).trans ?_
      refine oB_in (fun v3 => ?_)
      refine (e_kI (q := (123, [some (.ref 52), u1, u2, some (.int l3), some (.int l4), some (.int l4), some (.int l4)], [.int v3, .ref 52])) (q2 := (126, [some (.ref 52), u1, u2, some (.int l3), some (.int l4), some (.int l4), some (.int l4)], [.ref 52])) (M := M2) (o := (pcl GG lay d 150 [.int v3] M2)) (hf := rfl) rfl rfl).trans ?_
      refine kI_in (fun r4 M4 => ?_)
      refine (evn_adv 1 (q' := (128, [some (.ref 52), u1, u2, some (.int l3), some (.int l4), some (.int l4), some (.int l4)], [.int l4, .int r4, .ref 52], M4)) rfl).trans ?_
      refine (e_kI (q := (128, [some (.ref 52), u1, u2, some (.int l3), some (.int l4), some (.int l4), some (.int l4)], [.int l4, .int r4, .ref 52])) (q2 := (131, [some (.ref 52), u1, u2, some (.int l3), some (.int l4), some (.int l4), some (.int l4)], [])) (M := M4) (o := (pcl GG lay d 155 [.ref 52, .int r4, .int l4] M4)) (hf := rfl) rfl rfl).trans ?_
      refine kI_in (fun r5 M5 => ?_)
      refine (e_if_eq (hf := rfl)).trans ?_
      refine ite_in ?_ ?_
      · refine (evn_adv 5 (q' := (146, [some (.ref 52), u1, u2, some (.int l3), some (.int l4), some (.int l4), some (.int l4)], [.int l4, .ref 75, .ref 76], M5)) rfl).trans ?_
        refine (e_oB (q := (146, [some (.ref 52), u1, u2, some (.int l3), some (.int l4), some (.int l4), some (.int l4)], [.int l4, .ref 75, .ref 76], M5)) (o := (aldI lay none M5 75 l4)) (f := fun v6 => (147, [some (.ref 52), u1, u2, some (.int l3), some (.int l4), some (.int l4), some (.int l4)], [.int v6, .ref 76], M5)) (hf := rfl) rfl).trans ?_
        refine oB_in (fun v6 => ?_)
        refine (e_kI (q := (147, [some (.ref 52), u1, u2, some (.int l3), some (.int l4), some (.int l4), some (.int l4)], [.int v6, .ref 76])) (q2 := (150, [some (.ref 52), u1, u2, some (.int l3), some (.int l4), some (.int l4), some (.int l4)], [.ref 76])) (M := M5) (o := (pcl GG lay d 150 [.int v6] M5)) (hf := rfl) rfl rfl).trans ?_
        refine kI_in (fun r7 M7 => ?_)
        refine (evn_adv 1 (q' := (152, [some (.ref 52), u1, u2, some (.int l3), some (.int l4), some (.int l4), some (.int l4)], [.int l4, .int r7, .ref 76], M7)) rfl).trans ?_
        refine (e_oB (q := (152, [some (.ref 52), u1, u2, some (.int l3), some (.int l4), some (.int l4), some (.int l4)], [.int l4, .int r7, .ref 76], M7)) (o := (astI lay M7 76 r7 l4)) (f := fun M8 => (153, [some (.ref 52), u1, u2, some (.int l3), some (.int l4), some (.int l4), some (.int l4)], [], M8)) (hf := rfl) rfl).trans ?_
        refine oB_in (fun M8 => ?_)
        refine (evn_adv 1 (q' := (154, [some (.ref 52), u1, u2, some (.int l3), some (.int l4), some (.int l4), some (.int l4)], [.int (jn 1)], M8)) rfl).trans ?_
        exact e_iretz (hf := rfl)
      · refine (evn_adv 1 (q' := (135, [some (.ref 52), u1, u2, some (.int l3), some (.int l4), some (.int l4), some (.int l4)], [.int (jn 0)], M5)) rfl).trans ?_
        exact e_iretz (hf := rfl)
    · refine (evn_adv 6 (q' := (122, [some (.ref 52), u1, u2, some (.int l3), some (.int l4), some (.int l4), some (.int l3)], [.int l4, .ref 75, .ref 52], M2)) rfl).trans ?_
      refine (e_oB (q := (122, [some (.ref 52), u1, u2, some (.int l3), some (.int l4), some (.int l4), some (.int l3)], [.int l4, .ref 75, .ref 52], M2)) (o := (aldI lay none M2 75 l4)) (f := fun v3 => (123, [some (.ref 52), u1, u2, some (.int l3), some (.int l4), some (.int l4), some (.int l3)], [.int v3, .ref 52], M2)) (hf := rfl) rfl).trans ?_
      refine oB_in (fun v3 => ?_)
      refine (e_kI (q := (123, [some (.ref 52), u1, u2, some (.int l3), some (.int l4), some (.int l4), some (.int l3)], [.int v3, .ref 52])) (q2 := (126, [some (.ref 52), u1, u2, some (.int l3), some (.int l4), some (.int l4), some (.int l3)], [.ref 52])) (M := M2) (o := (pcl GG lay d 150 [.int v3] M2)) (hf := rfl) rfl rfl).trans ?_
      refine kI_in (fun r4 M4 => ?_)
      refine (evn_adv 1 (q' := (128, [some (.ref 52), u1, u2, some (.int l3), some (.int l4), some (.int l4), some (.int l3)], [.int l3, .int r4, .ref 52], M4)) rfl).trans ?_
      refine (e_kI (q := (128, [some (.ref 52), u1, u2, some (.int l3), some (.int l4), some (.int l4), some (.int l3)], [.int l3, .int r4, .ref 52])) (q2 := (131, [some (.ref 52), u1, u2, some (.int l3), some (.int l4), some (.int l4), some (.int l3)], [])) (M := M4) (o := (pcl GG lay d 155 [.ref 52, .int r4, .int l3] M4)) (hf := rfl) rfl rfl).trans ?_
      refine kI_in (fun r5 M5 => ?_)
      refine (e_if_eq (hf := rfl)).trans ?_
      refine ite_in ?_ ?_
      · refine (evn_adv 5 (q' := (146, [some (.ref 52), u1, u2, some (.int l3), some (.int l4), some (.int l4), some (.int l3)], [.int l4, .ref 75, .ref 76], M5)) rfl).trans ?_
        refine (e_oB (q := (146, [some (.ref 52), u1, u2, some (.int l3), some (.int l4), some (.int l4), some (.int l3)], [.int l4, .ref 75, .ref 76], M5)) (o := (aldI lay none M5 75 l4)) (f := fun v6 => (147, [some (.ref 52), u1, u2, some (.int l3), some (.int l4), some (.int l4), some (.int l3)], [.int v6, .ref 76], M5)) (hf := rfl) rfl).trans ?_
        refine oB_in (fun v6 => ?_)
        refine (e_kI (q := (147, [some (.ref 52), u1, u2, some (.int l3), some (.int l4), some (.int l4), some (.int l3)], [.int v6, .ref 76])) (q2 := (150, [some (.ref 52), u1, u2, some (.int l3), some (.int l4), some (.int l4), some (.int l3)], [.ref 76])) (M := M5) (o := (pcl GG lay d 150 [.int v6] M5)) (hf := rfl) rfl rfl).trans ?_
        refine kI_in (fun r7 M7 => ?_)
        refine (evn_adv 1 (q' := (152, [some (.ref 52), u1, u2, some (.int l3), some (.int l4), some (.int l4), some (.int l3)], [.int l3, .int r7, .ref 76], M7)) rfl).trans ?_
        refine (e_oB (q := (152, [some (.ref 52), u1, u2, some (.int l3), some (.int l4), some (.int l4), some (.int l3)], [.int l3, .int r7, .ref 76], M7)) (o := (astI lay M7 76 r7 l3)) (f := fun M8 => (153, [some (.ref 52), u1, u2, some (.int l3), some (.int l4), some (.int l4), some (.int l3)], [], M8)) (hf := rfl) rfl).trans ?_
        refine oB_in (fun M8 => ?_)
        refine (evn_adv 1 (q' := (154, [some (.ref 52), u1, u2, some (.int l3), some (.int l4), some (.int l4), some (.int l3)], [.int (jn 1)], M8)) rfl).trans ?_
        exact e_iretz (hf := rfl)
      · refine (evn_adv 1 (q' := (135, [some (.ref 52), u1, u2, some (.int l3), some (.int l4), some (.int l4), some (.int l3)], [.int (jn 0)], M5)) rfl).trans ?_
        exact e_iretz (hf := rfl)
  · refine (evn_adv 5 (q' := (104, [some (.ref 52), u1, u2, some (.int l3), some (.int l4), some (.int l3), u6], [.int l3, .int l3], M2)) rfl).trans ?_
    refine (e_ic_ne (hf := rfl)).trans ?_
    refine ite_in ?_ ?_
    · refine (evn_adv 7 (q' := (122, [some (.ref 52), u1, u2, some (.int l3), some (.int l4), some (.int l3), some (.int l4)], [.int l3, .ref 75, .ref 52], M2)) rfl).trans ?_
      refine (e_oB (q := (122, [some (.ref 52), u1, u2, some (.int l3), some (.int l4), some (.int l3), some (.int l4)], [.int l3, .ref 75, .ref 52], M2)) (o := (aldI lay none M2 75 l3)) (f := fun v3 => (123, [some (.ref 52), u1, u2, some (.int l3), some (.int l4), some (.int l3), some (.int l4)], [.int v3, .ref 52], M2)) (hf := rfl) rfl).trans ?_
      refine oB_in (fun v3 => ?_)
      refine (e_kI (q := (123, [some (.ref 52), u1, u2, some (.int l3), some (.int l4), some (.int l3), some (.int l4)], [.int v3, .ref 52])) (q2 := (126, [some (.ref 52), u1, u2, some (.int l3), some (.int l4), some (.int l3), some (.int l4)], [.ref 52])) (M := M2) (o := (pcl GG lay d 150 [.int v3] M2)) (hf := rfl) rfl rfl).trans ?_
      refine kI_in (fun r4 M4 => ?_)
      refine (evn_adv 1 (q' := (128, [some (.ref 52), u1, u2, some (.int l3), some (.int l4), some (.int l3), some (.int l4)], [.int l4, .int r4, .ref 52], M4)) rfl).trans ?_
      refine (e_kI (q := (128, [some (.ref 52), u1, u2, some (.int l3), some (.int l4), some (.int l3), some (.int l4)], [.int l4, .int r4, .ref 52])) (q2 := (131, [some (.ref 52), u1, u2, some (.int l3), some (.int l4), some (.int l3), some (.int l4)], [])) (M := M4) (o := (pcl GG lay d 155 [.ref 52, .int r4, .int l4] M4)) (hf := rfl) rfl rfl).trans ?_
      refine kI_in (fun r5 M5 => ?_)
      refine (e_if_eq (hf := rfl)).trans ?_
      refine ite_in ?_ ?_
      · refine (evn_adv 5 (q' := (146, [some (.ref 52), u1, u2, some (.int l3), some (.int l4), some (.int l3), some (.int l4)], [.int l3, .ref 75, .ref 76], M5)) rfl).trans ?_
        refine (e_oB (q := (146, [some (.ref 52), u1, u2, some (.int l3), some (.int l4), some (.int l3), some (.int l4)], [.int l3, .ref 75, .ref 76], M5)) (o := (aldI lay none M5 75 l3)) (f := fun v6 => (147, [some (.ref 52), u1, u2, some (.int l3), some (.int l4), some (.int l3), some (.int l4)], [.int v6, .ref 76], M5)) (hf := rfl) rfl).trans ?_
        refine oB_in (fun v6 => ?_)
        refine (e_kI (q := (147, [some (.ref 52), u1, u2, some (.int l3), some (.int l4), some (.int l3), some (.int l4)], [.int v6, .ref 76])) (q2 := (150, [some (.ref 52), u1, u2, some (.int l3), some (.int l4), some (.int l3), some (.int l4)], [.ref 76])) (M := M5) (o := (pcl GG lay d 150 [.int v6] M5)) (hf := rfl) rfl rfl).trans ?_
        refine kI_in (fun r7 M7 => ?_)
        refine (evn_adv 1 (q' := (152, [some (.ref 52), u1, u2, some (.int l3), some (.int l4), some (.int l3), some (.int l4)], [.int l4, .int r7, .ref 76], M7)) rfl).trans ?_
        refine (e_oB (q := (152, [some (.ref 52), u1, u2, some (.int l3), some (.int l4), some (.int l3), some (.int l4)], [.int l4, .int r7, .ref 76], M7)) (o := (astI lay M7 76 r7 l4)) (f := fun M8 => (153, [some (.ref 52), u1, u2, some (.int l3), some (.int l4), some (.int l3), some (.int l4)], [], M8)) (hf := rfl) rfl).trans ?_
        refine oB_in (fun M8 => ?_)
        refine (evn_adv 1 (q' := (154, [some (.ref 52), u1, u2, some (.int l3), some (.int l4), some (.int l3), some (.int l4)], [.int (jn 1)], M8)) rfl).trans ?_
        exact e_iretz (hf := rfl)
      · refine (evn_adv 1 (q' := (135, [some (.ref 52), u1, u2, some (.int l3), some (.int l4), some (.int l3), some (.int l4)], [.int (jn 0)], M5)) rfl).trans ?_
        exact e_iretz (hf := rfl)
    · refine (evn_adv 6 (q' := (122, [some (.ref 52), u1, u2, some (.int l3), some (.int l4), some (.int l3), some (.int l3)], [.int l3, .ref 75, .ref 52], M2)) rfl).trans ?_
      refine (e_oB (q := (122, [some (.ref 52), u1, u2, some (.int l3), some (.int l4), some (.int l3), some (.int l3)], [.int l3, .ref 75, .ref 52], M2)) (o := (aldI lay none M2 75 l3)) (f := fun v3 => (123, [some (.ref 52), u1, u2, some (.int l3), some (.int l4), some (.int l3), some (.int l3)], [.int v3, .ref 52], M2)) (hf := rfl) rfl).trans ?_
      refine oB_in (fun v3 => ?_)
      refine (e_kI (q := (123, [some (.ref 52), u1, u2, some (.int l3), some (.int l4), some (.int l3), some (.int l3)], [.int v3, .ref 52])) (q2 := (126, [some (.ref 52), u1, u2, some (.int l3), some (.int l4), some (.int l3), some (.int l3)], [.ref 52])) (M := M2) (o := (pcl GG lay d 150 [.int v3] M2)) (hf := rfl) rfl rfl).trans ?_
      refine kI_in (fun r4 M4 => ?_)
      refine (evn_adv 1 (q' := (128, [some (.ref 52), u1, u2, some (.int l3), some (.int l4), some (.int l3), some (.int l3)], [.int l3, .int r4, .ref 52], M4)) rfl).trans ?_
      refine (e_kI (q := (128, [some (.ref 52), u1, u2, some (.int l3), some (.int l4), some (.int l3), some (.int l3)], [.int l3, .int r4, .ref 52])) (q2 := (131, [some (.ref 52), u1, u2, some (.int l3), some (.int l4), some (.int l3), some (.int l3)], [])) (M := M4) (o := (pcl GG lay d 155 [.ref 52, .int r4, .int l3] M4)) (hf := rfl) rfl rfl).trans ?_
      refine kI_in (fun r5 M5 => ?_)
      refine (e_if_eq (hf := rfl)).trans ?_
      refine ite_in ?_ ?_
      · refine (evn_adv 5 (q' := (146, [some (.ref 52), u1, u2, some (.int l3), some (.int l4), some (.int l3), some (.int l3)], [.int l3, .ref 75, .ref 76], M5)) rfl).trans ?_
        refine (e_oB (q := (146, [some (.ref 52), u1, u2, some (.int l3), some (.int l4), some (.int l3), some (.int l3)], [.int l3, .ref 75, .ref 76], M5)) (o := (aldI lay none M5 75 l3)) (f := fun v6 => (147, [some (.ref 52), u1, u2, some (.int l3), some (.int l4), some (.int l3), some (.int l3)], [.int v6, .ref 76], M5)) (hf := rfl) rfl).trans ?_
        refine oB_in (fun v6 => ?_)
        refine (e_kI (q := (147, [some (.ref 52), u1, u2, some (.int l3), some (.int l4), some (.int l3), some (.int l3)], [.int v6, .ref 76])) (q2 := (150, [some (.ref 52), u1, u2, some (.int l3), some (.int l4), some (.int l3), some (.int l3)], [.ref 76])) (M := M5) (o := (pcl GG lay d 150 [.int v6] M5)) (hf := rfl) rfl rfl).trans ?_
        refine kI_in (fun r7 M7 => ?_)
        refine (evn_adv 1 (q' := (152, [some (.ref 52), u1, u2, some (.int l3), some (.int l4), some (.int l3), some (.int l3)], [.int l3, .int r7, .ref 76], M7)) rfl).trans ?_
        refine (e_oB (q := (152, [some (.ref 52), u1, u2, some (.int l3), some (.int l4), some (.int l3), some (.int l3)], [.int l3, .int r7, .ref 76], M7)) (o := (astI lay M7 76 r7 l3)) (f := fun M8 => (153, [some (.ref 52), u1, u2, some (.int l3), some (.int l4), some (.int l3), some (.int l3)], [], M8)) (hf := rfl) rfl).trans ?_
        refine oB_in (fun M8 => ?_)
        refine (evn_adv 1 (q' := (154, [some (.ref 52), u1, u2, some (.int l3), some (.int l4), some (.int l3), some (.int l3)], [.int (jn 1)], M8)) rfl).trans ?_
        exact e_iretz (hf := rfl)
      · refine (evn_adv 1 (q' := (135, [some (.ref 52), u1, u2, some (.int l3), some (.int l4), some (.int l3), some (.int l3)], [.int (jn 0)], M5)) rfl).trans ?_
        exact e_iretz (hf := rfl)
/-- TermStrategiesModel.pools(I[IIIZ)V -/
noncomputable abbrev E_157 (d : Nat) : PQ → PO := evn (rnn k_157 lay none (pcl GG lay d) 0)
theorem q_157 (d : Nat) (l1 : Int32) (l2 : Nat) (l3 : Int32) (l4 : Int32) (l5 : Int32) (M : PM) : pcl GG lay (d + 1) 157 [.ref 52, .int l1, .ref l2, .int l3, .int l4, .int l5] M = E_157 d (3, [some (.ref 52), some (.int l1), some (.ref l2), some (.int l3), some (.int l4), some (.int l5), some (.int (jn 0))], [], M) := by
  refine (pcl_un (mt := t_157) (by decide) rfl (Nat.le_of_ble_eq_true rfl)).trans ?_
  show E_157 d (0, [some (.ref 52), some (.int l1), some (.ref l2), some (.int l3), some (.int l4), some (.int l5), none], [], M) = _
  refine (evn_adv 2 (q' := (3, [some (.ref 52), some (.int l1), some (.ref l2), some (.int l3), some (.int l4), some (.int l5), some (.int (jn 0))], [], M)) rfl).trans ?_
  rfl
theorem h_157_3 (d : Nat) (l1 : Int32) (l2 : Nat) (l3 : Int32) (l4 : Int32) (l5 : Int32) (l6 : Int32) (M : PM) : E_157 d (3, [some (.ref 52), some (.int l1), some (.ref l2), some (.int l3), some (.int l4), some (.int l5), some (.int l6)], [], M) = (if l6 < l4 then (oB (aldI lay none M l2 (l3 + l6)) fun v1 => (if l5 = jn 0 then (oB (astI lay M 75 (l1 + l6) (v1 - (jn 0))) fun M2 => E_157 d (3, [some (.ref 52), some (.int l1), some (.ref l2), some (.int l3), some (.int l4), some (.int l5), some (.int (l6 + (jn 1)))], [], M2)) else (oB (aldI lay none M l2 (l3 + l6)) fun v2 => (kI (pcl GG lay d 76 [.int v2] M) fun r3 M3 => (if r3 = jn 0 then (oB (astI lay M3 75 (l1 + l6) (v1 - (jn 0))) fun M4 => E_157 d (3, [some (.ref 52), some (.int l1), some (.ref l2), some (.int l3), some (.int l4), some (.int l5), some (.int (l6 + (jn 1)))], [], M4)) else (oB (astI lay M3 75 (l1 + l6) (v1 - (jn 32))) fun M4 => E_157 d (3, [some (.ref 52), some (.int l1), some (.ref l2), some (.int l3), some (.int l4), some (.int l5), some (.int (l6 + (jn 1)))], [], M4))))))) else (rV M)) := by
  refine (evn_adv 2 (q' := (7, [some (.ref 52), some (.int l1), some (.ref l2), some (.int l3), some (.int l4), some (.int l5), some (.int l6)], [.int l4, .int l6], M)) rfl).trans ?_
  refine (e_ic_ge (hf := rfl)).trans ?_
  refine ite_in ?_ ?_
  · refine (evn_adv 9 (q' := (23, [some (.ref 52), some (.int l1), some (.ref l2), some (.int l3), some (.int l4), some (.int l5), some (.int l6)], [.int (l3 + l6), .ref l2, .int (l1 + l6), .ref 75], M)) rfl).trans ?_
    refine (e_oB (q := (23, [some (.ref 52), some (.int l1), some (.ref l2), some (.int l3), some (.int l4), some (.int l5), some (.int l6)], [.int (l3 + l6), .ref l2, .int (l1 + l6), .ref 75], M)) (o := (aldI lay none M l2 (l3 + l6))) (f := fun v1 => (24, [some (.ref 52), some (.int l1), some (.ref l2), some (.int l3), some (.int l4), some (.int l5), some (.int l6)], [.int v1, .int (l1 + l6), .ref 75], M)) (hf := rfl) rfl).trans ?_
    refine oB_in (fun v1 => ?_)
    refine (evn_adv 1 (q' := (26, [some (.ref 52), some (.int l1), some (.ref l2), some (.int l3), some (.int l4), some (.int l5), some (.int l6)], [.int l5, .int v1, .int (l1 + l6), .ref 75], M)) rfl).trans ?_
    refine (e_if_eq (hf := rfl)).trans ?_
    refine ite_in ?_ ?_
    · refine (evn_adv 2 (q' := (48, [some (.ref 52), some (.int l1), some (.ref l2), some (.int l3), some (.int l4), some (.int l5), some (.int l6)], [.int (v1 - (jn 0)), .int (l1 + l6), .ref 75], M)) rfl).trans ?_
      refine (e_oB (q := (48, [some (.ref 52), some (.int l1), some (.ref l2), some (.int l3), some (.int l4), some (.int l5), some (.int l6)], [.int (v1 - (jn 0)), .int (l1 + l6), .ref 75], M)) (o := (astI lay M 75 (l1 + l6) (v1 - (jn 0)))) (f := fun M2 => (49, [some (.ref 52), some (.int l1), some (.ref l2), some (.int l3), some (.int l4), some (.int l5), some (.int l6)], [], M2)) (hf := rfl) rfl).trans ?_
      refine oB_in (fun M2 => ?_)
      refine (evn_adv 2 (q' := (3, [some (.ref 52), some (.int l1), some (.ref l2), some (.int l3), some (.int l4), some (.int l5), some (.int (l6 + (jn 1)))], [], M2)) rfl).trans ?_
      rfl
    · refine (evn_adv 4 (q' := (34, [some (.ref 52), some (.int l1), some (.ref l2), some (.int l3), some (.int l4), some (.int l5), some (.int l6)], [.int (l3 + l6), .ref l2, .int v1, .int (l1 + l6), .ref 75], M)) rfl).trans ?_
      refine (e_oB (q := (34, [some (.ref 52), some (.int l1), some (.ref l2), some (.int l3), some (.int l4), some (.int l5), some (.int l6)], [.int (l3 + l6), .ref l2, .int v1, .int (l1 + l6), .ref 75], M)) (o := (aldI lay none M l2 (l3 + l6))) (f := fun v2 => (35, [some (.ref 52), some (.int l1), some (.ref l2), some (.int l3), some (.int l4), some (.int l5), some (.int l6)], [.int v2, .int v1, .int (l1 + l6), .ref 75], M)) (hf := rfl) rfl).trans ?_
      refine oB_in (fun v2 => ?_)
      refine (e_kI (q := (35, [some (.ref 52), some (.int l1), some (.ref l2), some (.int l3), some (.int l4), some (.int l5), some (.int l6)], [.int v2, .int v1, .int (l1 + l6), .ref 75])) (q2 := (38, [some (.ref 52), some (.int l1), some (.ref l2), some (.int l3), some (.int l4), some (.int l5), some (.int l6)], [.int v1, .int (l1 + l6), .ref 75])) (M := M) (o := (pcl GG lay d 76 [.int v2] M)) (hf := rfl) rfl rfl).trans ?_
      refine kI_in (fun r3 M3 => ?_)
      refine (e_if_eq (hf := rfl)).trans ?_
      refine ite_in ?_ ?_
      · refine (evn_adv 2 (q' := (48, [some (.ref 52), some (.int l1), some (.ref l2), some (.int l3), some (.int l4), some (.int l5), some (.int l6)], [.int (v1 - (jn 0)), .int (l1 + l6), .ref 75], M3)) rfl).trans ?_
        refine (e_oB (q := (48, [some (.ref 52), some (.int l1), some (.ref l2), some (.int l3), some (.int l4), some (.int l5), some (.int l6)], [.int (v1 - (jn 0)), .int (l1 + l6), .ref 75], M3)) (o := (astI lay M3 75 (l1 + l6) (v1 - (jn 0)))) (f := fun M4 => (49, [some (.ref 52), some (.int l1), some (.ref l2), some (.int l3), some (.int l4), some (.int l5), some (.int l6)], [], M4)) (hf := rfl) rfl).trans ?_
        refine oB_in (fun M4 => ?_)
        refine (evn_adv 2 (q' := (3, [some (.ref 52), some (.int l1), some (.ref l2), some (.int l3), some (.int l4), some (.int l5), some (.int (l6 + (jn 1)))], [], M4)) rfl).trans ?_
        rfl
      · refine (evn_adv 3 (q' := (48, [some (.ref 52), some (.int l1), some (.ref l2), some (.int l3), some (.int l4), some (.int l5), some (.int l6)], [.int (v1 - (jn 32)), .int (l1 + l6), .ref 75], M3)) rfl).trans ?_
        refine (e_oB (q := (48, [some (.ref 52), some (.int l1), some (.ref l2), some (.int l3), some (.int l4), some (.int l5), some (.int l6)], [.int (v1 - (jn 32)), .int (l1 + l6), .ref 75], M3)) (o := (astI lay M3 75 (l1 + l6) (v1 - (jn 32)))) (f := fun M4 => (49, [some (.ref 52), some (.int l1), some (.ref l2), some (.int l3), some (.int l4), some (.int l5), some (.int l6)], [], M4)) (hf := rfl) rfl).trans ?_
        refine oB_in (fun M4 => ?_)
        refine (evn_adv 2 (q' := (3, [some (.ref 52), some (.int l1), some (.ref l2), some (.int l3), some (.int l4), some (.int l5), some (.int (l6 + (jn 1)))], [], M4)) rfl).trans ?_
        rfl
  · exact evn_end 1 rfl
/-- TermStrategiesModel.unbinds()V -/
noncomputable abbrev E_158 (d : Nat) : PQ → PO := evn (rnn k_158 lay none (pcl GG lay d) 0)
theorem q_158 (d : Nat)  (M : PM) : pcl GG lay (d + 1) 158 [.ref 52] M = E_158 d (2, [some (.ref 52), some (.int (jn 0))], [], M) := by
  refine (pcl_un (mt := t_158) (by decide) rfl (Nat.le_of_ble_eq_true rfl)).trans ?_
  show E_158 d (0, [some (.ref 52), none], [], M) = _
  refine (evn_adv 2 (q' := (2, [some (.ref 52), some (.int (jn 0))], [], M)) rfl).trans ?_
  rfl
theorem h_158_2 (d : Nat) (l1 : Int32) (M : PM) : E_158 d (2, [some (.ref 52), some (.int l1)], [], M) = (if l1 < (jn 12) then (oB (astI lay M 76 l1 (jz 1)) fun M1 => (oB (astI lay M1 77 l1 (jz 1)) fun M2 => E_158 d (2, [some (.ref 52), some (.int (l1 + (jn 1)))], [], M2))) else (wr (sI M 52 (va_up (M.1 52) 41 (jn 0))) fun M1 => (rV M1))) := by
  refine (evn_adv 2 (q' := (5, [some (.ref 52), some (.int l1)], [.int (jn 12), .int l1], M)) rfl).trans ?_
  refine (e_ic_ge (hf := rfl)).trans ?_
  refine ite_in ?_ ?_
  · refine (evn_adv 4 (q' := (14, [some (.ref 52), some (.int l1)], [.int (jz 1), .int l1, .ref 76], M)) rfl).trans ?_
    refine (e_oB (q := (14, [some (.ref 52), some (.int l1)], [.int (jz 1), .int l1, .ref 76], M)) (o := (astI lay M 76 l1 (jz 1))) (f := fun M1 => (15, [some (.ref 52), some (.int l1)], [], M1)) (hf := rfl) rfl).trans ?_
    refine oB_in (fun M1 => ?_)
    refine (evn_adv 4 (q' := (21, [some (.ref 52), some (.int l1)], [.int (jz 1), .int l1, .ref 77], M1)) rfl).trans ?_
    refine (e_oB (q := (21, [some (.ref 52), some (.int l1)], [.int (jz 1), .int l1, .ref 77], M1)) (o := (astI lay M1 77 l1 (jz 1))) (f := fun M2 => (22, [some (.ref 52), some (.int l1)], [], M2)) (hf := rfl) rfl).trans ?_
    refine oB_in (fun M2 => ?_)
    refine (evn_adv 2 (q' := (2, [some (.ref 52), some (.int (l1 + (jn 1)))], [], M2)) rfl).trans ?_
    rfl
  · refine (evn_adv 2 (q' := (30, [some (.ref 52), some (.int l1)], [.int (jn 0), .ref 52], M)) rfl).trans ?_
    refine (evn_adv 1 (q' := (33, [some (.ref 52), some (.int l1)], [], (sI M 52 (va_up (M.1 52) 41 (jn 0))))) rfl).trans ?_
    refine wr_in (f := fun M1 => E_158 d (33, [some (.ref 52), some (.int l1)], [], M1)) (fun M1 => ?_)
    exact evn_end 1 rfl
/-- TermStrategiesModel.puts([III)I -/
noncomputable abbrev E_159 (d : Nat) : PQ → PO := evn (rnn k_159 lay none (pcl GG lay d) 1)
theorem q_159 (d : Nat) (l1 : Nat) (l2 : Int32) (l3 : Int32) (M : PM) : pcl GG lay (d + 1) 159 [.ref 52, .ref l1, .int l2, .int l3] M = (if (jn 40) < l2 then (rI l2 M) else (kI (pcl GG lay d 154 [.ref 52, .int l3] M) fun r1 M1 => (oB (aldI lay none M1 75 r1) fun v2 => (kI (pcl GG lay d 149 [.int v2] M1) fun r3 M3 => (if r3 = jn 0 then (oB (aldI lay none M3 75 r1) fun v4 => (oB (astI lay M3 l1 l2 v4) fun M5 => E_159 d (104, [some (.ref 52), some (.ref l1), some (.int l2), some (.int l3), some (.int r1), some (.int (l2 + (jn 1))), some (.int (jn 0))], [], M5))) else (oB (aldI lay none M3 75 r1) fun v4 => (kI (pcl GG lay d 150 [.int v4] M3) fun r5 M5 => (oB (aldI lay none M5 77 r5) fun v6 => (if v6 = (jz 1) then (wr (sI M5 52 (va_up (M5.1 52) 41 ((M5.1 52 41) + (jn 1)))) fun M7 => (oB (astI lay M7 77 r5 (M5.1 52 41)) fun M8 => (oB (aldI lay none M8 77 r5) fun v9 => (oB (astI lay M8 l1 l2 ((jn 117) + v9)) fun M10 => (rI (l2 + (jn 1)) M10))))) else (oB (aldI lay none M5 77 r5) fun v7 => (oB (astI lay M5 l1 l2 ((jn 117) + v7)) fun M8 => (rI (l2 + (jn 1)) M8)))))))))))) := by
  refine (pcl_un (mt := t_159) (by decide) rfl (Nat.le_of_ble_eq_true rfl)).trans ?_
  show E_159 d (0, [some (.ref 52), some (.ref l1), some (.int l2), some (.int l3), none, none, none], [], M) = _
  refine (evn_adv 2 (q' := (3, [some (.ref 52), some (.ref l1), some (.int l2), some (.int l3), none, none, none], [.int (jn 40), .int l2], M)) rfl).trans ?_
  refine (e_ic_le (hf := rfl)).trans ?_
  refine ite_in ?_ ?_
  · refine (evn_adv 1 (q' := (7, [some (.ref 52), some (.ref l1), some (.int l2), some (.int l3), none, none, none], [.int l2], M)) rfl).trans ?_
    exact evn_end 1 rfl
  · refine (evn_adv 2 (q' := (10, [some (.ref 52), some (.ref l1), some (.int l2), some (.int l3), none, none, none], [.int l3, .ref 52], M)) rfl).trans ?_
    refine (e_kI (q := (10, [some (.ref 52), some (.ref l1), some (.int l2), some (.int l3), none, none, none], [.int l3, .ref 52])) (q2 := (13, [some (.ref 52), some (.ref l1), some (.int l2), some (.int l3), none, none, none], [])) (M := M) (o := (pcl GG lay d 154 [.ref 52, .int l3] M)) (hf := rfl) rfl rfl).trans ?_
    refine kI_in (fun r1 M1 => ?_)
    refine (evn_adv 4 (q' := (21, [some (.ref 52), some (.ref l1), some (.int l2), some (.int l3), some (.int r1), none, none], [.int r1, .ref 75], M1)) rfl).trans ?_
    refine (e_oB (q := (21, [some (.ref 52), some (.ref l1), some (.int l2), some (.int l3), some (.int r1), none, none], [.int r1, .ref 75], M1)) (o := (aldI lay none M1 75 r1)) (f := fun v2 => (22, [some (.ref 52), some (.ref l1), some (.int l2), some (.int l3), some (.int r1), none, none], [.int v2], M1)) (hf := rfl) rfl).trans ?_
    refine oB_in (fun v2 => ?_)
    refine (e_kI (q := (22, [some (.ref 52), some (.ref l1), some (.int l2), some (.int l3), some (.int r1), none, none], [.int v2])) (q2 := (25, [some (.ref 52), some (.ref l1), some (.int l2), some (.int l3), some (.int r1), none, none], [])) (M := M1) (o := (pcl GG lay d 149 [.int v2] M1)) (hf := rfl) rfl rfl).trans ?_
    refine kI_in (fun r3 M3 => ?_)
    refine (e_if_eq (hf := rfl)).trans ?_
    refine ite_in ?_ ?_
    · refine (evn_adv 5 (q' := (94, [some (.ref 52), some (.ref l1), some (.int l2), some (.int l3), some (.int r1), none, none], [.int r1, .ref 75, .int l2, .ref l1], M3)) rfl).trans ?_
      refine (e_oB (q := (94, [some (.ref 52), some (.ref l1), some (.int l2), some (.int l3), some (.int r1), none, none], [.int r1, .ref 75, .int l2, .ref l1], M3)) (o := (aldI lay none M3 75 r1)) (f := fun v4 => (95, [some (.ref 52), some (.ref l1), some (.int l2), some (.int l3), some (.int r1), none, none], [.int v4, .int l2, .ref l1], M3)) (hf := rfl) rfl).trans ?_
      refine oB_in (fun v4 => ?_)
      refine (e_oB (q := (95, [some (.ref 52), some (.ref l1), some (.int l2), some (.int l3), some (.int r1), none, none], [.int v4, .int l2, .ref l1], M3)) (o := (astI lay M3 l1 l2 v4)) (f := fun M5 => (96, [some (.ref 52), some (.ref l1), some (.int l2), some (.int l3), some (.int r1), none, none], [], M5)) (hf := rfl) rfl).trans ?_
      refine oB_in (fun M5 => ?_)
      refine (evn_adv 6 (q' := (104, [some (.ref 52), some (.ref l1), some (.int l2), some (.int l3), some (.int r1), some (.int (l2 + (jn 1))), some (.int (jn 0))], [], M5)) rfl).trans ?_
      rfl
    · refine (evn_adv 3 (q' := (34, [some (.ref 52), some (.ref l1), some (.int l2), some (.int l3), some (.int r1), none, none], [.int r1, .ref 75], M3)) rfl).trans ?_
      refine (e_oB (q := (34, [some (.ref 52), some (.ref l1), some (.int l2), some (.int l3), some (.int r1), none, none], [.int r1, .ref 75], M3)) (o := (aldI lay none M3 75 r1)) (f := fun v4 => (35, [some (.ref 52), some (.ref l1), some (.int l2), some (.int l3), some (.int r1), none, none], [.int v4], M3)) (hf := rfl) rfl).trans ?_
      refine oB_in (fun v4 => ?_)
      refine (e_kI (q := (35, [some (.ref 52), some (.ref l1), some (.int l2), some (.int l3), some (.int r1), none, none], [.int v4])) (q2 := (38, [some (.ref 52), some (.ref l1), some (.int l2), some (.int l3), some (.int r1), none, none], [])) (M := M3) (o := (pcl GG lay d 150 [.int v4] M3)) (hf := rfl) rfl rfl).trans ?_
      refine kI_in (fun r5 M5 => ?_)
      refine (evn_adv 4 (q' := (46, [some (.ref 52), some (.ref l1), some (.int l2), some (.int l3), some (.int r1), some (.int r5), none], [.int r5, .ref 77], M5)) rfl).trans ?_
      refine (e_oB (q := (46, [some (.ref 52), some (.ref l1), some (.int l2), some (.int l3), some (.int r1), some (.int r5), none], [.int r5, .ref 77], M5)) (o := (aldI lay none M5 77 r5)) (f := fun v6 => (47, [some (.ref 52), some (.ref l1), some (.int l2), some (.int l3), some (.int r1), some (.int r5), none], [.int v6], M5)) (hf := rfl) rfl).trans ?_
      refine oB_in (fun v6 => ?_)
      refine (evn_adv 1 (q' := (48, [some (.ref 52), some (.ref l1), some (.int l2), some (.int l3), some (.int r1), some (.int r5), none], [.int (jz 1), .int v6], M5)) rfl).trans ?_
      refine (e_ic_ne (hf := rfl)).trans ?_
      refine ite_in ?_ ?_
      · refine (evn_adv 9 (q' := (65, [some (.ref 52), some (.ref l1), some (.int l2), some (.int l3), some (.int r1), some (.int r5), none], [.int ((M5.1 52 41) + (jn 1)), .ref 52, .int (M5.1 52 41), .int r5, .ref 77], M5)) rfl).trans ?_
        refine (evn_adv 1 (q' := (68, [some (.ref 52), some (.ref l1), some (.int l2), some (.int l3), some (.int r1), some (.int r5), none], [.int (M5.1 52 41), .int r5, .ref 77], (sI M5 52 (va_up (M5.1 52) 41 ((M5.1 52 41) + (jn 1)))))) rfl).trans ?_
        refine wr_in (f := fun M7 => E_159 d (68, [some (.ref 52), some (.ref l1), some (.int l2), some (.int l3), some (.int r1), some (.int r5), none], [.int (M5.1 52 41), .int r5, .ref 77], M7)) (fun M7 => ?_)
        refine (e_oB (q := (68, [some (.ref 52), some (.ref l1), some (.int l2), some (.int l3), some (.int r1), some (.int r5), none], [.int (M5.1 52 41), .int r5, .ref 77], M7)) (o := (astI lay M7 77 r5 (M5.1 52 41))) (f := fun M8 => (69, [some (.ref 52), some (.ref l1), some (.int l2), some (.int l3), some (.int r1), some (.int r5), none], [], M8)) (hf := rfl) rfl).trans ?_
        refine oB_in (fun M8 => ?_)
        refine (evn_adv 6 (q' := (79, [some (.ref 52), some (.ref l1), some (.int l2), some (.int l3), some (.int r1), some (.int r5), none], [.int r5, .ref 77, .int (jn 117), .int l2, .ref l1], M8)) rfl).trans ?_
        refine (e_oB (q := (79, [some (.ref 52), some (.ref l1), some (.int l2), some (.int l3), some (.int r1), some (.int r5), none], [.int r5, .ref 77, .int (jn 117), .int l2, .ref l1], M8)) (o := (aldI lay none M8 77 r5)) (f := fun v9 => (80, [some (.ref 52), some (.ref l1), some (.int l2), some (.int l3), some (.int r1), some (.int r5), none], [.int v9, .int (jn 117), .int l2, .ref l1], M8)) (hf := rfl) rfl).trans ?_
        refine oB_in (fun v9 => ?_)
        refine (evn_adv 1 (q' := (81, [some (.ref 52), some (.ref l1), some (.int l2), some (.int l3), some (.int r1), some (.int r5), none], [.int ((jn 117) + v9), .int l2, .ref l1], M8)) rfl).trans ?_
        refine (e_oB (q := (81, [some (.ref 52), some (.ref l1), some (.int l2), some (.int l3), some (.int r1), some (.int r5), none], [.int ((jn 117) + v9), .int l2, .ref l1], M8)) (o := (astI lay M8 l1 l2 ((jn 117) + v9))) (f := fun M10 => (82, [some (.ref 52), some (.ref l1), some (.int l2), some (.int l3), some (.int r1), some (.int r5), none], [], M10)) (hf := rfl) rfl).trans ?_
        refine oB_in (fun M10 => ?_)
        refine (evn_adv 3 (q' := (85, [some (.ref 52), some (.ref l1), some (.int l2), some (.int l3), some (.int r1), some (.int r5), none], [.int (l2 + (jn 1))], M10)) rfl).trans ?_
        exact evn_end 1 rfl
      · refine (evn_adv 6 (q' := (79, [some (.ref 52), some (.ref l1), some (.int l2), some (.int l3), some (.int r1), some (.int r5), none], [.int r5, .ref 77, .int (jn 117), .int l2, .ref l1], M5)) rfl).trans ?_
        refine (e_oB (q := (79, [some (.ref 52), some (.ref l1), some (.int l2), some (.int l3), some (.int r1), some (.int r5), none], [.int r5, .ref 77, .int (jn 117), .int l2, .ref l1], M5)) (o := (aldI lay none M5 77 r5)) (f := fun v7 => (80, [some (.ref 52), some (.ref l1), some (.int l2), some (.int l3), some (.int r1), some (.int r5), none], [.int v7, .int (jn 117), .int l2, .ref l1], M5)) (hf := rfl) rfl).trans ?_
        refine oB_in (fun v7 => ?_)
        refine (evn_adv 1 (q' := (81, [some (.ref 52), some (.ref l1), some (.int l2), some (.int l3), some (.int r1), some (.int r5), none], [.int ((jn 117) + v7), .int l2, .ref l1], M5)) rfl).trans ?_
        refine (e_oB (q := (81, [some (.ref 52), some (.ref l1), some (.int l2), some (.int l3), some (.int r1), some (.int r5), none], [.int ((jn 117) + v7), .int l2, .ref l1], M5)) (o := (astI lay M5 l1 l2 ((jn 117) + v7))) (f := fun M8 => (82, [some (.ref 52), some (.ref l1), some (.int l2), some (.int l3), some (.int r1), some (.int r5), none], [], M8)) (hf := rfl) rfl).trans ?_
        refine oB_in (fun M8 => ?_)
        refine (evn_adv 3 (q' := (85, [some (.ref 52), some (.ref l1), some (.int l2), some (.int l3), some (.int r1), some (.int r5), none], [.int (l2 + (jn 1))], M8)) rfl).trans ?_
        exact evn_end 1 rfl
theorem h_159_104 (d : Nat) (l1 : Nat) (u2 : Option Value) (u3 : Option Value) (l4 : Int32) (l5 : Int32) (l6 : Int32) (M : PM) : E_159 d (104, [some (.ref 52), some (.ref l1), u2, u3, some (.int l4), some (.int l5), some (.int l6)], [], M) = (oB (aldI lay none M 75 l4) fun v1 => (kI (pcl GG lay d 151 [.int v1] M) fun r2 M2 => (if l6 < r2 then (if (jn 40) < l5 then (rI l5 M2) else (kI (pcl GG lay d 153 [.ref 52, .int l4, .int l6] M2) fun r3 M3 => (kI (pcl GG lay d 159 [.ref 52, .ref l1, .int l5, .int r3] M3) fun r4 M4 => E_159 d (104, [some (.ref 52), some (.ref l1), u2, u3, some (.int l4), some (.int r4), some (.int (l6 + (jn 1)))], [], M4)))) else (rI l5 M2)))) := by
  refine (evn_adv 4 (q' := (112, [some (.ref 52), some (.ref l1), u2, u3, some (.int l4), some (.int l5), some (.int l6)], [.int l4, .ref 75, .int l6], M)) rfl).trans ?_
  refine (e_oB (q := (112, [some (.ref 52), some (.ref l1), u2, u3, some (.int l4), some (.int l5), some (.int l6)], [.int l4, .ref 75, .int l6], M)) (o := (aldI lay none M 75 l4)) (f := fun v1 => (113, [some (.ref 52), some (.ref l1), u2, u3, some (.int l4), some (.int l5), some (.int l6)], [.int v1, .int l6], M)) (hf := rfl) rfl).trans ?_
  refine oB_in (fun v1 => ?_)
  refine (e_kI (q := (113, [some (.ref 52), some (.ref l1), u2, u3, some (.int l4), some (.int l5), some (.int l6)], [.int v1, .int l6])) (q2 := (116, [some (.ref 52), some (.ref l1), u2, u3, some (.int l4), some (.int l5), some (.int l6)], [.int l6])) (M := M) (o := (pcl GG lay d 151 [.int v1] M)) (hf := rfl) rfl rfl).trans ?_
  refine kI_in (fun r2 M2 => ?_)
  refine (e_ic_ge (hf := rfl)).trans ?_
  refine ite_in ?_ ?_
  · refine (evn_adv 2 (q' := (123, [some (.ref 52), some (.ref l1), u2, u3, some (.int l4), some (.int l5), some (.int l6)], [.int (jn 40), .int l5], M2)) rfl).trans ?_
    refine (e_ic_gt (hf := rfl)).trans ?_
    refine ite_in ?_ ?_
    · refine (evn_adv 1 (q' := (151, [some (.ref 52), some (.ref l1), u2, u3, some (.int l4), some (.int l5), some (.int l6)], [.int l5], M2)) rfl).trans ?_
      exact evn_end 1 rfl
    · refine (evn_adv 6 (q' := (135, [some (.ref 52), some (.ref l1), u2, u3, some (.int l4), some (.int l5), some (.int l6)], [.int l6, .int l4, .ref 52, .int l5, .ref l1, .ref 52], M2)) rfl).trans ?_
      refine (e_kI (q := (135, [some (.ref 52), some (.ref l1), u2, u3, some (.int l4), some (.int l5), some (.int l6)], [.int l6, .int l4, .ref 52, .int l5, .ref l1, .ref 52])) (q2 := (138, [some (.ref 52), some (.ref l1), u2, u3, some (.int l4), some (.int l5), some (.int l6)], [.int l5, .ref l1, .ref 52])) (M := M2) (o := (pcl GG lay d 153 [.ref 52, .int l4, .int l6] M2)) (hf := rfl) rfl rfl).trans ?_
      refine kI_in (fun r3 M3 => ?_)
      refine (e_kI (q := (138, [some (.ref 52), some (.ref l1), u2, u3, some (.int l4), some (.int l5), some (.int l6)], [.int r3, .int l5, .ref l1, .ref 52])) (q2 := (141, [some (.ref 52), some (.ref l1), u2, u3, some (.int l4), some (.int l5), some (.int l6)], [])) (M := M3) (o := (pcl GG lay d 159 [.ref 52, .ref l1, .int l5, .int r3] M3)) (hf := rfl) rfl rfl).trans ?_
      refine kI_in (fun r4 M4 => ?_)
      refine (evn_adv 3 (q' := (104, [some (.ref 52), some (.ref l1), u2, u3, some (.int l4), some (.int r4), some (.int (l6 + (jn 1)))], [], M4)) rfl).trans ?_
      rfl
  · refine (evn_adv 1 (q' := (151, [some (.ref 52), some (.ref l1), u2, u3, some (.int l4), some (.int l5), some (.int l6)], [.int l5], M2)) rfl).trans ?_
    exact evn_end 1 rfl
/-- TermStrategiesModel.unify(II)I -/
noncomputable abbrev E_160 (d : Nat) : PQ → PO := evn (rnn k_160 lay none (pcl GG lay d) 1)
theorem q_160 (d : Nat) (l1 : Int32) (l2 : Int32) (M : PM) : pcl GG lay (d + 1) 160 [.ref 52, .int l1, .int l2] M = (kI (pcl GG lay d 72 [.ref 52, .int l1] M) fun r1 M1 => (if r1 = jn 0 then (kI (pcl GG lay d 69 [.ref 52, .int (jz 1)] M1) fun r2 M2 => (rI r2 M2)) else (kI (pcl GG lay d 72 [.ref 52, .int l2] M1) fun r2 M2 => (if r2 = jn 0 then (kI (pcl GG lay d 69 [.ref 52, .int (jz 1)] M2) fun r3 M3 => (rI r3 M3)) else (oB (aldI lay none M2 53 l1) fun v3 => (kI (pcl GG lay d 100 [.ref 54, .int ((jn 40) * l1), .int v3] M2) fun r4 M4 => (kI (pcl GG lay d 273 [.int r4] M4) fun r5 M5 => (if (jn 3) < r5 then (kI (pcl GG lay d 69 [.ref 52, .int (jz 5)] M5) fun r6 M6 => (rI r6 M6)) else (oB (aldI lay none M5 53 l2) fun v6 => (kI (pcl GG lay d 100 [.ref 54, .int ((jn 40) * l2), .int v6] M5) fun r7 M7 => (kI (pcl GG lay d 273 [.int r7] M7) fun r8 M8 => (if (jn 3) < r8 then (kI (pcl GG lay d 69 [.ref 52, .int (jz 5)] M8) fun r9 M9 => (rI r9 M9)) else (kV (pcl GG lay d 158 [.ref 52] M8) fun M9 => (oB (aldI lay none M9 53 l1) fun v10 => (kV (pcl GG lay d 157 [.ref 52, .int (jn 0), .ref 54, .int ((jn 40) * l1), .int v10, .int (jn 0)] M9) fun M11 => (oB (aldI lay none M11 53 l2) fun v12 => (kV (pcl GG lay d 157 [.ref 52, .int (jn 40), .ref 54, .int ((jn 40) * l2), .int v12, .int (jn 1)] M11) fun M13 => (kI (pcl GG lay d 156 [.ref 52, .int (jn 0), .int (jn 40)] M13) fun r14 M14 => (if r14 = jn 0 then (kI (pcl GG lay d 69 [.ref 52, .int (jz 6)] M14) fun r15 M15 => (rI r15 M15)) else (kI (pcl GG lay d 159 [.ref 52, .ref 78, .int (jn 0), .int (jn 0)] M14) fun r15 M15 => (wr (sI M15 52 (va_up (M15.1 52) 43 r15)) fun M16 => (if (jn 40) < (M16.1 52 43) then (kI (pcl GG lay d 69 [.ref 52, .int (jz 7)] M16) fun r17 M17 => (rI r17 M17)) else (if (M16.1 52 0) = (jn 24) then (kI (pcl GG lay d 69 [.ref 52, .int (jz 7)] M16) fun r17 M17 => (rI r17 M17)) else (kI (pcl GG lay d 92 [.ref 52, .ref 78, .int (M16.1 52 43)] M16) fun r17 M17 => (rI r17 M17))))))))))))))))))))))))) := by
  refine (pcl_un (mt := t_160) (by decide) rfl (Nat.le_of_ble_eq_true rfl)).trans ?_
  show E_160 d (0, [some (.ref 52), some (.int l1), some (.int l2)], [], M) = _
  refine (evn_adv 2 (q' := (2, [some (.ref 52), some (.int l1), some (.int l2)], [.int l1, .ref 52], M)) rfl).trans ?_
  refine (e_kI (q := (2, [some (.ref 52), some (.int l1), some (.int l2)], [.int l1, .ref 52])) (q2 := (5, [some (.ref 52), some (.int l1), some (.int l2)], [])) (M := M) (o := (pcl GG lay d 72 [.ref 52, .int l1] M)) (hf := rfl) rfl rfl).trans ?_
  refine kI_in (fun r1 M1 => ?_)
  refine (e_if_eq (hf := rfl)).trans ?_
  refine ite_in ?_ ?_
  · refine (evn_adv 2 (q' := (18, [some (.ref 52), some (.int l1), some (.int l2)], [.int (jz 1), .ref 52], M1)) rfl).trans ?_
    refine (e_kI (q := (18, [some (.ref 52), some (.int l1), some (.int l2)], [.int (jz 1), .ref 52])) (q2 := (21, [some (.ref 52), some (.int l1), some (.int l2)], [])) (M := M1) (o := (pcl GG lay d 69 [.ref 52, .int (jz 1)] M1)) (hf := rfl) rfl rfl).trans ?_
    refine kI_in (fun r2 M2 => ?_)
    exact evn_end 1 rfl
  · refine (evn_adv 2 (q' := (10, [some (.ref 52), some (.int l1), some (.int l2)], [.int l2, .ref 52], M1)) rfl).trans ?_
    refine (e_kI (q := (10, [some (.ref 52), some (.int l1), some (.int l2)], [.int l2, .ref 52])) (q2 := (13, [some (.ref 52), some (.int l1), some (.int l2)], [])) (M := M1) (o := (pcl GG lay d 72 [.ref 52, .int l2] M1)) (hf := rfl) rfl rfl).trans ?_
    refine kI_in (fun r2 M2 => ?_)
    refine (e_if_ne (hf := rfl)).trans ?_
    refine ite_in ?_ ?_
    · refine (evn_adv 2 (q' := (18, [some (.ref 52), some (.int l1), some (.int l2)], [.int (jz 1), .ref 52], M2)) rfl).trans ?_
      refine (e_kI (q := (18, [some (.ref 52), some (.int l1), some (.int l2)], [.int (jz 1), .ref 52])) (q2 := (21, [some (.ref 52), some (.int l1), some (.int l2)], [])) (M := M2) (o := (pcl GG lay d 69 [.ref 52, .int (jz 1)] M2)) (hf := rfl) rfl rfl).trans ?_
      refine kI_in (fun r3 M3 => ?_)
      exact evn_end 1 rfl
    · refine (evn_adv 8 (q' := (35, [some (.ref 52), some (.int l1), some (.int l2)], [.int l1, .ref 53, .int ((jn 40) * l1), .ref 54], M2)) rfl).trans ?_
      refine (e_oB (q := (35, [some (.ref 52), some (.int l1), some (.int l2)], [.int l1, .ref 53, .int ((jn 40) * l1), .ref 54], M2)) (o := (aldI lay none M2 53 l1)) (f := fun v3 => (36, [some (.ref 52), some (.int l1), some (.int l2)], [.int v3, .int ((jn 40) * l1), .ref 54], M2)) (hf := rfl) rfl).trans ?_
      refine oB_in (fun v3 => ?_)
      refine (e_kI (q := (36, [some (.ref 52), some (.int l1), some (.int l2)], [.int v3, .int ((jn 40) * l1), .ref 54])) (q2 := (39, [some (.ref 52), some (.int l1), some (.int l2)], [])) (M := M2) (o := (pcl GG lay d 100 [.ref 54, .int ((jn 40) * l1), .int v3] M2)) (hf := rfl) rfl rfl).trans ?_
      refine kI_in (fun r4 M4 => ?_)
      refine (e_kI (q := (39, [some (.ref 52), some (.int l1), some (.int l2)], [.int r4])) (q2 := (42, [some (.ref 52), some (.int l1), some (.int l2)], [])) (M := M4) (o := (pcl GG lay d 273 [.int r4] M4)) (hf := rfl) rfl rfl).trans ?_
      refine kI_in (fun r5 M5 => ?_)
      refine (evn_adv 1 (q' := (43, [some (.ref 52), some (.int l1), some (.int l2)], [.int (jn 3), .int r5], M5)) rfl).trans ?_
      refine (e_ic_gt (hf := rfl)).trans ?_
      refine ite_in ?_ ?_
      · refine (evn_adv 2 (q' := (73, [some (.ref 52), some (.int l1), some (.int l2)], [.int (jz 5), .ref 52], M5)) rfl).trans ?_
        refine (e_kI (q := (73, [some (.ref 52), some (.int l1), some (.int l2)], [.int (jz 5), .ref 52])) (q2 := (76, [some (.ref 52), some (.int l1), some (.int l2)], [])) (M := M5) (o := (pcl GG lay d 69 [.ref 52, .int (jz 5)] M5)) (hf := rfl) rfl rfl).trans ?_
        refine kI_in (fun r6 M6 => ?_)
        exact evn_end 1 rfl
      · refine (evn_adv 8 (q' := (59, [some (.ref 52), some (.int l1), some (.int l2)], [.int l2, .ref 53, .int ((jn 40) * l2), .ref 54], M5)) rfl).trans ?_
        refine (e_oB (q := (59, [some (.ref 52), some (.int l1), some (.int l2)], [.int l2, .ref 53, .int ((jn 40) * l2), .ref 54], M5)) (o := (aldI lay none M5 53 l2)) (f := fun v6 => (60, [some (.ref 52), some (.int l1), some (.int l2)], [.int v6, .int ((jn 40) * l2), .ref 54], M5)) (hf := rfl) rfl).trans ?_
        refine oB_in (fun v6 => ?_)
        refine (e_kI (q := (60, [some (.ref 52), some (.int l1), some (.int l2)], [.int v6, .int ((jn 40) * l2), .ref 54])) (q2 := (63, [some (.ref 52), some (.int l1), some (.int l2)], [])) (M := M5) (o := (pcl GG lay d 100 [.ref 54, .int ((jn 40) * l2), .int v6] M5)) (hf := rfl) rfl rfl).trans ?_
        refine kI_in (fun r7 M7 => ?_)
        refine (e_kI (q := (63, [some (.ref 52), some (.int l1), some (.int l2)], [.int r7])) (q2 := (66, [some (.ref 52), some (.int l1), some (.int l2)], [])) (M := M7) (o := (pcl GG lay d 273 [.int r7] M7)) (hf := rfl) rfl rfl).trans ?_
        refine kI_in (fun r8 M8 => ?_)
        refine (evn_adv 1 (q' := (67, [some (.ref 52), some (.int l1), some (.int l2)], [.int (jn 3), .int r8], M8)) rfl).trans ?_
        refine (e_ic_le (hf := rfl)).trans ?_
        refine ite_in ?_ ?_
        · refine (evn_adv 2 (q' := (73, [some (.ref 52), some (.int l1), some (.int l2)], [.int (jz 5), .ref 52], M8)) rfl).trans ?_
          refine (e_kI (q := (73, [some (.ref 52), some (.int l1), some (.int l2)], [.int (jz 5), .ref 52])) (q2 := (76, [some (.ref 52), some (.int l1), some (.int l2)], [])) (M := M8) (o := (pcl GG lay d 69 [.ref 52, .int (jz 5)] M8)) (hf := rfl) rfl rfl).trans ?_
          refine kI_in (fun r9 M9 => ?_)
          exact evn_end 1 rfl
        · refine (evn_adv 1 (q' := (78, [some (.ref 52), some (.int l1), some (.int l2)], [.ref 52], M8)) rfl).trans ?_
          refine (e_kV (q := (78, [some (.ref 52), some (.int l1), some (.int l2)], [.ref 52])) (q2 := (81, [some (.ref 52), some (.int l1), some (.int l2)], [])) (M := M8) (o := (pcl GG lay d 158 [.ref 52] M8)) (hf := rfl) rfl rfl).trans ?_
          refine kV_in (fun M9 => ?_)
          refine (evn_adv 10 (q' := (96, [some (.ref 52), some (.int l1), some (.int l2)], [.int l1, .ref 53, .int ((jn 40) * l1), .ref 54, .int (jn 0), .ref 52], M9)) rfl).trans ?_
          refine (e_oB (q := (96, [some (.ref 52), some (.int l1), some (.int l2)], [.int l1, .ref 53, .int ((jn 40) * l1), .ref 54, .int (jn 0), .ref 52], M9)) (o := (aldI lay none M9 53 l1)) (f := fun v10 => (97, [some (.ref 52), some (.int l1), some (.int l2)], [.int v10, .int ((jn 40) * l1), .ref 54, .int (jn 0), .ref 52], M9)) (hf := rfl) rfl).trans ?_
          refine oB_in (fun v10 => ?_)
          refine (evn_adv 1 (q' := (98, [some (.ref 52), some (.int l1), some (.int l2)], [.int (jn 0), .int v10, .int ((jn 40) * l1), .ref 54, .int (jn 0), .ref 52], M9)) rfl).trans ?_
          refine (e_kV (q := (98, [some (.ref 52), some (.int l1), some (.int l2)], [.int (jn 0), .int v10, .int ((jn 40) * l1), .ref 54, .int (jn 0), .ref 52])) (q2 := (101, [some (.ref 52), some (.int l1), some (.int l2)], [])) (M := M9) (o := (pcl GG lay d 157 [.ref 52, .int (jn 0), .ref 54, .int ((jn 40) * l1), .int v10, .int (jn 0)] M9)) (hf := rfl) rfl rfl).trans ?_
          refine kV_in (fun M11 => ?_)
          refine (evn_adv 10 (q' := (117, [some (.ref 52), some (.int l1), some (.int l2)], [.int l2, .ref 53, .int ((jn 40) * l2), .ref 54, .int (jn 40), .ref 52], M11)) rfl).trans ?_
          refine (e_oB (q := (117, [some (.ref 52), some (.int l1), some (.int l2)], [.int l2, .ref 53, .int ((jn 40) * l2), .ref 54, .int (jn 40), .ref 52], M11)) (o := (aldI lay none M11 53 l2)) (f := fun v12 => (118, [some (.ref 52), some (.int l1), some (.int l2)], [.int v12, .int ((jn 40) * l2), .ref 54, .int (jn 40), .ref 52], M11)) (hf := rfl) rfl).trans ?_
          refine oB_in (fun v12 => ?_)
          refine (evn_adv 1 (q' := (119, [some (.ref 52), some (.int l1), some (.int l2)], [.int (jn 1), .int v12, .int ((jn 40) * l2), .ref 54, .int (jn 40), .ref 52], M11)) rfl).trans ?_
          refine (e_kV (q := (119, [some (.ref 52), some (.int l1), some (.int l2)], [.int (jn 1), .int v12, .int ((jn 40) * l2), .ref 54, .int (jn 40), .ref 52])) (q2 := (122, [some (.ref 52), some (.int l1), some (.int l2)], [])) (M := M11) (o := (pcl GG lay d 157 [.ref 52, .int (jn 40), .ref 54, .int ((jn 40) * l2), .int v12, .int (jn 1)] M11)) (hf := rfl) rfl rfl).trans ?_
          refine kV_in (fun M13 => ?_)
          refine (evn_adv 3 (q' := (126, [some (.ref 52), some (.int l1), some (.int l2)], [.int (jn 40), .int (jn 0), .ref 52], M13)) rfl).trans ?_
          refine (e_kI (q := (126, [some (.ref 52), some (.int l1), some (.int l2)], [.int (jn 40), .int (jn 0), .ref 52])) (q2 := (129, [some (.ref 52), some (.int l1), some (.int l2)], [])) (M := M13) (o := (pcl GG lay d 156 [.ref 52, .int (jn 0), .int (jn 40)] M13)) (hf := rfl) rfl rfl).trans ?_
          refine kI_in (fun r14 M14 => ?_)
          refine (e_if_ne (hf := rfl)).trans ?_
          refine ite_in ?_ ?_
          · refine (evn_adv 2 (q' := (135, [some (.ref 52), some (.int l1), some (.int l2)], [.int (jz 6), .ref 52], M14)) rfl).trans ?_
            refine (e_kI (q := (135, [some (.ref 52), some (.int l1), some (.int l2)], [.int (jz 6), .ref 52])) (q2 := (138, [some (.ref 52), some (.int l1), some (.int l2)], [])) (M := M14) (o := (pcl GG lay d 69 [.ref 52, .int (jz 6)] M14)) (hf := rfl) rfl rfl).trans ?_
            refine kI_in (fun r15 M15 => ?_)
            exact evn_end 1 rfl
          · refine (evn_adv 6 (q' := (147, [some (.ref 52), some (.int l1), some (.int l2)], [.int (jn 0), .int (jn 0), .ref 78, .ref 52, .ref 52], M14)) rfl).trans ?_
            refine (e_kI (q := (147, [some (.ref 52), some (.int l1), some (.int l2)], [.int (jn 0), .int (jn 0), .ref 78, .ref 52, .ref 52])) (q2 := (150, [some (.ref 52), some (.int l1), some (.int l2)], [.ref 52])) (M := M14) (o := (pcl GG lay d 159 [.ref 52, .ref 78, .int (jn 0), .int (jn 0)] M14)) (hf := rfl) rfl rfl).trans ?_
            refine kI_in (fun r15 M15 => ?_)
            refine (evn_adv 1 (q' := (153, [some (.ref 52), some (.int l1), some (.int l2)], [], (sI M15 52 (va_up (M15.1 52) 43 r15)))) rfl).trans ?_
            refine wr_in (f := fun M16 => E_160 d (153, [some (.ref 52), some (.int l1), some (.int l2)], [], M16)) (fun M16 => ?_)
            refine (evn_adv 3 (q' := (159, [some (.ref 52), some (.int l1), some (.int l2)], [.int (jn 40), .int (M16.1 52 43)], M16)) rfl).trans ?_
            refine (e_ic_gt (hf := rfl)).trans ?_
            refine ite_in ?_ ?_
            · refine (evn_adv 2 (q' := (174, [some (.ref 52), some (.int l1), some (.int l2)], [.int (jz 7), .ref 52], M16)) rfl).trans ?_
              refine (e_kI (q := (174, [some (.ref 52), some (.int l1), some (.int l2)], [.int (jz 7), .ref 52])) (q2 := (177, [some (.ref 52), some (.int l1), some (.int l2)], [])) (M := M16) (o := (pcl GG lay d 69 [.ref 52, .int (jz 7)] M16)) (hf := rfl) rfl rfl).trans ?_
              refine kI_in (fun r17 M17 => ?_)
              refine (evn_adv 1 (q' := (192, [some (.ref 52), some (.int l1), some (.int l2)], [.int r17], M17)) rfl).trans ?_
              exact evn_end 1 rfl
            · refine (evn_adv 3 (q' := (168, [some (.ref 52), some (.int l1), some (.int l2)], [.int (jn 24), .int (M16.1 52 0)], M16)) rfl).trans ?_
              refine (e_ic_ne (hf := rfl)).trans ?_
              refine ite_in ?_ ?_
              · refine (evn_adv 2 (q' := (174, [some (.ref 52), some (.int l1), some (.int l2)], [.int (jz 7), .ref 52], M16)) rfl).trans ?_
                refine (e_kI (q := (174, [some (.ref 52), some (.int l1), some (.int l2)], [.int (jz 7), .ref 52])) (q2 := (177, [some (.ref 52), some (.int l1), some (.int l2)], [])) (M := M16) (o := (pcl GG lay d 69 [.ref 52, .int (jz 7)] M16)) (hf := rfl) rfl rfl).trans ?_
                refine kI_in (fun r17 M17 => ?_)
                refine (evn_adv 1 (q' := (192, [some (.ref 52), some (.int l1), some (.int l2)], [.int r17], M17)) rfl).trans ?_
                exact evn_end 1 rfl
              · refine (evn_adv 5 (q' := (189, [some (.ref 52), some (.int l1), some (.int l2)], [.int (M16.1 52 43), .ref 78, .ref 52], M16)) rfl).trans ?_
                refine (e_kI (q := (189, [some (.ref 52), some (.int l1), some (.int l2)], [.int (M16.1 52 43), .ref 78, .ref 52])) (q2 := (192, [some (.ref 52), some (.int l1), some (.int l2)], [])) (M := M16) (o := (pcl GG lay d 92 [.ref 52, .ref 78, .int (M16.1 52 43)] M16)) (hf := rfl) rfl rfl).trans ?_
                refine kI_in (fun r17 M17 => ?_)
                exact evn_end 1 rfl
/-- TermStrategiesModel.putsBut(III)I -/
noncomputable abbrev E_161 (d : Nat) : PQ → PO := evn (rnn k_161 lay none (pcl GG lay d) 1)
theorem q_161 (d : Nat) (l1 : Int32) (l2 : Int32) (l3 : Int32) (M : PM) : pcl GG lay (d + 1) 161 [.ref 52, .int l1, .int l2, .int l3] M = (if (jn 40) < l1 then (rI l1 M) else (if l2 = l3 then (kI (pcl GG lay d 159 [.ref 52, .ref 80, .int l1, .int (jn 120)] M) fun r1 M1 => (rI r1 M1)) else (oB (aldI lay none M 75 l2) fun v1 => (kI (pcl GG lay d 149 [.int v1] M) fun r2 M2 => (if r2 = jn 0 then (if l3 < l2 then (kI (pcl GG lay d 159 [.ref 52, .ref 80, .int l1, .int l2] M2) fun r3 M3 => (rI r3 M3)) else (kI (pcl GG lay d 152 [.ref 52, .int l2] M2) fun r3 M3 => (if l3 < (l2 + r3) then (oB (aldI lay none M3 75 l2) fun v4 => (oB (astI lay M3 80 l1 v4) fun M5 => E_161 d (84, [some (.ref 52), some (.int l1), some (.int l2), some (.int l3), some (.int (l1 + (jn 1))), some (.int (jn 0))], [], M5))) else (kI (pcl GG lay d 159 [.ref 52, .ref 80, .int l1, .int l2] M3) fun r4 M4 => (rI r4 M4))))) else (kI (pcl GG lay d 159 [.ref 52, .ref 80, .int l1, .int l2] M2) fun r3 M3 => (rI r3 M3))))))) := by
  refine (pcl_un (mt := t_161) (by decide) rfl (Nat.le_of_ble_eq_true rfl)).trans ?_
  show E_161 d (0, [some (.ref 52), some (.int l1), some (.int l2), some (.int l3), none, none], [], M) = _
  refine (evn_adv 2 (q' := (3, [some (.ref 52), some (.int l1), some (.int l2), some (.int l3), none, none], [.int (jn 40), .int l1], M)) rfl).trans ?_
  refine (e_ic_le (hf := rfl)).trans ?_
  refine ite_in ?_ ?_
  · refine (evn_adv 1 (q' := (7, [some (.ref 52), some (.int l1), some (.int l2), some (.int l3), none, none], [.int l1], M)) rfl).trans ?_
    exact evn_end 1 rfl
  · refine (evn_adv 2 (q' := (10, [some (.ref 52), some (.int l1), some (.int l2), some (.int l3), none, none], [.int l3, .int l2], M)) rfl).trans ?_
    refine (e_ic_ne (hf := rfl)).trans ?_
    refine ite_in ?_ ?_
    · refine (evn_adv 5 (q' := (21, [some (.ref 52), some (.int l1), some (.int l2), some (.int l3), none, none], [.int (jn 120), .int l1, .ref 80, .ref 52], M)) rfl).trans ?_
      refine (e_kI (q := (21, [some (.ref 52), some (.int l1), some (.int l2), some (.int l3), none, none], [.int (jn 120), .int l1, .ref 80, .ref 52])) (q2 := (24, [some (.ref 52), some (.int l1), some (.int l2), some (.int l3), none, none], [])) (M := M) (o := (pcl GG lay d 159 [.ref 52, .ref 80, .int l1, .int (jn 120)] M)) (hf := rfl) rfl rfl).trans ?_
      refine kI_in (fun r1 M1 => ?_)
      exact evn_end 1 rfl
    · refine (evn_adv 3 (q' := (30, [some (.ref 52), some (.int l1), some (.int l2), some (.int l3), none, none], [.int l2, .ref 75], M)) rfl).trans ?_
      refine (e_oB (q := (30, [some (.ref 52), some (.int l1), some (.int l2), some (.int l3), none, none], [.int l2, .ref 75], M)) (o := (aldI lay none M 75 l2)) (f := fun v1 => (31, [some (.ref 52), some (.int l1), some (.int l2), some (.int l3), none, none], [.int v1], M)) (hf := rfl) rfl).trans ?_
      refine oB_in (fun v1 => ?_)
      refine (e_kI (q := (31, [some (.ref 52), some (.int l1), some (.int l2), some (.int l3), none, none], [.int v1])) (q2 := (34, [some (.ref 52), some (.int l1), some (.int l2), some (.int l3), none, none], [])) (M := M) (o := (pcl GG lay d 149 [.int v1] M)) (hf := rfl) rfl rfl).trans ?_
      refine kI_in (fun r2 M2 => ?_)
      refine (e_if_ne (hf := rfl)).trans ?_
      refine ite_in ?_ ?_
      · refine (evn_adv 2 (q' := (39, [some (.ref 52), some (.int l1), some (.int l2), some (.int l3), none, none], [.int l2, .int l3], M2)) rfl).trans ?_
        refine (e_ic_lt (hf := rfl)).trans ?_
        refine ite_in ?_ ?_
        · refine (evn_adv 5 (q' := (60, [some (.ref 52), some (.int l1), some (.int l2), some (.int l3), none, none], [.int l2, .int l1, .ref 80, .ref 52], M2)) rfl).trans ?_
          refine (e_kI (q := (60, [some (.ref 52), some (.int l1), some (.int l2), some (.int l3), none, none], [.int l2, .int l1, .ref 80, .ref 52])) (q2 := (63, [some (.ref 52), some (.int l1), some (.int l2), some (.int l3), none, none], [])) (M := M2) (o := (pcl GG lay d 159 [.ref 52, .ref 80, .int l1, .int l2] M2)) (hf := rfl) rfl rfl).trans ?_
          refine kI_in (fun r3 M3 => ?_)
          exact evn_end 1 rfl
        · refine (evn_adv 4 (q' := (46, [some (.ref 52), some (.int l1), some (.int l2), some (.int l3), none, none], [.int l2, .ref 52, .int l2, .int l3], M2)) rfl).trans ?_
          refine (e_kI (q := (46, [some (.ref 52), some (.int l1), some (.int l2), some (.int l3), none, none], [.int l2, .ref 52, .int l2, .int l3])) (q2 := (49, [some (.ref 52), some (.int l1), some (.int l2), some (.int l3), none, none], [.int l2, .int l3])) (M := M2) (o := (pcl GG lay d 152 [.ref 52, .int l2] M2)) (hf := rfl) rfl rfl).trans ?_
          refine kI_in (fun r3 M3 => ?_)
          refine (evn_adv 1 (q' := (50, [some (.ref 52), some (.int l1), some (.int l2), some (.int l3), none, none], [.int (l2 + r3), .int l3], M3)) rfl).trans ?_
          refine (e_ic_lt (hf := rfl)).trans ?_
          refine ite_in ?_ ?_
          · refine (evn_adv 6 (q' := (74, [some (.ref 52), some (.int l1), some (.int l2), some (.int l3), none, none], [.int l2, .ref 75, .int l1, .ref 80], M3)) rfl).trans ?_
            refine (e_oB (q := (74, [some (.ref 52), some (.int l1), some (.int l2), some (.int l3), none, none], [.int l2, .ref 75, .int l1, .ref 80], M3)) (o := (aldI lay none M3 75 l2)) (f := fun v4 => (75, [some (.ref 52), some (.int l1), some (.int l2), some (.int l3), none, none], [.int v4, .int l1, .ref 80], M3)) (hf := rfl) rfl).trans ?_
            refine oB_in (fun v4 => ?_)
            refine (e_oB (q := (75, [some (.ref 52), some (.int l1), some (.int l2), some (.int l3), none, none], [.int v4, .int l1, .ref 80], M3)) (o := (astI lay M3 80 l1 v4)) (f := fun M5 => (76, [some (.ref 52), some (.int l1), some (.int l2), some (.int l3), none, none], [], M5)) (hf := rfl) rfl).trans ?_
            refine oB_in (fun M5 => ?_)
            refine (evn_adv 6 (q' := (84, [some (.ref 52), some (.int l1), some (.int l2), some (.int l3), some (.int (l1 + (jn 1))), some (.int (jn 0))], [], M5)) rfl).trans ?_
            rfl
          · refine (evn_adv 5 (q' := (60, [some (.ref 52), some (.int l1), some (.int l2), some (.int l3), none, none], [.int l2, .int l1, .ref 80, .ref 52], M3)) rfl).trans ?_
            refine (e_kI (q := (60, [some (.ref 52), some (.int l1), some (.int l2), some (.int l3), none, none], [.int l2, .int l1, .ref 80, .ref 52])) (q2 := (63, [some (.ref 52), some (.int l1), some (.int l2), some (.int l3), none, none], [])) (M := M3) (o := (pcl GG lay d 159 [.ref 52, .ref 80, .int l1, .int l2] M3)) (hf := rfl) rfl rfl).trans ?_
            refine kI_in (fun r4 M4 => ?_)
            exact evn_end 1 rfl
      · refine (evn_adv 5 (q' := (60, [some (.ref 52), some (.int l1), some (.int l2), some (.int l3), none, none], [.int l2, .int l1, .ref 80, .ref 52], M2)) rfl).trans ?_
        refine (e_kI (q := (60, [some (.ref 52), some (.int l1), some (.int l2), some (.int l3), none, none], [.int l2, .int l1, .ref 80, .ref 52])) (q2 := (63, [some (.ref 52), some (.int l1), some (.int l2), some (.int l3), none, none], [])) (M := M2) (o := (pcl GG lay d 159 [.ref 52, .ref 80, .int l1, .int l2] M2)) (hf := rfl) rfl rfl).trans ?_
        refine kI_in (fun r3 M3 => ?_)
        exact evn_end 1 rfl
theorem h_161_84 (d : Nat) (u1 : Option Value) (l2 : Int32) (l3 : Int32) (l4 : Int32) (l5 : Int32) (M : PM) : E_161 d (84, [some (.ref 52), u1, some (.int l2), some (.int l3), some (.int l4), some (.int l5)], [], M) = (oB (aldI lay none M 75 l2) fun v1 => (kI (pcl GG lay d 151 [.int v1] M) fun r2 M2 => (if l5 < r2 then (if (jn 40) < l4 then (rI l4 M2) else (kI (pcl GG lay d 153 [.ref 52, .int l2, .int l5] M2) fun r3 M3 => (kI (pcl GG lay d 161 [.ref 52, .int l4, .int r3, .int l3] M3) fun r4 M4 => E_161 d (84, [some (.ref 52), u1, some (.int l2), some (.int l3), some (.int r4), some (.int (l5 + (jn 1)))], [], M4)))) else (rI l4 M2)))) := by
  refine (evn_adv 4 (q' := (91, [some (.ref 52), u1, some (.int l2), some (.int l3), some (.int l4), some (.int l5)], [.int l2, .ref 75, .int l5], M)) rfl).trans ?_
  refine (e_oB (q := (91, [some (.ref 52), u1, some (.int l2), some (.int l3), some (.int l4), some (.int l5)], [.int l2, .ref 75, .int l5], M)) (o := (aldI lay none M 75 l2)) (f := fun v1 => (92, [some (.ref 52), u1, some (.int l2), some (.int l3), some (.int l4), some (.int l5)], [.int v1, .int l5], M)) (hf := rfl) rfl).trans ?_
  refine oB_in (fun v1 => ?_)
  refine (e_kI (q := (92, [some (.ref 52), u1, some (.int l2), some (.int l3), some (.int l4), some (.int l5)], [.int v1, .int l5])) (q2 := (95, [some (.ref 52), u1, some (.int l2), some (.int l3), some (.int l4), some (.int l5)], [.int l5])) (M := M) (o := (pcl GG lay d 151 [.int v1] M)) (hf := rfl) rfl rfl).trans ?_
  refine kI_in (fun r2 M2 => ?_)
  refine (e_ic_ge (hf := rfl)).trans ?_
  refine ite_in ?_ ?_
  · refine (evn_adv 2 (q' := (102, [some (.ref 52), u1, some (.int l2), some (.int l3), some (.int l4), some (.int l5)], [.int (jn 40), .int l4], M2)) rfl).trans ?_
    refine (e_ic_gt (hf := rfl)).trans ?_
    refine ite_in ?_ ?_
    · refine (evn_adv 1 (q' := (129, [some (.ref 52), u1, some (.int l2), some (.int l3), some (.int l4), some (.int l5)], [.int l4], M2)) rfl).trans ?_
      exact evn_end 1 rfl
    · refine (evn_adv 5 (q' := (112, [some (.ref 52), u1, some (.int l2), some (.int l3), some (.int l4), some (.int l5)], [.int l5, .int l2, .ref 52, .int l4, .ref 52], M2)) rfl).trans ?_
      refine (e_kI (q := (112, [some (.ref 52), u1, some (.int l2), some (.int l3), some (.int l4), some (.int l5)], [.int l5, .int l2, .ref 52, .int l4, .ref 52])) (q2 := (115, [some (.ref 52), u1, some (.int l2), some (.int l3), some (.int l4), some (.int l5)], [.int l4, .ref 52])) (M := M2) (o := (pcl GG lay d 153 [.ref 52, .int l2, .int l5] M2)) (hf := rfl) rfl rfl).trans ?_
      refine kI_in (fun r3 M3 => ?_)
      refine (evn_adv 1 (q' := (116, [some (.ref 52), u1, some (.int l2), some (.int l3), some (.int l4), some (.int l5)], [.int l3, .int r3, .int l4, .ref 52], M3)) rfl).trans ?_
      refine (e_kI (q := (116, [some (.ref 52), u1, some (.int l2), some (.int l3), some (.int l4), some (.int l5)], [.int l3, .int r3, .int l4, .ref 52])) (q2 := (119, [some (.ref 52), u1, some (.int l2), some (.int l3), some (.int l4), some (.int l5)], [])) (M := M3) (o := (pcl GG lay d 161 [.ref 52, .int l4, .int r3, .int l3] M3)) (hf := rfl) rfl rfl).trans ?_
      refine kI_in (fun r4 M4 => ?_)
      refine (evn_adv 3 (q' := (84, [some (.ref 52), u1, some (.int l2), some (.int l3), some (.int r4), some (.int (l5 + (jn 1)))], [], M4)) rfl).trans ?_
      rfl
  · refine (evn_adv 1 (q' := (129, [some (.ref 52), u1, some (.int l2), some (.int l3), some (.int l4), some (.int l5)], [.int l4], M2)) rfl).trans ?_
    exact evn_end 1 rfl
/-- TermStrategiesModel.overlapsAt(III)Z -/
noncomputable abbrev E_162 (d : Nat) : PQ → PO := evn (rnn k_162 lay none (pcl GG lay d) 2)
theorem q_162 (d : Nat) (l1 : Int32) (l2 : Int32) (l3 : Int32) (M : PM) : pcl GG lay (d + 1) 162 [.ref 52, .int l1, .int l2, .int l3] M = (kV (pcl GG lay d 158 [.ref 52] M) fun M1 => (oB (aldI lay none M1 55 ((jn 2) * l1)) fun v2 => (kV (pcl GG lay d 157 [.ref 52, .int (jn 0), .ref 56, .int ((jn 80) * l1), .int v2, .int (jn 0)] M1) fun M3 => (oB (aldI lay none M3 55 ((jn 2) * l2)) fun v4 => (kV (pcl GG lay d 157 [.ref 52, .int (jn 40), .ref 56, .int ((jn 80) * l2), .int v4, .int (jn 1)] M3) fun M5 => (oB (aldI lay none M5 55 (((jn 2) * l1) + (jn 1))) fun v6 => (kV (pcl GG lay d 157 [.ref 52, .int (jn 80), .ref 56, .int (((jn 80) * l1) + (jn 40)), .int v6, .int (jn 0)] M5) fun M7 => (oB (aldI lay none M7 55 (((jn 2) * l2) + (jn 1))) fun v8 => (kV (pcl GG lay d 157 [.ref 52, .int (jn 120), .ref 56, .int (((jn 80) * l2) + (jn 40)), .int v8, .int (jn 1)] M7) fun M9 => (kI (pcl GG lay d 156 [.ref 52, .int l3, .int (jn 40)] M9) fun r10 M10 => (if r10 = jn 0 then (rZ (jn 0) M10) else (kI (pcl GG lay d 159 [.ref 52, .ref 78, .int (jn 0), .int (jn 0)] M10) fun r11 M11 => (wr (sI M11 52 (va_up (M11.1 52) 43 r11)) fun M12 => (if (jn 40) < (M12.1 52 43) then (rZ (jn 0) M12) else (kI (pcl GG lay d 159 [.ref 52, .ref 79, .int (jn 0), .int (jn 80)] M12) fun r13 M13 => (wr (sI M13 52 (va_up (M13.1 52) 45 r13)) fun M14 => (kI (pcl GG lay d 161 [.ref 52, .int (jn 0), .int (jn 0), .int l3] M14) fun r15 M15 => (wr (sI M15 52 (va_up (M15.1 52) 47 r15)) fun M16 => (if (jn 40) < (M16.1 52 45) then (rZ (jn 0) M16) else (if (jn 40) < (M16.1 52 47) then (rZ (jn 0) M16) else (rZ (jn 1) M16))))))))))))))))))))) := by
  refine (pcl_un (mt := t_162) (by decide) rfl (Nat.le_of_ble_eq_true rfl)).trans ?_
  show E_162 d (0, [some (.ref 52), some (.int l1), some (.int l2), some (.int l3)], [], M) = _
  refine (evn_adv 1 (q' := (1, [some (.ref 52), some (.int l1), some (.int l2), some (.int l3)], [.ref 52], M)) rfl).trans ?_
  refine (e_kV (q := (1, [some (.ref 52), some (.int l1), some (.int l2), some (.int l3)], [.ref 52])) (q2 := (4, [some (.ref 52), some (.int l1), some (.int l2), some (.int l3)], [])) (M := M) (o := (pcl GG lay d 158 [.ref 52] M)) (hf := rfl) rfl rfl).trans ?_
  refine kV_in (fun M1 => ?_)
  refine (evn_adv 12 (q' := (21, [some (.ref 52), some (.int l1), some (.int l2), some (.int l3)], [.int ((jn 2) * l1), .ref 55, .int ((jn 80) * l1), .ref 56, .int (jn 0), .ref 52], M1)) rfl).trans ?_
  refine (e_oB (q := (21, [some (.ref 52), some (.int l1), some (.int l2), some (.int l3)], [.int ((jn 2) * l1), .ref 55, .int ((jn 80) * l1), .ref 56, .int (jn 0), .ref 52], M1)) (o := (aldI lay none M1 55 ((jn 2) * l1))) (f := fun v2 => (22, [some (.ref 52), some (.int l1), some (.int l2), some (.int l3)], [.int v2, .int ((jn 80) * l1), .ref 56, .int (jn 0), .ref 52], M1)) (hf := rfl) rfl).trans ?_
  refine oB_in (fun v2 => ?_)
  refine (evn_adv 1 (q' := (23, [some (.ref 52), some (.int l1), some (.int l2), some (.int l3)], [.int (jn 0), .int v2, .int ((jn 80) * l1), .ref 56, .int (jn 0), .ref 52], M1)) rfl).trans ?_
  refine (e_kV (q := (23, [some (.ref 52), some (.int l1), some (.int l2), some (.int l3)], [.int (jn 0), .int v2, .int ((jn 80) * l1), .ref 56, .int (jn 0), .ref 52])) (q2 := (26, [some (.ref 52), some (.int l1), some (.int l2), some (.int l3)], [])) (M := M1) (o := (pcl GG lay d 157 [.ref 52, .int (jn 0), .ref 56, .int ((jn 80) * l1), .int v2, .int (jn 0)] M1)) (hf := rfl) rfl rfl).trans ?_
  refine kV_in (fun M3 => ?_)
  refine (evn_adv 12 (q' := (44, [some (.ref 52), some (.int l1), some (.int l2), some (.int l3)], [.int ((jn 2) * l2), .ref 55, .int ((jn 80) * l2), .ref 56, .int (jn 40), .ref 52], M3)) rfl).trans ?_
  refine (e_oB (q := (44, [some (.ref 52), some (.int l1), some (.int l2), some (.int l3)], [.int ((jn 2) * l2), .ref 55, .int ((jn 80) * l2), .ref 56, .int (jn 40), .ref 52], M3)) (o := (aldI lay none M3 55 ((jn 2) * l2))) (f := fun v4 => (45, [some (.ref 52), some (.int l1), some (.int l2), some (.int l3)], [.int v4, .int ((jn 80) * l2), .ref 56, .int (jn 40), .ref 52], M3)) (hf := rfl) rfl).trans ?_
  refine oB_in (fun v4 => ?_)
  refine (evn_adv 1 (q' := (46, [some (.ref 52), some (.int l1), some (.int l2), some (.int l3)], [.int (jn 1), .int v4, .int ((jn 80) * l2), .ref 56, .int (jn 40), .ref 52], M3)) rfl).trans ?_
  refine (e_kV (q := (46, [some (.ref 52), some (.int l1), some (.int l2), some (.int l3)], [.int (jn 1), .int v4, .int ((jn 80) * l2), .ref 56, .int (jn 40), .ref 52])) (q2 := (49, [some (.ref 52), some (.int l1), some (.int l2), some (.int l3)], [])) (M := M3) (o := (pcl GG lay d 157 [.ref 52, .int (jn 40), .ref 56, .int ((jn 80) * l2), .int v4, .int (jn 1)] M3)) (hf := rfl) rfl rfl).trans ?_
  refine kV_in (fun M5 => ?_)
  refine (evn_adv 16 (q' := (72, [some (.ref 52), some (.int l1), some (.int l2), some (.int l3)], [.int (((jn 2) * l1) + (jn 1)), .ref 55, .int (((jn 80) * l1) + (jn 40)), .ref 56, .int (jn 80), .ref 52], M5)) rfl).trans ?_
  refine (e_oB (q := (72, [some (.ref 52), some (.int l1), some (.int l2), some (.int l3)], [.int (((jn 2) * l1) + (jn 1)), .ref 55, .int (((jn 80) * l1) + (jn 40)), .ref 56, .int (jn 80), .ref 52], M5)) (o := (aldI lay none M5 55 (((jn 2) * l1) + (jn 1)))) (f := fun v6 => (73, [some (.ref 52), some (.int l1), some (.int l2), some (.int l3)], [.int v6, .int (((jn 80) * l1) + (jn 40)), .ref 56, .int (jn 80), .ref 52], M5)) (hf := rfl) rfl).trans ?_
  refine oB_in (fun v6 => ?_)
  refine (evn_adv 1 (q' := (74, [some (.ref 52), some (.int l1), some (.int l2), some (.int l3)], [.int (jn 0), .int v6, .int (((jn 80) * l1) + (jn 40)), .ref 56, .int (jn 80), .ref 52], M5)) rfl).trans ?_
  refine (e_kV (q := (74, [some (.ref 52), some (.int l1), some (.int l2), some (.int l3)], [.int (jn 0), .int v6, .int (((jn 80) * l1) + (jn 40)), .ref 56, .int (jn 80), .ref 52])) (q2 := (77, [some (.ref 52), some (.int l1), some (.int l2), some (.int l3)], [])) (M := M5) (o := (pcl GG lay d 157 [.ref 52, .int (jn 80), .ref 56, .int (((jn 80) * l1) + (jn 40)), .int v6, .int (jn 0)] M5)) (hf := rfl) rfl rfl).trans ?_
  refine kV_in (fun M7 => ?_)
  refine (evn_adv 16 (q' := (100, [some (.ref 52), some (.int l1), some (.int l2), some (.int l3)], [.int (((jn 2) * l2) + (jn 1)), .ref 55, .int (((jn 80) * l2) + (jn 40)), .ref 56, .int (jn 120), .ref 52], M7)) rfl).trans ?_
  refine (e_oB (q := (100, [some (.ref 52), some (.int l1), some (.int l2), some (.int l3)], [.int (((jn 2) * l2) + (jn 1)), .ref 55, .int (((jn 80) * l2) + (jn 40)), .ref 56, .int (jn 120), .ref 52], M7)) (o := (aldI lay none M7 55 (((jn 2) * l2) + (jn 1)))) (f := fun v8 => (101, [some (.ref 52), some (.int l1), some (.int l2), some (.int l3)], [.int v8, .int (((jn 80) * l2) + (jn 40)), .ref 56, .int (jn 120), .ref 52], M7)) (hf := rfl) rfl).trans ?_
  refine oB_in (fun v8 => ?_)
  refine (evn_adv 1 (q' := (102, [some (.ref 52), some (.int l1), some (.int l2), some (.int l3)], [.int (jn 1), .int v8, .int (((jn 80) * l2) + (jn 40)), .ref 56, .int (jn 120), .ref 52], M7)) rfl).trans ?_
  refine (e_kV (q := (102, [some (.ref 52), some (.int l1), some (.int l2), some (.int l3)], [.int (jn 1), .int v8, .int (((jn 80) * l2) + (jn 40)), .ref 56, .int (jn 120), .ref 52])) (q2 := (105, [some (.ref 52), some (.int l1), some (.int l2), some (.int l3)], [])) (M := M7) (o := (pcl GG lay d 157 [.ref 52, .int (jn 120), .ref 56, .int (((jn 80) * l2) + (jn 40)), .int v8, .int (jn 1)] M7)) (hf := rfl) rfl rfl).trans ?_
  refine kV_in (fun M9 => ?_)
  refine (evn_adv 3 (q' := (109, [some (.ref 52), some (.int l1), some (.int l2), some (.int l3)], [.int (jn 40), .int l3, .ref 52], M9)) rfl).trans ?_
  refine (e_kI (q := (109, [some (.ref 52), some (.int l1), some (.int l2), some (.int l3)], [.int (jn 40), .int l3, .ref 52])) (q2 := (112, [some (.ref 52), some (.int l1), some (.int l2), some (.int l3)], [])) (M := M9) (o := (pcl GG lay d 156 [.ref 52, .int l3, .int (jn 40)] M9)) (hf := rfl) rfl rfl).trans ?_
  refine kI_in (fun r10 M10 => ?_)
  refine (e_if_ne (hf := rfl)).trans ?_
  refine ite_in ?_ ?_
  · refine (evn_adv 1 (q' := (116, [some (.ref 52), some (.int l1), some (.int l2), some (.int l3)], [.int (jn 0)], M10)) rfl).trans ?_
    exact e_iretz (hf := rfl)
  · refine (evn_adv 6 (q' := (125, [some (.ref 52), some (.int l1), some (.int l2), some (.int l3)], [.int (jn 0), .int (jn 0), .ref 78, .ref 52, .ref 52], M10)) rfl).trans ?_
    refine (e_kI (q := (125, [some (.ref 52), some (.int l1), some (.int l2), some (.int l3)], [.int (jn 0), .int (jn 0), .ref 78, .ref 52, .ref 52])) (q2 := (128, [some (.ref 52), some (.int l1), some (.int l2), some (.int l3)], [.ref 52])) (M := M10) (o := (pcl GG lay d 159 [.ref 52, .ref 78, .int (jn 0), .int (jn 0)] M10)) (hf := rfl) rfl rfl).trans ?_
    refine kI_in (fun r11 M11 => ?_)
    refine (evn_adv 1 (q' := (131, [some (.ref 52), some (.int l1), some (.int l2), some (.int l3)], [], (sI M11 52 (va_up (M11.1 52) 43 r11)))) rfl).trans ?_
    refine wr_in (f := fun M12 => E_162 d (131, [some (.ref 52), some (.int l1), some (.int l2), some (.int l3)], [], M12)) (fun M12 => ?_)
    refine (evn_adv 3 (q' := (137, [some (.ref 52), some (.int l1), some (.int l2), some (.int l3)], [.int (jn 40), .int (M12.1 52 43)], M12)) rfl).trans ?_
    refine (e_ic_le (hf := rfl)).trans ?_
    refine ite_in ?_ ?_
    · refine (evn_adv 1 (q' := (141, [some (.ref 52), some (.int l1), some (.int l2), some (.int l3)], [.int (jn 0)], M12)) rfl).trans ?_
      exact e_iretz (hf := rfl)
    · refine (evn_adv 6 (q' := (151, [some (.ref 52), some (.int l1), some (.int l2), some (.int l3)], [.int (jn 80), .int (jn 0), .ref 79, .ref 52, .ref 52], M12)) rfl).trans ?_
      refine (e_kI (q := (151, [some (.ref 52), some (.int l1), some (.int l2), some (.int l3)], [.int (jn 80), .int (jn 0), .ref 79, .ref 52, .ref 52])) (q2 := (154, [some (.ref 52), some (.int l1), some (.int l2), some (.int l3)], [.ref 52])) (M := M12) (o := (pcl GG lay d 159 [.ref 52, .ref 79, .int (jn 0), .int (jn 80)] M12)) (hf := rfl) rfl rfl).trans ?_
      refine kI_in (fun r13 M13 => ?_)
      refine (evn_adv 1 (q' := (157, [some (.ref 52), some (.int l1), some (.int l2), some (.int l3)], [], (sI M13 52 (va_up (M13.1 52) 45 r13)))) rfl).trans ?_
      refine wr_in (f := fun M14 => E_162 d (157, [some (.ref 52), some (.int l1), some (.int l2), some (.int l3)], [], M14)) (fun M14 => ?_)
      refine (evn_adv 5 (q' := (162, [some (.ref 52), some (.int l1), some (.int l2), some (.int l3)], [.int l3, .int (jn 0), .int (jn 0), .ref 52, .ref 52], M14)) rfl).trans ?_
      refine (e_kI (q := (162, [some (.ref 52), some (.int l1), some (.int l2), some (.int l3)], [.int l3, .int (jn 0), .int (jn 0), .ref 52, .ref 52])) (q2 := (165, [some (.ref 52), some (.int l1), some (.int l2), some (.int l3)], [.ref 52])) (M := M14) (o := (pcl GG lay d 161 [.ref 52, .int (jn 0), .int (jn 0), .int l3] M14)) (hf := rfl) rfl rfl).trans ?_
      refine kI_in (fun r15 M15 => ?_)
      refine (evn_adv 1 (q' := (168, [some (.ref 52), some (.int l1), some (.int l2), some (.int l3)], [], (sI M15 52 (va_up (M15.1 52) 47 r15)))) rfl).trans ?_
      refine wr_in (f := fun M16 => E_162 d (168, [some (.ref 52), some (.int l1), some (.int l2), some (.int l3)], [], M16)) (fun M16 => ?_)
      refine (evn_adv 3 (q' := (174, [some (.ref 52), some (.int l1), some (.int l2), some (.int l3)], [.int (jn 40), .int (M16.1 52 45)], M16)) rfl).trans ?_
      refine (e_ic_gt (hf := rfl)).trans ?_
      refine ite_in ?_ ?_
      · refine (evn_adv 1 (q' := (191, [some (.ref 52), some (.int l1), some (.int l2), some (.int l3)], [.int (jn 0)], M16)) rfl).trans ?_
        exact e_iretz (hf := rfl)
      · refine (evn_adv 3 (q' := (183, [some (.ref 52), some (.int l1), some (.int l2), some (.int l3)], [.int (jn 40), .int (M16.1 52 47)], M16)) rfl).trans ?_
        refine (e_ic_gt (hf := rfl)).trans ?_
        refine ite_in ?_ ?_
        · refine (evn_adv 1 (q' := (191, [some (.ref 52), some (.int l1), some (.int l2), some (.int l3)], [.int (jn 0)], M16)) rfl).trans ?_
          exact e_iretz (hf := rfl)
        · refine (evn_adv 2 (q' := (191, [some (.ref 52), some (.int l1), some (.int l2), some (.int l3)], [.int (jn 1)], M16)) rfl).trans ?_
          exact e_iretz (hf := rfl)
/-- TermStrategiesModel.isNarrow(I)Z -/
noncomputable abbrev E_163 (d : Nat) : PQ → PO := evn (rnn k_163 lay none (pcl GG lay d) 2)
theorem q_163 (d : Nat) (l1 : Int32) (M : PM) : pcl GG lay (d + 1) 163 [.ref 52, .int l1] M = (oB (aldI lay none M 55 ((jn 2) * l1)) fun v1 => (kI (pcl GG lay d 100 [.ref 56, .int ((jn 80) * l1), .int v1] M) fun r2 M2 => (kI (pcl GG lay d 273 [.int r2] M2) fun r3 M3 => (if r3 < (jn 4) then (rZ (jn 1) M3) else (rZ (jn 0) M3))))) := by
  refine (pcl_un (mt := t_163) (by decide) rfl (Nat.le_of_ble_eq_true rfl)).trans ?_
  show E_163 d (0, [some (.ref 52), some (.int l1)], [], M) = _
  refine (evn_adv 10 (q' := (15, [some (.ref 52), some (.int l1)], [.int ((jn 2) * l1), .ref 55, .int ((jn 80) * l1), .ref 56], M)) rfl).trans ?_
  refine (e_oB (q := (15, [some (.ref 52), some (.int l1)], [.int ((jn 2) * l1), .ref 55, .int ((jn 80) * l1), .ref 56], M)) (o := (aldI lay none M 55 ((jn 2) * l1))) (f := fun v1 => (16, [some (.ref 52), some (.int l1)], [.int v1, .int ((jn 80) * l1), .ref 56], M)) (hf := rfl) rfl).trans ?_
  refine oB_in (fun v1 => ?_)
  refine (e_kI (q := (16, [some (.ref 52), some (.int l1)], [.int v1, .int ((jn 80) * l1), .ref 56])) (q2 := (19, [some (.ref 52), some (.int l1)], [])) (M := M) (o := (pcl GG lay d 100 [.ref 56, .int ((jn 80) * l1), .int v1] M)) (hf := rfl) rfl rfl).trans ?_
  refine kI_in (fun r2 M2 => ?_)
  refine (e_kI (q := (19, [some (.ref 52), some (.int l1)], [.int r2])) (q2 := (22, [some (.ref 52), some (.int l1)], [])) (M := M2) (o := (pcl GG lay d 273 [.int r2] M2)) (hf := rfl) rfl rfl).trans ?_
  refine kI_in (fun r3 M3 => ?_)
  refine (evn_adv 1 (q' := (23, [some (.ref 52), some (.int l1)], [.int (jn 4), .int r3], M3)) rfl).trans ?_
  refine (e_ic_ge (hf := rfl)).trans ?_
  refine ite_in ?_ ?_
  · refine (evn_adv 2 (q' := (31, [some (.ref 52), some (.int l1)], [.int (jn 1)], M3)) rfl).trans ?_
    exact e_iretz (hf := rfl)
  · refine (evn_adv 1 (q' := (31, [some (.ref 52), some (.int l1)], [.int (jn 0)], M3)) rfl).trans ?_
    exact e_iretz (hf := rfl)
/-- TermStrategiesModel.overlapsTill(III)I -/
noncomputable abbrev E_164 (d : Nat) : PQ → PO := evn (rnn k_164 lay none (pcl GG lay d) 1)
theorem q_164 (d : Nat) (l1 : Int32) (l2 : Int32) (l3 : Int32) (M : PM) : pcl GG lay (d + 1) 164 [.ref 52, .int l1, .int l2, .int l3] M = (if l1 = l2 then E_164 d (15, [some (.ref 52), some (.int l1), some (.int l2), some (.int l3), some (.int (jn 0)), some (.int (jn 1))], [], M) else E_164 d (15, [some (.ref 52), some (.int l1), some (.int l2), some (.int l3), some (.int (jn 0)), some (.int (jn 0))], [], M)) := by
  refine (pcl_un (mt := t_164) (by decide) rfl (Nat.le_of_ble_eq_true rfl)).trans ?_
  show E_164 d (0, [some (.ref 52), some (.int l1), some (.int l2), some (.int l3), none, none], [], M) = _
  refine (evn_adv 4 (q' := (5, [some (.ref 52), some (.int l1), some (.int l2), some (.int l3), some (.int (jn 0)), none], [.int l2, .int l1], M)) rfl).trans ?_
  refine (e_ic_ne (hf := rfl)).trans ?_
  refine ite_in ?_ ?_
  · refine (evn_adv 3 (q' := (15, [some (.ref 52), some (.int l1), some (.int l2), some (.int l3), some (.int (jn 0)), some (.int (jn 1))], [], M)) rfl).trans ?_
    rfl
  · refine (evn_adv 2 (q' := (15, [some (.ref 52), some (.int l1), some (.int l2), some (.int l3), some (.int (jn 0)), some (.int (jn 0))], [], M)) rfl).trans ?_
    rfl
theorem h_164_15 (d : Nat) (l1 : Int32) (l2 : Int32) (l3 : Int32) (l4 : Int32) (l5 : Int32) (M : PM) : E_164 d (15, [some (.ref 52), some (.int l1), some (.int l2), some (.int l3), some (.int l4), some (.int l5)], [], M) = (oB (aldI lay none M 55 ((jn 2) * l1)) fun v1 => (if l5 < v1 then (if l3 < l4 then (rI l4 M) else (kI (pcl GG lay d 163 [.ref 52, .int l1] M) fun r2 M2 => (if r2 = jn 0 then (rI l4 M2) else (kI (pcl GG lay d 163 [.ref 52, .int l2] M2) fun r3 M3 => (if r3 = jn 0 then (rI l4 M3) else (oB (aldI lay none M3 56 (((jn 80) * l1) + l5)) fun v4 => (kI (pcl GG lay d 76 [.int v4] M3) fun r5 M5 => (if r5 = jn 0 then (kI (pcl GG lay d 162 [.ref 52, .int l1, .int l2, .int l5] M5) fun r6 M6 => (if r6 = jn 0 then E_164 d (15, [some (.ref 52), some (.int l1), some (.int l2), some (.int l3), some (.int l4), some (.int (l5 + (jn 1)))], [], M6) else E_164 d (15, [some (.ref 52), some (.int l1), some (.int l2), some (.int l3), some (.int (l4 + (jn 1))), some (.int (l5 + (jn 1)))], [], M6))) else E_164 d (15, [some (.ref 52), some (.int l1), some (.int l2), some (.int l3), some (.int l4), some (.int (l5 + (jn 1)))], [], M5))))))))) else (rI l4 M))) := by
  refine (evn_adv 6 (q' := (24, [some (.ref 52), some (.int l1), some (.int l2), some (.int l3), some (.int l4), some (.int l5)], [.int ((jn 2) * l1), .ref 55, .int l5], M)) rfl).trans ?_
  refine (e_oB (q := (24, [some (.ref 52), some (.int l1), some (.int l2), some (.int l3), some (.int l4), some (.int l5)], [.int ((jn 2) * l1), .ref 55, .int l5], M)) (o := (aldI lay none M 55 ((jn 2) * l1))) (f := fun v1 => (25, [some (.ref 52), some (.int l1), some (.int l2), some (.int l3), some (.int l4), some (.int l5)], [.int v1, .int l5], M)) (hf := rfl) rfl).trans ?_
  refine oB_in (fun v1 => ?_)
  refine (e_ic_ge (hf := rfl)).trans ?_
  refine ite_in ?_ ?_
  · refine (evn_adv 2 (q' := (31, [some (.ref 52), some (.int l1), some (.int l2), some (.int l3), some (.int l4), some (.int l5)], [.int l3, .int l4], M)) rfl).trans ?_
    refine (e_ic_gt (hf := rfl)).trans ?_
    refine ite_in ?_ ?_
    · refine (evn_adv 1 (q' := (90, [some (.ref 52), some (.int l1), some (.int l2), some (.int l3), some (.int l4), some (.int l5)], [.int l4], M)) rfl).trans ?_
      exact evn_end 1 rfl
    · refine (evn_adv 2 (q' := (36, [some (.ref 52), some (.int l1), some (.int l2), some (.int l3), some (.int l4), some (.int l5)], [.int l1, .ref 52], M)) rfl).trans ?_
      refine (e_kI (q := (36, [some (.ref 52), some (.int l1), some (.int l2), some (.int l3), some (.int l4), some (.int l5)], [.int l1, .ref 52])) (q2 := (39, [some (.ref 52), some (.int l1), some (.int l2), some (.int l3), some (.int l4), some (.int l5)], [])) (M := M) (o := (pcl GG lay d 163 [.ref 52, .int l1] M)) (hf := rfl) rfl rfl).trans ?_
      refine kI_in (fun r2 M2 => ?_)
      refine (e_if_eq (hf := rfl)).trans ?_
      refine ite_in ?_ ?_
      · refine (evn_adv 1 (q' := (90, [some (.ref 52), some (.int l1), some (.int l2), some (.int l3), some (.int l4), some (.int l5)], [.int l4], M2)) rfl).trans ?_
        exact evn_end 1 rfl
      · refine (evn_adv 2 (q' := (44, [some (.ref 52), some (.int l1), some (.int l2), some (.int l3), some (.int l4), some (.int l5)], [.int l2, .ref 52], M2)) rfl).trans ?_
        refine (e_kI (q := (44, [some (.ref 52), some (.int l1), some (.int l2), some (.int l3), some (.int l4), some (.int l5)], [.int l2, .ref 52])) (q2 := (47, [some (.ref 52), some (.int l1), some (.int l2), some (.int l3), some (.int l4), some (.int l5)], [])) (M := M2) (o := (pcl GG lay d 163 [.ref 52, .int l2] M2)) (hf := rfl) rfl rfl).trans ?_
        refine kI_in (fun r3 M3 => ?_)
        refine (e_if_eq (hf := rfl)).trans ?_
        refine ite_in ?_ ?_
        · refine (evn_adv 1 (q' := (90, [some (.ref 52), some (.int l1), some (.int l2), some (.int l3), some (.int l4), some (.int l5)], [.int l4], M3)) rfl).trans ?_
          exact evn_end 1 rfl
        · refine (evn_adv 7 (q' := (61, [some (.ref 52), some (.int l1), some (.int l2), some (.int l3), some (.int l4), some (.int l5)], [.int (((jn 80) * l1) + l5), .ref 56], M3)) rfl).trans ?_
          refine (e_oB (q := (61, [some (.ref 52), some (.int l1), some (.int l2), some (.int l3), some (.int l4), some (.int l5)], [.int (((jn 80) * l1) + l5), .ref 56], M3)) (o := (aldI lay none M3 56 (((jn 80) * l1) + l5))) (f := fun v4 => (62, [some (.ref 52), some (.int l1), some (.int l2), some (.int l3), some (.int l4), some (.int l5)], [.int v4], M3)) (hf := rfl) rfl).trans ?_
          refine oB_in (fun v4 => ?_)
          refine (e_kI (q := (62, [some (.ref 52), some (.int l1), some (.int l2), some (.int l3), some (.int l4), some (.int l5)], [.int v4])) (q2 := (65, [some (.ref 52), some (.int l1), some (.int l2), some (.int l3), some (.int l4), some (.int l5)], [])) (M := M3) (o := (pcl GG lay d 76 [.int v4] M3)) (hf := rfl) rfl rfl).trans ?_
          refine kI_in (fun r5 M5 => ?_)
          refine (e_if_ne (hf := rfl)).trans ?_
          refine ite_in ?_ ?_
          · refine (evn_adv 4 (q' := (73, [some (.ref 52), some (.int l1), some (.int l2), some (.int l3), some (.int l4), some (.int l5)], [.int l5, .int l2, .int l1, .ref 52], M5)) rfl).trans ?_
            refine (e_kI (q := (73, [some (.ref 52), some (.int l1), some (.int l2), some (.int l3), some (.int l4), some (.int l5)], [.int l5, .int l2, .int l1, .ref 52])) (q2 := (76, [some (.ref 52), some (.int l1), some (.int l2), some (.int l3), some (.int l4), some (.int l5)], [])) (M := M5) (o := (pcl GG lay d 162 [.ref 52, .int l1, .int l2, .int l5] M5)) (hf := rfl) rfl rfl).trans ?_
            refine kI_in (fun r6 M6 => ?_)
            refine (e_if_eq (hf := rfl)).trans ?_
            refine ite_in ?_ ?_
            · refine (evn_adv 2 (q' := (15, [some (.ref 52), some (.int l1), some (.int l2), some (.int l3), some (.int l4), some (.int (l5 + (jn 1)))], [], M6)) rfl).trans ?_
              rfl
            · refine (evn_adv 3 (q' := (15, [some (.ref 52), some (.int l1), some (.int l2), some (.int l3), some (.int (l4 + (jn 1))), some (.int (l5 + (jn 1)))], [], M6)) rfl).trans ?_
              rfl
          · refine (evn_adv 2 (q' := (15, [some (.ref 52), some (.int l1), some (.int l2), some (.int l3), some (.int l4), some (.int (l5 + (jn 1)))], [], M5)) rfl).trans ?_
            rfl
  · refine (evn_adv 1 (q' := (90, [some (.ref 52), some (.int l1), some (.int l2), some (.int l3), some (.int l4), some (.int l5)], [.int l4], M)) rfl).trans ?_
    exact evn_end 1 rfl
/-- TermStrategiesModel.overlaps(II)I -/
noncomputable abbrev E_165 (d : Nat) : PQ → PO := evn (rnn k_165 lay none (pcl GG lay d) 1)
theorem q_165 (d : Nat) (l1 : Int32) (l2 : Int32) (M : PM) : pcl GG lay (d + 1) 165 [.ref 52, .int l1, .int l2] M = (kI (pcl GG lay d 73 [.ref 52, .int l1] M) fun r1 M1 => (if r1 = jn 0 then (kI (pcl GG lay d 69 [.ref 52, .int (jz 1)] M1) fun r2 M2 => (rI r2 M2)) else (kI (pcl GG lay d 73 [.ref 52, .int l2] M1) fun r2 M2 => (if r2 = jn 0 then (kI (pcl GG lay d 69 [.ref 52, .int (jz 1)] M2) fun r3 M3 => (rI r3 M3)) else (kI (pcl GG lay d 164 [.ref 52, .int l1, .int l2, .int (jn 40)] M2) fun r3 M3 => (rI r3 M3)))))) := by
  refine (pcl_un (mt := t_165) (by decide) rfl (Nat.le_of_ble_eq_true rfl)).trans ?_
  show E_165 d (0, [some (.ref 52), some (.int l1), some (.int l2)], [], M) = _
  refine (evn_adv 2 (q' := (2, [some (.ref 52), some (.int l1), some (.int l2)], [.int l1, .ref 52], M)) rfl).trans ?_
  refine (e_kI (q := (2, [some (.ref 52), some (.int l1), some (.int l2)], [.int l1, .ref 52])) (q2 := (5, [some (.ref 52), some (.int l1), some (.int l2)], [])) (M := M) (o := (pcl GG lay d 73 [.ref 52, .int l1] M)) (hf := rfl) rfl rfl).trans ?_
  refine kI_in (fun r1 M1 => ?_)
  refine (e_if_eq (hf := rfl)).trans ?_
  refine ite_in ?_ ?_
  · refine (evn_adv 2 (q' := (18, [some (.ref 52), some (.int l1), some (.int l2)], [.int (jz 1), .ref 52], M1)) rfl).trans ?_
    refine (e_kI (q := (18, [some (.ref 52), some (.int l1), some (.int l2)], [.int (jz 1), .ref 52])) (q2 := (21, [some (.ref 52), some (.int l1), some (.int l2)], [])) (M := M1) (o := (pcl GG lay d 69 [.ref 52, .int (jz 1)] M1)) (hf := rfl) rfl rfl).trans ?_
    refine kI_in (fun r2 M2 => ?_)
    exact evn_end 1 rfl
  · refine (evn_adv 2 (q' := (10, [some (.ref 52), some (.int l1), some (.int l2)], [.int l2, .ref 52], M1)) rfl).trans ?_
    refine (e_kI (q := (10, [some (.ref 52), some (.int l1), some (.int l2)], [.int l2, .ref 52])) (q2 := (13, [some (.ref 52), some (.int l1), some (.int l2)], [])) (M := M1) (o := (pcl GG lay d 73 [.ref 52, .int l2] M1)) (hf := rfl) rfl rfl).trans ?_
    refine kI_in (fun r2 M2 => ?_)
    refine (e_if_ne (hf := rfl)).trans ?_
    refine ite_in ?_ ?_
    · refine (evn_adv 2 (q' := (18, [some (.ref 52), some (.int l1), some (.int l2)], [.int (jz 1), .ref 52], M2)) rfl).trans ?_
      refine (e_kI (q := (18, [some (.ref 52), some (.int l1), some (.int l2)], [.int (jz 1), .ref 52])) (q2 := (21, [some (.ref 52), some (.int l1), some (.int l2)], [])) (M := M2) (o := (pcl GG lay d 69 [.ref 52, .int (jz 1)] M2)) (hf := rfl) rfl rfl).trans ?_
      refine kI_in (fun r3 M3 => ?_)
      exact evn_end 1 rfl
    · refine (evn_adv 4 (q' := (27, [some (.ref 52), some (.int l1), some (.int l2)], [.int (jn 40), .int l2, .int l1, .ref 52], M2)) rfl).trans ?_
      refine (e_kI (q := (27, [some (.ref 52), some (.int l1), some (.int l2)], [.int (jn 40), .int l2, .int l1, .ref 52])) (q2 := (30, [some (.ref 52), some (.int l1), some (.int l2)], [])) (M := M2) (o := (pcl GG lay d 164 [.ref 52, .int l1, .int l2, .int (jn 40)] M2)) (hf := rfl) rfl rfl).trans ?_
      refine kI_in (fun r3 M3 => ?_)
      exact evn_end 1 rfl
/-- TermStrategiesModel.isOverlap(III)Z -/
noncomputable abbrev E_166 (d : Nat) : PQ → PO := evn (rnn k_166 lay none (pcl GG lay d) 2)
theorem q_166 (d : Nat) (l1 : Int32) (l2 : Int32) (l3 : Int32) (M : PM) : pcl GG lay (d + 1) 166 [.ref 52, .int l1, .int l2, .int l3] M = (if l3 < jn 0 then (rZ (jn 0) M) else (if l3 < (jn 40) then (kI (pcl GG lay d 164 [.ref 52, .int l1, .int l2, .int l3] M) fun r1 M1 => (if r1 = (l3 + (jn 1)) then (rZ (jn 1) M1) else (rZ (jn 0) M1))) else (rZ (jn 0) M))) := by
  refine (pcl_un (mt := t_166) (by decide) rfl (Nat.le_of_ble_eq_true rfl)).trans ?_
  show E_166 d (0, [some (.ref 52), some (.int l1), some (.int l2), some (.int l3)], [], M) = _
  refine (evn_adv 1 (q' := (1, [some (.ref 52), some (.int l1), some (.int l2), some (.int l3)], [.int l3], M)) rfl).trans ?_
  refine (e_if_lt (hf := rfl)).trans ?_
  refine ite_in ?_ ?_
  · refine (evn_adv 1 (q' := (28, [some (.ref 52), some (.int l1), some (.int l2), some (.int l3)], [.int (jn 0)], M)) rfl).trans ?_
    exact e_iretz (hf := rfl)
  · refine (evn_adv 2 (q' := (7, [some (.ref 52), some (.int l1), some (.int l2), some (.int l3)], [.int (jn 40), .int l3], M)) rfl).trans ?_
    refine (e_ic_ge (hf := rfl)).trans ?_
    refine ite_in ?_ ?_
    · refine (evn_adv 4 (q' := (14, [some (.ref 52), some (.int l1), some (.int l2), some (.int l3)], [.int l3, .int l2, .int l1, .ref 52], M)) rfl).trans ?_
      refine (e_kI (q := (14, [some (.ref 52), some (.int l1), some (.int l2), some (.int l3)], [.int l3, .int l2, .int l1, .ref 52])) (q2 := (17, [some (.ref 52), some (.int l1), some (.int l2), some (.int l3)], [])) (M := M) (o := (pcl GG lay d 164 [.ref 52, .int l1, .int l2, .int l3] M)) (hf := rfl) rfl rfl).trans ?_
      refine kI_in (fun r1 M1 => ?_)
      refine (evn_adv 3 (q' := (20, [some (.ref 52), some (.int l1), some (.int l2), some (.int l3)], [.int (l3 + (jn 1)), .int r1], M1)) rfl).trans ?_
      refine (e_ic_ne (hf := rfl)).trans ?_
      refine ite_in ?_ ?_
      · refine (evn_adv 2 (q' := (28, [some (.ref 52), some (.int l1), some (.int l2), some (.int l3)], [.int (jn 1)], M1)) rfl).trans ?_
        exact e_iretz (hf := rfl)
      · refine (evn_adv 1 (q' := (28, [some (.ref 52), some (.int l1), some (.int l2), some (.int l3)], [.int (jn 0)], M1)) rfl).trans ?_
        exact e_iretz (hf := rfl)
    · refine (evn_adv 1 (q' := (28, [some (.ref 52), some (.int l1), some (.int l2), some (.int l3)], [.int (jn 0)], M)) rfl).trans ?_
      exact e_iretz (hf := rfl)
/-- TermStrategiesModel.overlap(IIII)I -/
noncomputable abbrev E_167 (d : Nat) : PQ → PO := evn (rnn k_167 lay none (pcl GG lay d) 1)
theorem q_167 (d : Nat) (l1 : Int32) (l2 : Int32) (l3 : Int32) (l4 : Int32) (M : PM) : pcl GG lay (d + 1) 167 [.ref 52, .int l1, .int l2, .int l3, .int l4] M = (kI (pcl GG lay d 73 [.ref 52, .int l1] M) fun r1 M1 => (if r1 = jn 0 then (kI (pcl GG lay d 69 [.ref 52, .int (jz 1)] M1) fun r2 M2 => (rI r2 M2)) else (kI (pcl GG lay d 73 [.ref 52, .int l2] M1) fun r2 M2 => (if r2 = jn 0 then (kI (pcl GG lay d 69 [.ref 52, .int (jz 1)] M2) fun r3 M3 => (rI r3 M3)) else (kI (pcl GG lay d 71 [.int l4, .int (jn 0), .int (jn 2)] M2) fun r3 M3 => (if r3 = jn 0 then (kI (pcl GG lay d 69 [.ref 52, .int (jz 5)] M3) fun r4 M4 => (rI r4 M4)) else (kI (pcl GG lay d 166 [.ref 52, .int l1, .int l2, .int l3] M3) fun r4 M4 => (if r4 = jn 0 then (kI (pcl GG lay d 69 [.ref 52, .int (jz 5)] M4) fun r5 M5 => (rI r5 M5)) else (if (M4.1 52 0) = (jn 24) then (kI (pcl GG lay d 69 [.ref 52, .int (jz 7)] M4) fun r5 M5 => (rI r5 M5)) else (if l4 = jn 0 then (kI (pcl GG lay d 92 [.ref 52, .ref 78, .int (M4.1 52 43)] M4) fun r5 M5 => (rI r5 M5)) else (if l4 = (jn 1) then (kI (pcl GG lay d 92 [.ref 52, .ref 79, .int (M4.1 52 45)] M4) fun r5 M5 => (rI r5 M5)) else (kI (pcl GG lay d 92 [.ref 52, .ref 80, .int (M4.1 52 47)] M4) fun r5 M5 => (rI r5 M5))))))))))))) := by
  refine (pcl_un (mt := t_167) (by decide) rfl (Nat.le_of_ble_eq_true rfl)).trans ?_
  show E_167 d (0, [some (.ref 52), some (.int l1), some (.int l2), some (.int l3), some (.int l4)], [], M) = _
  refine (evn_adv 2 (q' := (2, [some (.ref 52), some (.int l1), some (.int l2), some (.int l3), some (.int l4)], [.int l1, .ref 52], M)) rfl).trans ?_
  refine (e_kI (q := (2, [some (.ref 52), some (.int l1), some (.int l2), some (.int l3), some (.int l4)], [.int l1, .ref 52])) (q2 := (5, [some (.ref 52), some (.int l1), some (.int l2), some (.int l3), some (.int l4)], [])) (M := M) (o := (pcl GG lay d 73 [.ref 52, .int l1] M)) (hf := rfl) rfl rfl).trans ?_
  refine kI_in (fun r1 M1 => ?_)
  refine (e_if_eq (hf := rfl)).trans ?_
  refine ite_in ?_ ?_
  · refine (evn_adv 2 (q' := (18, [some (.ref 52), some (.int l1), some (.int l2), some (.int l3), some (.int l4)], [.int (jz 1), .ref 52], M1)) rfl).trans ?_
    refine (e_kI (q := (18, [some (.ref 52), some (.int l1), some (.int l2), some (.int l3), some (.int l4)], [.int (jz 1), .ref 52])) (q2 := (21, [some (.ref 52), some (.int l1), some (.int l2), some (.int l3), some (.int l4)], [])) (M := M1) (o := (pcl GG lay d 69 [.ref 52, .int (jz 1)] M1)) (hf := rfl) rfl rfl).trans ?_
    refine kI_in (fun r2 M2 => ?_)
    exact evn_end 1 rfl
  · refine (evn_adv 2 (q' := (10, [some (.ref 52), some (.int l1), some (.int l2), some (.int l3), some (.int l4)], [.int l2, .ref 52], M1)) rfl).trans ?_
    refine (e_kI (q := (10, [some (.ref 52), some (.int l1), some (.int l2), some (.int l3), some (.int l4)], [.int l2, .ref 52])) (q2 := (13, [some (.ref 52), some (.int l1), some (.int l2), some (.int l3), some (.int l4)], [])) (M := M1) (o := (pcl GG lay d 73 [.ref 52, .int l2] M1)) (hf := rfl) rfl rfl).trans ?_
    refine kI_in (fun r2 M2 => ?_)
    refine (e_if_ne (hf := rfl)).trans ?_
    refine ite_in ?_ ?_
    · refine (evn_adv 2 (q' := (18, [some (.ref 52), some (.int l1), some (.int l2), some (.int l3), some (.int l4)], [.int (jz 1), .ref 52], M2)) rfl).trans ?_
      refine (e_kI (q := (18, [some (.ref 52), some (.int l1), some (.int l2), some (.int l3), some (.int l4)], [.int (jz 1), .ref 52])) (q2 := (21, [some (.ref 52), some (.int l1), some (.int l2), some (.int l3), some (.int l4)], [])) (M := M2) (o := (pcl GG lay d 69 [.ref 52, .int (jz 1)] M2)) (hf := rfl) rfl rfl).trans ?_
      refine kI_in (fun r3 M3 => ?_)
      exact evn_end 1 rfl
    · refine (evn_adv 3 (q' := (26, [some (.ref 52), some (.int l1), some (.int l2), some (.int l3), some (.int l4)], [.int (jn 2), .int (jn 0), .int l4], M2)) rfl).trans ?_
      refine (e_kI (q := (26, [some (.ref 52), some (.int l1), some (.int l2), some (.int l3), some (.int l4)], [.int (jn 2), .int (jn 0), .int l4])) (q2 := (29, [some (.ref 52), some (.int l1), some (.int l2), some (.int l3), some (.int l4)], [])) (M := M2) (o := (pcl GG lay d 71 [.int l4, .int (jn 0), .int (jn 2)] M2)) (hf := rfl) rfl rfl).trans ?_
      refine kI_in (fun r3 M3 => ?_)
      refine (e_if_eq (hf := rfl)).trans ?_
      refine ite_in ?_ ?_
      · refine (evn_adv 2 (q' := (45, [some (.ref 52), some (.int l1), some (.int l2), some (.int l3), some (.int l4)], [.int (jz 5), .ref 52], M3)) rfl).trans ?_
        refine (e_kI (q := (45, [some (.ref 52), some (.int l1), some (.int l2), some (.int l3), some (.int l4)], [.int (jz 5), .ref 52])) (q2 := (48, [some (.ref 52), some (.int l1), some (.int l2), some (.int l3), some (.int l4)], [])) (M := M3) (o := (pcl GG lay d 69 [.ref 52, .int (jz 5)] M3)) (hf := rfl) rfl rfl).trans ?_
        refine kI_in (fun r4 M4 => ?_)
        exact evn_end 1 rfl
      · refine (evn_adv 4 (q' := (36, [some (.ref 52), some (.int l1), some (.int l2), some (.int l3), some (.int l4)], [.int l3, .int l2, .int l1, .ref 52], M3)) rfl).trans ?_
        refine (e_kI (q := (36, [some (.ref 52), some (.int l1), some (.int l2), some (.int l3), some (.int l4)], [.int l3, .int l2, .int l1, .ref 52])) (q2 := (39, [some (.ref 52), some (.int l1), some (.int l2), some (.int l3), some (.int l4)], [])) (M := M3) (o := (pcl GG lay d 166 [.ref 52, .int l1, .int l2, .int l3] M3)) (hf := rfl) rfl rfl).trans ?_
        refine kI_in (fun r4 M4 => ?_)
        refine (e_if_ne (hf := rfl)).trans ?_
        refine ite_in ?_ ?_
        · refine (evn_adv 2 (q' := (45, [some (.ref 52), some (.int l1), some (.int l2), some (.int l3), some (.int l4)], [.int (jz 5), .ref 52], M4)) rfl).trans ?_
          refine (e_kI (q := (45, [some (.ref 52), some (.int l1), some (.int l2), some (.int l3), some (.int l4)], [.int (jz 5), .ref 52])) (q2 := (48, [some (.ref 52), some (.int l1), some (.int l2), some (.int l3), some (.int l4)], [])) (M := M4) (o := (pcl GG lay d 69 [.ref 52, .int (jz 5)] M4)) (hf := rfl) rfl rfl).trans ?_
          refine kI_in (fun r5 M5 => ?_)
          exact evn_end 1 rfl
        · refine (evn_adv 3 (q' := (55, [some (.ref 52), some (.int l1), some (.int l2), some (.int l3), some (.int l4)], [.int (jn 24), .int (M4.1 52 0)], M4)) rfl).trans ?_
          refine (e_ic_ne (hf := rfl)).trans ?_
          refine ite_in ?_ ?_
          · refine (evn_adv 2 (q' := (61, [some (.ref 52), some (.int l1), some (.int l2), some (.int l3), some (.int l4)], [.int (jz 7), .ref 52], M4)) rfl).trans ?_
            refine (e_kI (q := (61, [some (.ref 52), some (.int l1), some (.int l2), some (.int l3), some (.int l4)], [.int (jz 7), .ref 52])) (q2 := (64, [some (.ref 52), some (.int l1), some (.int l2), some (.int l3), some (.int l4)], [])) (M := M4) (o := (pcl GG lay d 69 [.ref 52, .int (jz 7)] M4)) (hf := rfl) rfl rfl).trans ?_
            refine kI_in (fun r5 M5 => ?_)
            exact evn_end 1 rfl
          · refine (evn_adv 1 (q' := (67, [some (.ref 52), some (.int l1), some (.int l2), some (.int l3), some (.int l4)], [.int l4], M4)) rfl).trans ?_
            refine (e_if_ne (hf := rfl)).trans ?_
            refine ite_in ?_ ?_
            · refine (evn_adv 5 (q' := (79, [some (.ref 52), some (.int l1), some (.int l2), some (.int l3), some (.int l4)], [.int (M4.1 52 43), .ref 78, .ref 52], M4)) rfl).trans ?_
              refine (e_kI (q := (79, [some (.ref 52), some (.int l1), some (.int l2), some (.int l3), some (.int l4)], [.int (M4.1 52 43), .ref 78, .ref 52])) (q2 := (82, [some (.ref 52), some (.int l1), some (.int l2), some (.int l3), some (.int l4)], [])) (M := M4) (o := (pcl GG lay d 92 [.ref 52, .ref 78, .int (M4.1 52 43)] M4)) (hf := rfl) rfl rfl).trans ?_
              refine kI_in (fun r5 M5 => ?_)
              refine (evn_adv 1 (q' := (118, [some (.ref 52), some (.int l1), some (.int l2), some (.int l3), some (.int l4)], [.int r5], M5)) rfl).trans ?_
              exact evn_end 1 rfl
            · refine (evn_adv 2 (q' := (88, [some (.ref 52), some (.int l1), some (.int l2), some (.int l3), some (.int l4)], [.int (jn 1), .int l4], M4)) rfl).trans ?_
              refine (e_ic_ne (hf := rfl)).trans ?_
              refine ite_in ?_ ?_
              · refine (evn_adv 5 (q' := (100, [some (.ref 52), some (.int l1), some (.int l2), some (.int l3), some (.int l4)], [.int (M4.1 52 45), .ref 79, .ref 52], M4)) rfl).trans ?_
                refine (e_kI (q := (100, [some (.ref 52), some (.int l1), some (.int l2), some (.int l3), some (.int l4)], [.int (M4.1 52 45), .ref 79, .ref 52])) (q2 := (103, [some (.ref 52), some (.int l1), some (.int l2), some (.int l3), some (.int l4)], [])) (M := M4) (o := (pcl GG lay d 92 [.ref 52, .ref 79, .int (M4.1 52 45)] M4)) (hf := rfl) rfl rfl).trans ?_
                refine kI_in (fun r5 M5 => ?_)
                refine (evn_adv 1 (q' := (118, [some (.ref 52), some (.int l1), some (.int l2), some (.int l3), some (.int l4)], [.int r5], M5)) rfl).trans ?_
                exact evn_end 1 rfl
              · refine (evn_adv 5 (q' := (115, [some (.ref 52), some (.int l1), some (.int l2), some (.int l3), some (.int l4)], [.int (M4.1 52 47), .ref 80, .ref 52], M4)) rfl).trans ?_
                refine (e_kI (q := (115, [some (.ref 52), some (.int l1), some (.int l2), some (.int l3), some (.int l4)], [.int (M4.1 52 47), .ref 80, .ref 52])) (q2 := (118, [some (.ref 52), some (.int l1), some (.int l2), some (.int l3), some (.int l4)], [])) (M := M4) (o := (pcl GG lay d 92 [.ref 52, .ref 80, .int (M4.1 52 47)] M4)) (hf := rfl) rfl rfl).trans ?_
                refine kI_in (fun r5 M5 => ?_)
                exact evn_end 1 rfl
/-- TermStrategiesModel.normal([II)I -/
noncomputable abbrev E_168 (d : Nat) : PQ → PO := evn (rnn k_168 lay none (pcl GG lay d) 1)
theorem q_168 (d : Nat) (l1 : Nat) (l2 : Int32) (M : PM) : pcl GG lay (d + 1) 168 [.ref 52, .ref l1, .int l2] M = (wr (sI M 52 (va_up (M.1 52) 19 l2)) fun M1 => E_168 d (7, [some (.ref 52), some (.ref l1), some (.int l2), some (.int (jn 0))], [], M1)) := by
  refine (pcl_un (mt := t_168) (by decide) rfl (Nat.le_of_ble_eq_true rfl)).trans ?_
  show E_168 d (0, [some (.ref 52), some (.ref l1), some (.int l2), none], [], M) = _
  refine (evn_adv 2 (q' := (2, [some (.ref 52), some (.ref l1), some (.int l2), none], [.int l2, .ref 52], M)) rfl).trans ?_
  refine (evn_adv 1 (q' := (5, [some (.ref 52), some (.ref l1), some (.int l2), none], [], (sI M 52 (va_up (M.1 52) 19 l2)))) rfl).trans ?_
  refine wr_in (f := fun M1 => E_168 d (5, [some (.ref 52), some (.ref l1), some (.int l2), none], [], M1)) (fun M1 => ?_)
  refine (evn_adv 2 (q' := (7, [some (.ref 52), some (.ref l1), some (.int l2), some (.int (jn 0))], [], M1)) rfl).trans ?_
  rfl
theorem h_168_7 (d : Nat) (l1 : Nat) (l2 : Int32) (l3 : Int32) (M : PM) : E_168 d (7, [some (.ref 52), some (.ref l1), some (.int l2), some (.int l3)], [], M) = (if l3 < l2 then (oB (aldI lay none M l1 l3) fun v1 => (oB (astI lay M 65 l3 v1) fun M2 => E_168 d (7, [some (.ref 52), some (.ref l1), some (.int l2), some (.int (l3 + (jn 1)))], [], M2))) else (kV (pcl GG lay d 141 [.ref 52] M) fun M1 => (kI (pcl GG lay d 142 [.ref 52, .int (jn 300)] M1) fun r2 M2 => (rI r2 M2)))) := by
  refine (evn_adv 2 (q' := (9, [some (.ref 52), some (.ref l1), some (.int l2), some (.int l3)], [.int l2, .int l3], M)) rfl).trans ?_
  refine (e_ic_ge (hf := rfl)).trans ?_
  refine ite_in ?_ ?_
  · refine (evn_adv 5 (q' := (19, [some (.ref 52), some (.ref l1), some (.int l2), some (.int l3)], [.int l3, .ref l1, .int l3, .ref 65], M)) rfl).trans ?_
    refine (e_oB (q := (19, [some (.ref 52), some (.ref l1), some (.int l2), some (.int l3)], [.int l3, .ref l1, .int l3, .ref 65], M)) (o := (aldI lay none M l1 l3)) (f := fun v1 => (20, [some (.ref 52), some (.ref l1), some (.int l2), some (.int l3)], [.int v1, .int l3, .ref 65], M)) (hf := rfl) rfl).trans ?_
    refine oB_in (fun v1 => ?_)
    refine (e_oB (q := (20, [some (.ref 52), some (.ref l1), some (.int l2), some (.int l3)], [.int v1, .int l3, .ref 65], M)) (o := (astI lay M 65 l3 v1)) (f := fun M2 => (21, [some (.ref 52), some (.ref l1), some (.int l2), some (.int l3)], [], M2)) (hf := rfl) rfl).trans ?_
    refine oB_in (fun M2 => ?_)
    refine (evn_adv 2 (q' := (7, [some (.ref 52), some (.ref l1), some (.int l2), some (.int (l3 + (jn 1)))], [], M2)) rfl).trans ?_
    rfl
  · refine (evn_adv 1 (q' := (28, [some (.ref 52), some (.ref l1), some (.int l2), some (.int l3)], [.ref 52], M)) rfl).trans ?_
    refine (e_kV (q := (28, [some (.ref 52), some (.ref l1), some (.int l2), some (.int l3)], [.ref 52])) (q2 := (31, [some (.ref 52), some (.ref l1), some (.int l2), some (.int l3)], [])) (M := M) (o := (pcl GG lay d 141 [.ref 52] M)) (hf := rfl) rfl rfl).trans ?_
    refine kV_in (fun M1 => ?_)
    refine (evn_adv 2 (q' := (35, [some (.ref 52), some (.ref l1), some (.int l2), some (.int l3)], [.int (jn 300), .ref 52], M1)) rfl).trans ?_
    refine (e_kI (q := (35, [some (.ref 52), some (.ref l1), some (.int l2), some (.int l3)], [.int (jn 300), .ref 52])) (q2 := (38, [some (.ref 52), some (.ref l1), some (.int l2), some (.int l3)], [])) (M := M1) (o := (pcl GG lay d 142 [.ref 52, .int (jn 300)] M1)) (hf := rfl) rfl rfl).trans ?_
    refine kI_in (fun r2 M2 => ?_)
    exact evn_end 1 rfl
/-- TermStrategiesModel.meets(III)I -/
noncomputable abbrev E_169 (d : Nat) : PQ → PO := evn (rnn k_169 lay none (pcl GG lay d) 1)
theorem q_169 (d : Nat) (l1 : Int32) (l2 : Int32) (l3 : Int32) (M : PM) : pcl GG lay (d + 1) 169 [.ref 52, .int l1, .int l2, .int l3] M = (kI (pcl GG lay d 73 [.ref 52, .int l1] M) fun r1 M1 => (if r1 = jn 0 then (kI (pcl GG lay d 69 [.ref 52, .int (jz 1)] M1) fun r2 M2 => (rI r2 M2)) else (kI (pcl GG lay d 73 [.ref 52, .int l2] M1) fun r2 M2 => (if r2 = jn 0 then (kI (pcl GG lay d 69 [.ref 52, .int (jz 1)] M2) fun r3 M3 => (rI r3 M3)) else (kI (pcl GG lay d 166 [.ref 52, .int l1, .int l2, .int l3] M2) fun r3 M3 => (if r3 = jn 0 then (kI (pcl GG lay d 69 [.ref 52, .int (jz 5)] M3) fun r4 M4 => (rI r4 M4)) else (kI (pcl GG lay d 168 [.ref 52, .ref 79, .int (M3.1 52 45)] M3) fun r4 M4 => E_169 d (56, [some (.ref 52), some (.int l1), some (.int l2), some (.int l3), some (.int r4), some (.int (jn 0)), none], [], M4)))))))) := by
  refine (pcl_un (mt := t_169) (by decide) rfl (Nat.le_of_ble_eq_true rfl)).trans ?_
  show E_169 d (0, [some (.ref 52), some (.int l1), some (.int l2), some (.int l3), none, none, none], [], M) = _
  refine (evn_adv 2 (q' := (2, [some (.ref 52), some (.int l1), some (.int l2), some (.int l3), none, none, none], [.int l1, .ref 52], M)) rfl).trans ?_
  refine (e_kI (q := (2, [some (.ref 52), some (.int l1), some (.int l2), some (.int l3), none, none, none], [.int l1, .ref 52])) (q2 := (5, [some (.ref 52), some (.int l1), some (.int l2), some (.int l3), none, none, none], [])) (M := M) (o := (pcl GG lay d 73 [.ref 52, .int l1] M)) (hf := rfl) rfl rfl).trans ?_
  refine kI_in (fun r1 M1 => ?_)
  refine (e_if_eq (hf := rfl)).trans ?_
  refine ite_in ?_ ?_
  · refine (evn_adv 2 (q' := (18, [some (.ref 52), some (.int l1), some (.int l2), some (.int l3), none, none, none], [.int (jz 1), .ref 52], M1)) rfl).trans ?_
    refine (e_kI (q := (18, [some (.ref 52), some (.int l1), some (.int l2), some (.int l3), none, none, none], [.int (jz 1), .ref 52])) (q2 := (21, [some (.ref 52), some (.int l1), some (.int l2), some (.int l3), none, none, none], [])) (M := M1) (o := (pcl GG lay d 69 [.ref 52, .int (jz 1)] M1)) (hf := rfl) rfl rfl).trans ?_
    refine kI_in (fun r2 M2 => ?_)
    exact evn_end 1 rfl
  · refine (evn_adv 2 (q' := (10, [some (.ref 52), some (.int l1), some (.int l2), some (.int l3), none, none, none], [.int l2, .ref 52], M1)) rfl).trans ?_
    refine (e_kI (q := (10, [some (.ref 52), some (.int l1), some (.int l2), some (.int l3), none, none, none], [.int l2, .ref 52])) (q2 := (13, [some (.ref 52), some (.int l1), some (.int l2), some (.int l3), none, none, none], [])) (M := M1) (o := (pcl GG lay d 73 [.ref 52, .int l2] M1)) (hf := rfl) rfl rfl).trans ?_
    refine kI_in (fun r2 M2 => ?_)
    refine (e_if_ne (hf := rfl)).trans ?_
    refine ite_in ?_ ?_
    · refine (evn_adv 2 (q' := (18, [some (.ref 52), some (.int l1), some (.int l2), some (.int l3), none, none, none], [.int (jz 1), .ref 52], M2)) rfl).trans ?_
      refine (e_kI (q := (18, [some (.ref 52), some (.int l1), some (.int l2), some (.int l3), none, none, none], [.int (jz 1), .ref 52])) (q2 := (21, [some (.ref 52), some (.int l1), some (.int l2), some (.int l3), none, none, none], [])) (M := M2) (o := (pcl GG lay d 69 [.ref 52, .int (jz 1)] M2)) (hf := rfl) rfl rfl).trans ?_
      refine kI_in (fun r3 M3 => ?_)
      exact evn_end 1 rfl
    · refine (evn_adv 4 (q' := (26, [some (.ref 52), some (.int l1), some (.int l2), some (.int l3), none, none, none], [.int l3, .int l2, .int l1, .ref 52], M2)) rfl).trans ?_
      refine (e_kI (q := (26, [some (.ref 52), some (.int l1), some (.int l2), some (.int l3), none, none, none], [.int l3, .int l2, .int l1, .ref 52])) (q2 := (29, [some (.ref 52), some (.int l1), some (.int l2), some (.int l3), none, none, none], [])) (M := M2) (o := (pcl GG lay d 166 [.ref 52, .int l1, .int l2, .int l3] M2)) (hf := rfl) rfl rfl).trans ?_
      refine kI_in (fun r3 M3 => ?_)
      refine (e_if_ne (hf := rfl)).trans ?_
      refine ite_in ?_ ?_
      · refine (evn_adv 2 (q' := (35, [some (.ref 52), some (.int l1), some (.int l2), some (.int l3), none, none, none], [.int (jz 5), .ref 52], M3)) rfl).trans ?_
        refine (e_kI (q := (35, [some (.ref 52), some (.int l1), some (.int l2), some (.int l3), none, none, none], [.int (jz 5), .ref 52])) (q2 := (38, [some (.ref 52), some (.int l1), some (.int l2), some (.int l3), none, none, none], [])) (M := M3) (o := (pcl GG lay d 69 [.ref 52, .int (jz 5)] M3)) (hf := rfl) rfl rfl).trans ?_
        refine kI_in (fun r4 M4 => ?_)
        exact evn_end 1 rfl
      · refine (evn_adv 5 (q' := (48, [some (.ref 52), some (.int l1), some (.int l2), some (.int l3), none, none, none], [.int (M3.1 52 45), .ref 79, .ref 52], M3)) rfl).trans ?_
        refine (e_kI (q := (48, [some (.ref 52), some (.int l1), some (.int l2), some (.int l3), none, none, none], [.int (M3.1 52 45), .ref 79, .ref 52])) (q2 := (51, [some (.ref 52), some (.int l1), some (.int l2), some (.int l3), none, none, none], [])) (M := M3) (o := (pcl GG lay d 168 [.ref 52, .ref 79, .int (M3.1 52 45)] M3)) (hf := rfl) rfl rfl).trans ?_
        refine kI_in (fun r4 M4 => ?_)
        refine (evn_adv 3 (q' := (56, [some (.ref 52), some (.int l1), some (.int l2), some (.int l3), some (.int r4), some (.int (jn 0)), none], [], M4)) rfl).trans ?_
        rfl
theorem h_169_56 (d : Nat) (u1 : Option Value) (u2 : Option Value) (u3 : Option Value) (l4 : Int32) (l5 : Int32) (u6 : Option Value) (M : PM) : E_169 d (56, [some (.ref 52), u1, u2, u3, some (.int l4), some (.int l5), u6], [], M) = (if l5 < (M.1 52 19) then (if l4 = jn 0 then (oB (aldI lay none M 65 l5) fun v1 => (oB (astI lay M 78 l5 v1) fun M2 => E_169 d (56, [some (.ref 52), u1, u2, u3, some (.int l4), some (.int (l5 + (jn 1))), u6], [], M2))) else (if l4 = (jn 2) then (rI (jn 2) M) else (kI (pcl GG lay d 168 [.ref 52, .ref 80, .int (M.1 52 47)] M) fun r1 M1 => (if r1 = (jn 2) then (rI (jn 2) M1) else (if (M1.1 52 19) = (M.1 52 19) then E_169 d (134, [some (.ref 52), u1, u2, u3, some (.int l4), some (.int (M.1 52 19)), some (.int (jn 0))], [], M1) else (rI (jn 0) M1)))))) else (if l4 = (jn 2) then (rI (jn 2) M) else (kI (pcl GG lay d 168 [.ref 52, .ref 80, .int (M.1 52 47)] M) fun r1 M1 => (if r1 = (jn 2) then (rI (jn 2) M1) else (if (M1.1 52 19) = (M.1 52 19) then E_169 d (134, [some (.ref 52), u1, u2, u3, some (.int l4), some (.int (M.1 52 19)), some (.int (jn 0))], [], M1) else (rI (jn 0) M1)))))) := by
  refine (evn_adv 3 (q' := (62, [some (.ref 52), u1, u2, u3, some (.int l4), some (.int l5), u6], [.int (M.1 52 19), .int l5], M)) rfl).trans ?_
  refine (e_ic_ge (hf := rfl)).trans ?_
  refine ite_in ?_ ?_
  · refine (evn_adv 1 (q' := (67, [some (.ref 52), u1, u2, u3, some (.int l4), some (.int l5), u6], [.int l4], M)) rfl).trans ?_
    refine (e_if_ne (hf := rfl)).trans ?_
    refine ite_in ?_ ?_
    · refine (evn_adv 6 (q' := (82, [some (.ref 52), u1, u2, u3, some (.int l4), some (.int l5), u6], [.int l5, .ref 65, .int l5, .ref 78], M)) rfl).trans ?_
      refine (e_oB (q := (82, [some (.ref 52), u1, u2, u3, some (.int l4), some (.int l5), u6], [.int l5, .ref 65, .int l5, .ref 78], M)) (o := (aldI lay none M 65 l5)) (f := fun v1 => (83, [some (.ref 52), u1, u2, u3, some (.int l4), some (.int l5), u6], [.int v1, .int l5, .ref 78], M)) (hf := rfl) rfl).trans ?_
      refine oB_in (fun v1 => ?_)
      refine (e_oB (q := (83, [some (.ref 52), u1, u2, u3, some (.int l4), some (.int l5), u6], [.int v1, .int l5, .ref 78], M)) (o := (astI lay M 78 l5 v1)) (f := fun M2 => (84, [some (.ref 52), u1, u2, u3, some (.int l4), some (.int l5), u6], [], M2)) (hf := rfl) rfl).trans ?_
      refine oB_in (fun M2 => ?_)
      refine (evn_adv 2 (q' := (56, [some (.ref 52), u1, u2, u3, some (.int l4), some (.int (l5 + (jn 1))), u6], [], M2)) rfl).trans ?_
      rfl
    · refine (evn_adv 5 (q' := (99, [some (.ref 52), u1, u2, u3, some (.int l4), some (.int (M.1 52 19)), u6], [.int (jn 2), .int l4], M)) rfl).trans ?_
      refine (e_ic_eq (hf := rfl)).trans ?_
      refine ite_in ?_ ?_
      · refine (evn_adv 1 (q' := (119, [some (.ref 52), u1, u2, u3, some (.int l4), some (.int (M.1 52 19)), u6], [.int (jn 2)], M)) rfl).trans ?_
        exact evn_end 1 rfl
      · refine (evn_adv 5 (q' := (111, [some (.ref 52), u1, u2, u3, some (.int l4), some (.int (M.1 52 19)), u6], [.int (M.1 52 47), .ref 80, .ref 52], M)) rfl).trans ?_
        refine (e_kI (q := (111, [some (.ref 52), u1, u2, u3, some (.int l4), some (.int (M.1 52 19)), u6], [.int (M.1 52 47), .ref 80, .ref 52])) (q2 := (114, [some (.ref 52), u1, u2, u3, some (.int l4), some (.int (M.1 52 19)), u6], [])) (M := M) (o := (pcl GG lay d 168 [.ref 52, .ref 80, .int (M.1 52 47)] M)) (hf := rfl) rfl rfl).trans ?_
        refine kI_in (fun r1 M1 => ?_)
        refine (evn_adv 1 (q' := (115, [some (.ref 52), u1, u2, u3, some (.int l4), some (.int (M.1 52 19)), u6], [.int (jn 2), .int r1], M1)) rfl).trans ?_
        refine (e_ic_ne (hf := rfl)).trans ?_
        refine ite_in ?_ ?_
        · refine (evn_adv 1 (q' := (119, [some (.ref 52), u1, u2, u3, some (.int l4), some (.int (M.1 52 19)), u6], [.int (jn 2)], M1)) rfl).trans ?_
          exact evn_end 1 rfl
        · refine (evn_adv 3 (q' := (126, [some (.ref 52), u1, u2, u3, some (.int l4), some (.int (M.1 52 19)), u6], [.int (M.1 52 19), .int (M1.1 52 19)], M1)) rfl).trans ?_
          refine (e_ic_eq (hf := rfl)).trans ?_
          refine ite_in ?_ ?_
          · refine (evn_adv 2 (q' := (134, [some (.ref 52), u1, u2, u3, some (.int l4), some (.int (M.1 52 19)), some (.int (jn 0))], [], M1)) rfl).trans ?_
            rfl
          · refine (evn_adv 1 (q' := (130, [some (.ref 52), u1, u2, u3, some (.int l4), some (.int (M.1 52 19)), u6], [.int (jn 0)], M1)) rfl).trans ?_
            exact evn_end 1 rfl
  · refine (evn_adv 5 (q' := (99, [some (.ref 52), u1, u2, u3, some (.int l4), some (.int (M.1 52 19)), u6], [.int (jn 2), .int l4], M)) rfl).trans ?_
    refine (e_ic_eq (hf := rfl)).trans ?_
    refine ite_in ?_ ?_
    · refine (evn_adv 1 (q' := (119, [some (.ref 52), u1, u2, u3, some (.int l4), some (.int (M.1 52 19)), u6], [.int (jn 2)], M)) rfl).trans ?_
      exact evn_end 1 rfl
    · refine (evn_adv 5 (q' := (111, [some (.ref 52), u1, u2, u3, some (.int l4), some (.int (M.1 52 19)), u6], [.int (M.1 52 47), .ref 80, .ref 52], M)) rfl).trans ?_
      refine (e_kI (q := (111, [some (.ref 52), u1, u2, u3, some (.int l4), some (.int (M.1 52 19)), u6], [.int (M.1 52 47), .ref 80, .ref 52])) (q2 := (114, [some (.ref 52), u1, u2, u3, some (.int l4), some (.int (M.1 52 19)), u6], [])) (M := M) (o := (pcl GG lay d 168 [.ref 52, .ref 80, .int (M.1 52 47)] M)) (hf := rfl) rfl rfl).trans ?_
      refine kI_in (fun r1 M1 => ?_)
      refine (evn_adv 1 (q' := (115, [some (.ref 52), u1, u2, u3, some (.int l4), some (.int (M.1 52 19)), u6], [.int (jn 2), .int r1], M1)) rfl).trans ?_
      refine (e_ic_ne (hf := rfl)).trans ?_
      refine ite_in ?_ ?_
      · refine (evn_adv 1 (q' := (119, [some (.ref 52), u1, u2, u3, some (.int l4), some (.int (M.1 52 19)), u6], [.int (jn 2)], M1)) rfl).trans ?_
        exact evn_end 1 rfl
      · refine (evn_adv 3 (q' := (126, [some (.ref 52), u1, u2, u3, some (.int l4), some (.int (M.1 52 19)), u6], [.int (M.1 52 19), .int (M1.1 52 19)], M1)) rfl).trans ?_
        refine (e_ic_eq (hf := rfl)).trans ?_
        refine ite_in ?_ ?_
        · refine (evn_adv 2 (q' := (134, [some (.ref 52), u1, u2, u3, some (.int l4), some (.int (M.1 52 19)), some (.int (jn 0))], [], M1)) rfl).trans ?_
          rfl
        · refine (evn_adv 1 (q' := (130, [some (.ref 52), u1, u2, u3, some (.int l4), some (.int (M.1 52 19)), u6], [.int (jn 0)], M1)) rfl).trans ?_
          exact evn_end 1 rfl
theorem h_169_134 (d : Nat) (u1 : Option Value) (u2 : Option Value) (u3 : Option Value) (u4 : Option Value) (u5 : Option Value) (l6 : Int32) (M : PM) : E_169 d (134, [some (.ref 52), u1, u2, u3, u4, u5, some (.int l6)], [], M) = (if l6 < (M.1 52 19) then (oB (aldI lay none M 65 l6) fun v1 => (oB (aldI lay none M 78 l6) fun v2 => (if v1 = v2 then E_169 d (134, [some (.ref 52), u1, u2, u3, u4, u5, some (.int (l6 + (jn 1)))], [], M) else (rI (jn 0) M)))) else (rI (jn 1) M)) := by
  refine (evn_adv 3 (q' := (140, [some (.ref 52), u1, u2, u3, u4, u5, some (.int l6)], [.int (M.1 52 19), .int l6], M)) rfl).trans ?_
  refine (e_ic_ge (hf := rfl)).trans ?_
  refine ite_in ?_ ?_
  · refine (evn_adv 3 (q' := (149, [some (.ref 52), u1, u2, u3, u4, u5, some (.int l6)], [.int l6, .ref 65], M)) rfl).trans ?_
    refine (e_oB (q := (149, [some (.ref 52), u1, u2, u3, u4, u5, some (.int l6)], [.int l6, .ref 65], M)) (o := (aldI lay none M 65 l6)) (f := fun v1 => (150, [some (.ref 52), u1, u2, u3, u4, u5, some (.int l6)], [.int v1], M)) (hf := rfl) rfl).trans ?_
    refine oB_in (fun v1 => ?_)
    refine (evn_adv 3 (q' := (156, [some (.ref 52), u1, u2, u3, u4, u5, some (.int l6)], [.int l6, .ref 78, .int v1], M)) rfl).trans ?_
    refine (e_oB (q := (156, [some (.ref 52), u1, u2, u3, u4, u5, some (.int l6)], [.int l6, .ref 78, .int v1], M)) (o := (aldI lay none M 78 l6)) (f := fun v2 => (157, [some (.ref 52), u1, u2, u3, u4, u5, some (.int l6)], [.int v2, .int v1], M)) (hf := rfl) rfl).trans ?_
    refine oB_in (fun v2 => ?_)
    refine (e_ic_eq (hf := rfl)).trans ?_
    refine ite_in ?_ ?_
    · refine (evn_adv 2 (q' := (134, [some (.ref 52), u1, u2, u3, u4, u5, some (.int (l6 + (jn 1)))], [], M)) rfl).trans ?_
      rfl
    · refine (evn_adv 1 (q' := (161, [some (.ref 52), u1, u2, u3, u4, u5, some (.int l6)], [.int (jn 0)], M)) rfl).trans ?_
      exact evn_end 1 rfl
  · refine (evn_adv 1 (q' := (169, [some (.ref 52), u1, u2, u3, u4, u5, some (.int l6)], [.int (jn 1)], M)) rfl).trans ?_
    exact evn_end 1 rfl
/-- TermStrategiesModel.isMade(III)Z -/
noncomputable abbrev E_170 (d : Nat) : PQ → PO := evn (rnn k_170 lay none (pcl GG lay d) 2)
theorem q_170 (d : Nat) (l1 : Int32) (l2 : Int32) (l3 : Int32) (M : PM) : pcl GG lay (d + 1) 170 [.ref 52, .int l1, .int l2, .int l3] M = (kV (pcl GG lay d 115 [.ref 52, .int l2] M) fun M1 => (kI (pcl GG lay d 142 [.ref 52, .int l1] M1) fun r2 M2 => (if r2 = jn 0 then (oB (aldI lay none M2 53 l3) fun v3 => (if (M2.1 52 19) = v3 then E_170 d (31, [some (.ref 52), some (.int l1), some (.int l2), some (.int l3), some (.int (jn 0))], [], M2) else (rZ (jn 0) M2))) else (rZ (jn 0) M2)))) := by
  refine (pcl_un (mt := t_170) (by decide) rfl (Nat.le_of_ble_eq_true rfl)).trans ?_
  show E_170 d (0, [some (.ref 52), some (.int l1), some (.int l2), some (.int l3), none], [], M) = _
  refine (evn_adv 2 (q' := (2, [some (.ref 52), some (.int l1), some (.int l2), some (.int l3), none], [.int l2, .ref 52], M)) rfl).trans ?_
  refine (e_kV (q := (2, [some (.ref 52), some (.int l1), some (.int l2), some (.int l3), none], [.int l2, .ref 52])) (q2 := (5, [some (.ref 52), some (.int l1), some (.int l2), some (.int l3), none], [])) (M := M) (o := (pcl GG lay d 115 [.ref 52, .int l2] M)) (hf := rfl) rfl rfl).trans ?_
  refine kV_in (fun M1 => ?_)
  refine (evn_adv 2 (q' := (7, [some (.ref 52), some (.int l1), some (.int l2), some (.int l3), none], [.int l1, .ref 52], M1)) rfl).trans ?_
  refine (e_kI (q := (7, [some (.ref 52), some (.int l1), some (.int l2), some (.int l3), none], [.int l1, .ref 52])) (q2 := (10, [some (.ref 52), some (.int l1), some (.int l2), some (.int l3), none], [])) (M := M1) (o := (pcl GG lay d 142 [.ref 52, .int l1] M1)) (hf := rfl) rfl rfl).trans ?_
  refine kI_in (fun r2 M2 => ?_)
  refine (e_if_ne (hf := rfl)).trans ?_
  refine ite_in ?_ ?_
  · refine (evn_adv 5 (q' := (22, [some (.ref 52), some (.int l1), some (.int l2), some (.int l3), none], [.int l3, .ref 53, .int (M2.1 52 19)], M2)) rfl).trans ?_
    refine (e_oB (q := (22, [some (.ref 52), some (.int l1), some (.int l2), some (.int l3), none], [.int l3, .ref 53, .int (M2.1 52 19)], M2)) (o := (aldI lay none M2 53 l3)) (f := fun v3 => (23, [some (.ref 52), some (.int l1), some (.int l2), some (.int l3), none], [.int v3, .int (M2.1 52 19)], M2)) (hf := rfl) rfl).trans ?_
    refine oB_in (fun v3 => ?_)
    refine (e_ic_eq (hf := rfl)).trans ?_
    refine ite_in ?_ ?_
    · refine (evn_adv 2 (q' := (31, [some (.ref 52), some (.int l1), some (.int l2), some (.int l3), some (.int (jn 0))], [], M2)) rfl).trans ?_
      rfl
    · refine (evn_adv 1 (q' := (27, [some (.ref 52), some (.int l1), some (.int l2), some (.int l3), none], [.int (jn 0)], M2)) rfl).trans ?_
      exact e_iretz (hf := rfl)
  · refine (evn_adv 1 (q' := (27, [some (.ref 52), some (.int l1), some (.int l2), some (.int l3), none], [.int (jn 0)], M2)) rfl).trans ?_
    exact e_iretz (hf := rfl)
theorem h_170_31 (d : Nat) (u1 : Option Value) (u2 : Option Value) (l3 : Int32) (l4 : Int32) (M : PM) : E_170 d (31, [some (.ref 52), u1, u2, some (.int l3), some (.int l4)], [], M) = (if l4 < (M.1 52 19) then (oB (aldI lay none M 65 l4) fun v1 => (oB (aldI lay none M 54 (((jn 40) * l3) + l4)) fun v2 => (if v1 = v2 then E_170 d (31, [some (.ref 52), u1, u2, some (.int l3), some (.int (l4 + (jn 1)))], [], M) else (rZ (jn 0) M)))) else (rZ (jn 1) M)) := by
  refine (evn_adv 3 (q' := (37, [some (.ref 52), u1, u2, some (.int l3), some (.int l4)], [.int (M.1 52 19), .int l4], M)) rfl).trans ?_
  refine (e_ic_ge (hf := rfl)).trans ?_
  refine ite_in ?_ ?_
  · refine (evn_adv 3 (q' := (46, [some (.ref 52), u1, u2, some (.int l3), some (.int l4)], [.int l4, .ref 65], M)) rfl).trans ?_
    refine (e_oB (q := (46, [some (.ref 52), u1, u2, some (.int l3), some (.int l4)], [.int l4, .ref 65], M)) (o := (aldI lay none M 65 l4)) (f := fun v1 => (47, [some (.ref 52), u1, u2, some (.int l3), some (.int l4)], [.int v1], M)) (hf := rfl) rfl).trans ?_
    refine oB_in (fun v1 => ?_)
    refine (evn_adv 7 (q' := (58, [some (.ref 52), u1, u2, some (.int l3), some (.int l4)], [.int (((jn 40) * l3) + l4), .ref 54, .int v1], M)) rfl).trans ?_
    refine (e_oB (q := (58, [some (.ref 52), u1, u2, some (.int l3), some (.int l4)], [.int (((jn 40) * l3) + l4), .ref 54, .int v1], M)) (o := (aldI lay none M 54 (((jn 40) * l3) + l4))) (f := fun v2 => (59, [some (.ref 52), u1, u2, some (.int l3), some (.int l4)], [.int v2, .int v1], M)) (hf := rfl) rfl).trans ?_
    refine oB_in (fun v2 => ?_)
    refine (e_ic_eq (hf := rfl)).trans ?_
    refine ite_in ?_ ?_
    · refine (evn_adv 2 (q' := (31, [some (.ref 52), u1, u2, some (.int l3), some (.int (l4 + (jn 1)))], [], M)) rfl).trans ?_
      rfl
    · refine (evn_adv 1 (q' := (63, [some (.ref 52), u1, u2, some (.int l3), some (.int l4)], [.int (jn 0)], M)) rfl).trans ?_
      exact e_iretz (hf := rfl)
  · refine (evn_adv 1 (q' := (71, [some (.ref 52), u1, u2, some (.int l3), some (.int l4)], [.int (jn 1)], M)) rfl).trans ?_
    exact e_iretz (hf := rfl)
/-- TermStrategiesModel.judge(III)I -/
noncomputable abbrev E_171 (d : Nat) : PQ → PO := evn (rnn k_171 lay none (pcl GG lay d) 1)
theorem q_171 (d : Nat) (l1 : Int32) (l2 : Int32) (l3 : Int32) (M : PM) : pcl GG lay (d + 1) 171 [.ref 52, .int l1, .int l2, .int l3] M = (kI (pcl GG lay d 81 [.ref 52, .int l1] M) fun r1 M1 => (if r1 = (jz 1) then (kI (pcl GG lay d 70 [.ref 52, .int (jz 1)] M1) fun r2 M2 => (rI r2 M2)) else (kI (pcl GG lay d 74 [.ref 52, .int l2] M1) fun r2 M2 => (if r2 = jn 0 then (kI (pcl GG lay d 70 [.ref 52, .int (jz 1)] M2) fun r3 M3 => (rI r3 M3)) else (if r1 < jn 0 then (kI (pcl GG lay d 70 [.ref 52, .int r1] M2) fun r3 M3 => (rI r3 M3)) else (if l3 < jn 0 then (kI (pcl GG lay d 70 [.ref 52, .int (jz 4)] M2) fun r3 M3 => (rI r3 M3)) else (oB (aldI lay none M2 62 l1) fun v3 => (if jn 0 < (lg_cmp ((Int64.ofInt 2) * (l3.toInt64)) (v3.toInt64)) then (kI (pcl GG lay d 70 [.ref 52, .int (jz 5)] M2) fun r4 M4 => (rI r4 M4)) else E_171 d (77, [some (.ref 52), some (.int l1), some (.int l2), some (.int l3), some (.int r1), some (.int (jn 0))], [], M2))))))))) := by
  refine (pcl_un (mt := t_171) (by decide) rfl (Nat.le_of_ble_eq_true rfl)).trans ?_
  show E_171 d (0, [some (.ref 52), some (.int l1), some (.int l2), some (.int l3), none, none], [], M) = _
  refine (evn_adv 2 (q' := (2, [some (.ref 52), some (.int l1), some (.int l2), some (.int l3), none, none], [.int l1, .ref 52], M)) rfl).trans ?_
  refine (e_kI (q := (2, [some (.ref 52), some (.int l1), some (.int l2), some (.int l3), none, none], [.int l1, .ref 52])) (q2 := (5, [some (.ref 52), some (.int l1), some (.int l2), some (.int l3), none, none], [])) (M := M) (o := (pcl GG lay d 81 [.ref 52, .int l1] M)) (hf := rfl) rfl rfl).trans ?_
  refine kI_in (fun r1 M1 => ?_)
  refine (evn_adv 3 (q' := (10, [some (.ref 52), some (.int l1), some (.int l2), some (.int l3), some (.int r1), none], [.int (jz 1), .int r1], M1)) rfl).trans ?_
  refine (e_ic_eq (hf := rfl)).trans ?_
  refine ite_in ?_ ?_
  · refine (evn_adv 2 (q' := (23, [some (.ref 52), some (.int l1), some (.int l2), some (.int l3), some (.int r1), none], [.int (jz 1), .ref 52], M1)) rfl).trans ?_
    refine (e_kI (q := (23, [some (.ref 52), some (.int l1), some (.int l2), some (.int l3), some (.int r1), none], [.int (jz 1), .ref 52])) (q2 := (26, [some (.ref 52), some (.int l1), some (.int l2), some (.int l3), some (.int r1), none], [])) (M := M1) (o := (pcl GG lay d 70 [.ref 52, .int (jz 1)] M1)) (hf := rfl) rfl rfl).trans ?_
    refine kI_in (fun r2 M2 => ?_)
    exact evn_end 1 rfl
  · refine (evn_adv 2 (q' := (15, [some (.ref 52), some (.int l1), some (.int l2), some (.int l3), some (.int r1), none], [.int l2, .ref 52], M1)) rfl).trans ?_
    refine (e_kI (q := (15, [some (.ref 52), some (.int l1), some (.int l2), some (.int l3), some (.int r1), none], [.int l2, .ref 52])) (q2 := (18, [some (.ref 52), some (.int l1), some (.int l2), some (.int l3), some (.int r1), none], [])) (M := M1) (o := (pcl GG lay d 74 [.ref 52, .int l2] M1)) (hf := rfl) rfl rfl).trans ?_
    refine kI_in (fun r2 M2 => ?_)
    refine (e_if_ne (hf := rfl)).trans ?_
    refine ite_in ?_ ?_
    · refine (evn_adv 2 (q' := (23, [some (.ref 52), some (.int l1), some (.int l2), some (.int l3), some (.int r1), none], [.int (jz 1), .ref 52], M2)) rfl).trans ?_
      refine (e_kI (q := (23, [some (.ref 52), some (.int l1), some (.int l2), some (.int l3), some (.int r1), none], [.int (jz 1), .ref 52])) (q2 := (26, [some (.ref 52), some (.int l1), some (.int l2), some (.int l3), some (.int r1), none], [])) (M := M2) (o := (pcl GG lay d 70 [.ref 52, .int (jz 1)] M2)) (hf := rfl) rfl rfl).trans ?_
      refine kI_in (fun r3 M3 => ?_)
      exact evn_end 1 rfl
    · refine (evn_adv 1 (q' := (29, [some (.ref 52), some (.int l1), some (.int l2), some (.int l3), some (.int r1), none], [.int r1], M2)) rfl).trans ?_
      refine (e_if_ge (hf := rfl)).trans ?_
      refine ite_in ?_ ?_
      · refine (evn_adv 2 (q' := (35, [some (.ref 52), some (.int l1), some (.int l2), some (.int l3), some (.int r1), none], [.int r1, .ref 52], M2)) rfl).trans ?_
        refine (e_kI (q := (35, [some (.ref 52), some (.int l1), some (.int l2), some (.int l3), some (.int r1), none], [.int r1, .ref 52])) (q2 := (38, [some (.ref 52), some (.int l1), some (.int l2), some (.int l3), some (.int r1), none], [])) (M := M2) (o := (pcl GG lay d 70 [.ref 52, .int r1] M2)) (hf := rfl) rfl rfl).trans ?_
        refine kI_in (fun r3 M3 => ?_)
        exact evn_end 1 rfl
      · refine (evn_adv 1 (q' := (40, [some (.ref 52), some (.int l1), some (.int l2), some (.int l3), some (.int r1), none], [.int l3], M2)) rfl).trans ?_
        refine (e_if_ge (hf := rfl)).trans ?_
        refine ite_in ?_ ?_
        · refine (evn_adv 2 (q' := (46, [some (.ref 52), some (.int l1), some (.int l2), some (.int l3), some (.int r1), none], [.int (jz 4), .ref 52], M2)) rfl).trans ?_
          refine (e_kI (q := (46, [some (.ref 52), some (.int l1), some (.int l2), some (.int l3), some (.int r1), none], [.int (jz 4), .ref 52])) (q2 := (49, [some (.ref 52), some (.int l1), some (.int l2), some (.int l3), some (.int r1), none], [])) (M := M2) (o := (pcl GG lay d 70 [.ref 52, .int (jz 4)] M2)) (hf := rfl) rfl rfl).trans ?_
          refine kI_in (fun r3 M3 => ?_)
          exact evn_end 1 rfl
        · refine (evn_adv 7 (q' := (61, [some (.ref 52), some (.int l1), some (.int l2), some (.int l3), some (.int r1), none], [.int l1, .ref 62, .long ((Int64.ofInt 2) * (l3.toInt64))], M2)) rfl).trans ?_
          refine (e_oB (q := (61, [some (.ref 52), some (.int l1), some (.int l2), some (.int l3), some (.int r1), none], [.int l1, .ref 62, .long ((Int64.ofInt 2) * (l3.toInt64))], M2)) (o := (aldI lay none M2 62 l1)) (f := fun v3 => (62, [some (.ref 52), some (.int l1), some (.int l2), some (.int l3), some (.int r1), none], [.int v3, .long ((Int64.ofInt 2) * (l3.toInt64))], M2)) (hf := rfl) rfl).trans ?_
          refine oB_in (fun v3 => ?_)
          refine (evn_adv 2 (q' := (64, [some (.ref 52), some (.int l1), some (.int l2), some (.int l3), some (.int r1), none], [.int (lg_cmp ((Int64.ofInt 2) * (l3.toInt64)) (v3.toInt64))], M2)) rfl).trans ?_
          refine (e_if_le (hf := rfl)).trans ?_
          refine ite_in ?_ ?_
          · refine (evn_adv 2 (q' := (70, [some (.ref 52), some (.int l1), some (.int l2), some (.int l3), some (.int r1), none], [.int (jz 5), .ref 52], M2)) rfl).trans ?_
            refine (e_kI (q := (70, [some (.ref 52), some (.int l1), some (.int l2), some (.int l3), some (.int r1), none], [.int (jz 5), .ref 52])) (q2 := (73, [some (.ref 52), some (.int l1), some (.int l2), some (.int l3), some (.int r1), none], [])) (M := M2) (o := (pcl GG lay d 70 [.ref 52, .int (jz 5)] M2)) (hf := rfl) rfl rfl).trans ?_
            refine kI_in (fun r4 M4 => ?_)
            exact evn_end 1 rfl
          · refine (evn_adv 2 (q' := (77, [some (.ref 52), some (.int l1), some (.int l2), some (.int l3), some (.int r1), some (.int (jn 0))], [], M2)) rfl).trans ?_
            rfl
theorem h_171_77 (d : Nat) (l1 : Int32) (l2 : Int32) (l3 : Int32) (u4 : Option Value) (l5 : Int32) (M : PM) : E_171 d (77, [some (.ref 52), some (.int l1), some (.int l2), some (.int l3), u4, some (.int l5)], [], M) = (if l5 < ((jn 2) * l3) then (kI (pcl GG lay d 90 [.ref 52, .int l1, .int l5] M) fun r1 M1 => (kI (pcl GG lay d 72 [.ref 52, .int r1] M1) fun r2 M2 => (if r2 = jn 0 then (kI (pcl GG lay d 70 [.ref 52, .int (jz 6)] M2) fun r3 M3 => (rI r3 M3)) else E_171 d (77, [some (.ref 52), some (.int l1), some (.int l2), some (.int l3), u4, some (.int (l5 + (jn 1)))], [], M2)))) else (kV (pcl GG lay d 141 [.ref 52] M) fun M1 => E_171 d (119, [some (.ref 52), some (.int l1), some (.int l2), some (.int l3), u4, some (.int (jn 0))], [], M1))) := by
  refine (evn_adv 4 (q' := (82, [some (.ref 52), some (.int l1), some (.int l2), some (.int l3), u4, some (.int l5)], [.int ((jn 2) * l3), .int l5], M)) rfl).trans ?_
  refine (e_ic_ge (hf := rfl)).trans ?_
  refine ite_in ?_ ?_
  · refine (evn_adv 4 (q' := (90, [some (.ref 52), some (.int l1), some (.int l2), some (.int l3), u4, some (.int l5)], [.int l5, .int l1, .ref 52, .ref 52], M)) rfl).trans ?_
    refine (e_kI (q := (90, [some (.ref 52), some (.int l1), some (.int l2), some (.int l3), u4, some (.int l5)], [.int l5, .int l1, .ref 52, .ref 52])) (q2 := (93, [some (.ref 52), some (.int l1), some (.int l2), some (.int l3), u4, some (.int l5)], [.ref 52])) (M := M) (o := (pcl GG lay d 90 [.ref 52, .int l1, .int l5] M)) (hf := rfl) rfl rfl).trans ?_
    refine kI_in (fun r1 M1 => ?_)
    refine (e_kI (q := (93, [some (.ref 52), some (.int l1), some (.int l2), some (.int l3), u4, some (.int l5)], [.int r1, .ref 52])) (q2 := (96, [some (.ref 52), some (.int l1), some (.int l2), some (.int l3), u4, some (.int l5)], [])) (M := M1) (o := (pcl GG lay d 72 [.ref 52, .int r1] M1)) (hf := rfl) rfl rfl).trans ?_
    refine kI_in (fun r2 M2 => ?_)
    refine (e_if_ne (hf := rfl)).trans ?_
    refine ite_in ?_ ?_
    · refine (evn_adv 2 (q' := (102, [some (.ref 52), some (.int l1), some (.int l2), some (.int l3), u4, some (.int l5)], [.int (jz 6), .ref 52], M2)) rfl).trans ?_
      refine (e_kI (q := (102, [some (.ref 52), some (.int l1), some (.int l2), some (.int l3), u4, some (.int l5)], [.int (jz 6), .ref 52])) (q2 := (105, [some (.ref 52), some (.int l1), some (.int l2), some (.int l3), u4, some (.int l5)], [])) (M := M2) (o := (pcl GG lay d 70 [.ref 52, .int (jz 6)] M2)) (hf := rfl) rfl rfl).trans ?_
      refine kI_in (fun r3 M3 => ?_)
      exact evn_end 1 rfl
    · refine (evn_adv 2 (q' := (77, [some (.ref 52), some (.int l1), some (.int l2), some (.int l3), u4, some (.int (l5 + (jn 1)))], [], M2)) rfl).trans ?_
      rfl
  · refine (evn_adv 1 (q' := (113, [some (.ref 52), some (.int l1), some (.int l2), some (.int l3), u4, some (.int l5)], [.ref 52], M)) rfl).trans ?_
    refine (e_kV (q := (113, [some (.ref 52), some (.int l1), some (.int l2), some (.int l3), u4, some (.int l5)], [.ref 52])) (q2 := (116, [some (.ref 52), some (.int l1), some (.int l2), some (.int l3), u4, some (.int l5)], [])) (M := M) (o := (pcl GG lay d 141 [.ref 52] M)) (hf := rfl) rfl rfl).trans ?_
    refine kV_in (fun M1 => ?_)
    refine (evn_adv 2 (q' := (119, [some (.ref 52), some (.int l1), some (.int l2), some (.int l3), u4, some (.int (jn 0))], [], M1)) rfl).trans ?_
    rfl
theorem h_171_119 (d : Nat) (l1 : Int32) (l2 : Int32) (l3 : Int32) (u4 : Option Value) (l5 : Int32) (M : PM) : E_171 d (119, [some (.ref 52), some (.int l1), some (.int l2), some (.int l3), u4, some (.int l5)], [], M) = (if l5 < l3 then (kI (pcl GG lay d 90 [.ref 52, .int l1, .int ((jn 2) * l5)] M) fun r1 M1 => (kI (pcl GG lay d 90 [.ref 52, .int l1, .int (((jn 2) * l5) + (jn 1))] M1) fun r2 M2 => (kI (pcl GG lay d 170 [.ref 52, .int l2, .int r1, .int r2] M2) fun r3 M3 => (if r3 = jn 0 then (rI l5 M3) else E_171 d (119, [some (.ref 52), some (.int l1), some (.int l2), some (.int l3), u4, some (.int (l5 + (jn 1)))], [], M3))))) else (rI (jz 1) M)) := by
  refine (evn_adv 2 (q' := (122, [some (.ref 52), some (.int l1), some (.int l2), some (.int l3), u4, some (.int l5)], [.int l3, .int l5], M)) rfl).trans ?_
  refine (e_ic_ge (hf := rfl)).trans ?_
  refine ite_in ?_ ?_
  · refine (evn_adv 7 (q' := (133, [some (.ref 52), some (.int l1), some (.int l2), some (.int l3), u4, some (.int l5)], [.int ((jn 2) * l5), .int l1, .ref 52, .int l2, .ref 52], M)) rfl).trans ?_
    refine (e_kI (q := (133, [some (.ref 52), some (.int l1), some (.int l2), some (.int l3), u4, some (.int l5)], [.int ((jn 2) * l5), .int l1, .ref 52, .int l2, .ref 52])) (q2 := (136, [some (.ref 52), some (.int l1), some (.int l2), some (.int l3), u4, some (.int l5)], [.int l2, .ref 52])) (M := M) (o := (pcl GG lay d 90 [.ref 52, .int l1, .int ((jn 2) * l5)] M)) (hf := rfl) rfl rfl).trans ?_
    refine kI_in (fun r1 M1 => ?_)
    refine (evn_adv 7 (q' := (144, [some (.ref 52), some (.int l1), some (.int l2), some (.int l3), u4, some (.int l5)], [.int (((jn 2) * l5) + (jn 1)), .int l1, .ref 52, .int r1, .int l2, .ref 52], M1)) rfl).trans ?_
    refine (e_kI (q := (144, [some (.ref 52), some (.int l1), some (.int l2), some (.int l3), u4, some (.int l5)], [.int (((jn 2) * l5) + (jn 1)), .int l1, .ref 52, .int r1, .int l2, .ref 52])) (q2 := (147, [some (.ref 52), some (.int l1), some (.int l2), some (.int l3), u4, some (.int l5)], [.int r1, .int l2, .ref 52])) (M := M1) (o := (pcl GG lay d 90 [.ref 52, .int l1, .int (((jn 2) * l5) + (jn 1))] M1)) (hf := rfl) rfl rfl).trans ?_
    refine kI_in (fun r2 M2 => ?_)
    refine (e_kI (q := (147, [some (.ref 52), some (.int l1), some (.int l2), some (.int l3), u4, some (.int l5)], [.int r2, .int r1, .int l2, .ref 52])) (q2 := (150, [some (.ref 52), some (.int l1), some (.int l2), some (.int l3), u4, some (.int l5)], [])) (M := M2) (o := (pcl GG lay d 170 [.ref 52, .int l2, .int r1, .int r2] M2)) (hf := rfl) rfl rfl).trans ?_
    refine kI_in (fun r3 M3 => ?_)
    refine (e_if_ne (hf := rfl)).trans ?_
    refine ite_in ?_ ?_
    · refine (evn_adv 1 (q' := (155, [some (.ref 52), some (.int l1), some (.int l2), some (.int l3), u4, some (.int l5)], [.int l5], M3)) rfl).trans ?_
      exact evn_end 1 rfl
    · refine (evn_adv 2 (q' := (119, [some (.ref 52), some (.int l1), some (.int l2), some (.int l3), u4, some (.int (l5 + (jn 1)))], [], M3)) rfl).trans ?_
      rfl
  · refine (evn_adv 1 (q' := (163, [some (.ref 52), some (.int l1), some (.int l2), some (.int l3), u4, some (.int l5)], [.int (jz 1)], M)) rfl).trans ?_
    exact evn_end 1 rfl
/-- TermStrategiesModel.draw(I)I -/
noncomputable abbrev E_172 (d : Nat) : PQ → PO := evn (rnn k_172 lay none (pcl GG lay d) 1)
theorem q_172 (d : Nat) (l1 : Int32) (M : PM) : pcl GG lay (d + 1) 172 [.ref 52, .int l1] M = (wr (sI M 52 (va_up (M.1 52) 12 (((M.1 52 12) * (jn 1103515245)) + (jn 12345)))) fun M1 => (if l1 = jn 0 then none else (rI (((M1.1 52 12).toUInt32 >>> ((jn 16).toUInt32 &&& Int32.toUInt32 31)).toInt32 - ((M1.1 52 12).toUInt32 >>> ((jn 16).toUInt32 &&& Int32.toUInt32 31)).toInt32 / l1 * l1) M1))) := by
  refine (pcl_un (mt := t_172) (by decide) rfl (Nat.le_of_ble_eq_true rfl)).trans ?_
  show E_172 d (0, [some (.ref 52), some (.int l1)], [], M) = _
  refine (evn_adv 7 (q' := (13, [some (.ref 52), some (.int l1)], [.int (((M.1 52 12) * (jn 1103515245)) + (jn 12345)), .ref 52], M)) rfl).trans ?_
  refine (evn_adv 1 (q' := (16, [some (.ref 52), some (.int l1)], [], (sI M 52 (va_up (M.1 52) 12 (((M.1 52 12) * (jn 1103515245)) + (jn 12345)))))) rfl).trans ?_
  refine wr_in (f := fun M1 => E_172 d (16, [some (.ref 52), some (.int l1)], [], M1)) (fun M1 => ?_)
  refine (evn_adv 5 (q' := (24, [some (.ref 52), some (.int l1)], [.int l1, .int ((M1.1 52 12).toUInt32 >>> ((jn 16).toUInt32 &&& Int32.toUInt32 31)).toInt32], M1)) rfl).trans ?_
  refine (e_irem (hf := rfl)).trans ?_
  refine ite_in rfl ?_
  exact evn_end 1 rfl
/-- TermStrategiesModel.isDone(II)Z -/
noncomputable abbrev E_173 (d : Nat) : PQ → PO := evn (rnn k_173 lay none (pcl GG lay d) 2)
theorem q_173 (d : Nat) (l1 : Int32) (l2 : Int32) (M : PM) : pcl GG lay (d + 1) 173 [.ref 52, .int l1, .int l2] M = (kV (pcl GG lay d 115 [.ref 52, .int l2] M) fun M1 => E_173 d (7, [some (.ref 52), some (.int l1), some (.int l2), some (.int (jn 0)), none], [], M1)) := by
  refine (pcl_un (mt := t_173) (by decide) rfl (Nat.le_of_ble_eq_true rfl)).trans ?_
  show E_173 d (0, [some (.ref 52), some (.int l1), some (.int l2), none, none], [], M) = _
  refine (evn_adv 2 (q' := (2, [some (.ref 52), some (.int l1), some (.int l2), none, none], [.int l2, .ref 52], M)) rfl).trans ?_
  refine (e_kV (q := (2, [some (.ref 52), some (.int l1), some (.int l2), none, none], [.int l2, .ref 52])) (q2 := (5, [some (.ref 52), some (.int l1), some (.int l2), none, none], [])) (M := M) (o := (pcl GG lay d 115 [.ref 52, .int l2] M)) (hf := rfl) rfl rfl).trans ?_
  refine kV_in (fun M1 => ?_)
  refine (evn_adv 2 (q' := (7, [some (.ref 52), some (.int l1), some (.int l2), some (.int (jn 0)), none], [], M1)) rfl).trans ?_
  rfl
theorem h_173_7 (d : Nat) (l1 : Int32) (l2 : Int32) (l3 : Int32) (u4 : Option Value) (M : PM) : E_173 d (7, [some (.ref 52), some (.int l1), some (.int l2), some (.int l3), u4], [], M) = (if l3 < (M.1 52 19) then (kI (pcl GG lay d 114 [.ref 52, .int l1, .int l3] M) fun r1 M1 => (if r1 = jn 0 then E_173 d (7, [some (.ref 52), some (.int l1), some (.int l2), some (.int (l3 + (jn 1))), u4], [], M1) else (if l3 = (M1.1 52 19) then (rZ (jn 0) M1) else (kV (pcl GG lay d 120 [.ref 52, .int l1] M1) fun M2 => (kI (pcl GG lay d 78 [.ref 65, .int l3] M2) fun r3 M3 => (if (jn 40) < (((M2.1 52 19) - r3) + (M3.1 52 26)) then (rZ (jn 0) M3) else (kV (pcl GG lay d 121 [.ref 52, .int l3, .ref 69, .int (jn 0), .int (M3.1 52 26)] M3) fun M4 => (oB (astI lay M4 53 l2 (M4.1 52 19)) fun M5 => E_173 d (97, [some (.ref 52), some (.int l1), some (.int l2), some (.int l3), some (.int (jn 0))], [], M5))))))))) else (if l3 = (M.1 52 19) then (rZ (jn 0) M) else (kV (pcl GG lay d 120 [.ref 52, .int l1] M) fun M1 => (kI (pcl GG lay d 78 [.ref 65, .int l3] M1) fun r2 M2 => (if (jn 40) < (((M1.1 52 19) - r2) + (M2.1 52 26)) then (rZ (jn 0) M2) else (kV (pcl GG lay d 121 [.ref 52, .int l3, .ref 69, .int (jn 0), .int (M2.1 52 26)] M2) fun M3 => (oB (astI lay M3 53 l2 (M3.1 52 19)) fun M4 => E_173 d (97, [some (.ref 52), some (.int l1), some (.int l2), some (.int l3), some (.int (jn 0))], [], M4)))))))) := by
  refine (evn_adv 3 (q' := (12, [some (.ref 52), some (.int l1), some (.int l2), some (.int l3), u4], [.int (M.1 52 19), .int l3], M)) rfl).trans ?_
  refine (e_ic_ge (hf := rfl)).trans ?_
  refine ite_in ?_ ?_
  · refine (evn_adv 3 (q' := (18, [some (.ref 52), some (.int l1), some (.int l2), some (.int l3), u4], [.int l3, .int l1, .ref 52], M)) rfl).trans ?_
    refine (e_kI (q := (18, [some (.ref 52), some (.int l1), some (.int l2), some (.int l3), u4], [.int l3, .int l1, .ref 52])) (q2 := (21, [some (.ref 52), some (.int l1), some (.int l2), some (.int l3), u4], [])) (M := M) (o := (pcl GG lay d 114 [.ref 52, .int l1, .int l3] M)) (hf := rfl) rfl rfl).trans ?_
    refine kI_in (fun r1 M1 => ?_)
    refine (e_if_ne (hf := rfl)).trans ?_
    refine ite_in ?_ ?_
    · refine (evn_adv 2 (q' := (7, [some (.ref 52), some (.int l1), some (.int l2), some (.int (l3 + (jn 1))), u4], [], M1)) rfl).trans ?_
      rfl
    · refine (evn_adv 3 (q' := (35, [some (.ref 52), some (.int l1), some (.int l2), some (.int l3), u4], [.int (M1.1 52 19), .int l3], M1)) rfl).trans ?_
      refine (e_ic_ne (hf := rfl)).trans ?_
      refine ite_in ?_ ?_
      · refine (evn_adv 1 (q' := (39, [some (.ref 52), some (.int l1), some (.int l2), some (.int l3), u4], [.int (jn 0)], M1)) rfl).trans ?_
        exact e_iretz (hf := rfl)
      · refine (evn_adv 2 (q' := (42, [some (.ref 52), some (.int l1), some (.int l2), some (.int l3), u4], [.int l1, .ref 52], M1)) rfl).trans ?_
        refine (e_kV (q := (42, [some (.ref 52), some (.int l1), some (.int l2), some (.int l3), u4], [.int l1, .ref 52])) (q2 := (45, [some (.ref 52), some (.int l1), some (.int l2), some (.int l3), u4], [])) (M := M1) (o := (pcl GG lay d 120 [.ref 52, .int l1] M1)) (hf := rfl) rfl rfl).trans ?_
        refine kV_in (fun M2 => ?_)
        refine (evn_adv 5 (q' := (54, [some (.ref 52), some (.int l1), some (.int l2), some (.int l3), u4], [.int l3, .ref 65, .int (M2.1 52 19)], M2)) rfl).trans ?_
        refine (e_kI (q := (54, [some (.ref 52), some (.int l1), some (.int l2), some (.int l3), u4], [.int l3, .ref 65, .int (M2.1 52 19)])) (q2 := (57, [some (.ref 52), some (.int l1), some (.int l2), some (.int l3), u4], [.int (M2.1 52 19)])) (M := M2) (o := (pcl GG lay d 78 [.ref 65, .int l3] M2)) (hf := rfl) rfl rfl).trans ?_
        refine kI_in (fun r3 M3 => ?_)
        refine (evn_adv 5 (q' := (65, [some (.ref 52), some (.int l1), some (.int l2), some (.int l3), u4], [.int (jn 40), .int (((M2.1 52 19) - r3) + (M3.1 52 26))], M3)) rfl).trans ?_
        refine (e_ic_le (hf := rfl)).trans ?_
        refine ite_in ?_ ?_
        · refine (evn_adv 1 (q' := (69, [some (.ref 52), some (.int l1), some (.int l2), some (.int l3), u4], [.int (jn 0)], M3)) rfl).trans ?_
          exact e_iretz (hf := rfl)
        · refine (evn_adv 7 (q' := (81, [some (.ref 52), some (.int l1), some (.int l2), some (.int l3), u4], [.int (M3.1 52 26), .int (jn 0), .ref 69, .int l3, .ref 52], M3)) rfl).trans ?_
          refine (e_kV (q := (81, [some (.ref 52), some (.int l1), some (.int l2), some (.int l3), u4], [.int (M3.1 52 26), .int (jn 0), .ref 69, .int l3, .ref 52])) (q2 := (84, [some (.ref 52), some (.int l1), some (.int l2), some (.int l3), u4], [])) (M := M3) (o := (pcl GG lay d 121 [.ref 52, .int l3, .ref 69, .int (jn 0), .int (M3.1 52 26)] M3)) (hf := rfl) rfl rfl).trans ?_
          refine kV_in (fun M4 => ?_)
          refine (evn_adv 5 (q' := (93, [some (.ref 52), some (.int l1), some (.int l2), some (.int l3), u4], [.int (M4.1 52 19), .int l2, .ref 53], M4)) rfl).trans ?_
          refine (e_oB (q := (93, [some (.ref 52), some (.int l1), some (.int l2), some (.int l3), u4], [.int (M4.1 52 19), .int l2, .ref 53], M4)) (o := (astI lay M4 53 l2 (M4.1 52 19))) (f := fun M5 => (94, [some (.ref 52), some (.int l1), some (.int l2), some (.int l3), u4], [], M5)) (hf := rfl) rfl).trans ?_
          refine oB_in (fun M5 => ?_)
          refine (evn_adv 2 (q' := (97, [some (.ref 52), some (.int l1), some (.int l2), some (.int l3), some (.int (jn 0))], [], M5)) rfl).trans ?_
          rfl
  · refine (evn_adv 3 (q' := (35, [some (.ref 52), some (.int l1), some (.int l2), some (.int l3), u4], [.int (M.1 52 19), .int l3], M)) rfl).trans ?_
    refine (e_ic_ne (hf := rfl)).trans ?_
    refine ite_in ?_ ?_
    · refine (evn_adv 1 (q' := (39, [some (.ref 52), some (.int l1), some (.int l2), some (.int l3), u4], [.int (jn 0)], M)) rfl).trans ?_
      exact e_iretz (hf := rfl)
    · refine (evn_adv 2 (q' := (42, [some (.ref 52), some (.int l1), some (.int l2), some (.int l3), u4], [.int l1, .ref 52], M)) rfl).trans ?_
      refine (e_kV (q := (42, [some (.ref 52), some (.int l1), some (.int l2), some (.int l3), u4], [.int l1, .ref 52])) (q2 := (45, [some (.ref 52), some (.int l1), some (.int l2), some (.int l3), u4], [])) (M := M) (o := (pcl GG lay d 120 [.ref 52, .int l1] M)) (hf := rfl) rfl rfl).trans ?_
      refine kV_in (fun M1 => ?_)
      refine (evn_adv 5 (q' := (54, [some (.ref 52), some (.int l1), some (.int l2), some (.int l3), u4], [.int l3, .ref 65, .int (M1.1 52 19)], M1)) rfl).trans ?_
      refine (e_kI (q := (54, [some (.ref 52), some (.int l1), some (.int l2), some (.int l3), u4], [.int l3, .ref 65, .int (M1.1 52 19)])) (q2 := (57, [some (.ref 52), some (.int l1), some (.int l2), some (.int l3), u4], [.int (M1.1 52 19)])) (M := M1) (o := (pcl GG lay d 78 [.ref 65, .int l3] M1)) (hf := rfl) rfl rfl).trans ?_
      refine kI_in (fun r2 M2 => ?_)
      refine (evn_adv 5 (q' := (65, [some (.ref 52), some (.int l1), some (.int l2), some (.int l3), u4], [.int (jn 40), .int (((M1.1 52 19) - r2) + (M2.1 52 26))], M2)) rfl).trans ?_
      refine (e_ic_le (hf := rfl)).trans ?_
      refine ite_in ?_ ?_
      · refine (evn_adv 1 (q' := (69, [some (.ref 52), some (.int l1), some (.int l2), some (.int l3), u4], [.int (jn 0)], M2)) rfl).trans ?_
        exact e_iretz (hf := rfl)
      · refine (evn_adv 7 (q' := (81, [some (.ref 52), some (.int l1), some (.int l2), some (.int l3), u4], [.int (M2.1 52 26), .int (jn 0), .ref 69, .int l3, .ref 52], M2)) rfl).trans ?_
        refine (e_kV (q := (81, [some (.ref 52), some (.int l1), some (.int l2), some (.int l3), u4], [.int (M2.1 52 26), .int (jn 0), .ref 69, .int l3, .ref 52])) (q2 := (84, [some (.ref 52), some (.int l1), some (.int l2), some (.int l3), u4], [])) (M := M2) (o := (pcl GG lay d 121 [.ref 52, .int l3, .ref 69, .int (jn 0), .int (M2.1 52 26)] M2)) (hf := rfl) rfl rfl).trans ?_
        refine kV_in (fun M3 => ?_)
        refine (evn_adv 5 (q' := (93, [some (.ref 52), some (.int l1), some (.int l2), some (.int l3), u4], [.int (M3.1 52 19), .int l2, .ref 53], M3)) rfl).trans ?_
        refine (e_oB (q := (93, [some (.ref 52), some (.int l1), some (.int l2), some (.int l3), u4], [.int (M3.1 52 19), .int l2, .ref 53], M3)) (o := (astI lay M3 53 l2 (M3.1 52 19))) (f := fun M4 => (94, [some (.ref 52), some (.int l1), some (.int l2), some (.int l3), u4], [], M4)) (hf := rfl) rfl).trans ?_
        refine oB_in (fun M4 => ?_)
        refine (evn_adv 2 (q' := (97, [some (.ref 52), some (.int l1), some (.int l2), some (.int l3), some (.int (jn 0))], [], M4)) rfl).trans ?_
        rfl
theorem h_173_97 (d : Nat) (u1 : Option Value) (l2 : Int32) (u3 : Option Value) (l4 : Int32) (M : PM) : E_173 d (97, [some (.ref 52), u1, some (.int l2), u3, some (.int l4)], [], M) = (if l4 < (M.1 52 19) then (oB (aldI lay none M 65 l4) fun v1 => (oB (astI lay M 54 (((jn 40) * l2) + l4) v1) fun M2 => E_173 d (97, [some (.ref 52), u1, some (.int l2), u3, some (.int (l4 + (jn 1)))], [], M2))) else (rZ (jn 1) M)) := by
  refine (evn_adv 3 (q' := (103, [some (.ref 52), u1, some (.int l2), u3, some (.int l4)], [.int (M.1 52 19), .int l4], M)) rfl).trans ?_
  refine (e_ic_ge (hf := rfl)).trans ?_
  refine ite_in ?_ ?_
  · refine (evn_adv 10 (q' := (123, [some (.ref 52), u1, some (.int l2), u3, some (.int l4)], [.int l4, .ref 65, .int (((jn 40) * l2) + l4), .ref 54], M)) rfl).trans ?_
    refine (e_oB (q := (123, [some (.ref 52), u1, some (.int l2), u3, some (.int l4)], [.int l4, .ref 65, .int (((jn 40) * l2) + l4), .ref 54], M)) (o := (aldI lay none M 65 l4)) (f := fun v1 => (124, [some (.ref 52), u1, some (.int l2), u3, some (.int l4)], [.int v1, .int (((jn 40) * l2) + l4), .ref 54], M)) (hf := rfl) rfl).trans ?_
    refine oB_in (fun v1 => ?_)
    refine (e_oB (q := (124, [some (.ref 52), u1, some (.int l2), u3, some (.int l4)], [.int v1, .int (((jn 40) * l2) + l4), .ref 54], M)) (o := (astI lay M 54 (((jn 40) * l2) + l4) v1)) (f := fun M2 => (125, [some (.ref 52), u1, some (.int l2), u3, some (.int l4)], [], M2)) (hf := rfl) rfl).trans ?_
    refine oB_in (fun M2 => ?_)
    refine (evn_adv 2 (q' := (97, [some (.ref 52), u1, some (.int l2), u3, some (.int (l4 + (jn 1)))], [], M2)) rfl).trans ?_
    rfl
  · refine (evn_adv 1 (q' := (132, [some (.ref 52), u1, some (.int l2), u3, some (.int l4)], [.int (jn 1)], M)) rfl).trans ?_
    exact e_iretz (hf := rfl)
/-- TermStrategiesModel.days(I)I -/
noncomputable abbrev E_174 (d : Nat) : PQ → PO := evn (rnn k_174 lay none (pcl GG lay d) 1)
theorem q_174 (d : Nat) (l1 : Int32) (M : PM) : pcl GG lay (d + 1) 174 [.ref 52, .int l1] M = (if (M.1 52 3) = jn 0 then (kI (pcl GG lay d 69 [.ref 52, .int (jz 5)] M) fun r1 M1 => (rI r1 M1)) else (if (M.1 52 0) = jn 0 then (kI (pcl GG lay d 69 [.ref 52, .int (jz 5)] M) fun r1 M1 => (rI r1 M1)) else (kI (pcl GG lay d 71 [.int l1, .int (jn 1), .int (jn 40)] M) fun r1 M1 => (if r1 = jn 0 then (kI (pcl GG lay d 69 [.ref 52, .int (jz 6)] M1) fun r2 M2 => (rI r2 M2)) else E_174 d (42, [some (.ref 52), some (.int l1), some (.int (jn 0)), some (.int (jn 0)), none], [], M1))))) := by
  refine (pcl_un (mt := t_174) (by decide) rfl (Nat.le_of_ble_eq_true rfl)).trans ?_
  show E_174 d (0, [some (.ref 52), some (.int l1), none, none, none], [], M) = _
  refine (evn_adv 2 (q' := (4, [some (.ref 52), some (.int l1), none, none, none], [.int (M.1 52 3)], M)) rfl).trans ?_
  refine (e_if_eq (hf := rfl)).trans ?_
  refine ite_in ?_ ?_
  · refine (evn_adv 2 (q' := (17, [some (.ref 52), some (.int l1), none, none, none], [.int (jz 5), .ref 52], M)) rfl).trans ?_
    refine (e_kI (q := (17, [some (.ref 52), some (.int l1), none, none, none], [.int (jz 5), .ref 52])) (q2 := (20, [some (.ref 52), some (.int l1), none, none, none], [])) (M := M) (o := (pcl GG lay d 69 [.ref 52, .int (jz 5)] M)) (hf := rfl) rfl rfl).trans ?_
    refine kI_in (fun r1 M1 => ?_)
    exact evn_end 1 rfl
  · refine (evn_adv 2 (q' := (11, [some (.ref 52), some (.int l1), none, none, none], [.int (M.1 52 0)], M)) rfl).trans ?_
    refine (e_if_ne (hf := rfl)).trans ?_
    refine ite_in ?_ ?_
    · refine (evn_adv 2 (q' := (17, [some (.ref 52), some (.int l1), none, none, none], [.int (jz 5), .ref 52], M)) rfl).trans ?_
      refine (e_kI (q := (17, [some (.ref 52), some (.int l1), none, none, none], [.int (jz 5), .ref 52])) (q2 := (20, [some (.ref 52), some (.int l1), none, none, none], [])) (M := M) (o := (pcl GG lay d 69 [.ref 52, .int (jz 5)] M)) (hf := rfl) rfl rfl).trans ?_
      refine kI_in (fun r1 M1 => ?_)
      exact evn_end 1 rfl
    · refine (evn_adv 3 (q' := (25, [some (.ref 52), some (.int l1), none, none, none], [.int (jn 40), .int (jn 1), .int l1], M)) rfl).trans ?_
      refine (e_kI (q := (25, [some (.ref 52), some (.int l1), none, none, none], [.int (jn 40), .int (jn 1), .int l1])) (q2 := (28, [some (.ref 52), some (.int l1), none, none, none], [])) (M := M) (o := (pcl GG lay d 71 [.int l1, .int (jn 1), .int (jn 40)] M)) (hf := rfl) rfl rfl).trans ?_
      refine kI_in (fun r1 M1 => ?_)
      refine (e_if_ne (hf := rfl)).trans ?_
      refine ite_in ?_ ?_
      · refine (evn_adv 2 (q' := (34, [some (.ref 52), some (.int l1), none, none, none], [.int (jz 6), .ref 52], M1)) rfl).trans ?_
        refine (e_kI (q := (34, [some (.ref 52), some (.int l1), none, none, none], [.int (jz 6), .ref 52])) (q2 := (37, [some (.ref 52), some (.int l1), none, none, none], [])) (M := M1) (o := (pcl GG lay d 69 [.ref 52, .int (jz 6)] M1)) (hf := rfl) rfl rfl).trans ?_
        refine kI_in (fun r2 M2 => ?_)
        exact evn_end 1 rfl
      · refine (evn_adv 4 (q' := (42, [some (.ref 52), some (.int l1), some (.int (jn 0)), some (.int (jn 0)), none], [], M1)) rfl).trans ?_
        rfl
theorem h_174_42 (d : Nat) (l1 : Int32) (l2 : Int32) (l3 : Int32) (u4 : Option Value) (M : PM) : E_174 d (42, [some (.ref 52), some (.int l1), some (.int l2), some (.int l3), u4], [], M) = (if l3 < l1 then (kI (pcl GG lay d 172 [.ref 52, .int (M.1 52 3)] M) fun r1 M1 => (kI (pcl GG lay d 172 [.ref 52, .int (M1.1 52 0)] M1) fun r2 M2 => (kI (pcl GG lay d 173 [.ref 52, .int r1, .int r2] M2) fun r3 M3 => (if r3 = jn 0 then E_174 d (42, [some (.ref 52), some (.int l1), some (.int l2), some (.int (l3 + (jn 1))), some (.int r1)], [], M3) else E_174 d (42, [some (.ref 52), some (.int l1), some (.int (l2 + (jn 1))), some (.int (l3 + (jn 1))), some (.int r1)], [], M3))))) else (rI l2 M)) := by
  refine (evn_adv 2 (q' := (44, [some (.ref 52), some (.int l1), some (.int l2), some (.int l3), u4], [.int l1, .int l3], M)) rfl).trans ?_
  refine (e_ic_ge (hf := rfl)).trans ?_
  refine ite_in ?_ ?_
  · refine (evn_adv 3 (q' := (52, [some (.ref 52), some (.int l1), some (.int l2), some (.int l3), u4], [.int (M.1 52 3), .ref 52], M)) rfl).trans ?_
    refine (e_kI (q := (52, [some (.ref 52), some (.int l1), some (.int l2), some (.int l3), u4], [.int (M.1 52 3), .ref 52])) (q2 := (55, [some (.ref 52), some (.int l1), some (.int l2), some (.int l3), u4], [])) (M := M) (o := (pcl GG lay d 172 [.ref 52, .int (M.1 52 3)] M)) (hf := rfl) rfl rfl).trans ?_
    refine kI_in (fun r1 M1 => ?_)
    refine (evn_adv 6 (q' := (65, [some (.ref 52), some (.int l1), some (.int l2), some (.int l3), some (.int r1)], [.int (M1.1 52 0), .ref 52, .int r1, .ref 52], M1)) rfl).trans ?_
    refine (e_kI (q := (65, [some (.ref 52), some (.int l1), some (.int l2), some (.int l3), some (.int r1)], [.int (M1.1 52 0), .ref 52, .int r1, .ref 52])) (q2 := (68, [some (.ref 52), some (.int l1), some (.int l2), some (.int l3), some (.int r1)], [.int r1, .ref 52])) (M := M1) (o := (pcl GG lay d 172 [.ref 52, .int (M1.1 52 0)] M1)) (hf := rfl) rfl rfl).trans ?_
    refine kI_in (fun r2 M2 => ?_)
    refine (e_kI (q := (68, [some (.ref 52), some (.int l1), some (.int l2), some (.int l3), some (.int r1)], [.int r2, .int r1, .ref 52])) (q2 := (71, [some (.ref 52), some (.int l1), some (.int l2), some (.int l3), some (.int r1)], [])) (M := M2) (o := (pcl GG lay d 173 [.ref 52, .int r1, .int r2] M2)) (hf := rfl) rfl rfl).trans ?_
    refine kI_in (fun r3 M3 => ?_)
    refine (e_if_eq (hf := rfl)).trans ?_
    refine ite_in ?_ ?_
    · refine (evn_adv 2 (q' := (42, [some (.ref 52), some (.int l1), some (.int l2), some (.int (l3 + (jn 1))), some (.int r1)], [], M3)) rfl).trans ?_
      rfl
    · refine (evn_adv 3 (q' := (42, [some (.ref 52), some (.int l1), some (.int (l2 + (jn 1))), some (.int (l3 + (jn 1))), some (.int r1)], [], M3)) rfl).trans ?_
      rfl
  · refine (evn_adv 1 (q' := (84, [some (.ref 52), some (.int l1), some (.int l2), some (.int l3), u4], [.int l2], M)) rfl).trans ?_
    exact evn_end 1 rfl
/-- TermStrategiesModel.seed(I)I -/
noncomputable abbrev E_175 (d : Nat) : PQ → PO := evn (rnn k_175 lay none (pcl GG lay d) 1)
theorem q_175 (d : Nat) (l1 : Int32) (M : PM) : pcl GG lay (d + 1) 175 [.ref 52, .int l1] M = (wr (sI M 52 (va_up (M.1 52) 12 l1)) fun M1 => (rI (M.1 52 12) M1)) := by
  refine (pcl_un (mt := t_175) (by decide) rfl (Nat.le_of_ble_eq_true rfl)).trans ?_
  show E_175 d (0, [some (.ref 52), some (.int l1), none], [], M) = _
  refine (evn_adv 5 (q' := (7, [some (.ref 52), some (.int l1), some (.int (M.1 52 12))], [.int l1, .ref 52], M)) rfl).trans ?_
  refine (evn_adv 1 (q' := (10, [some (.ref 52), some (.int l1), some (.int (M.1 52 12))], [], (sI M 52 (va_up (M.1 52) 12 l1)))) rfl).trans ?_
  refine wr_in (f := fun M1 => E_175 d (10, [some (.ref 52), some (.int l1), some (.int (M.1 52 12))], [], M1)) (fun M1 => ?_)
  refine (evn_adv 1 (q' := (11, [some (.ref 52), some (.int l1), some (.int (M.1 52 12))], [.int (M.1 52 12)], M1)) rfl).trans ?_
  exact evn_end 1 rfl
/-- TermStrategiesModel.image()I -/
noncomputable abbrev E_176 (d : Nat) : PQ → PO := evn (rnn k_176 lay none (pcl GG lay d) 1)
theorem q_176 (d : Nat)  (M : PM) : pcl GG lay (d + 1) 176 [.ref 52] M = (wr (sI M 52 (va_up (M.1 52) 48 (jn 1))) fun M1 => (wr (sI M1 52 (va_up (M1.1 52) 49 (M1.1 52 0))) fun M2 => (wr (sI M2 52 (va_up (M2.1 52) 52 (M2.1 52 3))) fun M3 => (wr (sI M3 52 (va_up (M3.1 52) 55 (M3.1 52 6))) fun M4 => (wr (sI M4 52 (va_up (M4.1 52) 59 (M4.1 52 11))) fun M5 => (wr (sI M5 52 (va_up (M5.1 52) 60 (M5.1 52 12))) fun M6 => E_176 d (47, [some (.ref 52), some (.int (jn 0))], [], M6))))))) := by
  refine (pcl_un (mt := t_176) (by decide) rfl (Nat.le_of_ble_eq_true rfl)).trans ?_
  show E_176 d (0, [some (.ref 52), none], [], M) = _
  refine (evn_adv 2 (q' := (2, [some (.ref 52), none], [.int (jn 1), .ref 52], M)) rfl).trans ?_
  refine (e_putz (q2 := (5, [some (.ref 52), none], [])) (k := 52) (j := 48) rfl rfl).trans ?_
  refine (if_pos (Or.inr rfl)).trans ?_
  refine wr_in (f := fun M1 => E_176 d (5, [some (.ref 52), none], [], M1)) (fun M1 => ?_)
  refine (evn_adv 3 (q' := (10, [some (.ref 52), none], [.int (M1.1 52 0), .ref 52], M1)) rfl).trans ?_
  refine (evn_adv 1 (q' := (13, [some (.ref 52), none], [], (sI M1 52 (va_up (M1.1 52) 49 (M1.1 52 0))))) rfl).trans ?_
  refine wr_in (f := fun M2 => E_176 d (13, [some (.ref 52), none], [], M2)) (fun M2 => ?_)
  refine (evn_adv 3 (q' := (18, [some (.ref 52), none], [.int (M2.1 52 3), .ref 52], M2)) rfl).trans ?_
  refine (evn_adv 1 (q' := (21, [some (.ref 52), none], [], (sI M2 52 (va_up (M2.1 52) 52 (M2.1 52 3))))) rfl).trans ?_
  refine wr_in (f := fun M3 => E_176 d (21, [some (.ref 52), none], [], M3)) (fun M3 => ?_)
  refine (evn_adv 3 (q' := (26, [some (.ref 52), none], [.int (M3.1 52 6), .ref 52], M3)) rfl).trans ?_
  refine (evn_adv 1 (q' := (29, [some (.ref 52), none], [], (sI M3 52 (va_up (M3.1 52) 55 (M3.1 52 6))))) rfl).trans ?_
  refine wr_in (f := fun M4 => E_176 d (29, [some (.ref 52), none], [], M4)) (fun M4 => ?_)
  refine (evn_adv 3 (q' := (34, [some (.ref 52), none], [.int (M4.1 52 11), .ref 52], M4)) rfl).trans ?_
  refine (evn_adv 1 (q' := (37, [some (.ref 52), none], [], (sI M4 52 (va_up (M4.1 52) 59 (M4.1 52 11))))) rfl).trans ?_
  refine wr_in (f := fun M5 => E_176 d (37, [some (.ref 52), none], [], M5)) (fun M5 => ?_)
  refine (evn_adv 3 (q' := (42, [some (.ref 52), none], [.int (M5.1 52 12), .ref 52], M5)) rfl).trans ?_
  refine (evn_adv 1 (q' := (45, [some (.ref 52), none], [], (sI M5 52 (va_up (M5.1 52) 60 (M5.1 52 12))))) rfl).trans ?_
  refine wr_in (f := fun M6 => E_176 d (45, [some (.ref 52), none], [], M6)) (fun M6 => ?_)
  refine (evn_adv 2 (q' := (47, [some (.ref 52), some (.int (jn 0))], [], M6)) rfl).trans ?_
  rfl
theorem h_176_47 (d : Nat) (l1 : Int32) (M : PM) : E_176 d (47, [some (.ref 52), some (.int l1)], [], M) = (if l1 < (jn 24) then (oB (aldI lay none M 53 l1) fun v1 => (oB (astI lay M 81 l1 v1) fun M2 => (oB (aldI lay none M2 55 l1) fun v3 => (oB (astI lay M2 83 l1 v3) fun M4 => (oB (aldI lay none M4 57 l1) fun v5 => (oB (astI lay M4 85 l1 v5) fun M6 => (oB (aldI lay none M6 58 l1) fun v7 => (oB (astI lay M6 86 l1 v7) fun M8 => (oB (aldI lay none M8 59 l1) fun v9 => (oB (astI lay M8 87 l1 v9) fun M10 => E_176 d (47, [some (.ref 52), some (.int (l1 + (jn 1)))], [], M10))))))))))) else E_176 d (121, [some (.ref 52), some (.int (jn 0))], [], M)) := by
  refine (evn_adv 2 (q' := (50, [some (.ref 52), some (.int l1)], [.int (jn 24), .int l1], M)) rfl).trans ?_
  refine (e_ic_ge (hf := rfl)).trans ?_
  refine ite_in ?_ ?_
  · refine (evn_adv 6 (q' := (63, [some (.ref 52), some (.int l1)], [.int l1, .ref 53, .int l1, .ref 81], M)) rfl).trans ?_
    refine (e_oB (q := (63, [some (.ref 52), some (.int l1)], [.int l1, .ref 53, .int l1, .ref 81], M)) (o := (aldI lay none M 53 l1)) (f := fun v1 => (64, [some (.ref 52), some (.int l1)], [.int v1, .int l1, .ref 81], M)) (hf := rfl) rfl).trans ?_
    refine oB_in (fun v1 => ?_)
    refine (e_oB (q := (64, [some (.ref 52), some (.int l1)], [.int v1, .int l1, .ref 81], M)) (o := (astI lay M 81 l1 v1)) (f := fun M2 => (65, [some (.ref 52), some (.int l1)], [], M2)) (hf := rfl) rfl).trans ?_
    refine oB_in (fun M2 => ?_)
    refine (evn_adv 6 (q' := (75, [some (.ref 52), some (.int l1)], [.int l1, .ref 55, .int l1, .ref 83], M2)) rfl).trans ?_
    refine (e_oB (q := (75, [some (.ref 52), some (.int l1)], [.int l1, .ref 55, .int l1, .ref 83], M2)) (o := (aldI lay none M2 55 l1)) (f := fun v3 => (76, [some (.ref 52), some (.int l1)], [.int v3, .int l1, .ref 83], M2)) (hf := rfl) rfl).trans ?_
    refine oB_in (fun v3 => ?_)
    refine (e_oB (q := (76, [some (.ref 52), some (.int l1)], [.int v3, .int l1, .ref 83], M2)) (o := (astI lay M2 83 l1 v3)) (f := fun M4 => (77, [some (.ref 52), some (.int l1)], [], M4)) (hf := rfl) rfl).trans ?_
    refine oB_in (fun M4 => ?_)
    refine (evn_adv 6 (q' := (87, [some (.ref 52), some (.int l1)], [.int l1, .ref 57, .int l1, .ref 85], M4)) rfl).trans ?_
    refine (e_oB (q := (87, [some (.ref 52), some (.int l1)], [.int l1, .ref 57, .int l1, .ref 85], M4)) (o := (aldI lay none M4 57 l1)) (f := fun v5 => (88, [some (.ref 52), some (.int l1)], [.int v5, .int l1, .ref 85], M4)) (hf := rfl) rfl).trans ?_
    refine oB_in (fun v5 => ?_)
    refine (e_oB (q := (88, [some (.ref 52), some (.int l1)], [.int v5, .int l1, .ref 85], M4)) (o := (astI lay M4 85 l1 v5)) (f := fun M6 => (89, [some (.ref 52), some (.int l1)], [], M6)) (hf := rfl) rfl).trans ?_
    refine oB_in (fun M6 => ?_)
    refine (evn_adv 6 (q' := (99, [some (.ref 52), some (.int l1)], [.int l1, .ref 58, .int l1, .ref 86], M6)) rfl).trans ?_
    refine (e_oB (q := (99, [some (.ref 52), some (.int l1)], [.int l1, .ref 58, .int l1, .ref 86], M6)) (o := (aldI lay none M6 58 l1)) (f := fun v7 => (100, [some (.ref 52), some (.int l1)], [.int v7, .int l1, .ref 86], M6)) (hf := rfl) rfl).trans ?_
    refine oB_in (fun v7 => ?_)
    refine (e_oB (q := (100, [some (.ref 52), some (.int l1)], [.int v7, .int l1, .ref 86], M6)) (o := (astI lay M6 86 l1 v7)) (f := fun M8 => (101, [some (.ref 52), some (.int l1)], [], M8)) (hf := rfl) rfl).trans ?_
    refine oB_in (fun M8 => ?_)
    refine (evn_adv 6 (q' := (111, [some (.ref 52), some (.int l1)], [.int l1, .ref 59, .int l1, .ref 87], M8)) rfl).trans ?_
    refine (e_oB (q := (111, [some (.ref 52), some (.int l1)], [.int l1, .ref 59, .int l1, .ref 87], M8)) (o := (aldI lay none M8 59 l1)) (f := fun v9 => (112, [some (.ref 52), some (.int l1)], [.int v9, .int l1, .ref 87], M8)) (hf := rfl) rfl).trans ?_
    refine oB_in (fun v9 => ?_)
    refine (e_oB (q := (112, [some (.ref 52), some (.int l1)], [.int v9, .int l1, .ref 87], M8)) (o := (astI lay M8 87 l1 v9)) (f := fun M10 => (113, [some (.ref 52), some (.int l1)], [], M10)) (hf := rfl) rfl).trans ?_
    refine oB_in (fun M10 => ?_)
    refine (evn_adv 2 (q' := (47, [some (.ref 52), some (.int (l1 + (jn 1)))], [], M10)) rfl).trans ?_
    rfl
  · refine (evn_adv 2 (q' := (121, [some (.ref 52), some (.int (jn 0))], [], M)) rfl).trans ?_
    rfl
theorem h_176_121 (d : Nat) (l1 : Int32) (M : PM) : E_176 d (121, [some (.ref 52), some (.int l1)], [], M) = (if l1 < (jn 960) then (oB (aldI lay none M 54 l1) fun v1 => (oB (astI lay M 82 l1 v1) fun M2 => (oB (aldI lay none M2 56 l1) fun v3 => (oB (astI lay M2 84 l1 v3) fun M4 => E_176 d (121, [some (.ref 52), some (.int (l1 + (jn 1)))], [], M4))))) else (rI (M.1 52 0) M)) := by
  refine (evn_adv 2 (q' := (125, [some (.ref 52), some (.int l1)], [.int (jn 960), .int l1], M)) rfl).trans ?_
  refine (e_ic_ge (hf := rfl)).trans ?_
  refine ite_in ?_ ?_
  · refine (evn_adv 6 (q' := (138, [some (.ref 52), some (.int l1)], [.int l1, .ref 54, .int l1, .ref 82], M)) rfl).trans ?_
    refine (e_oB (q := (138, [some (.ref 52), some (.int l1)], [.int l1, .ref 54, .int l1, .ref 82], M)) (o := (aldI lay none M 54 l1)) (f := fun v1 => (139, [some (.ref 52), some (.int l1)], [.int v1, .int l1, .ref 82], M)) (hf := rfl) rfl).trans ?_
    refine oB_in (fun v1 => ?_)
    refine (e_oB (q := (139, [some (.ref 52), some (.int l1)], [.int v1, .int l1, .ref 82], M)) (o := (astI lay M 82 l1 v1)) (f := fun M2 => (140, [some (.ref 52), some (.int l1)], [], M2)) (hf := rfl) rfl).trans ?_
    refine oB_in (fun M2 => ?_)
    refine (evn_adv 6 (q' := (150, [some (.ref 52), some (.int l1)], [.int l1, .ref 56, .int l1, .ref 84], M2)) rfl).trans ?_
    refine (e_oB (q := (150, [some (.ref 52), some (.int l1)], [.int l1, .ref 56, .int l1, .ref 84], M2)) (o := (aldI lay none M2 56 l1)) (f := fun v3 => (151, [some (.ref 52), some (.int l1)], [.int v3, .int l1, .ref 84], M2)) (hf := rfl) rfl).trans ?_
    refine oB_in (fun v3 => ?_)
    refine (e_oB (q := (151, [some (.ref 52), some (.int l1)], [.int v3, .int l1, .ref 84], M2)) (o := (astI lay M2 84 l1 v3)) (f := fun M4 => (152, [some (.ref 52), some (.int l1)], [], M4)) (hf := rfl) rfl).trans ?_
    refine oB_in (fun M4 => ?_)
    refine (evn_adv 2 (q' := (121, [some (.ref 52), some (.int (l1 + (jn 1)))], [], M4)) rfl).trans ?_
    rfl
  · refine (evn_adv 2 (q' := (162, [some (.ref 52), some (.int l1)], [.int (M.1 52 0)], M)) rfl).trans ?_
    exact evn_end 1 rfl
/-- TermStrategiesModel.restore()I -/
noncomputable abbrev E_177 (d : Nat) : PQ → PO := evn (rnn k_177 lay none (pcl GG lay d) 1)
theorem q_177 (d : Nat)  (M : PM) : pcl GG lay (d + 1) 177 [.ref 52] M = (if (M.1 52 48) = jn 0 then (kI (pcl GG lay d 69 [.ref 52, .int (jz 6)] M) fun r1 M1 => (rI r1 M1)) else (wr (sI M 52 (va_up (M.1 52) 0 (M.1 52 49))) fun M1 => (wr (sI M1 52 (va_up (M1.1 52) 3 (M1.1 52 52))) fun M2 => (wr (sI M2 52 (va_up (M2.1 52) 6 (M2.1 52 55))) fun M3 => (wr (sI M3 52 (va_up (M3.1 52) 11 (M3.1 52 59))) fun M4 => (wr (sI M4 52 (va_up (M4.1 52) 12 (M4.1 52 60))) fun M5 => E_177 d (56, [some (.ref 52), some (.int (jn 0))], [], M5))))))) := by
  refine (pcl_un (mt := t_177) (by decide) rfl (Nat.le_of_ble_eq_true rfl)).trans ?_
  show E_177 d (0, [some (.ref 52), none], [], M) = _
  refine (evn_adv 2 (q' := (4, [some (.ref 52), none], [.int (M.1 52 48)], M)) rfl).trans ?_
  refine (e_if_ne (hf := rfl)).trans ?_
  refine ite_in ?_ ?_
  · refine (evn_adv 2 (q' := (10, [some (.ref 52), none], [.int (jz 6), .ref 52], M)) rfl).trans ?_
    refine (e_kI (q := (10, [some (.ref 52), none], [.int (jz 6), .ref 52])) (q2 := (13, [some (.ref 52), none], [])) (M := M) (o := (pcl GG lay d 69 [.ref 52, .int (jz 6)] M)) (hf := rfl) rfl rfl).trans ?_
    refine kI_in (fun r1 M1 => ?_)
    exact evn_end 1 rfl
  · refine (evn_adv 3 (q' := (19, [some (.ref 52), none], [.int (M.1 52 49), .ref 52], M)) rfl).trans ?_
    refine (evn_adv 1 (q' := (22, [some (.ref 52), none], [], (sI M 52 (va_up (M.1 52) 0 (M.1 52 49))))) rfl).trans ?_
    refine wr_in (f := fun M1 => E_177 d (22, [some (.ref 52), none], [], M1)) (fun M1 => ?_)
    refine (evn_adv 3 (q' := (27, [some (.ref 52), none], [.int (M1.1 52 52), .ref 52], M1)) rfl).trans ?_
    refine (evn_adv 1 (q' := (30, [some (.ref 52), none], [], (sI M1 52 (va_up (M1.1 52) 3 (M1.1 52 52))))) rfl).trans ?_
    refine wr_in (f := fun M2 => E_177 d (30, [some (.ref 52), none], [], M2)) (fun M2 => ?_)
    refine (evn_adv 3 (q' := (35, [some (.ref 52), none], [.int (M2.1 52 55), .ref 52], M2)) rfl).trans ?_
    refine (evn_adv 1 (q' := (38, [some (.ref 52), none], [], (sI M2 52 (va_up (M2.1 52) 6 (M2.1 52 55))))) rfl).trans ?_
    refine wr_in (f := fun M3 => E_177 d (38, [some (.ref 52), none], [], M3)) (fun M3 => ?_)
    refine (evn_adv 3 (q' := (43, [some (.ref 52), none], [.int (M3.1 52 59), .ref 52], M3)) rfl).trans ?_
    refine (evn_adv 1 (q' := (46, [some (.ref 52), none], [], (sI M3 52 (va_up (M3.1 52) 11 (M3.1 52 59))))) rfl).trans ?_
    refine wr_in (f := fun M4 => E_177 d (46, [some (.ref 52), none], [], M4)) (fun M4 => ?_)
    refine (evn_adv 3 (q' := (51, [some (.ref 52), none], [.int (M4.1 52 60), .ref 52], M4)) rfl).trans ?_
    refine (evn_adv 1 (q' := (54, [some (.ref 52), none], [], (sI M4 52 (va_up (M4.1 52) 12 (M4.1 52 60))))) rfl).trans ?_
    refine wr_in (f := fun M5 => E_177 d (54, [some (.ref 52), none], [], M5)) (fun M5 => ?_)
    refine (evn_adv 2 (q' := (56, [some (.ref 52), some (.int (jn 0))], [], M5)) rfl).trans ?_
    rfl
theorem h_177_56 (d : Nat) (l1 : Int32) (M : PM) : E_177 d (56, [some (.ref 52), some (.int l1)], [], M) = (if l1 < (jn 24) then (oB (aldI lay none M 81 l1) fun v1 => (oB (astI lay M 53 l1 v1) fun M2 => (oB (aldI lay none M2 83 l1) fun v3 => (oB (astI lay M2 55 l1 v3) fun M4 => (oB (aldI lay none M4 85 l1) fun v5 => (oB (astI lay M4 57 l1 v5) fun M6 => (oB (aldI lay none M6 86 l1) fun v7 => (oB (astI lay M6 58 l1 v7) fun M8 => (oB (aldI lay none M8 87 l1) fun v9 => (oB (astI lay M8 59 l1 v9) fun M10 => E_177 d (56, [some (.ref 52), some (.int (l1 + (jn 1)))], [], M10))))))))))) else E_177 d (130, [some (.ref 52), some (.int (jn 0))], [], M)) := by
  refine (evn_adv 2 (q' := (59, [some (.ref 52), some (.int l1)], [.int (jn 24), .int l1], M)) rfl).trans ?_
  refine (e_ic_ge (hf := rfl)).trans ?_
  refine ite_in ?_ ?_
  · refine (evn_adv 6 (q' := (72, [some (.ref 52), some (.int l1)], [.int l1, .ref 81, .int l1, .ref 53], M)) rfl).trans ?_
    refine (e_oB (q := (72, [some (.ref 52), some (.int l1)], [.int l1, .ref 81, .int l1, .ref 53], M)) (o := (aldI lay none M 81 l1)) (f := fun v1 => (73, [some (.ref 52), some (.int l1)], [.int v1, .int l1, .ref 53], M)) (hf := rfl) rfl).trans ?_
    refine oB_in (fun v1 => ?_)
    refine (e_oB (q := (73, [some (.ref 52), some (.int l1)], [.int v1, .int l1, .ref 53], M)) (o := (astI lay M 53 l1 v1)) (f := fun M2 => (74, [some (.ref 52), some (.int l1)], [], M2)) (hf := rfl) rfl).trans ?_
    refine oB_in (fun M2 => ?_)
    refine (evn_adv 6 (q' := (84, [some (.ref 52), some (.int l1)], [.int l1, .ref 83, .int l1, .ref 55], M2)) rfl).trans ?_
    refine (e_oB (q := (84, [some (.ref 52), some (.int l1)], [.int l1, .ref 83, .int l1, .ref 55], M2)) (o := (aldI lay none M2 83 l1)) (f := fun v3 => (85, [some (.ref 52), some (.int l1)], [.int v3, .int l1, .ref 55], M2)) (hf := rfl) rfl).trans ?_
    refine oB_in (fun v3 => ?_)
    refine (e_oB (q := (85, [some (.ref 52), some (.int l1)], [.int v3, .int l1, .ref 55], M2)) (o := (astI lay M2 55 l1 v3)) (f := fun M4 => (86, [some (.ref 52), some (.int l1)], [], M4)) (hf := rfl) rfl).trans ?_
    refine oB_in (fun M4 => ?_)
    refine (evn_adv 6 (q' := (96, [some (.ref 52), some (.int l1)], [.int l1, .ref 85, .int l1, .ref 57], M4)) rfl).trans ?_
    refine (e_oB (q := (96, [some (.ref 52), some (.int l1)], [.int l1, .ref 85, .int l1, .ref 57], M4)) (o := (aldI lay none M4 85 l1)) (f := fun v5 => (97, [some (.ref 52), some (.int l1)], [.int v5, .int l1, .ref 57], M4)) (hf := rfl) rfl).trans ?_
    refine oB_in (fun v5 => ?_)
    refine (e_oB (q := (97, [some (.ref 52), some (.int l1)], [.int v5, .int l1, .ref 57], M4)) (o := (astI lay M4 57 l1 v5)) (f := fun M6 => (98, [some (.ref 52), some (.int l1)], [], M6)) (hf := rfl) rfl).trans ?_
    refine oB_in (fun M6 => ?_)
    refine (evn_adv 6 (q' := (108, [some (.ref 52), some (.int l1)], [.int l1, .ref 86, .int l1, .ref 58], M6)) rfl).trans ?_
    refine (e_oB (q := (108, [some (.ref 52), some (.int l1)], [.int l1, .ref 86, .int l1, .ref 58], M6)) (o := (aldI lay none M6 86 l1)) (f := fun v7 => (109, [some (.ref 52), some (.int l1)], [.int v7, .int l1, .ref 58], M6)) (hf := rfl) rfl).trans ?_
    refine oB_in (fun v7 => ?_)
    refine (e_oB (q := (109, [some (.ref 52), some (.int l1)], [.int v7, .int l1, .ref 58], M6)) (o := (astI lay M6 58 l1 v7)) (f := fun M8 => (110, [some (.ref 52), some (.int l1)], [], M8)) (hf := rfl) rfl).trans ?_
    refine oB_in (fun M8 => ?_)
    refine (evn_adv 6 (q' := (120, [some (.ref 52), some (.int l1)], [.int l1, .ref 87, .int l1, .ref 59], M8)) rfl).trans ?_
    refine (e_oB (q := (120, [some (.ref 52), some (.int l1)], [.int l1, .ref 87, .int l1, .ref 59], M8)) (o := (aldI lay none M8 87 l1)) (f := fun v9 => (121, [some (.ref 52), some (.int l1)], [.int v9, .int l1, .ref 59], M8)) (hf := rfl) rfl).trans ?_
    refine oB_in (fun v9 => ?_)
    refine (e_oB (q := (121, [some (.ref 52), some (.int l1)], [.int v9, .int l1, .ref 59], M8)) (o := (astI lay M8 59 l1 v9)) (f := fun M10 => (122, [some (.ref 52), some (.int l1)], [], M10)) (hf := rfl) rfl).trans ?_
    refine oB_in (fun M10 => ?_)
    refine (evn_adv 2 (q' := (56, [some (.ref 52), some (.int (l1 + (jn 1)))], [], M10)) rfl).trans ?_
    rfl
  · refine (evn_adv 2 (q' := (130, [some (.ref 52), some (.int (jn 0))], [], M)) rfl).trans ?_
    rfl
theorem h_177_130 (d : Nat) (l1 : Int32) (M : PM) : E_177 d (130, [some (.ref 52), some (.int l1)], [], M) = (if l1 < (jn 960) then (oB (aldI lay none M 82 l1) fun v1 => (oB (astI lay M 54 l1 v1) fun M2 => (oB (aldI lay none M2 84 l1) fun v3 => (oB (astI lay M2 56 l1 v3) fun M4 => E_177 d (130, [some (.ref 52), some (.int (l1 + (jn 1)))], [], M4))))) else E_177 d (169, [some (.ref 52), some (.int (jn 0))], [], M)) := by
  refine (evn_adv 2 (q' := (134, [some (.ref 52), some (.int l1)], [.int (jn 960), .int l1], M)) rfl).trans ?_
  refine (e_ic_ge (hf := rfl)).trans ?_
  refine ite_in ?_ ?_
  · refine (evn_adv 6 (q' := (147, [some (.ref 52), some (.int l1)], [.int l1, .ref 82, .int l1, .ref 54], M)) rfl).trans ?_
    refine (e_oB (q := (147, [some (.ref 52), some (.int l1)], [.int l1, .ref 82, .int l1, .ref 54], M)) (o := (aldI lay none M 82 l1)) (f := fun v1 => (148, [some (.ref 52), some (.int l1)], [.int v1, .int l1, .ref 54], M)) (hf := rfl) rfl).trans ?_
    refine oB_in (fun v1 => ?_)
    refine (e_oB (q := (148, [some (.ref 52), some (.int l1)], [.int v1, .int l1, .ref 54], M)) (o := (astI lay M 54 l1 v1)) (f := fun M2 => (149, [some (.ref 52), some (.int l1)], [], M2)) (hf := rfl) rfl).trans ?_
    refine oB_in (fun M2 => ?_)
    refine (evn_adv 6 (q' := (159, [some (.ref 52), some (.int l1)], [.int l1, .ref 84, .int l1, .ref 56], M2)) rfl).trans ?_
    refine (e_oB (q := (159, [some (.ref 52), some (.int l1)], [.int l1, .ref 84, .int l1, .ref 56], M2)) (o := (aldI lay none M2 84 l1)) (f := fun v3 => (160, [some (.ref 52), some (.int l1)], [.int v3, .int l1, .ref 56], M2)) (hf := rfl) rfl).trans ?_
    refine oB_in (fun v3 => ?_)
    refine (e_oB (q := (160, [some (.ref 52), some (.int l1)], [.int v3, .int l1, .ref 56], M2)) (o := (astI lay M2 56 l1 v3)) (f := fun M4 => (161, [some (.ref 52), some (.int l1)], [], M4)) (hf := rfl) rfl).trans ?_
    refine oB_in (fun M4 => ?_)
    refine (evn_adv 2 (q' := (130, [some (.ref 52), some (.int (l1 + (jn 1)))], [], M4)) rfl).trans ?_
    rfl
  · refine (evn_adv 2 (q' := (169, [some (.ref 52), some (.int (jn 0))], [], M)) rfl).trans ?_
    rfl
theorem h_177_169 (d : Nat) (l1 : Int32) (M : PM) : E_177 d (169, [some (.ref 52), some (.int l1)], [], M) = (if l1 < (jn 8) then (kI (pcl GG lay d 75 [.ref 52, .int l1] M) fun r1 M1 => (if r1 = jn 0 then (oB (aldI lay none M1 61 l1) fun v2 => (if v2 < (M1.1 52 6) then E_177 d (169, [some (.ref 52), some (.int (l1 + (jn 1)))], [], M1) else (oB (astI lay M1 61 l1 (jz 1)) fun M3 => E_177 d (169, [some (.ref 52), some (.int (l1 + (jn 1)))], [], M3)))) else E_177 d (169, [some (.ref 52), some (.int (l1 + (jn 1)))], [], M1))) else (rI (M.1 52 0) M)) := by
  refine (evn_adv 2 (q' := (172, [some (.ref 52), some (.int l1)], [.int (jn 8), .int l1], M)) rfl).trans ?_
  refine (e_ic_ge (hf := rfl)).trans ?_
  refine ite_in ?_ ?_
  · refine (evn_adv 2 (q' := (177, [some (.ref 52), some (.int l1)], [.int l1, .ref 52], M)) rfl).trans ?_
    refine (e_kI (q := (177, [some (.ref 52), some (.int l1)], [.int l1, .ref 52])) (q2 := (180, [some (.ref 52), some (.int l1)], [])) (M := M) (o := (pcl GG lay d 75 [.ref 52, .int l1] M)) (hf := rfl) rfl rfl).trans ?_
    refine kI_in (fun r1 M1 => ?_)
    refine (e_if_ne (hf := rfl)).trans ?_
    refine ite_in ?_ ?_
    · refine (evn_adv 3 (q' := (188, [some (.ref 52), some (.int l1)], [.int l1, .ref 61], M1)) rfl).trans ?_
      refine (e_oB (q := (188, [some (.ref 52), some (.int l1)], [.int l1, .ref 61], M1)) (o := (aldI lay none M1 61 l1)) (f := fun v2 => (189, [some (.ref 52), some (.int l1)], [.int v2], M1)) (hf := rfl) rfl).trans ?_
      refine oB_in (fun v2 => ?_)
      refine (evn_adv 2 (q' := (193, [some (.ref 52), some (.int l1)], [.int (M1.1 52 6), .int v2], M1)) rfl).trans ?_
      refine (e_ic_lt (hf := rfl)).trans ?_
      refine ite_in ?_ ?_
      · refine (evn_adv 2 (q' := (169, [some (.ref 52), some (.int (l1 + (jn 1)))], [], M1)) rfl).trans ?_
        rfl
      · refine (evn_adv 4 (q' := (202, [some (.ref 52), some (.int l1)], [.int (jz 1), .int l1, .ref 61], M1)) rfl).trans ?_
        refine (e_oB (q := (202, [some (.ref 52), some (.int l1)], [.int (jz 1), .int l1, .ref 61], M1)) (o := (astI lay M1 61 l1 (jz 1))) (f := fun M3 => (203, [some (.ref 52), some (.int l1)], [], M3)) (hf := rfl) rfl).trans ?_
        refine oB_in (fun M3 => ?_)
        refine (evn_adv 2 (q' := (169, [some (.ref 52), some (.int (l1 + (jn 1)))], [], M3)) rfl).trans ?_
        rfl
    · refine (evn_adv 2 (q' := (169, [some (.ref 52), some (.int (l1 + (jn 1)))], [], M1)) rfl).trans ?_
      rfl
  · refine (evn_adv 2 (q' := (213, [some (.ref 52), some (.int l1)], [.int (M.1 52 0)], M)) rfl).trans ?_
    exact evn_end 1 rfl
/-- TermStrategiesModel.allNodes()I -/
noncomputable abbrev E_178 (d : Nat) : PQ → PO := evn (rnn k_178 lay none (pcl GG lay d) 1)
theorem q_178 (d : Nat)  (M : PM) : pcl GG lay (d + 1) 178 [.ref 52] M = E_178 d (4, [some (.ref 52), some (.int (jn 0)), some (.int (jn 0))], [], M) := by
  refine (pcl_un (mt := t_178) (by decide) rfl (Nat.le_of_ble_eq_true rfl)).trans ?_
  show E_178 d (0, [some (.ref 52), none, none], [], M) = _
  refine (evn_adv 4 (q' := (4, [some (.ref 52), some (.int (jn 0)), some (.int (jn 0))], [], M)) rfl).trans ?_
  rfl
theorem h_178_4 (d : Nat) (l1 : Int32) (l2 : Int32) (M : PM) : E_178 d (4, [some (.ref 52), some (.int l1), some (.int l2)], [], M) = (if l2 < (M.1 52 0) then (oB (aldI lay none M 53 l2) fun v1 => E_178 d (4, [some (.ref 52), some (.int (l1 + v1)), some (.int (l2 + (jn 1)))], [], M)) else (rI l1 M)) := by
  refine (evn_adv 3 (q' := (9, [some (.ref 52), some (.int l1), some (.int l2)], [.int (M.1 52 0), .int l2], M)) rfl).trans ?_
  refine (e_ic_ge (hf := rfl)).trans ?_
  refine ite_in ?_ ?_
  · refine (evn_adv 4 (q' := (18, [some (.ref 52), some (.int l1), some (.int l2)], [.int l2, .ref 53, .int l1], M)) rfl).trans ?_
    refine (e_oB (q := (18, [some (.ref 52), some (.int l1), some (.int l2)], [.int l2, .ref 53, .int l1], M)) (o := (aldI lay none M 53 l2)) (f := fun v1 => (19, [some (.ref 52), some (.int l1), some (.int l2)], [.int v1, .int l1], M)) (hf := rfl) rfl).trans ?_
    refine oB_in (fun v1 => ?_)
    refine (evn_adv 4 (q' := (4, [some (.ref 52), some (.int (l1 + v1)), some (.int (l2 + (jn 1)))], [], M)) rfl).trans ?_
    rfl
  · refine (evn_adv 1 (q' := (28, [some (.ref 52), some (.int l1), some (.int l2)], [.int l1], M)) rfl).trans ?_
    exact evn_end 1 rfl
/-- TermStrategiesModel.status(I)I -/
noncomputable abbrev E_179 (d : Nat) : PQ → PO := evn (rnn k_179 lay none (pcl GG lay d) 1)
theorem q_179 (d : Nat) (l1 : Int32) (M : PM) : pcl GG lay (d + 1) 179 [.ref 52, .int l1] M = (kI (pcl GG lay d 71 [.int l1, .int (jn 11), .int (jn 17)] M) fun r1 M1 => (if r1 = jn 0 then (if l1 = (jn 0) then (rI (M1.1 52 0) M1) else (if l1 = (jn 1) then (rI (M1.1 52 3) M1) else (if l1 = (jn 2) then (rI (M1.1 52 6) M1) else (if l1 = (jn 3) then (rI (M1.1 52 11) M1) else (if l1 = (jn 4) then (kI (pcl GG lay d 178 [.ref 52] M1) fun r2 M2 => (rI r2 M2)) else (if l1 = (jn 5) then (rI (M1.1 52 12) M1) else (if l1 = (jn 6) then (rI (M1.1 52 35) M1) else (rI (jz 1) M1)))))))) else (oB (aldI lay none M1 64 (l1 - (jn 10))) fun v2 => (rI v2 M1)))) := by
  refine (pcl_un (mt := t_179) (by decide) rfl (Nat.le_of_ble_eq_true rfl)).trans ?_
  show E_179 d (0, [some (.ref 52), some (.int l1)], [], M) = _
  refine (evn_adv 3 (q' := (5, [some (.ref 52), some (.int l1)], [.int (jn 17), .int (jn 11), .int l1], M)) rfl).trans ?_
  refine (e_kI (q := (5, [some (.ref 52), some (.int l1)], [.int (jn 17), .int (jn 11), .int l1])) (q2 := (8, [some (.ref 52), some (.int l1)], [])) (M := M) (o := (pcl GG lay d 71 [.int l1, .int (jn 11), .int (jn 17)] M)) (hf := rfl) rfl rfl).trans ?_
  refine kI_in (fun r1 M1 => ?_)
  refine (e_if_eq (hf := rfl)).trans ?_
  refine ite_in ?_ ?_
  · refine (evn_adv 1 (q' := (22, [some (.ref 52), some (.int l1)], [.int l1], M1)) rfl).trans ?_
    refine (e_sw0 (dflt := 99) (lo := ((0 : Nat) : Int)) (ts := [64, 69, 74, 79, 84, 89, 94]) (hf := rfl) rfl).trans ?_
    refine sw_cons (lo := 0) (F := fun pc => E_179 d (pc, [some (.ref 52), some (.int l1)], [], M1)) (by decide) ?_ ?_
    · refine (evn_adv 2 (q' := (68, [some (.ref 52), some (.int l1)], [.int (M1.1 52 0)], M1)) rfl).trans ?_
      exact evn_end 1 rfl
    refine sw_cons (lo := 1) (F := fun pc => E_179 d (pc, [some (.ref 52), some (.int l1)], [], M1)) (by decide) ?_ ?_
    · refine (evn_adv 2 (q' := (73, [some (.ref 52), some (.int l1)], [.int (M1.1 52 3)], M1)) rfl).trans ?_
      exact evn_end 1 rfl
    refine sw_cons (lo := 2) (F := fun pc => E_179 d (pc, [some (.ref 52), some (.int l1)], [], M1)) (by decide) ?_ ?_
    · refine (evn_adv 2 (q' := (78, [some (.ref 52), some (.int l1)], [.int (M1.1 52 6)], M1)) rfl).trans ?_
      exact evn_end 1 rfl
    refine sw_cons (lo := 3) (F := fun pc => E_179 d (pc, [some (.ref 52), some (.int l1)], [], M1)) (by decide) ?_ ?_
    · refine (evn_adv 2 (q' := (83, [some (.ref 52), some (.int l1)], [.int (M1.1 52 11)], M1)) rfl).trans ?_
      exact evn_end 1 rfl
    refine sw_cons (lo := 4) (F := fun pc => E_179 d (pc, [some (.ref 52), some (.int l1)], [], M1)) (by decide) ?_ ?_
    · refine (evn_adv 1 (q' := (85, [some (.ref 52), some (.int l1)], [.ref 52], M1)) rfl).trans ?_
      refine (e_kI (q := (85, [some (.ref 52), some (.int l1)], [.ref 52])) (q2 := (88, [some (.ref 52), some (.int l1)], [])) (M := M1) (o := (pcl GG lay d 178 [.ref 52] M1)) (hf := rfl) rfl rfl).trans ?_
      refine kI_in (fun r2 M2 => ?_)
      exact evn_end 1 rfl
    refine sw_cons (lo := 5) (F := fun pc => E_179 d (pc, [some (.ref 52), some (.int l1)], [], M1)) (by decide) ?_ ?_
    · refine (evn_adv 2 (q' := (93, [some (.ref 52), some (.int l1)], [.int (M1.1 52 12)], M1)) rfl).trans ?_
      exact evn_end 1 rfl
    refine sw_cons (lo := 6) (F := fun pc => E_179 d (pc, [some (.ref 52), some (.int l1)], [], M1)) (by decide) ?_ ?_
    · refine (evn_adv 2 (q' := (98, [some (.ref 52), some (.int l1)], [.int (M1.1 52 35)], M1)) rfl).trans ?_
      exact evn_end 1 rfl
    show E_179 d (99, [some (.ref 52), some (.int l1)], [], M1) = _
    refine (evn_adv 1 (q' := (100, [some (.ref 52), some (.int l1)], [.int (jz 1)], M1)) rfl).trans ?_
    exact evn_end 1 rfl
  · refine (evn_adv 5 (q' := (19, [some (.ref 52), some (.int l1)], [.int (l1 - (jn 10)), .ref 64], M1)) rfl).trans ?_
    refine (e_oB (q := (19, [some (.ref 52), some (.int l1)], [.int (l1 - (jn 10)), .ref 64], M1)) (o := (aldI lay none M1 64 (l1 - (jn 10)))) (f := fun v2 => (20, [some (.ref 52), some (.int l1)], [.int v2], M1)) (hf := rfl) rfl).trans ?_
    refine oB_in (fun v2 => ?_)
    exact evn_end 1 rfl
/-- TermStrategies$Exchange.makesAlike(III)Z -/
noncomputable abbrev E_180 (d : Nat) : PQ → PO := evn (rnn k_180 lay none (pcl GG lay d) 2)
theorem q_180 (d : Nat) (l1 : Int32) (l2 : Int32) (l3 : Int32) (M : PM) : pcl GG lay (d + 1) 180 [.ref 24, .int l1, .int l2, .int l3] M = (wr (sI M 24 (va_up (M.1 24) 2 l1)) fun M1 => (wr (sI M1 24 (va_up (M1.1 24) 3 l2)) fun M2 => (kV (pcl GG lay d 275 [.ref 25, .long (Int64.ofNat 0)] M2) fun M3 => (kI (pcl GG lay d 234 [.ref 6, .int l2] M3) fun r4 M4 => (kI (pcl GG lay d 234 [.ref 6, .int l1] M4) fun r5 M5 => E_180 d (40, [some (.ref 24), some (.int l1), some (.int l2), some (.int l3), some (.int r4), some (.int (r5 - (jn 1))), none], [], M5)))))) := by
  refine (pcl_un (mt := t_180) (by decide) rfl (Nat.le_of_ble_eq_true rfl)).trans ?_
  show E_180 d (0, [some (.ref 24), some (.int l1), some (.int l2), some (.int l3), none, none, none], [], M) = _
  refine (evn_adv 2 (q' := (2, [some (.ref 24), some (.int l1), some (.int l2), some (.int l3), none, none, none], [.int l1, .ref 24], M)) rfl).trans ?_
  refine (evn_adv 1 (q' := (5, [some (.ref 24), some (.int l1), some (.int l2), some (.int l3), none, none, none], [], (sI M 24 (va_up (M.1 24) 2 l1)))) rfl).trans ?_
  refine wr_in (f := fun M1 => E_180 d (5, [some (.ref 24), some (.int l1), some (.int l2), some (.int l3), none, none, none], [], M1)) (fun M1 => ?_)
  refine (evn_adv 2 (q' := (7, [some (.ref 24), some (.int l1), some (.int l2), some (.int l3), none, none, none], [.int l2, .ref 24], M1)) rfl).trans ?_
  refine (evn_adv 1 (q' := (10, [some (.ref 24), some (.int l1), some (.int l2), some (.int l3), none, none, none], [], (sI M1 24 (va_up (M1.1 24) 3 l2)))) rfl).trans ?_
  refine wr_in (f := fun M2 => E_180 d (10, [some (.ref 24), some (.int l1), some (.int l2), some (.int l3), none, none, none], [], M2)) (fun M2 => ?_)
  refine (evn_adv 3 (q' := (15, [some (.ref 24), some (.int l1), some (.int l2), some (.int l3), none, none, none], [.long (Int64.ofNat 0), .ref 25], M2)) rfl).trans ?_
  refine (e_kV (q := (15, [some (.ref 24), some (.int l1), some (.int l2), some (.int l3), none, none, none], [.long (Int64.ofNat 0), .ref 25])) (q2 := (18, [some (.ref 24), some (.int l1), some (.int l2), some (.int l3), none, none, none], [])) (M := M2) (o := (pcl GG lay d 275 [.ref 25, .long (Int64.ofNat 0)] M2)) (hf := rfl) rfl rfl).trans ?_
  refine kV_in (fun M3 => ?_)
  refine (evn_adv 3 (q' := (23, [some (.ref 24), some (.int l1), some (.int l2), some (.int l3), none, none, none], [.int l2, .ref 6], M3)) rfl).trans ?_
  refine (e_kI (q := (23, [some (.ref 24), some (.int l1), some (.int l2), some (.int l3), none, none, none], [.int l2, .ref 6])) (q2 := (26, [some (.ref 24), some (.int l1), some (.int l2), some (.int l3), none, none, none], [])) (M := M3) (o := (pcl GG lay d 234 [.ref 6, .int l2] M3)) (hf := rfl) rfl rfl).trans ?_
  refine kI_in (fun r4 M4 => ?_)
  refine (evn_adv 4 (q' := (33, [some (.ref 24), some (.int l1), some (.int l2), some (.int l3), some (.int r4), none, none], [.int l1, .ref 6], M4)) rfl).trans ?_
  refine (e_kI (q := (33, [some (.ref 24), some (.int l1), some (.int l2), some (.int l3), some (.int r4), none, none], [.int l1, .ref 6])) (q2 := (36, [some (.ref 24), some (.int l1), some (.int l2), some (.int l3), some (.int r4), none, none], [])) (M := M4) (o := (pcl GG lay d 234 [.ref 6, .int l1] M4)) (hf := rfl) rfl rfl).trans ?_
  refine kI_in (fun r5 M5 => ?_)
  refine (evn_adv 3 (q' := (40, [some (.ref 24), some (.int l1), some (.int l2), some (.int l3), some (.int r4), some (.int (r5 - (jn 1))), none], [], M5)) rfl).trans ?_
  rfl
theorem h_180_40 (d : Nat) (l1 : Int32) (l2 : Int32) (l3 : Int32) (l4 : Int32) (l5 : Int32) (u6 : Option Value) (M : PM) : E_180 d (40, [some (.ref 24), some (.int l1), some (.int l2), some (.int l3), some (.int l4), some (.int l5), u6], [], M) = (if l5 < jn 0 then (kI (pcl GG lay d 182 [.ref 24, .int (jn 0), .int (jn 0)] M) fun r1 M1 => (rZ r1 M1)) else E_180 d (51, [some (.ref 24), some (.int l1), some (.int l2), some (.int l3), some (.int l4), some (.int l5), some (.int (l4 - (jn 1)))], [], M)) := by
  refine (evn_adv 1 (q' := (42, [some (.ref 24), some (.int l1), some (.int l2), some (.int l3), some (.int l4), some (.int l5), u6], [.int l5], M)) rfl).trans ?_
  refine (e_if_lt (hf := rfl)).trans ?_
  refine ite_in ?_ ?_
  · refine (evn_adv 3 (q' := (131, [some (.ref 24), some (.int l1), some (.int l2), some (.int l3), some (.int l4), some (.int l5), u6], [.int (jn 0), .int (jn 0), .ref 24], M)) rfl).trans ?_
    refine (e_kI (q := (131, [some (.ref 24), some (.int l1), some (.int l2), some (.int l3), some (.int l4), some (.int l5), u6], [.int (jn 0), .int (jn 0), .ref 24])) (q2 := (134, [some (.ref 24), some (.int l1), some (.int l2), some (.int l3), some (.int l4), some (.int l5), u6], [])) (M := M) (o := (pcl GG lay d 182 [.ref 24, .int (jn 0), .int (jn 0)] M)) (hf := rfl) rfl rfl).trans ?_
    refine kI_in (fun r1 M1 => ?_)
    exact e_iretz (hf := rfl)
  · refine (evn_adv 4 (q' := (51, [some (.ref 24), some (.int l1), some (.int l2), some (.int l3), some (.int l4), some (.int l5), some (.int (l4 - (jn 1)))], [], M)) rfl).trans ?_
    rfl
theorem h_180_51 (d : Nat) (l1 : Int32) (l2 : Int32) (l3 : Int32) (l4 : Int32) (l5 : Int32) (l6 : Int32) (M : PM) : E_180 d (51, [some (.ref 24), some (.int l1), some (.int l2), some (.int l3), some (.int l4), some (.int l5), some (.int l6)], [], M) = (if l6 < jn 0 then E_180 d (40, [some (.ref 24), some (.int l1), some (.int l2), some (.int l3), some (.int l4), some (.int (l5 + (jz 1))), some (.int l6)], [], M) else (kI (pcl GG lay d 231 [.ref 6, .int (l1 + l5)] M) fun r1 M1 => (kI (pcl GG lay d 231 [.ref 6, .int (l2 + l6)] M1) fun r2 M2 => (if r1 = r2 then (kI (pcl GG lay d 181 [.ref 24, .int l5, .int l6, .int l3] M2) fun r3 M3 => (if r3 = jn 0 then E_180 d (51, [some (.ref 24), some (.int l1), some (.int l2), some (.int l3), some (.int l4), some (.int l5), some (.int (l6 + (jz 1)))], [], M3) else (kL (pcl GG lay d 67 [.ref 25, .int l5] M3) fun r4 M4 => (kV (pcl GG lay d 68 [.ref 25, .int l5, .long (r4 ||| ((Int64.ofNat 1) <<< (l6.toInt64 &&& 63)))] M4) fun M5 => E_180 d (51, [some (.ref 24), some (.int l1), some (.int l2), some (.int l3), some (.int l4), some (.int l5), some (.int (l6 + (jz 1)))], [], M5))))) else E_180 d (51, [some (.ref 24), some (.int l1), some (.int l2), some (.int l3), some (.int l4), some (.int l5), some (.int (l6 + (jz 1)))], [], M2))))) := by
  refine (evn_adv 1 (q' := (53, [some (.ref 24), some (.int l1), some (.int l2), some (.int l3), some (.int l4), some (.int l5), some (.int l6)], [.int l6], M)) rfl).trans ?_
  refine (e_if_lt (hf := rfl)).trans ?_
  refine ite_in ?_ ?_
  · refine (evn_adv 2 (q' := (40, [some (.ref 24), some (.int l1), some (.int l2), some (.int l3), some (.int l4), some (.int (l5 + (jz 1))), some (.int l6)], [], M)) rfl).trans ?_
    rfl
  · refine (evn_adv 5 (q' := (64, [some (.ref 24), some (.int l1), some (.int l2), some (.int l3), some (.int l4), some (.int l5), some (.int l6)], [.int (l1 + l5), .ref 6], M)) rfl).trans ?_
    refine (e_kI (q := (64, [some (.ref 24), some (.int l1), some (.int l2), some (.int l3), some (.int l4), some (.int l5), some (.int l6)], [.int (l1 + l5), .ref 6])) (q2 := (67, [some (.ref 24), some (.int l1), some (.int l2), some (.int l3), some (.int l4), some (.int l5), some (.int l6)], [])) (M := M) (o := (pcl GG lay d 231 [.ref 6, .int (l1 + l5)] M)) (hf := rfl) rfl rfl).trans ?_
    refine kI_in (fun r1 M1 => ?_)
    refine (evn_adv 5 (q' := (75, [some (.ref 24), some (.int l1), some (.int l2), some (.int l3), some (.int l4), some (.int l5), some (.int l6)], [.int (l2 + l6), .ref 6, .int r1], M1)) rfl).trans ?_
    refine (e_kI (q := (75, [some (.ref 24), some (.int l1), some (.int l2), some (.int l3), some (.int l4), some (.int l5), some (.int l6)], [.int (l2 + l6), .ref 6, .int r1])) (q2 := (78, [some (.ref 24), some (.int l1), some (.int l2), some (.int l3), some (.int l4), some (.int l5), some (.int l6)], [.int r1])) (M := M1) (o := (pcl GG lay d 231 [.ref 6, .int (l2 + l6)] M1)) (hf := rfl) rfl rfl).trans ?_
    refine kI_in (fun r2 M2 => ?_)
    refine (e_ic_ne (hf := rfl)).trans ?_
    refine ite_in ?_ ?_
    · refine (evn_adv 4 (q' := (87, [some (.ref 24), some (.int l1), some (.int l2), some (.int l3), some (.int l4), some (.int l5), some (.int l6)], [.int l3, .int l6, .int l5, .ref 24], M2)) rfl).trans ?_
      refine (e_kI (q := (87, [some (.ref 24), some (.int l1), some (.int l2), some (.int l3), some (.int l4), some (.int l5), some (.int l6)], [.int l3, .int l6, .int l5, .ref 24])) (q2 := (90, [some (.ref 24), some (.int l1), some (.int l2), some (.int l3), some (.int l4), some (.int l5), some (.int l6)], [])) (M := M2) (o := (pcl GG lay d 181 [.ref 24, .int l5, .int l6, .int l3] M2)) (hf := rfl) rfl rfl).trans ?_
      refine kI_in (fun r3 M3 => ?_)
      refine (e_if_eq (hf := rfl)).trans ?_
      refine ite_in ?_ ?_
      · refine (evn_adv 2 (q' := (51, [some (.ref 24), some (.int l1), some (.int l2), some (.int l3), some (.int l4), some (.int l5), some (.int (l6 + (jz 1)))], [], M3)) rfl).trans ?_
        rfl
      · refine (evn_adv 6 (q' := (105, [some (.ref 24), some (.int l1), some (.int l2), some (.int l3), some (.int l4), some (.int l5), some (.int l6)], [.int l5, .ref 25, .int l5, .ref 25], M3)) rfl).trans ?_
        refine (e_kL (q := (105, [some (.ref 24), some (.int l1), some (.int l2), some (.int l3), some (.int l4), some (.int l5), some (.int l6)], [.int l5, .ref 25, .int l5, .ref 25])) (q2 := (108, [some (.ref 24), some (.int l1), some (.int l2), some (.int l3), some (.int l4), some (.int l5), some (.int l6)], [.int l5, .ref 25])) (M := M3) (o := (pcl GG lay d 67 [.ref 25, .int l5] M3)) (hf := rfl) rfl rfl).trans ?_
        refine kL_in (fun r4 M4 => ?_)
        refine (evn_adv 4 (q' := (113, [some (.ref 24), some (.int l1), some (.int l2), some (.int l3), some (.int l4), some (.int l5), some (.int l6)], [.long (r4 ||| ((Int64.ofNat 1) <<< (l6.toInt64 &&& 63))), .int l5, .ref 25], M4)) rfl).trans ?_
        refine (e_kV (q := (113, [some (.ref 24), some (.int l1), some (.int l2), some (.int l3), some (.int l4), some (.int l5), some (.int l6)], [.long (r4 ||| ((Int64.ofNat 1) <<< (l6.toInt64 &&& 63))), .int l5, .ref 25])) (q2 := (116, [some (.ref 24), some (.int l1), some (.int l2), some (.int l3), some (.int l4), some (.int l5), some (.int l6)], [])) (M := M4) (o := (pcl GG lay d 68 [.ref 25, .int l5, .long (r4 ||| ((Int64.ofNat 1) <<< (l6.toInt64 &&& 63)))] M4)) (hf := rfl) rfl rfl).trans ?_
        refine kV_in (fun M5 => ?_)
        refine (evn_adv 2 (q' := (51, [some (.ref 24), some (.int l1), some (.int l2), some (.int l3), some (.int l4), some (.int l5), some (.int (l6 + (jz 1)))], [], M5)) rfl).trans ?_
        rfl
    · refine (evn_adv 2 (q' := (51, [some (.ref 24), some (.int l1), some (.int l2), some (.int l3), some (.int l4), some (.int l5), some (.int (l6 + (jz 1)))], [], M2)) rfl).trans ?_
      rfl
/-- TermStrategies$Exchange.argumentsAlike(III)Z -/
noncomputable abbrev E_181 (d : Nat) : PQ → PO := evn (rnn k_181 lay none (pcl GG lay d) 2)
theorem q_181 (d : Nat) (l1 : Int32) (l2 : Int32) (l3 : Int32) (M : PM) : pcl GG lay (d + 1) 181 [.ref 24, .int l1, .int l2, .int l3] M = (kI (pcl GG lay d 231 [.ref 6, .int ((M.1 24 2) + l1)] M) fun r1 M1 => (kI (pcl GG lay d 63 [.int r1] M1) fun r2 M2 => (if r2 < (jn 2) then (if r2 < (jn 1) then (rZ (jn 1) M2) else (kI (pcl GG lay d 182 [.ref 24, .int (l1 + (jn 1)), .int (l2 + (jn 1))] M2) fun r3 M3 => (if r3 = jn 0 then (rZ (jn 0) M3) else (rZ (jn 1) M3)))) else (kI (pcl GG lay d 233 [.ref 6, .int (((M2.1 24 2) + l1) + (jn 1))] M2) fun r3 M3 => (kI (pcl GG lay d 233 [.ref 6, .int (((M3.1 24 3) + l2) + (jn 1))] M3) fun r4 M4 => (kI (pcl GG lay d 182 [.ref 24, .int (l1 + (jn 1)), .int (l2 + (jn 1))] M4) fun r5 M5 => (if r5 = jn 0 then (if ((l3 >>> ((r1 - (jn 105)) &&& 31)) &&& (jn 1)) = jn 0 then (rZ (jn 0) M5) else (kI (pcl GG lay d 182 [.ref 24, .int (l1 + (jn 1)), .int (r4 - (M4.1 24 3))] M5) fun r6 M6 => (if r6 = jn 0 then (rZ (jn 0) M6) else (kI (pcl GG lay d 182 [.ref 24, .int (r3 - (M3.1 24 2)), .int (l2 + (jn 1))] M6) fun r7 M7 => (if r7 = jn 0 then (rZ (jn 0) M7) else (rZ (jn 1) M7)))))) else (kI (pcl GG lay d 182 [.ref 24, .int (r3 - (M3.1 24 2)), .int (r4 - (M4.1 24 3))] M5) fun r6 M6 => (if r6 = jn 0 then (if ((l3 >>> ((r1 - (jn 105)) &&& 31)) &&& (jn 1)) = jn 0 then (rZ (jn 0) M6) else (kI (pcl GG lay d 182 [.ref 24, .int (l1 + (jn 1)), .int (r4 - (M4.1 24 3))] M6) fun r7 M7 => (if r7 = jn 0 then (rZ (jn 0) M7) else (kI (pcl GG lay d 182 [.ref 24, .int (r3 - (M3.1 24 2)), .int (l2 + (jn 1))] M7) fun r8 M8 => (if r8 = jn 0 then (rZ (jn 0) M8) else (rZ (jn 1) M8)))))) else (rZ (jn 1) M6)))))))))) := by
  refine (pcl_un (mt := t_181) (by decide) rfl (Nat.le_of_ble_eq_true rfl)).trans ?_
  show E_181 d (0, [some (.ref 24), some (.int l1), some (.int l2), some (.int l3), none, none, none, none], [], M) = _
  refine (evn_adv 6 (q' := (10, [some (.ref 24), some (.int l1), some (.int l2), some (.int l3), none, none, none, none], [.int ((M.1 24 2) + l1), .ref 6], M)) rfl).trans ?_
  refine (e_kI (q := (10, [some (.ref 24), some (.int l1), some (.int l2), some (.int l3), none, none, none, none], [.int ((M.1 24 2) + l1), .ref 6])) (q2 := (13, [some (.ref 24), some (.int l1), some (.int l2), some (.int l3), none, none, none, none], [])) (M := M) (o := (pcl GG lay d 231 [.ref 6, .int ((M.1 24 2) + l1)] M)) (hf := rfl) rfl rfl).trans ?_
  refine kI_in (fun r1 M1 => ?_)
  refine (evn_adv 2 (q' := (17, [some (.ref 24), some (.int l1), some (.int l2), some (.int l3), some (.int r1), none, none, none], [.int r1], M1)) rfl).trans ?_
  refine (e_kI (q := (17, [some (.ref 24), some (.int l1), some (.int l2), some (.int l3), some (.int r1), none, none, none], [.int r1])) (q2 := (20, [some (.ref 24), some (.int l1), some (.int l2), some (.int l3), some (.int r1), none, none, none], [])) (M := M1) (o := (pcl GG lay d 63 [.int r1] M1)) (hf := rfl) rfl rfl).trans ?_
  refine kI_in (fun r2 M2 => ?_)
  refine (evn_adv 3 (q' := (25, [some (.ref 24), some (.int l1), some (.int l2), some (.int l3), some (.int r1), some (.int r2), none, none], [.int (jn 2), .int r2], M2)) rfl).trans ?_
  refine (e_ic_ge (hf := rfl)).trans ?_
  refine ite_in ?_ ?_
  · refine (evn_adv 2 (q' := (31, [some (.ref 24), some (.int l1), some (.int l2), some (.int l3), some (.int r1), some (.int r2), none, none], [.int (jn 1), .int r2], M2)) rfl).trans ?_
    refine (e_ic_lt (hf := rfl)).trans ?_
    refine ite_in ?_ ?_
    · refine (evn_adv 2 (q' := (52, [some (.ref 24), some (.int l1), some (.int l2), some (.int l3), some (.int r1), some (.int r2), none, none], [.int (jn 1)], M2)) rfl).trans ?_
      exact e_iretz (hf := rfl)
    · refine (evn_adv 7 (q' := (41, [some (.ref 24), some (.int l1), some (.int l2), some (.int l3), some (.int r1), some (.int r2), none, none], [.int (l2 + (jn 1)), .int (l1 + (jn 1)), .ref 24], M2)) rfl).trans ?_
      refine (e_kI (q := (41, [some (.ref 24), some (.int l1), some (.int l2), some (.int l3), some (.int r1), some (.int r2), none, none], [.int (l2 + (jn 1)), .int (l1 + (jn 1)), .ref 24])) (q2 := (44, [some (.ref 24), some (.int l1), some (.int l2), some (.int l3), some (.int r1), some (.int r2), none, none], [])) (M := M2) (o := (pcl GG lay d 182 [.ref 24, .int (l1 + (jn 1)), .int (l2 + (jn 1))] M2)) (hf := rfl) rfl rfl).trans ?_
      refine kI_in (fun r3 M3 => ?_)
      refine (e_if_eq (hf := rfl)).trans ?_
      refine ite_in ?_ ?_
      · refine (evn_adv 1 (q' := (52, [some (.ref 24), some (.int l1), some (.int l2), some (.int l3), some (.int r1), some (.int r2), none, none], [.int (jn 0)], M3)) rfl).trans ?_
        exact e_iretz (hf := rfl)
      · refine (evn_adv 2 (q' := (52, [some (.ref 24), some (.int l1), some (.int l2), some (.int l3), some (.int r1), some (.int r2), none, none], [.int (jn 1)], M3)) rfl).trans ?_
        exact e_iretz (hf := rfl)
  · refine (evn_adv 8 (q' := (65, [some (.ref 24), some (.int l1), some (.int l2), some (.int l3), some (.int r1), some (.int r2), none, none], [.int (((M2.1 24 2) + l1) + (jn 1)), .ref 6], M2)) rfl).trans ?_
    refine (e_kI (q := (65, [some (.ref 24), some (.int l1), some (.int l2), some (.int l3), some (.int r1), some (.int r2), none, none], [.int (((M2.1 24 2) + l1) + (jn 1)), .ref 6])) (q2 := (68, [some (.ref 24), some (.int l1), some (.int l2), some (.int l3), some (.int r1), some (.int r2), none, none], [])) (M := M2) (o := (pcl GG lay d 233 [.ref 6, .int (((M2.1 24 2) + l1) + (jn 1))] M2)) (hf := rfl) rfl rfl).trans ?_
    refine kI_in (fun r3 M3 => ?_)
    refine (evn_adv 12 (q' := (87, [some (.ref 24), some (.int l1), some (.int l2), some (.int l3), some (.int r1), some (.int r2), some (.int (r3 - (M3.1 24 2))), none], [.int (((M3.1 24 3) + l2) + (jn 1)), .ref 6], M3)) rfl).trans ?_
    refine (e_kI (q := (87, [some (.ref 24), some (.int l1), some (.int l2), some (.int l3), some (.int r1), some (.int r2), some (.int (r3 - (M3.1 24 2))), none], [.int (((M3.1 24 3) + l2) + (jn 1)), .ref 6])) (q2 := (90, [some (.ref 24), some (.int l1), some (.int l2), some (.int l3), some (.int r1), some (.int r2), some (.int (r3 - (M3.1 24 2))), none], [])) (M := M3) (o := (pcl GG lay d 233 [.ref 6, .int (((M3.1 24 3) + l2) + (jn 1))] M3)) (hf := rfl) rfl rfl).trans ?_
    refine kI_in (fun r4 M4 => ?_)
    refine (evn_adv 11 (q' := (104, [some (.ref 24), some (.int l1), some (.int l2), some (.int l3), some (.int r1), some (.int r2), some (.int (r3 - (M3.1 24 2))), some (.int (r4 - (M4.1 24 3)))], [.int (l2 + (jn 1)), .int (l1 + (jn 1)), .ref 24], M4)) rfl).trans ?_
    refine (e_kI (q := (104, [some (.ref 24), some (.int l1), some (.int l2), some (.int l3), some (.int r1), some (.int r2), some (.int (r3 - (M3.1 24 2))), some (.int (r4 - (M4.1 24 3)))], [.int (l2 + (jn 1)), .int (l1 + (jn 1)), .ref 24])) (q2 := (107, [some (.ref 24), some (.int l1), some (.int l2), some (.int l3), some (.int r1), some (.int r2), some (.int (r3 - (M3.1 24 2))), some (.int (r4 - (M4.1 24 3)))], [])) (M := M4) (o := (pcl GG lay d 182 [.ref 24, .int (l1 + (jn 1)), .int (l2 + (jn 1))] M4)) (hf := rfl) rfl rfl).trans ?_
    refine kI_in (fun r5 M5 => ?_)
    refine (e_if_eq (hf := rfl)).trans ?_
    refine ite_in ?_ ?_
    · refine (evn_adv 7 (q' := (132, [some (.ref 24), some (.int l1), some (.int l2), some (.int l3), some (.int r1), some (.int r2), some (.int (r3 - (M3.1 24 2))), some (.int (r4 - (M4.1 24 3)))], [.int ((l3 >>> ((r1 - (jn 105)) &&& 31)) &&& (jn 1))], M5)) rfl).trans ?_
      refine (e_if_eq (hf := rfl)).trans ?_
      refine ite_in ?_ ?_
      · refine (evn_adv 1 (q' := (164, [some (.ref 24), some (.int l1), some (.int l2), some (.int l3), some (.int r1), some (.int r2), some (.int (r3 - (M3.1 24 2))), some (.int (r4 - (M4.1 24 3)))], [.int (jn 0)], M5)) rfl).trans ?_
        exact e_iretz (hf := rfl)
      · refine (evn_adv 5 (q' := (141, [some (.ref 24), some (.int l1), some (.int l2), some (.int l3), some (.int r1), some (.int r2), some (.int (r3 - (M3.1 24 2))), some (.int (r4 - (M4.1 24 3)))], [.int (r4 - (M4.1 24 3)), .int (l1 + (jn 1)), .ref 24], M5)) rfl).trans ?_
        refine (e_kI (q := (141, [some (.ref 24), some (.int l1), some (.int l2), some (.int l3), some (.int r1), some (.int r2), some (.int (r3 - (M3.1 24 2))), some (.int (r4 - (M4.1 24 3)))], [.int (r4 - (M4.1 24 3)), .int (l1 + (jn 1)), .ref 24])) (q2 := (144, [some (.ref 24), some (.int l1), some (.int l2), some (.int l3), some (.int r1), some (.int r2), some (.int (r3 - (M3.1 24 2))), some (.int (r4 - (M4.1 24 3)))], [])) (M := M5) (o := (pcl GG lay d 182 [.ref 24, .int (l1 + (jn 1)), .int (r4 - (M4.1 24 3))] M5)) (hf := rfl) rfl rfl).trans ?_
        refine kI_in (fun r6 M6 => ?_)
        refine (e_if_eq (hf := rfl)).trans ?_
        refine ite_in ?_ ?_
        · refine (evn_adv 1 (q' := (164, [some (.ref 24), some (.int l1), some (.int l2), some (.int l3), some (.int r1), some (.int r2), some (.int (r3 - (M3.1 24 2))), some (.int (r4 - (M4.1 24 3)))], [.int (jn 0)], M6)) rfl).trans ?_
          exact e_iretz (hf := rfl)
        · refine (evn_adv 5 (q' := (153, [some (.ref 24), some (.int l1), some (.int l2), some (.int l3), some (.int r1), some (.int r2), some (.int (r3 - (M3.1 24 2))), some (.int (r4 - (M4.1 24 3)))], [.int (l2 + (jn 1)), .int (r3 - (M3.1 24 2)), .ref 24], M6)) rfl).trans ?_
          refine (e_kI (q := (153, [some (.ref 24), some (.int l1), some (.int l2), some (.int l3), some (.int r1), some (.int r2), some (.int (r3 - (M3.1 24 2))), some (.int (r4 - (M4.1 24 3)))], [.int (l2 + (jn 1)), .int (r3 - (M3.1 24 2)), .ref 24])) (q2 := (156, [some (.ref 24), some (.int l1), some (.int l2), some (.int l3), some (.int r1), some (.int r2), some (.int (r3 - (M3.1 24 2))), some (.int (r4 - (M4.1 24 3)))], [])) (M := M6) (o := (pcl GG lay d 182 [.ref 24, .int (r3 - (M3.1 24 2)), .int (l2 + (jn 1))] M6)) (hf := rfl) rfl rfl).trans ?_
          refine kI_in (fun r7 M7 => ?_)
          refine (e_if_eq (hf := rfl)).trans ?_
          refine ite_in ?_ ?_
          · refine (evn_adv 1 (q' := (164, [some (.ref 24), some (.int l1), some (.int l2), some (.int l3), some (.int r1), some (.int r2), some (.int (r3 - (M3.1 24 2))), some (.int (r4 - (M4.1 24 3)))], [.int (jn 0)], M7)) rfl).trans ?_
            exact e_iretz (hf := rfl)
          · refine (evn_adv 2 (q' := (164, [some (.ref 24), some (.int l1), some (.int l2), some (.int l3), some (.int r1), some (.int r2), some (.int (r3 - (M3.1 24 2))), some (.int (r4 - (M4.1 24 3)))], [.int (jn 1)], M7)) rfl).trans ?_
            exact e_iretz (hf := rfl)
    · refine (evn_adv 3 (q' := (115, [some (.ref 24), some (.int l1), some (.int l2), some (.int l3), some (.int r1), some (.int r2), some (.int (r3 - (M3.1 24 2))), some (.int (r4 - (M4.1 24 3)))], [.int (r4 - (M4.1 24 3)), .int (r3 - (M3.1 24 2)), .ref 24], M5)) rfl).trans ?_
      refine (e_kI (q := (115, [some (.ref 24), some (.int l1), some (.int l2), some (.int l3), some (.int r1), some (.int r2), some (.int (r3 - (M3.1 24 2))), some (.int (r4 - (M4.1 24 3)))], [.int (r4 - (M4.1 24 3)), .int (r3 - (M3.1 24 2)), .ref 24])) (q2 := (118, [some (.ref 24), some (.int l1), some (.int l2), some (.int l3), some (.int r1), some (.int r2), some (.int (r3 - (M3.1 24 2))), some (.int (r4 - (M4.1 24 3)))], [])) (M := M5) (o := (pcl GG lay d 182 [.ref 24, .int (r3 - (M3.1 24 2)), .int (r4 - (M4.1 24 3))] M5)) (hf := rfl) rfl rfl).trans ?_
      refine kI_in (fun r6 M6 => ?_)
      refine (e_if_eq (hf := rfl)).trans ?_
      refine ite_in ?_ ?_
      · refine (evn_adv 7 (q' := (132, [some (.ref 24), some (.int l1), some (.int l2), some (.int l3), some (.int r1), some (.int r2), some (.int (r3 - (M3.1 24 2))), some (.int (r4 - (M4.1 24 3)))], [.int ((l3 >>> ((r1 - (jn 105)) &&& 31)) &&& (jn 1))], M6)) rfl).trans ?_
        refine (e_if_eq (hf := rfl)).trans ?_
        refine ite_in ?_ ?_
        · refine (evn_adv 1 (q' := (164, [some (.ref 24), some (.int l1), some (.int l2), some (.int l3), some (.int r1), some (.int r2), some (.int (r3 - (M3.1 24 2))), some (.int (r4 - (M4.1 24 3)))], [.int (jn 0)], M6)) rfl).trans ?_
          exact e_iretz (hf := rfl)
        · refine (evn_adv 5 (q' := (141, [some (.ref 24), some (.int l1), some (.int l2), some (.int l3), some (.int r1), some (.int r2), some (.int (r3 - (M3.1 24 2))), some (.int (r4 - (M4.1 24 3)))], [.int (r4 - (M4.1 24 3)), .int (l1 + (jn 1)), .ref 24], M6)) rfl).trans ?_
          refine (e_kI (q := (141, [some (.ref 24), some (.int l1), some (.int l2), some (.int l3), some (.int r1), some (.int r2), some (.int (r3 - (M3.1 24 2))), some (.int (r4 - (M4.1 24 3)))], [.int (r4 - (M4.1 24 3)), .int (l1 + (jn 1)), .ref 24])) (q2 := (144, [some (.ref 24), some (.int l1), some (.int l2), some (.int l3), some (.int r1), some (.int r2), some (.int (r3 - (M3.1 24 2))), some (.int (r4 - (M4.1 24 3)))], [])) (M := M6) (o := (pcl GG lay d 182 [.ref 24, .int (l1 + (jn 1)), .int (r4 - (M4.1 24 3))] M6)) (hf := rfl) rfl rfl).trans ?_
          refine kI_in (fun r7 M7 => ?_)
          refine (e_if_eq (hf := rfl)).trans ?_
          refine ite_in ?_ ?_
          · refine (evn_adv 1 (q' := (164, [some (.ref 24), some (.int l1), some (.int l2), some (.int l3), some (.int r1), some (.int r2), some (.int (r3 - (M3.1 24 2))), some (.int (r4 - (M4.1 24 3)))], [.int (jn 0)], M7)) rfl).trans ?_
            exact e_iretz (hf := rfl)
          · refine (evn_adv 5 (q' := (153, [some (.ref 24), some (.int l1), some (.int l2), some (.int l3), some (.int r1), some (.int r2), some (.int (r3 - (M3.1 24 2))), some (.int (r4 - (M4.1 24 3)))], [.int (l2 + (jn 1)), .int (r3 - (M3.1 24 2)), .ref 24], M7)) rfl).trans ?_
            refine (e_kI (q := (153, [some (.ref 24), some (.int l1), some (.int l2), some (.int l3), some (.int r1), some (.int r2), some (.int (r3 - (M3.1 24 2))), some (.int (r4 - (M4.1 24 3)))], [.int (l2 + (jn 1)), .int (r3 - (M3.1 24 2)), .ref 24])) (q2 := (156, [some (.ref 24), some (.int l1), some (.int l2), some (.int l3), some (.int r1), some (.int r2), some (.int (r3 - (M3.1 24 2))), some (.int (r4 - (M4.1 24 3)))], [])) (M := M7) (o := (pcl GG lay d 182 [.ref 24, .int (r3 - (M3.1 24 2)), .int (l2 + (jn 1))] M7)) (hf := rfl) rfl rfl).trans ?_
            refine kI_in (fun r8 M8 => ?_)
            refine (e_if_eq (hf := rfl)).trans ?_
            refine ite_in ?_ ?_
            · refine (evn_adv 1 (q' := (164, [some (.ref 24), some (.int l1), some (.int l2), some (.int l3), some (.int r1), some (.int r2), some (.int (r3 - (M3.1 24 2))), some (.int (r4 - (M4.1 24 3)))], [.int (jn 0)], M8)) rfl).trans ?_
              exact e_iretz (hf := rfl)
            · refine (evn_adv 2 (q' := (164, [some (.ref 24), some (.int l1), some (.int l2), some (.int l3), some (.int r1), some (.int r2), some (.int (r3 - (M3.1 24 2))), some (.int (r4 - (M4.1 24 3)))], [.int (jn 1)], M8)) rfl).trans ?_
              exact e_iretz (hf := rfl)
      · refine (evn_adv 1 (q' := (122, [some (.ref 24), some (.int l1), some (.int l2), some (.int l3), some (.int r1), some (.int r2), some (.int (r3 - (M3.1 24 2))), some (.int (r4 - (M4.1 24 3)))], [.int (jn 1)], M6)) rfl).trans ?_
        exact e_iretz (hf := rfl)
/-- TermStrategies$Exchange.isAlike(II)Z -/
noncomputable abbrev E_182 (d : Nat) : PQ → PO := evn (rnn k_182 lay none (pcl GG lay d) 2)
theorem q_182 (d : Nat) (l1 : Int32) (l2 : Int32) (M : PM) : pcl GG lay (d + 1) 182 [.ref 24, .int l1, .int l2] M = (kL (pcl GG lay d 67 [.ref 25, .int l1] M) fun r1 M1 => (if (lg_cmp ((r1 >>> (l2.toInt64 &&& 63)) &&& (Int64.ofNat 1)) (Int64.ofNat 0)) = jn 0 then (rZ (jn 0) M1) else (rZ (jn 1) M1))) := by
  refine (pcl_un (mt := t_182) (by decide) rfl (Nat.le_of_ble_eq_true rfl)).trans ?_
  show E_182 d (0, [some (.ref 24), some (.int l1), some (.int l2)], [], M) = _
  refine (evn_adv 3 (q' := (5, [some (.ref 24), some (.int l1), some (.int l2)], [.int l1, .ref 25], M)) rfl).trans ?_
  refine (e_kL (q := (5, [some (.ref 24), some (.int l1), some (.int l2)], [.int l1, .ref 25])) (q2 := (8, [some (.ref 24), some (.int l1), some (.int l2)], [])) (M := M) (o := (pcl GG lay d 67 [.ref 25, .int l1] M)) (hf := rfl) rfl rfl).trans ?_
  refine kL_in (fun r1 M1 => ?_)
  refine (evn_adv 6 (q' := (14, [some (.ref 24), some (.int l1), some (.int l2)], [.int (lg_cmp ((r1 >>> (l2.toInt64 &&& 63)) &&& (Int64.ofNat 1)) (Int64.ofNat 0))], M1)) rfl).trans ?_
  refine (e_if_eq (hf := rfl)).trans ?_
  refine ite_in ?_ ?_
  · refine (evn_adv 1 (q' := (22, [some (.ref 24), some (.int l1), some (.int l2)], [.int (jn 0)], M1)) rfl).trans ?_
    exact e_iretz (hf := rfl)
  · refine (evn_adv 2 (q' := (22, [some (.ref 24), some (.int l1), some (.int l2)], [.int (jn 1)], M1)) rfl).trans ?_
    exact e_iretz (hf := rfl)
/-- TermStrategies$Layout.lay(I)V -/
noncomputable abbrev E_183 (d : Nat) : PQ → PO := evn (rnn k_183 lay none (pcl GG lay d) 0)
theorem q_183 (d : Nat) (l1 : Int32) (M : PM) : pcl GG lay (d + 1) 183 [.ref 21, .int l1] M = (kI (pcl GG lay d 234 [.ref 6, .int l1] M) fun r1 M1 => (wr (sI M1 21 (va_up (M1.1 21) 3 r1)) fun M2 => (kV (pcl GG lay d 66 [.ref 22, .int (jn 0), .int (jn 1)] M2) fun M3 => (kV (pcl GG lay d 68 [.ref 23, .int (jn 0), .long (Int64.ofNat 0)] M3) fun M4 => E_183 d (32, [some (.ref 21), some (.int l1), some (.int (jn 0)), none], [], M4))))) := by
  refine (pcl_un (mt := t_183) (by decide) rfl (Nat.le_of_ble_eq_true rfl)).trans ?_
  show E_183 d (0, [some (.ref 21), some (.int l1), none, none], [], M) = _
  refine (evn_adv 4 (q' := (6, [some (.ref 21), some (.int l1), none, none], [.int l1, .ref 6, .ref 21], M)) rfl).trans ?_
  refine (e_kI (q := (6, [some (.ref 21), some (.int l1), none, none], [.int l1, .ref 6, .ref 21])) (q2 := (9, [some (.ref 21), some (.int l1), none, none], [.ref 21])) (M := M) (o := (pcl GG lay d 234 [.ref 6, .int l1] M)) (hf := rfl) rfl rfl).trans ?_
  refine kI_in (fun r1 M1 => ?_)
  refine (evn_adv 1 (q' := (12, [some (.ref 21), some (.int l1), none, none], [], (sI M1 21 (va_up (M1.1 21) 3 r1)))) rfl).trans ?_
  refine wr_in (f := fun M2 => E_183 d (12, [some (.ref 21), some (.int l1), none, none], [], M2)) (fun M2 => ?_)
  refine (evn_adv 4 (q' := (18, [some (.ref 21), some (.int l1), none, none], [.int (jn 1), .int (jn 0), .ref 22], M2)) rfl).trans ?_
  refine (e_kV (q := (18, [some (.ref 21), some (.int l1), none, none], [.int (jn 1), .int (jn 0), .ref 22])) (q2 := (21, [some (.ref 21), some (.int l1), none, none], [])) (M := M2) (o := (pcl GG lay d 66 [.ref 22, .int (jn 0), .int (jn 1)] M2)) (hf := rfl) rfl rfl).trans ?_
  refine kV_in (fun M3 => ?_)
  refine (evn_adv 4 (q' := (27, [some (.ref 21), some (.int l1), none, none], [.long (Int64.ofNat 0), .int (jn 0), .ref 23], M3)) rfl).trans ?_
  refine (e_kV (q := (27, [some (.ref 21), some (.int l1), none, none], [.long (Int64.ofNat 0), .int (jn 0), .ref 23])) (q2 := (30, [some (.ref 21), some (.int l1), none, none], [])) (M := M3) (o := (pcl GG lay d 68 [.ref 23, .int (jn 0), .long (Int64.ofNat 0)] M3)) (hf := rfl) rfl rfl).trans ?_
  refine kV_in (fun M4 => ?_)
  refine (evn_adv 2 (q' := (32, [some (.ref 21), some (.int l1), some (.int (jn 0)), none], [], M4)) rfl).trans ?_
  rfl
theorem h_183_32 (d : Nat) (l1 : Int32) (l2 : Int32) (u3 : Option Value) (M : PM) : E_183 d (32, [some (.ref 21), some (.int l1), some (.int l2), u3], [], M) = (if l2 < (M.1 21 3) then (kI (pcl GG lay d 231 [.ref 6, .int (l1 + l2)] M) fun r1 M1 => (kI (pcl GG lay d 63 [.int r1] M1) fun r2 M2 => (if r2 < (jn 1) then (if r2 = (jn 2) then (kI (pcl GG lay d 233 [.ref 6, .int ((l1 + l2) + (jn 1))] M2) fun r3 M3 => (kV (pcl GG lay d 184 [.ref 21, .int l2, .int (jn 2), .int (r3 - l1)] M3) fun M4 => E_183 d (32, [some (.ref 21), some (.int l1), some (.int (l2 + (jn 1))), some (.int r2)], [], M4))) else E_183 d (32, [some (.ref 21), some (.int l1), some (.int (l2 + (jn 1))), some (.int r2)], [], M2)) else (kV (pcl GG lay d 184 [.ref 21, .int l2, .int (jn 1), .int (l2 + (jn 1))] M2) fun M3 => (if r2 = (jn 2) then (kI (pcl GG lay d 233 [.ref 6, .int ((l1 + l2) + (jn 1))] M3) fun r4 M4 => (kV (pcl GG lay d 184 [.ref 21, .int l2, .int (jn 2), .int (r4 - l1)] M4) fun M5 => E_183 d (32, [some (.ref 21), some (.int l1), some (.int (l2 + (jn 1))), some (.int r2)], [], M5))) else E_183 d (32, [some (.ref 21), some (.int l1), some (.int (l2 + (jn 1))), some (.int r2)], [], M3)))))) else (rV M)) := by
  refine (evn_adv 3 (q' := (37, [some (.ref 21), some (.int l1), some (.int l2), u3], [.int (M.1 21 3), .int l2], M)) rfl).trans ?_
  refine (e_ic_ge (hf := rfl)).trans ?_
  refine ite_in ?_ ?_
  · refine (evn_adv 5 (q' := (47, [some (.ref 21), some (.int l1), some (.int l2), u3], [.int (l1 + l2), .ref 6], M)) rfl).trans ?_
    refine (e_kI (q := (47, [some (.ref 21), some (.int l1), some (.int l2), u3], [.int (l1 + l2), .ref 6])) (q2 := (50, [some (.ref 21), some (.int l1), some (.int l2), u3], [])) (M := M) (o := (pcl GG lay d 231 [.ref 6, .int (l1 + l2)] M)) (hf := rfl) rfl rfl).trans ?_
    refine kI_in (fun r1 M1 => ?_)
    refine (e_kI (q := (50, [some (.ref 21), some (.int l1), some (.int l2), u3], [.int r1])) (q2 := (53, [some (.ref 21), some (.int l1), some (.int l2), u3], [])) (M := M1) (o := (pcl GG lay d 63 [.int r1] M1)) (hf := rfl) rfl rfl).trans ?_
    refine kI_in (fun r2 M2 => ?_)
    refine (evn_adv 3 (q' := (56, [some (.ref 21), some (.int l1), some (.int l2), some (.int r2)], [.int (jn 1), .int r2], M2)) rfl).trans ?_
    refine (e_ic_lt (hf := rfl)).trans ?_
    refine ite_in ?_ ?_
    · refine (evn_adv 2 (q' := (70, [some (.ref 21), some (.int l1), some (.int l2), some (.int r2)], [.int (jn 2), .int r2], M2)) rfl).trans ?_
      refine (e_ic_ne (hf := rfl)).trans ?_
      refine ite_in ?_ ?_
      · refine (evn_adv 10 (q' := (85, [some (.ref 21), some (.int l1), some (.int l2), some (.int r2)], [.int ((l1 + l2) + (jn 1)), .ref 6, .int (jn 2), .int l2, .ref 21], M2)) rfl).trans ?_
        refine (e_kI (q := (85, [some (.ref 21), some (.int l1), some (.int l2), some (.int r2)], [.int ((l1 + l2) + (jn 1)), .ref 6, .int (jn 2), .int l2, .ref 21])) (q2 := (88, [some (.ref 21), some (.int l1), some (.int l2), some (.int r2)], [.int (jn 2), .int l2, .ref 21])) (M := M2) (o := (pcl GG lay d 233 [.ref 6, .int ((l1 + l2) + (jn 1))] M2)) (hf := rfl) rfl rfl).trans ?_
        refine kI_in (fun r3 M3 => ?_)
        refine (evn_adv 2 (q' := (90, [some (.ref 21), some (.int l1), some (.int l2), some (.int r2)], [.int (r3 - l1), .int (jn 2), .int l2, .ref 21], M3)) rfl).trans ?_
        refine (e_kV (q := (90, [some (.ref 21), some (.int l1), some (.int l2), some (.int r2)], [.int (r3 - l1), .int (jn 2), .int l2, .ref 21])) (q2 := (93, [some (.ref 21), some (.int l1), some (.int l2), some (.int r2)], [])) (M := M3) (o := (pcl GG lay d 184 [.ref 21, .int l2, .int (jn 2), .int (r3 - l1)] M3)) (hf := rfl) rfl rfl).trans ?_
        refine kV_in (fun M4 => ?_)
        refine (evn_adv 2 (q' := (32, [some (.ref 21), some (.int l1), some (.int (l2 + (jn 1))), some (.int r2)], [], M4)) rfl).trans ?_
        rfl
      · refine (evn_adv 2 (q' := (32, [some (.ref 21), some (.int l1), some (.int (l2 + (jn 1))), some (.int r2)], [], M2)) rfl).trans ?_
        rfl
    · refine (evn_adv 6 (q' := (65, [some (.ref 21), some (.int l1), some (.int l2), some (.int r2)], [.int (l2 + (jn 1)), .int (jn 1), .int l2, .ref 21], M2)) rfl).trans ?_
      refine (e_kV (q := (65, [some (.ref 21), some (.int l1), some (.int l2), some (.int r2)], [.int (l2 + (jn 1)), .int (jn 1), .int l2, .ref 21])) (q2 := (68, [some (.ref 21), some (.int l1), some (.int l2), some (.int r2)], [])) (M := M2) (o := (pcl GG lay d 184 [.ref 21, .int l2, .int (jn 1), .int (l2 + (jn 1))] M2)) (hf := rfl) rfl rfl).trans ?_
      refine kV_in (fun M3 => ?_)
      refine (evn_adv 2 (q' := (70, [some (.ref 21), some (.int l1), some (.int l2), some (.int r2)], [.int (jn 2), .int r2], M3)) rfl).trans ?_
      refine (e_ic_ne (hf := rfl)).trans ?_
      refine ite_in ?_ ?_
      · refine (evn_adv 10 (q' := (85, [some (.ref 21), some (.int l1), some (.int l2), some (.int r2)], [.int ((l1 + l2) + (jn 1)), .ref 6, .int (jn 2), .int l2, .ref 21], M3)) rfl).trans ?_
        refine (e_kI (q := (85, [some (.ref 21), some (.int l1), some (.int l2), some (.int r2)], [.int ((l1 + l2) + (jn 1)), .ref 6, .int (jn 2), .int l2, .ref 21])) (q2 := (88, [some (.ref 21), some (.int l1), some (.int l2), some (.int r2)], [.int (jn 2), .int l2, .ref 21])) (M := M3) (o := (pcl GG lay d 233 [.ref 6, .int ((l1 + l2) + (jn 1))] M3)) (hf := rfl) rfl rfl).trans ?_
        refine kI_in (fun r4 M4 => ?_)
        refine (evn_adv 2 (q' := (90, [some (.ref 21), some (.int l1), some (.int l2), some (.int r2)], [.int (r4 - l1), .int (jn 2), .int l2, .ref 21], M4)) rfl).trans ?_
        refine (e_kV (q := (90, [some (.ref 21), some (.int l1), some (.int l2), some (.int r2)], [.int (r4 - l1), .int (jn 2), .int l2, .ref 21])) (q2 := (93, [some (.ref 21), some (.int l1), some (.int l2), some (.int r2)], [])) (M := M4) (o := (pcl GG lay d 184 [.ref 21, .int l2, .int (jn 2), .int (r4 - l1)] M4)) (hf := rfl) rfl rfl).trans ?_
        refine kV_in (fun M5 => ?_)
        refine (evn_adv 2 (q' := (32, [some (.ref 21), some (.int l1), some (.int (l2 + (jn 1))), some (.int r2)], [], M5)) rfl).trans ?_
        rfl
      · refine (evn_adv 2 (q' := (32, [some (.ref 21), some (.int l1), some (.int (l2 + (jn 1))), some (.int r2)], [], M3)) rfl).trans ?_
        rfl
  · exact evn_end 1 rfl
/-- TermStrategies$Layout.layArgument(III)V -/
noncomputable abbrev E_184 (d : Nat) : PQ → PO := evn (rnn k_184 lay none (pcl GG lay d) 0)
theorem q_184 (d : Nat) (l1 : Int32) (l2 : Int32) (l3 : Int32) (M : PM) : pcl GG lay (d + 1) 184 [.ref 21, .int l1, .int l2, .int l3] M = (kI (pcl GG lay d 65 [.ref 22, .int l1] M) fun r1 M1 => (kV (pcl GG lay d 66 [.ref 22, .int l3, .int (r1 + (jn 1))] M1) fun M2 => (kL (pcl GG lay d 67 [.ref 23, .int l1] M2) fun r3 M3 => (kV (pcl GG lay d 68 [.ref 23, .int l3, .long (((Int64.ofInt 3) * r3) + (l2.toInt64))] M3) fun M4 => (rV M4))))) := by
  refine (pcl_un (mt := t_184) (by decide) rfl (Nat.le_of_ble_eq_true rfl)).trans ?_
  show E_184 d (0, [some (.ref 21), some (.int l1), some (.int l2), some (.int l3)], [], M) = _
  refine (evn_adv 6 (q' := (10, [some (.ref 21), some (.int l1), some (.int l2), some (.int l3)], [.int l1, .ref 22, .int l3, .ref 22], M)) rfl).trans ?_
  refine (e_kI (q := (10, [some (.ref 21), some (.int l1), some (.int l2), some (.int l3)], [.int l1, .ref 22, .int l3, .ref 22])) (q2 := (13, [some (.ref 21), some (.int l1), some (.int l2), some (.int l3)], [.int l3, .ref 22])) (M := M) (o := (pcl GG lay d 65 [.ref 22, .int l1] M)) (hf := rfl) rfl rfl).trans ?_
  refine kI_in (fun r1 M1 => ?_)
  refine (evn_adv 2 (q' := (15, [some (.ref 21), some (.int l1), some (.int l2), some (.int l3)], [.int (r1 + (jn 1)), .int l3, .ref 22], M1)) rfl).trans ?_
  refine (e_kV (q := (15, [some (.ref 21), some (.int l1), some (.int l2), some (.int l3)], [.int (r1 + (jn 1)), .int l3, .ref 22])) (q2 := (18, [some (.ref 21), some (.int l1), some (.int l2), some (.int l3)], [])) (M := M1) (o := (pcl GG lay d 66 [.ref 22, .int l3, .int (r1 + (jn 1))] M1)) (hf := rfl) rfl rfl).trans ?_
  refine kV_in (fun M2 => ?_)
  refine (evn_adv 7 (q' := (31, [some (.ref 21), some (.int l1), some (.int l2), some (.int l3)], [.int l1, .ref 23, .long (Int64.ofInt 3), .int l3, .ref 23], M2)) rfl).trans ?_
  refine (e_kL (q := (31, [some (.ref 21), some (.int l1), some (.int l2), some (.int l3)], [.int l1, .ref 23, .long (Int64.ofInt 3), .int l3, .ref 23])) (q2 := (34, [some (.ref 21), some (.int l1), some (.int l2), some (.int l3)], [.long (Int64.ofInt 3), .int l3, .ref 23])) (M := M2) (o := (pcl GG lay d 67 [.ref 23, .int l1] M2)) (hf := rfl) rfl rfl).trans ?_
  refine kL_in (fun r3 M3 => ?_)
  refine (evn_adv 4 (q' := (38, [some (.ref 21), some (.int l1), some (.int l2), some (.int l3)], [.long (((Int64.ofInt 3) * r3) + (l2.toInt64)), .int l3, .ref 23], M3)) rfl).trans ?_
  refine (e_kV (q := (38, [some (.ref 21), some (.int l1), some (.int l2), some (.int l3)], [.long (((Int64.ofInt 3) * r3) + (l2.toInt64)), .int l3, .ref 23])) (q2 := (41, [some (.ref 21), some (.int l1), some (.int l2), some (.int l3)], [])) (M := M3) (o := (pcl GG lay d 68 [.ref 23, .int l3, .long (((Int64.ofInt 3) * r3) + (l2.toInt64))] M3)) (hf := rfl) rfl rfl).trans ?_
  refine kV_in (fun M4 => ?_)
  exact evn_end 1 rfl
/-- TermStrategies$Layout.deepest()I -/
noncomputable abbrev E_185 (d : Nat) : PQ → PO := evn (rnn k_185 lay none (pcl GG lay d) 1)
theorem q_185 (d : Nat)  (M : PM) : pcl GG lay (d + 1) 185 [.ref 21] M = E_185 d (4, [some (.ref 21), some (.int (jn 0)), some (.int (jn 0))], [], M) := by
  refine (pcl_un (mt := t_185) (by decide) rfl (Nat.le_of_ble_eq_true rfl)).trans ?_
  show E_185 d (0, [some (.ref 21), none, none], [], M) = _
  refine (evn_adv 4 (q' := (4, [some (.ref 21), some (.int (jn 0)), some (.int (jn 0))], [], M)) rfl).trans ?_
  rfl
theorem h_185_4 (d : Nat) (l1 : Int32) (l2 : Int32) (M : PM) : E_185 d (4, [some (.ref 21), some (.int l1), some (.int l2)], [], M) = (if l2 < (M.1 21 3) then (kI (pcl GG lay d 65 [.ref 22, .int l2] M) fun r1 M1 => (kI (pcl GG lay d 1 [.int l1, .int r1] M1) fun r2 M2 => E_185 d (4, [some (.ref 21), some (.int r2), some (.int (l2 + (jn 1)))], [], M2))) else (rI l1 M)) := by
  refine (evn_adv 3 (q' := (9, [some (.ref 21), some (.int l1), some (.int l2)], [.int (M.1 21 3), .int l2], M)) rfl).trans ?_
  refine (e_ic_ge (hf := rfl)).trans ?_
  refine ite_in ?_ ?_
  · refine (evn_adv 4 (q' := (18, [some (.ref 21), some (.int l1), some (.int l2)], [.int l2, .ref 22, .int l1], M)) rfl).trans ?_
    refine (e_kI (q := (18, [some (.ref 21), some (.int l1), some (.int l2)], [.int l2, .ref 22, .int l1])) (q2 := (21, [some (.ref 21), some (.int l1), some (.int l2)], [.int l1])) (M := M) (o := (pcl GG lay d 65 [.ref 22, .int l2] M)) (hf := rfl) rfl rfl).trans ?_
    refine kI_in (fun r1 M1 => ?_)
    refine (e_kI (q := (21, [some (.ref 21), some (.int l1), some (.int l2)], [.int r1, .int l1])) (q2 := (24, [some (.ref 21), some (.int l1), some (.int l2)], [])) (M := M1) (o := (pcl GG lay d 1 [.int l1, .int r1] M1)) (hf := rfl) rfl rfl).trans ?_
    refine kI_in (fun r2 M2 => ?_)
    refine (evn_adv 3 (q' := (4, [some (.ref 21), some (.int r2), some (.int (l2 + (jn 1)))], [], M2)) rfl).trans ?_
    rfl
  · refine (evn_adv 1 (q' := (32, [some (.ref 21), some (.int l1), some (.int l2)], [.int l1], M)) rfl).trans ?_
    exact evn_end 1 rfl
/-- TermStrategies$Layout.pathAt(I)J -/
noncomputable abbrev E_186 (d : Nat) : PQ → PO := evn (rnn k_186 lay none (pcl GG lay d) 3)
theorem q_186 (d : Nat) (l1 : Int32) (M : PM) : pcl GG lay (d + 1) 186 [.ref 21, .int l1] M = (kL (pcl GG lay d 67 [.ref 23, .int l1] M) fun r1 M1 => (rL r1 M1)) := by
  refine (pcl_un (mt := t_186) (by decide) rfl (Nat.le_of_ble_eq_true rfl)).trans ?_
  show E_186 d (0, [some (.ref 21), some (.int l1)], [], M) = _
  refine (evn_adv 3 (q' := (5, [some (.ref 21), some (.int l1)], [.int l1, .ref 23], M)) rfl).trans ?_
  refine (e_kL (q := (5, [some (.ref 21), some (.int l1)], [.int l1, .ref 23])) (q2 := (8, [some (.ref 21), some (.int l1)], [])) (M := M) (o := (pcl GG lay d 67 [.ref 23, .int l1] M)) (hf := rfl) rfl rfl).trans ?_
  refine kL_in (fun r1 M1 => ?_)
  exact evn_end 1 rfl
/-- TermStrategies$Layout.nodeAt(J)I -/
noncomputable abbrev E_187 (d : Nat) : PQ → PO := evn (rnn k_187 lay none (pcl GG lay d) 1)
theorem q_187 (d : Nat) (l1 : Int64) (M : PM) : pcl GG lay (d + 1) 187 [.ref 21, .long l1] M = E_187 d (2, [some (.ref 21), some (.long l1), none, some (.int (jn 0))], [], M) := by
  refine (pcl_un (mt := t_187) (by decide) rfl (Nat.le_of_ble_eq_true rfl)).trans ?_
  show E_187 d (0, [some (.ref 21), some (.long l1), none, none], [], M) = _
  refine (evn_adv 2 (q' := (2, [some (.ref 21), some (.long l1), none, some (.int (jn 0))], [], M)) rfl).trans ?_
  rfl
theorem h_187_2 (d : Nat) (l1 : Int64) (l3 : Int32) (M : PM) : E_187 d (2, [some (.ref 21), some (.long l1), none, some (.int l3)], [], M) = (if l3 < (M.1 21 3) then (kL (pcl GG lay d 67 [.ref 23, .int l3] M) fun r1 M1 => (if (lg_cmp r1 l1) = jn 0 then (rI l3 M1) else E_187 d (2, [some (.ref 21), some (.long l1), none, some (.int (l3 + (jn 1)))], [], M1))) else (rI (jz 1) M)) := by
  refine (evn_adv 3 (q' := (7, [some (.ref 21), some (.long l1), none, some (.int l3)], [.int (M.1 21 3), .int l3], M)) rfl).trans ?_
  refine (e_ic_ge (hf := rfl)).trans ?_
  refine ite_in ?_ ?_
  · refine (evn_adv 3 (q' := (15, [some (.ref 21), some (.long l1), none, some (.int l3)], [.int l3, .ref 23], M)) rfl).trans ?_
    refine (e_kL (q := (15, [some (.ref 21), some (.long l1), none, some (.int l3)], [.int l3, .ref 23])) (q2 := (18, [some (.ref 21), some (.long l1), none, some (.int l3)], [])) (M := M) (o := (pcl GG lay d 67 [.ref 23, .int l3] M)) (hf := rfl) rfl rfl).trans ?_
    refine kL_in (fun r1 M1 => ?_)
    refine (evn_adv 2 (q' := (20, [some (.ref 21), some (.long l1), none, some (.int l3)], [.int (lg_cmp r1 l1)], M1)) rfl).trans ?_
    refine (e_if_ne (hf := rfl)).trans ?_
    refine ite_in ?_ ?_
    · refine (evn_adv 1 (q' := (24, [some (.ref 21), some (.long l1), none, some (.int l3)], [.int l3], M1)) rfl).trans ?_
      exact evn_end 1 rfl
    · refine (evn_adv 2 (q' := (2, [some (.ref 21), some (.long l1), none, some (.int (l3 + (jn 1)))], [], M1)) rfl).trans ?_
      rfl
  · refine (evn_adv 1 (q' := (32, [some (.ref 21), some (.long l1), none, some (.int l3)], [.int (jz 1)], M)) rfl).trans ?_
    exact evn_end 1 rfl
/-- TermStrategies$Matching.matches(III)Z -/
noncomputable abbrev E_188 (d : Nat) : PQ → PO := evn (rnn k_188 lay none (pcl GG lay d) 2)
theorem q_188 (d : Nat) (l1 : Int32) (l2 : Int32) (l3 : Int32) (M : PM) : pcl GG lay (d + 1) 188 [.ref 26, .int l1, .int l2, .int l3] M = (kI (pcl GG lay d 234 [.ref 6, .int l1] M) fun r1 M1 => (kV (pcl GG lay d 189 [.ref 26, .int l1, .int r1, .int l3] M1) fun M2 => E_188 d (32, [some (.ref 26), some (.int l1), some (.int l2), some (.int l3), some (.int r1), some (.int ((jn 1) <<< ((M2.1 26 4) &&& 31))), some (.int (jn 0)), some (.int (jn 0))], [], M2))) := by
  refine (pcl_un (mt := t_188) (by decide) rfl (Nat.le_of_ble_eq_true rfl)).trans ?_
  show E_188 d (0, [some (.ref 26), some (.int l1), some (.int l2), some (.int l3), none, none, none, none], [], M) = _
  refine (evn_adv 3 (q' := (5, [some (.ref 26), some (.int l1), some (.int l2), some (.int l3), none, none, none, none], [.int l1, .ref 6], M)) rfl).trans ?_
  refine (e_kI (q := (5, [some (.ref 26), some (.int l1), some (.int l2), some (.int l3), none, none, none, none], [.int l1, .ref 6])) (q2 := (8, [some (.ref 26), some (.int l1), some (.int l2), some (.int l3), none, none, none, none], [])) (M := M) (o := (pcl GG lay d 234 [.ref 6, .int l1] M)) (hf := rfl) rfl rfl).trans ?_
  refine kI_in (fun r1 M1 => ?_)
  refine (evn_adv 5 (q' := (15, [some (.ref 26), some (.int l1), some (.int l2), some (.int l3), some (.int r1), none, none, none], [.int l3, .int r1, .int l1, .ref 26], M1)) rfl).trans ?_
  refine (e_kV (q := (15, [some (.ref 26), some (.int l1), some (.int l2), some (.int l3), some (.int r1), none, none, none], [.int l3, .int r1, .int l1, .ref 26])) (q2 := (18, [some (.ref 26), some (.int l1), some (.int l2), some (.int l3), some (.int r1), none, none, none], [])) (M := M1) (o := (pcl GG lay d 189 [.ref 26, .int l1, .int r1, .int l3] M1)) (hf := rfl) rfl rfl).trans ?_
  refine kV_in (fun M2 => ?_)
  refine (evn_adv 9 (q' := (32, [some (.ref 26), some (.int l1), some (.int l2), some (.int l3), some (.int r1), some (.int ((jn 1) <<< ((M2.1 26 4) &&& 31))), some (.int (jn 0)), some (.int (jn 0))], [], M2)) rfl).trans ?_
  rfl
theorem h_188_32 (d : Nat) (l1 : Int32) (l2 : Int32) (u3 : Option Value) (l4 : Int32) (l5 : Int32) (l6 : Int32) (l7 : Int32) (M : PM) : E_188 d (32, [some (.ref 26), some (.int l1), some (.int l2), u3, some (.int l4), some (.int l5), some (.int l6), some (.int l7)], [], M) = (if l7 < l5 then (if l6 < l5 then (kI (pcl GG lay d 191 [.ref 26, .int l1, .int l4, .int l2, .int l6] M) fun r1 M1 => (if r1 = jn 0 then E_188 d (32, [some (.ref 26), some (.int l1), some (.int l2), u3, some (.int l4), some (.int l5), some (.int (l6 + ((jn 1) <<< (((M1.1 26 4) - (M1.1 26 5)) &&& 31)))), some (.int (l7 + (jn 1)))], [], M1) else (rZ (jn 1) M1))) else (rZ (jn 0) M)) else (rZ (jn 0) M)) := by
  refine (evn_adv 2 (q' := (36, [some (.ref 26), some (.int l1), some (.int l2), u3, some (.int l4), some (.int l5), some (.int l6), some (.int l7)], [.int l5, .int l7], M)) rfl).trans ?_
  refine (e_ic_ge (hf := rfl)).trans ?_
  refine ite_in ?_ ?_
  · refine (evn_adv 2 (q' := (43, [some (.ref 26), some (.int l1), some (.int l2), u3, some (.int l4), some (.int l5), some (.int l6), some (.int l7)], [.int l5, .int l6], M)) rfl).trans ?_
    refine (e_ic_ge (hf := rfl)).trans ?_
    refine ite_in ?_ ?_
    · refine (evn_adv 5 (q' := (53, [some (.ref 26), some (.int l1), some (.int l2), u3, some (.int l4), some (.int l5), some (.int l6), some (.int l7)], [.int l6, .int l2, .int l4, .int l1, .ref 26], M)) rfl).trans ?_
      refine (e_kI (q := (53, [some (.ref 26), some (.int l1), some (.int l2), u3, some (.int l4), some (.int l5), some (.int l6), some (.int l7)], [.int l6, .int l2, .int l4, .int l1, .ref 26])) (q2 := (56, [some (.ref 26), some (.int l1), some (.int l2), u3, some (.int l4), some (.int l5), some (.int l6), some (.int l7)], [])) (M := M) (o := (pcl GG lay d 191 [.ref 26, .int l1, .int l4, .int l2, .int l6] M)) (hf := rfl) rfl rfl).trans ?_
      refine kI_in (fun r1 M1 => ?_)
      refine (e_if_eq (hf := rfl)).trans ?_
      refine ite_in ?_ ?_
      · refine (evn_adv 12 (q' := (32, [some (.ref 26), some (.int l1), some (.int l2), u3, some (.int l4), some (.int l5), some (.int (l6 + ((jn 1) <<< (((M1.1 26 4) - (M1.1 26 5)) &&& 31)))), some (.int (l7 + (jn 1)))], [], M1)) rfl).trans ?_
        rfl
      · refine (evn_adv 1 (q' := (60, [some (.ref 26), some (.int l1), some (.int l2), u3, some (.int l4), some (.int l5), some (.int l6), some (.int l7)], [.int (jn 1)], M1)) rfl).trans ?_
        exact e_iretz (hf := rfl)
    · refine (evn_adv 1 (q' := (84, [some (.ref 26), some (.int l1), some (.int l2), u3, some (.int l4), some (.int l5), some (.int l6), some (.int l7)], [.int (jn 0)], M)) rfl).trans ?_
      exact e_iretz (hf := rfl)
  · refine (evn_adv 1 (q' := (84, [some (.ref 26), some (.int l1), some (.int l2), u3, some (.int l4), some (.int l5), some (.int l6), some (.int l7)], [.int (jn 0)], M)) rfl).trans ?_
    exact e_iretz (hf := rfl)
/-- TermStrategies$Matching.countTurns(III)V -/
noncomputable abbrev E_189 (d : Nat) : PQ → PO := evn (rnn k_189 lay none (pcl GG lay d) 0)
theorem q_189 (d : Nat) (l1 : Int32) (l2 : Int32) (l3 : Int32) (M : PM) : pcl GG lay (d + 1) 189 [.ref 26, .int l1, .int l2, .int l3] M = (wr (sI M 26 (va_up (M.1 26) 3 l3)) fun M1 => (wr (sI M1 26 (va_up (M1.1 26) 4 (jn 0))) fun M2 => E_189 d (13, [some (.ref 26), some (.int l1), some (.int l2), some (.int l3), some (.int (jn 0))], [], M2))) := by
  refine (pcl_un (mt := t_189) (by decide) rfl (Nat.le_of_ble_eq_true rfl)).trans ?_
  show E_189 d (0, [some (.ref 26), some (.int l1), some (.int l2), some (.int l3), none], [], M) = _
  refine (evn_adv 2 (q' := (2, [some (.ref 26), some (.int l1), some (.int l2), some (.int l3), none], [.int l3, .ref 26], M)) rfl).trans ?_
  refine (evn_adv 1 (q' := (5, [some (.ref 26), some (.int l1), some (.int l2), some (.int l3), none], [], (sI M 26 (va_up (M.1 26) 3 l3)))) rfl).trans ?_
  refine wr_in (f := fun M1 => E_189 d (5, [some (.ref 26), some (.int l1), some (.int l2), some (.int l3), none], [], M1)) (fun M1 => ?_)
  refine (evn_adv 2 (q' := (7, [some (.ref 26), some (.int l1), some (.int l2), some (.int l3), none], [.int (jn 0), .ref 26], M1)) rfl).trans ?_
  refine (evn_adv 1 (q' := (10, [some (.ref 26), some (.int l1), some (.int l2), some (.int l3), none], [], (sI M1 26 (va_up (M1.1 26) 4 (jn 0))))) rfl).trans ?_
  refine wr_in (f := fun M2 => E_189 d (10, [some (.ref 26), some (.int l1), some (.int l2), some (.int l3), none], [], M2)) (fun M2 => ?_)
  refine (evn_adv 2 (q' := (13, [some (.ref 26), some (.int l1), some (.int l2), some (.int l3), some (.int (jn 0))], [], M2)) rfl).trans ?_
  rfl
theorem h_189_13 (d : Nat) (l1 : Int32) (l2 : Int32) (u3 : Option Value) (l4 : Int32) (M : PM) : E_189 d (13, [some (.ref 26), some (.int l1), some (.int l2), u3, some (.int l4)], [], M) = (if l4 < l2 then (kI (pcl GG lay d 231 [.ref 6, .int (l1 + l4)] M) fun r1 M1 => (kI (pcl GG lay d 190 [.ref 26, .int r1] M1) fun r2 M2 => (if r2 = jn 0 then E_189 d (13, [some (.ref 26), some (.int l1), some (.int l2), u3, some (.int (l4 + (jn 1)))], [], M2) else (wr (sI M2 26 (va_up (M2.1 26) 4 ((M2.1 26 4) + (jn 1)))) fun M3 => E_189 d (13, [some (.ref 26), some (.int l1), some (.int l2), u3, some (.int (l4 + (jn 1)))], [], M3))))) else (if (jn 6) < (M.1 26 4) then (wr (sI M 26 (va_up (M.1 26) 3 (jn 0))) fun M1 => (wr (sI M1 26 (va_up (M1.1 26) 4 (jn 0))) fun M2 => (rV M2))) else (rV M))) := by
  refine (evn_adv 2 (q' := (16, [some (.ref 26), some (.int l1), some (.int l2), u3, some (.int l4)], [.int l2, .int l4], M)) rfl).trans ?_
  refine (e_ic_ge (hf := rfl)).trans ?_
  refine ite_in ?_ ?_
  · refine (evn_adv 6 (q' := (28, [some (.ref 26), some (.int l1), some (.int l2), u3, some (.int l4)], [.int (l1 + l4), .ref 6, .ref 26], M)) rfl).trans ?_
    refine (e_kI (q := (28, [some (.ref 26), some (.int l1), some (.int l2), u3, some (.int l4)], [.int (l1 + l4), .ref 6, .ref 26])) (q2 := (31, [some (.ref 26), some (.int l1), some (.int l2), u3, some (.int l4)], [.ref 26])) (M := M) (o := (pcl GG lay d 231 [.ref 6, .int (l1 + l4)] M)) (hf := rfl) rfl rfl).trans ?_
    refine kI_in (fun r1 M1 => ?_)
    refine (e_kI (q := (31, [some (.ref 26), some (.int l1), some (.int l2), u3, some (.int l4)], [.int r1, .ref 26])) (q2 := (34, [some (.ref 26), some (.int l1), some (.int l2), u3, some (.int l4)], [])) (M := M1) (o := (pcl GG lay d 190 [.ref 26, .int r1] M1)) (hf := rfl) rfl rfl).trans ?_
    refine kI_in (fun r2 M2 => ?_)
    refine (e_if_eq (hf := rfl)).trans ?_
    refine ite_in ?_ ?_
    · refine (evn_adv 2 (q' := (13, [some (.ref 26), some (.int l1), some (.int l2), u3, some (.int (l4 + (jn 1)))], [], M2)) rfl).trans ?_
      rfl
    · refine (evn_adv 5 (q' := (44, [some (.ref 26), some (.int l1), some (.int l2), u3, some (.int l4)], [.int ((M2.1 26 4) + (jn 1)), .ref 26], M2)) rfl).trans ?_
      refine (evn_adv 1 (q' := (47, [some (.ref 26), some (.int l1), some (.int l2), u3, some (.int l4)], [], (sI M2 26 (va_up (M2.1 26) 4 ((M2.1 26 4) + (jn 1)))))) rfl).trans ?_
      refine wr_in (f := fun M3 => E_189 d (47, [some (.ref 26), some (.int l1), some (.int l2), u3, some (.int l4)], [], M3)) (fun M3 => ?_)
      refine (evn_adv 2 (q' := (13, [some (.ref 26), some (.int l1), some (.int l2), u3, some (.int (l4 + (jn 1)))], [], M3)) rfl).trans ?_
      rfl
  · refine (evn_adv 3 (q' := (59, [some (.ref 26), some (.int l1), some (.int l2), u3, some (.int l4)], [.int (jn 6), .int (M.1 26 4)], M)) rfl).trans ?_
    refine (e_ic_le (hf := rfl)).trans ?_
    refine ite_in ?_ ?_
    · refine (evn_adv 2 (q' := (64, [some (.ref 26), some (.int l1), some (.int l2), u3, some (.int l4)], [.int (jn 0), .ref 26], M)) rfl).trans ?_
      refine (evn_adv 1 (q' := (67, [some (.ref 26), some (.int l1), some (.int l2), u3, some (.int l4)], [], (sI M 26 (va_up (M.1 26) 3 (jn 0))))) rfl).trans ?_
      refine wr_in (f := fun M1 => E_189 d (67, [some (.ref 26), some (.int l1), some (.int l2), u3, some (.int l4)], [], M1)) (fun M1 => ?_)
      refine (evn_adv 2 (q' := (69, [some (.ref 26), some (.int l1), some (.int l2), u3, some (.int l4)], [.int (jn 0), .ref 26], M1)) rfl).trans ?_
      refine (evn_adv 1 (q' := (72, [some (.ref 26), some (.int l1), some (.int l2), u3, some (.int l4)], [], (sI M1 26 (va_up (M1.1 26) 4 (jn 0))))) rfl).trans ?_
      refine wr_in (f := fun M2 => E_189 d (72, [some (.ref 26), some (.int l1), some (.int l2), u3, some (.int l4)], [], M2)) (fun M2 => ?_)
      exact evn_end 1 rfl
    · exact evn_end 1 rfl
/-- TermStrategies$Matching.mayTurn(I)Z -/
noncomputable abbrev E_190 (d : Nat) : PQ → PO := evn (rnn k_190 lay none (pcl GG lay d) 2)
theorem q_190 (d : Nat) (l1 : Int32) (M : PM) : pcl GG lay (d + 1) 190 [.ref 26, .int l1] M = (if l1 < (jn 105) then (rZ (jn 0) M) else (if (jn 108) < l1 then (rZ (jn 0) M) else (if (((M.1 26 3) >>> ((l1 - (jn 105)) &&& 31)) &&& (jn 1)) = jn 0 then (rZ (jn 0) M) else (rZ (jn 1) M)))) := by
  refine (pcl_un (mt := t_190) (by decide) rfl (Nat.le_of_ble_eq_true rfl)).trans ?_
  show E_190 d (0, [some (.ref 26), some (.int l1)], [], M) = _
  refine (evn_adv 2 (q' := (3, [some (.ref 26), some (.int l1)], [.int (jn 105), .int l1], M)) rfl).trans ?_
  refine (e_ic_lt (hf := rfl)).trans ?_
  refine ite_in ?_ ?_
  · refine (evn_adv 1 (q' := (31, [some (.ref 26), some (.int l1)], [.int (jn 0)], M)) rfl).trans ?_
    exact e_iretz (hf := rfl)
  · refine (evn_adv 2 (q' := (9, [some (.ref 26), some (.int l1)], [.int (jn 108), .int l1], M)) rfl).trans ?_
    refine (e_ic_gt (hf := rfl)).trans ?_
    refine ite_in ?_ ?_
    · refine (evn_adv 1 (q' := (31, [some (.ref 26), some (.int l1)], [.int (jn 0)], M)) rfl).trans ?_
      exact e_iretz (hf := rfl)
    · refine (evn_adv 8 (q' := (23, [some (.ref 26), some (.int l1)], [.int (((M.1 26 3) >>> ((l1 - (jn 105)) &&& 31)) &&& (jn 1))], M)) rfl).trans ?_
      refine (e_if_eq (hf := rfl)).trans ?_
      refine ite_in ?_ ?_
      · refine (evn_adv 1 (q' := (31, [some (.ref 26), some (.int l1)], [.int (jn 0)], M)) rfl).trans ?_
        exact e_iretz (hf := rfl)
      · refine (evn_adv 2 (q' := (31, [some (.ref 26), some (.int l1)], [.int (jn 1)], M)) rfl).trans ?_
        exact e_iretz (hf := rfl)
/-- TermStrategies$Matching.attempt(IIII)Z -/
noncomputable abbrev E_191 (d : Nat) : PQ → PO := evn (rnn k_191 lay none (pcl GG lay d) 2)
theorem q_191 (d : Nat) (l1 : Int32) (l2 : Int32) (l3 : Int32) (l4 : Int32) (M : PM) : pcl GG lay (d + 1) 191 [.ref 26, .int l1, .int l2, .int l3, .int l4] M = (wr (sI M 26 (va_up (M.1 26) 5 (jn 0))) fun M1 => (kV (pcl GG lay d 274 [.ref 27, .int (jz 1)] M1) fun M2 => (kV (pcl GG lay d 66 [.ref 28, .int (jn 0), .int l3] M2) fun M3 => E_191 d (25, [some (.ref 26), some (.int l1), some (.int l2), some (.int l3), some (.int l4), some (.int (jn 0)), none, none], [], M3)))) := by
  refine (pcl_un (mt := t_191) (by decide) rfl (Nat.le_of_ble_eq_true rfl)).trans ?_
  show E_191 d (0, [some (.ref 26), some (.int l1), some (.int l2), some (.int l3), some (.int l4), none, none, none], [], M) = _
  refine (evn_adv 2 (q' := (2, [some (.ref 26), some (.int l1), some (.int l2), some (.int l3), some (.int l4), none, none, none], [.int (jn 0), .ref 26], M)) rfl).trans ?_
  refine (evn_adv 1 (q' := (5, [some (.ref 26), some (.int l1), some (.int l2), some (.int l3), some (.int l4), none, none, none], [], (sI M 26 (va_up (M.1 26) 5 (jn 0))))) rfl).trans ?_
  refine wr_in (f := fun M1 => E_191 d (5, [some (.ref 26), some (.int l1), some (.int l2), some (.int l3), some (.int l4), none, none, none], [], M1)) (fun M1 => ?_)
  refine (evn_adv 3 (q' := (10, [some (.ref 26), some (.int l1), some (.int l2), some (.int l3), some (.int l4), none, none, none], [.int (jz 1), .ref 27], M1)) rfl).trans ?_
  refine (e_kV (q := (10, [some (.ref 26), some (.int l1), some (.int l2), some (.int l3), some (.int l4), none, none, none], [.int (jz 1), .ref 27])) (q2 := (13, [some (.ref 26), some (.int l1), some (.int l2), some (.int l3), some (.int l4), none, none, none], [])) (M := M1) (o := (pcl GG lay d 274 [.ref 27, .int (jz 1)] M1)) (hf := rfl) rfl rfl).trans ?_
  refine kV_in (fun M2 => ?_)
  refine (evn_adv 4 (q' := (19, [some (.ref 26), some (.int l1), some (.int l2), some (.int l3), some (.int l4), none, none, none], [.int l3, .int (jn 0), .ref 28], M2)) rfl).trans ?_
  refine (e_kV (q := (19, [some (.ref 26), some (.int l1), some (.int l2), some (.int l3), some (.int l4), none, none, none], [.int l3, .int (jn 0), .ref 28])) (q2 := (22, [some (.ref 26), some (.int l1), some (.int l2), some (.int l3), some (.int l4), none, none, none], [])) (M := M2) (o := (pcl GG lay d 66 [.ref 28, .int (jn 0), .int l3] M2)) (hf := rfl) rfl rfl).trans ?_
  refine kV_in (fun M3 => ?_)
  refine (evn_adv 2 (q' := (25, [some (.ref 26), some (.int l1), some (.int l2), some (.int l3), some (.int l4), some (.int (jn 0)), none, none], [], M3)) rfl).trans ?_
  rfl
theorem h_191_25 (d : Nat) (l1 : Int32) (l2 : Int32) (u3 : Option Value) (l4 : Int32) (l5 : Int32) (u6 : Option Value) (u7 : Option Value) (M : PM) : E_191 d (25, [some (.ref 26), some (.int l1), some (.int l2), u3, some (.int l4), some (.int l5), u6, u7], [], M) = (if l5 < l2 then (kI (pcl GG lay d 231 [.ref 6, .int (l1 + l5)] M) fun r1 M1 => (kI (pcl GG lay d 65 [.ref 28, .int l5] M1) fun r2 M2 => (kI (pcl GG lay d 62 [.int r1] M2) fun r3 M3 => (if r3 = jn 0 then (kI (pcl GG lay d 231 [.ref 6, .int r2] M3) fun r4 M4 => (if r4 = r1 then (kV (pcl GG lay d 192 [.ref 26, .int l1, .int l5, .int r2, .int l4] M4) fun M5 => E_191 d (25, [some (.ref 26), some (.int l1), some (.int l2), u3, some (.int l4), some (.int (l5 + (jn 1))), some (.int r1), some (.int r2)], [], M5)) else (rZ (jn 0) M4))) else (kI (pcl GG lay d 65 [.ref 27, .int (r1 - (jn 117))] M3) fun r4 M4 => (if r4 = (jz 1) then (kV (pcl GG lay d 66 [.ref 27, .int (r1 - (jn 117)), .int r2] M4) fun M5 => E_191 d (25, [some (.ref 26), some (.int l1), some (.int l2), u3, some (.int l4), some (.int (l5 + (jn 1))), some (.int r1), some (.int r2)], [], M5)) else (kI (pcl GG lay d 65 [.ref 27, .int (r1 - (jn 117))] M4) fun r5 M5 => (kI (pcl GG lay d 235 [.ref 6, .int r5, .int r2] M5) fun r6 M6 => (if r6 = jn 0 then (rZ (jn 0) M6) else E_191 d (25, [some (.ref 26), some (.int l1), some (.int l2), u3, some (.int l4), some (.int (l5 + (jn 1))), some (.int r1), some (.int r2)], [], M6)))))))))) else (rZ (jn 1) M)) := by
  refine (evn_adv 2 (q' := (28, [some (.ref 26), some (.int l1), some (.int l2), u3, some (.int l4), some (.int l5), u6, u7], [.int l2, .int l5], M)) rfl).trans ?_
  refine (e_ic_ge (hf := rfl)).trans ?_
  refine ite_in ?_ ?_
  · refine (evn_adv 5 (q' := (39, [some (.ref 26), some (.int l1), some (.int l2), u3, some (.int l4), some (.int l5), u6, u7], [.int (l1 + l5), .ref 6], M)) rfl).trans ?_
    refine (e_kI (q := (39, [some (.ref 26), some (.int l1), some (.int l2), u3, some (.int l4), some (.int l5), u6, u7], [.int (l1 + l5), .ref 6])) (q2 := (42, [some (.ref 26), some (.int l1), some (.int l2), u3, some (.int l4), some (.int l5), u6, u7], [])) (M := M) (o := (pcl GG lay d 231 [.ref 6, .int (l1 + l5)] M)) (hf := rfl) rfl rfl).trans ?_
    refine kI_in (fun r1 M1 => ?_)
    refine (evn_adv 4 (q' := (50, [some (.ref 26), some (.int l1), some (.int l2), u3, some (.int l4), some (.int l5), some (.int r1), u7], [.int l5, .ref 28], M1)) rfl).trans ?_
    refine (e_kI (q := (50, [some (.ref 26), some (.int l1), some (.int l2), u3, some (.int l4), some (.int l5), some (.int r1), u7], [.int l5, .ref 28])) (q2 := (53, [some (.ref 26), some (.int l1), some (.int l2), u3, some (.int l4), some (.int l5), some (.int r1), u7], [])) (M := M1) (o := (pcl GG lay d 65 [.ref 28, .int l5] M1)) (hf := rfl) rfl rfl).trans ?_
    refine kI_in (fun r2 M2 => ?_)
    refine (evn_adv 2 (q' := (57, [some (.ref 26), some (.int l1), some (.int l2), u3, some (.int l4), some (.int l5), some (.int r1), some (.int r2)], [.int r1], M2)) rfl).trans ?_
    refine (e_kI (q := (57, [some (.ref 26), some (.int l1), some (.int l2), u3, some (.int l4), some (.int l5), some (.int r1), some (.int r2)], [.int r1])) (q2 := (60, [some (.ref 26), some (.int l1), some (.int l2), u3, some (.int l4), some (.int l5), some (.int r1), some (.int r2)], [])) (M := M2) (o := (pcl GG lay d 62 [.int r1] M2)) (hf := rfl) rfl rfl).trans ?_
    refine kI_in (fun r3 M3 => ?_)
    refine (e_if_eq (hf := rfl)).trans ?_
    refine ite_in ?_ ?_
    · refine (evn_adv 3 (q' := (128, [some (.ref 26), some (.int l1), some (.int l2), u3, some (.int l4), some (.int l5), some (.int r1), some (.int r2)], [.int r2, .ref 6], M3)) rfl).trans ?_
      refine (e_kI (q := (128, [some (.ref 26), some (.int l1), some (.int l2), u3, some (.int l4), some (.int l5), some (.int r1), some (.int r2)], [.int r2, .ref 6])) (q2 := (131, [some (.ref 26), some (.int l1), some (.int l2), u3, some (.int l4), some (.int l5), some (.int r1), some (.int r2)], [])) (M := M3) (o := (pcl GG lay d 231 [.ref 6, .int r2] M3)) (hf := rfl) rfl rfl).trans ?_
      refine kI_in (fun r4 M4 => ?_)
      refine (evn_adv 1 (q' := (133, [some (.ref 26), some (.int l1), some (.int l2), u3, some (.int l4), some (.int l5), some (.int r1), some (.int r2)], [.int r1, .int r4], M4)) rfl).trans ?_
      refine (e_ic_eq (hf := rfl)).trans ?_
      refine ite_in ?_ ?_
      · refine (evn_adv 5 (q' := (146, [some (.ref 26), some (.int l1), some (.int l2), u3, some (.int l4), some (.int l5), some (.int r1), some (.int r2)], [.int l4, .int r2, .int l5, .int l1, .ref 26], M4)) rfl).trans ?_
        refine (e_kV (q := (146, [some (.ref 26), some (.int l1), some (.int l2), u3, some (.int l4), some (.int l5), some (.int r1), some (.int r2)], [.int l4, .int r2, .int l5, .int l1, .ref 26])) (q2 := (149, [some (.ref 26), some (.int l1), some (.int l2), u3, some (.int l4), some (.int l5), some (.int r1), some (.int r2)], [])) (M := M4) (o := (pcl GG lay d 192 [.ref 26, .int l1, .int l5, .int r2, .int l4] M4)) (hf := rfl) rfl rfl).trans ?_
        refine kV_in (fun M5 => ?_)
        refine (evn_adv 2 (q' := (25, [some (.ref 26), some (.int l1), some (.int l2), u3, some (.int l4), some (.int (l5 + (jn 1))), some (.int r1), some (.int r2)], [], M5)) rfl).trans ?_
        rfl
      · refine (evn_adv 1 (q' := (137, [some (.ref 26), some (.int l1), some (.int l2), u3, some (.int l4), some (.int l5), some (.int r1), some (.int r2)], [.int (jn 0)], M4)) rfl).trans ?_
        exact e_iretz (hf := rfl)
    · refine (evn_adv 5 (q' := (72, [some (.ref 26), some (.int l1), some (.int l2), u3, some (.int l4), some (.int l5), some (.int r1), some (.int r2)], [.int (r1 - (jn 117)), .ref 27], M3)) rfl).trans ?_
      refine (e_kI (q := (72, [some (.ref 26), some (.int l1), some (.int l2), u3, some (.int l4), some (.int l5), some (.int r1), some (.int r2)], [.int (r1 - (jn 117)), .ref 27])) (q2 := (75, [some (.ref 26), some (.int l1), some (.int l2), u3, some (.int l4), some (.int l5), some (.int r1), some (.int r2)], [])) (M := M3) (o := (pcl GG lay d 65 [.ref 27, .int (r1 - (jn 117))] M3)) (hf := rfl) rfl rfl).trans ?_
      refine kI_in (fun r4 M4 => ?_)
      refine (evn_adv 1 (q' := (76, [some (.ref 26), some (.int l1), some (.int l2), u3, some (.int l4), some (.int l5), some (.int r1), some (.int r2)], [.int (jz 1), .int r4], M4)) rfl).trans ?_
      refine (e_ic_ne (hf := rfl)).trans ?_
      refine ite_in ?_ ?_
      · refine (evn_adv 6 (q' := (90, [some (.ref 26), some (.int l1), some (.int l2), u3, some (.int l4), some (.int l5), some (.int r1), some (.int r2)], [.int r2, .int (r1 - (jn 117)), .ref 27], M4)) rfl).trans ?_
        refine (e_kV (q := (90, [some (.ref 26), some (.int l1), some (.int l2), u3, some (.int l4), some (.int l5), some (.int r1), some (.int r2)], [.int r2, .int (r1 - (jn 117)), .ref 27])) (q2 := (93, [some (.ref 26), some (.int l1), some (.int l2), u3, some (.int l4), some (.int l5), some (.int r1), some (.int r2)], [])) (M := M4) (o := (pcl GG lay d 66 [.ref 27, .int (r1 - (jn 117)), .int r2] M4)) (hf := rfl) rfl rfl).trans ?_
        refine kV_in (fun M5 => ?_)
        refine (evn_adv 3 (q' := (25, [some (.ref 26), some (.int l1), some (.int l2), u3, some (.int l4), some (.int (l5 + (jn 1))), some (.int r1), some (.int r2)], [], M5)) rfl).trans ?_
        rfl
      · refine (evn_adv 7 (q' := (109, [some (.ref 26), some (.int l1), some (.int l2), u3, some (.int l4), some (.int l5), some (.int r1), some (.int r2)], [.int (r1 - (jn 117)), .ref 27, .ref 6], M4)) rfl).trans ?_
        refine (e_kI (q := (109, [some (.ref 26), some (.int l1), some (.int l2), u3, some (.int l4), some (.int l5), some (.int r1), some (.int r2)], [.int (r1 - (jn 117)), .ref 27, .ref 6])) (q2 := (112, [some (.ref 26), some (.int l1), some (.int l2), u3, some (.int l4), some (.int l5), some (.int r1), some (.int r2)], [.ref 6])) (M := M4) (o := (pcl GG lay d 65 [.ref 27, .int (r1 - (jn 117))] M4)) (hf := rfl) rfl rfl).trans ?_
        refine kI_in (fun r5 M5 => ?_)
        refine (evn_adv 1 (q' := (114, [some (.ref 26), some (.int l1), some (.int l2), u3, some (.int l4), some (.int l5), some (.int r1), some (.int r2)], [.int r2, .int r5, .ref 6], M5)) rfl).trans ?_
        refine (e_kI (q := (114, [some (.ref 26), some (.int l1), some (.int l2), u3, some (.int l4), some (.int l5), some (.int r1), some (.int r2)], [.int r2, .int r5, .ref 6])) (q2 := (117, [some (.ref 26), some (.int l1), some (.int l2), u3, some (.int l4), some (.int l5), some (.int r1), some (.int r2)], [])) (M := M5) (o := (pcl GG lay d 235 [.ref 6, .int r5, .int r2] M5)) (hf := rfl) rfl rfl).trans ?_
        refine kI_in (fun r6 M6 => ?_)
        refine (e_if_ne (hf := rfl)).trans ?_
        refine ite_in ?_ ?_
        · refine (evn_adv 1 (q' := (121, [some (.ref 26), some (.int l1), some (.int l2), u3, some (.int l4), some (.int l5), some (.int r1), some (.int r2)], [.int (jn 0)], M6)) rfl).trans ?_
          exact e_iretz (hf := rfl)
        · refine (evn_adv 2 (q' := (25, [some (.ref 26), some (.int l1), some (.int l2), u3, some (.int l4), some (.int (l5 + (jn 1))), some (.int r1), some (.int r2)], [], M6)) rfl).trans ?_
          rfl
  · refine (evn_adv 1 (q' := (156, [some (.ref 26), some (.int l1), some (.int l2), u3, some (.int l4), some (.int l5), u6, u7], [.int (jn 1)], M)) rfl).trans ?_
    exact e_iretz (hf := rfl)
/-- TermStrategies$Matching.faceArguments(IIII)V -/
noncomputable abbrev E_192 (d : Nat) : PQ → PO := evn (rnn k_192 lay none (pcl GG lay d) 0)
theorem q_192 (d : Nat) (l1 : Int32) (l2 : Int32) (l3 : Int32) (l4 : Int32) (M : PM) : pcl GG lay (d + 1) 192 [.ref 26, .int l1, .int l2, .int l3, .int l4] M = (kI (pcl GG lay d 231 [.ref 6, .int (l1 + l2)] M) fun r1 M1 => (kI (pcl GG lay d 63 [.int r1] M1) fun r2 M2 => (if r2 = (jn 1) then (kV (pcl GG lay d 66 [.ref 28, .int (l2 + (jn 1)), .int (l3 + (jn 1))] M2) fun M3 => E_192 d (38, [some (.ref 26), some (.int l1), some (.int l2), some (.int l3), some (.int l4), some (.int r1), some (.int r2), none, none], [], M3)) else E_192 d (38, [some (.ref 26), some (.int l1), some (.int l2), some (.int l3), some (.int l4), some (.int r1), some (.int r2), none, none], [], M2)))) := by
  refine (pcl_un (mt := t_192) (by decide) rfl (Nat.le_of_ble_eq_true rfl)).trans ?_
  show E_192 d (0, [some (.ref 26), some (.int l1), some (.int l2), some (.int l3), some (.int l4), none, none, none, none], [], M) = _
  refine (evn_adv 5 (q' := (7, [some (.ref 26), some (.int l1), some (.int l2), some (.int l3), some (.int l4), none, none, none, none], [.int (l1 + l2), .ref 6], M)) rfl).trans ?_
  refine (e_kI (q := (7, [some (.ref 26), some (.int l1), some (.int l2), some (.int l3), some (.int l4), none, none, none, none], [.int (l1 + l2), .ref 6])) (q2 := (10, [some (.ref 26), some (.int l1), some (.int l2), some (.int l3), some (.int l4), none, none, none, none], [])) (M := M) (o := (pcl GG lay d 231 [.ref 6, .int (l1 + l2)] M)) (hf := rfl) rfl rfl).trans ?_
  refine kI_in (fun r1 M1 => ?_)
  refine (evn_adv 2 (q' := (14, [some (.ref 26), some (.int l1), some (.int l2), some (.int l3), some (.int l4), some (.int r1), none, none, none], [.int r1], M1)) rfl).trans ?_
  refine (e_kI (q := (14, [some (.ref 26), some (.int l1), some (.int l2), some (.int l3), some (.int l4), some (.int r1), none, none, none], [.int r1])) (q2 := (17, [some (.ref 26), some (.int l1), some (.int l2), some (.int l3), some (.int l4), some (.int r1), none, none, none], [])) (M := M1) (o := (pcl GG lay d 63 [.int r1] M1)) (hf := rfl) rfl rfl).trans ?_
  refine kI_in (fun r2 M2 => ?_)
  refine (evn_adv 3 (q' := (22, [some (.ref 26), some (.int l1), some (.int l2), some (.int l3), some (.int l4), some (.int r1), some (.int r2), none, none], [.int (jn 1), .int r2], M2)) rfl).trans ?_
  refine (e_ic_ne (hf := rfl)).trans ?_
  refine ite_in ?_ ?_
  · refine (evn_adv 8 (q' := (35, [some (.ref 26), some (.int l1), some (.int l2), some (.int l3), some (.int l4), some (.int r1), some (.int r2), none, none], [.int (l3 + (jn 1)), .int (l2 + (jn 1)), .ref 28], M2)) rfl).trans ?_
    refine (e_kV (q := (35, [some (.ref 26), some (.int l1), some (.int l2), some (.int l3), some (.int l4), some (.int r1), some (.int r2), none, none], [.int (l3 + (jn 1)), .int (l2 + (jn 1)), .ref 28])) (q2 := (38, [some (.ref 26), some (.int l1), some (.int l2), some (.int l3), some (.int l4), some (.int r1), some (.int r2), none, none], [])) (M := M2) (o := (pcl GG lay d 66 [.ref 28, .int (l2 + (jn 1)), .int (l3 + (jn 1))] M2)) (hf := rfl) rfl rfl).trans ?_
    refine kV_in (fun M3 => ?_)
    rfl
  · rfl
theorem h_192_38 (d : Nat) (l1 : Int32) (l2 : Int32) (l3 : Int32) (l4 : Int32) (l5 : Int32) (l6 : Int32) (u7 : Option Value) (u8 : Option Value) (M : PM) : E_192 d (38, [some (.ref 26), some (.int l1), some (.int l2), some (.int l3), some (.int l4), some (.int l5), some (.int l6), u7, u8], [], M) = (if l6 < (jn 2) then (rV M) else (kI (pcl GG lay d 233 [.ref 6, .int ((l1 + l2) + (jn 1))] M) fun r1 M1 => (kI (pcl GG lay d 190 [.ref 26, .int l5] M1) fun r2 M2 => (if r2 = jn 0 then E_192 d (107, [some (.ref 26), some (.int l1), some (.int l2), some (.int l3), some (.int l4), some (.int l5), some (.int l6), some (.int (r1 - l1)), some (.int (jn 0))], [], M2) else (wr (sI M2 26 (va_up (M2.1 26) 5 ((M2.1 26 5) + (jn 1)))) fun M3 => (if ((l4 >>> (((M3.1 26 4) - (M3.1 26 5)) &&& 31)) &&& (jn 1)) = jn 0 then E_192 d (107, [some (.ref 26), some (.int l1), some (.int l2), some (.int l3), some (.int l4), some (.int l5), some (.int l6), some (.int (r1 - l1)), some (.int (jn 0))], [], M3) else E_192 d (107, [some (.ref 26), some (.int l1), some (.int l2), some (.int l3), some (.int l4), some (.int l5), some (.int l6), some (.int (r1 - l1)), some (.int (jn 1))], [], M3))))))) := by
  refine (evn_adv 2 (q' := (41, [some (.ref 26), some (.int l1), some (.int l2), some (.int l3), some (.int l4), some (.int l5), some (.int l6), u7, u8], [.int (jn 2), .int l6], M)) rfl).trans ?_
  refine (e_ic_ge (hf := rfl)).trans ?_
  refine ite_in ?_ ?_
  · exact evn_end 1 rfl
  · refine (evn_adv 7 (q' := (54, [some (.ref 26), some (.int l1), some (.int l2), some (.int l3), some (.int l4), some (.int l5), some (.int l6), u7, u8], [.int ((l1 + l2) + (jn 1)), .ref 6], M)) rfl).trans ?_
    refine (e_kI (q := (54, [some (.ref 26), some (.int l1), some (.int l2), some (.int l3), some (.int l4), some (.int l5), some (.int l6), u7, u8], [.int ((l1 + l2) + (jn 1)), .ref 6])) (q2 := (57, [some (.ref 26), some (.int l1), some (.int l2), some (.int l3), some (.int l4), some (.int l5), some (.int l6), u7, u8], [])) (M := M) (o := (pcl GG lay d 233 [.ref 6, .int ((l1 + l2) + (jn 1))] M)) (hf := rfl) rfl rfl).trans ?_
    refine kI_in (fun r1 M1 => ?_)
    refine (evn_adv 7 (q' := (67, [some (.ref 26), some (.int l1), some (.int l2), some (.int l3), some (.int l4), some (.int l5), some (.int l6), some (.int (r1 - l1)), some (.int (jn 0))], [.int l5, .ref 26], M1)) rfl).trans ?_
    refine (e_kI (q := (67, [some (.ref 26), some (.int l1), some (.int l2), some (.int l3), some (.int l4), some (.int l5), some (.int l6), some (.int (r1 - l1)), some (.int (jn 0))], [.int l5, .ref 26])) (q2 := (70, [some (.ref 26), some (.int l1), some (.int l2), some (.int l3), some (.int l4), some (.int l5), some (.int l6), some (.int (r1 - l1)), some (.int (jn 0))], [])) (M := M1) (o := (pcl GG lay d 190 [.ref 26, .int l5] M1)) (hf := rfl) rfl rfl).trans ?_
    refine kI_in (fun r2 M2 => ?_)
    refine (e_if_eq (hf := rfl)).trans ?_
    refine ite_in ?_ ?_
    · rfl
    · refine (evn_adv 5 (q' := (80, [some (.ref 26), some (.int l1), some (.int l2), some (.int l3), some (.int l4), some (.int l5), some (.int l6), some (.int (r1 - l1)), some (.int (jn 0))], [.int ((M2.1 26 5) + (jn 1)), .ref 26], M2)) rfl).trans ?_
      refine (evn_adv 1 (q' := (83, [some (.ref 26), some (.int l1), some (.int l2), some (.int l3), some (.int l4), some (.int l5), some (.int l6), some (.int (r1 - l1)), some (.int (jn 0))], [], (sI M2 26 (va_up (M2.1 26) 5 ((M2.1 26 5) + (jn 1)))))) rfl).trans ?_
      refine wr_in (f := fun M3 => E_192 d (83, [some (.ref 26), some (.int l1), some (.int l2), some (.int l3), some (.int l4), some (.int l5), some (.int l6), some (.int (r1 - l1)), some (.int (jn 0))], [], M3)) (fun M3 => ?_)
      refine (evn_adv 9 (q' := (97, [some (.ref 26), some (.int l1), some (.int l2), some (.int l3), some (.int l4), some (.int l5), some (.int l6), some (.int (r1 - l1)), some (.int (jn 0))], [.int ((l4 >>> (((M3.1 26 4) - (M3.1 26 5)) &&& 31)) &&& (jn 1))], M3)) rfl).trans ?_
      refine (e_if_eq (hf := rfl)).trans ?_
      refine ite_in ?_ ?_
      · refine (evn_adv 2 (q' := (107, [some (.ref 26), some (.int l1), some (.int l2), some (.int l3), some (.int l4), some (.int l5), some (.int l6), some (.int (r1 - l1)), some (.int (jn 0))], [], M3)) rfl).trans ?_
        rfl
      · refine (evn_adv 3 (q' := (107, [some (.ref 26), some (.int l1), some (.int l2), some (.int l3), some (.int l4), some (.int l5), some (.int l6), some (.int (r1 - l1)), some (.int (jn 1))], [], M3)) rfl).trans ?_
        rfl
theorem h_192_107 (d : Nat) (u1 : Option Value) (l2 : Int32) (l3 : Int32) (u4 : Option Value) (u5 : Option Value) (u6 : Option Value) (l7 : Int32) (l8 : Int32) (M : PM) : E_192 d (107, [some (.ref 26), u1, some (.int l2), some (.int l3), u4, u5, u6, some (.int l7), some (.int l8)], [], M) = (if l8 = jn 0 then (kV (pcl GG lay d 66 [.ref 28, .int (l2 + (jn 1)), .int (l3 + (jn 1))] M) fun M1 => (if l8 = jn 0 then (kI (pcl GG lay d 233 [.ref 6, .int (l3 + (jn 1))] M1) fun r2 M2 => (kV (pcl GG lay d 66 [.ref 28, .int l7, .int r2] M2) fun M3 => (rV M3))) else (kV (pcl GG lay d 66 [.ref 28, .int l7, .int (l3 + (jn 1))] M1) fun M2 => (rV M2)))) else (kI (pcl GG lay d 233 [.ref 6, .int (l3 + (jn 1))] M) fun r1 M1 => (kV (pcl GG lay d 66 [.ref 28, .int (l2 + (jn 1)), .int r1] M1) fun M2 => (if l8 = jn 0 then (kI (pcl GG lay d 233 [.ref 6, .int (l3 + (jn 1))] M2) fun r3 M3 => (kV (pcl GG lay d 66 [.ref 28, .int l7, .int r3] M3) fun M4 => (rV M4))) else (kV (pcl GG lay d 66 [.ref 28, .int l7, .int (l3 + (jn 1))] M2) fun M3 => (rV M3)))))) := by
  refine (evn_adv 6 (q' := (116, [some (.ref 26), u1, some (.int l2), some (.int l3), u4, u5, u6, some (.int l7), some (.int l8)], [.int l8, .int (l2 + (jn 1)), .ref 28], M)) rfl).trans ?_
  refine (e_if_eq (hf := rfl)).trans ?_
  refine ite_in ?_ ?_
  · refine (evn_adv 3 (q' := (135, [some (.ref 26), u1, some (.int l2), some (.int l3), u4, u5, u6, some (.int l7), some (.int l8)], [.int (l3 + (jn 1)), .int (l2 + (jn 1)), .ref 28], M)) rfl).trans ?_
    refine (e_kV (q := (135, [some (.ref 26), u1, some (.int l2), some (.int l3), u4, u5, u6, some (.int l7), some (.int l8)], [.int (l3 + (jn 1)), .int (l2 + (jn 1)), .ref 28])) (q2 := (138, [some (.ref 26), u1, some (.int l2), some (.int l3), u4, u5, u6, some (.int l7), some (.int l8)], [])) (M := M) (o := (pcl GG lay d 66 [.ref 28, .int (l2 + (jn 1)), .int (l3 + (jn 1))] M)) (hf := rfl) rfl rfl).trans ?_
    refine kV_in (fun M1 => ?_)
    refine (evn_adv 4 (q' := (146, [some (.ref 26), u1, some (.int l2), some (.int l3), u4, u5, u6, some (.int l7), some (.int l8)], [.int l8, .int l7, .ref 28], M1)) rfl).trans ?_
    refine (e_if_eq (hf := rfl)).trans ?_
    refine ite_in ?_ ?_
    · refine (evn_adv 5 (q' := (162, [some (.ref 26), u1, some (.int l2), some (.int l3), u4, u5, u6, some (.int l7), some (.int l8)], [.int (l3 + (jn 1)), .ref 6, .int l7, .ref 28], M1)) rfl).trans ?_
      refine (e_kI (q := (162, [some (.ref 26), u1, some (.int l2), some (.int l3), u4, u5, u6, some (.int l7), some (.int l8)], [.int (l3 + (jn 1)), .ref 6, .int l7, .ref 28])) (q2 := (165, [some (.ref 26), u1, some (.int l2), some (.int l3), u4, u5, u6, some (.int l7), some (.int l8)], [.int l7, .ref 28])) (M := M1) (o := (pcl GG lay d 233 [.ref 6, .int (l3 + (jn 1))] M1)) (hf := rfl) rfl rfl).trans ?_
      refine kI_in (fun r2 M2 => ?_)
      refine (e_kV (q := (165, [some (.ref 26), u1, some (.int l2), some (.int l3), u4, u5, u6, some (.int l7), some (.int l8)], [.int r2, .int l7, .ref 28])) (q2 := (168, [some (.ref 26), u1, some (.int l2), some (.int l3), u4, u5, u6, some (.int l7), some (.int l8)], [])) (M := M2) (o := (pcl GG lay d 66 [.ref 28, .int l7, .int r2] M2)) (hf := rfl) rfl rfl).trans ?_
      refine kV_in (fun M3 => ?_)
      exact evn_end 1 rfl
    · refine (evn_adv 4 (q' := (165, [some (.ref 26), u1, some (.int l2), some (.int l3), u4, u5, u6, some (.int l7), some (.int l8)], [.int (l3 + (jn 1)), .int l7, .ref 28], M1)) rfl).trans ?_
      refine (e_kV (q := (165, [some (.ref 26), u1, some (.int l2), some (.int l3), u4, u5, u6, some (.int l7), some (.int l8)], [.int (l3 + (jn 1)), .int l7, .ref 28])) (q2 := (168, [some (.ref 26), u1, some (.int l2), some (.int l3), u4, u5, u6, some (.int l7), some (.int l8)], [])) (M := M1) (o := (pcl GG lay d 66 [.ref 28, .int l7, .int (l3 + (jn 1))] M1)) (hf := rfl) rfl rfl).trans ?_
      refine kV_in (fun M2 => ?_)
      exact evn_end 1 rfl
  · refine (evn_adv 5 (q' := (126, [some (.ref 26), u1, some (.int l2), some (.int l3), u4, u5, u6, some (.int l7), some (.int l8)], [.int (l3 + (jn 1)), .ref 6, .int (l2 + (jn 1)), .ref 28], M)) rfl).trans ?_
    refine (e_kI (q := (126, [some (.ref 26), u1, some (.int l2), some (.int l3), u4, u5, u6, some (.int l7), some (.int l8)], [.int (l3 + (jn 1)), .ref 6, .int (l2 + (jn 1)), .ref 28])) (q2 := (129, [some (.ref 26), u1, some (.int l2), some (.int l3), u4, u5, u6, some (.int l7), some (.int l8)], [.int (l2 + (jn 1)), .ref 28])) (M := M) (o := (pcl GG lay d 233 [.ref 6, .int (l3 + (jn 1))] M)) (hf := rfl) rfl rfl).trans ?_
    refine kI_in (fun r1 M1 => ?_)
    refine (evn_adv 1 (q' := (135, [some (.ref 26), u1, some (.int l2), some (.int l3), u4, u5, u6, some (.int l7), some (.int l8)], [.int r1, .int (l2 + (jn 1)), .ref 28], M1)) rfl).trans ?_
    refine (e_kV (q := (135, [some (.ref 26), u1, some (.int l2), some (.int l3), u4, u5, u6, some (.int l7), some (.int l8)], [.int r1, .int (l2 + (jn 1)), .ref 28])) (q2 := (138, [some (.ref 26), u1, some (.int l2), some (.int l3), u4, u5, u6, some (.int l7), some (.int l8)], [])) (M := M1) (o := (pcl GG lay d 66 [.ref 28, .int (l2 + (jn 1)), .int r1] M1)) (hf := rfl) rfl rfl).trans ?_
    refine kV_in (fun M2 => ?_)
    refine (evn_adv 4 (q' := (146, [some (.ref 26), u1, some (.int l2), some (.int l3), u4, u5, u6, some (.int l7), some (.int l8)], [.int l8, .int l7, .ref 28], M2)) rfl).trans ?_
    refine (e_if_eq (hf := rfl)).trans ?_
    refine ite_in ?_ ?_
    · refine (evn_adv 5 (q' := (162, [some (.ref 26), u1, some (.int l2), some (.int l3), u4, u5, u6, some (.int l7), some (.int l8)], [.int (l3 + (jn 1)), .ref 6, .int l7, .ref 28], M2)) rfl).trans ?_
      refine (e_kI (q := (162, [some (.ref 26), u1, some (.int l2), some (.int l3), u4, u5, u6, some (.int l7), some (.int l8)], [.int (l3 + (jn 1)), .ref 6, .int l7, .ref 28])) (q2 := (165, [some (.ref 26), u1, some (.int l2), some (.int l3), u4, u5, u6, some (.int l7), some (.int l8)], [.int l7, .ref 28])) (M := M2) (o := (pcl GG lay d 233 [.ref 6, .int (l3 + (jn 1))] M2)) (hf := rfl) rfl rfl).trans ?_
      refine kI_in (fun r3 M3 => ?_)
      refine (e_kV (q := (165, [some (.ref 26), u1, some (.int l2), some (.int l3), u4, u5, u6, some (.int l7), some (.int l8)], [.int r3, .int l7, .ref 28])) (q2 := (168, [some (.ref 26), u1, some (.int l2), some (.int l3), u4, u5, u6, some (.int l7), some (.int l8)], [])) (M := M3) (o := (pcl GG lay d 66 [.ref 28, .int l7, .int r3] M3)) (hf := rfl) rfl rfl).trans ?_
      refine kV_in (fun M4 => ?_)
      exact evn_end 1 rfl
    · refine (evn_adv 4 (q' := (165, [some (.ref 26), u1, some (.int l2), some (.int l3), u4, u5, u6, some (.int l7), some (.int l8)], [.int (l3 + (jn 1)), .int l7, .ref 28], M2)) rfl).trans ?_
      refine (e_kV (q := (165, [some (.ref 26), u1, some (.int l2), some (.int l3), u4, u5, u6, some (.int l7), some (.int l8)], [.int (l3 + (jn 1)), .int l7, .ref 28])) (q2 := (168, [some (.ref 26), u1, some (.int l2), some (.int l3), u4, u5, u6, some (.int l7), some (.int l8)], [])) (M := M2) (o := (pcl GG lay d 66 [.ref 28, .int l7, .int (l3 + (jn 1))] M2)) (hf := rfl) rfl rfl).trans ?_
      refine kV_in (fun M3 => ?_)
      exact evn_end 1 rfl
/-- TermStrategies$Matching.boundTo(I)I -/
noncomputable abbrev E_193 (d : Nat) : PQ → PO := evn (rnn k_193 lay none (pcl GG lay d) 1)
theorem q_193 (d : Nat) (l1 : Int32) (M : PM) : pcl GG lay (d + 1) 193 [.ref 26, .int l1] M = (kI (pcl GG lay d 62 [.int l1] M) fun r1 M1 => (if r1 = jn 0 then (rI (jz 1) M1) else (kI (pcl GG lay d 65 [.ref 27, .int (l1 - (jn 117))] M1) fun r2 M2 => (rI r2 M2)))) := by
  refine (pcl_un (mt := t_193) (by decide) rfl (Nat.le_of_ble_eq_true rfl)).trans ?_
  show E_193 d (0, [some (.ref 26), some (.int l1)], [], M) = _
  refine (evn_adv 1 (q' := (1, [some (.ref 26), some (.int l1)], [.int l1], M)) rfl).trans ?_
  refine (e_kI (q := (1, [some (.ref 26), some (.int l1)], [.int l1])) (q2 := (4, [some (.ref 26), some (.int l1)], [])) (M := M) (o := (pcl GG lay d 62 [.int l1] M)) (hf := rfl) rfl rfl).trans ?_
  refine kI_in (fun r1 M1 => ?_)
  refine (e_if_eq (hf := rfl)).trans ?_
  refine ite_in ?_ ?_
  · refine (evn_adv 1 (q' := (22, [some (.ref 26), some (.int l1)], [.int (jz 1)], M1)) rfl).trans ?_
    exact evn_end 1 rfl
  · refine (evn_adv 5 (q' := (15, [some (.ref 26), some (.int l1)], [.int (l1 - (jn 117)), .ref 27], M1)) rfl).trans ?_
    refine (e_kI (q := (15, [some (.ref 26), some (.int l1)], [.int (l1 - (jn 117)), .ref 27])) (q2 := (18, [some (.ref 26), some (.int l1)], [])) (M := M1) (o := (pcl GG lay d 65 [.ref 27, .int (l1 - (jn 117))] M1)) (hf := rfl) rfl rfl).trans ?_
    refine kI_in (fun r2 M2 => ?_)
    refine (evn_adv 1 (q' := (22, [some (.ref 26), some (.int l1)], [.int r2], M2)) rfl).trans ?_
    exact evn_end 1 rfl
/-- TermStrategies$Matching.sizeOf(I)I -/
noncomputable abbrev E_194 (d : Nat) : PQ → PO := evn (rnn k_194 lay none (pcl GG lay d) 1)
theorem q_194 (d : Nat) (l1 : Int32) (M : PM) : pcl GG lay (d + 1) 194 [.ref 26, .int l1] M = (kI (pcl GG lay d 233 [.ref 6, .int l1] M) fun r1 M1 => E_194 d (14, [some (.ref 26), some (.int l1), some (.int r1), some (.int (jn 0)), some (.int l1), none], [], M1)) := by
  refine (pcl_un (mt := t_194) (by decide) rfl (Nat.le_of_ble_eq_true rfl)).trans ?_
  show E_194 d (0, [some (.ref 26), some (.int l1), none, none, none, none], [], M) = _
  refine (evn_adv 3 (q' := (5, [some (.ref 26), some (.int l1), none, none, none, none], [.int l1, .ref 6], M)) rfl).trans ?_
  refine (e_kI (q := (5, [some (.ref 26), some (.int l1), none, none, none, none], [.int l1, .ref 6])) (q2 := (8, [some (.ref 26), some (.int l1), none, none, none, none], [])) (M := M) (o := (pcl GG lay d 233 [.ref 6, .int l1] M)) (hf := rfl) rfl rfl).trans ?_
  refine kI_in (fun r1 M1 => ?_)
  refine (evn_adv 5 (q' := (14, [some (.ref 26), some (.int l1), some (.int r1), some (.int (jn 0)), some (.int l1), none], [], M1)) rfl).trans ?_
  rfl
theorem h_194_14 (d : Nat) (u1 : Option Value) (l2 : Int32) (l3 : Int32) (l4 : Int32) (u5 : Option Value) (M : PM) : E_194 d (14, [some (.ref 26), u1, some (.int l2), some (.int l3), some (.int l4), u5], [], M) = (if l4 < l2 then (kI (pcl GG lay d 231 [.ref 6, .int l4] M) fun r1 M1 => (kI (pcl GG lay d 193 [.ref 26, .int r1] M1) fun r2 M2 => (if r2 = (jz 1) then E_194 d (14, [some (.ref 26), u1, some (.int l2), some (.int (l3 + (jn 1))), some (.int (l4 + (jn 1))), some (.int r2)], [], M2) else (kI (pcl GG lay d 234 [.ref 6, .int r2] M2) fun r3 M3 => E_194 d (14, [some (.ref 26), u1, some (.int l2), some (.int (l3 + r3)), some (.int (l4 + (jn 1))), some (.int r2)], [], M3))))) else (rI l3 M)) := by
  refine (evn_adv 2 (q' := (17, [some (.ref 26), u1, some (.int l2), some (.int l3), some (.int l4), u5], [.int l2, .int l4], M)) rfl).trans ?_
  refine (e_ic_ge (hf := rfl)).trans ?_
  refine ite_in ?_ ?_
  · refine (evn_adv 4 (q' := (27, [some (.ref 26), u1, some (.int l2), some (.int l3), some (.int l4), u5], [.int l4, .ref 6, .ref 26], M)) rfl).trans ?_
    refine (e_kI (q := (27, [some (.ref 26), u1, some (.int l2), some (.int l3), some (.int l4), u5], [.int l4, .ref 6, .ref 26])) (q2 := (30, [some (.ref 26), u1, some (.int l2), some (.int l3), some (.int l4), u5], [.ref 26])) (M := M) (o := (pcl GG lay d 231 [.ref 6, .int l4] M)) (hf := rfl) rfl rfl).trans ?_
    refine kI_in (fun r1 M1 => ?_)
    refine (e_kI (q := (30, [some (.ref 26), u1, some (.int l2), some (.int l3), some (.int l4), u5], [.int r1, .ref 26])) (q2 := (33, [some (.ref 26), u1, some (.int l2), some (.int l3), some (.int l4), u5], [])) (M := M1) (o := (pcl GG lay d 193 [.ref 26, .int r1] M1)) (hf := rfl) rfl rfl).trans ?_
    refine kI_in (fun r2 M2 => ?_)
    refine (evn_adv 4 (q' := (39, [some (.ref 26), u1, some (.int l2), some (.int l3), some (.int l4), some (.int r2)], [.int (jz 1), .int r2, .int l3], M2)) rfl).trans ?_
    refine (e_ic_ne (hf := rfl)).trans ?_
    refine ite_in ?_ ?_
    · refine (evn_adv 6 (q' := (14, [some (.ref 26), u1, some (.int l2), some (.int (l3 + (jn 1))), some (.int (l4 + (jn 1))), some (.int r2)], [], M2)) rfl).trans ?_
      rfl
    · refine (evn_adv 3 (q' := (52, [some (.ref 26), u1, some (.int l2), some (.int l3), some (.int l4), some (.int r2)], [.int r2, .ref 6, .int l3], M2)) rfl).trans ?_
      refine (e_kI (q := (52, [some (.ref 26), u1, some (.int l2), some (.int l3), some (.int l4), some (.int r2)], [.int r2, .ref 6, .int l3])) (q2 := (55, [some (.ref 26), u1, some (.int l2), some (.int l3), some (.int l4), some (.int r2)], [.int l3])) (M := M2) (o := (pcl GG lay d 234 [.ref 6, .int r2] M2)) (hf := rfl) rfl rfl).trans ?_
      refine kI_in (fun r3 M3 => ?_)
      refine (evn_adv 4 (q' := (14, [some (.ref 26), u1, some (.int l2), some (.int (l3 + r3)), some (.int (l4 + (jn 1))), some (.int r2)], [], M3)) rfl).trans ?_
      rfl
  · refine (evn_adv 1 (q' := (64, [some (.ref 26), u1, some (.int l2), some (.int l3), some (.int l4), u5], [.int l3], M)) rfl).trans ?_
    exact evn_end 1 rfl
/-- TermStrategies$Matching.append(II)I -/
noncomputable abbrev E_195 (d : Nat) : PQ → PO := evn (rnn k_195 lay none (pcl GG lay d) 1)
theorem q_195 (d : Nat) (l1 : Int32) (l2 : Int32) (M : PM) : pcl GG lay (d + 1) 195 [.ref 26, .int l1, .int l2] M = (kI (pcl GG lay d 233 [.ref 6, .int l1] M) fun r1 M1 => E_195 d (15, [some (.ref 26), some (.int l1), some (.int l2), some (.int r1), some (.int l2), some (.int l1), none], [], M1)) := by
  refine (pcl_un (mt := t_195) (by decide) rfl (Nat.le_of_ble_eq_true rfl)).trans ?_
  show E_195 d (0, [some (.ref 26), some (.int l1), some (.int l2), none, none, none, none], [], M) = _
  refine (evn_adv 3 (q' := (5, [some (.ref 26), some (.int l1), some (.int l2), none, none, none, none], [.int l1, .ref 6], M)) rfl).trans ?_
  refine (e_kI (q := (5, [some (.ref 26), some (.int l1), some (.int l2), none, none, none, none], [.int l1, .ref 6])) (q2 := (8, [some (.ref 26), some (.int l1), some (.int l2), none, none, none, none], [])) (M := M) (o := (pcl GG lay d 233 [.ref 6, .int l1] M)) (hf := rfl) rfl rfl).trans ?_
  refine kI_in (fun r1 M1 => ?_)
  refine (evn_adv 5 (q' := (15, [some (.ref 26), some (.int l1), some (.int l2), some (.int r1), some (.int l2), some (.int l1), none], [], M1)) rfl).trans ?_
  rfl
theorem h_195_15 (d : Nat) (u1 : Option Value) (u2 : Option Value) (l3 : Int32) (l4 : Int32) (l5 : Int32) (u6 : Option Value) (M : PM) : E_195 d (15, [some (.ref 26), u1, u2, some (.int l3), some (.int l4), some (.int l5), u6], [], M) = (if l5 < l3 then (kI (pcl GG lay d 231 [.ref 6, .int l5] M) fun r1 M1 => (kI (pcl GG lay d 193 [.ref 26, .int r1] M1) fun r2 M2 => (if r2 = (jz 1) then (kI (pcl GG lay d 231 [.ref 6, .int l5] M2) fun r3 M3 => (kV (pcl GG lay d 232 [.ref 6, .int l4, .int r3] M3) fun M4 => E_195 d (15, [some (.ref 26), u1, u2, some (.int l3), some (.int (l4 + (jn 1))), some (.int (l5 + (jn 1))), some (.int r2)], [], M4))) else (kI (pcl GG lay d 237 [.ref 6, .int r2, .int l4] M2) fun r3 M3 => E_195 d (15, [some (.ref 26), u1, u2, some (.int l3), some (.int r3), some (.int (l5 + (jn 1))), some (.int r2)], [], M3))))) else (rI l4 M)) := by
  refine (evn_adv 2 (q' := (18, [some (.ref 26), u1, u2, some (.int l3), some (.int l4), some (.int l5), u6], [.int l3, .int l5], M)) rfl).trans ?_
  refine (e_ic_ge (hf := rfl)).trans ?_
  refine ite_in ?_ ?_
  · refine (evn_adv 4 (q' := (28, [some (.ref 26), u1, u2, some (.int l3), some (.int l4), some (.int l5), u6], [.int l5, .ref 6, .ref 26], M)) rfl).trans ?_
    refine (e_kI (q := (28, [some (.ref 26), u1, u2, some (.int l3), some (.int l4), some (.int l5), u6], [.int l5, .ref 6, .ref 26])) (q2 := (31, [some (.ref 26), u1, u2, some (.int l3), some (.int l4), some (.int l5), u6], [.ref 26])) (M := M) (o := (pcl GG lay d 231 [.ref 6, .int l5] M)) (hf := rfl) rfl rfl).trans ?_
    refine kI_in (fun r1 M1 => ?_)
    refine (e_kI (q := (31, [some (.ref 26), u1, u2, some (.int l3), some (.int l4), some (.int l5), u6], [.int r1, .ref 26])) (q2 := (34, [some (.ref 26), u1, u2, some (.int l3), some (.int l4), some (.int l5), u6], [])) (M := M1) (o := (pcl GG lay d 193 [.ref 26, .int r1] M1)) (hf := rfl) rfl rfl).trans ?_
    refine kI_in (fun r2 M2 => ?_)
    refine (evn_adv 3 (q' := (39, [some (.ref 26), u1, u2, some (.int l3), some (.int l4), some (.int l5), some (.int r2)], [.int (jz 1), .int r2], M2)) rfl).trans ?_
    refine (e_ic_ne (hf := rfl)).trans ?_
    refine ite_in ?_ ?_
    · refine (evn_adv 6 (q' := (54, [some (.ref 26), u1, u2, some (.int l3), some (.int l4), some (.int l5), some (.int r2)], [.int l5, .ref 6, .int l4, .ref 6], M2)) rfl).trans ?_
      refine (e_kI (q := (54, [some (.ref 26), u1, u2, some (.int l3), some (.int l4), some (.int l5), some (.int r2)], [.int l5, .ref 6, .int l4, .ref 6])) (q2 := (57, [some (.ref 26), u1, u2, some (.int l3), some (.int l4), some (.int l5), some (.int r2)], [.int l4, .ref 6])) (M := M2) (o := (pcl GG lay d 231 [.ref 6, .int l5] M2)) (hf := rfl) rfl rfl).trans ?_
      refine kI_in (fun r3 M3 => ?_)
      refine (e_kV (q := (57, [some (.ref 26), u1, u2, some (.int l3), some (.int l4), some (.int l5), some (.int r2)], [.int r3, .int l4, .ref 6])) (q2 := (60, [some (.ref 26), u1, u2, some (.int l3), some (.int l4), some (.int l5), some (.int r2)], [])) (M := M3) (o := (pcl GG lay d 232 [.ref 6, .int l4, .int r3] M3)) (hf := rfl) rfl rfl).trans ?_
      refine kV_in (fun M4 => ?_)
      refine (evn_adv 4 (q' := (15, [some (.ref 26), u1, u2, some (.int l3), some (.int (l4 + (jn 1))), some (.int (l5 + (jn 1))), some (.int r2)], [], M4)) rfl).trans ?_
      rfl
    · refine (evn_adv 4 (q' := (74, [some (.ref 26), u1, u2, some (.int l3), some (.int l4), some (.int l5), some (.int r2)], [.int l4, .int r2, .ref 6], M2)) rfl).trans ?_
      refine (e_kI (q := (74, [some (.ref 26), u1, u2, some (.int l3), some (.int l4), some (.int l5), some (.int r2)], [.int l4, .int r2, .ref 6])) (q2 := (77, [some (.ref 26), u1, u2, some (.int l3), some (.int l4), some (.int l5), some (.int r2)], [])) (M := M2) (o := (pcl GG lay d 237 [.ref 6, .int r2, .int l4] M2)) (hf := rfl) rfl rfl).trans ?_
      refine kI_in (fun r3 M3 => ?_)
      refine (evn_adv 3 (q' := (15, [some (.ref 26), u1, u2, some (.int l3), some (.int r3), some (.int (l5 + (jn 1))), some (.int r2)], [], M3)) rfl).trans ?_
      rfl
  · refine (evn_adv 1 (q' := (87, [some (.ref 26), u1, u2, some (.int l3), some (.int l4), some (.int l5), u6], [.int l4], M)) rfl).trans ?_
    exact evn_end 1 rfl
/-- TermStrategies$Reader.readInto(II)I -/
noncomputable abbrev E_196 (d : Nat) : PQ → PO := evn (rnn k_196 lay none (pcl GG lay d) 1)
theorem q_196 (d : Nat) (l1 : Int32) (l2 : Int32) (M : PM) : pcl GG lay (d + 1) 196 [.ref 19, .int l1, .int l2] M = (kI (pcl GG lay d 222 [.ref 15, .int l1] M) fun r1 M1 => (wr (sI M1 19 (va_up (M1.1 19) 3 (jn 0))) fun M2 => (wr (sI M2 19 (va_up (M2.1 19) 4 (jn 0))) fun M3 => E_196 d (25, [some (.ref 19), some (.int l1), some (.int l2), some (.int r1), some (.int (jn 0)), some (.int (jn 0))], [], M3)))) := by
  refine (pcl_un (mt := t_196) (by decide) rfl (Nat.le_of_ble_eq_true rfl)).trans ?_
  show E_196 d (0, [some (.ref 19), some (.int l1), some (.int l2), none, none, none], [], M) = _
  refine (evn_adv 3 (q' := (5, [some (.ref 19), some (.int l1), some (.int l2), none, none, none], [.int l1, .ref 15], M)) rfl).trans ?_
  refine (e_kI (q := (5, [some (.ref 19), some (.int l1), some (.int l2), none, none, none], [.int l1, .ref 15])) (q2 := (8, [some (.ref 19), some (.int l1), some (.int l2), none, none, none], [])) (M := M) (o := (pcl GG lay d 222 [.ref 15, .int l1] M)) (hf := rfl) rfl rfl).trans ?_
  refine kI_in (fun r1 M1 => ?_)
  refine (evn_adv 5 (q' := (14, [some (.ref 19), some (.int l1), some (.int l2), some (.int r1), some (.int (jn 0)), none], [.int (jn 0), .ref 19], M1)) rfl).trans ?_
  refine (evn_adv 1 (q' := (17, [some (.ref 19), some (.int l1), some (.int l2), some (.int r1), some (.int (jn 0)), none], [], (sI M1 19 (va_up (M1.1 19) 3 (jn 0))))) rfl).trans ?_
  refine wr_in (f := fun M2 => E_196 d (17, [some (.ref 19), some (.int l1), some (.int l2), some (.int r1), some (.int (jn 0)), none], [], M2)) (fun M2 => ?_)
  refine (evn_adv 2 (q' := (19, [some (.ref 19), some (.int l1), some (.int l2), some (.int r1), some (.int (jn 0)), none], [.int (jn 0), .ref 19], M2)) rfl).trans ?_
  refine (evn_adv 1 (q' := (22, [some (.ref 19), some (.int l1), some (.int l2), some (.int r1), some (.int (jn 0)), none], [], (sI M2 19 (va_up (M2.1 19) 4 (jn 0))))) rfl).trans ?_
  refine wr_in (f := fun M3 => E_196 d (22, [some (.ref 19), some (.int l1), some (.int l2), some (.int r1), some (.int (jn 0)), none], [], M3)) (fun M3 => ?_)
  refine (evn_adv 2 (q' := (25, [some (.ref 19), some (.int l1), some (.int l2), some (.int r1), some (.int (jn 0)), some (.int (jn 0))], [], M3)) rfl).trans ?_
  rfl
theorem h_196_25 (d : Nat) (l1 : Int32) (l2 : Int32) (l3 : Int32) (l4 : Int32) (l5 : Int32) (M : PM) : E_196 d (25, [some (.ref 19), some (.int l1), some (.int l2), some (.int l3), some (.int l4), some (.int l5)], [], M) = (if l5 < l3 then (kI (pcl GG lay d 226 [.ref 15, .int l1, .int l5] M) fun r1 M1 => (kI (pcl GG lay d 197 [.ref 19, .int l4, .int r1, .int l2] M1) fun r2 M2 => (if r2 = (jz 1) then (rI l5 M2) else E_196 d (25, [some (.ref 19), some (.int l1), some (.int l2), some (.int l3), some (.int r2), some (.int (l5 + (jn 1)))], [], M2)))) else (if l4 = (jn 2) then (if (M.1 19 3) = jn 0 then (rI (jz 1) M) else (rI l3 M)) else (rI l3 M))) := by
  refine (evn_adv 2 (q' := (28, [some (.ref 19), some (.int l1), some (.int l2), some (.int l3), some (.int l4), some (.int l5)], [.int l3, .int l5], M)) rfl).trans ?_
  refine (e_ic_ge (hf := rfl)).trans ?_
  refine ite_in ?_ ?_
  · refine (evn_adv 6 (q' := (41, [some (.ref 19), some (.int l1), some (.int l2), some (.int l3), some (.int l4), some (.int l5)], [.int l5, .int l1, .ref 15, .int l4, .ref 19], M)) rfl).trans ?_
    refine (e_kI (q := (41, [some (.ref 19), some (.int l1), some (.int l2), some (.int l3), some (.int l4), some (.int l5)], [.int l5, .int l1, .ref 15, .int l4, .ref 19])) (q2 := (44, [some (.ref 19), some (.int l1), some (.int l2), some (.int l3), some (.int l4), some (.int l5)], [.int l4, .ref 19])) (M := M) (o := (pcl GG lay d 226 [.ref 15, .int l1, .int l5] M)) (hf := rfl) rfl rfl).trans ?_
    refine kI_in (fun r1 M1 => ?_)
    refine (evn_adv 1 (q' := (45, [some (.ref 19), some (.int l1), some (.int l2), some (.int l3), some (.int l4), some (.int l5)], [.int l2, .int r1, .int l4, .ref 19], M1)) rfl).trans ?_
    refine (e_kI (q := (45, [some (.ref 19), some (.int l1), some (.int l2), some (.int l3), some (.int l4), some (.int l5)], [.int l2, .int r1, .int l4, .ref 19])) (q2 := (48, [some (.ref 19), some (.int l1), some (.int l2), some (.int l3), some (.int l4), some (.int l5)], [])) (M := M1) (o := (pcl GG lay d 197 [.ref 19, .int l4, .int r1, .int l2] M1)) (hf := rfl) rfl rfl).trans ?_
    refine kI_in (fun r2 M2 => ?_)
    refine (evn_adv 3 (q' := (53, [some (.ref 19), some (.int l1), some (.int l2), some (.int l3), some (.int r2), some (.int l5)], [.int (jz 1), .int r2], M2)) rfl).trans ?_
    refine (e_ic_ne (hf := rfl)).trans ?_
    refine ite_in ?_ ?_
    · refine (evn_adv 1 (q' := (58, [some (.ref 19), some (.int l1), some (.int l2), some (.int l3), some (.int r2), some (.int l5)], [.int l5], M2)) rfl).trans ?_
      exact evn_end 1 rfl
    · refine (evn_adv 2 (q' := (25, [some (.ref 19), some (.int l1), some (.int l2), some (.int l3), some (.int r2), some (.int (l5 + (jn 1)))], [], M2)) rfl).trans ?_
      rfl
  · refine (evn_adv 2 (q' := (68, [some (.ref 19), some (.int l1), some (.int l2), some (.int l3), some (.int l4), some (.int l5)], [.int (jn 2), .int l4], M)) rfl).trans ?_
    refine (e_ic_ne (hf := rfl)).trans ?_
    refine ite_in ?_ ?_
    · refine (evn_adv 2 (q' := (75, [some (.ref 19), some (.int l1), some (.int l2), some (.int l3), some (.int l4), some (.int l5)], [.int (M.1 19 3)], M)) rfl).trans ?_
      refine (e_if_ne (hf := rfl)).trans ?_
      refine ite_in ?_ ?_
      · refine (evn_adv 2 (q' := (83, [some (.ref 19), some (.int l1), some (.int l2), some (.int l3), some (.int l4), some (.int l5)], [.int (jz 1)], M)) rfl).trans ?_
        exact evn_end 1 rfl
      · refine (evn_adv 1 (q' := (83, [some (.ref 19), some (.int l1), some (.int l2), some (.int l3), some (.int l4), some (.int l5)], [.int l3], M)) rfl).trans ?_
        exact evn_end 1 rfl
    · refine (evn_adv 1 (q' := (83, [some (.ref 19), some (.int l1), some (.int l2), some (.int l3), some (.int l4), some (.int l5)], [.int l3], M)) rfl).trans ?_
      exact evn_end 1 rfl
/-- TermStrategies$Reader.next(III)I -/
noncomputable abbrev E_197 (d : Nat) : PQ → PO := evn (rnn k_197 lay none (pcl GG lay d) 1)
theorem q_197 (d : Nat) (l1 : Int32) (l2 : Int32) (l3 : Int32) (M : PM) : pcl GG lay (d + 1) 197 [.ref 19, .int l1, .int l2, .int l3] M = (if l1 = jn 0 then (kI (pcl GG lay d 198 [.ref 19, .int l2, .int l3] M) fun r1 M1 => (rI r1 M1)) else (if l1 = (jn 1) then (if l2 = (jn 40) then (rI (jn 0) M) else (rI (jz 1) M)) else (if (M.1 19 3) = jn 0 then (rI (jz 1) M) else (kI (pcl GG lay d 65 [.ref 20, .int ((M.1 19 3) - (jn 1))] M) fun r1 M1 => (if r1 = (jn 2) then (kV (pcl GG lay d 66 [.ref 20, .int ((M1.1 19 3) - (jn 1)), .int (jn 1)] M1) fun M2 => (if l2 = (jn 44) then (rI (jn 0) M2) else (rI (jz 1) M2))) else (wr (sI M1 19 (va_up (M1.1 19) 3 ((M1.1 19 3) - (jn 1)))) fun M2 => (if l2 = (jn 41) then (rI (jn 2) M2) else (rI (jz 1) M2)))))))) := by
  refine (pcl_un (mt := t_197) (by decide) rfl (Nat.le_of_ble_eq_true rfl)).trans ?_
  show E_197 d (0, [some (.ref 19), some (.int l1), some (.int l2), some (.int l3)], [], M) = _
  refine (evn_adv 1 (q' := (1, [some (.ref 19), some (.int l1), some (.int l2), some (.int l3)], [.int l1], M)) rfl).trans ?_
  refine (e_if_ne (hf := rfl)).trans ?_
  refine ite_in ?_ ?_
  · refine (evn_adv 3 (q' := (7, [some (.ref 19), some (.int l1), some (.int l2), some (.int l3)], [.int l3, .int l2, .ref 19], M)) rfl).trans ?_
    refine (e_kI (q := (7, [some (.ref 19), some (.int l1), some (.int l2), some (.int l3)], [.int l3, .int l2, .ref 19])) (q2 := (10, [some (.ref 19), some (.int l1), some (.int l2), some (.int l3)], [])) (M := M) (o := (pcl GG lay d 198 [.ref 19, .int l2, .int l3] M)) (hf := rfl) rfl rfl).trans ?_
    refine kI_in (fun r1 M1 => ?_)
    exact evn_end 1 rfl
  · refine (evn_adv 2 (q' := (13, [some (.ref 19), some (.int l1), some (.int l2), some (.int l3)], [.int (jn 1), .int l1], M)) rfl).trans ?_
    refine (e_ic_ne (hf := rfl)).trans ?_
    refine ite_in ?_ ?_
    · refine (evn_adv 2 (q' := (19, [some (.ref 19), some (.int l1), some (.int l2), some (.int l3)], [.int (jn 40), .int l2], M)) rfl).trans ?_
      refine (e_ic_ne (hf := rfl)).trans ?_
      refine ite_in ?_ ?_
      · refine (evn_adv 2 (q' := (27, [some (.ref 19), some (.int l1), some (.int l2), some (.int l3)], [.int (jn 0)], M)) rfl).trans ?_
        exact evn_end 1 rfl
      · refine (evn_adv 1 (q' := (27, [some (.ref 19), some (.int l1), some (.int l2), some (.int l3)], [.int (jz 1)], M)) rfl).trans ?_
        exact evn_end 1 rfl
    · refine (evn_adv 2 (q' := (32, [some (.ref 19), some (.int l1), some (.int l2), some (.int l3)], [.int (M.1 19 3)], M)) rfl).trans ?_
      refine (e_if_ne (hf := rfl)).trans ?_
      refine ite_in ?_ ?_
      · refine (evn_adv 1 (q' := (36, [some (.ref 19), some (.int l1), some (.int l2), some (.int l3)], [.int (jz 1)], M)) rfl).trans ?_
        exact evn_end 1 rfl
      · refine (evn_adv 6 (q' := (47, [some (.ref 19), some (.int l1), some (.int l2), some (.int l3)], [.int ((M.1 19 3) - (jn 1)), .ref 20], M)) rfl).trans ?_
        refine (e_kI (q := (47, [some (.ref 19), some (.int l1), some (.int l2), some (.int l3)], [.int ((M.1 19 3) - (jn 1)), .ref 20])) (q2 := (50, [some (.ref 19), some (.int l1), some (.int l2), some (.int l3)], [])) (M := M) (o := (pcl GG lay d 65 [.ref 20, .int ((M.1 19 3) - (jn 1))] M)) (hf := rfl) rfl rfl).trans ?_
        refine kI_in (fun r1 M1 => ?_)
        refine (evn_adv 1 (q' := (51, [some (.ref 19), some (.int l1), some (.int l2), some (.int l3)], [.int (jn 2), .int r1], M1)) rfl).trans ?_
        refine (e_ic_ne (hf := rfl)).trans ?_
        refine ite_in ?_ ?_
        · refine (evn_adv 7 (q' := (65, [some (.ref 19), some (.int l1), some (.int l2), some (.int l3)], [.int (jn 1), .int ((M1.1 19 3) - (jn 1)), .ref 20], M1)) rfl).trans ?_
          refine (e_kV (q := (65, [some (.ref 19), some (.int l1), some (.int l2), some (.int l3)], [.int (jn 1), .int ((M1.1 19 3) - (jn 1)), .ref 20])) (q2 := (68, [some (.ref 19), some (.int l1), some (.int l2), some (.int l3)], [])) (M := M1) (o := (pcl GG lay d 66 [.ref 20, .int ((M1.1 19 3) - (jn 1)), .int (jn 1)] M1)) (hf := rfl) rfl rfl).trans ?_
          refine kV_in (fun M2 => ?_)
          refine (evn_adv 2 (q' := (71, [some (.ref 19), some (.int l1), some (.int l2), some (.int l3)], [.int (jn 44), .int l2], M2)) rfl).trans ?_
          refine (e_ic_ne (hf := rfl)).trans ?_
          refine ite_in ?_ ?_
          · refine (evn_adv 2 (q' := (79, [some (.ref 19), some (.int l1), some (.int l2), some (.int l3)], [.int (jn 0)], M2)) rfl).trans ?_
            exact evn_end 1 rfl
          · refine (evn_adv 1 (q' := (79, [some (.ref 19), some (.int l1), some (.int l2), some (.int l3)], [.int (jz 1)], M2)) rfl).trans ?_
            exact evn_end 1 rfl
        · refine (evn_adv 5 (q' := (87, [some (.ref 19), some (.int l1), some (.int l2), some (.int l3)], [.int ((M1.1 19 3) - (jn 1)), .ref 19], M1)) rfl).trans ?_
          refine (evn_adv 1 (q' := (90, [some (.ref 19), some (.int l1), some (.int l2), some (.int l3)], [], (sI M1 19 (va_up (M1.1 19) 3 ((M1.1 19 3) - (jn 1)))))) rfl).trans ?_
          refine wr_in (f := fun M2 => E_197 d (90, [some (.ref 19), some (.int l1), some (.int l2), some (.int l3)], [], M2)) (fun M2 => ?_)
          refine (evn_adv 2 (q' := (93, [some (.ref 19), some (.int l1), some (.int l2), some (.int l3)], [.int (jn 41), .int l2], M2)) rfl).trans ?_
          refine (e_ic_ne (hf := rfl)).trans ?_
          refine ite_in ?_ ?_
          · refine (evn_adv 2 (q' := (101, [some (.ref 19), some (.int l1), some (.int l2), some (.int l3)], [.int (jn 2)], M2)) rfl).trans ?_
            exact evn_end 1 rfl
          · refine (evn_adv 1 (q' := (101, [some (.ref 19), some (.int l1), some (.int l2), some (.int l3)], [.int (jz 1)], M2)) rfl).trans ?_
            exact evn_end 1 rfl
/-- TermStrategies$Reader.nextToSign(II)I -/
noncomputable abbrev E_198 (d : Nat) : PQ → PO := evn (rnn k_198 lay none (pcl GG lay d) 1)
theorem q_198 (d : Nat) (l1 : Int32) (l2 : Int32) (M : PM) : pcl GG lay (d + 1) 198 [.ref 19, .int l1, .int l2] M = (kI (pcl GG lay d 63 [.int l1] M) fun r1 M1 => (if r1 = (jz 1) then (rI (jz 1) M1) else (if (M1.1 19 4) < (jn 40) then (kV (pcl GG lay d 232 [.ref 6, .int (l2 + (M1.1 19 4)), .int l1] M1) fun M2 => (wr (sI M2 19 (va_up (M2.1 19) 4 ((M2.1 19 4) + (jn 1)))) fun M3 => (if r1 = jn 0 then (rI (jn 2) M3) else (kV (pcl GG lay d 66 [.ref 20, .int (M3.1 19 3), .int r1] M3) fun M4 => (wr (sI M4 19 (va_up (M4.1 19) 3 ((M4.1 19 3) + (jn 1)))) fun M5 => (rI (jn 1) M5)))))) else (rI (jz 1) M1)))) := by
  refine (pcl_un (mt := t_198) (by decide) rfl (Nat.le_of_ble_eq_true rfl)).trans ?_
  show E_198 d (0, [some (.ref 19), some (.int l1), some (.int l2), none], [], M) = _
  refine (evn_adv 1 (q' := (1, [some (.ref 19), some (.int l1), some (.int l2), none], [.int l1], M)) rfl).trans ?_
  refine (e_kI (q := (1, [some (.ref 19), some (.int l1), some (.int l2), none], [.int l1])) (q2 := (4, [some (.ref 19), some (.int l1), some (.int l2), none], [])) (M := M) (o := (pcl GG lay d 63 [.int l1] M)) (hf := rfl) rfl rfl).trans ?_
  refine kI_in (fun r1 M1 => ?_)
  refine (evn_adv 3 (q' := (7, [some (.ref 19), some (.int l1), some (.int l2), some (.int r1)], [.int (jz 1), .int r1], M1)) rfl).trans ?_
  refine (e_ic_eq (hf := rfl)).trans ?_
  refine ite_in ?_ ?_
  · refine (evn_adv 1 (q' := (20, [some (.ref 19), some (.int l1), some (.int l2), some (.int r1)], [.int (jz 1)], M1)) rfl).trans ?_
    exact evn_end 1 rfl
  · refine (evn_adv 3 (q' := (16, [some (.ref 19), some (.int l1), some (.int l2), some (.int r1)], [.int (jn 40), .int (M1.1 19 4)], M1)) rfl).trans ?_
    refine (e_ic_lt (hf := rfl)).trans ?_
    refine ite_in ?_ ?_
    · refine (evn_adv 7 (q' := (32, [some (.ref 19), some (.int l1), some (.int l2), some (.int r1)], [.int l1, .int (l2 + (M1.1 19 4)), .ref 6], M1)) rfl).trans ?_
      refine (e_kV (q := (32, [some (.ref 19), some (.int l1), some (.int l2), some (.int r1)], [.int l1, .int (l2 + (M1.1 19 4)), .ref 6])) (q2 := (35, [some (.ref 19), some (.int l1), some (.int l2), some (.int r1)], [])) (M := M1) (o := (pcl GG lay d 232 [.ref 6, .int (l2 + (M1.1 19 4)), .int l1] M1)) (hf := rfl) rfl rfl).trans ?_
      refine kV_in (fun M2 => ?_)
      refine (evn_adv 5 (q' := (42, [some (.ref 19), some (.int l1), some (.int l2), some (.int r1)], [.int ((M2.1 19 4) + (jn 1)), .ref 19], M2)) rfl).trans ?_
      refine (evn_adv 1 (q' := (45, [some (.ref 19), some (.int l1), some (.int l2), some (.int r1)], [], (sI M2 19 (va_up (M2.1 19) 4 ((M2.1 19 4) + (jn 1)))))) rfl).trans ?_
      refine wr_in (f := fun M3 => E_198 d (45, [some (.ref 19), some (.int l1), some (.int l2), some (.int r1)], [], M3)) (fun M3 => ?_)
      refine (evn_adv 1 (q' := (46, [some (.ref 19), some (.int l1), some (.int l2), some (.int r1)], [.int r1], M3)) rfl).trans ?_
      refine (e_if_ne (hf := rfl)).trans ?_
      refine ite_in ?_ ?_
      · refine (evn_adv 1 (q' := (50, [some (.ref 19), some (.int l1), some (.int l2), some (.int r1)], [.int (jn 2)], M3)) rfl).trans ?_
        exact evn_end 1 rfl
      · refine (evn_adv 5 (q' := (60, [some (.ref 19), some (.int l1), some (.int l2), some (.int r1)], [.int r1, .int (M3.1 19 3), .ref 20], M3)) rfl).trans ?_
        refine (e_kV (q := (60, [some (.ref 19), some (.int l1), some (.int l2), some (.int r1)], [.int r1, .int (M3.1 19 3), .ref 20])) (q2 := (63, [some (.ref 19), some (.int l1), some (.int l2), some (.int r1)], [])) (M := M3) (o := (pcl GG lay d 66 [.ref 20, .int (M3.1 19 3), .int r1] M3)) (hf := rfl) rfl rfl).trans ?_
        refine kV_in (fun M4 => ?_)
        refine (evn_adv 5 (q' := (70, [some (.ref 19), some (.int l1), some (.int l2), some (.int r1)], [.int ((M4.1 19 3) + (jn 1)), .ref 19], M4)) rfl).trans ?_
        refine (evn_adv 1 (q' := (73, [some (.ref 19), some (.int l1), some (.int l2), some (.int r1)], [], (sI M4 19 (va_up (M4.1 19) 3 ((M4.1 19 3) + (jn 1)))))) rfl).trans ?_
        refine wr_in (f := fun M5 => E_198 d (73, [some (.ref 19), some (.int l1), some (.int l2), some (.int r1)], [], M5)) (fun M5 => ?_)
        refine (evn_adv 1 (q' := (74, [some (.ref 19), some (.int l1), some (.int l2), some (.int r1)], [.int (jn 1)], M5)) rfl).trans ?_
        exact evn_end 1 rfl
    · refine (evn_adv 1 (q' := (20, [some (.ref 19), some (.int l1), some (.int l2), some (.int r1)], [.int (jz 1)], M1)) rfl).trans ?_
      exact evn_end 1 rfl
/-- TermStrategies$Runner.forgetCounts()V -/
noncomputable abbrev E_199 (d : Nat) : PQ → PO := evn (rnn k_199 lay none (pcl GG lay d) 0)
theorem q_199 (d : Nat)  (M : PM) : pcl GG lay (d + 1) 199 [.ref 29] M = (wr (sI M 29 (va_up (M.1 29) 12 (jn 0))) fun M1 => (wr (sI M1 29 (va_up (M1.1 29) 13 (jn 0))) fun M2 => (rV M2))) := by
  refine (pcl_un (mt := t_199) (by decide) rfl (Nat.le_of_ble_eq_true rfl)).trans ?_
  show E_199 d (0, [some (.ref 29)], [], M) = _
  refine (evn_adv 2 (q' := (2, [some (.ref 29)], [.int (jn 0), .ref 29], M)) rfl).trans ?_
  refine (evn_adv 1 (q' := (5, [some (.ref 29)], [], (sI M 29 (va_up (M.1 29) 12 (jn 0))))) rfl).trans ?_
  refine wr_in (f := fun M1 => E_199 d (5, [some (.ref 29)], [], M1)) (fun M1 => ?_)
  refine (evn_adv 2 (q' := (7, [some (.ref 29)], [.int (jn 0), .ref 29], M1)) rfl).trans ?_
  refine (evn_adv 1 (q' := (10, [some (.ref 29)], [], (sI M1 29 (va_up (M1.1 29) 13 (jn 0))))) rfl).trans ?_
  refine wr_in (f := fun M2 => E_199 d (10, [some (.ref 29)], [], M2)) (fun M2 => ?_)
  exact evn_end 1 rfl
/-- TermStrategies$Runner.go(II)I -/
noncomputable abbrev E_200 (d : Nat) : PQ → PO := evn (rnn k_200 lay none (pcl GG lay d) 1)
theorem q_200 (d : Nat) (l1 : Int32) (l2 : Int32) (M : PM) : pcl GG lay (d + 1) 200 [.ref 29, .int l1, .int l2] M = (wr (sI M 29 (va_up (M.1 29) 11 (jn 0))) fun M1 => (wr (sI M1 29 (va_up (M1.1 29) 14 (jn 2120))) fun M2 => (wr (sI M2 29 (va_up (M2.1 29) 16 (jn 0))) fun M3 => (kV (pcl GG lay d 255 [.ref 30, .int (jn 0)] M3) fun M4 => (kV (pcl GG lay d 201 [.ref 29, .int (jz 1), .int (jn 0), .int l1, .int l2, .long (Int64.ofNat 0)] M4) fun M5 => E_200 d (36, [some (.ref 29), some (.int l1), some (.int l2), some (.int (jn 0)), none], [], M5)))))) := by
  refine (pcl_un (mt := t_200) (by decide) rfl (Nat.le_of_ble_eq_true rfl)).trans ?_
  show E_200 d (0, [some (.ref 29), some (.int l1), some (.int l2), none, none], [], M) = _
  refine (evn_adv 2 (q' := (2, [some (.ref 29), some (.int l1), some (.int l2), none, none], [.int (jn 0), .ref 29], M)) rfl).trans ?_
  refine (evn_adv 1 (q' := (5, [some (.ref 29), some (.int l1), some (.int l2), none, none], [], (sI M 29 (va_up (M.1 29) 11 (jn 0))))) rfl).trans ?_
  refine wr_in (f := fun M1 => E_200 d (5, [some (.ref 29), some (.int l1), some (.int l2), none, none], [], M1)) (fun M1 => ?_)
  refine (evn_adv 2 (q' := (9, [some (.ref 29), some (.int l1), some (.int l2), none, none], [.int (jn 2120), .ref 29], M1)) rfl).trans ?_
  refine (evn_adv 1 (q' := (12, [some (.ref 29), some (.int l1), some (.int l2), none, none], [], (sI M1 29 (va_up (M1.1 29) 14 (jn 2120))))) rfl).trans ?_
  refine wr_in (f := fun M2 => E_200 d (12, [some (.ref 29), some (.int l1), some (.int l2), none, none], [], M2)) (fun M2 => ?_)
  refine (evn_adv 2 (q' := (14, [some (.ref 29), some (.int l1), some (.int l2), none, none], [.int (jn 0), .ref 29], M2)) rfl).trans ?_
  refine (e_putz (q2 := (17, [some (.ref 29), some (.int l1), some (.int l2), none, none], [])) (k := 29) (j := 16) rfl rfl).trans ?_
  refine (if_pos (Or.inl rfl)).trans ?_
  refine wr_in (f := fun M3 => E_200 d (17, [some (.ref 29), some (.int l1), some (.int l2), none, none], [], M3)) (fun M3 => ?_)
  refine (evn_adv 3 (q' := (22, [some (.ref 29), some (.int l1), some (.int l2), none, none], [.int (jn 0), .ref 30], M3)) rfl).trans ?_
  refine (e_kV (q := (22, [some (.ref 29), some (.int l1), some (.int l2), none, none], [.int (jn 0), .ref 30])) (q2 := (25, [some (.ref 29), some (.int l1), some (.int l2), none, none], [])) (M := M3) (o := (pcl GG lay d 255 [.ref 30, .int (jn 0)] M3)) (hf := rfl) rfl rfl).trans ?_
  refine kV_in (fun M4 => ?_)
  refine (evn_adv 6 (q' := (31, [some (.ref 29), some (.int l1), some (.int l2), none, none], [.long (Int64.ofNat 0), .int l2, .int l1, .int (jn 0), .int (jz 1), .ref 29], M4)) rfl).trans ?_
  refine (e_kV (q := (31, [some (.ref 29), some (.int l1), some (.int l2), none, none], [.long (Int64.ofNat 0), .int l2, .int l1, .int (jn 0), .int (jz 1), .ref 29])) (q2 := (34, [some (.ref 29), some (.int l1), some (.int l2), none, none], [])) (M := M4) (o := (pcl GG lay d 201 [.ref 29, .int (jz 1), .int (jn 0), .int l1, .int l2, .long (Int64.ofNat 0)] M4)) (hf := rfl) rfl rfl).trans ?_
  refine kV_in (fun M5 => ?_)
  refine (evn_adv 2 (q' := (36, [some (.ref 29), some (.int l1), some (.int l2), some (.int (jn 0)), none], [], M5)) rfl).trans ?_
  rfl
theorem h_200_36 (d : Nat) (u1 : Option Value) (u2 : Option Value) (l3 : Int32) (u4 : Option Value) (M : PM) : E_200 d (36, [some (.ref 29), u1, u2, some (.int l3), u4], [], M) = (if l3 < (jn 1800) then (if jn 0 < (M.1 29 11) then (if (M.1 29 16) = jn 0 then (kI (pcl GG lay d 65 [.ref 36, .int ((M.1 29 11) - (jn 1))] M) fun r1 M1 => (if r1 = (jn 0) then (kV (pcl GG lay d 206 [.ref 29, .int ((M.1 29 11) - (jn 1))] M1) fun M2 => E_200 d (36, [some (.ref 29), u1, u2, some (.int (l3 + (jn 1))), some (.int ((M.1 29 11) - (jn 1)))], [], M2)) else (if r1 = (jn 1) then (kV (pcl GG lay d 208 [.ref 29, .int ((M.1 29 11) - (jn 1))] M1) fun M2 => E_200 d (36, [some (.ref 29), u1, u2, some (.int (l3 + (jn 1))), some (.int ((M.1 29 11) - (jn 1)))], [], M2)) else (if r1 = (jn 2) then (kV (pcl GG lay d 213 [.ref 29, .int ((M.1 29 11) - (jn 1))] M1) fun M2 => E_200 d (36, [some (.ref 29), u1, u2, some (.int (l3 + (jn 1))), some (.int ((M.1 29 11) - (jn 1)))], [], M2)) else (if r1 = (jn 3) then (kV (pcl GG lay d 214 [.ref 29, .int ((M.1 29 11) - (jn 1))] M1) fun M2 => E_200 d (36, [some (.ref 29), u1, u2, some (.int (l3 + (jn 1))), some (.int ((M.1 29 11) - (jn 1)))], [], M2)) else (if r1 = (jn 4) then (kV (pcl GG lay d 216 [.ref 29, .int ((M.1 29 11) - (jn 1))] M1) fun M2 => E_200 d (36, [some (.ref 29), u1, u2, some (.int (l3 + (jn 1))), some (.int ((M.1 29 11) - (jn 1)))], [], M2)) else (kV (pcl GG lay d 205 [.ref 29, .int ((M.1 29 11) - (jn 1)), .int (M1.1 29 15)] M1) fun M2 => E_200 d (36, [some (.ref 29), u1, u2, some (.int (l3 + (jn 1))), some (.int ((M.1 29 11) - (jn 1)))], [], M2)))))))) else (if (M.1 29 16) = jn 0 then (if jn 0 < (M.1 29 11) then (rI (jz 2) M) else (rI (M.1 29 15) M)) else (rI (jz 2) M))) else (if (M.1 29 16) = jn 0 then (if jn 0 < (M.1 29 11) then (rI (jz 2) M) else (rI (M.1 29 15) M)) else (rI (jz 2) M))) else (if (M.1 29 16) = jn 0 then (if jn 0 < (M.1 29 11) then (rI (jz 2) M) else (rI (M.1 29 15) M)) else (rI (jz 2) M))) := by
  refine (evn_adv 2 (q' := (40, [some (.ref 29), u1, u2, some (.int l3), u4], [.int (jn 1800), .int l3], M)) rfl).trans ?_
  refine (e_ic_ge (hf := rfl)).trans ?_
  refine ite_in ?_ ?_
  · refine (evn_adv 2 (q' := (47, [some (.ref 29), u1, u2, some (.int l3), u4], [.int (M.1 29 11)], M)) rfl).trans ?_
    refine (e_if_le (hf := rfl)).trans ?_
    refine ite_in ?_ ?_
    · refine (evn_adv 2 (q' := (54, [some (.ref 29), u1, u2, some (.int l3), u4], [.int (M.1 29 16)], M)) rfl).trans ?_
      refine (e_if_ne (hf := rfl)).trans ?_
      refine ite_in ?_ ?_
      · refine (evn_adv 8 (q' := (71, [some (.ref 29), u1, u2, some (.int l3), some (.int ((M.1 29 11) - (jn 1)))], [.int ((M.1 29 11) - (jn 1)), .ref 36], M)) rfl).trans ?_
        refine (e_kI (q := (71, [some (.ref 29), u1, u2, some (.int l3), some (.int ((M.1 29 11) - (jn 1)))], [.int ((M.1 29 11) - (jn 1)), .ref 36])) (q2 := (74, [some (.ref 29), u1, u2, some (.int l3), some (.int ((M.1 29 11) - (jn 1)))], [])) (M := M) (o := (pcl GG lay d 65 [.ref 36, .int ((M.1 29 11) - (jn 1))] M)) (hf := rfl) rfl rfl).trans ?_
        refine kI_in (fun r1 M1 => ?_)
        refine (e_sw0 (dflt := 153) (lo := ((0 : Nat) : Int)) (ts := [108, 117, 126, 135, 144]) (hf := rfl) rfl).trans ?_
        refine sw_cons (lo := 0) (F := fun pc => E_200 d (pc, [some (.ref 29), u1, u2, some (.int l3), some (.int ((M.1 29 11) - (jn 1)))], [], M1)) (by decide) ?_ ?_
        · refine (evn_adv 2 (q' := (111, [some (.ref 29), u1, u2, some (.int l3), some (.int ((M.1 29 11) - (jn 1)))], [.int ((M.1 29 11) - (jn 1)), .ref 29], M1)) rfl).trans ?_
          refine (e_kV (q := (111, [some (.ref 29), u1, u2, some (.int l3), some (.int ((M.1 29 11) - (jn 1)))], [.int ((M.1 29 11) - (jn 1)), .ref 29])) (q2 := (114, [some (.ref 29), u1, u2, some (.int l3), some (.int ((M.1 29 11) - (jn 1)))], [])) (M := M1) (o := (pcl GG lay d 206 [.ref 29, .int ((M.1 29 11) - (jn 1))] M1)) (hf := rfl) rfl rfl).trans ?_
          refine kV_in (fun M2 => ?_)
          refine (evn_adv 3 (q' := (36, [some (.ref 29), u1, u2, some (.int (l3 + (jn 1))), some (.int ((M.1 29 11) - (jn 1)))], [], M2)) rfl).trans ?_
          rfl
        refine sw_cons (lo := 1) (F := fun pc => E_200 d (pc, [some (.ref 29), u1, u2, some (.int l3), some (.int ((M.1 29 11) - (jn 1)))], [], M1)) (by decide) ?_ ?_
        · refine (evn_adv 2 (q' := (120, [some (.ref 29), u1, u2, some (.int l3), some (.int ((M.1 29 11) - (jn 1)))], [.int ((M.1 29 11) - (jn 1)), .ref 29], M1)) rfl).trans ?_
          refine (e_kV (q := (120, [some (.ref 29), u1, u2, some (.int l3), some (.int ((M.1 29 11) - (jn 1)))], [.int ((M.1 29 11) - (jn 1)), .ref 29])) (q2 := (123, [some (.ref 29), u1, u2, some (.int l3), some (.int ((M.1 29 11) - (jn 1)))], [])) (M := M1) (o := (pcl GG lay d 208 [.ref 29, .int ((M.1 29 11) - (jn 1))] M1)) (hf := rfl) rfl rfl).trans ?_
          refine kV_in (fun M2 => ?_)
          refine (evn_adv 3 (q' := (36, [some (.ref 29), u1, u2, some (.int (l3 + (jn 1))), some (.int ((M.1 29 11) - (jn 1)))], [], M2)) rfl).trans ?_
          rfl
        refine sw_cons (lo := 2) (F := fun pc => E_200 d (pc, [some (.ref 29), u1, u2, some (.int l3), some (.int ((M.1 29 11) - (jn 1)))], [], M1)) (by decide) ?_ ?_
        · refine (evn_adv 2 (q' := (129, [some (.ref 29), u1, u2, some (.int l3), some (.int ((M.1 29 11) - (jn 1)))], [.int ((M.1 29 11) - (jn 1)), .ref 29], M1)) rfl).trans ?_
          refine (e_kV (q := (129, [some (.ref 29), u1, u2, some (.int l3), some (.int ((M.1 29 11) - (jn 1)))], [.int ((M.1 29 11) - (jn 1)), .ref 29])) (q2 := (132, [some (.ref 29), u1, u2, some (.int l3), some (.int ((M.1 29 11) - (jn 1)))], [])) (M := M1) (o := (pcl GG lay d 213 [.ref 29, .int ((M.1 29 11) - (jn 1))] M1)) (hf := rfl) rfl rfl).trans ?_
          refine kV_in (fun M2 => ?_)
          refine (evn_adv 3 (q' := (36, [some (.ref 29), u1, u2, some (.int (l3 + (jn 1))), some (.int ((M.1 29 11) - (jn 1)))], [], M2)) rfl).trans ?_
          rfl
        refine sw_cons (lo := 3) (F := fun pc => E_200 d (pc, [some (.ref 29), u1, u2, some (.int l3), some (.int ((M.1 29 11) - (jn 1)))], [], M1)) (by decide) ?_ ?_
        · refine (evn_adv 2 (q' := (138, [some (.ref 29), u1, u2, some (.int l3), some (.int ((M.1 29 11) - (jn 1)))], [.int ((M.1 29 11) - (jn 1)), .ref 29], M1)) rfl).trans ?_
          refine (e_kV (q := (138, [some (.ref 29), u1, u2, some (.int l3), some (.int ((M.1 29 11) - (jn 1)))], [.int ((M.1 29 11) - (jn 1)), .ref 29])) (q2 := (141, [some (.ref 29), u1, u2, some (.int l3), some (.int ((M.1 29 11) - (jn 1)))], [])) (M := M1) (o := (pcl GG lay d 214 [.ref 29, .int ((M.1 29 11) - (jn 1))] M1)) (hf := rfl) rfl rfl).trans ?_
          refine kV_in (fun M2 => ?_)
          refine (evn_adv 3 (q' := (36, [some (.ref 29), u1, u2, some (.int (l3 + (jn 1))), some (.int ((M.1 29 11) - (jn 1)))], [], M2)) rfl).trans ?_
          rfl
        refine sw_cons (lo := 4) (F := fun pc => E_200 d (pc, [some (.ref 29), u1, u2, some (.int l3), some (.int ((M.1 29 11) - (jn 1)))], [], M1)) (by decide) ?_ ?_
        · refine (evn_adv 2 (q' := (147, [some (.ref 29), u1, u2, some (.int l3), some (.int ((M.1 29 11) - (jn 1)))], [.int ((M.1 29 11) - (jn 1)), .ref 29], M1)) rfl).trans ?_
          refine (e_kV (q := (147, [some (.ref 29), u1, u2, some (.int l3), some (.int ((M.1 29 11) - (jn 1)))], [.int ((M.1 29 11) - (jn 1)), .ref 29])) (q2 := (150, [some (.ref 29), u1, u2, some (.int l3), some (.int ((M.1 29 11) - (jn 1)))], [])) (M := M1) (o := (pcl GG lay d 216 [.ref 29, .int ((M.1 29 11) - (jn 1))] M1)) (hf := rfl) rfl rfl).trans ?_
          refine kV_in (fun M2 => ?_)
          refine (evn_adv 3 (q' := (36, [some (.ref 29), u1, u2, some (.int (l3 + (jn 1))), some (.int ((M.1 29 11) - (jn 1)))], [], M2)) rfl).trans ?_
          rfl
        show E_200 d (153, [some (.ref 29), u1, u2, some (.int l3), some (.int ((M.1 29 11) - (jn 1)))], [], M1) = _
        refine (evn_adv 4 (q' := (160, [some (.ref 29), u1, u2, some (.int l3), some (.int ((M.1 29 11) - (jn 1)))], [.int (M1.1 29 15), .int ((M.1 29 11) - (jn 1)), .ref 29], M1)) rfl).trans ?_
        refine (e_kV (q := (160, [some (.ref 29), u1, u2, some (.int l3), some (.int ((M.1 29 11) - (jn 1)))], [.int (M1.1 29 15), .int ((M.1 29 11) - (jn 1)), .ref 29])) (q2 := (163, [some (.ref 29), u1, u2, some (.int l3), some (.int ((M.1 29 11) - (jn 1)))], [])) (M := M1) (o := (pcl GG lay d 205 [.ref 29, .int ((M.1 29 11) - (jn 1)), .int (M1.1 29 15)] M1)) (hf := rfl) rfl rfl).trans ?_
        refine kV_in (fun M2 => ?_)
        refine (evn_adv 2 (q' := (36, [some (.ref 29), u1, u2, some (.int (l3 + (jn 1))), some (.int ((M.1 29 11) - (jn 1)))], [], M2)) rfl).trans ?_
        rfl
      · refine (evn_adv 2 (q' := (173, [some (.ref 29), u1, u2, some (.int l3), u4], [.int (M.1 29 16)], M)) rfl).trans ?_
        refine (e_if_ne (hf := rfl)).trans ?_
        refine ite_in ?_ ?_
        · refine (evn_adv 2 (q' := (180, [some (.ref 29), u1, u2, some (.int l3), u4], [.int (M.1 29 11)], M)) rfl).trans ?_
          refine (e_if_le (hf := rfl)).trans ?_
          refine ite_in ?_ ?_
          · refine (evn_adv 2 (q' := (192, [some (.ref 29), u1, u2, some (.int l3), u4], [.int (jz 2)], M)) rfl).trans ?_
            exact evn_end 1 rfl
          · refine (evn_adv 2 (q' := (192, [some (.ref 29), u1, u2, some (.int l3), u4], [.int (M.1 29 15)], M)) rfl).trans ?_
            exact evn_end 1 rfl
        · refine (evn_adv 2 (q' := (192, [some (.ref 29), u1, u2, some (.int l3), u4], [.int (jz 2)], M)) rfl).trans ?_
          exact evn_end 1 rfl
    · refine (evn_adv 2 (q' := (173, [some (.ref 29), u1, u2, some (.int l3), u4], [.int (M.1 29 16)], M)) rfl).trans ?_
      refine (e_if_ne (hf := rfl)).trans ?_
      refine ite_in ?_ ?_
      · refine (evn_adv 2 (q' := (180, [some (.ref 29), u1, u2, some (.int l3), u4], [.int (M.1 29 11)], M)) rfl).trans ?_
        refine (e_if_le (hf := rfl)).trans ?_
        refine ite_in ?_ ?_
        · refine (evn_adv 2 (q' := (192, [some (.ref 29), u1, u2, some (.int l3), u4], [.int (jz 2)], M)) rfl).trans ?_
          exact evn_end 1 rfl
        · refine (evn_adv 2 (q' := (192, [some (.ref 29), u1, u2, some (.int l3), u4], [.int (M.1 29 15)], M)) rfl).trans ?_
          exact evn_end 1 rfl
      · refine (evn_adv 2 (q' := (192, [some (.ref 29), u1, u2, some (.int l3), u4], [.int (jz 2)], M)) rfl).trans ?_
        exact evn_end 1 rfl
  · refine (evn_adv 2 (q' := (173, [some (.ref 29), u1, u2, some (.int l3), u4], [.int (M.1 29 16)], M)) rfl).trans ?_
    refine (e_if_ne (hf := rfl)).trans ?_
    refine ite_in ?_ ?_
    · refine (evn_adv 2 (q' := (180, [some (.ref 29), u1, u2, some (.int l3), u4], [.int (M.1 29 11)], M)) rfl).trans ?_
      refine (e_if_le (hf := rfl)).trans ?_
      refine ite_in ?_ ?_
      · refine (evn_adv 2 (q' := (192, [some (.ref 29), u1, u2, some (.int l3), u4], [.int (jz 2)], M)) rfl).trans ?_
        exact evn_end 1 rfl
      · refine (evn_adv 2 (q' := (192, [some (.ref 29), u1, u2, some (.int l3), u4], [.int (M.1 29 15)], M)) rfl).trans ?_
        exact evn_end 1 rfl
    · refine (evn_adv 2 (q' := (192, [some (.ref 29), u1, u2, some (.int l3), u4], [.int (jz 2)], M)) rfl).trans ?_
      exact evn_end 1 rfl
/-- TermStrategies$Runner.ask(IIIIJ)V -/
noncomputable abbrev E_201 (d : Nat) : PQ → PO := evn (rnn k_201 lay none (pcl GG lay d) 0)
theorem q_201 (d : Nat) (l1 : Int32) (l2 : Int32) (l3 : Int32) (l4 : Int32) (l5 : Int64) (M : PM) : pcl GG lay (d + 1) 201 [.ref 29, .int l1, .int l2, .int l3, .int l4, .long l5] M = (kV (pcl GG lay d 66 [.ref 36, .int l1, .int l2] M) fun M1 => (kI (pcl GG lay d 202 [.ref 29] M1) fun r2 M2 => (if r2 = jn 0 then (rV M2) else (kV (pcl GG lay d 66 [.ref 33, .int (M2.1 29 11), .int l3] M2) fun M3 => (kV (pcl GG lay d 66 [.ref 34, .int (M3.1 29 11), .int l4] M3) fun M4 => (kV (pcl GG lay d 68 [.ref 35, .int (M4.1 29 11), .long l5] M4) fun M5 => (kV (pcl GG lay d 66 [.ref 36, .int (M5.1 29 11), .int (jn 0)] M5) fun M6 => (kV (pcl GG lay d 66 [.ref 38, .int (M6.1 29 11), .int (M6.1 30 2)] M6) fun M7 => (kV (pcl GG lay d 66 [.ref 39, .int (M7.1 29 11), .int (M7.1 29 14)] M7) fun M8 => (wr (sI M8 29 (va_up (M8.1 29) 11 ((M8.1 29 11) + (jn 1)))) fun M9 => (rV M9))))))))))) := by
  refine (pcl_un (mt := t_201) (by decide) rfl (Nat.le_of_ble_eq_true rfl)).trans ?_
  show E_201 d (0, [some (.ref 29), some (.int l1), some (.int l2), some (.int l3), some (.int l4), some (.long l5), none], [], M) = _
  refine (evn_adv 4 (q' := (6, [some (.ref 29), some (.int l1), some (.int l2), some (.int l3), some (.int l4), some (.long l5), none], [.int l2, .int l1, .ref 36], M)) rfl).trans ?_
  refine (e_kV (q := (6, [some (.ref 29), some (.int l1), some (.int l2), some (.int l3), some (.int l4), some (.long l5), none], [.int l2, .int l1, .ref 36])) (q2 := (9, [some (.ref 29), some (.int l1), some (.int l2), some (.int l3), some (.int l4), some (.long l5), none], [])) (M := M) (o := (pcl GG lay d 66 [.ref 36, .int l1, .int l2] M)) (hf := rfl) rfl rfl).trans ?_
  refine kV_in (fun M1 => ?_)
  refine (evn_adv 1 (q' := (10, [some (.ref 29), some (.int l1), some (.int l2), some (.int l3), some (.int l4), some (.long l5), none], [.ref 29], M1)) rfl).trans ?_
  refine (e_kI (q := (10, [some (.ref 29), some (.int l1), some (.int l2), some (.int l3), some (.int l4), some (.long l5), none], [.ref 29])) (q2 := (13, [some (.ref 29), some (.int l1), some (.int l2), some (.int l3), some (.int l4), some (.long l5), none], [])) (M := M1) (o := (pcl GG lay d 202 [.ref 29] M1)) (hf := rfl) rfl rfl).trans ?_
  refine kI_in (fun r2 M2 => ?_)
  refine (e_if_ne (hf := rfl)).trans ?_
  refine ite_in ?_ ?_
  · exact evn_end 1 rfl
  · refine (evn_adv 5 (q' := (26, [some (.ref 29), some (.int l1), some (.int l2), some (.int l3), some (.int l4), some (.long l5), none], [.int l3, .int (M2.1 29 11), .ref 33], M2)) rfl).trans ?_
    refine (e_kV (q := (26, [some (.ref 29), some (.int l1), some (.int l2), some (.int l3), some (.int l4), some (.long l5), none], [.int l3, .int (M2.1 29 11), .ref 33])) (q2 := (29, [some (.ref 29), some (.int l1), some (.int l2), some (.int l3), some (.int l4), some (.long l5), none], [])) (M := M2) (o := (pcl GG lay d 66 [.ref 33, .int (M2.1 29 11), .int l3] M2)) (hf := rfl) rfl rfl).trans ?_
    refine kV_in (fun M3 => ?_)
    refine (evn_adv 5 (q' := (39, [some (.ref 29), some (.int l1), some (.int l2), some (.int l3), some (.int l4), some (.long l5), none], [.int l4, .int (M3.1 29 11), .ref 34], M3)) rfl).trans ?_
    refine (e_kV (q := (39, [some (.ref 29), some (.int l1), some (.int l2), some (.int l3), some (.int l4), some (.long l5), none], [.int l4, .int (M3.1 29 11), .ref 34])) (q2 := (42, [some (.ref 29), some (.int l1), some (.int l2), some (.int l3), some (.int l4), some (.long l5), none], [])) (M := M3) (o := (pcl GG lay d 66 [.ref 34, .int (M3.1 29 11), .int l4] M3)) (hf := rfl) rfl rfl).trans ?_
    refine kV_in (fun M4 => ?_)
    refine (evn_adv 5 (q' := (52, [some (.ref 29), some (.int l1), some (.int l2), some (.int l3), some (.int l4), some (.long l5), none], [.long l5, .int (M4.1 29 11), .ref 35], M4)) rfl).trans ?_
    refine (e_kV (q := (52, [some (.ref 29), some (.int l1), some (.int l2), some (.int l3), some (.int l4), some (.long l5), none], [.long l5, .int (M4.1 29 11), .ref 35])) (q2 := (55, [some (.ref 29), some (.int l1), some (.int l2), some (.int l3), some (.int l4), some (.long l5), none], [])) (M := M4) (o := (pcl GG lay d 68 [.ref 35, .int (M4.1 29 11), .long l5] M4)) (hf := rfl) rfl rfl).trans ?_
    refine kV_in (fun M5 => ?_)
    refine (evn_adv 5 (q' := (64, [some (.ref 29), some (.int l1), some (.int l2), some (.int l3), some (.int l4), some (.long l5), none], [.int (jn 0), .int (M5.1 29 11), .ref 36], M5)) rfl).trans ?_
    refine (e_kV (q := (64, [some (.ref 29), some (.int l1), some (.int l2), some (.int l3), some (.int l4), some (.long l5), none], [.int (jn 0), .int (M5.1 29 11), .ref 36])) (q2 := (67, [some (.ref 29), some (.int l1), some (.int l2), some (.int l3), some (.int l4), some (.long l5), none], [])) (M := M5) (o := (pcl GG lay d 66 [.ref 36, .int (M5.1 29 11), .int (jn 0)] M5)) (hf := rfl) rfl rfl).trans ?_
    refine kV_in (fun M6 => ?_)
    refine (evn_adv 7 (q' := (82, [some (.ref 29), some (.int l1), some (.int l2), some (.int l3), some (.int l4), some (.long l5), none], [.int (M6.1 30 2), .int (M6.1 29 11), .ref 38], M6)) rfl).trans ?_
    refine (e_kV (q := (82, [some (.ref 29), some (.int l1), some (.int l2), some (.int l3), some (.int l4), some (.long l5), none], [.int (M6.1 30 2), .int (M6.1 29 11), .ref 38])) (q2 := (85, [some (.ref 29), some (.int l1), some (.int l2), some (.int l3), some (.int l4), some (.long l5), none], [])) (M := M6) (o := (pcl GG lay d 66 [.ref 38, .int (M6.1 29 11), .int (M6.1 30 2)] M6)) (hf := rfl) rfl rfl).trans ?_
    refine kV_in (fun M7 => ?_)
    refine (evn_adv 6 (q' := (97, [some (.ref 29), some (.int l1), some (.int l2), some (.int l3), some (.int l4), some (.long l5), none], [.int (M7.1 29 14), .int (M7.1 29 11), .ref 39], M7)) rfl).trans ?_
    refine (e_kV (q := (97, [some (.ref 29), some (.int l1), some (.int l2), some (.int l3), some (.int l4), some (.long l5), none], [.int (M7.1 29 14), .int (M7.1 29 11), .ref 39])) (q2 := (100, [some (.ref 29), some (.int l1), some (.int l2), some (.int l3), some (.int l4), some (.long l5), none], [])) (M := M7) (o := (pcl GG lay d 66 [.ref 39, .int (M7.1 29 11), .int (M7.1 29 14)] M7)) (hf := rfl) rfl rfl).trans ?_
    refine kV_in (fun M8 => ?_)
    refine (evn_adv 5 (q' := (107, [some (.ref 29), some (.int l1), some (.int l2), some (.int l3), some (.int l4), some (.long l5), none], [.int ((M8.1 29 11) + (jn 1)), .ref 29], M8)) rfl).trans ?_
    refine (evn_adv 1 (q' := (110, [some (.ref 29), some (.int l1), some (.int l2), some (.int l3), some (.int l4), some (.long l5), none], [], (sI M8 29 (va_up (M8.1 29) 11 ((M8.1 29 11) + (jn 1)))))) rfl).trans ?_
    refine wr_in (f := fun M9 => E_201 d (110, [some (.ref 29), some (.int l1), some (.int l2), some (.int l3), some (.int l4), some (.long l5), none], [], M9)) (fun M9 => ?_)
    exact evn_end 1 rfl
/-- TermStrategies$Runner.countBegun()Z -/
noncomputable abbrev E_202 (d : Nat) : PQ → PO := evn (rnn k_202 lay none (pcl GG lay d) 2)
theorem q_202 (d : Nat)  (M : PM) : pcl GG lay (d + 1) 202 [.ref 29] M = (if (M.1 29 12) < (jn 600) then (wr (sI M 29 (va_up (M.1 29) 12 ((M.1 29 12) + (jn 1)))) fun M1 => (rZ (jn 1) M1)) else (wr (sI M 29 (va_up (M.1 29) 16 (jn 1))) fun M1 => (rZ (jn 0) M1))) := by
  refine (pcl_un (mt := t_202) (by decide) rfl (Nat.le_of_ble_eq_true rfl)).trans ?_
  show E_202 d (0, [some (.ref 29)], [], M) = _
  refine (evn_adv 3 (q' := (7, [some (.ref 29)], [.int (jn 600), .int (M.1 29 12)], M)) rfl).trans ?_
  refine (e_ic_lt (hf := rfl)).trans ?_
  refine ite_in ?_ ?_
  · refine (evn_adv 5 (q' := (24, [some (.ref 29)], [.int ((M.1 29 12) + (jn 1)), .ref 29], M)) rfl).trans ?_
    refine (evn_adv 1 (q' := (27, [some (.ref 29)], [], (sI M 29 (va_up (M.1 29) 12 ((M.1 29 12) + (jn 1)))))) rfl).trans ?_
    refine wr_in (f := fun M1 => E_202 d (27, [some (.ref 29)], [], M1)) (fun M1 => ?_)
    refine (evn_adv 1 (q' := (28, [some (.ref 29)], [.int (jn 1)], M1)) rfl).trans ?_
    exact e_iretz (hf := rfl)
  · refine (evn_adv 2 (q' := (12, [some (.ref 29)], [.int (jn 1), .ref 29], M)) rfl).trans ?_
    refine (e_putz (q2 := (15, [some (.ref 29)], [])) (k := 29) (j := 16) rfl rfl).trans ?_
    refine (if_pos (Or.inr rfl)).trans ?_
    refine wr_in (f := fun M1 => E_202 d (15, [some (.ref 29)], [], M1)) (fun M1 => ?_)
    refine (evn_adv 1 (q' := (16, [some (.ref 29)], [.int (jn 0)], M1)) rfl).trans ?_
    exact e_iretz (hf := rfl)
/-- TermStrategies$Runner.goOnWith(II)V -/
noncomputable abbrev E_203 (d : Nat) : PQ → PO := evn (rnn k_203 lay none (pcl GG lay d) 0)
theorem q_203 (d : Nat) (l1 : Int32) (l2 : Int32) (M : PM) : pcl GG lay (d + 1) 203 [.ref 29, .int l1, .int l2] M = (kI (pcl GG lay d 65 [.ref 39, .int l1] M) fun r1 M1 => (wr (sI M1 29 (va_up (M1.1 29) 14 r1)) fun M2 => (kV (pcl GG lay d 66 [.ref 34, .int l1, .int l2] M2) fun M3 => (if l2 < (M3.1 29 14) then (rV M3) else (kV (pcl GG lay d 66 [.ref 34, .int l1, .int (M3.1 29 14)] M3) fun M4 => (kI (pcl GG lay d 237 [.ref 6, .int l2, .int (M4.1 29 14)] M4) fun r5 M5 => (wr (sI M5 29 (va_up (M5.1 29) 14 r5)) fun M6 => (rV M6)))))))) := by
  refine (pcl_un (mt := t_203) (by decide) rfl (Nat.le_of_ble_eq_true rfl)).trans ?_
  show E_203 d (0, [some (.ref 29), some (.int l1), some (.int l2)], [], M) = _
  refine (evn_adv 4 (q' := (6, [some (.ref 29), some (.int l1), some (.int l2)], [.int l1, .ref 39, .ref 29], M)) rfl).trans ?_
  refine (e_kI (q := (6, [some (.ref 29), some (.int l1), some (.int l2)], [.int l1, .ref 39, .ref 29])) (q2 := (9, [some (.ref 29), some (.int l1), some (.int l2)], [.ref 29])) (M := M) (o := (pcl GG lay d 65 [.ref 39, .int l1] M)) (hf := rfl) rfl rfl).trans ?_
  refine kI_in (fun r1 M1 => ?_)
  refine (evn_adv 1 (q' := (12, [some (.ref 29), some (.int l1), some (.int l2)], [], (sI M1 29 (va_up (M1.1 29) 14 r1)))) rfl).trans ?_
  refine wr_in (f := fun M2 => E_203 d (12, [some (.ref 29), some (.int l1), some (.int l2)], [], M2)) (fun M2 => ?_)
  refine (evn_adv 4 (q' := (18, [some (.ref 29), some (.int l1), some (.int l2)], [.int l2, .int l1, .ref 34], M2)) rfl).trans ?_
  refine (e_kV (q := (18, [some (.ref 29), some (.int l1), some (.int l2)], [.int l2, .int l1, .ref 34])) (q2 := (21, [some (.ref 29), some (.int l1), some (.int l2)], [])) (M := M2) (o := (pcl GG lay d 66 [.ref 34, .int l1, .int l2] M2)) (hf := rfl) rfl rfl).trans ?_
  refine kV_in (fun M3 => ?_)
  refine (evn_adv 3 (q' := (26, [some (.ref 29), some (.int l1), some (.int l2)], [.int (M3.1 29 14), .int l2], M3)) rfl).trans ?_
  refine (e_ic_lt (hf := rfl)).trans ?_
  refine ite_in ?_ ?_
  · exact evn_end 1 rfl
  · refine (evn_adv 5 (q' := (38, [some (.ref 29), some (.int l1), some (.int l2)], [.int (M3.1 29 14), .int l1, .ref 34], M3)) rfl).trans ?_
    refine (e_kV (q := (38, [some (.ref 29), some (.int l1), some (.int l2)], [.int (M3.1 29 14), .int l1, .ref 34])) (q2 := (41, [some (.ref 29), some (.int l1), some (.int l2)], [])) (M := M3) (o := (pcl GG lay d 66 [.ref 34, .int l1, .int (M3.1 29 14)] M3)) (hf := rfl) rfl rfl).trans ?_
    refine kV_in (fun M4 => ?_)
    refine (evn_adv 6 (q' := (51, [some (.ref 29), some (.int l1), some (.int l2)], [.int (M4.1 29 14), .int l2, .ref 6, .ref 29], M4)) rfl).trans ?_
    refine (e_kI (q := (51, [some (.ref 29), some (.int l1), some (.int l2)], [.int (M4.1 29 14), .int l2, .ref 6, .ref 29])) (q2 := (54, [some (.ref 29), some (.int l1), some (.int l2)], [.ref 29])) (M := M4) (o := (pcl GG lay d 237 [.ref 6, .int l2, .int (M4.1 29 14)] M4)) (hf := rfl) rfl rfl).trans ?_
    refine kI_in (fun r5 M5 => ?_)
    refine (evn_adv 1 (q' := (57, [some (.ref 29), some (.int l1), some (.int l2)], [], (sI M5 29 (va_up (M5.1 29) 14 r5)))) rfl).trans ?_
    refine wr_in (f := fun M6 => E_203 d (57, [some (.ref 29), some (.int l1), some (.int l2)], [], M6)) (fun M6 => ?_)
    exact evn_end 1 rfl
/-- TermStrategies$Runner.askWhole(IIII)V -/
noncomputable abbrev E_204 (d : Nat) : PQ → PO := evn (rnn k_204 lay none (pcl GG lay d) 0)
theorem q_204 (d : Nat) (l1 : Int32) (l2 : Int32) (l3 : Int32) (l4 : Int32) (M : PM) : pcl GG lay (d + 1) 204 [.ref 29, .int l1, .int l2, .int l3, .int l4] M = (kV (pcl GG lay d 203 [.ref 29, .int l1, .int l4] M) fun M1 => (kI (pcl GG lay d 65 [.ref 34, .int l1] M1) fun r2 M2 => (kL (pcl GG lay d 67 [.ref 35, .int l1] M2) fun r3 M3 => (kV (pcl GG lay d 201 [.ref 29, .int l1, .int l2, .int l3, .int r2, .long r3] M3) fun M4 => (rV M4))))) := by
  refine (pcl_un (mt := t_204) (by decide) rfl (Nat.le_of_ble_eq_true rfl)).trans ?_
  show E_204 d (0, [some (.ref 29), some (.int l1), some (.int l2), some (.int l3), some (.int l4)], [], M) = _
  refine (evn_adv 3 (q' := (4, [some (.ref 29), some (.int l1), some (.int l2), some (.int l3), some (.int l4)], [.int l4, .int l1, .ref 29], M)) rfl).trans ?_
  refine (e_kV (q := (4, [some (.ref 29), some (.int l1), some (.int l2), some (.int l3), some (.int l4)], [.int l4, .int l1, .ref 29])) (q2 := (7, [some (.ref 29), some (.int l1), some (.int l2), some (.int l3), some (.int l4)], [])) (M := M) (o := (pcl GG lay d 203 [.ref 29, .int l1, .int l4] M)) (hf := rfl) rfl rfl).trans ?_
  refine kV_in (fun M1 => ?_)
  refine (evn_adv 7 (q' := (16, [some (.ref 29), some (.int l1), some (.int l2), some (.int l3), some (.int l4)], [.int l1, .ref 34, .int l3, .int l2, .int l1, .ref 29], M1)) rfl).trans ?_
  refine (e_kI (q := (16, [some (.ref 29), some (.int l1), some (.int l2), some (.int l3), some (.int l4)], [.int l1, .ref 34, .int l3, .int l2, .int l1, .ref 29])) (q2 := (19, [some (.ref 29), some (.int l1), some (.int l2), some (.int l3), some (.int l4)], [.int l3, .int l2, .int l1, .ref 29])) (M := M1) (o := (pcl GG lay d 65 [.ref 34, .int l1] M1)) (hf := rfl) rfl rfl).trans ?_
  refine kI_in (fun r2 M2 => ?_)
  refine (evn_adv 3 (q' := (24, [some (.ref 29), some (.int l1), some (.int l2), some (.int l3), some (.int l4)], [.int l1, .ref 35, .int r2, .int l3, .int l2, .int l1, .ref 29], M2)) rfl).trans ?_
  refine (e_kL (q := (24, [some (.ref 29), some (.int l1), some (.int l2), some (.int l3), some (.int l4)], [.int l1, .ref 35, .int r2, .int l3, .int l2, .int l1, .ref 29])) (q2 := (27, [some (.ref 29), some (.int l1), some (.int l2), some (.int l3), some (.int l4)], [.int r2, .int l3, .int l2, .int l1, .ref 29])) (M := M2) (o := (pcl GG lay d 67 [.ref 35, .int l1] M2)) (hf := rfl) rfl rfl).trans ?_
  refine kL_in (fun r3 M3 => ?_)
  refine (e_kV (q := (27, [some (.ref 29), some (.int l1), some (.int l2), some (.int l3), some (.int l4)], [.long r3, .int r2, .int l3, .int l2, .int l1, .ref 29])) (q2 := (30, [some (.ref 29), some (.int l1), some (.int l2), some (.int l3), some (.int l4)], [])) (M := M3) (o := (pcl GG lay d 201 [.ref 29, .int l1, .int l2, .int l3, .int r2, .long r3] M3)) (hf := rfl) rfl rfl).trans ?_
  refine kV_in (fun M4 => ?_)
  exact evn_end 1 rfl
/-- TermStrategies$Runner.finish(II)V -/
noncomputable abbrev E_205 (d : Nat) : PQ → PO := evn (rnn k_205 lay none (pcl GG lay d) 0)
theorem q_205 (d : Nat) (l1 : Int32) (l2 : Int32) (M : PM) : pcl GG lay (d + 1) 205 [.ref 29, .int l1, .int l2] M = (if l2 = (jz 1) then (kI (pcl GG lay d 65 [.ref 38, .int l1] M) fun r1 M1 => (kV (pcl GG lay d 255 [.ref 30, .int r1] M1) fun M2 => (kV (pcl GG lay d 203 [.ref 29, .int l1, .int l2] M2) fun M3 => (kI (pcl GG lay d 65 [.ref 34, .int l1] M3) fun r4 M4 => (wr (sI M4 29 (va_up (M4.1 29) 15 r4)) fun M5 => (wr (sI M5 29 (va_up (M5.1 29) 11 l1)) fun M6 => (rV M6))))))) else (kV (pcl GG lay d 203 [.ref 29, .int l1, .int l2] M) fun M1 => (kI (pcl GG lay d 65 [.ref 34, .int l1] M1) fun r2 M2 => (wr (sI M2 29 (va_up (M2.1 29) 15 r2)) fun M3 => (wr (sI M3 29 (va_up (M3.1 29) 11 l1)) fun M4 => (rV M4)))))) := by
  refine (pcl_un (mt := t_205) (by decide) rfl (Nat.le_of_ble_eq_true rfl)).trans ?_
  show E_205 d (0, [some (.ref 29), some (.int l1), some (.int l2)], [], M) = _
  refine (evn_adv 2 (q' := (2, [some (.ref 29), some (.int l1), some (.int l2)], [.int (jz 1), .int l2], M)) rfl).trans ?_
  refine (e_ic_ne (hf := rfl)).trans ?_
  refine ite_in ?_ ?_
  · refine (evn_adv 5 (q' := (14, [some (.ref 29), some (.int l1), some (.int l2)], [.int l1, .ref 38, .ref 30], M)) rfl).trans ?_
    refine (e_kI (q := (14, [some (.ref 29), some (.int l1), some (.int l2)], [.int l1, .ref 38, .ref 30])) (q2 := (17, [some (.ref 29), some (.int l1), some (.int l2)], [.ref 30])) (M := M) (o := (pcl GG lay d 65 [.ref 38, .int l1] M)) (hf := rfl) rfl rfl).trans ?_
    refine kI_in (fun r1 M1 => ?_)
    refine (e_kV (q := (17, [some (.ref 29), some (.int l1), some (.int l2)], [.int r1, .ref 30])) (q2 := (20, [some (.ref 29), some (.int l1), some (.int l2)], [])) (M := M1) (o := (pcl GG lay d 255 [.ref 30, .int r1] M1)) (hf := rfl) rfl rfl).trans ?_
    refine kV_in (fun M2 => ?_)
    refine (evn_adv 3 (q' := (23, [some (.ref 29), some (.int l1), some (.int l2)], [.int l2, .int l1, .ref 29], M2)) rfl).trans ?_
    refine (e_kV (q := (23, [some (.ref 29), some (.int l1), some (.int l2)], [.int l2, .int l1, .ref 29])) (q2 := (26, [some (.ref 29), some (.int l1), some (.int l2)], [])) (M := M2) (o := (pcl GG lay d 203 [.ref 29, .int l1, .int l2] M2)) (hf := rfl) rfl rfl).trans ?_
    refine kV_in (fun M3 => ?_)
    refine (evn_adv 4 (q' := (32, [some (.ref 29), some (.int l1), some (.int l2)], [.int l1, .ref 34, .ref 29], M3)) rfl).trans ?_
    refine (e_kI (q := (32, [some (.ref 29), some (.int l1), some (.int l2)], [.int l1, .ref 34, .ref 29])) (q2 := (35, [some (.ref 29), some (.int l1), some (.int l2)], [.ref 29])) (M := M3) (o := (pcl GG lay d 65 [.ref 34, .int l1] M3)) (hf := rfl) rfl rfl).trans ?_
    refine kI_in (fun r4 M4 => ?_)
    refine (evn_adv 1 (q' := (38, [some (.ref 29), some (.int l1), some (.int l2)], [], (sI M4 29 (va_up (M4.1 29) 15 r4)))) rfl).trans ?_
    refine wr_in (f := fun M5 => E_205 d (38, [some (.ref 29), some (.int l1), some (.int l2)], [], M5)) (fun M5 => ?_)
    refine (evn_adv 2 (q' := (40, [some (.ref 29), some (.int l1), some (.int l2)], [.int l1, .ref 29], M5)) rfl).trans ?_
    refine (evn_adv 1 (q' := (43, [some (.ref 29), some (.int l1), some (.int l2)], [], (sI M5 29 (va_up (M5.1 29) 11 l1)))) rfl).trans ?_
    refine wr_in (f := fun M6 => E_205 d (43, [some (.ref 29), some (.int l1), some (.int l2)], [], M6)) (fun M6 => ?_)
    exact evn_end 1 rfl
  · refine (evn_adv 3 (q' := (23, [some (.ref 29), some (.int l1), some (.int l2)], [.int l2, .int l1, .ref 29], M)) rfl).trans ?_
    refine (e_kV (q := (23, [some (.ref 29), some (.int l1), some (.int l2)], [.int l2, .int l1, .ref 29])) (q2 := (26, [some (.ref 29), some (.int l1), some (.int l2)], [])) (M := M) (o := (pcl GG lay d 203 [.ref 29, .int l1, .int l2] M)) (hf := rfl) rfl rfl).trans ?_
    refine kV_in (fun M1 => ?_)
    refine (evn_adv 4 (q' := (32, [some (.ref 29), some (.int l1), some (.int l2)], [.int l1, .ref 34, .ref 29], M1)) rfl).trans ?_
    refine (e_kI (q := (32, [some (.ref 29), some (.int l1), some (.int l2)], [.int l1, .ref 34, .ref 29])) (q2 := (35, [some (.ref 29), some (.int l1), some (.int l2)], [.ref 29])) (M := M1) (o := (pcl GG lay d 65 [.ref 34, .int l1] M1)) (hf := rfl) rfl rfl).trans ?_
    refine kI_in (fun r2 M2 => ?_)
    refine (evn_adv 1 (q' := (38, [some (.ref 29), some (.int l1), some (.int l2)], [], (sI M2 29 (va_up (M2.1 29) 15 r2)))) rfl).trans ?_
    refine wr_in (f := fun M3 => E_205 d (38, [some (.ref 29), some (.int l1), some (.int l2)], [], M3)) (fun M3 => ?_)
    refine (evn_adv 2 (q' := (40, [some (.ref 29), some (.int l1), some (.int l2)], [.int l1, .ref 29], M3)) rfl).trans ?_
    refine (evn_adv 1 (q' := (43, [some (.ref 29), some (.int l1), some (.int l2)], [], (sI M3 29 (va_up (M3.1 29) 11 l1)))) rfl).trans ?_
    refine wr_in (f := fun M4 => E_205 d (43, [some (.ref 29), some (.int l1), some (.int l2)], [], M4)) (fun M4 => ?_)
    exact evn_end 1 rfl
/-- TermStrategies$Runner.start(I)V -/
noncomputable abbrev E_206 (d : Nat) : PQ → PO := evn (rnn k_206 lay none (pcl GG lay d) 0)
theorem q_206 (d : Nat) (l1 : Int32) (M : PM) : pcl GG lay (d + 1) 206 [.ref 29, .int l1] M = (kI (pcl GG lay d 65 [.ref 33, .int l1] M) fun r1 M1 => (kI (pcl GG lay d 65 [.ref 34, .int l1] M1) fun r2 M2 => (kI (pcl GG lay d 248 [.ref 1, .int r1] M2) fun r3 M3 => (if r3 = (jn 0) then (kI (pcl GG lay d 249 [.ref 1, .int r1] M3) fun r4 M4 => (kL (pcl GG lay d 67 [.ref 35, .int l1] M4) fun r5 M5 => (kI (pcl GG lay d 207 [.ref 29, .int r4, .int r2, .long r5] M5) fun r6 M6 => (kV (pcl GG lay d 205 [.ref 29, .int l1, .int r6] M6) fun M7 => (rV M7))))) else (if r3 = (jn 1) then (kV (pcl GG lay d 205 [.ref 29, .int l1, .int r2] M3) fun M4 => (rV M4)) else (if r3 = (jn 2) then (kV (pcl GG lay d 205 [.ref 29, .int l1, .int (jz 1)] M3) fun M4 => (rV M4)) else (if r3 = (jn 3) then (kI (pcl GG lay d 249 [.ref 1, .int r1] M3) fun r4 M4 => (kV (pcl GG lay d 204 [.ref 29, .int l1, .int (jn 1), .int r4, .int r2] M4) fun M5 => (rV M5))) else (if r3 = (jn 4) then (kI (pcl GG lay d 249 [.ref 1, .int r1] M3) fun r4 M4 => (kV (pcl GG lay d 204 [.ref 29, .int l1, .int (jn 1), .int r4, .int r2] M4) fun M5 => (rV M5))) else (if r3 = (jn 5) then (kI (pcl GG lay d 249 [.ref 1, .int r1] M3) fun r4 M4 => (kV (pcl GG lay d 204 [.ref 29, .int l1, .int (jn 1), .int r4, .int r2] M4) fun M5 => (rV M5))) else (if r3 = (jn 6) then (kV (pcl GG lay d 209 [.ref 29, .int l1] M3) fun M4 => (rV M4)) else (if r3 = (jn 7) then (kV (pcl GG lay d 209 [.ref 29, .int l1] M3) fun M4 => (rV M4)) else (if r3 = (jn 8) then (kV (pcl GG lay d 209 [.ref 29, .int l1] M3) fun M4 => (rV M4)) else (if r3 = (jn 9) then (kV (pcl GG lay d 209 [.ref 29, .int l1] M3) fun M4 => (rV M4)) else (if r3 = (jn 10) then (kI (pcl GG lay d 249 [.ref 1, .int r1] M3) fun r4 M4 => (kV (pcl GG lay d 204 [.ref 29, .int l1, .int (jn 1), .int r4, .int r2] M4) fun M5 => (rV M5))) else (if r3 = (jn 11) then (kI (pcl GG lay d 249 [.ref 1, .int r1] M3) fun r4 M4 => (kV (pcl GG lay d 204 [.ref 29, .int l1, .int (jn 1), .int r4, .int r2] M4) fun M5 => (rV M5))) else (if r3 = (jn 12) then (kV (pcl GG lay d 209 [.ref 29, .int l1] M3) fun M4 => (rV M4)) else (kI (pcl GG lay d 249 [.ref 1, .int r1] M3) fun r4 M4 => (kV (pcl GG lay d 204 [.ref 29, .int l1, .int (jn 1), .int r4, .int r2] M4) fun M5 => (rV M5))))))))))))))))))) := by
  refine (pcl_un (mt := t_206) (by decide) rfl (Nat.le_of_ble_eq_true rfl)).trans ?_
  show E_206 d (0, [some (.ref 29), some (.int l1), none, none], [], M) = _
  refine (evn_adv 3 (q' := (5, [some (.ref 29), some (.int l1), none, none], [.int l1, .ref 33], M)) rfl).trans ?_
  refine (e_kI (q := (5, [some (.ref 29), some (.int l1), none, none], [.int l1, .ref 33])) (q2 := (8, [some (.ref 29), some (.int l1), none, none], [])) (M := M) (o := (pcl GG lay d 65 [.ref 33, .int l1] M)) (hf := rfl) rfl rfl).trans ?_
  refine kI_in (fun r1 M1 => ?_)
  refine (evn_adv 4 (q' := (14, [some (.ref 29), some (.int l1), some (.int r1), none], [.int l1, .ref 34], M1)) rfl).trans ?_
  refine (e_kI (q := (14, [some (.ref 29), some (.int l1), some (.int r1), none], [.int l1, .ref 34])) (q2 := (17, [some (.ref 29), some (.int l1), some (.int r1), none], [])) (M := M1) (o := (pcl GG lay d 65 [.ref 34, .int l1] M1)) (hf := rfl) rfl rfl).trans ?_
  refine kI_in (fun r2 M2 => ?_)
  refine (evn_adv 4 (q' := (23, [some (.ref 29), some (.int l1), some (.int r1), some (.int r2)], [.int r1, .ref 1], M2)) rfl).trans ?_
  refine (e_kI (q := (23, [some (.ref 29), some (.int l1), some (.int r1), some (.int r2)], [.int r1, .ref 1])) (q2 := (26, [some (.ref 29), some (.int l1), some (.int r1), some (.int r2)], [])) (M := M2) (o := (pcl GG lay d 248 [.ref 1, .int r1] M2)) (hf := rfl) rfl rfl).trans ?_
  refine kI_in (fun r3 M3 => ?_)
  refine (e_sw0 (dflt := 147) (lo := ((0 : Nat) : Int)) (ts := [92, 121, 130, 147, 147, 147, 139, 139, 139, 139, 147, 147, 139]) (hf := rfl) rfl).trans ?_
  refine sw_cons (lo := 0) (F := fun pc => E_206 d (pc, [some (.ref 29), some (.int l1), some (.int r1), some (.int r2)], [], M3)) (by decide) ?_ ?_
  · refine (evn_adv 6 (q' := (100, [some (.ref 29), some (.int l1), some (.int r1), some (.int r2)], [.int r1, .ref 1, .ref 29, .int l1, .ref 29], M3)) rfl).trans ?_
    refine (e_kI (q := (100, [some (.ref 29), some (.int l1), some (.int r1), some (.int r2)], [.int r1, .ref 1, .ref 29, .int l1, .ref 29])) (q2 := (103, [some (.ref 29), some (.int l1), some (.int r1), some (.int r2)], [.ref 29, .int l1, .ref 29])) (M := M3) (o := (pcl GG lay d 249 [.ref 1, .int r1] M3)) (hf := rfl) rfl rfl).trans ?_
    refine kI_in (fun r4 M4 => ?_)
    refine (evn_adv 4 (q' := (109, [some (.ref 29), some (.int l1), some (.int r1), some (.int r2)], [.int l1, .ref 35, .int r2, .int r4, .ref 29, .int l1, .ref 29], M4)) rfl).trans ?_
    refine (e_kL (q := (109, [some (.ref 29), some (.int l1), some (.int r1), some (.int r2)], [.int l1, .ref 35, .int r2, .int r4, .ref 29, .int l1, .ref 29])) (q2 := (112, [some (.ref 29), some (.int l1), some (.int r1), some (.int r2)], [.int r2, .int r4, .ref 29, .int l1, .ref 29])) (M := M4) (o := (pcl GG lay d 67 [.ref 35, .int l1] M4)) (hf := rfl) rfl rfl).trans ?_
    refine kL_in (fun r5 M5 => ?_)
    refine (e_kI (q := (112, [some (.ref 29), some (.int l1), some (.int r1), some (.int r2)], [.long r5, .int r2, .int r4, .ref 29, .int l1, .ref 29])) (q2 := (115, [some (.ref 29), some (.int l1), some (.int r1), some (.int r2)], [.int l1, .ref 29])) (M := M5) (o := (pcl GG lay d 207 [.ref 29, .int r4, .int r2, .long r5] M5)) (hf := rfl) rfl rfl).trans ?_
    refine kI_in (fun r6 M6 => ?_)
    refine (e_kV (q := (115, [some (.ref 29), some (.int l1), some (.int r1), some (.int r2)], [.int r6, .int l1, .ref 29])) (q2 := (118, [some (.ref 29), some (.int l1), some (.int r1), some (.int r2)], [])) (M := M6) (o := (pcl GG lay d 205 [.ref 29, .int l1, .int r6] M6)) (hf := rfl) rfl rfl).trans ?_
    refine kV_in (fun M7 => ?_)
    refine (evn_adv 1 (q' := (162, [some (.ref 29), some (.int l1), some (.int r1), some (.int r2)], [], M7)) rfl).trans ?_
    exact evn_end 1 rfl
  refine sw_cons (lo := 1) (F := fun pc => E_206 d (pc, [some (.ref 29), some (.int l1), some (.int r1), some (.int r2)], [], M3)) (by decide) ?_ ?_
  · refine (evn_adv 3 (q' := (124, [some (.ref 29), some (.int l1), some (.int r1), some (.int r2)], [.int r2, .int l1, .ref 29], M3)) rfl).trans ?_
    refine (e_kV (q := (124, [some (.ref 29), some (.int l1), some (.int r1), some (.int r2)], [.int r2, .int l1, .ref 29])) (q2 := (127, [some (.ref 29), some (.int l1), some (.int r1), some (.int r2)], [])) (M := M3) (o := (pcl GG lay d 205 [.ref 29, .int l1, .int r2] M3)) (hf := rfl) rfl rfl).trans ?_
    refine kV_in (fun M4 => ?_)
    refine (evn_adv 1 (q' := (162, [some (.ref 29), some (.int l1), some (.int r1), some (.int r2)], [], M4)) rfl).trans ?_
    exact evn_end 1 rfl
  refine sw_cons (lo := 2) (F := fun pc => E_206 d (pc, [some (.ref 29), some (.int l1), some (.int r1), some (.int r2)], [], M3)) (by decide) ?_ ?_
  · refine (evn_adv 3 (q' := (133, [some (.ref 29), some (.int l1), some (.int r1), some (.int r2)], [.int (jz 1), .int l1, .ref 29], M3)) rfl).trans ?_
    refine (e_kV (q := (133, [some (.ref 29), some (.int l1), some (.int r1), some (.int r2)], [.int (jz 1), .int l1, .ref 29])) (q2 := (136, [some (.ref 29), some (.int l1), some (.int r1), some (.int r2)], [])) (M := M3) (o := (pcl GG lay d 205 [.ref 29, .int l1, .int (jz 1)] M3)) (hf := rfl) rfl rfl).trans ?_
    refine kV_in (fun M4 => ?_)
    refine (evn_adv 1 (q' := (162, [some (.ref 29), some (.int l1), some (.int r1), some (.int r2)], [], M4)) rfl).trans ?_
    exact evn_end 1 rfl
  refine sw_cons (lo := 3) (F := fun pc => E_206 d (pc, [some (.ref 29), some (.int l1), some (.int r1), some (.int r2)], [], M3)) (by decide) ?_ ?_
  · refine (evn_adv 6 (q' := (155, [some (.ref 29), some (.int l1), some (.int r1), some (.int r2)], [.int r1, .ref 1, .int (jn 1), .int l1, .ref 29], M3)) rfl).trans ?_
    refine (e_kI (q := (155, [some (.ref 29), some (.int l1), some (.int r1), some (.int r2)], [.int r1, .ref 1, .int (jn 1), .int l1, .ref 29])) (q2 := (158, [some (.ref 29), some (.int l1), some (.int r1), some (.int r2)], [.int (jn 1), .int l1, .ref 29])) (M := M3) (o := (pcl GG lay d 249 [.ref 1, .int r1] M3)) (hf := rfl) rfl rfl).trans ?_
    refine kI_in (fun r4 M4 => ?_)
    refine (evn_adv 1 (q' := (159, [some (.ref 29), some (.int l1), some (.int r1), some (.int r2)], [.int r2, .int r4, .int (jn 1), .int l1, .ref 29], M4)) rfl).trans ?_
    refine (e_kV (q := (159, [some (.ref 29), some (.int l1), some (.int r1), some (.int r2)], [.int r2, .int r4, .int (jn 1), .int l1, .ref 29])) (q2 := (162, [some (.ref 29), some (.int l1), some (.int r1), some (.int r2)], [])) (M := M4) (o := (pcl GG lay d 204 [.ref 29, .int l1, .int (jn 1), .int r4, .int r2] M4)) (hf := rfl) rfl rfl).trans ?_
    refine kV_in (fun M5 => ?_)
    exact evn_end 1 rfl
  refine sw_cons (lo := 4) (F := fun pc => E_206 d (pc, [some (.ref 29), some (.int l1), some (.int r1), some (.int r2)], [], M3)) (by decide) ?_ ?_
  · refine (evn_adv 6 (q' := (155, [some (.ref 29), some (.int l1), some (.int r1), some (.int r2)], [.int r1, .ref 1, .int (jn 1), .int l1, .ref 29], M3)) rfl).trans ?_
    refine (e_kI (q := (155, [some (.ref 29), some (.int l1), some (.int r1), some (.int r2)], [.int r1, .ref 1, .int (jn 1), .int l1, .ref 29])) (q2 := (158, [some (.ref 29), some (.int l1), some (.int r1), some (.int r2)], [.int (jn 1), .int l1, .ref 29])) (M := M3) (o := (pcl GG lay d 249 [.ref 1, .int r1] M3)) (hf := rfl) rfl rfl).trans ?_
    refine kI_in (fun r4 M4 => ?_)
    refine (evn_adv 1 (q' := (159, [some (.ref 29), some (.int l1), some (.int r1), some (.int r2)], [.int r2, .int r4, .int (jn 1), .int l1, .ref 29], M4)) rfl).trans ?_
    refine (e_kV (q := (159, [some (.ref 29), some (.int l1), some (.int r1), some (.int r2)], [.int r2, .int r4, .int (jn 1), .int l1, .ref 29])) (q2 := (162, [some (.ref 29), some (.int l1), some (.int r1), some (.int r2)], [])) (M := M4) (o := (pcl GG lay d 204 [.ref 29, .int l1, .int (jn 1), .int r4, .int r2] M4)) (hf := rfl) rfl rfl).trans ?_
    refine kV_in (fun M5 => ?_)
    exact evn_end 1 rfl
  refine sw_cons (lo := 5) (F := fun pc => E_206 d (pc, [some (.ref 29), some (.int l1), some (.int r1), some (.int r2)], [], M3)) (by decide) ?_ ?_
  · refine (evn_adv 6 (q' := (155, [some (.ref 29), some (.int l1), some (.int r1), some (.int r2)], [.int r1, .ref 1, .int (jn 1), .int l1, .ref 29], M3)) rfl).trans ?_
    refine (e_kI (q := (155, [some (.ref 29), some (.int l1), some (.int r1), some (.int r2)], [.int r1, .ref 1, .int (jn 1), .int l1, .ref 29])) (q2 := (158, [some (.ref 29), some (.int l1), some (.int r1), some (.int r2)], [.int (jn 1), .int l1, .ref 29])) (M := M3) (o := (pcl GG lay d 249 [.ref 1, .int r1] M3)) (hf := rfl) rfl rfl).trans ?_
    refine kI_in (fun r4 M4 => ?_)
    refine (evn_adv 1 (q' := (159, [some (.ref 29), some (.int l1), some (.int r1), some (.int r2)], [.int r2, .int r4, .int (jn 1), .int l1, .ref 29], M4)) rfl).trans ?_
    refine (e_kV (q := (159, [some (.ref 29), some (.int l1), some (.int r1), some (.int r2)], [.int r2, .int r4, .int (jn 1), .int l1, .ref 29])) (q2 := (162, [some (.ref 29), some (.int l1), some (.int r1), some (.int r2)], [])) (M := M4) (o := (pcl GG lay d 204 [.ref 29, .int l1, .int (jn 1), .int r4, .int r2] M4)) (hf := rfl) rfl rfl).trans ?_
    refine kV_in (fun M5 => ?_)
    exact evn_end 1 rfl
  refine sw_cons (lo := 6) (F := fun pc => E_206 d (pc, [some (.ref 29), some (.int l1), some (.int r1), some (.int r2)], [], M3)) (by decide) ?_ ?_
  · refine (evn_adv 2 (q' := (141, [some (.ref 29), some (.int l1), some (.int r1), some (.int r2)], [.int l1, .ref 29], M3)) rfl).trans ?_
    refine (e_kV (q := (141, [some (.ref 29), some (.int l1), some (.int r1), some (.int r2)], [.int l1, .ref 29])) (q2 := (144, [some (.ref 29), some (.int l1), some (.int r1), some (.int r2)], [])) (M := M3) (o := (pcl GG lay d 209 [.ref 29, .int l1] M3)) (hf := rfl) rfl rfl).trans ?_
    refine kV_in (fun M4 => ?_)
    refine (evn_adv 1 (q' := (162, [some (.ref 29), some (.int l1), some (.int r1), some (.int r2)], [], M4)) rfl).trans ?_
    exact evn_end 1 rfl
  refine sw_cons (lo := 7) (F := fun pc => E_206 d (pc, [some (.ref 29), some (.int l1), some (.int r1), some (.int r2)], [], M3)) (by decide) ?_ ?_
  · refine (evn_adv 2 (q' := (141, [some (.ref 29), some (.int l1), some (.int r1), some (.int r2)], [.int l1, .ref 29], M3)) rfl).trans ?_
    refine (e_kV (q := (141, [some (.ref 29), some (.int l1), some (.int r1), some (.int r2)], [.int l1, .ref 29])) (q2 := (144, [some (.ref 29), some (.int l1), some (.int r1), some (.int r2)], [])) (M := M3) (o := (pcl GG lay d 209 [.ref 29, .int l1] M3)) (hf := rfl) rfl rfl).trans ?_
    refine kV_in (fun M4 => ?_)
    refine (evn_adv 1 (q' := (162, [some (.ref 29), some (.int l1), some (.int r1), some (.int r2)], [], M4)) rfl).trans ?_
    exact evn_end 1 rfl
  refine sw_cons (lo := 8) (F := fun pc => E_206 d (pc, [some (.ref 29), some (.int l1), some (.int r1), some (.int r2)], [], M3)) (by decide) ?_ ?_
  · refine (evn_adv 2 (q' := (141, [some (.ref 29), some (.int l1), some (.int r1), some (.int r2)], [.int l1, .ref 29], M3)) rfl).trans ?_
    refine (e_kV (q := (141, [some (.ref 29), some (.int l1), some (.int r1), some (.int r2)], [.int l1, .ref 29])) (q2 := (144, [some (.ref 29), some (.int l1), some (.int r1), some (.int r2)], [])) (M := M3) (o := (pcl GG lay d 209 [.ref 29, .int l1] M3)) (hf := rfl) rfl rfl).trans ?_
    refine kV_in (fun M4 => ?_)
    refine (evn_adv 1 (q' := (162, [some (.ref 29), some (.int l1), some (.int r1), some (.int r2)], [], M4)) rfl).trans ?_
    exact evn_end 1 rfl
  refine sw_cons (lo := 9) (F := fun pc => E_206 d (pc, [some (.ref 29), some (.int l1), some (.int r1), some (.int r2)], [], M3)) (by decide) ?_ ?_
  · refine (evn_adv 2 (q' := (141, [some (.ref 29), some (.int l1), some (.int r1), some (.int r2)], [.int l1, .ref 29], M3)) rfl).trans ?_
    refine (e_kV (q := (141, [some (.ref 29), some (.int l1), some (.int r1), some (.int r2)], [.int l1, .ref 29])) (q2 := (144, [some (.ref 29), some (.int l1), some (.int r1), some (.int r2)], [])) (M := M3) (o := (pcl GG lay d 209 [.ref 29, .int l1] M3)) (hf := rfl) rfl rfl).trans ?_
    refine kV_in (fun M4 => ?_)
    refine (evn_adv 1 (q' := (162, [some (.ref 29), some (.int l1), some (.int r1), some (.int r2)], [], M4)) rfl).trans ?_
    exact evn_end 1 rfl
  refine sw_cons (lo := 10) (F := fun pc => E_206 d (pc, [some (.ref 29), some (.int l1), some (.int r1), some (.int r2)], [], M3)) (by decide) ?_ ?_
  · refine (evn_adv 6 (q' := (155, [some (.ref 29), some (.int l1), some (.int r1), some (.int r2)], [.int r1, .ref 1, .int (jn 1), .int l1, .ref 29], M3)) rfl).trans ?_
    refine (e_kI (q := (155, [some (.ref 29), some (.int l1), some (.int r1), some (.int r2)], [.int r1, .ref 1, .int (jn 1), .int l1, .ref 29])) (q2 := (158, [some (.ref 29), some (.int l1), some (.int r1), some (.int r2)], [.int (jn 1), .int l1, .ref 29])) (M := M3) (o := (pcl GG lay d 249 [.ref 1, .int r1] M3)) (hf := rfl) rfl rfl).trans ?_
    refine kI_in (fun r4 M4 => ?_)
    refine (evn_adv 1 (q' := (159, [some (.ref 29), some (.int l1), some (.int r1), some (.int r2)], [.int r2, .int r4, .int (jn 1), .int l1, .ref 29], M4)) rfl).trans ?_
    refine (e_kV (q := (159, [some (.ref 29), some (.int l1), some (.int r1), some (.int r2)], [.int r2, .int r4, .int (jn 1), .int l1, .ref 29])) (q2 := (162, [some (.ref 29), some (.int l1), some (.int r1), some (.int r2)], [])) (M := M4) (o := (pcl GG lay d 204 [.ref 29, .int l1, .int (jn 1), .int r4, .int r2] M4)) (hf := rfl) rfl rfl).trans ?_
    refine kV_in (fun M5 => ?_)
    exact evn_end 1 rfl
  refine sw_cons (lo := 11) (F := fun pc => E_206 d (pc, [some (.ref 29), some (.int l1), some (.int r1), some (.int r2)], [], M3)) (by decide) ?_ ?_
  · refine (evn_adv 6 (q' := (155, [some (.ref 29), some (.int l1), some (.int r1), some (.int r2)], [.int r1, .ref 1, .int (jn 1), .int l1, .ref 29], M3)) rfl).trans ?_
    refine (e_kI (q := (155, [some (.ref 29), some (.int l1), some (.int r1), some (.int r2)], [.int r1, .ref 1, .int (jn 1), .int l1, .ref 29])) (q2 := (158, [some (.ref 29), some (.int l1), some (.int r1), some (.int r2)], [.int (jn 1), .int l1, .ref 29])) (M := M3) (o := (pcl GG lay d 249 [.ref 1, .int r1] M3)) (hf := rfl) rfl rfl).trans ?_
    refine kI_in (fun r4 M4 => ?_)
    refine (evn_adv 1 (q' := (159, [some (.ref 29), some (.int l1), some (.int r1), some (.int r2)], [.int r2, .int r4, .int (jn 1), .int l1, .ref 29], M4)) rfl).trans ?_
    refine (e_kV (q := (159, [some (.ref 29), some (.int l1), some (.int r1), some (.int r2)], [.int r2, .int r4, .int (jn 1), .int l1, .ref 29])) (q2 := (162, [some (.ref 29), some (.int l1), some (.int r1), some (.int r2)], [])) (M := M4) (o := (pcl GG lay d 204 [.ref 29, .int l1, .int (jn 1), .int r4, .int r2] M4)) (hf := rfl) rfl rfl).trans ?_
    refine kV_in (fun M5 => ?_)
    exact evn_end 1 rfl
  refine sw_cons (lo := 12) (F := fun pc => E_206 d (pc, [some (.ref 29), some (.int l1), some (.int r1), some (.int r2)], [], M3)) (by decide) ?_ ?_
  · refine (evn_adv 2 (q' := (141, [some (.ref 29), some (.int l1), some (.int r1), some (.int r2)], [.int l1, .ref 29], M3)) rfl).trans ?_
    refine (e_kV (q := (141, [some (.ref 29), some (.int l1), some (.int r1), some (.int r2)], [.int l1, .ref 29])) (q2 := (144, [some (.ref 29), some (.int l1), some (.int r1), some (.int r2)], [])) (M := M3) (o := (pcl GG lay d 209 [.ref 29, .int l1] M3)) (hf := rfl) rfl rfl).trans ?_
    refine kV_in (fun M4 => ?_)
    refine (evn_adv 1 (q' := (162, [some (.ref 29), some (.int l1), some (.int r1), some (.int r2)], [], M4)) rfl).trans ?_
    exact evn_end 1 rfl
  show E_206 d (147, [some (.ref 29), some (.int l1), some (.int r1), some (.int r2)], [], M3) = _
  refine (evn_adv 6 (q' := (155, [some (.ref 29), some (.int l1), some (.int r1), some (.int r2)], [.int r1, .ref 1, .int (jn 1), .int l1, .ref 29], M3)) rfl).trans ?_
  refine (e_kI (q := (155, [some (.ref 29), some (.int l1), some (.int r1), some (.int r2)], [.int r1, .ref 1, .int (jn 1), .int l1, .ref 29])) (q2 := (158, [some (.ref 29), some (.int l1), some (.int r1), some (.int r2)], [.int (jn 1), .int l1, .ref 29])) (M := M3) (o := (pcl GG lay d 249 [.ref 1, .int r1] M3)) (hf := rfl) rfl rfl).trans ?_
  refine kI_in (fun r4 M4 => ?_)
  refine (evn_adv 1 (q' := (159, [some (.ref 29), some (.int l1), some (.int r1), some (.int r2)], [.int r2, .int r4, .int (jn 1), .int l1, .ref 29], M4)) rfl).trans ?_
  refine (e_kV (q := (159, [some (.ref 29), some (.int l1), some (.int r1), some (.int r2)], [.int r2, .int r4, .int (jn 1), .int l1, .ref 29])) (q2 := (162, [some (.ref 29), some (.int l1), some (.int r1), some (.int r2)], [])) (M := M4) (o := (pcl GG lay d 204 [.ref 29, .int l1, .int (jn 1), .int r4, .int r2] M4)) (hf := rfl) rfl rfl).trans ?_
  refine kV_in (fun M5 => ?_)
  exact evn_end 1 rfl
/-- TermStrategies$Runner.rewritten(IIJ)I -/
noncomputable abbrev E_207 (d : Nat) : PQ → PO := evn (rnn k_207 lay none (pcl GG lay d) 1)
theorem q_207 (d : Nat) (l1 : Int32) (l2 : Int32) (l3 : Int64) (M : PM) : pcl GG lay (d + 1) 207 [.ref 29, .int l1, .int l2, .long l3] M = (kI (pcl GG lay d 60 [.int l1] M) fun r1 M1 => (kI (pcl GG lay d 188 [.ref 26, .int r1, .int l2, .int (M1.1 1 8)] M1) fun r2 M2 => (if r2 = jn 0 then (rI (jz 1) M2) else (if (M2.1 29 13) < (jn 40) then (kI (pcl GG lay d 61 [.int l1] M2) fun r3 M3 => (kI (pcl GG lay d 194 [.ref 26, .int r3] M3) fun r4 M4 => (if (jn 40) < r4 then (wr (sI M4 29 (va_up (M4.1 29) 16 (jn 1))) fun M5 => (rI (jz 1) M5)) else (wr (sI M4 29 (va_up (M4.1 29) 13 ((M4.1 29 13) + (jn 1)))) fun M5 => (kV (pcl GG lay d 254 [.ref 30, .int l1, .long l3] M5) fun M6 => (kI (pcl GG lay d 61 [.int l1] M6) fun r7 M7 => (kI (pcl GG lay d 195 [.ref 26, .int r7, .int (M7.1 29 14)] M7) fun r8 M8 => (wr (sI M8 29 (va_up (M8.1 29) 14 r8)) fun M9 => (rI (M6.1 29 14) M9))))))))) else (wr (sI M2 29 (va_up (M2.1 29) 16 (jn 1))) fun M3 => (rI (jz 1) M3)))))) := by
  refine (pcl_un (mt := t_207) (by decide) rfl (Nat.le_of_ble_eq_true rfl)).trans ?_
  show E_207 d (0, [some (.ref 29), some (.int l1), some (.int l2), some (.long l3), none, none], [], M) = _
  refine (evn_adv 3 (q' := (5, [some (.ref 29), some (.int l1), some (.int l2), some (.long l3), none, none], [.int l1, .ref 26], M)) rfl).trans ?_
  refine (e_kI (q := (5, [some (.ref 29), some (.int l1), some (.int l2), some (.long l3), none, none], [.int l1, .ref 26])) (q2 := (8, [some (.ref 29), some (.int l1), some (.int l2), some (.long l3), none, none], [.ref 26])) (M := M) (o := (pcl GG lay d 60 [.int l1] M)) (hf := rfl) rfl rfl).trans ?_
  refine kI_in (fun r1 M1 => ?_)
  refine (evn_adv 4 (q' := (16, [some (.ref 29), some (.int l1), some (.int l2), some (.long l3), none, none], [.int (M1.1 1 8), .int l2, .int r1, .ref 26], M1)) rfl).trans ?_
  refine (e_kI (q := (16, [some (.ref 29), some (.int l1), some (.int l2), some (.long l3), none, none], [.int (M1.1 1 8), .int l2, .int r1, .ref 26])) (q2 := (19, [some (.ref 29), some (.int l1), some (.int l2), some (.long l3), none, none], [])) (M := M1) (o := (pcl GG lay d 188 [.ref 26, .int r1, .int l2, .int (M1.1 1 8)] M1)) (hf := rfl) rfl rfl).trans ?_
  refine kI_in (fun r2 M2 => ?_)
  refine (e_if_ne (hf := rfl)).trans ?_
  refine ite_in ?_ ?_
  · refine (evn_adv 1 (q' := (23, [some (.ref 29), some (.int l1), some (.int l2), some (.long l3), none, none], [.int (jz 1)], M2)) rfl).trans ?_
    exact evn_end 1 rfl
  · refine (evn_adv 3 (q' := (30, [some (.ref 29), some (.int l1), some (.int l2), some (.long l3), none, none], [.int (jn 40), .int (M2.1 29 13)], M2)) rfl).trans ?_
    refine (e_ic_ge (hf := rfl)).trans ?_
    refine ite_in ?_ ?_
    · refine (evn_adv 3 (q' := (38, [some (.ref 29), some (.int l1), some (.int l2), some (.long l3), none, none], [.int l1, .ref 26], M2)) rfl).trans ?_
      refine (e_kI (q := (38, [some (.ref 29), some (.int l1), some (.int l2), some (.long l3), none, none], [.int l1, .ref 26])) (q2 := (41, [some (.ref 29), some (.int l1), some (.int l2), some (.long l3), none, none], [.ref 26])) (M := M2) (o := (pcl GG lay d 61 [.int l1] M2)) (hf := rfl) rfl rfl).trans ?_
      refine kI_in (fun r3 M3 => ?_)
      refine (e_kI (q := (41, [some (.ref 29), some (.int l1), some (.int l2), some (.long l3), none, none], [.int r3, .ref 26])) (q2 := (44, [some (.ref 29), some (.int l1), some (.int l2), some (.long l3), none, none], [])) (M := M3) (o := (pcl GG lay d 194 [.ref 26, .int r3] M3)) (hf := rfl) rfl rfl).trans ?_
      refine kI_in (fun r4 M4 => ?_)
      refine (evn_adv 1 (q' := (46, [some (.ref 29), some (.int l1), some (.int l2), some (.long l3), none, none], [.int (jn 40), .int r4], M4)) rfl).trans ?_
      refine (e_ic_le (hf := rfl)).trans ?_
      refine ite_in ?_ ?_
      · refine (evn_adv 2 (q' := (51, [some (.ref 29), some (.int l1), some (.int l2), some (.long l3), none, none], [.int (jn 1), .ref 29], M4)) rfl).trans ?_
        refine (e_putz (q2 := (54, [some (.ref 29), some (.int l1), some (.int l2), some (.long l3), none, none], [])) (k := 29) (j := 16) rfl rfl).trans ?_
        refine (if_pos (Or.inr rfl)).trans ?_
        refine wr_in (f := fun M5 => E_207 d (54, [some (.ref 29), some (.int l1), some (.int l2), some (.long l3), none, none], [], M5)) (fun M5 => ?_)
        refine (evn_adv 1 (q' := (55, [some (.ref 29), some (.int l1), some (.int l2), some (.long l3), none, none], [.int (jz 1)], M5)) rfl).trans ?_
        exact evn_end 1 rfl
      · refine (evn_adv 5 (q' := (63, [some (.ref 29), some (.int l1), some (.int l2), some (.long l3), none, none], [.int ((M4.1 29 13) + (jn 1)), .ref 29], M4)) rfl).trans ?_
        refine (evn_adv 1 (q' := (66, [some (.ref 29), some (.int l1), some (.int l2), some (.long l3), none, none], [], (sI M4 29 (va_up (M4.1 29) 13 ((M4.1 29 13) + (jn 1)))))) rfl).trans ?_
        refine wr_in (f := fun M5 => E_207 d (66, [some (.ref 29), some (.int l1), some (.int l2), some (.long l3), none, none], [], M5)) (fun M5 => ?_)
        refine (evn_adv 4 (q' := (72, [some (.ref 29), some (.int l1), some (.int l2), some (.long l3), none, none], [.long l3, .int l1, .ref 30], M5)) rfl).trans ?_
        refine (e_kV (q := (72, [some (.ref 29), some (.int l1), some (.int l2), some (.long l3), none, none], [.long l3, .int l1, .ref 30])) (q2 := (75, [some (.ref 29), some (.int l1), some (.int l2), some (.long l3), none, none], [])) (M := M5) (o := (pcl GG lay d 254 [.ref 30, .int l1, .long l3] M5)) (hf := rfl) rfl rfl).trans ?_
        refine kV_in (fun M6 => ?_)
        refine (evn_adv 7 (q' := (87, [some (.ref 29), some (.int l1), some (.int l2), some (.long l3), none, some (.int (M6.1 29 14))], [.int l1, .ref 26, .ref 29], M6)) rfl).trans ?_
        refine (e_kI (q := (87, [some (.ref 29), some (.int l1), some (.int l2), some (.long l3), none, some (.int (M6.1 29 14))], [.int l1, .ref 26, .ref 29])) (q2 := (90, [some (.ref 29), some (.int l1), some (.int l2), some (.long l3), none, some (.int (M6.1 29 14))], [.ref 26, .ref 29])) (M := M6) (o := (pcl GG lay d 61 [.int l1] M6)) (hf := rfl) rfl rfl).trans ?_
        refine kI_in (fun r7 M7 => ?_)
        refine (evn_adv 2 (q' := (94, [some (.ref 29), some (.int l1), some (.int l2), some (.long l3), none, some (.int (M6.1 29 14))], [.int (M7.1 29 14), .int r7, .ref 26, .ref 29], M7)) rfl).trans ?_
        refine (e_kI (q := (94, [some (.ref 29), some (.int l1), some (.int l2), some (.long l3), none, some (.int (M6.1 29 14))], [.int (M7.1 29 14), .int r7, .ref 26, .ref 29])) (q2 := (97, [some (.ref 29), some (.int l1), some (.int l2), some (.long l3), none, some (.int (M6.1 29 14))], [.ref 29])) (M := M7) (o := (pcl GG lay d 195 [.ref 26, .int r7, .int (M7.1 29 14)] M7)) (hf := rfl) rfl rfl).trans ?_
        refine kI_in (fun r8 M8 => ?_)
        refine (evn_adv 1 (q' := (100, [some (.ref 29), some (.int l1), some (.int l2), some (.long l3), none, some (.int (M6.1 29 14))], [], (sI M8 29 (va_up (M8.1 29) 14 r8)))) rfl).trans ?_
        refine wr_in (f := fun M9 => E_207 d (100, [some (.ref 29), some (.int l1), some (.int l2), some (.long l3), none, some (.int (M6.1 29 14))], [], M9)) (fun M9 => ?_)
        refine (evn_adv 1 (q' := (102, [some (.ref 29), some (.int l1), some (.int l2), some (.long l3), none, some (.int (M6.1 29 14))], [.int (M6.1 29 14)], M9)) rfl).trans ?_
        exact evn_end 1 rfl
    · refine (evn_adv 2 (q' := (51, [some (.ref 29), some (.int l1), some (.int l2), some (.long l3), none, none], [.int (jn 1), .ref 29], M2)) rfl).trans ?_
      refine (e_putz (q2 := (54, [some (.ref 29), some (.int l1), some (.int l2), some (.long l3), none, none], [])) (k := 29) (j := 16) rfl rfl).trans ?_
      refine (if_pos (Or.inr rfl)).trans ?_
      refine wr_in (f := fun M3 => E_207 d (54, [some (.ref 29), some (.int l1), some (.int l2), some (.long l3), none, none], [], M3)) (fun M3 => ?_)
      refine (evn_adv 1 (q' := (55, [some (.ref 29), some (.int l1), some (.int l2), some (.long l3), none, none], [.int (jz 1)], M3)) rfl).trans ?_
      exact evn_end 1 rfl
