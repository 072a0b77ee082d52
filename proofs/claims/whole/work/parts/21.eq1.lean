/-- TermStrategies.row(III)I -/
noncomputable abbrev E_3 (d : Nat) : PQ → PO := evn (rnn k_3 lay none (pcl GG lay d) 1)
theorem q_3 (d : Nat) (l1 : Int32) (l2 : Int32) (l3 : Int32) (M : PM) : pcl GG lay (d + 1) 3 [.ref 0, .int l1, .int l2, .int l3] M = (kI (pcl GG lay d 217 [.int l1] M) fun r1 M1 => (if r1 = jn 0 then (kI (pcl GG lay d 56 [.ref 0, .int (jz 1)] M1) fun r2 M2 => (rI r2 M2)) else (if l3 < jn 0 then (kI (pcl GG lay d 56 [.ref 0, .int (jz 4)] M1) fun r2 M2 => (rI r2 M2)) else (if l2 < jn 0 then (kI (pcl GG lay d 56 [.ref 0, .int (jz 6)] M1) fun r2 M2 => (rI r2 M2)) else (if l2 < (jn 4) then (if (jn 160) < l3 then (kI (pcl GG lay d 56 [.ref 0, .int (jz 7)] M1) fun r2 M2 => (rI r2 M2)) else (kV (pcl GG lay d 223 [.ref 15, .int l1, .int l2, .int l3] M1) fun M2 => (rI (jn 1) M2))) else (kI (pcl GG lay d 56 [.ref 0, .int (jz 6)] M1) fun r2 M2 => (rI r2 M2))))))) := by
  refine (pcl_un (mt := t_3) (by decide) rfl (Nat.le_of_ble_eq_true rfl)).trans ?_
  show E_3 d (0, [some (.ref 0), some (.int l1), some (.int l2), some (.int l3)], [], M) = _
  refine (evn_adv 1 (q' := (1, [some (.ref 0), some (.int l1), some (.int l2), some (.int l3)], [.int l1], M)) rfl).trans ?_
  refine (e_kI (q := (1, [some (.ref 0), some (.int l1), some (.int l2), some (.int l3)], [.int l1])) (q2 := (4, [some (.ref 0), some (.int l1), some (.int l2), some (.int l3)], [])) (M := M) (o := (pcl GG lay d 217 [.int l1] M)) (hf := rfl) rfl rfl).trans ?_
  refine kI_in (fun r1 M1 => ?_)
  refine (e_if_ne (hf := rfl)).trans ?_
  refine ite_in ?_ ?_
  · refine (evn_adv 2 (q' := (9, [some (.ref 0), some (.int l1), some (.int l2), some (.int l3)], [.int (jz 1), .ref 0], M1)) rfl).trans ?_
    refine (e_kI (q := (9, [some (.ref 0), some (.int l1), some (.int l2), some (.int l3)], [.int (jz 1), .ref 0])) (q2 := (12, [some (.ref 0), some (.int l1), some (.int l2), some (.int l3)], [])) (M := M1) (o := (pcl GG lay d 56 [.ref 0, .int (jz 1)] M1)) (hf := rfl) rfl rfl).trans ?_
    refine kI_in (fun r2 M2 => ?_)
    exact evn_end 1 rfl
  · refine (evn_adv 1 (q' := (14, [some (.ref 0), some (.int l1), some (.int l2), some (.int l3)], [.int l3], M1)) rfl).trans ?_
    refine (e_if_ge (hf := rfl)).trans ?_
    refine ite_in ?_ ?_
    · refine (evn_adv 2 (q' := (20, [some (.ref 0), some (.int l1), some (.int l2), some (.int l3)], [.int (jz 4), .ref 0], M1)) rfl).trans ?_
      refine (e_kI (q := (20, [some (.ref 0), some (.int l1), some (.int l2), some (.int l3)], [.int (jz 4), .ref 0])) (q2 := (23, [some (.ref 0), some (.int l1), some (.int l2), some (.int l3)], [])) (M := M1) (o := (pcl GG lay d 56 [.ref 0, .int (jz 4)] M1)) (hf := rfl) rfl rfl).trans ?_
      refine kI_in (fun r2 M2 => ?_)
      exact evn_end 1 rfl
    · refine (evn_adv 1 (q' := (25, [some (.ref 0), some (.int l1), some (.int l2), some (.int l3)], [.int l2], M1)) rfl).trans ?_
      refine (e_if_lt (hf := rfl)).trans ?_
      refine ite_in ?_ ?_
      · refine (evn_adv 2 (q' := (36, [some (.ref 0), some (.int l1), some (.int l2), some (.int l3)], [.int (jz 6), .ref 0], M1)) rfl).trans ?_
        refine (e_kI (q := (36, [some (.ref 0), some (.int l1), some (.int l2), some (.int l3)], [.int (jz 6), .ref 0])) (q2 := (39, [some (.ref 0), some (.int l1), some (.int l2), some (.int l3)], [])) (M := M1) (o := (pcl GG lay d 56 [.ref 0, .int (jz 6)] M1)) (hf := rfl) rfl rfl).trans ?_
        refine kI_in (fun r2 M2 => ?_)
        exact evn_end 1 rfl
      · refine (evn_adv 2 (q' := (30, [some (.ref 0), some (.int l1), some (.int l2), some (.int l3)], [.int (jn 4), .int l2], M1)) rfl).trans ?_
        refine (e_ic_lt (hf := rfl)).trans ?_
        refine ite_in ?_ ?_
        · refine (evn_adv 2 (q' := (44, [some (.ref 0), some (.int l1), some (.int l2), some (.int l3)], [.int (jn 160), .int l3], M1)) rfl).trans ?_
          refine (e_ic_le (hf := rfl)).trans ?_
          refine ite_in ?_ ?_
          · refine (evn_adv 2 (q' := (50, [some (.ref 0), some (.int l1), some (.int l2), some (.int l3)], [.int (jz 7), .ref 0], M1)) rfl).trans ?_
            refine (e_kI (q := (50, [some (.ref 0), some (.int l1), some (.int l2), some (.int l3)], [.int (jz 7), .ref 0])) (q2 := (53, [some (.ref 0), some (.int l1), some (.int l2), some (.int l3)], [])) (M := M1) (o := (pcl GG lay d 56 [.ref 0, .int (jz 7)] M1)) (hf := rfl) rfl rfl).trans ?_
            refine kI_in (fun r2 M2 => ?_)
            exact evn_end 1 rfl
          · refine (evn_adv 5 (q' := (61, [some (.ref 0), some (.int l1), some (.int l2), some (.int l3)], [.int l3, .int l2, .int l1, .ref 15], M1)) rfl).trans ?_
            refine (e_kV (q := (61, [some (.ref 0), some (.int l1), some (.int l2), some (.int l3)], [.int l3, .int l2, .int l1, .ref 15])) (q2 := (64, [some (.ref 0), some (.int l1), some (.int l2), some (.int l3)], [])) (M := M1) (o := (pcl GG lay d 223 [.ref 15, .int l1, .int l2, .int l3] M1)) (hf := rfl) rfl rfl).trans ?_
            refine kV_in (fun M2 => ?_)
            refine (evn_adv 1 (q' := (65, [some (.ref 0), some (.int l1), some (.int l2), some (.int l3)], [.int (jn 1)], M2)) rfl).trans ?_
            exact evn_end 1 rfl
        · refine (evn_adv 2 (q' := (36, [some (.ref 0), some (.int l1), some (.int l2), some (.int l3)], [.int (jz 6), .ref 0], M1)) rfl).trans ?_
          refine (e_kI (q := (36, [some (.ref 0), some (.int l1), some (.int l2), some (.int l3)], [.int (jz 6), .ref 0])) (q2 := (39, [some (.ref 0), some (.int l1), some (.int l2), some (.int l3)], [])) (M := M1) (o := (pcl GG lay d 56 [.ref 0, .int (jz 6)] M1)) (hf := rfl) rfl rfl).trans ?_
          refine kI_in (fun r2 M2 => ?_)
          exact evn_end 1 rfl
/-- TermStrategies.set(IIJ)I -/
noncomputable abbrev E_4 (d : Nat) : PQ → PO := evn (rnn k_4 lay none (pcl GG lay d) 1)
theorem q_4 (d : Nat) (l1 : Int32) (l2 : Int32) (l3 : Int64) (M : PM) : pcl GG lay (d + 1) 4 [.ref 0, .int l1, .int l2, .long l3] M = (kI (pcl GG lay d 221 [.ref 15, .int l1] M) fun r1 M1 => (if r1 = jn 0 then (if l2 < jn 0 then (kI (pcl GG lay d 56 [.ref 0, .int (jz 5)] M1) fun r2 M2 => (rI r2 M2)) else (kI (pcl GG lay d 222 [.ref 15, .int l1] M1) fun r2 M2 => (if l2 < r2 then (kV (pcl GG lay d 227 [.ref 15, .int l1, .int l2, .long l3] M2) fun M3 => (rI (jn 1) M3)) else (kI (pcl GG lay d 56 [.ref 0, .int (jz 5)] M2) fun r3 M3 => (rI r3 M3))))) else (kI (pcl GG lay d 56 [.ref 0, .int r1] M1) fun r2 M2 => (rI r2 M2)))) := by
  refine (pcl_un (mt := t_4) (by decide) rfl (Nat.le_of_ble_eq_true rfl)).trans ?_
  show E_4 d (0, [some (.ref 0), some (.int l1), some (.int l2), some (.long l3), none, none], [], M) = _
  refine (evn_adv 3 (q' := (5, [some (.ref 0), some (.int l1), some (.int l2), some (.long l3), none, none], [.int l1, .ref 15], M)) rfl).trans ?_
  refine (e_kI (q := (5, [some (.ref 0), some (.int l1), some (.int l2), some (.long l3), none, none], [.int l1, .ref 15])) (q2 := (8, [some (.ref 0), some (.int l1), some (.int l2), some (.long l3), none, none], [])) (M := M) (o := (pcl GG lay d 221 [.ref 15, .int l1] M)) (hf := rfl) rfl rfl).trans ?_
  refine kI_in (fun r1 M1 => ?_)
  refine (evn_adv 2 (q' := (12, [some (.ref 0), some (.int l1), some (.int l2), some (.long l3), none, some (.int r1)], [.int r1], M1)) rfl).trans ?_
  refine (e_if_eq (hf := rfl)).trans ?_
  refine ite_in ?_ ?_
  · refine (evn_adv 1 (q' := (23, [some (.ref 0), some (.int l1), some (.int l2), some (.long l3), none, some (.int r1)], [.int l2], M1)) rfl).trans ?_
    refine (e_if_lt (hf := rfl)).trans ?_
    refine ite_in ?_ ?_
    · refine (evn_adv 2 (q' := (41, [some (.ref 0), some (.int l1), some (.int l2), some (.long l3), none, some (.int r1)], [.int (jz 5), .ref 0], M1)) rfl).trans ?_
      refine (e_kI (q := (41, [some (.ref 0), some (.int l1), some (.int l2), some (.long l3), none, some (.int r1)], [.int (jz 5), .ref 0])) (q2 := (44, [some (.ref 0), some (.int l1), some (.int l2), some (.long l3), none, some (.int r1)], [])) (M := M1) (o := (pcl GG lay d 56 [.ref 0, .int (jz 5)] M1)) (hf := rfl) rfl rfl).trans ?_
      refine kI_in (fun r2 M2 => ?_)
      exact evn_end 1 rfl
    · refine (evn_adv 4 (q' := (32, [some (.ref 0), some (.int l1), some (.int l2), some (.long l3), none, some (.int r1)], [.int l1, .ref 15, .int l2], M1)) rfl).trans ?_
      refine (e_kI (q := (32, [some (.ref 0), some (.int l1), some (.int l2), some (.long l3), none, some (.int r1)], [.int l1, .ref 15, .int l2])) (q2 := (35, [some (.ref 0), some (.int l1), some (.int l2), some (.long l3), none, some (.int r1)], [.int l2])) (M := M1) (o := (pcl GG lay d 222 [.ref 15, .int l1] M1)) (hf := rfl) rfl rfl).trans ?_
      refine kI_in (fun r2 M2 => ?_)
      refine (e_ic_lt (hf := rfl)).trans ?_
      refine ite_in ?_ ?_
      · refine (evn_adv 5 (q' := (52, [some (.ref 0), some (.int l1), some (.int l2), some (.long l3), none, some (.int r1)], [.long l3, .int l2, .int l1, .ref 15], M2)) rfl).trans ?_
        refine (e_kV (q := (52, [some (.ref 0), some (.int l1), some (.int l2), some (.long l3), none, some (.int r1)], [.long l3, .int l2, .int l1, .ref 15])) (q2 := (55, [some (.ref 0), some (.int l1), some (.int l2), some (.long l3), none, some (.int r1)], [])) (M := M2) (o := (pcl GG lay d 227 [.ref 15, .int l1, .int l2, .long l3] M2)) (hf := rfl) rfl rfl).trans ?_
        refine kV_in (fun M3 => ?_)
        refine (evn_adv 1 (q' := (56, [some (.ref 0), some (.int l1), some (.int l2), some (.long l3), none, some (.int r1)], [.int (jn 1)], M3)) rfl).trans ?_
        exact evn_end 1 rfl
      · refine (evn_adv 2 (q' := (41, [some (.ref 0), some (.int l1), some (.int l2), some (.long l3), none, some (.int r1)], [.int (jz 5), .ref 0], M2)) rfl).trans ?_
        refine (e_kI (q := (41, [some (.ref 0), some (.int l1), some (.int l2), some (.long l3), none, some (.int r1)], [.int (jz 5), .ref 0])) (q2 := (44, [some (.ref 0), some (.int l1), some (.int l2), some (.long l3), none, some (.int r1)], [])) (M := M2) (o := (pcl GG lay d 56 [.ref 0, .int (jz 5)] M2)) (hf := rfl) rfl rfl).trans ?_
        refine kI_in (fun r3 M3 => ?_)
        exact evn_end 1 rfl
  · refine (evn_adv 2 (q' := (18, [some (.ref 0), some (.int l1), some (.int l2), some (.long l3), none, some (.int r1)], [.int r1, .ref 0], M1)) rfl).trans ?_
    refine (e_kI (q := (18, [some (.ref 0), some (.int l1), some (.int l2), some (.long l3), none, some (.int r1)], [.int r1, .ref 0])) (q2 := (21, [some (.ref 0), some (.int l1), some (.int l2), some (.long l3), none, some (.int r1)], [])) (M := M1) (o := (pcl GG lay d 56 [.ref 0, .int r1] M1)) (hf := rfl) rfl rfl).trans ?_
    refine kI_in (fun r2 M2 => ?_)
    exact evn_end 1 rfl
/-- TermStrategies.copy(IIIII)I -/
noncomputable abbrev E_5 (d : Nat) : PQ → PO := evn (rnn k_5 lay none (pcl GG lay d) 1)
theorem q_5 (d : Nat) (l1 : Int32) (l2 : Int32) (l3 : Int32) (l4 : Int32) (l5 : Int32) (M : PM) : pcl GG lay (d + 1) 5 [.ref 0, .int l1, .int l2, .int l3, .int l4, .int l5] M = (kI (pcl GG lay d 6 [.ref 0, .int l1, .int l2] M) fun r1 M1 => (if r1 = jn 0 then (if l5 < jn 0 then (kI (pcl GG lay d 56 [.ref 0, .int (jz 4)] M1) fun r2 M2 => (rI r2 M2)) else (if l3 < jn 0 then (kI (pcl GG lay d 56 [.ref 0, .int (jz 5)] M1) fun r2 M2 => (rI r2 M2)) else (if l4 < jn 0 then (kI (pcl GG lay d 56 [.ref 0, .int (jz 5)] M1) fun r2 M2 => (rI r2 M2)) else (kI (pcl GG lay d 222 [.ref 15, .int l1] M1) fun r2 M2 => (if jn 0 < (lg_cmp ((l3.toInt64) + (l5.toInt64)) (r2.toInt64)) then (kI (pcl GG lay d 56 [.ref 0, .int (jz 5)] M2) fun r3 M3 => (rI r3 M3)) else (kI (pcl GG lay d 222 [.ref 15, .int l2] M2) fun r3 M3 => (if jn 0 < (lg_cmp ((l4.toInt64) + (l5.toInt64)) (r3.toInt64)) then (kI (pcl GG lay d 56 [.ref 0, .int (jz 5)] M3) fun r4 M4 => (rI r4 M4)) else (kV (pcl GG lay d 229 [.ref 15, .int l1, .int l2, .int l3, .int l4, .int l5] M3) fun M4 => (rI (jn 1) M4))))))))) else (kI (pcl GG lay d 56 [.ref 0, .int r1] M1) fun r2 M2 => (rI r2 M2)))) := by
  refine (pcl_un (mt := t_5) (by decide) rfl (Nat.le_of_ble_eq_true rfl)).trans ?_
  show E_5 d (0, [some (.ref 0), some (.int l1), some (.int l2), some (.int l3), some (.int l4), some (.int l5), none], [], M) = _
  refine (evn_adv 3 (q' := (3, [some (.ref 0), some (.int l1), some (.int l2), some (.int l3), some (.int l4), some (.int l5), none], [.int l2, .int l1, .ref 0], M)) rfl).trans ?_
  refine (e_kI (q := (3, [some (.ref 0), some (.int l1), some (.int l2), some (.int l3), some (.int l4), some (.int l5), none], [.int l2, .int l1, .ref 0])) (q2 := (6, [some (.ref 0), some (.int l1), some (.int l2), some (.int l3), some (.int l4), some (.int l5), none], [])) (M := M) (o := (pcl GG lay d 6 [.ref 0, .int l1, .int l2] M)) (hf := rfl) rfl rfl).trans ?_
  refine kI_in (fun r1 M1 => ?_)
  refine (evn_adv 2 (q' := (10, [some (.ref 0), some (.int l1), some (.int l2), some (.int l3), some (.int l4), some (.int l5), some (.int r1)], [.int r1], M1)) rfl).trans ?_
  refine (e_if_eq (hf := rfl)).trans ?_
  refine ite_in ?_ ?_
  · refine (evn_adv 1 (q' := (22, [some (.ref 0), some (.int l1), some (.int l2), some (.int l3), some (.int l4), some (.int l5), some (.int r1)], [.int l5], M1)) rfl).trans ?_
    refine (e_if_ge (hf := rfl)).trans ?_
    refine ite_in ?_ ?_
    · refine (evn_adv 2 (q' := (28, [some (.ref 0), some (.int l1), some (.int l2), some (.int l3), some (.int l4), some (.int l5), some (.int r1)], [.int (jz 4), .ref 0], M1)) rfl).trans ?_
      refine (e_kI (q := (28, [some (.ref 0), some (.int l1), some (.int l2), some (.int l3), some (.int l4), some (.int l5), some (.int r1)], [.int (jz 4), .ref 0])) (q2 := (31, [some (.ref 0), some (.int l1), some (.int l2), some (.int l3), some (.int l4), some (.int l5), some (.int r1)], [])) (M := M1) (o := (pcl GG lay d 56 [.ref 0, .int (jz 4)] M1)) (hf := rfl) rfl rfl).trans ?_
      refine kI_in (fun r2 M2 => ?_)
      exact evn_end 1 rfl
    · refine (evn_adv 1 (q' := (33, [some (.ref 0), some (.int l1), some (.int l2), some (.int l3), some (.int l4), some (.int l5), some (.int r1)], [.int l3], M1)) rfl).trans ?_
      refine (e_if_lt (hf := rfl)).trans ?_
      refine ite_in ?_ ?_
      · refine (evn_adv 2 (q' := (83, [some (.ref 0), some (.int l1), some (.int l2), some (.int l3), some (.int l4), some (.int l5), some (.int r1)], [.int (jz 5), .ref 0], M1)) rfl).trans ?_
        refine (e_kI (q := (83, [some (.ref 0), some (.int l1), some (.int l2), some (.int l3), some (.int l4), some (.int l5), some (.int r1)], [.int (jz 5), .ref 0])) (q2 := (86, [some (.ref 0), some (.int l1), some (.int l2), some (.int l3), some (.int l4), some (.int l5), some (.int r1)], [])) (M := M1) (o := (pcl GG lay d 56 [.ref 0, .int (jz 5)] M1)) (hf := rfl) rfl rfl).trans ?_
        refine kI_in (fun r2 M2 => ?_)
        exact evn_end 1 rfl
      · refine (evn_adv 1 (q' := (38, [some (.ref 0), some (.int l1), some (.int l2), some (.int l3), some (.int l4), some (.int l5), some (.int r1)], [.int l4], M1)) rfl).trans ?_
        refine (e_if_lt (hf := rfl)).trans ?_
        refine ite_in ?_ ?_
        · refine (evn_adv 2 (q' := (83, [some (.ref 0), some (.int l1), some (.int l2), some (.int l3), some (.int l4), some (.int l5), some (.int r1)], [.int (jz 5), .ref 0], M1)) rfl).trans ?_
          refine (e_kI (q := (83, [some (.ref 0), some (.int l1), some (.int l2), some (.int l3), some (.int l4), some (.int l5), some (.int r1)], [.int (jz 5), .ref 0])) (q2 := (86, [some (.ref 0), some (.int l1), some (.int l2), some (.int l3), some (.int l4), some (.int l5), some (.int r1)], [])) (M := M1) (o := (pcl GG lay d 56 [.ref 0, .int (jz 5)] M1)) (hf := rfl) rfl rfl).trans ?_
          refine kI_in (fun r2 M2 => ?_)
          exact evn_end 1 rfl
        · refine (evn_adv 8 (q' := (52, [some (.ref 0), some (.int l1), some (.int l2), some (.int l3), some (.int l4), some (.int l5), some (.int r1)], [.int l1, .ref 15, .long ((l3.toInt64) + (l5.toInt64))], M1)) rfl).trans ?_
          refine (e_kI (q := (52, [some (.ref 0), some (.int l1), some (.int l2), some (.int l3), some (.int l4), some (.int l5), some (.int r1)], [.int l1, .ref 15, .long ((l3.toInt64) + (l5.toInt64))])) (q2 := (55, [some (.ref 0), some (.int l1), some (.int l2), some (.int l3), some (.int l4), some (.int l5), some (.int r1)], [.long ((l3.toInt64) + (l5.toInt64))])) (M := M1) (o := (pcl GG lay d 222 [.ref 15, .int l1] M1)) (hf := rfl) rfl rfl).trans ?_
          refine kI_in (fun r2 M2 => ?_)
          refine (evn_adv 2 (q' := (57, [some (.ref 0), some (.int l1), some (.int l2), some (.int l3), some (.int l4), some (.int l5), some (.int r1)], [.int (lg_cmp ((l3.toInt64) + (l5.toInt64)) (r2.toInt64))], M2)) rfl).trans ?_
          refine (e_if_gt (hf := rfl)).trans ?_
          refine ite_in ?_ ?_
          · refine (evn_adv 2 (q' := (83, [some (.ref 0), some (.int l1), some (.int l2), some (.int l3), some (.int l4), some (.int l5), some (.int r1)], [.int (jz 5), .ref 0], M2)) rfl).trans ?_
            refine (e_kI (q := (83, [some (.ref 0), some (.int l1), some (.int l2), some (.int l3), some (.int l4), some (.int l5), some (.int r1)], [.int (jz 5), .ref 0])) (q2 := (86, [some (.ref 0), some (.int l1), some (.int l2), some (.int l3), some (.int l4), some (.int l5), some (.int r1)], [])) (M := M2) (o := (pcl GG lay d 56 [.ref 0, .int (jz 5)] M2)) (hf := rfl) rfl rfl).trans ?_
            refine kI_in (fun r3 M3 => ?_)
            exact evn_end 1 rfl
          · refine (evn_adv 8 (q' := (72, [some (.ref 0), some (.int l1), some (.int l2), some (.int l3), some (.int l4), some (.int l5), some (.int r1)], [.int l2, .ref 15, .long ((l4.toInt64) + (l5.toInt64))], M2)) rfl).trans ?_
            refine (e_kI (q := (72, [some (.ref 0), some (.int l1), some (.int l2), some (.int l3), some (.int l4), some (.int l5), some (.int r1)], [.int l2, .ref 15, .long ((l4.toInt64) + (l5.toInt64))])) (q2 := (75, [some (.ref 0), some (.int l1), some (.int l2), some (.int l3), some (.int l4), some (.int l5), some (.int r1)], [.long ((l4.toInt64) + (l5.toInt64))])) (M := M2) (o := (pcl GG lay d 222 [.ref 15, .int l2] M2)) (hf := rfl) rfl rfl).trans ?_
            refine kI_in (fun r3 M3 => ?_)
            refine (evn_adv 2 (q' := (77, [some (.ref 0), some (.int l1), some (.int l2), some (.int l3), some (.int l4), some (.int l5), some (.int r1)], [.int (lg_cmp ((l4.toInt64) + (l5.toInt64)) (r3.toInt64))], M3)) rfl).trans ?_
            refine (e_if_le (hf := rfl)).trans ?_
            refine ite_in ?_ ?_
            · refine (evn_adv 2 (q' := (83, [some (.ref 0), some (.int l1), some (.int l2), some (.int l3), some (.int l4), some (.int l5), some (.int r1)], [.int (jz 5), .ref 0], M3)) rfl).trans ?_
              refine (e_kI (q := (83, [some (.ref 0), some (.int l1), some (.int l2), some (.int l3), some (.int l4), some (.int l5), some (.int r1)], [.int (jz 5), .ref 0])) (q2 := (86, [some (.ref 0), some (.int l1), some (.int l2), some (.int l3), some (.int l4), some (.int l5), some (.int r1)], [])) (M := M3) (o := (pcl GG lay d 56 [.ref 0, .int (jz 5)] M3)) (hf := rfl) rfl rfl).trans ?_
              refine kI_in (fun r4 M4 => ?_)
              exact evn_end 1 rfl
            · refine (evn_adv 7 (q' := (98, [some (.ref 0), some (.int l1), some (.int l2), some (.int l3), some (.int l4), some (.int l5), some (.int r1)], [.int l5, .int l4, .int l3, .int l2, .int l1, .ref 15], M3)) rfl).trans ?_
              refine (e_kV (q := (98, [some (.ref 0), some (.int l1), some (.int l2), some (.int l3), some (.int l4), some (.int l5), some (.int r1)], [.int l5, .int l4, .int l3, .int l2, .int l1, .ref 15])) (q2 := (101, [some (.ref 0), some (.int l1), some (.int l2), some (.int l3), some (.int l4), some (.int l5), some (.int r1)], [])) (M := M3) (o := (pcl GG lay d 229 [.ref 15, .int l1, .int l2, .int l3, .int l4, .int l5] M3)) (hf := rfl) rfl rfl).trans ?_
              refine kV_in (fun M4 => ?_)
              refine (evn_adv 1 (q' := (102, [some (.ref 0), some (.int l1), some (.int l2), some (.int l3), some (.int l4), some (.int l5), some (.int r1)], [.int (jn 1)], M4)) rfl).trans ?_
              exact evn_end 1 rfl
  · refine (evn_adv 2 (q' := (16, [some (.ref 0), some (.int l1), some (.int l2), some (.int l3), some (.int l4), some (.int l5), some (.int r1)], [.int r1, .ref 0], M1)) rfl).trans ?_
    refine (e_kI (q := (16, [some (.ref 0), some (.int l1), some (.int l2), some (.int l3), some (.int l4), some (.int l5), some (.int r1)], [.int r1, .ref 0])) (q2 := (19, [some (.ref 0), some (.int l1), some (.int l2), some (.int l3), some (.int l4), some (.int l5), some (.int r1)], [])) (M := M1) (o := (pcl GG lay d 56 [.ref 0, .int r1] M1)) (hf := rfl) rfl rfl).trans ?_
    refine kI_in (fun r2 M2 => ?_)
    exact evn_end 1 rfl
/-- TermStrategies.copyRefusal(II)I -/
noncomputable abbrev E_6 (d : Nat) : PQ → PO := evn (rnn k_6 lay none (pcl GG lay d) 1)
theorem q_6 (d : Nat) (l1 : Int32) (l2 : Int32) (M : PM) : pcl GG lay (d + 1) 6 [.ref 0, .int l1, .int l2] M = (kI (pcl GG lay d 217 [.int l1] M) fun r1 M1 => (if r1 = jn 0 then (rI (jz 1) M1) else (kI (pcl GG lay d 217 [.int l2] M1) fun r2 M2 => (if r2 = jn 0 then (rI (jz 1) M2) else (kI (pcl GG lay d 220 [.ref 15, .int l1] M2) fun r3 M3 => (if r3 = jn 0 then (kI (pcl GG lay d 220 [.ref 15, .int l2] M3) fun r4 M4 => (if r4 = jn 0 then (kI (pcl GG lay d 218 [.ref 15, .int l1] M4) fun r5 M5 => (if r5 = (jz 1) then (rI (jz 3) M5) else (kI (pcl GG lay d 218 [.ref 15, .int l2] M5) fun r6 M6 => (if r6 = (jz 1) then (rI (jz 3) M6) else (kI (pcl GG lay d 218 [.ref 15, .int l1] M6) fun r7 M7 => (kI (pcl GG lay d 218 [.ref 15, .int l2] M7) fun r8 M8 => (if r7 = r8 then (rI (jn 0) M8) else (rI (jz 2) M8)))))))) else (rI (jz 2) M4))) else (rI (jz 2) M3))))))) := by
  refine (pcl_un (mt := t_6) (by decide) rfl (Nat.le_of_ble_eq_true rfl)).trans ?_
  show E_6 d (0, [some (.ref 0), some (.int l1), some (.int l2)], [], M) = _
  refine (evn_adv 1 (q' := (1, [some (.ref 0), some (.int l1), some (.int l2)], [.int l1], M)) rfl).trans ?_
  refine (e_kI (q := (1, [some (.ref 0), some (.int l1), some (.int l2)], [.int l1])) (q2 := (4, [some (.ref 0), some (.int l1), some (.int l2)], [])) (M := M) (o := (pcl GG lay d 217 [.int l1] M)) (hf := rfl) rfl rfl).trans ?_
  refine kI_in (fun r1 M1 => ?_)
  refine (e_if_eq (hf := rfl)).trans ?_
  refine ite_in ?_ ?_
  · refine (evn_adv 1 (q' := (15, [some (.ref 0), some (.int l1), some (.int l2)], [.int (jz 1)], M1)) rfl).trans ?_
    exact evn_end 1 rfl
  · refine (evn_adv 1 (q' := (8, [some (.ref 0), some (.int l1), some (.int l2)], [.int l2], M1)) rfl).trans ?_
    refine (e_kI (q := (8, [some (.ref 0), some (.int l1), some (.int l2)], [.int l2])) (q2 := (11, [some (.ref 0), some (.int l1), some (.int l2)], [])) (M := M1) (o := (pcl GG lay d 217 [.int l2] M1)) (hf := rfl) rfl rfl).trans ?_
    refine kI_in (fun r2 M2 => ?_)
    refine (e_if_ne (hf := rfl)).trans ?_
    refine ite_in ?_ ?_
    · refine (evn_adv 1 (q' := (15, [some (.ref 0), some (.int l1), some (.int l2)], [.int (jz 1)], M2)) rfl).trans ?_
      exact evn_end 1 rfl
    · refine (evn_adv 3 (q' := (21, [some (.ref 0), some (.int l1), some (.int l2)], [.int l1, .ref 15], M2)) rfl).trans ?_
      refine (e_kI (q := (21, [some (.ref 0), some (.int l1), some (.int l2)], [.int l1, .ref 15])) (q2 := (24, [some (.ref 0), some (.int l1), some (.int l2)], [])) (M := M2) (o := (pcl GG lay d 220 [.ref 15, .int l1] M2)) (hf := rfl) rfl rfl).trans ?_
      refine kI_in (fun r3 M3 => ?_)
      refine (e_if_ne (hf := rfl)).trans ?_
      refine ite_in ?_ ?_
      · refine (evn_adv 3 (q' := (32, [some (.ref 0), some (.int l1), some (.int l2)], [.int l2, .ref 15], M3)) rfl).trans ?_
        refine (e_kI (q := (32, [some (.ref 0), some (.int l1), some (.int l2)], [.int l2, .ref 15])) (q2 := (35, [some (.ref 0), some (.int l1), some (.int l2)], [])) (M := M3) (o := (pcl GG lay d 220 [.ref 15, .int l2] M3)) (hf := rfl) rfl rfl).trans ?_
        refine kI_in (fun r4 M4 => ?_)
        refine (e_if_eq (hf := rfl)).trans ?_
        refine ite_in ?_ ?_
        · refine (evn_adv 3 (q' := (46, [some (.ref 0), some (.int l1), some (.int l2)], [.int l1, .ref 15], M4)) rfl).trans ?_
          refine (e_kI (q := (46, [some (.ref 0), some (.int l1), some (.int l2)], [.int l1, .ref 15])) (q2 := (49, [some (.ref 0), some (.int l1), some (.int l2)], [])) (M := M4) (o := (pcl GG lay d 218 [.ref 15, .int l1] M4)) (hf := rfl) rfl rfl).trans ?_
          refine kI_in (fun r5 M5 => ?_)
          refine (evn_adv 1 (q' := (50, [some (.ref 0), some (.int l1), some (.int l2)], [.int (jz 1), .int r5], M5)) rfl).trans ?_
          refine (e_ic_eq (hf := rfl)).trans ?_
          refine ite_in ?_ ?_
          · refine (evn_adv 1 (q' := (67, [some (.ref 0), some (.int l1), some (.int l2)], [.int (jz 3)], M5)) rfl).trans ?_
            exact evn_end 1 rfl
          · refine (evn_adv 3 (q' := (58, [some (.ref 0), some (.int l1), some (.int l2)], [.int l2, .ref 15], M5)) rfl).trans ?_
            refine (e_kI (q := (58, [some (.ref 0), some (.int l1), some (.int l2)], [.int l2, .ref 15])) (q2 := (61, [some (.ref 0), some (.int l1), some (.int l2)], [])) (M := M5) (o := (pcl GG lay d 218 [.ref 15, .int l2] M5)) (hf := rfl) rfl rfl).trans ?_
            refine kI_in (fun r6 M6 => ?_)
            refine (evn_adv 1 (q' := (62, [some (.ref 0), some (.int l1), some (.int l2)], [.int (jz 1), .int r6], M6)) rfl).trans ?_
            refine (e_ic_ne (hf := rfl)).trans ?_
            refine ite_in ?_ ?_
            · refine (evn_adv 1 (q' := (67, [some (.ref 0), some (.int l1), some (.int l2)], [.int (jz 3)], M6)) rfl).trans ?_
              exact evn_end 1 rfl
            · refine (evn_adv 3 (q' := (73, [some (.ref 0), some (.int l1), some (.int l2)], [.int l1, .ref 15], M6)) rfl).trans ?_
              refine (e_kI (q := (73, [some (.ref 0), some (.int l1), some (.int l2)], [.int l1, .ref 15])) (q2 := (76, [some (.ref 0), some (.int l1), some (.int l2)], [])) (M := M6) (o := (pcl GG lay d 218 [.ref 15, .int l1] M6)) (hf := rfl) rfl rfl).trans ?_
              refine kI_in (fun r7 M7 => ?_)
              refine (evn_adv 3 (q' := (81, [some (.ref 0), some (.int l1), some (.int l2)], [.int l2, .ref 15, .int r7], M7)) rfl).trans ?_
              refine (e_kI (q := (81, [some (.ref 0), some (.int l1), some (.int l2)], [.int l2, .ref 15, .int r7])) (q2 := (84, [some (.ref 0), some (.int l1), some (.int l2)], [.int r7])) (M := M7) (o := (pcl GG lay d 218 [.ref 15, .int l2] M7)) (hf := rfl) rfl rfl).trans ?_
              refine kI_in (fun r8 M8 => ?_)
              refine (e_ic_ne (hf := rfl)).trans ?_
              refine ite_in ?_ ?_
              · refine (evn_adv 2 (q' := (93, [some (.ref 0), some (.int l1), some (.int l2)], [.int (jn 0)], M8)) rfl).trans ?_
                exact evn_end 1 rfl
              · refine (evn_adv 1 (q' := (93, [some (.ref 0), some (.int l1), some (.int l2)], [.int (jz 2)], M8)) rfl).trans ?_
                exact evn_end 1 rfl
        · refine (evn_adv 1 (q' := (40, [some (.ref 0), some (.int l1), some (.int l2)], [.int (jz 2)], M4)) rfl).trans ?_
          exact evn_end 1 rfl
      · refine (evn_adv 1 (q' := (40, [some (.ref 0), some (.int l1), some (.int l2)], [.int (jz 2)], M3)) rfl).trans ?_
        exact evn_end 1 rfl
/-- TermStrategies.element(II)J -/
noncomputable abbrev E_7 (d : Nat) : PQ → PO := evn (rnn k_7 lay none (pcl GG lay d) 3)
theorem q_7 (d : Nat) (l1 : Int32) (l2 : Int32) (M : PM) : pcl GG lay (d + 1) 7 [.ref 0, .int l1, .int l2] M = (kL (pcl GG lay d 225 [.ref 15, .int l1, .int l2] M) fun r1 M1 => (rL r1 M1)) := by
  refine (pcl_un (mt := t_7) (by decide) rfl (Nat.le_of_ble_eq_true rfl)).trans ?_
  show E_7 d (0, [some (.ref 0), some (.int l1), some (.int l2)], [], M) = _
  refine (evn_adv 4 (q' := (6, [some (.ref 0), some (.int l1), some (.int l2)], [.int l2, .int l1, .ref 15], M)) rfl).trans ?_
  refine (e_kL (q := (6, [some (.ref 0), some (.int l1), some (.int l2)], [.int l2, .int l1, .ref 15])) (q2 := (9, [some (.ref 0), some (.int l1), some (.int l2)], [])) (M := M) (o := (pcl GG lay d 225 [.ref 15, .int l1, .int l2] M)) (hf := rfl) rfl rfl).trans ?_
  refine kL_in (fun r1 M1 => ?_)
  exact evn_end 1 rfl
/-- TermStrategies.show(II)I -/
noncomputable abbrev E_8 (d : Nat) : PQ → PO := evn (rnn k_8 lay none (pcl GG lay d) 1)
theorem q_8 (d : Nat) (l1 : Int32) (l2 : Int32) (M : PM) : pcl GG lay (d + 1) 8 [.ref 0, .int l1, .int l2] M = (kI (pcl GG lay d 217 [.int l1] M) fun r1 M1 => (if r1 = jn 0 then (kI (pcl GG lay d 56 [.ref 0, .int (jz 1)] M1) fun r2 M2 => (rI r2 M2)) else (if l2 = (jz 1) then (kV (pcl GG lay d 224 [.ref 15, .int l1, .int l2] M1) fun M2 => (if l2 = (jz 1) then (rI (jn 0) M2) else (rI (jn 1) M2))) else (kI (pcl GG lay d 242 [.ref 1, .int l2] M1) fun r2 M2 => (if r2 = jn 0 then (kI (pcl GG lay d 56 [.ref 0, .int (jz 1)] M2) fun r3 M3 => (rI r3 M3)) else (kV (pcl GG lay d 224 [.ref 15, .int l1, .int l2] M2) fun M3 => (if l2 = (jz 1) then (rI (jn 0) M3) else (rI (jn 1) M3)))))))) := by
  refine (pcl_un (mt := t_8) (by decide) rfl (Nat.le_of_ble_eq_true rfl)).trans ?_
  show E_8 d (0, [some (.ref 0), some (.int l1), some (.int l2)], [], M) = _
  refine (evn_adv 1 (q' := (1, [some (.ref 0), some (.int l1), some (.int l2)], [.int l1], M)) rfl).trans ?_
  refine (e_kI (q := (1, [some (.ref 0), some (.int l1), some (.int l2)], [.int l1])) (q2 := (4, [some (.ref 0), some (.int l1), some (.int l2)], [])) (M := M) (o := (pcl GG lay d 217 [.int l1] M)) (hf := rfl) rfl rfl).trans ?_
  refine kI_in (fun r1 M1 => ?_)
  refine (e_if_eq (hf := rfl)).trans ?_
  refine ite_in ?_ ?_
  · refine (evn_adv 2 (q' := (25, [some (.ref 0), some (.int l1), some (.int l2)], [.int (jz 1), .ref 0], M1)) rfl).trans ?_
    refine (e_kI (q := (25, [some (.ref 0), some (.int l1), some (.int l2)], [.int (jz 1), .ref 0])) (q2 := (28, [some (.ref 0), some (.int l1), some (.int l2)], [])) (M := M1) (o := (pcl GG lay d 56 [.ref 0, .int (jz 1)] M1)) (hf := rfl) rfl rfl).trans ?_
    refine kI_in (fun r2 M2 => ?_)
    exact evn_end 1 rfl
  · refine (evn_adv 2 (q' := (9, [some (.ref 0), some (.int l1), some (.int l2)], [.int (jz 1), .int l2], M1)) rfl).trans ?_
    refine (e_ic_eq (hf := rfl)).trans ?_
    refine ite_in ?_ ?_
    · refine (evn_adv 4 (q' := (35, [some (.ref 0), some (.int l1), some (.int l2)], [.int l2, .int l1, .ref 15], M1)) rfl).trans ?_
      refine (e_kV (q := (35, [some (.ref 0), some (.int l1), some (.int l2)], [.int l2, .int l1, .ref 15])) (q2 := (38, [some (.ref 0), some (.int l1), some (.int l2)], [])) (M := M1) (o := (pcl GG lay d 224 [.ref 15, .int l1, .int l2] M1)) (hf := rfl) rfl rfl).trans ?_
      refine kV_in (fun M2 => ?_)
      refine (evn_adv 2 (q' := (40, [some (.ref 0), some (.int l1), some (.int l2)], [.int (jz 1), .int l2], M2)) rfl).trans ?_
      refine (e_ic_ne (hf := rfl)).trans ?_
      refine ite_in ?_ ?_
      · refine (evn_adv 2 (q' := (48, [some (.ref 0), some (.int l1), some (.int l2)], [.int (jn 0)], M2)) rfl).trans ?_
        exact evn_end 1 rfl
      · refine (evn_adv 1 (q' := (48, [some (.ref 0), some (.int l1), some (.int l2)], [.int (jn 1)], M2)) rfl).trans ?_
        exact evn_end 1 rfl
    · refine (evn_adv 3 (q' := (17, [some (.ref 0), some (.int l1), some (.int l2)], [.int l2, .ref 1], M1)) rfl).trans ?_
      refine (e_kI (q := (17, [some (.ref 0), some (.int l1), some (.int l2)], [.int l2, .ref 1])) (q2 := (20, [some (.ref 0), some (.int l1), some (.int l2)], [])) (M := M1) (o := (pcl GG lay d 242 [.ref 1, .int l2] M1)) (hf := rfl) rfl rfl).trans ?_
      refine kI_in (fun r2 M2 => ?_)
      refine (e_if_ne (hf := rfl)).trans ?_
      refine ite_in ?_ ?_
      · refine (evn_adv 2 (q' := (25, [some (.ref 0), some (.int l1), some (.int l2)], [.int (jz 1), .ref 0], M2)) rfl).trans ?_
        refine (e_kI (q := (25, [some (.ref 0), some (.int l1), some (.int l2)], [.int (jz 1), .ref 0])) (q2 := (28, [some (.ref 0), some (.int l1), some (.int l2)], [])) (M := M2) (o := (pcl GG lay d 56 [.ref 0, .int (jz 1)] M2)) (hf := rfl) rfl rfl).trans ?_
        refine kI_in (fun r3 M3 => ?_)
        exact evn_end 1 rfl
      · refine (evn_adv 4 (q' := (35, [some (.ref 0), some (.int l1), some (.int l2)], [.int l2, .int l1, .ref 15], M2)) rfl).trans ?_
        refine (e_kV (q := (35, [some (.ref 0), some (.int l1), some (.int l2)], [.int l2, .int l1, .ref 15])) (q2 := (38, [some (.ref 0), some (.int l1), some (.int l2)], [])) (M := M2) (o := (pcl GG lay d 224 [.ref 15, .int l1, .int l2] M2)) (hf := rfl) rfl rfl).trans ?_
        refine kV_in (fun M3 => ?_)
        refine (evn_adv 2 (q' := (40, [some (.ref 0), some (.int l1), some (.int l2)], [.int (jz 1), .int l2], M3)) rfl).trans ?_
        refine (e_ic_ne (hf := rfl)).trans ?_
        refine ite_in ?_ ?_
        · refine (evn_adv 2 (q' := (48, [some (.ref 0), some (.int l1), some (.int l2)], [.int (jn 0)], M3)) rfl).trans ?_
          exact evn_end 1 rfl
        · refine (evn_adv 1 (q' := (48, [some (.ref 0), some (.int l1), some (.int l2)], [.int (jn 1)], M3)) rfl).trans ?_
          exact evn_end 1 rfl
/-- TermStrategies.holds(I)I -/
noncomputable abbrev E_9 (d : Nat) : PQ → PO := evn (rnn k_9 lay none (pcl GG lay d) 1)
theorem q_9 (d : Nat) (l1 : Int32) (M : PM) : pcl GG lay (d + 1) 9 [.ref 0, .int l1] M = (kI (pcl GG lay d 218 [.ref 15, .int l1] M) fun r1 M1 => (rI r1 M1)) := by
  refine (pcl_un (mt := t_9) (by decide) rfl (Nat.le_of_ble_eq_true rfl)).trans ?_
  show E_9 d (0, [some (.ref 0), some (.int l1)], [], M) = _
  refine (evn_adv 3 (q' := (5, [some (.ref 0), some (.int l1)], [.int l1, .ref 15], M)) rfl).trans ?_
  refine (e_kI (q := (5, [some (.ref 0), some (.int l1)], [.int l1, .ref 15])) (q2 := (8, [some (.ref 0), some (.int l1)], [])) (M := M) (o := (pcl GG lay d 218 [.ref 15, .int l1] M)) (hf := rfl) rfl rfl).trans ?_
  refine kI_in (fun r1 M1 => ?_)
  exact evn_end 1 rfl
/-- TermStrategies.says(II)I -/
noncomputable abbrev E_10 (d : Nat) : PQ → PO := evn (rnn k_10 lay none (pcl GG lay d) 1)
theorem q_10 (d : Nat) (l1 : Int32) (l2 : Int32) (M : PM) : pcl GG lay (d + 1) 10 [.ref 0, .int l1, .int l2] M = (kI (pcl GG lay d 217 [.int l1] M) fun r1 M1 => (if r1 = jn 0 then (kI (pcl GG lay d 56 [.ref 0, .int (jz 1)] M1) fun r2 M2 => (rI r2 M2)) else (if l2 < jn 0 then (kI (pcl GG lay d 56 [.ref 0, .int (jz 1)] M1) fun r2 M2 => (rI r2 M2)) else (if (jn 4) < l2 then (kI (pcl GG lay d 56 [.ref 0, .int (jz 1)] M1) fun r2 M2 => (rI r2 M2)) else (kI (pcl GG lay d 219 [.ref 15, .int l1] M1) fun r2 M2 => (if r2 = jn 0 then (kI (pcl GG lay d 218 [.ref 15, .int l1] M2) fun r3 M3 => (if r3 = (jz 1) then (kI (pcl GG lay d 56 [.ref 0, .int (jz 3)] M3) fun r4 M4 => (rI r4 M4)) else (kI (pcl GG lay d 248 [.ref 1, .int r3] M3) fun r4 M4 => (kI (pcl GG lay d 11 [.int r4, .int l2] M4) fun r5 M5 => (if r5 = jn 0 then (kI (pcl GG lay d 56 [.ref 0, .int (jz 2)] M5) fun r6 M6 => (rI r6 M6)) else (if l2 = (jn 0) then (rI r4 M5) else (if l2 = (jn 1) then (if r4 = jn 0 then (kI (pcl GG lay d 249 [.ref 1, .int r3] M5) fun r6 M6 => (rI r6 M6)) else (if r4 = (jn 1) then (rI (jn 99) M5) else (rI (jn 98) M5))) else (if l2 = (jn 2) then (kI (pcl GG lay d 249 [.ref 1, .int r3] M5) fun r6 M6 => (rI r6 M6)) else (if l2 = (jn 3) then (kI (pcl GG lay d 249 [.ref 1, .int r3] M5) fun r6 M6 => (kI (pcl GG lay d 250 [.ref 1, .int r3] M6) fun r7 M7 => (rI (((jn 100) * r6) + r7) M7))) else (kI (pcl GG lay d 251 [.ref 1, .int r3] M5) fun r6 M6 => (rI r6 M6))))))))))) else (kI (pcl GG lay d 56 [.ref 0, .int (jz 2)] M2) fun r3 M3 => (rI r3 M3)))))))) := by
  refine (pcl_un (mt := t_10) (by decide) rfl (Nat.le_of_ble_eq_true rfl)).trans ?_
  show E_10 d (0, [some (.ref 0), some (.int l1), some (.int l2), none, none], [], M) = _
  refine (evn_adv 1 (q' := (1, [some (.ref 0), some (.int l1), some (.int l2), none, none], [.int l1], M)) rfl).trans ?_
  refine (e_kI (q := (1, [some (.ref 0), some (.int l1), some (.int l2), none, none], [.int l1])) (q2 := (4, [some (.ref 0), some (.int l1), some (.int l2), none, none], [])) (M := M) (o := (pcl GG lay d 217 [.int l1] M)) (hf := rfl) rfl rfl).trans ?_
  refine kI_in (fun r1 M1 => ?_)
  refine (e_if_eq (hf := rfl)).trans ?_
  refine ite_in ?_ ?_
  · refine (evn_adv 2 (q' := (18, [some (.ref 0), some (.int l1), some (.int l2), none, none], [.int (jz 1), .ref 0], M1)) rfl).trans ?_
    refine (e_kI (q := (18, [some (.ref 0), some (.int l1), some (.int l2), none, none], [.int (jz 1), .ref 0])) (q2 := (21, [some (.ref 0), some (.int l1), some (.int l2), none, none], [])) (M := M1) (o := (pcl GG lay d 56 [.ref 0, .int (jz 1)] M1)) (hf := rfl) rfl rfl).trans ?_
    refine kI_in (fun r2 M2 => ?_)
    exact evn_end 1 rfl
  · refine (evn_adv 1 (q' := (8, [some (.ref 0), some (.int l1), some (.int l2), none, none], [.int l2], M1)) rfl).trans ?_
    refine (e_if_lt (hf := rfl)).trans ?_
    refine ite_in ?_ ?_
    · refine (evn_adv 2 (q' := (18, [some (.ref 0), some (.int l1), some (.int l2), none, none], [.int (jz 1), .ref 0], M1)) rfl).trans ?_
      refine (e_kI (q := (18, [some (.ref 0), some (.int l1), some (.int l2), none, none], [.int (jz 1), .ref 0])) (q2 := (21, [some (.ref 0), some (.int l1), some (.int l2), none, none], [])) (M := M1) (o := (pcl GG lay d 56 [.ref 0, .int (jz 1)] M1)) (hf := rfl) rfl rfl).trans ?_
      refine kI_in (fun r2 M2 => ?_)
      exact evn_end 1 rfl
    · refine (evn_adv 2 (q' := (13, [some (.ref 0), some (.int l1), some (.int l2), none, none], [.int (jn 4), .int l2], M1)) rfl).trans ?_
      refine (e_ic_le (hf := rfl)).trans ?_
      refine ite_in ?_ ?_
      · refine (evn_adv 2 (q' := (18, [some (.ref 0), some (.int l1), some (.int l2), none, none], [.int (jz 1), .ref 0], M1)) rfl).trans ?_
        refine (e_kI (q := (18, [some (.ref 0), some (.int l1), some (.int l2), none, none], [.int (jz 1), .ref 0])) (q2 := (21, [some (.ref 0), some (.int l1), some (.int l2), none, none], [])) (M := M1) (o := (pcl GG lay d 56 [.ref 0, .int (jz 1)] M1)) (hf := rfl) rfl rfl).trans ?_
        refine kI_in (fun r2 M2 => ?_)
        exact evn_end 1 rfl
      · refine (evn_adv 3 (q' := (27, [some (.ref 0), some (.int l1), some (.int l2), none, none], [.int l1, .ref 15], M1)) rfl).trans ?_
        refine (e_kI (q := (27, [some (.ref 0), some (.int l1), some (.int l2), none, none], [.int l1, .ref 15])) (q2 := (30, [some (.ref 0), some (.int l1), some (.int l2), none, none], [])) (M := M1) (o := (pcl GG lay d 219 [.ref 15, .int l1] M1)) (hf := rfl) rfl rfl).trans ?_
        refine kI_in (fun r2 M2 => ?_)
        refine (e_if_eq (hf := rfl)).trans ?_
        refine ite_in ?_ ?_
        · refine (evn_adv 3 (q' := (45, [some (.ref 0), some (.int l1), some (.int l2), none, none], [.int l1, .ref 15], M2)) rfl).trans ?_
          refine (e_kI (q := (45, [some (.ref 0), some (.int l1), some (.int l2), none, none], [.int l1, .ref 15])) (q2 := (48, [some (.ref 0), some (.int l1), some (.int l2), none, none], [])) (M := M2) (o := (pcl GG lay d 218 [.ref 15, .int l1] M2)) (hf := rfl) rfl rfl).trans ?_
          refine kI_in (fun r3 M3 => ?_)
          refine (evn_adv 3 (q' := (51, [some (.ref 0), some (.int l1), some (.int l2), some (.int r3), none], [.int (jz 1), .int r3], M3)) rfl).trans ?_
          refine (e_ic_ne (hf := rfl)).trans ?_
          refine ite_in ?_ ?_
          · refine (evn_adv 2 (q' := (57, [some (.ref 0), some (.int l1), some (.int l2), some (.int r3), none], [.int (jz 3), .ref 0], M3)) rfl).trans ?_
            refine (e_kI (q := (57, [some (.ref 0), some (.int l1), some (.int l2), some (.int r3), none], [.int (jz 3), .ref 0])) (q2 := (60, [some (.ref 0), some (.int l1), some (.int l2), some (.int r3), none], [])) (M := M3) (o := (pcl GG lay d 56 [.ref 0, .int (jz 3)] M3)) (hf := rfl) rfl rfl).trans ?_
            refine kI_in (fun r4 M4 => ?_)
            exact evn_end 1 rfl
          · refine (evn_adv 3 (q' := (66, [some (.ref 0), some (.int l1), some (.int l2), some (.int r3), none], [.int r3, .ref 1], M3)) rfl).trans ?_
            refine (e_kI (q := (66, [some (.ref 0), some (.int l1), some (.int l2), some (.int r3), none], [.int r3, .ref 1])) (q2 := (69, [some (.ref 0), some (.int l1), some (.int l2), some (.int r3), none], [])) (M := M3) (o := (pcl GG lay d 248 [.ref 1, .int r3] M3)) (hf := rfl) rfl rfl).trans ?_
            refine kI_in (fun r4 M4 => ?_)
            refine (evn_adv 3 (q' := (74, [some (.ref 0), some (.int l1), some (.int l2), some (.int r3), some (.int r4)], [.int l2, .int r4], M4)) rfl).trans ?_
            refine (e_kI (q := (74, [some (.ref 0), some (.int l1), some (.int l2), some (.int r3), some (.int r4)], [.int l2, .int r4])) (q2 := (77, [some (.ref 0), some (.int l1), some (.int l2), some (.int r3), some (.int r4)], [])) (M := M4) (o := (pcl GG lay d 11 [.int r4, .int l2] M4)) (hf := rfl) rfl rfl).trans ?_
            refine kI_in (fun r5 M5 => ?_)
            refine (e_if_ne (hf := rfl)).trans ?_
            refine ite_in ?_ ?_
            · refine (evn_adv 2 (q' := (83, [some (.ref 0), some (.int l1), some (.int l2), some (.int r3), some (.int r4)], [.int (jz 2), .ref 0], M5)) rfl).trans ?_
              refine (e_kI (q := (83, [some (.ref 0), some (.int l1), some (.int l2), some (.int r3), some (.int r4)], [.int (jz 2), .ref 0])) (q2 := (86, [some (.ref 0), some (.int l1), some (.int l2), some (.int r3), some (.int r4)], [])) (M := M5) (o := (pcl GG lay d 56 [.ref 0, .int (jz 2)] M5)) (hf := rfl) rfl rfl).trans ?_
              refine kI_in (fun r6 M6 => ?_)
              exact evn_end 1 rfl
            · refine (evn_adv 1 (q' := (88, [some (.ref 0), some (.int l1), some (.int l2), some (.int r3), some (.int r4)], [.int l2], M5)) rfl).trans ?_
              refine (e_sw0 (dflt := 183) (lo := ((0 : Nat) : Int)) (ts := [120, 123, 153, 162]) (hf := rfl) rfl).trans ?_
              refine sw_cons (lo := 0) (F := fun pc => E_10 d (pc, [some (.ref 0), some (.int l1), some (.int l2), some (.int r3), some (.int r4)], [], M5)) (by decide) ?_ ?_
              · refine (evn_adv 1 (q' := (122, [some (.ref 0), some (.int l1), some (.int l2), some (.int r3), some (.int r4)], [.int r4], M5)) rfl).trans ?_
                exact evn_end 1 rfl
              refine sw_cons (lo := 1) (F := fun pc => E_10 d (pc, [some (.ref 0), some (.int l1), some (.int l2), some (.int r3), some (.int r4)], [], M5)) (by decide) ?_ ?_
              · refine (evn_adv 1 (q' := (125, [some (.ref 0), some (.int l1), some (.int l2), some (.int r3), some (.int r4)], [.int r4], M5)) rfl).trans ?_
                refine (e_if_ne (hf := rfl)).trans ?_
                refine ite_in ?_ ?_
                · refine (evn_adv 3 (q' := (133, [some (.ref 0), some (.int l1), some (.int l2), some (.int r3), some (.int r4)], [.int r3, .ref 1], M5)) rfl).trans ?_
                  refine (e_kI (q := (133, [some (.ref 0), some (.int l1), some (.int l2), some (.int r3), some (.int r4)], [.int r3, .ref 1])) (q2 := (136, [some (.ref 0), some (.int l1), some (.int l2), some (.int r3), some (.int r4)], [])) (M := M5) (o := (pcl GG lay d 249 [.ref 1, .int r3] M5)) (hf := rfl) rfl rfl).trans ?_
                  refine kI_in (fun r6 M6 => ?_)
                  refine (evn_adv 1 (q' := (152, [some (.ref 0), some (.int l1), some (.int l2), some (.int r3), some (.int r4)], [.int r6], M6)) rfl).trans ?_
                  exact evn_end 1 rfl
                · refine (evn_adv 2 (q' := (142, [some (.ref 0), some (.int l1), some (.int l2), some (.int r3), some (.int r4)], [.int (jn 1), .int r4], M5)) rfl).trans ?_
                  refine (e_ic_ne (hf := rfl)).trans ?_
                  refine ite_in ?_ ?_
                  · refine (evn_adv 2 (q' := (152, [some (.ref 0), some (.int l1), some (.int l2), some (.int r3), some (.int r4)], [.int (jn 99)], M5)) rfl).trans ?_
                    exact evn_end 1 rfl
                  · refine (evn_adv 1 (q' := (152, [some (.ref 0), some (.int l1), some (.int l2), some (.int r3), some (.int r4)], [.int (jn 98)], M5)) rfl).trans ?_
                    exact evn_end 1 rfl
              refine sw_cons (lo := 2) (F := fun pc => E_10 d (pc, [some (.ref 0), some (.int l1), some (.int l2), some (.int r3), some (.int r4)], [], M5)) (by decide) ?_ ?_
              · refine (evn_adv 3 (q' := (158, [some (.ref 0), some (.int l1), some (.int l2), some (.int r3), some (.int r4)], [.int r3, .ref 1], M5)) rfl).trans ?_
                refine (e_kI (q := (158, [some (.ref 0), some (.int l1), some (.int l2), some (.int r3), some (.int r4)], [.int r3, .ref 1])) (q2 := (161, [some (.ref 0), some (.int l1), some (.int l2), some (.int r3), some (.int r4)], [])) (M := M5) (o := (pcl GG lay d 249 [.ref 1, .int r3] M5)) (hf := rfl) rfl rfl).trans ?_
                refine kI_in (fun r6 M6 => ?_)
                exact evn_end 1 rfl
              refine sw_cons (lo := 3) (F := fun pc => E_10 d (pc, [some (.ref 0), some (.int l1), some (.int l2), some (.int r3), some (.int r4)], [], M5)) (by decide) ?_ ?_
              · refine (evn_adv 4 (q' := (169, [some (.ref 0), some (.int l1), some (.int l2), some (.int r3), some (.int r4)], [.int r3, .ref 1, .int (jn 100)], M5)) rfl).trans ?_
                refine (e_kI (q := (169, [some (.ref 0), some (.int l1), some (.int l2), some (.int r3), some (.int r4)], [.int r3, .ref 1, .int (jn 100)])) (q2 := (172, [some (.ref 0), some (.int l1), some (.int l2), some (.int r3), some (.int r4)], [.int (jn 100)])) (M := M5) (o := (pcl GG lay d 249 [.ref 1, .int r3] M5)) (hf := rfl) rfl rfl).trans ?_
                refine kI_in (fun r6 M6 => ?_)
                refine (evn_adv 4 (q' := (178, [some (.ref 0), some (.int l1), some (.int l2), some (.int r3), some (.int r4)], [.int r3, .ref 1, .int ((jn 100) * r6)], M6)) rfl).trans ?_
                refine (e_kI (q := (178, [some (.ref 0), some (.int l1), some (.int l2), some (.int r3), some (.int r4)], [.int r3, .ref 1, .int ((jn 100) * r6)])) (q2 := (181, [some (.ref 0), some (.int l1), some (.int l2), some (.int r3), some (.int r4)], [.int ((jn 100) * r6)])) (M := M6) (o := (pcl GG lay d 250 [.ref 1, .int r3] M6)) (hf := rfl) rfl rfl).trans ?_
                refine kI_in (fun r7 M7 => ?_)
                refine (evn_adv 1 (q' := (182, [some (.ref 0), some (.int l1), some (.int l2), some (.int r3), some (.int r4)], [.int (((jn 100) * r6) + r7)], M7)) rfl).trans ?_
                exact evn_end 1 rfl
              show E_10 d (183, [some (.ref 0), some (.int l1), some (.int l2), some (.int r3), some (.int r4)], [], M5) = _
              refine (evn_adv 3 (q' := (188, [some (.ref 0), some (.int l1), some (.int l2), some (.int r3), some (.int r4)], [.int r3, .ref 1], M5)) rfl).trans ?_
              refine (e_kI (q := (188, [some (.ref 0), some (.int l1), some (.int l2), some (.int r3), some (.int r4)], [.int r3, .ref 1])) (q2 := (191, [some (.ref 0), some (.int l1), some (.int l2), some (.int r3), some (.int r4)], [])) (M := M5) (o := (pcl GG lay d 251 [.ref 1, .int r3] M5)) (hf := rfl) rfl rfl).trans ?_
              refine kI_in (fun r6 M6 => ?_)
              exact evn_end 1 rfl
        · refine (evn_adv 2 (q' := (36, [some (.ref 0), some (.int l1), some (.int l2), none, none], [.int (jz 2), .ref 0], M2)) rfl).trans ?_
          refine (e_kI (q := (36, [some (.ref 0), some (.int l1), some (.int l2), none, none], [.int (jz 2), .ref 0])) (q2 := (39, [some (.ref 0), some (.int l1), some (.int l2), none, none], [])) (M := M2) (o := (pcl GG lay d 56 [.ref 0, .int (jz 2)] M2)) (hf := rfl) rfl rfl).trans ?_
          refine kI_in (fun r3 M3 => ?_)
          exact evn_end 1 rfl
/-- TermStrategies.isOfSort(II)Z -/
noncomputable abbrev E_11 (d : Nat) : PQ → PO := evn (rnn k_11 lay none (pcl GG lay d) 2)
theorem q_11 (d : Nat) (l0 : Int32) (l1 : Int32) (M : PM) : pcl GG lay (d + 1) 11 [.int l0, .int l1] M = (if l1 = (jn 0) then (rZ (jn 1) M) else (if l1 = (jn 1) then (if (jn 2) < l0 then (rZ (jn 0) M) else (rZ (jn 1) M)) else (if l1 = (jn 2) then (if l0 < (jn 5) then (rZ (jn 0) M) else (rZ (jn 1) M)) else (if l1 = (jn 3) then (kI (pcl GG lay d 64 [.int l0] M) fun r1 M1 => (rZ r1 M1)) else (if l0 < (jn 6) then (rZ (jn 0) M) else (if (jn 12) < l0 then (rZ (jn 0) M) else (rZ (jn 1) M))))))) := by
  refine (pcl_un (mt := t_11) (by decide) rfl (Nat.le_of_ble_eq_true rfl)).trans ?_
  show E_11 d (0, [some (.int l0), some (.int l1)], [], M) = _
  refine (evn_adv 1 (q' := (1, [some (.int l0), some (.int l1)], [.int l1], M)) rfl).trans ?_
  refine (e_sw0 (dflt := 61) (lo := ((0 : Nat) : Int)) (ts := [32, 34, 45, 56]) (hf := rfl) rfl).trans ?_
  refine sw_cons (lo := 0) (F := fun pc => E_11 d (pc, [some (.int l0), some (.int l1)], [], M)) (by decide) ?_ ?_
  · refine (evn_adv 1 (q' := (33, [some (.int l0), some (.int l1)], [.int (jn 1)], M)) rfl).trans ?_
    exact e_iretz (hf := rfl)
  refine sw_cons (lo := 1) (F := fun pc => E_11 d (pc, [some (.int l0), some (.int l1)], [], M)) (by decide) ?_ ?_
  · refine (evn_adv 2 (q' := (36, [some (.int l0), some (.int l1)], [.int (jn 2), .int l0], M)) rfl).trans ?_
    refine (e_ic_gt (hf := rfl)).trans ?_
    refine ite_in ?_ ?_
    · refine (evn_adv 1 (q' := (44, [some (.int l0), some (.int l1)], [.int (jn 0)], M)) rfl).trans ?_
      exact e_iretz (hf := rfl)
    · refine (evn_adv 2 (q' := (44, [some (.int l0), some (.int l1)], [.int (jn 1)], M)) rfl).trans ?_
      exact e_iretz (hf := rfl)
  refine sw_cons (lo := 2) (F := fun pc => E_11 d (pc, [some (.int l0), some (.int l1)], [], M)) (by decide) ?_ ?_
  · refine (evn_adv 2 (q' := (47, [some (.int l0), some (.int l1)], [.int (jn 5), .int l0], M)) rfl).trans ?_
    refine (e_ic_lt (hf := rfl)).trans ?_
    refine ite_in ?_ ?_
    · refine (evn_adv 1 (q' := (55, [some (.int l0), some (.int l1)], [.int (jn 0)], M)) rfl).trans ?_
      exact e_iretz (hf := rfl)
    · refine (evn_adv 2 (q' := (55, [some (.int l0), some (.int l1)], [.int (jn 1)], M)) rfl).trans ?_
      exact e_iretz (hf := rfl)
  refine sw_cons (lo := 3) (F := fun pc => E_11 d (pc, [some (.int l0), some (.int l1)], [], M)) (by decide) ?_ ?_
  · refine (evn_adv 1 (q' := (57, [some (.int l0), some (.int l1)], [.int l0], M)) rfl).trans ?_
    refine (e_kI (q := (57, [some (.int l0), some (.int l1)], [.int l0])) (q2 := (60, [some (.int l0), some (.int l1)], [])) (M := M) (o := (pcl GG lay d 64 [.int l0] M)) (hf := rfl) rfl rfl).trans ?_
    refine kI_in (fun r1 M1 => ?_)
    exact e_iretz (hf := rfl)
  show E_11 d (61, [some (.int l0), some (.int l1)], [], M) = _
  refine (evn_adv 2 (q' := (64, [some (.int l0), some (.int l1)], [.int (jn 6), .int l0], M)) rfl).trans ?_
  refine (e_ic_lt (hf := rfl)).trans ?_
  refine ite_in ?_ ?_
  · refine (evn_adv 1 (q' := (78, [some (.int l0), some (.int l1)], [.int (jn 0)], M)) rfl).trans ?_
    exact e_iretz (hf := rfl)
  · refine (evn_adv 2 (q' := (70, [some (.int l0), some (.int l1)], [.int (jn 12), .int l0], M)) rfl).trans ?_
    refine (e_ic_gt (hf := rfl)).trans ?_
    refine ite_in ?_ ?_
    · refine (evn_adv 1 (q' := (78, [some (.int l0), some (.int l1)], [.int (jn 0)], M)) rfl).trans ?_
      exact e_iretz (hf := rfl)
    · refine (evn_adv 2 (q' := (78, [some (.int l0), some (.int l1)], [.int (jn 1)], M)) rfl).trans ?_
      exact e_iretz (hf := rfl)
/-- TermStrategies.term(I)I -/
noncomputable abbrev E_12 (d : Nat) : PQ → PO := evn (rnn k_12 lay none (pcl GG lay d) 1)
theorem q_12 (d : Nat) (l1 : Int32) (M : PM) : pcl GG lay (d + 1) 12 [.ref 0, .int l1] M = (kI (pcl GG lay d 221 [.ref 15, .int l1] M) fun r1 M1 => (if r1 = jn 0 then (kI (pcl GG lay d 196 [.ref 19, .int l1, .int (jn 1920)] M1) fun r2 M2 => (wr (sI M2 0 (va_up (M2.1 0) 13 r2)) fun M3 => (if (M3.1 0 13) = (jz 1) then (kI (pcl GG lay d 57 [.ref 0, .int (jn 1920)] M3) fun r4 M4 => (rI r4 M4)) else (kI (pcl GG lay d 56 [.ref 0, .int (jz 6)] M3) fun r4 M4 => (rI r4 M4))))) else (kI (pcl GG lay d 56 [.ref 0, .int r1] M1) fun r2 M2 => (rI r2 M2)))) := by
  refine (pcl_un (mt := t_12) (by decide) rfl (Nat.le_of_ble_eq_true rfl)).trans ?_
  show E_12 d (0, [some (.ref 0), some (.int l1), none], [], M) = _
  refine (evn_adv 3 (q' := (5, [some (.ref 0), some (.int l1), none], [.int l1, .ref 15], M)) rfl).trans ?_
  refine (e_kI (q := (5, [some (.ref 0), some (.int l1), none], [.int l1, .ref 15])) (q2 := (8, [some (.ref 0), some (.int l1), none], [])) (M := M) (o := (pcl GG lay d 221 [.ref 15, .int l1] M)) (hf := rfl) rfl rfl).trans ?_
  refine kI_in (fun r1 M1 => ?_)
  refine (evn_adv 2 (q' := (10, [some (.ref 0), some (.int l1), some (.int r1)], [.int r1], M1)) rfl).trans ?_
  refine (e_if_eq (hf := rfl)).trans ?_
  refine ite_in ?_ ?_
  · refine (evn_adv 5 (q' := (28, [some (.ref 0), some (.int l1), some (.int r1)], [.int (jn 1920), .int l1, .ref 19, .ref 0], M1)) rfl).trans ?_
    refine (e_kI (q := (28, [some (.ref 0), some (.int l1), some (.int r1)], [.int (jn 1920), .int l1, .ref 19, .ref 0])) (q2 := (31, [some (.ref 0), some (.int l1), some (.int r1)], [.ref 0])) (M := M1) (o := (pcl GG lay d 196 [.ref 19, .int l1, .int (jn 1920)] M1)) (hf := rfl) rfl rfl).trans ?_
    refine kI_in (fun r2 M2 => ?_)
    refine (evn_adv 1 (q' := (34, [some (.ref 0), some (.int l1), some (.int r1)], [], (sI M2 0 (va_up (M2.1 0) 13 r2)))) rfl).trans ?_
    refine wr_in (f := fun M3 => E_12 d (34, [some (.ref 0), some (.int l1), some (.int r1)], [], M3)) (fun M3 => ?_)
    refine (evn_adv 3 (q' := (39, [some (.ref 0), some (.int l1), some (.int r1)], [.int (jz 1), .int (M3.1 0 13)], M3)) rfl).trans ?_
    refine (e_ic_eq (hf := rfl)).trans ?_
    refine ite_in ?_ ?_
    · refine (evn_adv 2 (q' := (53, [some (.ref 0), some (.int l1), some (.int r1)], [.int (jn 1920), .ref 0], M3)) rfl).trans ?_
      refine (e_kI (q := (53, [some (.ref 0), some (.int l1), some (.int r1)], [.int (jn 1920), .ref 0])) (q2 := (56, [some (.ref 0), some (.int l1), some (.int r1)], [])) (M := M3) (o := (pcl GG lay d 57 [.ref 0, .int (jn 1920)] M3)) (hf := rfl) rfl rfl).trans ?_
      refine kI_in (fun r4 M4 => ?_)
      exact evn_end 1 rfl
    · refine (evn_adv 2 (q' := (45, [some (.ref 0), some (.int l1), some (.int r1)], [.int (jz 6), .ref 0], M3)) rfl).trans ?_
      refine (e_kI (q := (45, [some (.ref 0), some (.int l1), some (.int r1)], [.int (jz 6), .ref 0])) (q2 := (48, [some (.ref 0), some (.int l1), some (.int r1)], [])) (M := M3) (o := (pcl GG lay d 56 [.ref 0, .int (jz 6)] M3)) (hf := rfl) rfl rfl).trans ?_
      refine kI_in (fun r4 M4 => ?_)
      exact evn_end 1 rfl
  · refine (evn_adv 2 (q' := (15, [some (.ref 0), some (.int l1), some (.int r1)], [.int r1, .ref 0], M1)) rfl).trans ?_
    refine (e_kI (q := (15, [some (.ref 0), some (.int l1), some (.int r1)], [.int r1, .ref 0])) (q2 := (18, [some (.ref 0), some (.int l1), some (.int r1)], [])) (M := M1) (o := (pcl GG lay d 56 [.ref 0, .int r1] M1)) (hf := rfl) rfl rfl).trans ?_
    refine kI_in (fun r2 M2 => ?_)
    exact evn_end 1 rfl
/-- TermStrategies.fault()I -/
noncomputable abbrev E_13 (d : Nat) : PQ → PO := evn (rnn k_13 lay none (pcl GG lay d) 1)
theorem q_13 (d : Nat)  (M : PM) : pcl GG lay (d + 1) 13 [.ref 0] M = (rI (M.1 0 13) M) := by
  refine (pcl_un (mt := t_13) (by decide) rfl (Nat.le_of_ble_eq_true rfl)).trans ?_
  show E_13 d (0, [some (.ref 0)], [], M) = _
  refine (evn_adv 2 (q' := (4, [some (.ref 0)], [.int (M.1 0 13)], M)) rfl).trans ?_
  exact evn_end 1 rfl
/-- TermStrategies.drop()I -/
noncomputable abbrev E_14 (d : Nat) : PQ → PO := evn (rnn k_14 lay none (pcl GG lay d) 1)
theorem q_14 (d : Nat)  (M : PM) : pcl GG lay (d + 1) 14 [.ref 0] M = (if (M.1 1 5) = jn 0 then (kI (pcl GG lay d 56 [.ref 0, .int (jz 6)] M) fun r1 M1 => (rI r1 M1)) else (wr (sI M 1 (va_up (M.1 1) 5 ((M.1 1 5) - (jn 1)))) fun M1 => (rI (M1.1 1 5) M1))) := by
  refine (pcl_un (mt := t_14) (by decide) rfl (Nat.le_of_ble_eq_true rfl)).trans ?_
  show E_14 d (0, [some (.ref 0)], [], M) = _
  refine (evn_adv 3 (q' := (7, [some (.ref 0)], [.int (M.1 1 5)], M)) rfl).trans ?_
  refine (e_if_ne (hf := rfl)).trans ?_
  refine ite_in ?_ ?_
  · refine (evn_adv 2 (q' := (13, [some (.ref 0)], [.int (jz 6), .ref 0], M)) rfl).trans ?_
    refine (e_kI (q := (13, [some (.ref 0)], [.int (jz 6), .ref 0])) (q2 := (16, [some (.ref 0)], [])) (M := M) (o := (pcl GG lay d 56 [.ref 0, .int (jz 6)] M)) (hf := rfl) rfl rfl).trans ?_
    refine kI_in (fun r1 M1 => ?_)
    exact evn_end 1 rfl
  · refine (evn_adv 6 (q' := (27, [some (.ref 0)], [.int ((M.1 1 5) - (jn 1)), .ref 1], M)) rfl).trans ?_
    refine (evn_adv 1 (q' := (30, [some (.ref 0)], [], (sI M 1 (va_up (M.1 1) 5 ((M.1 1 5) - (jn 1)))))) rfl).trans ?_
    refine wr_in (f := fun M1 => E_14 d (30, [some (.ref 0)], [], M1)) (fun M1 => ?_)
    refine (evn_adv 3 (q' := (37, [some (.ref 0)], [.int (M1.1 1 5)], M1)) rfl).trans ?_
    exact evn_end 1 rfl
/-- TermStrategies.commute(IZ)I -/
noncomputable abbrev E_15 (d : Nat) : PQ → PO := evn (rnn k_15 lay none (pcl GG lay d) 1)
theorem q_15 (d : Nat) (l1 : Int32) (l2 : Int32) (M : PM) : pcl GG lay (d + 1) 15 [.ref 0, .int l1, .int l2] M = (kI (pcl GG lay d 63 [.int l1] M) fun r1 M1 => (if r1 = (jn 2) then (if ((M1.1 1 8) &&& ((jn 1) <<< ((l1 - (jn 105)) &&& 31))) = jn 0 then (if l2 = jn 0 then (wr (sI M1 1 (va_up (M1.1 1) 8 ((M1.1 1 8) &&& (((jn 1) <<< ((l1 - (jn 105)) &&& 31)) ^^^ (jz 1))))) fun M2 => (rI (jn 0) M2)) else (wr (sI M1 1 (va_up (M1.1 1) 8 ((M1.1 1 8) ||| ((jn 1) <<< ((l1 - (jn 105)) &&& 31))))) fun M2 => (rI (jn 0) M2))) else (if l2 = jn 0 then (wr (sI M1 1 (va_up (M1.1 1) 8 ((M1.1 1 8) &&& (((jn 1) <<< ((l1 - (jn 105)) &&& 31)) ^^^ (jz 1))))) fun M2 => (rI (jn 1) M2)) else (wr (sI M1 1 (va_up (M1.1 1) 8 ((M1.1 1 8) ||| ((jn 1) <<< ((l1 - (jn 105)) &&& 31))))) fun M2 => (rI (jn 1) M2)))) else (kI (pcl GG lay d 56 [.ref 0, .int (jz 1)] M1) fun r2 M2 => (rI r2 M2)))) := by
  refine (pcl_un (mt := t_15) (by decide) rfl (Nat.le_of_ble_eq_true rfl)).trans ?_
  show E_15 d (0, [some (.ref 0), some (.int l1), some (.int l2), none, none], [], M) = _
  refine (evn_adv 1 (q' := (1, [some (.ref 0), some (.int l1), some (.int l2), none, none], [.int l1], M)) rfl).trans ?_
  refine (e_kI (q := (1, [some (.ref 0), some (.int l1), some (.int l2), none, none], [.int l1])) (q2 := (4, [some (.ref 0), some (.int l1), some (.int l2), none, none], [])) (M := M) (o := (pcl GG lay d 63 [.int l1] M)) (hf := rfl) rfl rfl).trans ?_
  refine kI_in (fun r1 M1 => ?_)
  refine (evn_adv 1 (q' := (5, [some (.ref 0), some (.int l1), some (.int l2), none, none], [.int (jn 2), .int r1], M1)) rfl).trans ?_
  refine (e_ic_eq (hf := rfl)).trans ?_
  refine ite_in ?_ ?_
  · refine (evn_adv 11 (q' := (30, [some (.ref 0), some (.int l1), some (.int l2), some (.int ((jn 1) <<< ((l1 - (jn 105)) &&& 31))), none], [.int ((M1.1 1 8) &&& ((jn 1) <<< ((l1 - (jn 105)) &&& 31)))], M1)) rfl).trans ?_
    refine (e_if_eq (hf := rfl)).trans ?_
    refine ite_in ?_ ?_
    · refine (evn_adv 5 (q' := (45, [some (.ref 0), some (.int l1), some (.int l2), some (.int ((jn 1) <<< ((l1 - (jn 105)) &&& 31))), some (.int (jn 0))], [.int l2, .ref 1], M1)) rfl).trans ?_
      refine (e_if_eq (hf := rfl)).trans ?_
      refine ite_in ?_ ?_
      · refine (evn_adv 7 (q' := (71, [some (.ref 0), some (.int l1), some (.int l2), some (.int ((jn 1) <<< ((l1 - (jn 105)) &&& 31))), some (.int (jn 0))], [.int ((M1.1 1 8) &&& (((jn 1) <<< ((l1 - (jn 105)) &&& 31)) ^^^ (jz 1))), .ref 1], M1)) rfl).trans ?_
        refine (evn_adv 1 (q' := (74, [some (.ref 0), some (.int l1), some (.int l2), some (.int ((jn 1) <<< ((l1 - (jn 105)) &&& 31))), some (.int (jn 0))], [], (sI M1 1 (va_up (M1.1 1) 8 ((M1.1 1 8) &&& (((jn 1) <<< ((l1 - (jn 105)) &&& 31)) ^^^ (jz 1))))))) rfl).trans ?_
        refine wr_in (f := fun M2 => E_15 d (74, [some (.ref 0), some (.int l1), some (.int l2), some (.int ((jn 1) <<< ((l1 - (jn 105)) &&& 31))), some (.int (jn 0))], [], M2)) (fun M2 => ?_)
        refine (evn_adv 1 (q' := (76, [some (.ref 0), some (.int l1), some (.int l2), some (.int ((jn 1) <<< ((l1 - (jn 105)) &&& 31))), some (.int (jn 0))], [.int (jn 0)], M2)) rfl).trans ?_
        exact evn_end 1 rfl
      · refine (evn_adv 6 (q' := (71, [some (.ref 0), some (.int l1), some (.int l2), some (.int ((jn 1) <<< ((l1 - (jn 105)) &&& 31))), some (.int (jn 0))], [.int ((M1.1 1 8) ||| ((jn 1) <<< ((l1 - (jn 105)) &&& 31))), .ref 1], M1)) rfl).trans ?_
        refine (evn_adv 1 (q' := (74, [some (.ref 0), some (.int l1), some (.int l2), some (.int ((jn 1) <<< ((l1 - (jn 105)) &&& 31))), some (.int (jn 0))], [], (sI M1 1 (va_up (M1.1 1) 8 ((M1.1 1 8) ||| ((jn 1) <<< ((l1 - (jn 105)) &&& 31))))))) rfl).trans ?_
        refine wr_in (f := fun M2 => E_15 d (74, [some (.ref 0), some (.int l1), some (.int l2), some (.int ((jn 1) <<< ((l1 - (jn 105)) &&& 31))), some (.int (jn 0))], [], M2)) (fun M2 => ?_)
        refine (evn_adv 1 (q' := (76, [some (.ref 0), some (.int l1), some (.int l2), some (.int ((jn 1) <<< ((l1 - (jn 105)) &&& 31))), some (.int (jn 0))], [.int (jn 0)], M2)) rfl).trans ?_
        exact evn_end 1 rfl
    · refine (evn_adv 6 (q' := (45, [some (.ref 0), some (.int l1), some (.int l2), some (.int ((jn 1) <<< ((l1 - (jn 105)) &&& 31))), some (.int (jn 1))], [.int l2, .ref 1], M1)) rfl).trans ?_
      refine (e_if_eq (hf := rfl)).trans ?_
      refine ite_in ?_ ?_
      · refine (evn_adv 7 (q' := (71, [some (.ref 0), some (.int l1), some (.int l2), some (.int ((jn 1) <<< ((l1 - (jn 105)) &&& 31))), some (.int (jn 1))], [.int ((M1.1 1 8) &&& (((jn 1) <<< ((l1 - (jn 105)) &&& 31)) ^^^ (jz 1))), .ref 1], M1)) rfl).trans ?_
        refine (evn_adv 1 (q' := (74, [some (.ref 0), some (.int l1), some (.int l2), some (.int ((jn 1) <<< ((l1 - (jn 105)) &&& 31))), some (.int (jn 1))], [], (sI M1 1 (va_up (M1.1 1) 8 ((M1.1 1 8) &&& (((jn 1) <<< ((l1 - (jn 105)) &&& 31)) ^^^ (jz 1))))))) rfl).trans ?_
        refine wr_in (f := fun M2 => E_15 d (74, [some (.ref 0), some (.int l1), some (.int l2), some (.int ((jn 1) <<< ((l1 - (jn 105)) &&& 31))), some (.int (jn 1))], [], M2)) (fun M2 => ?_)
        refine (evn_adv 1 (q' := (76, [some (.ref 0), some (.int l1), some (.int l2), some (.int ((jn 1) <<< ((l1 - (jn 105)) &&& 31))), some (.int (jn 1))], [.int (jn 1)], M2)) rfl).trans ?_
        exact evn_end 1 rfl
      · refine (evn_adv 6 (q' := (71, [some (.ref 0), some (.int l1), some (.int l2), some (.int ((jn 1) <<< ((l1 - (jn 105)) &&& 31))), some (.int (jn 1))], [.int ((M1.1 1 8) ||| ((jn 1) <<< ((l1 - (jn 105)) &&& 31))), .ref 1], M1)) rfl).trans ?_
        refine (evn_adv 1 (q' := (74, [some (.ref 0), some (.int l1), some (.int l2), some (.int ((jn 1) <<< ((l1 - (jn 105)) &&& 31))), some (.int (jn 1))], [], (sI M1 1 (va_up (M1.1 1) 8 ((M1.1 1 8) ||| ((jn 1) <<< ((l1 - (jn 105)) &&& 31))))))) rfl).trans ?_
        refine wr_in (f := fun M2 => E_15 d (74, [some (.ref 0), some (.int l1), some (.int l2), some (.int ((jn 1) <<< ((l1 - (jn 105)) &&& 31))), some (.int (jn 1))], [], M2)) (fun M2 => ?_)
        refine (evn_adv 1 (q' := (76, [some (.ref 0), some (.int l1), some (.int l2), some (.int ((jn 1) <<< ((l1 - (jn 105)) &&& 31))), some (.int (jn 1))], [.int (jn 1)], M2)) rfl).trans ?_
        exact evn_end 1 rfl
  · refine (evn_adv 2 (q' := (10, [some (.ref 0), some (.int l1), some (.int l2), none, none], [.int (jz 1), .ref 0], M1)) rfl).trans ?_
    refine (e_kI (q := (10, [some (.ref 0), some (.int l1), some (.int l2), none, none], [.int (jz 1), .ref 0])) (q2 := (13, [some (.ref 0), some (.int l1), some (.int l2), none, none], [])) (M := M1) (o := (pcl GG lay d 56 [.ref 0, .int (jz 1)] M1)) (hf := rfl) rfl rfl).trans ?_
    refine kI_in (fun r2 M2 => ?_)
    exact evn_end 1 rfl
/-- TermStrategies.node(II)I -/
noncomputable abbrev E_16 (d : Nat) : PQ → PO := evn (rnn k_16 lay none (pcl GG lay d) 1)
theorem q_16 (d : Nat) (l1 : Int32) (l2 : Int32) (M : PM) : pcl GG lay (d + 1) 16 [.ref 0, .int l1, .int l2] M = (kI (pcl GG lay d 240 [.ref 1, .int l1] M) fun r1 M1 => (if r1 = jn 0 then (kI (pcl GG lay d 56 [.ref 0, .int (jz 1)] M1) fun r2 M2 => (rI r2 M2)) else (kI (pcl GG lay d 59 [.int l1] M1) fun r2 M2 => (kI (pcl GG lay d 58 [.ref 0, .int r2, .int l2] M2) fun r3 M3 => (if r3 = jn 0 then (kI (pcl GG lay d 56 [.ref 0, .int (jz 5)] M3) fun r4 M4 => (rI r4 M4)) else (kI (pcl GG lay d 59 [.int l1] M3) fun r4 M4 => (kI (pcl GG lay d 231 [.ref 6, .int (r4 + l2)] M4) fun r5 M5 => (rI r5 M5)))))))) := by
  refine (pcl_un (mt := t_16) (by decide) rfl (Nat.le_of_ble_eq_true rfl)).trans ?_
  show E_16 d (0, [some (.ref 0), some (.int l1), some (.int l2)], [], M) = _
  refine (evn_adv 3 (q' := (5, [some (.ref 0), some (.int l1), some (.int l2)], [.int l1, .ref 1], M)) rfl).trans ?_
  refine (e_kI (q := (5, [some (.ref 0), some (.int l1), some (.int l2)], [.int l1, .ref 1])) (q2 := (8, [some (.ref 0), some (.int l1), some (.int l2)], [])) (M := M) (o := (pcl GG lay d 240 [.ref 1, .int l1] M)) (hf := rfl) rfl rfl).trans ?_
  refine kI_in (fun r1 M1 => ?_)
  refine (e_if_ne (hf := rfl)).trans ?_
  refine ite_in ?_ ?_
  · refine (evn_adv 2 (q' := (13, [some (.ref 0), some (.int l1), some (.int l2)], [.int (jz 1), .ref 0], M1)) rfl).trans ?_
    refine (e_kI (q := (13, [some (.ref 0), some (.int l1), some (.int l2)], [.int (jz 1), .ref 0])) (q2 := (16, [some (.ref 0), some (.int l1), some (.int l2)], [])) (M := M1) (o := (pcl GG lay d 56 [.ref 0, .int (jz 1)] M1)) (hf := rfl) rfl rfl).trans ?_
    refine kI_in (fun r2 M2 => ?_)
    exact evn_end 1 rfl
  · refine (evn_adv 2 (q' := (19, [some (.ref 0), some (.int l1), some (.int l2)], [.int l1, .ref 0], M1)) rfl).trans ?_
    refine (e_kI (q := (19, [some (.ref 0), some (.int l1), some (.int l2)], [.int l1, .ref 0])) (q2 := (22, [some (.ref 0), some (.int l1), some (.int l2)], [.ref 0])) (M := M1) (o := (pcl GG lay d 59 [.int l1] M1)) (hf := rfl) rfl rfl).trans ?_
    refine kI_in (fun r2 M2 => ?_)
    refine (evn_adv 1 (q' := (23, [some (.ref 0), some (.int l1), some (.int l2)], [.int l2, .int r2, .ref 0], M2)) rfl).trans ?_
    refine (e_kI (q := (23, [some (.ref 0), some (.int l1), some (.int l2)], [.int l2, .int r2, .ref 0])) (q2 := (26, [some (.ref 0), some (.int l1), some (.int l2)], [])) (M := M2) (o := (pcl GG lay d 58 [.ref 0, .int r2, .int l2] M2)) (hf := rfl) rfl rfl).trans ?_
    refine kI_in (fun r3 M3 => ?_)
    refine (e_if_ne (hf := rfl)).trans ?_
    refine ite_in ?_ ?_
    · refine (evn_adv 2 (q' := (32, [some (.ref 0), some (.int l1), some (.int l2)], [.int (jz 5), .ref 0], M3)) rfl).trans ?_
      refine (e_kI (q := (32, [some (.ref 0), some (.int l1), some (.int l2)], [.int (jz 5), .ref 0])) (q2 := (35, [some (.ref 0), some (.int l1), some (.int l2)], [])) (M := M3) (o := (pcl GG lay d 56 [.ref 0, .int (jz 5)] M3)) (hf := rfl) rfl rfl).trans ?_
      refine kI_in (fun r4 M4 => ?_)
      exact evn_end 1 rfl
    · refine (evn_adv 3 (q' := (41, [some (.ref 0), some (.int l1), some (.int l2)], [.int l1, .ref 6], M3)) rfl).trans ?_
      refine (e_kI (q := (41, [some (.ref 0), some (.int l1), some (.int l2)], [.int l1, .ref 6])) (q2 := (44, [some (.ref 0), some (.int l1), some (.int l2)], [.ref 6])) (M := M3) (o := (pcl GG lay d 59 [.int l1] M3)) (hf := rfl) rfl rfl).trans ?_
      refine kI_in (fun r4 M4 => ?_)
      refine (evn_adv 2 (q' := (46, [some (.ref 0), some (.int l1), some (.int l2)], [.int (r4 + l2), .ref 6], M4)) rfl).trans ?_
      refine (e_kI (q := (46, [some (.ref 0), some (.int l1), some (.int l2)], [.int (r4 + l2), .ref 6])) (q2 := (49, [some (.ref 0), some (.int l1), some (.int l2)], [])) (M := M4) (o := (pcl GG lay d 231 [.ref 6, .int (r4 + l2)] M4)) (hf := rfl) rfl rfl).trans ?_
      refine kI_in (fun r5 M5 => ?_)
      exact evn_end 1 rfl
/-- TermStrategies.termOf(II)I -/
noncomputable abbrev E_17 (d : Nat) : PQ → PO := evn (rnn k_17 lay none (pcl GG lay d) 1)
theorem q_17 (d : Nat) (l1 : Int32) (l2 : Int32) (M : PM) : pcl GG lay (d + 1) 17 [.ref 0, .int l1, .int l2] M = (kI (pcl GG lay d 240 [.ref 1, .int l1] M) fun r1 M1 => (if r1 = jn 0 then (kI (pcl GG lay d 56 [.ref 0, .int (jz 1)] M1) fun r2 M2 => (rI r2 M2)) else (kI (pcl GG lay d 59 [.int l1] M1) fun r2 M2 => (if l2 = (jn 0) then (kI (pcl GG lay d 234 [.ref 6, .int r2] M2) fun r3 M3 => (rI r3 M3)) else (if l2 = (jn 1) then (kV (pcl GG lay d 183 [.ref 21, .int r2] M2) fun M3 => (kI (pcl GG lay d 185 [.ref 21] M3) fun r4 M4 => (rI r4 M4))) else (if l2 = (jn 2) then (kI (pcl GG lay d 236 [.ref 6, .int r2] M2) fun r3 M3 => (rI r3 M3)) else (if l2 = (jn 3) then (kL (pcl GG lay d 27 [.ref 0, .int r2] M2) fun r3 M3 => (if (lg_cmp r3 (Int64.ofNat 0)) = jn 0 then (rI (jn 1) M3) else (rI (jn 0) M3))) else (kI (pcl GG lay d 56 [.ref 0, .int (jz 5)] M2) fun r3 M3 => (rI r3 M3))))))))) := by
  refine (pcl_un (mt := t_17) (by decide) rfl (Nat.le_of_ble_eq_true rfl)).trans ?_
  show E_17 d (0, [some (.ref 0), some (.int l1), some (.int l2), none], [], M) = _
  refine (evn_adv 3 (q' := (5, [some (.ref 0), some (.int l1), some (.int l2), none], [.int l1, .ref 1], M)) rfl).trans ?_
  refine (e_kI (q := (5, [some (.ref 0), some (.int l1), some (.int l2), none], [.int l1, .ref 1])) (q2 := (8, [some (.ref 0), some (.int l1), some (.int l2), none], [])) (M := M) (o := (pcl GG lay d 240 [.ref 1, .int l1] M)) (hf := rfl) rfl rfl).trans ?_
  refine kI_in (fun r1 M1 => ?_)
  refine (e_if_ne (hf := rfl)).trans ?_
  refine ite_in ?_ ?_
  · refine (evn_adv 2 (q' := (13, [some (.ref 0), some (.int l1), some (.int l2), none], [.int (jz 1), .ref 0], M1)) rfl).trans ?_
    refine (e_kI (q := (13, [some (.ref 0), some (.int l1), some (.int l2), none], [.int (jz 1), .ref 0])) (q2 := (16, [some (.ref 0), some (.int l1), some (.int l2), none], [])) (M := M1) (o := (pcl GG lay d 56 [.ref 0, .int (jz 1)] M1)) (hf := rfl) rfl rfl).trans ?_
    refine kI_in (fun r2 M2 => ?_)
    exact evn_end 1 rfl
  · refine (evn_adv 1 (q' := (18, [some (.ref 0), some (.int l1), some (.int l2), none], [.int l1], M1)) rfl).trans ?_
    refine (e_kI (q := (18, [some (.ref 0), some (.int l1), some (.int l2), none], [.int l1])) (q2 := (21, [some (.ref 0), some (.int l1), some (.int l2), none], [])) (M := M1) (o := (pcl GG lay d 59 [.int l1] M1)) (hf := rfl) rfl rfl).trans ?_
    refine kI_in (fun r2 M2 => ?_)
    refine (evn_adv 2 (q' := (23, [some (.ref 0), some (.int l1), some (.int l2), some (.int r2)], [.int l2], M2)) rfl).trans ?_
    refine (e_sw0 (dflt := 102) (lo := ((0 : Nat) : Int)) (ts := [52, 61, 77, 86]) (hf := rfl) rfl).trans ?_
    refine sw_cons (lo := 0) (F := fun pc => E_17 d (pc, [some (.ref 0), some (.int l1), some (.int l2), some (.int r2)], [], M2)) (by decide) ?_ ?_
    · refine (evn_adv 3 (q' := (57, [some (.ref 0), some (.int l1), some (.int l2), some (.int r2)], [.int r2, .ref 6], M2)) rfl).trans ?_
      refine (e_kI (q := (57, [some (.ref 0), some (.int l1), some (.int l2), some (.int r2)], [.int r2, .ref 6])) (q2 := (60, [some (.ref 0), some (.int l1), some (.int l2), some (.int r2)], [])) (M := M2) (o := (pcl GG lay d 234 [.ref 6, .int r2] M2)) (hf := rfl) rfl rfl).trans ?_
      refine kI_in (fun r3 M3 => ?_)
      exact evn_end 1 rfl
    refine sw_cons (lo := 1) (F := fun pc => E_17 d (pc, [some (.ref 0), some (.int l1), some (.int l2), some (.int r2)], [], M2)) (by decide) ?_ ?_
    · refine (evn_adv 3 (q' := (66, [some (.ref 0), some (.int l1), some (.int l2), some (.int r2)], [.int r2, .ref 21], M2)) rfl).trans ?_
      refine (e_kV (q := (66, [some (.ref 0), some (.int l1), some (.int l2), some (.int r2)], [.int r2, .ref 21])) (q2 := (69, [some (.ref 0), some (.int l1), some (.int l2), some (.int r2)], [])) (M := M2) (o := (pcl GG lay d 183 [.ref 21, .int r2] M2)) (hf := rfl) rfl rfl).trans ?_
      refine kV_in (fun M3 => ?_)
      refine (evn_adv 2 (q' := (73, [some (.ref 0), some (.int l1), some (.int l2), some (.int r2)], [.ref 21], M3)) rfl).trans ?_
      refine (e_kI (q := (73, [some (.ref 0), some (.int l1), some (.int l2), some (.int r2)], [.ref 21])) (q2 := (76, [some (.ref 0), some (.int l1), some (.int l2), some (.int r2)], [])) (M := M3) (o := (pcl GG lay d 185 [.ref 21] M3)) (hf := rfl) rfl rfl).trans ?_
      refine kI_in (fun r4 M4 => ?_)
      exact evn_end 1 rfl
    refine sw_cons (lo := 2) (F := fun pc => E_17 d (pc, [some (.ref 0), some (.int l1), some (.int l2), some (.int r2)], [], M2)) (by decide) ?_ ?_
    · refine (evn_adv 3 (q' := (82, [some (.ref 0), some (.int l1), some (.int l2), some (.int r2)], [.int r2, .ref 6], M2)) rfl).trans ?_
      refine (e_kI (q := (82, [some (.ref 0), some (.int l1), some (.int l2), some (.int r2)], [.int r2, .ref 6])) (q2 := (85, [some (.ref 0), some (.int l1), some (.int l2), some (.int r2)], [])) (M := M2) (o := (pcl GG lay d 236 [.ref 6, .int r2] M2)) (hf := rfl) rfl rfl).trans ?_
      refine kI_in (fun r3 M3 => ?_)
      exact evn_end 1 rfl
    refine sw_cons (lo := 3) (F := fun pc => E_17 d (pc, [some (.ref 0), some (.int l1), some (.int l2), some (.int r2)], [], M2)) (by decide) ?_ ?_
    · refine (evn_adv 2 (q' := (88, [some (.ref 0), some (.int l1), some (.int l2), some (.int r2)], [.int r2, .ref 0], M2)) rfl).trans ?_
      refine (e_kL (q := (88, [some (.ref 0), some (.int l1), some (.int l2), some (.int r2)], [.int r2, .ref 0])) (q2 := (91, [some (.ref 0), some (.int l1), some (.int l2), some (.int r2)], [])) (M := M2) (o := (pcl GG lay d 27 [.ref 0, .int r2] M2)) (hf := rfl) rfl rfl).trans ?_
      refine kL_in (fun r3 M3 => ?_)
      refine (evn_adv 2 (q' := (93, [some (.ref 0), some (.int l1), some (.int l2), some (.int r2)], [.int (lg_cmp r3 (Int64.ofNat 0))], M3)) rfl).trans ?_
      refine (e_if_ne (hf := rfl)).trans ?_
      refine ite_in ?_ ?_
      · refine (evn_adv 2 (q' := (101, [some (.ref 0), some (.int l1), some (.int l2), some (.int r2)], [.int (jn 1)], M3)) rfl).trans ?_
        exact evn_end 1 rfl
      · refine (evn_adv 1 (q' := (101, [some (.ref 0), some (.int l1), some (.int l2), some (.int r2)], [.int (jn 0)], M3)) rfl).trans ?_
        exact evn_end 1 rfl
    show E_17 d (102, [some (.ref 0), some (.int l1), some (.int l2), some (.int r2)], [], M2) = _
    refine (evn_adv 2 (q' := (105, [some (.ref 0), some (.int l1), some (.int l2), some (.int r2)], [.int (jz 5), .ref 0], M2)) rfl).trans ?_
    refine (e_kI (q := (105, [some (.ref 0), some (.int l1), some (.int l2), some (.int r2)], [.int (jz 5), .ref 0])) (q2 := (108, [some (.ref 0), some (.int l1), some (.int l2), some (.int r2)], [])) (M := M2) (o := (pcl GG lay d 56 [.ref 0, .int (jz 5)] M2)) (hf := rfl) rfl rfl).trans ?_
    refine kI_in (fun r3 M3 => ?_)
    exact evn_end 1 rfl
/-- TermStrategies.path(II)J -/
noncomputable abbrev E_18 (d : Nat) : PQ → PO := evn (rnn k_18 lay none (pcl GG lay d) 3)
theorem q_18 (d : Nat) (l1 : Int32) (l2 : Int32) (M : PM) : pcl GG lay (d + 1) 18 [.ref 0, .int l1, .int l2] M = (kI (pcl GG lay d 240 [.ref 1, .int l1] M) fun r1 M1 => (if r1 = jn 0 then (kI (pcl GG lay d 56 [.ref 0, .int (jz 1)] M1) fun r2 M2 => (rL (r2.toInt64) M2)) else (kI (pcl GG lay d 59 [.int l1] M1) fun r2 M2 => (kI (pcl GG lay d 58 [.ref 0, .int r2, .int l2] M2) fun r3 M3 => (if r3 = jn 0 then (kI (pcl GG lay d 56 [.ref 0, .int (jz 5)] M3) fun r4 M4 => (rL (r4.toInt64) M4)) else (kI (pcl GG lay d 59 [.int l1] M3) fun r4 M4 => (kV (pcl GG lay d 183 [.ref 21, .int r4] M4) fun M5 => (kL (pcl GG lay d 186 [.ref 21, .int l2] M5) fun r6 M6 => (rL r6 M6))))))))) := by
  refine (pcl_un (mt := t_18) (by decide) rfl (Nat.le_of_ble_eq_true rfl)).trans ?_
  show E_18 d (0, [some (.ref 0), some (.int l1), some (.int l2)], [], M) = _
  refine (evn_adv 3 (q' := (5, [some (.ref 0), some (.int l1), some (.int l2)], [.int l1, .ref 1], M)) rfl).trans ?_
  refine (e_kI (q := (5, [some (.ref 0), some (.int l1), some (.int l2)], [.int l1, .ref 1])) (q2 := (8, [some (.ref 0), some (.int l1), some (.int l2)], [])) (M := M) (o := (pcl GG lay d 240 [.ref 1, .int l1] M)) (hf := rfl) rfl rfl).trans ?_
  refine kI_in (fun r1 M1 => ?_)
  refine (e_if_ne (hf := rfl)).trans ?_
  refine ite_in ?_ ?_
  · refine (evn_adv 2 (q' := (13, [some (.ref 0), some (.int l1), some (.int l2)], [.int (jz 1), .ref 0], M1)) rfl).trans ?_
    refine (e_kI (q := (13, [some (.ref 0), some (.int l1), some (.int l2)], [.int (jz 1), .ref 0])) (q2 := (16, [some (.ref 0), some (.int l1), some (.int l2)], [])) (M := M1) (o := (pcl GG lay d 56 [.ref 0, .int (jz 1)] M1)) (hf := rfl) rfl rfl).trans ?_
    refine kI_in (fun r2 M2 => ?_)
    refine (evn_adv 1 (q' := (17, [some (.ref 0), some (.int l1), some (.int l2)], [.long (r2.toInt64)], M2)) rfl).trans ?_
    exact evn_end 1 rfl
  · refine (evn_adv 2 (q' := (20, [some (.ref 0), some (.int l1), some (.int l2)], [.int l1, .ref 0], M1)) rfl).trans ?_
    refine (e_kI (q := (20, [some (.ref 0), some (.int l1), some (.int l2)], [.int l1, .ref 0])) (q2 := (23, [some (.ref 0), some (.int l1), some (.int l2)], [.ref 0])) (M := M1) (o := (pcl GG lay d 59 [.int l1] M1)) (hf := rfl) rfl rfl).trans ?_
    refine kI_in (fun r2 M2 => ?_)
    refine (evn_adv 1 (q' := (24, [some (.ref 0), some (.int l1), some (.int l2)], [.int l2, .int r2, .ref 0], M2)) rfl).trans ?_
    refine (e_kI (q := (24, [some (.ref 0), some (.int l1), some (.int l2)], [.int l2, .int r2, .ref 0])) (q2 := (27, [some (.ref 0), some (.int l1), some (.int l2)], [])) (M := M2) (o := (pcl GG lay d 58 [.ref 0, .int r2, .int l2] M2)) (hf := rfl) rfl rfl).trans ?_
    refine kI_in (fun r3 M3 => ?_)
    refine (e_if_ne (hf := rfl)).trans ?_
    refine ite_in ?_ ?_
    · refine (evn_adv 2 (q' := (33, [some (.ref 0), some (.int l1), some (.int l2)], [.int (jz 5), .ref 0], M3)) rfl).trans ?_
      refine (e_kI (q := (33, [some (.ref 0), some (.int l1), some (.int l2)], [.int (jz 5), .ref 0])) (q2 := (36, [some (.ref 0), some (.int l1), some (.int l2)], [])) (M := M3) (o := (pcl GG lay d 56 [.ref 0, .int (jz 5)] M3)) (hf := rfl) rfl rfl).trans ?_
      refine kI_in (fun r4 M4 => ?_)
      refine (evn_adv 1 (q' := (37, [some (.ref 0), some (.int l1), some (.int l2)], [.long (r4.toInt64)], M4)) rfl).trans ?_
      exact evn_end 1 rfl
    · refine (evn_adv 3 (q' := (43, [some (.ref 0), some (.int l1), some (.int l2)], [.int l1, .ref 21], M3)) rfl).trans ?_
      refine (e_kI (q := (43, [some (.ref 0), some (.int l1), some (.int l2)], [.int l1, .ref 21])) (q2 := (46, [some (.ref 0), some (.int l1), some (.int l2)], [.ref 21])) (M := M3) (o := (pcl GG lay d 59 [.int l1] M3)) (hf := rfl) rfl rfl).trans ?_
      refine kI_in (fun r4 M4 => ?_)
      refine (e_kV (q := (46, [some (.ref 0), some (.int l1), some (.int l2)], [.int r4, .ref 21])) (q2 := (49, [some (.ref 0), some (.int l1), some (.int l2)], [])) (M := M4) (o := (pcl GG lay d 183 [.ref 21, .int r4] M4)) (hf := rfl) rfl rfl).trans ?_
      refine kV_in (fun M5 => ?_)
      refine (evn_adv 3 (q' := (54, [some (.ref 0), some (.int l1), some (.int l2)], [.int l2, .ref 21], M5)) rfl).trans ?_
      refine (e_kL (q := (54, [some (.ref 0), some (.int l1), some (.int l2)], [.int l2, .ref 21])) (q2 := (57, [some (.ref 0), some (.int l1), some (.int l2)], [])) (M := M5) (o := (pcl GG lay d 186 [.ref 21, .int l2] M5)) (hf := rfl) rfl rfl).trans ?_
      refine kL_in (fun r6 M6 => ?_)
      exact evn_end 1 rfl
/-- TermStrategies.same(II)I -/
noncomputable abbrev E_19 (d : Nat) : PQ → PO := evn (rnn k_19 lay none (pcl GG lay d) 1)
theorem q_19 (d : Nat) (l1 : Int32) (l2 : Int32) (M : PM) : pcl GG lay (d + 1) 19 [.ref 0, .int l1, .int l2] M = (kI (pcl GG lay d 240 [.ref 1, .int l1] M) fun r1 M1 => (if r1 = jn 0 then (kI (pcl GG lay d 56 [.ref 0, .int (jz 1)] M1) fun r2 M2 => (rI r2 M2)) else (kI (pcl GG lay d 240 [.ref 1, .int l2] M1) fun r2 M2 => (if r2 = jn 0 then (kI (pcl GG lay d 56 [.ref 0, .int (jz 1)] M2) fun r3 M3 => (rI r3 M3)) else (kI (pcl GG lay d 59 [.int l1] M2) fun r3 M3 => (kI (pcl GG lay d 59 [.int l2] M3) fun r4 M4 => (kI (pcl GG lay d 235 [.ref 6, .int r3, .int r4] M4) fun r5 M5 => (if r5 = jn 0 then (kI (pcl GG lay d 59 [.int l1] M5) fun r6 M6 => (kI (pcl GG lay d 59 [.int l2] M6) fun r7 M7 => (kI (pcl GG lay d 180 [.ref 24, .int r6, .int r7, .int (M7.1 1 8)] M7) fun r8 M8 => (if r8 = jn 0 then (rI (jn 2) M8) else (rI (jn 1) M8))))) else (rI (jn 0) M5))))))))) := by
  refine (pcl_un (mt := t_19) (by decide) rfl (Nat.le_of_ble_eq_true rfl)).trans ?_
  show E_19 d (0, [some (.ref 0), some (.int l1), some (.int l2)], [], M) = _
  refine (evn_adv 3 (q' := (5, [some (.ref 0), some (.int l1), some (.int l2)], [.int l1, .ref 1], M)) rfl).trans ?_
  refine (e_kI (q := (5, [some (.ref 0), some (.int l1), some (.int l2)], [.int l1, .ref 1])) (q2 := (8, [some (.ref 0), some (.int l1), some (.int l2)], [])) (M := M) (o := (pcl GG lay d 240 [.ref 1, .int l1] M)) (hf := rfl) rfl rfl).trans ?_
  refine kI_in (fun r1 M1 => ?_)
  refine (e_if_eq (hf := rfl)).trans ?_
  refine ite_in ?_ ?_
  · refine (evn_adv 2 (q' := (24, [some (.ref 0), some (.int l1), some (.int l2)], [.int (jz 1), .ref 0], M1)) rfl).trans ?_
    refine (e_kI (q := (24, [some (.ref 0), some (.int l1), some (.int l2)], [.int (jz 1), .ref 0])) (q2 := (27, [some (.ref 0), some (.int l1), some (.int l2)], [])) (M := M1) (o := (pcl GG lay d 56 [.ref 0, .int (jz 1)] M1)) (hf := rfl) rfl rfl).trans ?_
    refine kI_in (fun r2 M2 => ?_)
    exact evn_end 1 rfl
  · refine (evn_adv 3 (q' := (16, [some (.ref 0), some (.int l1), some (.int l2)], [.int l2, .ref 1], M1)) rfl).trans ?_
    refine (e_kI (q := (16, [some (.ref 0), some (.int l1), some (.int l2)], [.int l2, .ref 1])) (q2 := (19, [some (.ref 0), some (.int l1), some (.int l2)], [])) (M := M1) (o := (pcl GG lay d 240 [.ref 1, .int l2] M1)) (hf := rfl) rfl rfl).trans ?_
    refine kI_in (fun r2 M2 => ?_)
    refine (e_if_ne (hf := rfl)).trans ?_
    refine ite_in ?_ ?_
    · refine (evn_adv 2 (q' := (24, [some (.ref 0), some (.int l1), some (.int l2)], [.int (jz 1), .ref 0], M2)) rfl).trans ?_
      refine (e_kI (q := (24, [some (.ref 0), some (.int l1), some (.int l2)], [.int (jz 1), .ref 0])) (q2 := (27, [some (.ref 0), some (.int l1), some (.int l2)], [])) (M := M2) (o := (pcl GG lay d 56 [.ref 0, .int (jz 1)] M2)) (hf := rfl) rfl rfl).trans ?_
      refine kI_in (fun r3 M3 => ?_)
      exact evn_end 1 rfl
    · refine (evn_adv 3 (q' := (33, [some (.ref 0), some (.int l1), some (.int l2)], [.int l1, .ref 6], M2)) rfl).trans ?_
      refine (e_kI (q := (33, [some (.ref 0), some (.int l1), some (.int l2)], [.int l1, .ref 6])) (q2 := (36, [some (.ref 0), some (.int l1), some (.int l2)], [.ref 6])) (M := M2) (o := (pcl GG lay d 59 [.int l1] M2)) (hf := rfl) rfl rfl).trans ?_
      refine kI_in (fun r3 M3 => ?_)
      refine (evn_adv 1 (q' := (37, [some (.ref 0), some (.int l1), some (.int l2)], [.int l2, .int r3, .ref 6], M3)) rfl).trans ?_
      refine (e_kI (q := (37, [some (.ref 0), some (.int l1), some (.int l2)], [.int l2, .int r3, .ref 6])) (q2 := (40, [some (.ref 0), some (.int l1), some (.int l2)], [.int r3, .ref 6])) (M := M3) (o := (pcl GG lay d 59 [.int l2] M3)) (hf := rfl) rfl rfl).trans ?_
      refine kI_in (fun r4 M4 => ?_)
      refine (e_kI (q := (40, [some (.ref 0), some (.int l1), some (.int l2)], [.int r4, .int r3, .ref 6])) (q2 := (43, [some (.ref 0), some (.int l1), some (.int l2)], [])) (M := M4) (o := (pcl GG lay d 235 [.ref 6, .int r3, .int r4] M4)) (hf := rfl) rfl rfl).trans ?_
      refine kI_in (fun r5 M5 => ?_)
      refine (e_if_eq (hf := rfl)).trans ?_
      refine ite_in ?_ ?_
      · refine (evn_adv 3 (q' := (53, [some (.ref 0), some (.int l1), some (.int l2)], [.int l1, .ref 24], M5)) rfl).trans ?_
        refine (e_kI (q := (53, [some (.ref 0), some (.int l1), some (.int l2)], [.int l1, .ref 24])) (q2 := (56, [some (.ref 0), some (.int l1), some (.int l2)], [.ref 24])) (M := M5) (o := (pcl GG lay d 59 [.int l1] M5)) (hf := rfl) rfl rfl).trans ?_
        refine kI_in (fun r6 M6 => ?_)
        refine (evn_adv 1 (q' := (57, [some (.ref 0), some (.int l1), some (.int l2)], [.int l2, .int r6, .ref 24], M6)) rfl).trans ?_
        refine (e_kI (q := (57, [some (.ref 0), some (.int l1), some (.int l2)], [.int l2, .int r6, .ref 24])) (q2 := (60, [some (.ref 0), some (.int l1), some (.int l2)], [.int r6, .ref 24])) (M := M6) (o := (pcl GG lay d 59 [.int l2] M6)) (hf := rfl) rfl rfl).trans ?_
        refine kI_in (fun r7 M7 => ?_)
        refine (evn_adv 3 (q' := (67, [some (.ref 0), some (.int l1), some (.int l2)], [.int (M7.1 1 8), .int r7, .int r6, .ref 24], M7)) rfl).trans ?_
        refine (e_kI (q := (67, [some (.ref 0), some (.int l1), some (.int l2)], [.int (M7.1 1 8), .int r7, .int r6, .ref 24])) (q2 := (70, [some (.ref 0), some (.int l1), some (.int l2)], [])) (M := M7) (o := (pcl GG lay d 180 [.ref 24, .int r6, .int r7, .int (M7.1 1 8)] M7)) (hf := rfl) rfl rfl).trans ?_
        refine kI_in (fun r8 M8 => ?_)
        refine (e_if_eq (hf := rfl)).trans ?_
        refine ite_in ?_ ?_
        · refine (evn_adv 1 (q' := (78, [some (.ref 0), some (.int l1), some (.int l2)], [.int (jn 2)], M8)) rfl).trans ?_
          exact evn_end 1 rfl
        · refine (evn_adv 2 (q' := (78, [some (.ref 0), some (.int l1), some (.int l2)], [.int (jn 1)], M8)) rfl).trans ?_
          exact evn_end 1 rfl
      · refine (evn_adv 1 (q' := (47, [some (.ref 0), some (.int l1), some (.int l2)], [.int (jn 0)], M5)) rfl).trans ?_
        exact evn_end 1 rfl
/-- TermStrategies.rule(II)I -/
noncomputable abbrev E_20 (d : Nat) : PQ → PO := evn (rnn k_20 lay none (pcl GG lay d) 1)
theorem q_20 (d : Nat) (l1 : Int32) (l2 : Int32) (M : PM) : pcl GG lay (d + 1) 20 [.ref 0, .int l1, .int l2] M = (kI (pcl GG lay d 240 [.ref 1, .int l1] M) fun r1 M1 => (if r1 = jn 0 then (kI (pcl GG lay d 56 [.ref 0, .int (jz 1)] M1) fun r2 M2 => (rI r2 M2)) else (kI (pcl GG lay d 240 [.ref 1, .int l2] M1) fun r2 M2 => (if r2 = jn 0 then (kI (pcl GG lay d 56 [.ref 0, .int (jz 1)] M2) fun r3 M3 => (rI r3 M3)) else (kI (pcl GG lay d 59 [.int l2] M2) fun r3 M3 => (kI (pcl GG lay d 236 [.ref 6, .int r3] M3) fun r4 M4 => (kI (pcl GG lay d 59 [.int l1] M4) fun r5 M5 => (kI (pcl GG lay d 236 [.ref 6, .int r5] M5) fun r6 M6 => (kI (pcl GG lay d 59 [.int l1] M6) fun r7 M7 => (kI (pcl GG lay d 231 [.ref 6, .int r7] M7) fun r8 M8 => (kI (pcl GG lay d 62 [.int r8] M8) fun r9 M9 => (if r9 = jn 0 then (if (r4 &&& (r6 ^^^ (jz 1))) = jn 0 then (if (M9.1 1 6) < (jn 12) then (kI (pcl GG lay d 59 [.int l1] M9) fun r10 M10 => (kI (pcl GG lay d 59 [.int l2] M10) fun r11 M11 => (kI (pcl GG lay d 244 [.ref 1, .int r10, .int r11] M11) fun r12 M12 => (rI r12 M12)))) else (kI (pcl GG lay d 56 [.ref 0, .int (jz 7)] M9) fun r10 M10 => (rI r10 M10))) else (kI (pcl GG lay d 56 [.ref 0, .int (jz 6)] M9) fun r10 M10 => (rI r10 M10))) else (kI (pcl GG lay d 56 [.ref 0, .int (jz 6)] M9) fun r10 M10 => (rI r10 M10)))))))))))))) := by
  refine (pcl_un (mt := t_20) (by decide) rfl (Nat.le_of_ble_eq_true rfl)).trans ?_
  show E_20 d (0, [some (.ref 0), some (.int l1), some (.int l2), none], [], M) = _
  refine (evn_adv 3 (q' := (5, [some (.ref 0), some (.int l1), some (.int l2), none], [.int l1, .ref 1], M)) rfl).trans ?_
  refine (e_kI (q := (5, [some (.ref 0), some (.int l1), some (.int l2), none], [.int l1, .ref 1])) (q2 := (8, [some (.ref 0), some (.int l1), some (.int l2), none], [])) (M := M) (o := (pcl GG lay d 240 [.ref 1, .int l1] M)) (hf := rfl) rfl rfl).trans ?_
  refine kI_in (fun r1 M1 => ?_)
  refine (e_if_eq (hf := rfl)).trans ?_
  refine ite_in ?_ ?_
  · refine (evn_adv 2 (q' := (24, [some (.ref 0), some (.int l1), some (.int l2), none], [.int (jz 1), .ref 0], M1)) rfl).trans ?_
    refine (e_kI (q := (24, [some (.ref 0), some (.int l1), some (.int l2), none], [.int (jz 1), .ref 0])) (q2 := (27, [some (.ref 0), some (.int l1), some (.int l2), none], [])) (M := M1) (o := (pcl GG lay d 56 [.ref 0, .int (jz 1)] M1)) (hf := rfl) rfl rfl).trans ?_
    refine kI_in (fun r2 M2 => ?_)
    exact evn_end 1 rfl
  · refine (evn_adv 3 (q' := (16, [some (.ref 0), some (.int l1), some (.int l2), none], [.int l2, .ref 1], M1)) rfl).trans ?_
    refine (e_kI (q := (16, [some (.ref 0), some (.int l1), some (.int l2), none], [.int l2, .ref 1])) (q2 := (19, [some (.ref 0), some (.int l1), some (.int l2), none], [])) (M := M1) (o := (pcl GG lay d 240 [.ref 1, .int l2] M1)) (hf := rfl) rfl rfl).trans ?_
    refine kI_in (fun r2 M2 => ?_)
    refine (e_if_ne (hf := rfl)).trans ?_
    refine ite_in ?_ ?_
    · refine (evn_adv 2 (q' := (24, [some (.ref 0), some (.int l1), some (.int l2), none], [.int (jz 1), .ref 0], M2)) rfl).trans ?_
      refine (e_kI (q := (24, [some (.ref 0), some (.int l1), some (.int l2), none], [.int (jz 1), .ref 0])) (q2 := (27, [some (.ref 0), some (.int l1), some (.int l2), none], [])) (M := M2) (o := (pcl GG lay d 56 [.ref 0, .int (jz 1)] M2)) (hf := rfl) rfl rfl).trans ?_
      refine kI_in (fun r3 M3 => ?_)
      exact evn_end 1 rfl
    · refine (evn_adv 3 (q' := (33, [some (.ref 0), some (.int l1), some (.int l2), none], [.int l2, .ref 6], M2)) rfl).trans ?_
      refine (e_kI (q := (33, [some (.ref 0), some (.int l1), some (.int l2), none], [.int l2, .ref 6])) (q2 := (36, [some (.ref 0), some (.int l1), some (.int l2), none], [.ref 6])) (M := M2) (o := (pcl GG lay d 59 [.int l2] M2)) (hf := rfl) rfl rfl).trans ?_
      refine kI_in (fun r3 M3 => ?_)
      refine (e_kI (q := (36, [some (.ref 0), some (.int l1), some (.int l2), none], [.int r3, .ref 6])) (q2 := (39, [some (.ref 0), some (.int l1), some (.int l2), none], [])) (M := M3) (o := (pcl GG lay d 236 [.ref 6, .int r3] M3)) (hf := rfl) rfl rfl).trans ?_
      refine kI_in (fun r4 M4 => ?_)
      refine (evn_adv 3 (q' := (44, [some (.ref 0), some (.int l1), some (.int l2), none], [.int l1, .ref 6, .int r4], M4)) rfl).trans ?_
      refine (e_kI (q := (44, [some (.ref 0), some (.int l1), some (.int l2), none], [.int l1, .ref 6, .int r4])) (q2 := (47, [some (.ref 0), some (.int l1), some (.int l2), none], [.ref 6, .int r4])) (M := M4) (o := (pcl GG lay d 59 [.int l1] M4)) (hf := rfl) rfl rfl).trans ?_
      refine kI_in (fun r5 M5 => ?_)
      refine (e_kI (q := (47, [some (.ref 0), some (.int l1), some (.int l2), none], [.int r5, .ref 6, .int r4])) (q2 := (50, [some (.ref 0), some (.int l1), some (.int l2), none], [.int r4])) (M := M5) (o := (pcl GG lay d 236 [.ref 6, .int r5] M5)) (hf := rfl) rfl rfl).trans ?_
      refine kI_in (fun r6 M6 => ?_)
      refine (evn_adv 7 (q' := (59, [some (.ref 0), some (.int l1), some (.int l2), some (.int (r4 &&& (r6 ^^^ (jz 1))))], [.int l1, .ref 6], M6)) rfl).trans ?_
      refine (e_kI (q := (59, [some (.ref 0), some (.int l1), some (.int l2), some (.int (r4 &&& (r6 ^^^ (jz 1))))], [.int l1, .ref 6])) (q2 := (62, [some (.ref 0), some (.int l1), some (.int l2), some (.int (r4 &&& (r6 ^^^ (jz 1))))], [.ref 6])) (M := M6) (o := (pcl GG lay d 59 [.int l1] M6)) (hf := rfl) rfl rfl).trans ?_
      refine kI_in (fun r7 M7 => ?_)
      refine (e_kI (q := (62, [some (.ref 0), some (.int l1), some (.int l2), some (.int (r4 &&& (r6 ^^^ (jz 1))))], [.int r7, .ref 6])) (q2 := (65, [some (.ref 0), some (.int l1), some (.int l2), some (.int (r4 &&& (r6 ^^^ (jz 1))))], [])) (M := M7) (o := (pcl GG lay d 231 [.ref 6, .int r7] M7)) (hf := rfl) rfl rfl).trans ?_
      refine kI_in (fun r8 M8 => ?_)
      refine (e_kI (q := (65, [some (.ref 0), some (.int l1), some (.int l2), some (.int (r4 &&& (r6 ^^^ (jz 1))))], [.int r8])) (q2 := (68, [some (.ref 0), some (.int l1), some (.int l2), some (.int (r4 &&& (r6 ^^^ (jz 1))))], [])) (M := M8) (o := (pcl GG lay d 62 [.int r8] M8)) (hf := rfl) rfl rfl).trans ?_
      refine kI_in (fun r9 M9 => ?_)
      refine (e_if_ne (hf := rfl)).trans ?_
      refine ite_in ?_ ?_
      · refine (evn_adv 1 (q' := (72, [some (.ref 0), some (.int l1), some (.int l2), some (.int (r4 &&& (r6 ^^^ (jz 1))))], [.int (r4 &&& (r6 ^^^ (jz 1)))], M9)) rfl).trans ?_
        refine (e_if_eq (hf := rfl)).trans ?_
        refine ite_in ?_ ?_
        · refine (evn_adv 4 (q' := (91, [some (.ref 0), some (.int l1), some (.int l2), some (.int (r4 &&& (r6 ^^^ (jz 1))))], [.int (jn 12), .int (M9.1 1 6)], M9)) rfl).trans ?_
          refine (e_ic_lt (hf := rfl)).trans ?_
          refine ite_in ?_ ?_
          · refine (evn_adv 3 (q' := (106, [some (.ref 0), some (.int l1), some (.int l2), some (.int (r4 &&& (r6 ^^^ (jz 1))))], [.int l1, .ref 1], M9)) rfl).trans ?_
            refine (e_kI (q := (106, [some (.ref 0), some (.int l1), some (.int l2), some (.int (r4 &&& (r6 ^^^ (jz 1))))], [.int l1, .ref 1])) (q2 := (109, [some (.ref 0), some (.int l1), some (.int l2), some (.int (r4 &&& (r6 ^^^ (jz 1))))], [.ref 1])) (M := M9) (o := (pcl GG lay d 59 [.int l1] M9)) (hf := rfl) rfl rfl).trans ?_
            refine kI_in (fun r10 M10 => ?_)
            refine (evn_adv 1 (q' := (110, [some (.ref 0), some (.int l1), some (.int l2), some (.int (r4 &&& (r6 ^^^ (jz 1))))], [.int l2, .int r10, .ref 1], M10)) rfl).trans ?_
            refine (e_kI (q := (110, [some (.ref 0), some (.int l1), some (.int l2), some (.int (r4 &&& (r6 ^^^ (jz 1))))], [.int l2, .int r10, .ref 1])) (q2 := (113, [some (.ref 0), some (.int l1), some (.int l2), some (.int (r4 &&& (r6 ^^^ (jz 1))))], [.int r10, .ref 1])) (M := M10) (o := (pcl GG lay d 59 [.int l2] M10)) (hf := rfl) rfl rfl).trans ?_
            refine kI_in (fun r11 M11 => ?_)
            refine (e_kI (q := (113, [some (.ref 0), some (.int l1), some (.int l2), some (.int (r4 &&& (r6 ^^^ (jz 1))))], [.int r11, .int r10, .ref 1])) (q2 := (116, [some (.ref 0), some (.int l1), some (.int l2), some (.int (r4 &&& (r6 ^^^ (jz 1))))], [])) (M := M11) (o := (pcl GG lay d 244 [.ref 1, .int r10, .int r11] M11)) (hf := rfl) rfl rfl).trans ?_
            refine kI_in (fun r12 M12 => ?_)
            exact evn_end 1 rfl
          · refine (evn_adv 2 (q' := (97, [some (.ref 0), some (.int l1), some (.int l2), some (.int (r4 &&& (r6 ^^^ (jz 1))))], [.int (jz 7), .ref 0], M9)) rfl).trans ?_
            refine (e_kI (q := (97, [some (.ref 0), some (.int l1), some (.int l2), some (.int (r4 &&& (r6 ^^^ (jz 1))))], [.int (jz 7), .ref 0])) (q2 := (100, [some (.ref 0), some (.int l1), some (.int l2), some (.int (r4 &&& (r6 ^^^ (jz 1))))], [])) (M := M9) (o := (pcl GG lay d 56 [.ref 0, .int (jz 7)] M9)) (hf := rfl) rfl rfl).trans ?_
            refine kI_in (fun r10 M10 => ?_)
            exact evn_end 1 rfl
        · refine (evn_adv 2 (q' := (78, [some (.ref 0), some (.int l1), some (.int l2), some (.int (r4 &&& (r6 ^^^ (jz 1))))], [.int (jz 6), .ref 0], M9)) rfl).trans ?_
          refine (e_kI (q := (78, [some (.ref 0), some (.int l1), some (.int l2), some (.int (r4 &&& (r6 ^^^ (jz 1))))], [.int (jz 6), .ref 0])) (q2 := (81, [some (.ref 0), some (.int l1), some (.int l2), some (.int (r4 &&& (r6 ^^^ (jz 1))))], [])) (M := M9) (o := (pcl GG lay d 56 [.ref 0, .int (jz 6)] M9)) (hf := rfl) rfl rfl).trans ?_
          refine kI_in (fun r10 M10 => ?_)
          exact evn_end 1 rfl
      · refine (evn_adv 2 (q' := (78, [some (.ref 0), some (.int l1), some (.int l2), some (.int (r4 &&& (r6 ^^^ (jz 1))))], [.int (jz 6), .ref 0], M9)) rfl).trans ?_
        refine (e_kI (q := (78, [some (.ref 0), some (.int l1), some (.int l2), some (.int (r4 &&& (r6 ^^^ (jz 1))))], [.int (jz 6), .ref 0])) (q2 := (81, [some (.ref 0), some (.int l1), some (.int l2), some (.int (r4 &&& (r6 ^^^ (jz 1))))], [])) (M := M9) (o := (pcl GG lay d 56 [.ref 0, .int (jz 6)] M9)) (hf := rfl) rfl rfl).trans ?_
        refine kI_in (fun r10 M10 => ?_)
        exact evn_end 1 rfl
/-- TermStrategies.ruleOf(IZI)I -/
noncomputable abbrev E_21 (d : Nat) : PQ → PO := evn (rnn k_21 lay none (pcl GG lay d) 1)
theorem q_21 (d : Nat) (l1 : Int32) (l2 : Int32) (l3 : Int32) (M : PM) : pcl GG lay (d + 1) 21 [.ref 0, .int l1, .int l2, .int l3] M = (kI (pcl GG lay d 241 [.ref 1, .int l1] M) fun r1 M1 => (if r1 = jn 0 then (kI (pcl GG lay d 56 [.ref 0, .int (jz 1)] M1) fun r2 M2 => (rI r2 M2)) else (if l2 = jn 0 then (kI (pcl GG lay d 60 [.int l1] M1) fun r2 M2 => (kI (pcl GG lay d 58 [.ref 0, .int r2, .int l3] M2) fun r3 M3 => (if r3 = jn 0 then (kI (pcl GG lay d 56 [.ref 0, .int (jz 5)] M3) fun r4 M4 => (rI r4 M4)) else (kI (pcl GG lay d 231 [.ref 6, .int (r2 + l3)] M3) fun r4 M4 => (rI r4 M4))))) else (kI (pcl GG lay d 61 [.int l1] M1) fun r2 M2 => (kI (pcl GG lay d 58 [.ref 0, .int r2, .int l3] M2) fun r3 M3 => (if r3 = jn 0 then (kI (pcl GG lay d 56 [.ref 0, .int (jz 5)] M3) fun r4 M4 => (rI r4 M4)) else (kI (pcl GG lay d 231 [.ref 6, .int (r2 + l3)] M3) fun r4 M4 => (rI r4 M4)))))))) := by
  refine (pcl_un (mt := t_21) (by decide) rfl (Nat.le_of_ble_eq_true rfl)).trans ?_
  show E_21 d (0, [some (.ref 0), some (.int l1), some (.int l2), some (.int l3), none], [], M) = _
  refine (evn_adv 3 (q' := (5, [some (.ref 0), some (.int l1), some (.int l2), some (.int l3), none], [.int l1, .ref 1], M)) rfl).trans ?_
  refine (e_kI (q := (5, [some (.ref 0), some (.int l1), some (.int l2), some (.int l3), none], [.int l1, .ref 1])) (q2 := (8, [some (.ref 0), some (.int l1), some (.int l2), some (.int l3), none], [])) (M := M) (o := (pcl GG lay d 241 [.ref 1, .int l1] M)) (hf := rfl) rfl rfl).trans ?_
  refine kI_in (fun r1 M1 => ?_)
  refine (e_if_ne (hf := rfl)).trans ?_
  refine ite_in ?_ ?_
  · refine (evn_adv 2 (q' := (13, [some (.ref 0), some (.int l1), some (.int l2), some (.int l3), none], [.int (jz 1), .ref 0], M1)) rfl).trans ?_
    refine (e_kI (q := (13, [some (.ref 0), some (.int l1), some (.int l2), some (.int l3), none], [.int (jz 1), .ref 0])) (q2 := (16, [some (.ref 0), some (.int l1), some (.int l2), some (.int l3), none], [])) (M := M1) (o := (pcl GG lay d 56 [.ref 0, .int (jz 1)] M1)) (hf := rfl) rfl rfl).trans ?_
    refine kI_in (fun r2 M2 => ?_)
    exact evn_end 1 rfl
  · refine (evn_adv 1 (q' := (18, [some (.ref 0), some (.int l1), some (.int l2), some (.int l3), none], [.int l2], M1)) rfl).trans ?_
    refine (e_if_eq (hf := rfl)).trans ?_
    refine ite_in ?_ ?_
    · refine (evn_adv 1 (q' := (29, [some (.ref 0), some (.int l1), some (.int l2), some (.int l3), none], [.int l1], M1)) rfl).trans ?_
      refine (e_kI (q := (29, [some (.ref 0), some (.int l1), some (.int l2), some (.int l3), none], [.int l1])) (q2 := (32, [some (.ref 0), some (.int l1), some (.int l2), some (.int l3), none], [])) (M := M1) (o := (pcl GG lay d 60 [.int l1] M1)) (hf := rfl) rfl rfl).trans ?_
      refine kI_in (fun r2 M2 => ?_)
      refine (evn_adv 4 (q' := (38, [some (.ref 0), some (.int l1), some (.int l2), some (.int l3), some (.int r2)], [.int l3, .int r2, .ref 0], M2)) rfl).trans ?_
      refine (e_kI (q := (38, [some (.ref 0), some (.int l1), some (.int l2), some (.int l3), some (.int r2)], [.int l3, .int r2, .ref 0])) (q2 := (41, [some (.ref 0), some (.int l1), some (.int l2), some (.int l3), some (.int r2)], [])) (M := M2) (o := (pcl GG lay d 58 [.ref 0, .int r2, .int l3] M2)) (hf := rfl) rfl rfl).trans ?_
      refine kI_in (fun r3 M3 => ?_)
      refine (e_if_ne (hf := rfl)).trans ?_
      refine ite_in ?_ ?_
      · refine (evn_adv 2 (q' := (47, [some (.ref 0), some (.int l1), some (.int l2), some (.int l3), some (.int r2)], [.int (jz 5), .ref 0], M3)) rfl).trans ?_
        refine (e_kI (q := (47, [some (.ref 0), some (.int l1), some (.int l2), some (.int l3), some (.int r2)], [.int (jz 5), .ref 0])) (q2 := (50, [some (.ref 0), some (.int l1), some (.int l2), some (.int l3), some (.int r2)], [])) (M := M3) (o := (pcl GG lay d 56 [.ref 0, .int (jz 5)] M3)) (hf := rfl) rfl rfl).trans ?_
        refine kI_in (fun r4 M4 => ?_)
        exact evn_end 1 rfl
      · refine (evn_adv 5 (q' := (59, [some (.ref 0), some (.int l1), some (.int l2), some (.int l3), some (.int r2)], [.int (r2 + l3), .ref 6], M3)) rfl).trans ?_
        refine (e_kI (q := (59, [some (.ref 0), some (.int l1), some (.int l2), some (.int l3), some (.int r2)], [.int (r2 + l3), .ref 6])) (q2 := (62, [some (.ref 0), some (.int l1), some (.int l2), some (.int l3), some (.int r2)], [])) (M := M3) (o := (pcl GG lay d 231 [.ref 6, .int (r2 + l3)] M3)) (hf := rfl) rfl rfl).trans ?_
        refine kI_in (fun r4 M4 => ?_)
        exact evn_end 1 rfl
    · refine (evn_adv 1 (q' := (22, [some (.ref 0), some (.int l1), some (.int l2), some (.int l3), none], [.int l1], M1)) rfl).trans ?_
      refine (e_kI (q := (22, [some (.ref 0), some (.int l1), some (.int l2), some (.int l3), none], [.int l1])) (q2 := (25, [some (.ref 0), some (.int l1), some (.int l2), some (.int l3), none], [])) (M := M1) (o := (pcl GG lay d 61 [.int l1] M1)) (hf := rfl) rfl rfl).trans ?_
      refine kI_in (fun r2 M2 => ?_)
      refine (evn_adv 5 (q' := (38, [some (.ref 0), some (.int l1), some (.int l2), some (.int l3), some (.int r2)], [.int l3, .int r2, .ref 0], M2)) rfl).trans ?_
      refine (e_kI (q := (38, [some (.ref 0), some (.int l1), some (.int l2), some (.int l3), some (.int r2)], [.int l3, .int r2, .ref 0])) (q2 := (41, [some (.ref 0), some (.int l1), some (.int l2), some (.int l3), some (.int r2)], [])) (M := M2) (o := (pcl GG lay d 58 [.ref 0, .int r2, .int l3] M2)) (hf := rfl) rfl rfl).trans ?_
      refine kI_in (fun r3 M3 => ?_)
      refine (e_if_ne (hf := rfl)).trans ?_
      refine ite_in ?_ ?_
      · refine (evn_adv 2 (q' := (47, [some (.ref 0), some (.int l1), some (.int l2), some (.int l3), some (.int r2)], [.int (jz 5), .ref 0], M3)) rfl).trans ?_
        refine (e_kI (q := (47, [some (.ref 0), some (.int l1), some (.int l2), some (.int l3), some (.int r2)], [.int (jz 5), .ref 0])) (q2 := (50, [some (.ref 0), some (.int l1), some (.int l2), some (.int l3), some (.int r2)], [])) (M := M3) (o := (pcl GG lay d 56 [.ref 0, .int (jz 5)] M3)) (hf := rfl) rfl rfl).trans ?_
        refine kI_in (fun r4 M4 => ?_)
        exact evn_end 1 rfl
      · refine (evn_adv 5 (q' := (59, [some (.ref 0), some (.int l1), some (.int l2), some (.int l3), some (.int r2)], [.int (r2 + l3), .ref 6], M3)) rfl).trans ?_
        refine (e_kI (q := (59, [some (.ref 0), some (.int l1), some (.int l2), some (.int l3), some (.int r2)], [.int (r2 + l3), .ref 6])) (q2 := (62, [some (.ref 0), some (.int l1), some (.int l2), some (.int l3), some (.int r2)], [])) (M := M3) (o := (pcl GG lay d 231 [.ref 6, .int (r2 + l3)] M3)) (hf := rfl) rfl rfl).trans ?_
        refine kI_in (fun r4 M4 => ?_)
        exact evn_end 1 rfl
/-- TermStrategies.bound(IIII)I -/
noncomputable abbrev E_22 (d : Nat) : PQ → PO := evn (rnn k_22 lay none (pcl GG lay d) 1)
theorem q_22 (d : Nat) (l1 : Int32) (l2 : Int32) (l3 : Int32) (l4 : Int32) (M : PM) : pcl GG lay (d + 1) 22 [.ref 0, .int l1, .int l2, .int l3, .int l4] M = (kI (pcl GG lay d 240 [.ref 1, .int l1] M) fun r1 M1 => (if r1 = jn 0 then (kI (pcl GG lay d 56 [.ref 0, .int (jz 1)] M1) fun r2 M2 => (rI r2 M2)) else (kI (pcl GG lay d 240 [.ref 1, .int l2] M1) fun r2 M2 => (if r2 = jn 0 then (kI (pcl GG lay d 56 [.ref 0, .int (jz 1)] M2) fun r3 M3 => (rI r3 M3)) else (kI (pcl GG lay d 59 [.int l1] M2) fun r3 M3 => (kI (pcl GG lay d 59 [.int l2] M3) fun r4 M4 => (kI (pcl GG lay d 188 [.ref 26, .int r3, .int r4, .int (M4.1 1 8)] M4) fun r5 M5 => (if r5 = jn 0 then (kI (pcl GG lay d 56 [.ref 0, .int (jz 6)] M5) fun r6 M6 => (rI r6 M6)) else (kI (pcl GG lay d 193 [.ref 26, .int l3] M5) fun r6 M6 => (if r6 = (jz 1) then (kI (pcl GG lay d 56 [.ref 0, .int (jz 5)] M6) fun r7 M7 => (rI r7 M7)) else (kI (pcl GG lay d 58 [.ref 0, .int r6, .int l4] M6) fun r7 M7 => (if r7 = jn 0 then (kI (pcl GG lay d 56 [.ref 0, .int (jz 5)] M7) fun r8 M8 => (rI r8 M8)) else (kI (pcl GG lay d 231 [.ref 6, .int (r6 + l4)] M7) fun r8 M8 => (rI r8 M8)))))))))))))) := by
  refine (pcl_un (mt := t_22) (by decide) rfl (Nat.le_of_ble_eq_true rfl)).trans ?_
  show E_22 d (0, [some (.ref 0), some (.int l1), some (.int l2), some (.int l3), some (.int l4), none], [], M) = _
  refine (evn_adv 3 (q' := (5, [some (.ref 0), some (.int l1), some (.int l2), some (.int l3), some (.int l4), none], [.int l1, .ref 1], M)) rfl).trans ?_
  refine (e_kI (q := (5, [some (.ref 0), some (.int l1), some (.int l2), some (.int l3), some (.int l4), none], [.int l1, .ref 1])) (q2 := (8, [some (.ref 0), some (.int l1), some (.int l2), some (.int l3), some (.int l4), none], [])) (M := M) (o := (pcl GG lay d 240 [.ref 1, .int l1] M)) (hf := rfl) rfl rfl).trans ?_
  refine kI_in (fun r1 M1 => ?_)
  refine (e_if_eq (hf := rfl)).trans ?_
  refine ite_in ?_ ?_
  · refine (evn_adv 2 (q' := (24, [some (.ref 0), some (.int l1), some (.int l2), some (.int l3), some (.int l4), none], [.int (jz 1), .ref 0], M1)) rfl).trans ?_
    refine (e_kI (q := (24, [some (.ref 0), some (.int l1), some (.int l2), some (.int l3), some (.int l4), none], [.int (jz 1), .ref 0])) (q2 := (27, [some (.ref 0), some (.int l1), some (.int l2), some (.int l3), some (.int l4), none], [])) (M := M1) (o := (pcl GG lay d 56 [.ref 0, .int (jz 1)] M1)) (hf := rfl) rfl rfl).trans ?_
    refine kI_in (fun r2 M2 => ?_)
    exact evn_end 1 rfl
  · refine (evn_adv 3 (q' := (16, [some (.ref 0), some (.int l1), some (.int l2), some (.int l3), some (.int l4), none], [.int l2, .ref 1], M1)) rfl).trans ?_
    refine (e_kI (q := (16, [some (.ref 0), some (.int l1), some (.int l2), some (.int l3), some (.int l4), none], [.int l2, .ref 1])) (q2 := (19, [some (.ref 0), some (.int l1), some (.int l2), some (.int l3), some (.int l4), none], [])) (M := M1) (o := (pcl GG lay d 240 [.ref 1, .int l2] M1)) (hf := rfl) rfl rfl).trans ?_
    refine kI_in (fun r2 M2 => ?_)
    refine (e_if_ne (hf := rfl)).trans ?_
    refine ite_in ?_ ?_
    · refine (evn_adv 2 (q' := (24, [some (.ref 0), some (.int l1), some (.int l2), some (.int l3), some (.int l4), none], [.int (jz 1), .ref 0], M2)) rfl).trans ?_
      refine (e_kI (q := (24, [some (.ref 0), some (.int l1), some (.int l2), some (.int l3), some (.int l4), none], [.int (jz 1), .ref 0])) (q2 := (27, [some (.ref 0), some (.int l1), some (.int l2), some (.int l3), some (.int l4), none], [])) (M := M2) (o := (pcl GG lay d 56 [.ref 0, .int (jz 1)] M2)) (hf := rfl) rfl rfl).trans ?_
      refine kI_in (fun r3 M3 => ?_)
      exact evn_end 1 rfl
    · refine (evn_adv 3 (q' := (33, [some (.ref 0), some (.int l1), some (.int l2), some (.int l3), some (.int l4), none], [.int l1, .ref 26], M2)) rfl).trans ?_
      refine (e_kI (q := (33, [some (.ref 0), some (.int l1), some (.int l2), some (.int l3), some (.int l4), none], [.int l1, .ref 26])) (q2 := (36, [some (.ref 0), some (.int l1), some (.int l2), some (.int l3), some (.int l4), none], [.ref 26])) (M := M2) (o := (pcl GG lay d 59 [.int l1] M2)) (hf := rfl) rfl rfl).trans ?_
      refine kI_in (fun r3 M3 => ?_)
      refine (evn_adv 1 (q' := (37, [some (.ref 0), some (.int l1), some (.int l2), some (.int l3), some (.int l4), none], [.int l2, .int r3, .ref 26], M3)) rfl).trans ?_
      refine (e_kI (q := (37, [some (.ref 0), some (.int l1), some (.int l2), some (.int l3), some (.int l4), none], [.int l2, .int r3, .ref 26])) (q2 := (40, [some (.ref 0), some (.int l1), some (.int l2), some (.int l3), some (.int l4), none], [.int r3, .ref 26])) (M := M3) (o := (pcl GG lay d 59 [.int l2] M3)) (hf := rfl) rfl rfl).trans ?_
      refine kI_in (fun r4 M4 => ?_)
      refine (evn_adv 3 (q' := (47, [some (.ref 0), some (.int l1), some (.int l2), some (.int l3), some (.int l4), none], [.int (M4.1 1 8), .int r4, .int r3, .ref 26], M4)) rfl).trans ?_
      refine (e_kI (q := (47, [some (.ref 0), some (.int l1), some (.int l2), some (.int l3), some (.int l4), none], [.int (M4.1 1 8), .int r4, .int r3, .ref 26])) (q2 := (50, [some (.ref 0), some (.int l1), some (.int l2), some (.int l3), some (.int l4), none], [])) (M := M4) (o := (pcl GG lay d 188 [.ref 26, .int r3, .int r4, .int (M4.1 1 8)] M4)) (hf := rfl) rfl rfl).trans ?_
      refine kI_in (fun r5 M5 => ?_)
      refine (e_if_ne (hf := rfl)).trans ?_
      refine ite_in ?_ ?_
      · refine (evn_adv 2 (q' := (56, [some (.ref 0), some (.int l1), some (.int l2), some (.int l3), some (.int l4), none], [.int (jz 6), .ref 0], M5)) rfl).trans ?_
        refine (e_kI (q := (56, [some (.ref 0), some (.int l1), some (.int l2), some (.int l3), some (.int l4), none], [.int (jz 6), .ref 0])) (q2 := (59, [some (.ref 0), some (.int l1), some (.int l2), some (.int l3), some (.int l4), none], [])) (M := M5) (o := (pcl GG lay d 56 [.ref 0, .int (jz 6)] M5)) (hf := rfl) rfl rfl).trans ?_
        refine kI_in (fun r6 M6 => ?_)
        exact evn_end 1 rfl
      · refine (evn_adv 3 (q' := (65, [some (.ref 0), some (.int l1), some (.int l2), some (.int l3), some (.int l4), none], [.int l3, .ref 26], M5)) rfl).trans ?_
        refine (e_kI (q := (65, [some (.ref 0), some (.int l1), some (.int l2), some (.int l3), some (.int l4), none], [.int l3, .ref 26])) (q2 := (68, [some (.ref 0), some (.int l1), some (.int l2), some (.int l3), some (.int l4), none], [])) (M := M5) (o := (pcl GG lay d 193 [.ref 26, .int l3] M5)) (hf := rfl) rfl rfl).trans ?_
        refine kI_in (fun r6 M6 => ?_)
        refine (evn_adv 3 (q' := (73, [some (.ref 0), some (.int l1), some (.int l2), some (.int l3), some (.int l4), some (.int r6)], [.int (jz 1), .int r6], M6)) rfl).trans ?_
        refine (e_ic_eq (hf := rfl)).trans ?_
        refine ite_in ?_ ?_
        · refine (evn_adv 2 (q' := (90, [some (.ref 0), some (.int l1), some (.int l2), some (.int l3), some (.int l4), some (.int r6)], [.int (jz 5), .ref 0], M6)) rfl).trans ?_
          refine (e_kI (q := (90, [some (.ref 0), some (.int l1), some (.int l2), some (.int l3), some (.int l4), some (.int r6)], [.int (jz 5), .ref 0])) (q2 := (93, [some (.ref 0), some (.int l1), some (.int l2), some (.int l3), some (.int l4), some (.int r6)], [])) (M := M6) (o := (pcl GG lay d 56 [.ref 0, .int (jz 5)] M6)) (hf := rfl) rfl rfl).trans ?_
          refine kI_in (fun r7 M7 => ?_)
          exact evn_end 1 rfl
        · refine (evn_adv 3 (q' := (81, [some (.ref 0), some (.int l1), some (.int l2), some (.int l3), some (.int l4), some (.int r6)], [.int l4, .int r6, .ref 0], M6)) rfl).trans ?_
          refine (e_kI (q := (81, [some (.ref 0), some (.int l1), some (.int l2), some (.int l3), some (.int l4), some (.int r6)], [.int l4, .int r6, .ref 0])) (q2 := (84, [some (.ref 0), some (.int l1), some (.int l2), some (.int l3), some (.int l4), some (.int r6)], [])) (M := M6) (o := (pcl GG lay d 58 [.ref 0, .int r6, .int l4] M6)) (hf := rfl) rfl rfl).trans ?_
          refine kI_in (fun r7 M7 => ?_)
          refine (e_if_ne (hf := rfl)).trans ?_
          refine ite_in ?_ ?_
          · refine (evn_adv 2 (q' := (90, [some (.ref 0), some (.int l1), some (.int l2), some (.int l3), some (.int l4), some (.int r6)], [.int (jz 5), .ref 0], M7)) rfl).trans ?_
            refine (e_kI (q := (90, [some (.ref 0), some (.int l1), some (.int l2), some (.int l3), some (.int l4), some (.int r6)], [.int (jz 5), .ref 0])) (q2 := (93, [some (.ref 0), some (.int l1), some (.int l2), some (.int l3), some (.int l4), some (.int r6)], [])) (M := M7) (o := (pcl GG lay d 56 [.ref 0, .int (jz 5)] M7)) (hf := rfl) rfl rfl).trans ?_
            refine kI_in (fun r8 M8 => ?_)
            exact evn_end 1 rfl
          · refine (evn_adv 5 (q' := (103, [some (.ref 0), some (.int l1), some (.int l2), some (.int l3), some (.int l4), some (.int r6)], [.int (r6 + l4), .ref 6], M7)) rfl).trans ?_
            refine (e_kI (q := (103, [some (.ref 0), some (.int l1), some (.int l2), some (.int l3), some (.int l4), some (.int r6)], [.int (r6 + l4), .ref 6])) (q2 := (106, [some (.ref 0), some (.int l1), some (.int l2), some (.int l3), some (.int l4), some (.int r6)], [])) (M := M7) (o := (pcl GG lay d 231 [.ref 6, .int (r6 + l4)] M7)) (hf := rfl) rfl rfl).trans ?_
            refine kI_in (fun r8 M8 => ?_)
            exact evn_end 1 rfl
/-- TermStrategies.fits(III)I -/
noncomputable abbrev E_23 (d : Nat) : PQ → PO := evn (rnn k_23 lay none (pcl GG lay d) 1)
theorem q_23 (d : Nat) (l1 : Int32) (l2 : Int32) (l3 : Int32) (M : PM) : pcl GG lay (d + 1) 23 [.ref 0, .int l1, .int l2, .int l3] M = (kI (pcl GG lay d 241 [.ref 1, .int l1] M) fun r1 M1 => (if r1 = jn 0 then (kI (pcl GG lay d 56 [.ref 0, .int (jz 1)] M1) fun r2 M2 => (rI (r2 - (jn 10)) M2)) else (kI (pcl GG lay d 240 [.ref 1, .int l2] M1) fun r2 M2 => (if r2 = jn 0 then (kI (pcl GG lay d 56 [.ref 0, .int (jz 1)] M2) fun r3 M3 => (rI (r3 - (jn 10)) M3)) else (if l3 = (jz 1) then (kI (pcl GG lay d 59 [.int l2] M2) fun r3 M3 => (kI (pcl GG lay d 24 [.ref 0, .int l1, .int r3] M3) fun r4 M4 => (rI r4 M4))) else (kI (pcl GG lay d 59 [.int l2] M2) fun r3 M3 => (kI (pcl GG lay d 25 [.ref 0, .int l1, .int r3, .int l3] M3) fun r4 M4 => (rI r4 M4)))))))) := by
  refine (pcl_un (mt := t_23) (by decide) rfl (Nat.le_of_ble_eq_true rfl)).trans ?_
  show E_23 d (0, [some (.ref 0), some (.int l1), some (.int l2), some (.int l3)], [], M) = _
  refine (evn_adv 3 (q' := (5, [some (.ref 0), some (.int l1), some (.int l2), some (.int l3)], [.int l1, .ref 1], M)) rfl).trans ?_
  refine (e_kI (q := (5, [some (.ref 0), some (.int l1), some (.int l2), some (.int l3)], [.int l1, .ref 1])) (q2 := (8, [some (.ref 0), some (.int l1), some (.int l2), some (.int l3)], [])) (M := M) (o := (pcl GG lay d 241 [.ref 1, .int l1] M)) (hf := rfl) rfl rfl).trans ?_
  refine kI_in (fun r1 M1 => ?_)
  refine (e_if_eq (hf := rfl)).trans ?_
  refine ite_in ?_ ?_
  · refine (evn_adv 2 (q' := (24, [some (.ref 0), some (.int l1), some (.int l2), some (.int l3)], [.int (jz 1), .ref 0], M1)) rfl).trans ?_
    refine (e_kI (q := (24, [some (.ref 0), some (.int l1), some (.int l2), some (.int l3)], [.int (jz 1), .ref 0])) (q2 := (27, [some (.ref 0), some (.int l1), some (.int l2), some (.int l3)], [])) (M := M1) (o := (pcl GG lay d 56 [.ref 0, .int (jz 1)] M1)) (hf := rfl) rfl rfl).trans ?_
    refine kI_in (fun r2 M2 => ?_)
    refine (evn_adv 2 (q' := (30, [some (.ref 0), some (.int l1), some (.int l2), some (.int l3)], [.int (r2 - (jn 10))], M2)) rfl).trans ?_
    exact evn_end 1 rfl
  · refine (evn_adv 3 (q' := (16, [some (.ref 0), some (.int l1), some (.int l2), some (.int l3)], [.int l2, .ref 1], M1)) rfl).trans ?_
    refine (e_kI (q := (16, [some (.ref 0), some (.int l1), some (.int l2), some (.int l3)], [.int l2, .ref 1])) (q2 := (19, [some (.ref 0), some (.int l1), some (.int l2), some (.int l3)], [])) (M := M1) (o := (pcl GG lay d 240 [.ref 1, .int l2] M1)) (hf := rfl) rfl rfl).trans ?_
    refine kI_in (fun r2 M2 => ?_)
    refine (e_if_ne (hf := rfl)).trans ?_
    refine ite_in ?_ ?_
    · refine (evn_adv 2 (q' := (24, [some (.ref 0), some (.int l1), some (.int l2), some (.int l3)], [.int (jz 1), .ref 0], M2)) rfl).trans ?_
      refine (e_kI (q := (24, [some (.ref 0), some (.int l1), some (.int l2), some (.int l3)], [.int (jz 1), .ref 0])) (q2 := (27, [some (.ref 0), some (.int l1), some (.int l2), some (.int l3)], [])) (M := M2) (o := (pcl GG lay d 56 [.ref 0, .int (jz 1)] M2)) (hf := rfl) rfl rfl).trans ?_
      refine kI_in (fun r3 M3 => ?_)
      refine (evn_adv 2 (q' := (30, [some (.ref 0), some (.int l1), some (.int l2), some (.int l3)], [.int (r3 - (jn 10))], M3)) rfl).trans ?_
      exact evn_end 1 rfl
    · refine (evn_adv 2 (q' := (33, [some (.ref 0), some (.int l1), some (.int l2), some (.int l3)], [.int (jz 1), .int l3], M2)) rfl).trans ?_
      refine (e_ic_ne (hf := rfl)).trans ?_
      refine ite_in ?_ ?_
      · refine (evn_adv 3 (q' := (39, [some (.ref 0), some (.int l1), some (.int l2), some (.int l3)], [.int l2, .int l1, .ref 0], M2)) rfl).trans ?_
        refine (e_kI (q := (39, [some (.ref 0), some (.int l1), some (.int l2), some (.int l3)], [.int l2, .int l1, .ref 0])) (q2 := (42, [some (.ref 0), some (.int l1), some (.int l2), some (.int l3)], [.int l1, .ref 0])) (M := M2) (o := (pcl GG lay d 59 [.int l2] M2)) (hf := rfl) rfl rfl).trans ?_
        refine kI_in (fun r3 M3 => ?_)
        refine (e_kI (q := (42, [some (.ref 0), some (.int l1), some (.int l2), some (.int l3)], [.int r3, .int l1, .ref 0])) (q2 := (45, [some (.ref 0), some (.int l1), some (.int l2), some (.int l3)], [])) (M := M3) (o := (pcl GG lay d 24 [.ref 0, .int l1, .int r3] M3)) (hf := rfl) rfl rfl).trans ?_
        refine kI_in (fun r4 M4 => ?_)
        refine (evn_adv 1 (q' := (58, [some (.ref 0), some (.int l1), some (.int l2), some (.int l3)], [.int r4], M4)) rfl).trans ?_
        exact evn_end 1 rfl
      · refine (evn_adv 3 (q' := (51, [some (.ref 0), some (.int l1), some (.int l2), some (.int l3)], [.int l2, .int l1, .ref 0], M2)) rfl).trans ?_
        refine (e_kI (q := (51, [some (.ref 0), some (.int l1), some (.int l2), some (.int l3)], [.int l2, .int l1, .ref 0])) (q2 := (54, [some (.ref 0), some (.int l1), some (.int l2), some (.int l3)], [.int l1, .ref 0])) (M := M2) (o := (pcl GG lay d 59 [.int l2] M2)) (hf := rfl) rfl rfl).trans ?_
        refine kI_in (fun r3 M3 => ?_)
        refine (evn_adv 1 (q' := (55, [some (.ref 0), some (.int l1), some (.int l2), some (.int l3)], [.int l3, .int r3, .int l1, .ref 0], M3)) rfl).trans ?_
        refine (e_kI (q := (55, [some (.ref 0), some (.int l1), some (.int l2), some (.int l3)], [.int l3, .int r3, .int l1, .ref 0])) (q2 := (58, [some (.ref 0), some (.int l1), some (.int l2), some (.int l3)], [])) (M := M3) (o := (pcl GG lay d 25 [.ref 0, .int l1, .int r3, .int l3] M3)) (hf := rfl) rfl rfl).trans ?_
        refine kI_in (fun r4 M4 => ?_)
        exact evn_end 1 rfl
/-- TermStrategies.countFits(II)I -/
noncomputable abbrev E_24 (d : Nat) : PQ → PO := evn (rnn k_24 lay none (pcl GG lay d) 1)
theorem q_24 (d : Nat) (l1 : Int32) (l2 : Int32) (M : PM) : pcl GG lay (d + 1) 24 [.ref 0, .int l1, .int l2] M = (kI (pcl GG lay d 234 [.ref 6, .int l2] M) fun r1 M1 => E_24 d (15, [some (.ref 0), some (.int l1), some (.int l2), some (.int r1), some (.int (jn 0)), some (.int (jn 0))], [], M1)) := by
  refine (pcl_un (mt := t_24) (by decide) rfl (Nat.le_of_ble_eq_true rfl)).trans ?_
  show E_24 d (0, [some (.ref 0), some (.int l1), some (.int l2), none, none, none], [], M) = _
  refine (evn_adv 3 (q' := (5, [some (.ref 0), some (.int l1), some (.int l2), none, none, none], [.int l2, .ref 6], M)) rfl).trans ?_
  refine (e_kI (q := (5, [some (.ref 0), some (.int l1), some (.int l2), none, none, none], [.int l2, .ref 6])) (q2 := (8, [some (.ref 0), some (.int l1), some (.int l2), none, none, none], [])) (M := M) (o := (pcl GG lay d 234 [.ref 6, .int l2] M)) (hf := rfl) rfl rfl).trans ?_
  refine kI_in (fun r1 M1 => ?_)
  refine (evn_adv 5 (q' := (15, [some (.ref 0), some (.int l1), some (.int l2), some (.int r1), some (.int (jn 0)), some (.int (jn 0))], [], M1)) rfl).trans ?_
  rfl
theorem h_24_15 (d : Nat) (l1 : Int32) (l2 : Int32) (l3 : Int32) (l4 : Int32) (l5 : Int32) (M : PM) : E_24 d (15, [some (.ref 0), some (.int l1), some (.int l2), some (.int l3), some (.int l4), some (.int l5)], [], M) = (if l5 < l3 then (kI (pcl GG lay d 60 [.int l1] M) fun r1 M1 => (kI (pcl GG lay d 188 [.ref 26, .int r1, .int (l2 + l5), .int (M1.1 1 8)] M1) fun r2 M2 => (if r2 = jn 0 then E_24 d (15, [some (.ref 0), some (.int l1), some (.int l2), some (.int l3), some (.int l4), some (.int (l5 + (jn 1)))], [], M2) else E_24 d (15, [some (.ref 0), some (.int l1), some (.int l2), some (.int l3), some (.int (l4 + (jn 1))), some (.int (l5 + (jn 1)))], [], M2)))) else (rI l4 M)) := by
  refine (evn_adv 2 (q' := (18, [some (.ref 0), some (.int l1), some (.int l2), some (.int l3), some (.int l4), some (.int l5)], [.int l3, .int l5], M)) rfl).trans ?_
  refine (e_ic_ge (hf := rfl)).trans ?_
  refine ite_in ?_ ?_
  · refine (evn_adv 3 (q' := (26, [some (.ref 0), some (.int l1), some (.int l2), some (.int l3), some (.int l4), some (.int l5)], [.int l1, .ref 26], M)) rfl).trans ?_
    refine (e_kI (q := (26, [some (.ref 0), some (.int l1), some (.int l2), some (.int l3), some (.int l4), some (.int l5)], [.int l1, .ref 26])) (q2 := (29, [some (.ref 0), some (.int l1), some (.int l2), some (.int l3), some (.int l4), some (.int l5)], [.ref 26])) (M := M) (o := (pcl GG lay d 60 [.int l1] M)) (hf := rfl) rfl rfl).trans ?_
    refine kI_in (fun r1 M1 => ?_)
    refine (evn_adv 6 (q' := (40, [some (.ref 0), some (.int l1), some (.int l2), some (.int l3), some (.int l4), some (.int l5)], [.int (M1.1 1 8), .int (l2 + l5), .int r1, .ref 26], M1)) rfl).trans ?_
    refine (e_kI (q := (40, [some (.ref 0), some (.int l1), some (.int l2), some (.int l3), some (.int l4), some (.int l5)], [.int (M1.1 1 8), .int (l2 + l5), .int r1, .ref 26])) (q2 := (43, [some (.ref 0), some (.int l1), some (.int l2), some (.int l3), some (.int l4), some (.int l5)], [])) (M := M1) (o := (pcl GG lay d 188 [.ref 26, .int r1, .int (l2 + l5), .int (M1.1 1 8)] M1)) (hf := rfl) rfl rfl).trans ?_
    refine kI_in (fun r2 M2 => ?_)
    refine (e_if_eq (hf := rfl)).trans ?_
    refine ite_in ?_ ?_
    · refine (evn_adv 2 (q' := (15, [some (.ref 0), some (.int l1), some (.int l2), some (.int l3), some (.int l4), some (.int (l5 + (jn 1)))], [], M2)) rfl).trans ?_
      rfl
    · refine (evn_adv 3 (q' := (15, [some (.ref 0), some (.int l1), some (.int l2), some (.int l3), some (.int (l4 + (jn 1))), some (.int (l5 + (jn 1)))], [], M2)) rfl).trans ?_
      rfl
  · refine (evn_adv 1 (q' := (57, [some (.ref 0), some (.int l1), some (.int l2), some (.int l3), some (.int l4), some (.int l5)], [.int l4], M)) rfl).trans ?_
    exact evn_end 1 rfl
/-- TermStrategies.fittingNode(III)I -/
noncomputable abbrev E_25 (d : Nat) : PQ → PO := evn (rnn k_25 lay none (pcl GG lay d) 1)
theorem q_25 (d : Nat) (l1 : Int32) (l2 : Int32) (l3 : Int32) (M : PM) : pcl GG lay (d + 1) 25 [.ref 0, .int l1, .int l2, .int l3] M = (kI (pcl GG lay d 234 [.ref 6, .int l2] M) fun r1 M1 => E_25 d (16, [some (.ref 0), some (.int l1), some (.int l2), some (.int l3), some (.int r1), some (.int (jn 0)), some (.int (jn 0))], [], M1)) := by
  refine (pcl_un (mt := t_25) (by decide) rfl (Nat.le_of_ble_eq_true rfl)).trans ?_
  show E_25 d (0, [some (.ref 0), some (.int l1), some (.int l2), some (.int l3), none, none, none], [], M) = _
  refine (evn_adv 3 (q' := (5, [some (.ref 0), some (.int l1), some (.int l2), some (.int l3), none, none, none], [.int l2, .ref 6], M)) rfl).trans ?_
  refine (e_kI (q := (5, [some (.ref 0), some (.int l1), some (.int l2), some (.int l3), none, none, none], [.int l2, .ref 6])) (q2 := (8, [some (.ref 0), some (.int l1), some (.int l2), some (.int l3), none, none, none], [])) (M := M) (o := (pcl GG lay d 234 [.ref 6, .int l2] M)) (hf := rfl) rfl rfl).trans ?_
  refine kI_in (fun r1 M1 => ?_)
  refine (evn_adv 5 (q' := (16, [some (.ref 0), some (.int l1), some (.int l2), some (.int l3), some (.int r1), some (.int (jn 0)), some (.int (jn 0))], [], M1)) rfl).trans ?_
  rfl
theorem h_25_16 (d : Nat) (l1 : Int32) (l2 : Int32) (l3 : Int32) (l4 : Int32) (l5 : Int32) (l6 : Int32) (M : PM) : E_25 d (16, [some (.ref 0), some (.int l1), some (.int l2), some (.int l3), some (.int l4), some (.int l5), some (.int l6)], [], M) = (if l6 < l4 then (kI (pcl GG lay d 60 [.int l1] M) fun r1 M1 => (kI (pcl GG lay d 188 [.ref 26, .int r1, .int (l2 + l6), .int (M1.1 1 8)] M1) fun r2 M2 => (if r2 = jn 0 then E_25 d (16, [some (.ref 0), some (.int l1), some (.int l2), some (.int l3), some (.int l4), some (.int l5), some (.int (l6 + (jn 1)))], [], M2) else (if l5 = l3 then (rI l6 M2) else E_25 d (16, [some (.ref 0), some (.int l1), some (.int l2), some (.int l3), some (.int l4), some (.int (l5 + (jn 1))), some (.int (l6 + (jn 1)))], [], M2))))) else (rI (jz 1) M)) := by
  refine (evn_adv 2 (q' := (20, [some (.ref 0), some (.int l1), some (.int l2), some (.int l3), some (.int l4), some (.int l5), some (.int l6)], [.int l4, .int l6], M)) rfl).trans ?_
  refine (e_ic_ge (hf := rfl)).trans ?_
  refine ite_in ?_ ?_
  · refine (evn_adv 3 (q' := (28, [some (.ref 0), some (.int l1), some (.int l2), some (.int l3), some (.int l4), some (.int l5), some (.int l6)], [.int l1, .ref 26], M)) rfl).trans ?_
    refine (e_kI (q := (28, [some (.ref 0), some (.int l1), some (.int l2), some (.int l3), some (.int l4), some (.int l5), some (.int l6)], [.int l1, .ref 26])) (q2 := (31, [some (.ref 0), some (.int l1), some (.int l2), some (.int l3), some (.int l4), some (.int l5), some (.int l6)], [.ref 26])) (M := M) (o := (pcl GG lay d 60 [.int l1] M)) (hf := rfl) rfl rfl).trans ?_
    refine kI_in (fun r1 M1 => ?_)
    refine (evn_adv 6 (q' := (42, [some (.ref 0), some (.int l1), some (.int l2), some (.int l3), some (.int l4), some (.int l5), some (.int l6)], [.int (M1.1 1 8), .int (l2 + l6), .int r1, .ref 26], M1)) rfl).trans ?_
    refine (e_kI (q := (42, [some (.ref 0), some (.int l1), some (.int l2), some (.int l3), some (.int l4), some (.int l5), some (.int l6)], [.int (M1.1 1 8), .int (l2 + l6), .int r1, .ref 26])) (q2 := (45, [some (.ref 0), some (.int l1), some (.int l2), some (.int l3), some (.int l4), some (.int l5), some (.int l6)], [])) (M := M1) (o := (pcl GG lay d 188 [.ref 26, .int r1, .int (l2 + l6), .int (M1.1 1 8)] M1)) (hf := rfl) rfl rfl).trans ?_
    refine kI_in (fun r2 M2 => ?_)
    refine (e_if_eq (hf := rfl)).trans ?_
    refine ite_in ?_ ?_
    · refine (evn_adv 2 (q' := (16, [some (.ref 0), some (.int l1), some (.int l2), some (.int l3), some (.int l4), some (.int l5), some (.int (l6 + (jn 1)))], [], M2)) rfl).trans ?_
      rfl
    · refine (evn_adv 2 (q' := (51, [some (.ref 0), some (.int l1), some (.int l2), some (.int l3), some (.int l4), some (.int l5), some (.int l6)], [.int l3, .int l5], M2)) rfl).trans ?_
      refine (e_ic_ne (hf := rfl)).trans ?_
      refine ite_in ?_ ?_
      · refine (evn_adv 1 (q' := (56, [some (.ref 0), some (.int l1), some (.int l2), some (.int l3), some (.int l4), some (.int l5), some (.int l6)], [.int l6], M2)) rfl).trans ?_
        exact evn_end 1 rfl
      · refine (evn_adv 3 (q' := (16, [some (.ref 0), some (.int l1), some (.int l2), some (.int l3), some (.int l4), some (.int (l5 + (jn 1))), some (.int (l6 + (jn 1)))], [], M2)) rfl).trans ?_
        rfl
  · refine (evn_adv 1 (q' := (67, [some (.ref 0), some (.int l1), some (.int l2), some (.int l3), some (.int l4), some (.int l5), some (.int l6)], [.int (jz 1)], M)) rfl).trans ?_
    exact evn_end 1 rfl
/-- TermStrategies.redexes(I)J -/
noncomputable abbrev E_26 (d : Nat) : PQ → PO := evn (rnn k_26 lay none (pcl GG lay d) 3)
theorem q_26 (d : Nat) (l1 : Int32) (M : PM) : pcl GG lay (d + 1) 26 [.ref 0, .int l1] M = (kI (pcl GG lay d 240 [.ref 1, .int l1] M) fun r1 M1 => (if r1 = jn 0 then (kI (pcl GG lay d 56 [.ref 0, .int (jz 1)] M1) fun r2 M2 => (rL (r2.toInt64) M2)) else (kI (pcl GG lay d 59 [.int l1] M1) fun r2 M2 => (kL (pcl GG lay d 27 [.ref 0, .int r2] M2) fun r3 M3 => (rL r3 M3))))) := by
  refine (pcl_un (mt := t_26) (by decide) rfl (Nat.le_of_ble_eq_true rfl)).trans ?_
  show E_26 d (0, [some (.ref 0), some (.int l1)], [], M) = _
  refine (evn_adv 3 (q' := (5, [some (.ref 0), some (.int l1)], [.int l1, .ref 1], M)) rfl).trans ?_
  refine (e_kI (q := (5, [some (.ref 0), some (.int l1)], [.int l1, .ref 1])) (q2 := (8, [some (.ref 0), some (.int l1)], [])) (M := M) (o := (pcl GG lay d 240 [.ref 1, .int l1] M)) (hf := rfl) rfl rfl).trans ?_
  refine kI_in (fun r1 M1 => ?_)
  refine (e_if_ne (hf := rfl)).trans ?_
  refine ite_in ?_ ?_
  · refine (evn_adv 2 (q' := (13, [some (.ref 0), some (.int l1)], [.int (jz 1), .ref 0], M1)) rfl).trans ?_
    refine (e_kI (q := (13, [some (.ref 0), some (.int l1)], [.int (jz 1), .ref 0])) (q2 := (16, [some (.ref 0), some (.int l1)], [])) (M := M1) (o := (pcl GG lay d 56 [.ref 0, .int (jz 1)] M1)) (hf := rfl) rfl rfl).trans ?_
    refine kI_in (fun r2 M2 => ?_)
    refine (evn_adv 1 (q' := (17, [some (.ref 0), some (.int l1)], [.long (r2.toInt64)], M2)) rfl).trans ?_
    exact evn_end 1 rfl
  · refine (evn_adv 2 (q' := (20, [some (.ref 0), some (.int l1)], [.int l1, .ref 0], M1)) rfl).trans ?_
    refine (e_kI (q := (20, [some (.ref 0), some (.int l1)], [.int l1, .ref 0])) (q2 := (23, [some (.ref 0), some (.int l1)], [.ref 0])) (M := M1) (o := (pcl GG lay d 59 [.int l1] M1)) (hf := rfl) rfl rfl).trans ?_
    refine kI_in (fun r2 M2 => ?_)
    refine (e_kL (q := (23, [some (.ref 0), some (.int l1)], [.int r2, .ref 0])) (q2 := (26, [some (.ref 0), some (.int l1)], [])) (M := M2) (o := (pcl GG lay d 27 [.ref 0, .int r2] M2)) (hf := rfl) rfl rfl).trans ?_
    refine kL_in (fun r3 M3 => ?_)
    exact evn_end 1 rfl
/-- TermStrategies.redexesAt(I)J -/
noncomputable abbrev E_27 (d : Nat) : PQ → PO := evn (rnn k_27 lay none (pcl GG lay d) 3)
theorem q_27 (d : Nat) (l1 : Int32) (M : PM) : pcl GG lay (d + 1) 27 [.ref 0, .int l1] M = (kI (pcl GG lay d 234 [.ref 6, .int l1] M) fun r1 M1 => E_27 d (14, [some (.ref 0), some (.int l1), some (.int r1), some (.long (Int64.ofNat 0)), none, some (.int (jn 0))], [], M1)) := by
  refine (pcl_un (mt := t_27) (by decide) rfl (Nat.le_of_ble_eq_true rfl)).trans ?_
  show E_27 d (0, [some (.ref 0), some (.int l1), none, none, none, none], [], M) = _
  refine (evn_adv 3 (q' := (5, [some (.ref 0), some (.int l1), none, none, none, none], [.int l1, .ref 6], M)) rfl).trans ?_
  refine (e_kI (q := (5, [some (.ref 0), some (.int l1), none, none, none, none], [.int l1, .ref 6])) (q2 := (8, [some (.ref 0), some (.int l1), none, none, none, none], [])) (M := M) (o := (pcl GG lay d 234 [.ref 6, .int l1] M)) (hf := rfl) rfl rfl).trans ?_
  refine kI_in (fun r1 M1 => ?_)
  refine (evn_adv 5 (q' := (14, [some (.ref 0), some (.int l1), some (.int r1), some (.long (Int64.ofNat 0)), none, some (.int (jn 0))], [], M1)) rfl).trans ?_
  rfl
theorem h_27_14 (d : Nat) (l1 : Int32) (l2 : Int32) (l3 : Int64) (l5 : Int32) (M : PM) : E_27 d (14, [some (.ref 0), some (.int l1), some (.int l2), some (.long l3), none, some (.int l5)], [], M) = (if l5 < l2 then (kI (pcl GG lay d 28 [.ref 0, .int (l1 + l5)] M) fun r1 M1 => (if r1 = jn 0 then E_27 d (14, [some (.ref 0), some (.int l1), some (.int l2), some (.long l3), none, some (.int (l5 + (jn 1)))], [], M1) else E_27 d (14, [some (.ref 0), some (.int l1), some (.int l2), some (.long (l3 ||| ((Int64.ofNat 1) <<< (l5.toInt64 &&& 63)))), none, some (.int (l5 + (jn 1)))], [], M1))) else (rL l3 M)) := by
  refine (evn_adv 2 (q' := (17, [some (.ref 0), some (.int l1), some (.int l2), some (.long l3), none, some (.int l5)], [.int l2, .int l5], M)) rfl).trans ?_
  refine (e_ic_ge (hf := rfl)).trans ?_
  refine ite_in ?_ ?_
  · refine (evn_adv 4 (q' := (25, [some (.ref 0), some (.int l1), some (.int l2), some (.long l3), none, some (.int l5)], [.int (l1 + l5), .ref 0], M)) rfl).trans ?_
    refine (e_kI (q := (25, [some (.ref 0), some (.int l1), some (.int l2), some (.long l3), none, some (.int l5)], [.int (l1 + l5), .ref 0])) (q2 := (28, [some (.ref 0), some (.int l1), some (.int l2), some (.long l3), none, some (.int l5)], [])) (M := M) (o := (pcl GG lay d 28 [.ref 0, .int (l1 + l5)] M)) (hf := rfl) rfl rfl).trans ?_
    refine kI_in (fun r1 M1 => ?_)
    refine (e_if_eq (hf := rfl)).trans ?_
    refine ite_in ?_ ?_
    · refine (evn_adv 2 (q' := (14, [some (.ref 0), some (.int l1), some (.int l2), some (.long l3), none, some (.int (l5 + (jn 1)))], [], M1)) rfl).trans ?_
      rfl
    · refine (evn_adv 8 (q' := (14, [some (.ref 0), some (.int l1), some (.int l2), some (.long (l3 ||| ((Int64.ofNat 1) <<< (l5.toInt64 &&& 63)))), none, some (.int (l5 + (jn 1)))], [], M1)) rfl).trans ?_
      rfl
  · refine (evn_adv 1 (q' := (45, [some (.ref 0), some (.int l1), some (.int l2), some (.long l3), none, some (.int l5)], [.long l3], M)) rfl).trans ?_
    exact evn_end 1 rfl
/-- TermStrategies.someRuleFits(I)Z -/
noncomputable abbrev E_28 (d : Nat) : PQ → PO := evn (rnn k_28 lay none (pcl GG lay d) 2)
theorem q_28 (d : Nat) (l1 : Int32) (M : PM) : pcl GG lay (d + 1) 28 [.ref 0, .int l1] M = E_28 d (2, [some (.ref 0), some (.int l1), some (.int (jn 0))], [], M) := by
  refine (pcl_un (mt := t_28) (by decide) rfl (Nat.le_of_ble_eq_true rfl)).trans ?_
  show E_28 d (0, [some (.ref 0), some (.int l1), none], [], M) = _
  refine (evn_adv 2 (q' := (2, [some (.ref 0), some (.int l1), some (.int (jn 0))], [], M)) rfl).trans ?_
  rfl
theorem h_28_2 (d : Nat) (l1 : Int32) (l2 : Int32) (M : PM) : E_28 d (2, [some (.ref 0), some (.int l1), some (.int l2)], [], M) = (if l2 < (M.1 1 6) then (kI (pcl GG lay d 60 [.int l2] M) fun r1 M1 => (kI (pcl GG lay d 188 [.ref 26, .int r1, .int l1, .int (M1.1 1 8)] M1) fun r2 M2 => (if r2 = jn 0 then E_28 d (2, [some (.ref 0), some (.int l1), some (.int (l2 + (jn 1)))], [], M2) else (rZ (jn 1) M2)))) else (rZ (jn 0) M)) := by
  refine (evn_adv 4 (q' := (10, [some (.ref 0), some (.int l1), some (.int l2)], [.int (M.1 1 6), .int l2], M)) rfl).trans ?_
  refine (e_ic_ge (hf := rfl)).trans ?_
  refine ite_in ?_ ?_
  · refine (evn_adv 3 (q' := (18, [some (.ref 0), some (.int l1), some (.int l2)], [.int l2, .ref 26], M)) rfl).trans ?_
    refine (e_kI (q := (18, [some (.ref 0), some (.int l1), some (.int l2)], [.int l2, .ref 26])) (q2 := (21, [some (.ref 0), some (.int l1), some (.int l2)], [.ref 26])) (M := M) (o := (pcl GG lay d 60 [.int l2] M)) (hf := rfl) rfl rfl).trans ?_
    refine kI_in (fun r1 M1 => ?_)
    refine (evn_adv 4 (q' := (29, [some (.ref 0), some (.int l1), some (.int l2)], [.int (M1.1 1 8), .int l1, .int r1, .ref 26], M1)) rfl).trans ?_
    refine (e_kI (q := (29, [some (.ref 0), some (.int l1), some (.int l2)], [.int (M1.1 1 8), .int l1, .int r1, .ref 26])) (q2 := (32, [some (.ref 0), some (.int l1), some (.int l2)], [])) (M := M1) (o := (pcl GG lay d 188 [.ref 26, .int r1, .int l1, .int (M1.1 1 8)] M1)) (hf := rfl) rfl rfl).trans ?_
    refine kI_in (fun r2 M2 => ?_)
    refine (e_if_eq (hf := rfl)).trans ?_
    refine ite_in ?_ ?_
    · refine (evn_adv 2 (q' := (2, [some (.ref 0), some (.int l1), some (.int (l2 + (jn 1)))], [], M2)) rfl).trans ?_
      rfl
    · refine (evn_adv 1 (q' := (36, [some (.ref 0), some (.int l1), some (.int l2)], [.int (jn 1)], M2)) rfl).trans ?_
      exact e_iretz (hf := rfl)
  · refine (evn_adv 1 (q' := (44, [some (.ref 0), some (.int l1), some (.int l2)], [.int (jn 0)], M)) rfl).trans ?_
    exact e_iretz (hf := rfl)
/-- TermStrategies.rewrite(III)I -/
noncomputable abbrev E_29 (d : Nat) : PQ → PO := evn (rnn k_29 lay none (pcl GG lay d) 1)
theorem q_29 (d : Nat) (l1 : Int32) (l2 : Int32) (l3 : Int32) (M : PM) : pcl GG lay (d + 1) 29 [.ref 0, .int l1, .int l2, .int l3] M = (kI (pcl GG lay d 241 [.ref 1, .int l1] M) fun r1 M1 => (if r1 = jn 0 then (kI (pcl GG lay d 56 [.ref 0, .int (jz 1)] M1) fun r2 M2 => (rI r2 M2)) else (kI (pcl GG lay d 240 [.ref 1, .int l2] M1) fun r2 M2 => (if r2 = jn 0 then (kI (pcl GG lay d 56 [.ref 0, .int (jz 1)] M2) fun r3 M3 => (rI r3 M3)) else (kI (pcl GG lay d 59 [.int l2] M2) fun r3 M3 => (kI (pcl GG lay d 58 [.ref 0, .int r3, .int l3] M3) fun r4 M4 => (if r4 = jn 0 then (kI (pcl GG lay d 56 [.ref 0, .int (jz 5)] M4) fun r5 M5 => (rI r5 M5)) else (kI (pcl GG lay d 59 [.int l2] M4) fun r5 M5 => (kI (pcl GG lay d 30 [.ref 0, .int l1, .int r5, .int l3] M5) fun r6 M6 => (if r6 = jn 0 then (kI (pcl GG lay d 57 [.ref 0, .int (jn 1920)] M6) fun r7 M7 => (rI r7 M7)) else (kI (pcl GG lay d 56 [.ref 0, .int r6] M6) fun r7 M7 => (rI r7 M7)))))))))))) := by
  refine (pcl_un (mt := t_29) (by decide) rfl (Nat.le_of_ble_eq_true rfl)).trans ?_
  show E_29 d (0, [some (.ref 0), some (.int l1), some (.int l2), some (.int l3), none], [], M) = _
  refine (evn_adv 3 (q' := (5, [some (.ref 0), some (.int l1), some (.int l2), some (.int l3), none], [.int l1, .ref 1], M)) rfl).trans ?_
  refine (e_kI (q := (5, [some (.ref 0), some (.int l1), some (.int l2), some (.int l3), none], [.int l1, .ref 1])) (q2 := (8, [some (.ref 0), some (.int l1), some (.int l2), some (.int l3), none], [])) (M := M) (o := (pcl GG lay d 241 [.ref 1, .int l1] M)) (hf := rfl) rfl rfl).trans ?_
  refine kI_in (fun r1 M1 => ?_)
  refine (e_if_eq (hf := rfl)).trans ?_
  refine ite_in ?_ ?_
  · refine (evn_adv 2 (q' := (24, [some (.ref 0), some (.int l1), some (.int l2), some (.int l3), none], [.int (jz 1), .ref 0], M1)) rfl).trans ?_
    refine (e_kI (q := (24, [some (.ref 0), some (.int l1), some (.int l2), some (.int l3), none], [.int (jz 1), .ref 0])) (q2 := (27, [some (.ref 0), some (.int l1), some (.int l2), some (.int l3), none], [])) (M := M1) (o := (pcl GG lay d 56 [.ref 0, .int (jz 1)] M1)) (hf := rfl) rfl rfl).trans ?_
    refine kI_in (fun r2 M2 => ?_)
    exact evn_end 1 rfl
  · refine (evn_adv 3 (q' := (16, [some (.ref 0), some (.int l1), some (.int l2), some (.int l3), none], [.int l2, .ref 1], M1)) rfl).trans ?_
    refine (e_kI (q := (16, [some (.ref 0), some (.int l1), some (.int l2), some (.int l3), none], [.int l2, .ref 1])) (q2 := (19, [some (.ref 0), some (.int l1), some (.int l2), some (.int l3), none], [])) (M := M1) (o := (pcl GG lay d 240 [.ref 1, .int l2] M1)) (hf := rfl) rfl rfl).trans ?_
    refine kI_in (fun r2 M2 => ?_)
    refine (e_if_ne (hf := rfl)).trans ?_
    refine ite_in ?_ ?_
    · refine (evn_adv 2 (q' := (24, [some (.ref 0), some (.int l1), some (.int l2), some (.int l3), none], [.int (jz 1), .ref 0], M2)) rfl).trans ?_
      refine (e_kI (q := (24, [some (.ref 0), some (.int l1), some (.int l2), some (.int l3), none], [.int (jz 1), .ref 0])) (q2 := (27, [some (.ref 0), some (.int l1), some (.int l2), some (.int l3), none], [])) (M := M2) (o := (pcl GG lay d 56 [.ref 0, .int (jz 1)] M2)) (hf := rfl) rfl rfl).trans ?_
      refine kI_in (fun r3 M3 => ?_)
      exact evn_end 1 rfl
    · refine (evn_adv 2 (q' := (30, [some (.ref 0), some (.int l1), some (.int l2), some (.int l3), none], [.int l2, .ref 0], M2)) rfl).trans ?_
      refine (e_kI (q := (30, [some (.ref 0), some (.int l1), some (.int l2), some (.int l3), none], [.int l2, .ref 0])) (q2 := (33, [some (.ref 0), some (.int l1), some (.int l2), some (.int l3), none], [.ref 0])) (M := M2) (o := (pcl GG lay d 59 [.int l2] M2)) (hf := rfl) rfl rfl).trans ?_
      refine kI_in (fun r3 M3 => ?_)
      refine (evn_adv 1 (q' := (34, [some (.ref 0), some (.int l1), some (.int l2), some (.int l3), none], [.int l3, .int r3, .ref 0], M3)) rfl).trans ?_
      refine (e_kI (q := (34, [some (.ref 0), some (.int l1), some (.int l2), some (.int l3), none], [.int l3, .int r3, .ref 0])) (q2 := (37, [some (.ref 0), some (.int l1), some (.int l2), some (.int l3), none], [])) (M := M3) (o := (pcl GG lay d 58 [.ref 0, .int r3, .int l3] M3)) (hf := rfl) rfl rfl).trans ?_
      refine kI_in (fun r4 M4 => ?_)
      refine (e_if_ne (hf := rfl)).trans ?_
      refine ite_in ?_ ?_
      · refine (evn_adv 2 (q' := (43, [some (.ref 0), some (.int l1), some (.int l2), some (.int l3), none], [.int (jz 5), .ref 0], M4)) rfl).trans ?_
        refine (e_kI (q := (43, [some (.ref 0), some (.int l1), some (.int l2), some (.int l3), none], [.int (jz 5), .ref 0])) (q2 := (46, [some (.ref 0), some (.int l1), some (.int l2), some (.int l3), none], [])) (M := M4) (o := (pcl GG lay d 56 [.ref 0, .int (jz 5)] M4)) (hf := rfl) rfl rfl).trans ?_
        refine kI_in (fun r5 M5 => ?_)
        exact evn_end 1 rfl
      · refine (evn_adv 3 (q' := (50, [some (.ref 0), some (.int l1), some (.int l2), some (.int l3), none], [.int l2, .int l1, .ref 0], M4)) rfl).trans ?_
        refine (e_kI (q := (50, [some (.ref 0), some (.int l1), some (.int l2), some (.int l3), none], [.int l2, .int l1, .ref 0])) (q2 := (53, [some (.ref 0), some (.int l1), some (.int l2), some (.int l3), none], [.int l1, .ref 0])) (M := M4) (o := (pcl GG lay d 59 [.int l2] M4)) (hf := rfl) rfl rfl).trans ?_
        refine kI_in (fun r5 M5 => ?_)
        refine (evn_adv 1 (q' := (54, [some (.ref 0), some (.int l1), some (.int l2), some (.int l3), none], [.int l3, .int r5, .int l1, .ref 0], M5)) rfl).trans ?_
        refine (e_kI (q := (54, [some (.ref 0), some (.int l1), some (.int l2), some (.int l3), none], [.int l3, .int r5, .int l1, .ref 0])) (q2 := (57, [some (.ref 0), some (.int l1), some (.int l2), some (.int l3), none], [])) (M := M5) (o := (pcl GG lay d 30 [.ref 0, .int l1, .int r5, .int l3] M5)) (hf := rfl) rfl rfl).trans ?_
        refine kI_in (fun r6 M6 => ?_)
        refine (evn_adv 2 (q' := (61, [some (.ref 0), some (.int l1), some (.int l2), some (.int l3), some (.int r6)], [.int r6], M6)) rfl).trans ?_
        refine (e_if_eq (hf := rfl)).trans ?_
        refine ite_in ?_ ?_
        · refine (evn_adv 2 (q' := (75, [some (.ref 0), some (.int l1), some (.int l2), some (.int l3), some (.int r6)], [.int (jn 1920), .ref 0], M6)) rfl).trans ?_
          refine (e_kI (q := (75, [some (.ref 0), some (.int l1), some (.int l2), some (.int l3), some (.int r6)], [.int (jn 1920), .ref 0])) (q2 := (78, [some (.ref 0), some (.int l1), some (.int l2), some (.int l3), some (.int r6)], [])) (M := M6) (o := (pcl GG lay d 57 [.ref 0, .int (jn 1920)] M6)) (hf := rfl) rfl rfl).trans ?_
          refine kI_in (fun r7 M7 => ?_)
          exact evn_end 1 rfl
        · refine (evn_adv 2 (q' := (67, [some (.ref 0), some (.int l1), some (.int l2), some (.int l3), some (.int r6)], [.int r6, .ref 0], M6)) rfl).trans ?_
          refine (e_kI (q := (67, [some (.ref 0), some (.int l1), some (.int l2), some (.int l3), some (.int r6)], [.int r6, .ref 0])) (q2 := (70, [some (.ref 0), some (.int l1), some (.int l2), some (.int l3), some (.int r6)], [])) (M := M6) (o := (pcl GG lay d 56 [.ref 0, .int r6] M6)) (hf := rfl) rfl rfl).trans ?_
          refine kI_in (fun r7 M7 => ?_)
          exact evn_end 1 rfl
/-- TermStrategies.rewriteToWork(III)I -/
noncomputable abbrev E_30 (d : Nat) : PQ → PO := evn (rnn k_30 lay none (pcl GG lay d) 1)
theorem q_30 (d : Nat) (l1 : Int32) (l2 : Int32) (l3 : Int32) (M : PM) : pcl GG lay (d + 1) 30 [.ref 0, .int l1, .int l2, .int l3] M = (kI (pcl GG lay d 60 [.int l1] M) fun r1 M1 => (kI (pcl GG lay d 188 [.ref 26, .int r1, .int (l2 + l3), .int (M1.1 1 8)] M1) fun r2 M2 => (if r2 = jn 0 then (rI (jz 6) M2) else (kI (pcl GG lay d 234 [.ref 6, .int l2] M2) fun r3 M3 => (kI (pcl GG lay d 234 [.ref 6, .int (l2 + l3)] M3) fun r4 M4 => (kI (pcl GG lay d 61 [.int l1] M4) fun r5 M5 => (kI (pcl GG lay d 194 [.ref 26, .int r5] M5) fun r6 M6 => (if (jn 40) < ((r3 - r4) + r6) then (rI (jz 7) M6) else (kI (pcl GG lay d 238 [.ref 6, .int l2, .int (l2 + l3), .int (jn 1920)] M6) fun r7 M7 => (kI (pcl GG lay d 61 [.int l1] M7) fun r8 M8 => (kI (pcl GG lay d 195 [.ref 26, .int r8, .int r7] M8) fun r9 M9 => (kI (pcl GG lay d 233 [.ref 6, .int (l2 + l3)] M9) fun r10 M10 => (kI (pcl GG lay d 233 [.ref 6, .int l2] M10) fun r11 M11 => (kI (pcl GG lay d 238 [.ref 6, .int r10, .int r11, .int r9] M11) fun r12 M12 => (rI (jn 0) M12))))))))))))))) := by
  refine (pcl_un (mt := t_30) (by decide) rfl (Nat.le_of_ble_eq_true rfl)).trans ?_
  show E_30 d (0, [some (.ref 0), some (.int l1), some (.int l2), some (.int l3), none, none, none], [], M) = _
  refine (evn_adv 7 (q' := (10, [some (.ref 0), some (.int l1), some (.int l2), some (.int l3), some (.int (l2 + l3)), none, none], [.int l1, .ref 26], M)) rfl).trans ?_
  refine (e_kI (q := (10, [some (.ref 0), some (.int l1), some (.int l2), some (.int l3), some (.int (l2 + l3)), none, none], [.int l1, .ref 26])) (q2 := (13, [some (.ref 0), some (.int l1), some (.int l2), some (.int l3), some (.int (l2 + l3)), none, none], [.ref 26])) (M := M) (o := (pcl GG lay d 60 [.int l1] M)) (hf := rfl) rfl rfl).trans ?_
  refine kI_in (fun r1 M1 => ?_)
  refine (evn_adv 4 (q' := (22, [some (.ref 0), some (.int l1), some (.int l2), some (.int l3), some (.int (l2 + l3)), none, none], [.int (M1.1 1 8), .int (l2 + l3), .int r1, .ref 26], M1)) rfl).trans ?_
  refine (e_kI (q := (22, [some (.ref 0), some (.int l1), some (.int l2), some (.int l3), some (.int (l2 + l3)), none, none], [.int (M1.1 1 8), .int (l2 + l3), .int r1, .ref 26])) (q2 := (25, [some (.ref 0), some (.int l1), some (.int l2), some (.int l3), some (.int (l2 + l3)), none, none], [])) (M := M1) (o := (pcl GG lay d 188 [.ref 26, .int r1, .int (l2 + l3), .int (M1.1 1 8)] M1)) (hf := rfl) rfl rfl).trans ?_
  refine kI_in (fun r2 M2 => ?_)
  refine (e_if_ne (hf := rfl)).trans ?_
  refine ite_in ?_ ?_
  · refine (evn_adv 1 (q' := (30, [some (.ref 0), some (.int l1), some (.int l2), some (.int l3), some (.int (l2 + l3)), none, none], [.int (jz 6)], M2)) rfl).trans ?_
    exact evn_end 1 rfl
  · refine (evn_adv 3 (q' := (36, [some (.ref 0), some (.int l1), some (.int l2), some (.int l3), some (.int (l2 + l3)), none, none], [.int l2, .ref 6], M2)) rfl).trans ?_
    refine (e_kI (q := (36, [some (.ref 0), some (.int l1), some (.int l2), some (.int l3), some (.int (l2 + l3)), none, none], [.int l2, .ref 6])) (q2 := (39, [some (.ref 0), some (.int l1), some (.int l2), some (.int l3), some (.int (l2 + l3)), none, none], [])) (M := M2) (o := (pcl GG lay d 234 [.ref 6, .int l2] M2)) (hf := rfl) rfl rfl).trans ?_
    refine kI_in (fun r3 M3 => ?_)
    refine (evn_adv 3 (q' := (45, [some (.ref 0), some (.int l1), some (.int l2), some (.int l3), some (.int (l2 + l3)), none, none], [.int (l2 + l3), .ref 6, .int r3], M3)) rfl).trans ?_
    refine (e_kI (q := (45, [some (.ref 0), some (.int l1), some (.int l2), some (.int l3), some (.int (l2 + l3)), none, none], [.int (l2 + l3), .ref 6, .int r3])) (q2 := (48, [some (.ref 0), some (.int l1), some (.int l2), some (.int l3), some (.int (l2 + l3)), none, none], [.int r3])) (M := M3) (o := (pcl GG lay d 234 [.ref 6, .int (l2 + l3)] M3)) (hf := rfl) rfl rfl).trans ?_
    refine kI_in (fun r4 M4 => ?_)
    refine (evn_adv 4 (q' := (54, [some (.ref 0), some (.int l1), some (.int l2), some (.int l3), some (.int (l2 + l3)), none, none], [.int l1, .ref 26, .int (r3 - r4)], M4)) rfl).trans ?_
    refine (e_kI (q := (54, [some (.ref 0), some (.int l1), some (.int l2), some (.int l3), some (.int (l2 + l3)), none, none], [.int l1, .ref 26, .int (r3 - r4)])) (q2 := (57, [some (.ref 0), some (.int l1), some (.int l2), some (.int l3), some (.int (l2 + l3)), none, none], [.ref 26, .int (r3 - r4)])) (M := M4) (o := (pcl GG lay d 61 [.int l1] M4)) (hf := rfl) rfl rfl).trans ?_
    refine kI_in (fun r5 M5 => ?_)
    refine (e_kI (q := (57, [some (.ref 0), some (.int l1), some (.int l2), some (.int l3), some (.int (l2 + l3)), none, none], [.int r5, .ref 26, .int (r3 - r4)])) (q2 := (60, [some (.ref 0), some (.int l1), some (.int l2), some (.int l3), some (.int (l2 + l3)), none, none], [.int (r3 - r4)])) (M := M5) (o := (pcl GG lay d 194 [.ref 26, .int r5] M5)) (hf := rfl) rfl rfl).trans ?_
    refine kI_in (fun r6 M6 => ?_)
    refine (evn_adv 4 (q' := (67, [some (.ref 0), some (.int l1), some (.int l2), some (.int l3), some (.int (l2 + l3)), some (.int ((r3 - r4) + r6)), none], [.int (jn 40), .int ((r3 - r4) + r6)], M6)) rfl).trans ?_
    refine (e_ic_le (hf := rfl)).trans ?_
    refine ite_in ?_ ?_
    · refine (evn_adv 1 (q' := (72, [some (.ref 0), some (.int l1), some (.int l2), some (.int l3), some (.int (l2 + l3)), some (.int ((r3 - r4) + r6)), none], [.int (jz 7)], M6)) rfl).trans ?_
      exact evn_end 1 rfl
    · refine (evn_adv 5 (q' := (83, [some (.ref 0), some (.int l1), some (.int l2), some (.int l3), some (.int (l2 + l3)), some (.int ((r3 - r4) + r6)), none], [.int (jn 1920), .int (l2 + l3), .int l2, .ref 6], M6)) rfl).trans ?_
      refine (e_kI (q := (83, [some (.ref 0), some (.int l1), some (.int l2), some (.int l3), some (.int (l2 + l3)), some (.int ((r3 - r4) + r6)), none], [.int (jn 1920), .int (l2 + l3), .int l2, .ref 6])) (q2 := (86, [some (.ref 0), some (.int l1), some (.int l2), some (.int l3), some (.int (l2 + l3)), some (.int ((r3 - r4) + r6)), none], [])) (M := M6) (o := (pcl GG lay d 238 [.ref 6, .int l2, .int (l2 + l3), .int (jn 1920)] M6)) (hf := rfl) rfl rfl).trans ?_
      refine kI_in (fun r7 M7 => ?_)
      refine (evn_adv 4 (q' := (93, [some (.ref 0), some (.int l1), some (.int l2), some (.int l3), some (.int (l2 + l3)), some (.int ((r3 - r4) + r6)), some (.int r7)], [.int l1, .ref 26], M7)) rfl).trans ?_
      refine (e_kI (q := (93, [some (.ref 0), some (.int l1), some (.int l2), some (.int l3), some (.int (l2 + l3)), some (.int ((r3 - r4) + r6)), some (.int r7)], [.int l1, .ref 26])) (q2 := (96, [some (.ref 0), some (.int l1), some (.int l2), some (.int l3), some (.int (l2 + l3)), some (.int ((r3 - r4) + r6)), some (.int r7)], [.ref 26])) (M := M7) (o := (pcl GG lay d 61 [.int l1] M7)) (hf := rfl) rfl rfl).trans ?_
      refine kI_in (fun r8 M8 => ?_)
      refine (evn_adv 1 (q' := (98, [some (.ref 0), some (.int l1), some (.int l2), some (.int l3), some (.int (l2 + l3)), some (.int ((r3 - r4) + r6)), some (.int r7)], [.int r7, .int r8, .ref 26], M8)) rfl).trans ?_
      refine (e_kI (q := (98, [some (.ref 0), some (.int l1), some (.int l2), some (.int l3), some (.int (l2 + l3)), some (.int ((r3 - r4) + r6)), some (.int r7)], [.int r7, .int r8, .ref 26])) (q2 := (101, [some (.ref 0), some (.int l1), some (.int l2), some (.int l3), some (.int (l2 + l3)), some (.int ((r3 - r4) + r6)), some (.int r7)], [])) (M := M8) (o := (pcl GG lay d 195 [.ref 26, .int r8, .int r7] M8)) (hf := rfl) rfl rfl).trans ?_
      refine kI_in (fun r9 M9 => ?_)
      refine (evn_adv 6 (q' := (113, [some (.ref 0), some (.int l1), some (.int l2), some (.int l3), some (.int (l2 + l3)), some (.int ((r3 - r4) + r6)), some (.int r9)], [.int (l2 + l3), .ref 6, .ref 6], M9)) rfl).trans ?_
      refine (e_kI (q := (113, [some (.ref 0), some (.int l1), some (.int l2), some (.int l3), some (.int (l2 + l3)), some (.int ((r3 - r4) + r6)), some (.int r9)], [.int (l2 + l3), .ref 6, .ref 6])) (q2 := (116, [some (.ref 0), some (.int l1), some (.int l2), some (.int l3), some (.int (l2 + l3)), some (.int ((r3 - r4) + r6)), some (.int r9)], [.ref 6])) (M := M9) (o := (pcl GG lay d 233 [.ref 6, .int (l2 + l3)] M9)) (hf := rfl) rfl rfl).trans ?_
      refine kI_in (fun r10 M10 => ?_)
      refine (evn_adv 3 (q' := (121, [some (.ref 0), some (.int l1), some (.int l2), some (.int l3), some (.int (l2 + l3)), some (.int ((r3 - r4) + r6)), some (.int r9)], [.int l2, .ref 6, .int r10, .ref 6], M10)) rfl).trans ?_
      refine (e_kI (q := (121, [some (.ref 0), some (.int l1), some (.int l2), some (.int l3), some (.int (l2 + l3)), some (.int ((r3 - r4) + r6)), some (.int r9)], [.int l2, .ref 6, .int r10, .ref 6])) (q2 := (124, [some (.ref 0), some (.int l1), some (.int l2), some (.int l3), some (.int (l2 + l3)), some (.int ((r3 - r4) + r6)), some (.int r9)], [.int r10, .ref 6])) (M := M10) (o := (pcl GG lay d 233 [.ref 6, .int l2] M10)) (hf := rfl) rfl rfl).trans ?_
      refine kI_in (fun r11 M11 => ?_)
      refine (evn_adv 1 (q' := (126, [some (.ref 0), some (.int l1), some (.int l2), some (.int l3), some (.int (l2 + l3)), some (.int ((r3 - r4) + r6)), some (.int r9)], [.int r9, .int r11, .int r10, .ref 6], M11)) rfl).trans ?_
      refine (e_kI (q := (126, [some (.ref 0), some (.int l1), some (.int l2), some (.int l3), some (.int (l2 + l3)), some (.int ((r3 - r4) + r6)), some (.int r9)], [.int r9, .int r11, .int r10, .ref 6])) (q2 := (129, [some (.ref 0), some (.int l1), some (.int l2), some (.int l3), some (.int (l2 + l3)), some (.int ((r3 - r4) + r6)), some (.int r9)], [])) (M := M11) (o := (pcl GG lay d 238 [.ref 6, .int r10, .int r11, .int r9] M11)) (hf := rfl) rfl rfl).trans ?_
      refine kI_in (fun r12 M12 => ?_)
      refine (evn_adv 2 (q' := (131, [some (.ref 0), some (.int l1), some (.int l2), some (.int l3), some (.int (l2 + l3)), some (.int ((r3 - r4) + r6)), some (.int r9)], [.int (jn 0)], M12)) rfl).trans ?_
      exact evn_end 1 rfl
/-- TermStrategies.strategy(III)I -/
noncomputable abbrev E_31 (d : Nat) : PQ → PO := evn (rnn k_31 lay none (pcl GG lay d) 1)
theorem q_31 (d : Nat) (l1 : Int32) (l2 : Int32) (l3 : Int32) (M : PM) : pcl GG lay (d + 1) 31 [.ref 0, .int l1, .int l2, .int l3] M = (kI (pcl GG lay d 32 [.ref 0, .int l1, .int l2, .int l3] M) fun r1 M1 => (if r1 = jn 0 then (kI (pcl GG lay d 56 [.ref 0, .int (jz 1)] M1) fun r2 M2 => (rI r2 M2)) else (if (M1.1 1 7) < (jn 24) then (kI (pcl GG lay d 245 [.ref 1, .int l1, .int l2, .int l3] M1) fun r2 M2 => (rI r2 M2)) else (kI (pcl GG lay d 56 [.ref 0, .int (jz 7)] M1) fun r2 M2 => (rI r2 M2))))) := by
  refine (pcl_un (mt := t_31) (by decide) rfl (Nat.le_of_ble_eq_true rfl)).trans ?_
  show E_31 d (0, [some (.ref 0), some (.int l1), some (.int l2), some (.int l3)], [], M) = _
  refine (evn_adv 4 (q' := (4, [some (.ref 0), some (.int l1), some (.int l2), some (.int l3)], [.int l3, .int l2, .int l1, .ref 0], M)) rfl).trans ?_
  refine (e_kI (q := (4, [some (.ref 0), some (.int l1), some (.int l2), some (.int l3)], [.int l3, .int l2, .int l1, .ref 0])) (q2 := (7, [some (.ref 0), some (.int l1), some (.int l2), some (.int l3)], [])) (M := M) (o := (pcl GG lay d 32 [.ref 0, .int l1, .int l2, .int l3] M)) (hf := rfl) rfl rfl).trans ?_
  refine kI_in (fun r1 M1 => ?_)
  refine (e_if_ne (hf := rfl)).trans ?_
  refine ite_in ?_ ?_
  · refine (evn_adv 2 (q' := (12, [some (.ref 0), some (.int l1), some (.int l2), some (.int l3)], [.int (jz 1), .ref 0], M1)) rfl).trans ?_
    refine (e_kI (q := (12, [some (.ref 0), some (.int l1), some (.int l2), some (.int l3)], [.int (jz 1), .ref 0])) (q2 := (15, [some (.ref 0), some (.int l1), some (.int l2), some (.int l3)], [])) (M := M1) (o := (pcl GG lay d 56 [.ref 0, .int (jz 1)] M1)) (hf := rfl) rfl rfl).trans ?_
    refine kI_in (fun r2 M2 => ?_)
    exact evn_end 1 rfl
  · refine (evn_adv 4 (q' := (25, [some (.ref 0), some (.int l1), some (.int l2), some (.int l3)], [.int (jn 24), .int (M1.1 1 7)], M1)) rfl).trans ?_
    refine (e_ic_lt (hf := rfl)).trans ?_
    refine ite_in ?_ ?_
    · refine (evn_adv 5 (q' := (42, [some (.ref 0), some (.int l1), some (.int l2), some (.int l3)], [.int l3, .int l2, .int l1, .ref 1], M1)) rfl).trans ?_
      refine (e_kI (q := (42, [some (.ref 0), some (.int l1), some (.int l2), some (.int l3)], [.int l3, .int l2, .int l1, .ref 1])) (q2 := (45, [some (.ref 0), some (.int l1), some (.int l2), some (.int l3)], [])) (M := M1) (o := (pcl GG lay d 245 [.ref 1, .int l1, .int l2, .int l3] M1)) (hf := rfl) rfl rfl).trans ?_
      refine kI_in (fun r2 M2 => ?_)
      exact evn_end 1 rfl
    · refine (evn_adv 2 (q' := (31, [some (.ref 0), some (.int l1), some (.int l2), some (.int l3)], [.int (jz 7), .ref 0], M1)) rfl).trans ?_
      refine (e_kI (q := (31, [some (.ref 0), some (.int l1), some (.int l2), some (.int l3)], [.int (jz 7), .ref 0])) (q2 := (34, [some (.ref 0), some (.int l1), some (.int l2), some (.int l3)], [])) (M := M1) (o := (pcl GG lay d 56 [.ref 0, .int (jz 7)] M1)) (hf := rfl) rfl rfl).trans ?_
      refine kI_in (fun r2 M2 => ?_)
      exact evn_end 1 rfl
/-- TermStrategies.isStrategyOver(III)Z -/
noncomputable abbrev E_32 (d : Nat) : PQ → PO := evn (rnn k_32 lay none (pcl GG lay d) 2)
theorem q_32 (d : Nat) (l1 : Int32) (l2 : Int32) (l3 : Int32) (M : PM) : pcl GG lay (d + 1) 32 [.ref 0, .int l1, .int l2, .int l3] M = (if l1 < jn 0 then (rZ (jn 0) M) else (if (jn 13) < l1 then (rZ (jn 0) M) else (if l1 = jn 0 then (kI (pcl GG lay d 241 [.ref 1, .int l2] M) fun r1 M1 => (rZ r1 M1)) else (if (jn 2) < l1 then (kI (pcl GG lay d 242 [.ref 1, .int l2] M) fun r1 M1 => (if r1 = jn 0 then (rZ (jn 0) M1) else (kI (pcl GG lay d 64 [.int l1] M1) fun r2 M2 => (if r2 = jn 0 then (rZ (jn 1) M2) else (kI (pcl GG lay d 242 [.ref 1, .int l3] M2) fun r3 M3 => (if r3 = jn 0 then (rZ (jn 0) M3) else (rZ (jn 1) M3))))))) else (rZ (jn 1) M))))) := by
  refine (pcl_un (mt := t_32) (by decide) rfl (Nat.le_of_ble_eq_true rfl)).trans ?_
  show E_32 d (0, [some (.ref 0), some (.int l1), some (.int l2), some (.int l3)], [], M) = _
  refine (evn_adv 1 (q' := (1, [some (.ref 0), some (.int l1), some (.int l2), some (.int l3)], [.int l1], M)) rfl).trans ?_
  refine (e_if_lt (hf := rfl)).trans ?_
  refine ite_in ?_ ?_
  · refine (evn_adv 1 (q' := (11, [some (.ref 0), some (.int l1), some (.int l2), some (.int l3)], [.int (jn 0)], M)) rfl).trans ?_
    exact e_iretz (hf := rfl)
  · refine (evn_adv 2 (q' := (7, [some (.ref 0), some (.int l1), some (.int l2), some (.int l3)], [.int (jn 13), .int l1], M)) rfl).trans ?_
    refine (e_ic_le (hf := rfl)).trans ?_
    refine ite_in ?_ ?_
    · refine (evn_adv 1 (q' := (11, [some (.ref 0), some (.int l1), some (.int l2), some (.int l3)], [.int (jn 0)], M)) rfl).trans ?_
      exact e_iretz (hf := rfl)
    · refine (evn_adv 1 (q' := (13, [some (.ref 0), some (.int l1), some (.int l2), some (.int l3)], [.int l1], M)) rfl).trans ?_
      refine (e_if_ne (hf := rfl)).trans ?_
      refine ite_in ?_ ?_
      · refine (evn_adv 3 (q' := (21, [some (.ref 0), some (.int l1), some (.int l2), some (.int l3)], [.int l2, .ref 1], M)) rfl).trans ?_
        refine (e_kI (q := (21, [some (.ref 0), some (.int l1), some (.int l2), some (.int l3)], [.int l2, .ref 1])) (q2 := (24, [some (.ref 0), some (.int l1), some (.int l2), some (.int l3)], [])) (M := M) (o := (pcl GG lay d 241 [.ref 1, .int l2] M)) (hf := rfl) rfl rfl).trans ?_
        refine kI_in (fun r1 M1 => ?_)
        exact e_iretz (hf := rfl)
      · refine (evn_adv 2 (q' := (27, [some (.ref 0), some (.int l1), some (.int l2), some (.int l3)], [.int (jn 2), .int l1], M)) rfl).trans ?_
        refine (e_ic_gt (hf := rfl)).trans ?_
        refine ite_in ?_ ?_
        · refine (evn_adv 3 (q' := (37, [some (.ref 0), some (.int l1), some (.int l2), some (.int l3)], [.int l2, .ref 1], M)) rfl).trans ?_
          refine (e_kI (q := (37, [some (.ref 0), some (.int l1), some (.int l2), some (.int l3)], [.int l2, .ref 1])) (q2 := (40, [some (.ref 0), some (.int l1), some (.int l2), some (.int l3)], [])) (M := M) (o := (pcl GG lay d 242 [.ref 1, .int l2] M)) (hf := rfl) rfl rfl).trans ?_
          refine kI_in (fun r1 M1 => ?_)
          refine (e_if_eq (hf := rfl)).trans ?_
          refine ite_in ?_ ?_
          · refine (evn_adv 1 (q' := (66, [some (.ref 0), some (.int l1), some (.int l2), some (.int l3)], [.int (jn 0)], M1)) rfl).trans ?_
            exact e_iretz (hf := rfl)
          · refine (evn_adv 1 (q' := (44, [some (.ref 0), some (.int l1), some (.int l2), some (.int l3)], [.int l1], M1)) rfl).trans ?_
            refine (e_kI (q := (44, [some (.ref 0), some (.int l1), some (.int l2), some (.int l3)], [.int l1])) (q2 := (47, [some (.ref 0), some (.int l1), some (.int l2), some (.int l3)], [])) (M := M1) (o := (pcl GG lay d 64 [.int l1] M1)) (hf := rfl) rfl rfl).trans ?_
            refine kI_in (fun r2 M2 => ?_)
            refine (e_if_eq (hf := rfl)).trans ?_
            refine ite_in ?_ ?_
            · refine (evn_adv 2 (q' := (66, [some (.ref 0), some (.int l1), some (.int l2), some (.int l3)], [.int (jn 1)], M2)) rfl).trans ?_
              exact e_iretz (hf := rfl)
            · refine (evn_adv 3 (q' := (55, [some (.ref 0), some (.int l1), some (.int l2), some (.int l3)], [.int l3, .ref 1], M2)) rfl).trans ?_
              refine (e_kI (q := (55, [some (.ref 0), some (.int l1), some (.int l2), some (.int l3)], [.int l3, .ref 1])) (q2 := (58, [some (.ref 0), some (.int l1), some (.int l2), some (.int l3)], [])) (M := M2) (o := (pcl GG lay d 242 [.ref 1, .int l3] M2)) (hf := rfl) rfl rfl).trans ?_
              refine kI_in (fun r3 M3 => ?_)
              refine (e_if_eq (hf := rfl)).trans ?_
              refine ite_in ?_ ?_
              · refine (evn_adv 1 (q' := (66, [some (.ref 0), some (.int l1), some (.int l2), some (.int l3)], [.int (jn 0)], M3)) rfl).trans ?_
                exact e_iretz (hf := rfl)
              · refine (evn_adv 2 (q' := (66, [some (.ref 0), some (.int l1), some (.int l2), some (.int l3)], [.int (jn 1)], M3)) rfl).trans ?_
                exact e_iretz (hf := rfl)
        · refine (evn_adv 1 (q' := (31, [some (.ref 0), some (.int l1), some (.int l2), some (.int l3)], [.int (jn 1)], M)) rfl).trans ?_
          exact e_iretz (hf := rfl)
/-- TermStrategies.strategyOf(II)I -/
noncomputable abbrev E_33 (d : Nat) : PQ → PO := evn (rnn k_33 lay none (pcl GG lay d) 1)
theorem q_33 (d : Nat) (l1 : Int32) (l2 : Int32) (M : PM) : pcl GG lay (d + 1) 33 [.ref 0, .int l1, .int l2] M = (kI (pcl GG lay d 242 [.ref 1, .int l1] M) fun r1 M1 => (if r1 = jn 0 then (kI (pcl GG lay d 56 [.ref 0, .int (jz 5)] M1) fun r2 M2 => (rI r2 M2)) else (if l2 = (jn 0) then (kI (pcl GG lay d 248 [.ref 1, .int l1] M1) fun r2 M2 => (rI r2 M2)) else (if l2 = (jn 1) then (kI (pcl GG lay d 249 [.ref 1, .int l1] M1) fun r2 M2 => (rI r2 M2)) else (if l2 = (jn 2) then (kI (pcl GG lay d 250 [.ref 1, .int l1] M1) fun r2 M2 => (rI r2 M2)) else (kI (pcl GG lay d 56 [.ref 0, .int (jz 5)] M1) fun r2 M2 => (rI r2 M2))))))) := by
  refine (pcl_un (mt := t_33) (by decide) rfl (Nat.le_of_ble_eq_true rfl)).trans ?_
  show E_33 d (0, [some (.ref 0), some (.int l1), some (.int l2)], [], M) = _
  refine (evn_adv 3 (q' := (5, [some (.ref 0), some (.int l1), some (.int l2)], [.int l1, .ref 1], M)) rfl).trans ?_
  refine (e_kI (q := (5, [some (.ref 0), some (.int l1), some (.int l2)], [.int l1, .ref 1])) (q2 := (8, [some (.ref 0), some (.int l1), some (.int l2)], [])) (M := M) (o := (pcl GG lay d 242 [.ref 1, .int l1] M)) (hf := rfl) rfl rfl).trans ?_
  refine kI_in (fun r1 M1 => ?_)
  refine (e_if_ne (hf := rfl)).trans ?_
  refine ite_in ?_ ?_
  · refine (evn_adv 2 (q' := (14, [some (.ref 0), some (.int l1), some (.int l2)], [.int (jz 5), .ref 0], M1)) rfl).trans ?_
    refine (e_kI (q := (14, [some (.ref 0), some (.int l1), some (.int l2)], [.int (jz 5), .ref 0])) (q2 := (17, [some (.ref 0), some (.int l1), some (.int l2)], [])) (M := M1) (o := (pcl GG lay d 56 [.ref 0, .int (jz 5)] M1)) (hf := rfl) rfl rfl).trans ?_
    refine kI_in (fun r2 M2 => ?_)
    exact evn_end 1 rfl
  · refine (evn_adv 1 (q' := (19, [some (.ref 0), some (.int l1), some (.int l2)], [.int l2], M1)) rfl).trans ?_
    refine (e_sw0 (dflt := 71) (lo := ((0 : Nat) : Int)) (ts := [44, 53, 62]) (hf := rfl) rfl).trans ?_
    refine sw_cons (lo := 0) (F := fun pc => E_33 d (pc, [some (.ref 0), some (.int l1), some (.int l2)], [], M1)) (by decide) ?_ ?_
    · refine (evn_adv 3 (q' := (49, [some (.ref 0), some (.int l1), some (.int l2)], [.int l1, .ref 1], M1)) rfl).trans ?_
      refine (e_kI (q := (49, [some (.ref 0), some (.int l1), some (.int l2)], [.int l1, .ref 1])) (q2 := (52, [some (.ref 0), some (.int l1), some (.int l2)], [])) (M := M1) (o := (pcl GG lay d 248 [.ref 1, .int l1] M1)) (hf := rfl) rfl rfl).trans ?_
      refine kI_in (fun r2 M2 => ?_)
      exact evn_end 1 rfl
    refine sw_cons (lo := 1) (F := fun pc => E_33 d (pc, [some (.ref 0), some (.int l1), some (.int l2)], [], M1)) (by decide) ?_ ?_
    · refine (evn_adv 3 (q' := (58, [some (.ref 0), some (.int l1), some (.int l2)], [.int l1, .ref 1], M1)) rfl).trans ?_
      refine (e_kI (q := (58, [some (.ref 0), some (.int l1), some (.int l2)], [.int l1, .ref 1])) (q2 := (61, [some (.ref 0), some (.int l1), some (.int l2)], [])) (M := M1) (o := (pcl GG lay d 249 [.ref 1, .int l1] M1)) (hf := rfl) rfl rfl).trans ?_
      refine kI_in (fun r2 M2 => ?_)
      exact evn_end 1 rfl
    refine sw_cons (lo := 2) (F := fun pc => E_33 d (pc, [some (.ref 0), some (.int l1), some (.int l2)], [], M1)) (by decide) ?_ ?_
    · refine (evn_adv 3 (q' := (67, [some (.ref 0), some (.int l1), some (.int l2)], [.int l1, .ref 1], M1)) rfl).trans ?_
      refine (e_kI (q := (67, [some (.ref 0), some (.int l1), some (.int l2)], [.int l1, .ref 1])) (q2 := (70, [some (.ref 0), some (.int l1), some (.int l2)], [])) (M := M1) (o := (pcl GG lay d 250 [.ref 1, .int l1] M1)) (hf := rfl) rfl rfl).trans ?_
      refine kI_in (fun r2 M2 => ?_)
      exact evn_end 1 rfl
    show E_33 d (71, [some (.ref 0), some (.int l1), some (.int l2)], [], M1) = _
    refine (evn_adv 2 (q' := (74, [some (.ref 0), some (.int l1), some (.int l2)], [.int (jz 5), .ref 0], M1)) rfl).trans ?_
    refine (e_kI (q := (74, [some (.ref 0), some (.int l1), some (.int l2)], [.int (jz 5), .ref 0])) (q2 := (77, [some (.ref 0), some (.int l1), some (.int l2)], [])) (M := M1) (o := (pcl GG lay d 56 [.ref 0, .int (jz 5)] M1)) (hf := rfl) rfl rfl).trans ?_
    refine kI_in (fun r2 M2 => ?_)
    exact evn_end 1 rfl
/-- TermStrategies.run(II)I -/
noncomputable abbrev E_34 (d : Nat) : PQ → PO := evn (rnn k_34 lay none (pcl GG lay d) 1)
theorem q_34 (d : Nat) (l1 : Int32) (l2 : Int32) (M : PM) : pcl GG lay (d + 1) 34 [.ref 0, .int l1, .int l2] M = (kI (pcl GG lay d 242 [.ref 1, .int l1] M) fun r1 M1 => (if r1 = jn 0 then (kI (pcl GG lay d 56 [.ref 0, .int (jz 1)] M1) fun r2 M2 => (rI r2 M2)) else (kI (pcl GG lay d 240 [.ref 1, .int l2] M1) fun r2 M2 => (if r2 = jn 0 then (kI (pcl GG lay d 56 [.ref 0, .int (jz 1)] M2) fun r3 M3 => (rI r3 M3)) else (kV (pcl GG lay d 199 [.ref 29] M2) fun M3 => (kI (pcl GG lay d 59 [.int l2] M3) fun r4 M4 => (kI (pcl GG lay d 200 [.ref 29, .int l1, .int r4] M4) fun r5 M5 => (if r5 = (jz 1) then (kI (pcl GG lay d 56 [.ref 0, .int (jz 6)] M5) fun r6 M6 => (rI r6 M6)) else (if r5 = (jz 2) then (kI (pcl GG lay d 56 [.ref 0, .int (jz 7)] M5) fun r6 M6 => (rI r6 M6)) else (if (M5.1 1 5) < (jn 24) then (kV (pcl GG lay d 258 [.ref 48, .ref 30] M5) fun M6 => (kI (pcl GG lay d 243 [.ref 1, .int r5] M6) fun r7 M7 => (rI r7 M7))) else (kI (pcl GG lay d 56 [.ref 0, .int (jz 7)] M5) fun r6 M6 => (rI r6 M6)))))))))))) := by
  refine (pcl_un (mt := t_34) (by decide) rfl (Nat.le_of_ble_eq_true rfl)).trans ?_
  show E_34 d (0, [some (.ref 0), some (.int l1), some (.int l2), none], [], M) = _
  refine (evn_adv 3 (q' := (5, [some (.ref 0), some (.int l1), some (.int l2), none], [.int l1, .ref 1], M)) rfl).trans ?_
  refine (e_kI (q := (5, [some (.ref 0), some (.int l1), some (.int l2), none], [.int l1, .ref 1])) (q2 := (8, [some (.ref 0), some (.int l1), some (.int l2), none], [])) (M := M) (o := (pcl GG lay d 242 [.ref 1, .int l1] M)) (hf := rfl) rfl rfl).trans ?_
  refine kI_in (fun r1 M1 => ?_)
  refine (e_if_eq (hf := rfl)).trans ?_
  refine ite_in ?_ ?_
  · refine (evn_adv 2 (q' := (24, [some (.ref 0), some (.int l1), some (.int l2), none], [.int (jz 1), .ref 0], M1)) rfl).trans ?_
    refine (e_kI (q := (24, [some (.ref 0), some (.int l1), some (.int l2), none], [.int (jz 1), .ref 0])) (q2 := (27, [some (.ref 0), some (.int l1), some (.int l2), none], [])) (M := M1) (o := (pcl GG lay d 56 [.ref 0, .int (jz 1)] M1)) (hf := rfl) rfl rfl).trans ?_
    refine kI_in (fun r2 M2 => ?_)
    exact evn_end 1 rfl
  · refine (evn_adv 3 (q' := (16, [some (.ref 0), some (.int l1), some (.int l2), none], [.int l2, .ref 1], M1)) rfl).trans ?_
    refine (e_kI (q := (16, [some (.ref 0), some (.int l1), some (.int l2), none], [.int l2, .ref 1])) (q2 := (19, [some (.ref 0), some (.int l1), some (.int l2), none], [])) (M := M1) (o := (pcl GG lay d 240 [.ref 1, .int l2] M1)) (hf := rfl) rfl rfl).trans ?_
    refine kI_in (fun r2 M2 => ?_)
    refine (e_if_ne (hf := rfl)).trans ?_
    refine ite_in ?_ ?_
    · refine (evn_adv 2 (q' := (24, [some (.ref 0), some (.int l1), some (.int l2), none], [.int (jz 1), .ref 0], M2)) rfl).trans ?_
      refine (e_kI (q := (24, [some (.ref 0), some (.int l1), some (.int l2), none], [.int (jz 1), .ref 0])) (q2 := (27, [some (.ref 0), some (.int l1), some (.int l2), none], [])) (M := M2) (o := (pcl GG lay d 56 [.ref 0, .int (jz 1)] M2)) (hf := rfl) rfl rfl).trans ?_
      refine kI_in (fun r3 M3 => ?_)
      exact evn_end 1 rfl
    · refine (evn_adv 2 (q' := (32, [some (.ref 0), some (.int l1), some (.int l2), none], [.ref 29], M2)) rfl).trans ?_
      refine (e_kV (q := (32, [some (.ref 0), some (.int l1), some (.int l2), none], [.ref 29])) (q2 := (35, [some (.ref 0), some (.int l1), some (.int l2), none], [])) (M := M2) (o := (pcl GG lay d 199 [.ref 29] M2)) (hf := rfl) rfl rfl).trans ?_
      refine kV_in (fun M3 => ?_)
      refine (evn_adv 4 (q' := (41, [some (.ref 0), some (.int l1), some (.int l2), none], [.int l2, .int l1, .ref 29], M3)) rfl).trans ?_
      refine (e_kI (q := (41, [some (.ref 0), some (.int l1), some (.int l2), none], [.int l2, .int l1, .ref 29])) (q2 := (44, [some (.ref 0), some (.int l1), some (.int l2), none], [.int l1, .ref 29])) (M := M3) (o := (pcl GG lay d 59 [.int l2] M3)) (hf := rfl) rfl rfl).trans ?_
      refine kI_in (fun r4 M4 => ?_)
      refine (e_kI (q := (44, [some (.ref 0), some (.int l1), some (.int l2), none], [.int r4, .int l1, .ref 29])) (q2 := (47, [some (.ref 0), some (.int l1), some (.int l2), none], [])) (M := M4) (o := (pcl GG lay d 200 [.ref 29, .int l1, .int r4] M4)) (hf := rfl) rfl rfl).trans ?_
      refine kI_in (fun r5 M5 => ?_)
      refine (evn_adv 3 (q' := (50, [some (.ref 0), some (.int l1), some (.int l2), some (.int r5)], [.int (jz 1), .int r5], M5)) rfl).trans ?_
      refine (e_ic_ne (hf := rfl)).trans ?_
      refine ite_in ?_ ?_
      · refine (evn_adv 2 (q' := (56, [some (.ref 0), some (.int l1), some (.int l2), some (.int r5)], [.int (jz 6), .ref 0], M5)) rfl).trans ?_
        refine (e_kI (q := (56, [some (.ref 0), some (.int l1), some (.int l2), some (.int r5)], [.int (jz 6), .ref 0])) (q2 := (59, [some (.ref 0), some (.int l1), some (.int l2), some (.int r5)], [])) (M := M5) (o := (pcl GG lay d 56 [.ref 0, .int (jz 6)] M5)) (hf := rfl) rfl rfl).trans ?_
        refine kI_in (fun r6 M6 => ?_)
        exact evn_end 1 rfl
      · refine (evn_adv 2 (q' := (63, [some (.ref 0), some (.int l1), some (.int l2), some (.int r5)], [.int (jz 2), .int r5], M5)) rfl).trans ?_
        refine (e_ic_eq (hf := rfl)).trans ?_
        refine ite_in ?_ ?_
        · refine (evn_adv 2 (q' := (81, [some (.ref 0), some (.int l1), some (.int l2), some (.int r5)], [.int (jz 7), .ref 0], M5)) rfl).trans ?_
          refine (e_kI (q := (81, [some (.ref 0), some (.int l1), some (.int l2), some (.int r5)], [.int (jz 7), .ref 0])) (q2 := (84, [some (.ref 0), some (.int l1), some (.int l2), some (.int r5)], [])) (M := M5) (o := (pcl GG lay d 56 [.ref 0, .int (jz 7)] M5)) (hf := rfl) rfl rfl).trans ?_
          refine kI_in (fun r6 M6 => ?_)
          exact evn_end 1 rfl
        · refine (evn_adv 4 (q' := (75, [some (.ref 0), some (.int l1), some (.int l2), some (.int r5)], [.int (jn 24), .int (M5.1 1 5)], M5)) rfl).trans ?_
          refine (e_ic_lt (hf := rfl)).trans ?_
          refine ite_in ?_ ?_
          · refine (evn_adv 5 (q' := (96, [some (.ref 0), some (.int l1), some (.int l2), some (.int r5)], [.ref 30, .ref 48], M5)) rfl).trans ?_
            refine (e_kV (q := (96, [some (.ref 0), some (.int l1), some (.int l2), some (.int r5)], [.ref 30, .ref 48])) (q2 := (99, [some (.ref 0), some (.int l1), some (.int l2), some (.int r5)], [])) (M := M5) (o := (pcl GG lay d 258 [.ref 48, .ref 30] M5)) (hf := rfl) rfl rfl).trans ?_
            refine kV_in (fun M6 => ?_)
            refine (evn_adv 3 (q' := (104, [some (.ref 0), some (.int l1), some (.int l2), some (.int r5)], [.int r5, .ref 1], M6)) rfl).trans ?_
            refine (e_kI (q := (104, [some (.ref 0), some (.int l1), some (.int l2), some (.int r5)], [.int r5, .ref 1])) (q2 := (107, [some (.ref 0), some (.int l1), some (.int l2), some (.int r5)], [])) (M := M6) (o := (pcl GG lay d 243 [.ref 1, .int r5] M6)) (hf := rfl) rfl rfl).trans ?_
            refine kI_in (fun r7 M7 => ?_)
            exact evn_end 1 rfl
          · refine (evn_adv 2 (q' := (81, [some (.ref 0), some (.int l1), some (.int l2), some (.int r5)], [.int (jz 7), .ref 0], M5)) rfl).trans ?_
            refine (e_kI (q := (81, [some (.ref 0), some (.int l1), some (.int l2), some (.int r5)], [.int (jz 7), .ref 0])) (q2 := (84, [some (.ref 0), some (.int l1), some (.int l2), some (.int r5)], [])) (M := M5) (o := (pcl GG lay d 56 [.ref 0, .int (jz 7)] M5)) (hf := rfl) rfl rfl).trans ?_
            refine kI_in (fun r6 M6 => ?_)
            exact evn_end 1 rfl
/-- TermStrategies.trial(III)I -/
noncomputable abbrev E_35 (d : Nat) : PQ → PO := evn (rnn k_35 lay none (pcl GG lay d) 1)
theorem q_35 (d : Nat) (l1 : Int32) (l2 : Int32) (l3 : Int32) (M : PM) : pcl GG lay (d + 1) 35 [.ref 0, .int l1, .int l2, .int l3] M = (kI (pcl GG lay d 242 [.ref 1, .int l1] M) fun r1 M1 => (if r1 = jn 0 then (kI (pcl GG lay d 56 [.ref 0, .int (jz 1)] M1) fun r2 M2 => (rI r2 M2)) else (kI (pcl GG lay d 240 [.ref 1, .int l2] M1) fun r2 M2 => (if r2 = jn 0 then (kI (pcl GG lay d 56 [.ref 0, .int (jz 1)] M2) fun r3 M3 => (rI r3 M3)) else (if l3 < jn 0 then (kI (pcl GG lay d 56 [.ref 0, .int (jz 5)] M2) fun r3 M3 => (rI r3 M3)) else (if (jn 2) < l3 then (kI (pcl GG lay d 56 [.ref 0, .int (jz 5)] M2) fun r3 M3 => (rI r3 M3)) else (kV (pcl GG lay d 199 [.ref 29] M2) fun M3 => (kI (pcl GG lay d 59 [.int l2] M3) fun r4 M4 => (kI (pcl GG lay d 200 [.ref 29, .int l1, .int r4] M4) fun r5 M5 => (if l3 = jn 0 then (if r5 = (jz 1) then (rI (jn 1) M5) else (if r5 = (jz 2) then (rI (jn 2) M5) else (rI (jn 0) M5))) else (if r5 < jn 0 then (rI (jn 0) M5) else (if l3 = (jn 1) then (kI (pcl GG lay d 234 [.ref 6, .int r5] M5) fun r6 M6 => (rI r6 M6)) else (rI (M5.1 30 2) M5))))))))))))) := by
  refine (pcl_un (mt := t_35) (by decide) rfl (Nat.le_of_ble_eq_true rfl)).trans ?_
  show E_35 d (0, [some (.ref 0), some (.int l1), some (.int l2), some (.int l3), none], [], M) = _
  refine (evn_adv 3 (q' := (5, [some (.ref 0), some (.int l1), some (.int l2), some (.int l3), none], [.int l1, .ref 1], M)) rfl).trans ?_
  refine (e_kI (q := (5, [some (.ref 0), some (.int l1), some (.int l2), some (.int l3), none], [.int l1, .ref 1])) (q2 := (8, [some (.ref 0), some (.int l1), some (.int l2), some (.int l3), none], [])) (M := M) (o := (pcl GG lay d 242 [.ref 1, .int l1] M)) (hf := rfl) rfl rfl).trans ?_
  refine kI_in (fun r1 M1 => ?_)
  refine (e_if_eq (hf := rfl)).trans ?_
  refine ite_in ?_ ?_
  · refine (evn_adv 2 (q' := (24, [some (.ref 0), some (.int l1), some (.int l2), some (.int l3), none], [.int (jz 1), .ref 0], M1)) rfl).trans ?_
    refine (e_kI (q := (24, [some (.ref 0), some (.int l1), some (.int l2), some (.int l3), none], [.int (jz 1), .ref 0])) (q2 := (27, [some (.ref 0), some (.int l1), some (.int l2), some (.int l3), none], [])) (M := M1) (o := (pcl GG lay d 56 [.ref 0, .int (jz 1)] M1)) (hf := rfl) rfl rfl).trans ?_
    refine kI_in (fun r2 M2 => ?_)
    exact evn_end 1 rfl
  · refine (evn_adv 3 (q' := (16, [some (.ref 0), some (.int l1), some (.int l2), some (.int l3), none], [.int l2, .ref 1], M1)) rfl).trans ?_
    refine (e_kI (q := (16, [some (.ref 0), some (.int l1), some (.int l2), some (.int l3), none], [.int l2, .ref 1])) (q2 := (19, [some (.ref 0), some (.int l1), some (.int l2), some (.int l3), none], [])) (M := M1) (o := (pcl GG lay d 240 [.ref 1, .int l2] M1)) (hf := rfl) rfl rfl).trans ?_
    refine kI_in (fun r2 M2 => ?_)
    refine (e_if_ne (hf := rfl)).trans ?_
    refine ite_in ?_ ?_
    · refine (evn_adv 2 (q' := (24, [some (.ref 0), some (.int l1), some (.int l2), some (.int l3), none], [.int (jz 1), .ref 0], M2)) rfl).trans ?_
      refine (e_kI (q := (24, [some (.ref 0), some (.int l1), some (.int l2), some (.int l3), none], [.int (jz 1), .ref 0])) (q2 := (27, [some (.ref 0), some (.int l1), some (.int l2), some (.int l3), none], [])) (M := M2) (o := (pcl GG lay d 56 [.ref 0, .int (jz 1)] M2)) (hf := rfl) rfl rfl).trans ?_
      refine kI_in (fun r3 M3 => ?_)
      exact evn_end 1 rfl
    · refine (evn_adv 1 (q' := (29, [some (.ref 0), some (.int l1), some (.int l2), some (.int l3), none], [.int l3], M2)) rfl).trans ?_
      refine (e_if_lt (hf := rfl)).trans ?_
      refine ite_in ?_ ?_
      · refine (evn_adv 2 (q' := (40, [some (.ref 0), some (.int l1), some (.int l2), some (.int l3), none], [.int (jz 5), .ref 0], M2)) rfl).trans ?_
        refine (e_kI (q := (40, [some (.ref 0), some (.int l1), some (.int l2), some (.int l3), none], [.int (jz 5), .ref 0])) (q2 := (43, [some (.ref 0), some (.int l1), some (.int l2), some (.int l3), none], [])) (M := M2) (o := (pcl GG lay d 56 [.ref 0, .int (jz 5)] M2)) (hf := rfl) rfl rfl).trans ?_
        refine kI_in (fun r3 M3 => ?_)
        exact evn_end 1 rfl
      · refine (evn_adv 2 (q' := (34, [some (.ref 0), some (.int l1), some (.int l2), some (.int l3), none], [.int (jn 2), .int l3], M2)) rfl).trans ?_
        refine (e_ic_le (hf := rfl)).trans ?_
        refine ite_in ?_ ?_
        · refine (evn_adv 2 (q' := (40, [some (.ref 0), some (.int l1), some (.int l2), some (.int l3), none], [.int (jz 5), .ref 0], M2)) rfl).trans ?_
          refine (e_kI (q := (40, [some (.ref 0), some (.int l1), some (.int l2), some (.int l3), none], [.int (jz 5), .ref 0])) (q2 := (43, [some (.ref 0), some (.int l1), some (.int l2), some (.int l3), none], [])) (M := M2) (o := (pcl GG lay d 56 [.ref 0, .int (jz 5)] M2)) (hf := rfl) rfl rfl).trans ?_
          refine kI_in (fun r3 M3 => ?_)
          exact evn_end 1 rfl
        · refine (evn_adv 2 (q' := (48, [some (.ref 0), some (.int l1), some (.int l2), some (.int l3), none], [.ref 29], M2)) rfl).trans ?_
          refine (e_kV (q := (48, [some (.ref 0), some (.int l1), some (.int l2), some (.int l3), none], [.ref 29])) (q2 := (51, [some (.ref 0), some (.int l1), some (.int l2), some (.int l3), none], [])) (M := M2) (o := (pcl GG lay d 199 [.ref 29] M2)) (hf := rfl) rfl rfl).trans ?_
          refine kV_in (fun M3 => ?_)
          refine (evn_adv 4 (q' := (57, [some (.ref 0), some (.int l1), some (.int l2), some (.int l3), none], [.int l2, .int l1, .ref 29], M3)) rfl).trans ?_
          refine (e_kI (q := (57, [some (.ref 0), some (.int l1), some (.int l2), some (.int l3), none], [.int l2, .int l1, .ref 29])) (q2 := (60, [some (.ref 0), some (.int l1), some (.int l2), some (.int l3), none], [.int l1, .ref 29])) (M := M3) (o := (pcl GG lay d 59 [.int l2] M3)) (hf := rfl) rfl rfl).trans ?_
          refine kI_in (fun r4 M4 => ?_)
          refine (e_kI (q := (60, [some (.ref 0), some (.int l1), some (.int l2), some (.int l3), none], [.int r4, .int l1, .ref 29])) (q2 := (63, [some (.ref 0), some (.int l1), some (.int l2), some (.int l3), none], [])) (M := M4) (o := (pcl GG lay d 200 [.ref 29, .int l1, .int r4] M4)) (hf := rfl) rfl rfl).trans ?_
          refine kI_in (fun r5 M5 => ?_)
          refine (evn_adv 2 (q' := (66, [some (.ref 0), some (.int l1), some (.int l2), some (.int l3), some (.int r5)], [.int l3], M5)) rfl).trans ?_
          refine (e_if_ne (hf := rfl)).trans ?_
          refine ite_in ?_ ?_
          · refine (evn_adv 2 (q' := (72, [some (.ref 0), some (.int l1), some (.int l2), some (.int l3), some (.int r5)], [.int (jz 1), .int r5], M5)) rfl).trans ?_
            refine (e_ic_ne (hf := rfl)).trans ?_
            refine ite_in ?_ ?_
            · refine (evn_adv 2 (q' := (91, [some (.ref 0), some (.int l1), some (.int l2), some (.int l3), some (.int r5)], [.int (jn 1)], M5)) rfl).trans ?_
              exact evn_end 1 rfl
            · refine (evn_adv 2 (q' := (83, [some (.ref 0), some (.int l1), some (.int l2), some (.int l3), some (.int r5)], [.int (jz 2), .int r5], M5)) rfl).trans ?_
              refine (e_ic_ne (hf := rfl)).trans ?_
              refine ite_in ?_ ?_
              · refine (evn_adv 2 (q' := (91, [some (.ref 0), some (.int l1), some (.int l2), some (.int l3), some (.int r5)], [.int (jn 2)], M5)) rfl).trans ?_
                exact evn_end 1 rfl
              · refine (evn_adv 1 (q' := (91, [some (.ref 0), some (.int l1), some (.int l2), some (.int l3), some (.int r5)], [.int (jn 0)], M5)) rfl).trans ?_
                exact evn_end 1 rfl
          · refine (evn_adv 1 (q' := (94, [some (.ref 0), some (.int l1), some (.int l2), some (.int l3), some (.int r5)], [.int r5], M5)) rfl).trans ?_
            refine (e_if_ge (hf := rfl)).trans ?_
            refine ite_in ?_ ?_
            · refine (evn_adv 1 (q' := (98, [some (.ref 0), some (.int l1), some (.int l2), some (.int l3), some (.int r5)], [.int (jn 0)], M5)) rfl).trans ?_
              exact evn_end 1 rfl
            · refine (evn_adv 2 (q' := (101, [some (.ref 0), some (.int l1), some (.int l2), some (.int l3), some (.int r5)], [.int (jn 1), .int l3], M5)) rfl).trans ?_
              refine (e_ic_ne (hf := rfl)).trans ?_
              refine ite_in ?_ ?_
              · refine (evn_adv 3 (q' := (110, [some (.ref 0), some (.int l1), some (.int l2), some (.int l3), some (.int r5)], [.int r5, .ref 6], M5)) rfl).trans ?_
                refine (e_kI (q := (110, [some (.ref 0), some (.int l1), some (.int l2), some (.int l3), some (.int r5)], [.int r5, .ref 6])) (q2 := (113, [some (.ref 0), some (.int l1), some (.int l2), some (.int l3), some (.int r5)], [])) (M := M5) (o := (pcl GG lay d 234 [.ref 6, .int r5] M5)) (hf := rfl) rfl rfl).trans ?_
                refine kI_in (fun r6 M6 => ?_)
                refine (evn_adv 1 (q' := (126, [some (.ref 0), some (.int l1), some (.int l2), some (.int l3), some (.int r5)], [.int r6], M6)) rfl).trans ?_
                exact evn_end 1 rfl
              · refine (evn_adv 4 (q' := (126, [some (.ref 0), some (.int l1), some (.int l2), some (.int l3), some (.int r5)], [.int (M5.1 30 2)], M5)) rfl).trans ?_
                exact evn_end 1 rfl
/-- TermStrategies.trace(I)I -/
noncomputable abbrev E_36 (d : Nat) : PQ → PO := evn (rnn k_36 lay none (pcl GG lay d) 1)
theorem q_36 (d : Nat) (l1 : Int32) (M : PM) : pcl GG lay (d + 1) 36 [.ref 0, .int l1] M = (kI (pcl GG lay d 256 [.ref 48, .int l1] M) fun r1 M1 => (rI r1 M1)) := by
  refine (pcl_un (mt := t_36) (by decide) rfl (Nat.le_of_ble_eq_true rfl)).trans ?_
  show E_36 d (0, [some (.ref 0), some (.int l1)], [], M) = _
  refine (evn_adv 3 (q' := (5, [some (.ref 0), some (.int l1)], [.int l1, .ref 48], M)) rfl).trans ?_
  refine (e_kI (q := (5, [some (.ref 0), some (.int l1)], [.int l1, .ref 48])) (q2 := (8, [some (.ref 0), some (.int l1)], [])) (M := M) (o := (pcl GG lay d 256 [.ref 48, .int l1] M)) (hf := rfl) rfl rfl).trans ?_
  refine kI_in (fun r1 M1 => ?_)
  exact evn_end 1 rfl
/-- TermStrategies.tracePath(I)J -/
noncomputable abbrev E_37 (d : Nat) : PQ → PO := evn (rnn k_37 lay none (pcl GG lay d) 3)
theorem q_37 (d : Nat) (l1 : Int32) (M : PM) : pcl GG lay (d + 1) 37 [.ref 0, .int l1] M = (kL (pcl GG lay d 257 [.ref 48, .int l1] M) fun r1 M1 => (rL r1 M1)) := by
  refine (pcl_un (mt := t_37) (by decide) rfl (Nat.le_of_ble_eq_true rfl)).trans ?_
  show E_37 d (0, [some (.ref 0), some (.int l1)], [], M) = _
  refine (evn_adv 3 (q' := (5, [some (.ref 0), some (.int l1)], [.int l1, .ref 48], M)) rfl).trans ?_
  refine (e_kL (q := (5, [some (.ref 0), some (.int l1)], [.int l1, .ref 48])) (q2 := (8, [some (.ref 0), some (.int l1)], [])) (M := M) (o := (pcl GG lay d 257 [.ref 48, .int l1] M)) (hf := rfl) rfl rfl).trans ?_
  refine kL_in (fun r1 M1 => ?_)
  exact evn_end 1 rfl
/-- TermStrategies.replay(II)I -/
noncomputable abbrev E_38 (d : Nat) : PQ → PO := evn (rnn k_38 lay none (pcl GG lay d) 1)
theorem q_38 (d : Nat) (l1 : Int32) (l2 : Int32) (M : PM) : pcl GG lay (d + 1) 38 [.ref 0, .int l1, .int l2] M = (kI (pcl GG lay d 240 [.ref 1, .int l1] M) fun r1 M1 => (if r1 = jn 0 then (kI (pcl GG lay d 56 [.ref 0, .int (jz 1)] M1) fun r2 M2 => (rI r2 M2)) else (if l2 < jn 0 then (kI (pcl GG lay d 56 [.ref 0, .int (jz 5)] M1) fun r2 M2 => (rI r2 M2)) else (if (M1.1 48 2) < l2 then (kI (pcl GG lay d 56 [.ref 0, .int (jz 5)] M1) fun r2 M2 => (rI r2 M2)) else (kI (pcl GG lay d 59 [.int l1] M1) fun r2 M2 => (kI (pcl GG lay d 237 [.ref 6, .int r2, .int (jn 1960)] M2) fun r3 M3 => E_38 d (56, [some (.ref 0), some (.int l1), some (.int l2), some (.int (jn 0)), none], [], M3))))))) := by
  refine (pcl_un (mt := t_38) (by decide) rfl (Nat.le_of_ble_eq_true rfl)).trans ?_
  show E_38 d (0, [some (.ref 0), some (.int l1), some (.int l2), none, none], [], M) = _
  refine (evn_adv 3 (q' := (5, [some (.ref 0), some (.int l1), some (.int l2), none, none], [.int l1, .ref 1], M)) rfl).trans ?_
  refine (e_kI (q := (5, [some (.ref 0), some (.int l1), some (.int l2), none, none], [.int l1, .ref 1])) (q2 := (8, [some (.ref 0), some (.int l1), some (.int l2), none, none], [])) (M := M) (o := (pcl GG lay d 240 [.ref 1, .int l1] M)) (hf := rfl) rfl rfl).trans ?_
  refine kI_in (fun r1 M1 => ?_)
  refine (e_if_ne (hf := rfl)).trans ?_
  refine ite_in ?_ ?_
  · refine (evn_adv 2 (q' := (13, [some (.ref 0), some (.int l1), some (.int l2), none, none], [.int (jz 1), .ref 0], M1)) rfl).trans ?_
    refine (e_kI (q := (13, [some (.ref 0), some (.int l1), some (.int l2), none, none], [.int (jz 1), .ref 0])) (q2 := (16, [some (.ref 0), some (.int l1), some (.int l2), none, none], [])) (M := M1) (o := (pcl GG lay d 56 [.ref 0, .int (jz 1)] M1)) (hf := rfl) rfl rfl).trans ?_
    refine kI_in (fun r2 M2 => ?_)
    exact evn_end 1 rfl
  · refine (evn_adv 1 (q' := (18, [some (.ref 0), some (.int l1), some (.int l2), none, none], [.int l2], M1)) rfl).trans ?_
    refine (e_if_lt (hf := rfl)).trans ?_
    refine ite_in ?_ ?_
    · refine (evn_adv 2 (q' := (35, [some (.ref 0), some (.int l1), some (.int l2), none, none], [.int (jz 5), .ref 0], M1)) rfl).trans ?_
      refine (e_kI (q := (35, [some (.ref 0), some (.int l1), some (.int l2), none, none], [.int (jz 5), .ref 0])) (q2 := (38, [some (.ref 0), some (.int l1), some (.int l2), none, none], [])) (M := M1) (o := (pcl GG lay d 56 [.ref 0, .int (jz 5)] M1)) (hf := rfl) rfl rfl).trans ?_
      refine kI_in (fun r2 M2 => ?_)
      exact evn_end 1 rfl
    · refine (evn_adv 4 (q' := (29, [some (.ref 0), some (.int l1), some (.int l2), none, none], [.int (M1.1 48 2), .int l2], M1)) rfl).trans ?_
      refine (e_ic_le (hf := rfl)).trans ?_
      refine ite_in ?_ ?_
      · refine (evn_adv 2 (q' := (35, [some (.ref 0), some (.int l1), some (.int l2), none, none], [.int (jz 5), .ref 0], M1)) rfl).trans ?_
        refine (e_kI (q := (35, [some (.ref 0), some (.int l1), some (.int l2), none, none], [.int (jz 5), .ref 0])) (q2 := (38, [some (.ref 0), some (.int l1), some (.int l2), none, none], [])) (M := M1) (o := (pcl GG lay d 56 [.ref 0, .int (jz 5)] M1)) (hf := rfl) rfl rfl).trans ?_
        refine kI_in (fun r2 M2 => ?_)
        exact evn_end 1 rfl
      · refine (evn_adv 3 (q' := (44, [some (.ref 0), some (.int l1), some (.int l2), none, none], [.int l1, .ref 6], M1)) rfl).trans ?_
        refine (e_kI (q := (44, [some (.ref 0), some (.int l1), some (.int l2), none, none], [.int l1, .ref 6])) (q2 := (47, [some (.ref 0), some (.int l1), some (.int l2), none, none], [.ref 6])) (M := M1) (o := (pcl GG lay d 59 [.int l1] M1)) (hf := rfl) rfl rfl).trans ?_
        refine kI_in (fun r2 M2 => ?_)
        refine (evn_adv 1 (q' := (50, [some (.ref 0), some (.int l1), some (.int l2), none, none], [.int (jn 1960), .int r2, .ref 6], M2)) rfl).trans ?_
        refine (e_kI (q := (50, [some (.ref 0), some (.int l1), some (.int l2), none, none], [.int (jn 1960), .int r2, .ref 6])) (q2 := (53, [some (.ref 0), some (.int l1), some (.int l2), none, none], [])) (M := M2) (o := (pcl GG lay d 237 [.ref 6, .int r2, .int (jn 1960)] M2)) (hf := rfl) rfl rfl).trans ?_
        refine kI_in (fun r3 M3 => ?_)
        refine (evn_adv 3 (q' := (56, [some (.ref 0), some (.int l1), some (.int l2), some (.int (jn 0)), none], [], M3)) rfl).trans ?_
        rfl
theorem h_38_56 (d : Nat) (u1 : Option Value) (l2 : Int32) (l3 : Int32) (u4 : Option Value) (M : PM) : E_38 d (56, [some (.ref 0), u1, some (.int l2), some (.int l3), u4], [], M) = (if l3 < l2 then (kI (pcl GG lay d 256 [.ref 48, .int l3] M) fun r1 M1 => (kL (pcl GG lay d 257 [.ref 48, .int l3] M1) fun r2 M2 => (kI (pcl GG lay d 39 [.ref 0, .int r1, .long r2] M2) fun r3 M3 => (if r3 = jn 0 then E_38 d (56, [some (.ref 0), u1, some (.int l2), some (.int (l3 + (jn 1))), some (.int r3)], [], M3) else (kI (pcl GG lay d 56 [.ref 0, .int r3] M3) fun r4 M4 => (rI r4 M4)))))) else (kI (pcl GG lay d 57 [.ref 0, .int (jn 1960)] M) fun r1 M1 => (rI r1 M1))) := by
  refine (evn_adv 2 (q' := (58, [some (.ref 0), u1, some (.int l2), some (.int l3), u4], [.int l2, .int l3], M)) rfl).trans ?_
  refine (e_ic_ge (hf := rfl)).trans ?_
  refine ite_in ?_ ?_
  · refine (evn_adv 4 (q' := (67, [some (.ref 0), u1, some (.int l2), some (.int l3), u4], [.int l3, .ref 48, .ref 0], M)) rfl).trans ?_
    refine (e_kI (q := (67, [some (.ref 0), u1, some (.int l2), some (.int l3), u4], [.int l3, .ref 48, .ref 0])) (q2 := (70, [some (.ref 0), u1, some (.int l2), some (.int l3), u4], [.ref 0])) (M := M) (o := (pcl GG lay d 256 [.ref 48, .int l3] M)) (hf := rfl) rfl rfl).trans ?_
    refine kI_in (fun r1 M1 => ?_)
    refine (evn_adv 3 (q' := (75, [some (.ref 0), u1, some (.int l2), some (.int l3), u4], [.int l3, .ref 48, .int r1, .ref 0], M1)) rfl).trans ?_
    refine (e_kL (q := (75, [some (.ref 0), u1, some (.int l2), some (.int l3), u4], [.int l3, .ref 48, .int r1, .ref 0])) (q2 := (78, [some (.ref 0), u1, some (.int l2), some (.int l3), u4], [.int r1, .ref 0])) (M := M1) (o := (pcl GG lay d 257 [.ref 48, .int l3] M1)) (hf := rfl) rfl rfl).trans ?_
    refine kL_in (fun r2 M2 => ?_)
    refine (e_kI (q := (78, [some (.ref 0), u1, some (.int l2), some (.int l3), u4], [.long r2, .int r1, .ref 0])) (q2 := (81, [some (.ref 0), u1, some (.int l2), some (.int l3), u4], [])) (M := M2) (o := (pcl GG lay d 39 [.ref 0, .int r1, .long r2] M2)) (hf := rfl) rfl rfl).trans ?_
    refine kI_in (fun r3 M3 => ?_)
    refine (evn_adv 2 (q' := (85, [some (.ref 0), u1, some (.int l2), some (.int l3), some (.int r3)], [.int r3], M3)) rfl).trans ?_
    refine (e_if_eq (hf := rfl)).trans ?_
    refine ite_in ?_ ?_
    · refine (evn_adv 2 (q' := (56, [some (.ref 0), u1, some (.int l2), some (.int (l3 + (jn 1))), some (.int r3)], [], M3)) rfl).trans ?_
      rfl
    · refine (evn_adv 2 (q' := (91, [some (.ref 0), u1, some (.int l2), some (.int l3), some (.int r3)], [.int r3, .ref 0], M3)) rfl).trans ?_
      refine (e_kI (q := (91, [some (.ref 0), u1, some (.int l2), some (.int l3), some (.int r3)], [.int r3, .ref 0])) (q2 := (94, [some (.ref 0), u1, some (.int l2), some (.int l3), some (.int r3)], [])) (M := M3) (o := (pcl GG lay d 56 [.ref 0, .int r3] M3)) (hf := rfl) rfl rfl).trans ?_
      refine kI_in (fun r4 M4 => ?_)
      exact evn_end 1 rfl
  · refine (evn_adv 2 (q' := (105, [some (.ref 0), u1, some (.int l2), some (.int l3), u4], [.int (jn 1960), .ref 0], M)) rfl).trans ?_
    refine (e_kI (q := (105, [some (.ref 0), u1, some (.int l2), some (.int l3), u4], [.int (jn 1960), .ref 0])) (q2 := (108, [some (.ref 0), u1, some (.int l2), some (.int l3), u4], [])) (M := M) (o := (pcl GG lay d 57 [.ref 0, .int (jn 1960)] M)) (hf := rfl) rfl rfl).trans ?_
    refine kI_in (fun r1 M1 => ?_)
    exact evn_end 1 rfl
/-- TermStrategies.rewriteInHand(IJ)I -/
noncomputable abbrev E_39 (d : Nat) : PQ → PO := evn (rnn k_39 lay none (pcl GG lay d) 1)
theorem q_39 (d : Nat) (l1 : Int32) (l2 : Int64) (M : PM) : pcl GG lay (d + 1) 39 [.ref 0, .int l1, .long l2] M = (kV (pcl GG lay d 183 [.ref 21, .int (jn 1960)] M) fun M1 => (kI (pcl GG lay d 187 [.ref 21, .long l2] M1) fun r2 M2 => (kI (pcl GG lay d 241 [.ref 1, .int l1] M2) fun r3 M3 => (if r3 = jn 0 then (rI (jz 6) M3) else (if r2 = (jz 1) then (rI (jz 6) M3) else (kI (pcl GG lay d 30 [.ref 0, .int l1, .int (jn 1960), .int r2] M3) fun r4 M4 => (if r4 = jn 0 then (kI (pcl GG lay d 237 [.ref 6, .int (jn 1920), .int (jn 1960)] M4) fun r5 M5 => (rI r4 M5)) else (rI r4 M4)))))))) := by
  refine (pcl_un (mt := t_39) (by decide) rfl (Nat.le_of_ble_eq_true rfl)).trans ?_
  show E_39 d (0, [some (.ref 0), some (.int l1), some (.long l2), none, none, none], [], M) = _
  refine (evn_adv 3 (q' := (7, [some (.ref 0), some (.int l1), some (.long l2), none, none, none], [.int (jn 1960), .ref 21], M)) rfl).trans ?_
  refine (e_kV (q := (7, [some (.ref 0), some (.int l1), some (.long l2), none, none, none], [.int (jn 1960), .ref 21])) (q2 := (10, [some (.ref 0), some (.int l1), some (.long l2), none, none, none], [])) (M := M) (o := (pcl GG lay d 183 [.ref 21, .int (jn 1960)] M)) (hf := rfl) rfl rfl).trans ?_
  refine kV_in (fun M1 => ?_)
  refine (evn_adv 3 (q' := (15, [some (.ref 0), some (.int l1), some (.long l2), none, none, none], [.long l2, .ref 21], M1)) rfl).trans ?_
  refine (e_kI (q := (15, [some (.ref 0), some (.int l1), some (.long l2), none, none, none], [.long l2, .ref 21])) (q2 := (18, [some (.ref 0), some (.int l1), some (.long l2), none, none, none], [])) (M := M1) (o := (pcl GG lay d 187 [.ref 21, .long l2] M1)) (hf := rfl) rfl rfl).trans ?_
  refine kI_in (fun r2 M2 => ?_)
  refine (evn_adv 4 (q' := (25, [some (.ref 0), some (.int l1), some (.long l2), none, some (.int r2), none], [.int l1, .ref 1], M2)) rfl).trans ?_
  refine (e_kI (q := (25, [some (.ref 0), some (.int l1), some (.long l2), none, some (.int r2), none], [.int l1, .ref 1])) (q2 := (28, [some (.ref 0), some (.int l1), some (.long l2), none, some (.int r2), none], [])) (M := M2) (o := (pcl GG lay d 241 [.ref 1, .int l1] M2)) (hf := rfl) rfl rfl).trans ?_
  refine kI_in (fun r3 M3 => ?_)
  refine (e_if_eq (hf := rfl)).trans ?_
  refine ite_in ?_ ?_
  · refine (evn_adv 1 (q' := (39, [some (.ref 0), some (.int l1), some (.long l2), none, some (.int r2), none], [.int (jz 6)], M3)) rfl).trans ?_
    exact evn_end 1 rfl
  · refine (evn_adv 2 (q' := (34, [some (.ref 0), some (.int l1), some (.long l2), none, some (.int r2), none], [.int (jz 1), .int r2], M3)) rfl).trans ?_
    refine (e_ic_ne (hf := rfl)).trans ?_
    refine ite_in ?_ ?_
    · refine (evn_adv 1 (q' := (39, [some (.ref 0), some (.int l1), some (.long l2), none, some (.int r2), none], [.int (jz 6)], M3)) rfl).trans ?_
      exact evn_end 1 rfl
    · refine (evn_adv 4 (q' := (47, [some (.ref 0), some (.int l1), some (.long l2), none, some (.int r2), none], [.int r2, .int (jn 1960), .int l1, .ref 0], M3)) rfl).trans ?_
      refine (e_kI (q := (47, [some (.ref 0), some (.int l1), some (.long l2), none, some (.int r2), none], [.int r2, .int (jn 1960), .int l1, .ref 0])) (q2 := (50, [some (.ref 0), some (.int l1), some (.long l2), none, some (.int r2), none], [])) (M := M3) (o := (pcl GG lay d 30 [.ref 0, .int l1, .int (jn 1960), .int r2] M3)) (hf := rfl) rfl rfl).trans ?_
      refine kI_in (fun r4 M4 => ?_)
      refine (evn_adv 2 (q' := (54, [some (.ref 0), some (.int l1), some (.long l2), none, some (.int r2), some (.int r4)], [.int r4], M4)) rfl).trans ?_
      refine (e_if_ne (hf := rfl)).trans ?_
      refine ite_in ?_ ?_
      · refine (evn_adv 4 (q' := (67, [some (.ref 0), some (.int l1), some (.long l2), none, some (.int r2), some (.int r4)], [.int (jn 1960), .int (jn 1920), .ref 6], M4)) rfl).trans ?_
        refine (e_kI (q := (67, [some (.ref 0), some (.int l1), some (.long l2), none, some (.int r2), some (.int r4)], [.int (jn 1960), .int (jn 1920), .ref 6])) (q2 := (70, [some (.ref 0), some (.int l1), some (.long l2), none, some (.int r2), some (.int r4)], [])) (M := M4) (o := (pcl GG lay d 237 [.ref 6, .int (jn 1920), .int (jn 1960)] M4)) (hf := rfl) rfl rfl).trans ?_
        refine kI_in (fun r5 M5 => ?_)
        refine (evn_adv 2 (q' := (73, [some (.ref 0), some (.int l1), some (.long l2), none, some (.int r2), some (.int r4)], [.int r4], M5)) rfl).trans ?_
        exact evn_end 1 rfl
      · refine (evn_adv 1 (q' := (73, [some (.ref 0), some (.int l1), some (.long l2), none, some (.int r2), some (.int r4)], [.int r4], M4)) rfl).trans ?_
        exact evn_end 1 rfl
/-- TermStrategies.unify(II)I -/
noncomputable abbrev E_40 (d : Nat) : PQ → PO := evn (rnn k_40 lay none (pcl GG lay d) 1)
theorem q_40 (d : Nat) (l1 : Int32) (l2 : Int32) (M : PM) : pcl GG lay (d + 1) 40 [.ref 0, .int l1, .int l2] M = (kI (pcl GG lay d 240 [.ref 1, .int l1] M) fun r1 M1 => (if r1 = jn 0 then (kI (pcl GG lay d 56 [.ref 0, .int (jz 1)] M1) fun r2 M2 => (rI r2 M2)) else (kI (pcl GG lay d 240 [.ref 1, .int l2] M1) fun r2 M2 => (if r2 = jn 0 then (kI (pcl GG lay d 56 [.ref 0, .int (jz 1)] M2) fun r3 M3 => (rI r3 M3)) else (kI (pcl GG lay d 59 [.int l1] M2) fun r3 M3 => (kI (pcl GG lay d 59 [.int l2] M3) fun r4 M4 => (kI (pcl GG lay d 41 [.ref 0, .int r3] M4) fun r5 M5 => (if r5 = jn 0 then (kI (pcl GG lay d 41 [.ref 0, .int r4] M5) fun r6 M6 => (if r6 = jn 0 then (kI (pcl GG lay d 259 [.ref 40, .int r3, .int r4, .int (jn 0)] M6) fun r7 M7 => (if r7 = jn 0 then (kI (pcl GG lay d 56 [.ref 0, .int (jz 6)] M7) fun r8 M8 => (rI r8 M8)) else (kV (pcl GG lay d 268 [.ref 40, .int (jn 2000)] M7) fun M8 => (kI (pcl GG lay d 233 [.ref 6, .int r3] M8) fun r9 M9 => (kV (pcl GG lay d 269 [.ref 40, .int r3, .int r9, .int (jn 0)] M9) fun M10 => (if (M10.1 40 12) = jn 0 then (kI (pcl GG lay d 57 [.ref 0, .int (jn 2000)] M10) fun r11 M11 => (rI r11 M11)) else (kI (pcl GG lay d 56 [.ref 0, .int (jz 7)] M10) fun r11 M11 => (rI r11 M11)))))))) else (kI (pcl GG lay d 56 [.ref 0, .int (jz 5)] M6) fun r7 M7 => (rI r7 M7)))) else (kI (pcl GG lay d 56 [.ref 0, .int (jz 5)] M5) fun r6 M6 => (rI r6 M6)))))))))) := by
  refine (pcl_un (mt := t_40) (by decide) rfl (Nat.le_of_ble_eq_true rfl)).trans ?_
  show E_40 d (0, [some (.ref 0), some (.int l1), some (.int l2), none, none], [], M) = _
  refine (evn_adv 3 (q' := (5, [some (.ref 0), some (.int l1), some (.int l2), none, none], [.int l1, .ref 1], M)) rfl).trans ?_
  refine (e_kI (q := (5, [some (.ref 0), some (.int l1), some (.int l2), none, none], [.int l1, .ref 1])) (q2 := (8, [some (.ref 0), some (.int l1), some (.int l2), none, none], [])) (M := M) (o := (pcl GG lay d 240 [.ref 1, .int l1] M)) (hf := rfl) rfl rfl).trans ?_
  refine kI_in (fun r1 M1 => ?_)
  refine (e_if_eq (hf := rfl)).trans ?_
  refine ite_in ?_ ?_
  · refine (evn_adv 2 (q' := (24, [some (.ref 0), some (.int l1), some (.int l2), none, none], [.int (jz 1), .ref 0], M1)) rfl).trans ?_
    refine (e_kI (q := (24, [some (.ref 0), some (.int l1), some (.int l2), none, none], [.int (jz 1), .ref 0])) (q2 := (27, [some (.ref 0), some (.int l1), some (.int l2), none, none], [])) (M := M1) (o := (pcl GG lay d 56 [.ref 0, .int (jz 1)] M1)) (hf := rfl) rfl rfl).trans ?_
    refine kI_in (fun r2 M2 => ?_)
    exact evn_end 1 rfl
  · refine (evn_adv 3 (q' := (16, [some (.ref 0), some (.int l1), some (.int l2), none, none], [.int l2, .ref 1], M1)) rfl).trans ?_
    refine (e_kI (q := (16, [some (.ref 0), some (.int l1), some (.int l2), none, none], [.int l2, .ref 1])) (q2 := (19, [some (.ref 0), some (.int l1), some (.int l2), none, none], [])) (M := M1) (o := (pcl GG lay d 240 [.ref 1, .int l2] M1)) (hf := rfl) rfl rfl).trans ?_
    refine kI_in (fun r2 M2 => ?_)
    refine (e_if_ne (hf := rfl)).trans ?_
    refine ite_in ?_ ?_
    · refine (evn_adv 2 (q' := (24, [some (.ref 0), some (.int l1), some (.int l2), none, none], [.int (jz 1), .ref 0], M2)) rfl).trans ?_
      refine (e_kI (q := (24, [some (.ref 0), some (.int l1), some (.int l2), none, none], [.int (jz 1), .ref 0])) (q2 := (27, [some (.ref 0), some (.int l1), some (.int l2), none, none], [])) (M := M2) (o := (pcl GG lay d 56 [.ref 0, .int (jz 1)] M2)) (hf := rfl) rfl rfl).trans ?_
      refine kI_in (fun r3 M3 => ?_)
      exact evn_end 1 rfl
    · refine (evn_adv 1 (q' := (29, [some (.ref 0), some (.int l1), some (.int l2), none, none], [.int l1], M2)) rfl).trans ?_
      refine (e_kI (q := (29, [some (.ref 0), some (.int l1), some (.int l2), none, none], [.int l1])) (q2 := (32, [some (.ref 0), some (.int l1), some (.int l2), none, none], [])) (M := M2) (o := (pcl GG lay d 59 [.int l1] M2)) (hf := rfl) rfl rfl).trans ?_
      refine kI_in (fun r3 M3 => ?_)
      refine (evn_adv 2 (q' := (34, [some (.ref 0), some (.int l1), some (.int l2), some (.int r3), none], [.int l2], M3)) rfl).trans ?_
      refine (e_kI (q := (34, [some (.ref 0), some (.int l1), some (.int l2), some (.int r3), none], [.int l2])) (q2 := (37, [some (.ref 0), some (.int l1), some (.int l2), some (.int r3), none], [])) (M := M3) (o := (pcl GG lay d 59 [.int l2] M3)) (hf := rfl) rfl rfl).trans ?_
      refine kI_in (fun r4 M4 => ?_)
      refine (evn_adv 3 (q' := (41, [some (.ref 0), some (.int l1), some (.int l2), some (.int r3), some (.int r4)], [.int r3, .ref 0], M4)) rfl).trans ?_
      refine (e_kI (q := (41, [some (.ref 0), some (.int l1), some (.int l2), some (.int r3), some (.int r4)], [.int r3, .ref 0])) (q2 := (44, [some (.ref 0), some (.int l1), some (.int l2), some (.int r3), some (.int r4)], [])) (M := M4) (o := (pcl GG lay d 41 [.ref 0, .int r3] M4)) (hf := rfl) rfl rfl).trans ?_
      refine kI_in (fun r5 M5 => ?_)
      refine (e_if_ne (hf := rfl)).trans ?_
      refine ite_in ?_ ?_
      · refine (evn_adv 2 (q' := (50, [some (.ref 0), some (.int l1), some (.int l2), some (.int r3), some (.int r4)], [.int r4, .ref 0], M5)) rfl).trans ?_
        refine (e_kI (q := (50, [some (.ref 0), some (.int l1), some (.int l2), some (.int r3), some (.int r4)], [.int r4, .ref 0])) (q2 := (53, [some (.ref 0), some (.int l1), some (.int l2), some (.int r3), some (.int r4)], [])) (M := M5) (o := (pcl GG lay d 41 [.ref 0, .int r4] M5)) (hf := rfl) rfl rfl).trans ?_
        refine kI_in (fun r6 M6 => ?_)
        refine (e_if_eq (hf := rfl)).trans ?_
        refine ite_in ?_ ?_
        · refine (evn_adv 5 (q' := (71, [some (.ref 0), some (.int l1), some (.int l2), some (.int r3), some (.int r4)], [.int (jn 0), .int r4, .int r3, .ref 40], M6)) rfl).trans ?_
          refine (e_kI (q := (71, [some (.ref 0), some (.int l1), some (.int l2), some (.int r3), some (.int r4)], [.int (jn 0), .int r4, .int r3, .ref 40])) (q2 := (74, [some (.ref 0), some (.int l1), some (.int l2), some (.int r3), some (.int r4)], [])) (M := M6) (o := (pcl GG lay d 259 [.ref 40, .int r3, .int r4, .int (jn 0)] M6)) (hf := rfl) rfl rfl).trans ?_
          refine kI_in (fun r7 M7 => ?_)
          refine (e_if_ne (hf := rfl)).trans ?_
          refine ite_in ?_ ?_
          · refine (evn_adv 2 (q' := (80, [some (.ref 0), some (.int l1), some (.int l2), some (.int r3), some (.int r4)], [.int (jz 6), .ref 0], M7)) rfl).trans ?_
            refine (e_kI (q := (80, [some (.ref 0), some (.int l1), some (.int l2), some (.int r3), some (.int r4)], [.int (jz 6), .ref 0])) (q2 := (83, [some (.ref 0), some (.int l1), some (.int l2), some (.int r3), some (.int r4)], [])) (M := M7) (o := (pcl GG lay d 56 [.ref 0, .int (jz 6)] M7)) (hf := rfl) rfl rfl).trans ?_
            refine kI_in (fun r8 M8 => ?_)
            exact evn_end 1 rfl
          · refine (evn_adv 3 (q' := (91, [some (.ref 0), some (.int l1), some (.int l2), some (.int r3), some (.int r4)], [.int (jn 2000), .ref 40], M7)) rfl).trans ?_
            refine (e_kV (q := (91, [some (.ref 0), some (.int l1), some (.int l2), some (.int r3), some (.int r4)], [.int (jn 2000), .ref 40])) (q2 := (94, [some (.ref 0), some (.int l1), some (.int l2), some (.int r3), some (.int r4)], [])) (M := M7) (o := (pcl GG lay d 268 [.ref 40, .int (jn 2000)] M7)) (hf := rfl) rfl rfl).trans ?_
            refine kV_in (fun M8 => ?_)
            refine (evn_adv 6 (q' := (104, [some (.ref 0), some (.int l1), some (.int l2), some (.int r3), some (.int r4)], [.int r3, .ref 6, .int r3, .ref 40], M8)) rfl).trans ?_
            refine (e_kI (q := (104, [some (.ref 0), some (.int l1), some (.int l2), some (.int r3), some (.int r4)], [.int r3, .ref 6, .int r3, .ref 40])) (q2 := (107, [some (.ref 0), some (.int l1), some (.int l2), some (.int r3), some (.int r4)], [.int r3, .ref 40])) (M := M8) (o := (pcl GG lay d 233 [.ref 6, .int r3] M8)) (hf := rfl) rfl rfl).trans ?_
            refine kI_in (fun r9 M9 => ?_)
            refine (evn_adv 1 (q' := (108, [some (.ref 0), some (.int l1), some (.int l2), some (.int r3), some (.int r4)], [.int (jn 0), .int r9, .int r3, .ref 40], M9)) rfl).trans ?_
            refine (e_kV (q := (108, [some (.ref 0), some (.int l1), some (.int l2), some (.int r3), some (.int r4)], [.int (jn 0), .int r9, .int r3, .ref 40])) (q2 := (111, [some (.ref 0), some (.int l1), some (.int l2), some (.int r3), some (.int r4)], [])) (M := M9) (o := (pcl GG lay d 269 [.ref 40, .int r3, .int r9, .int (jn 0)] M9)) (hf := rfl) rfl rfl).trans ?_
            refine kV_in (fun M10 => ?_)
            refine (evn_adv 3 (q' := (118, [some (.ref 0), some (.int l1), some (.int l2), some (.int r3), some (.int r4)], [.int (M10.1 40 12)], M10)) rfl).trans ?_
            refine (e_if_eq (hf := rfl)).trans ?_
            refine ite_in ?_ ?_
            · refine (evn_adv 2 (q' := (134, [some (.ref 0), some (.int l1), some (.int l2), some (.int r3), some (.int r4)], [.int (jn 2000), .ref 0], M10)) rfl).trans ?_
              refine (e_kI (q := (134, [some (.ref 0), some (.int l1), some (.int l2), some (.int r3), some (.int r4)], [.int (jn 2000), .ref 0])) (q2 := (137, [some (.ref 0), some (.int l1), some (.int l2), some (.int r3), some (.int r4)], [])) (M := M10) (o := (pcl GG lay d 57 [.ref 0, .int (jn 2000)] M10)) (hf := rfl) rfl rfl).trans ?_
              refine kI_in (fun r11 M11 => ?_)
              exact evn_end 1 rfl
            · refine (evn_adv 2 (q' := (124, [some (.ref 0), some (.int l1), some (.int l2), some (.int r3), some (.int r4)], [.int (jz 7), .ref 0], M10)) rfl).trans ?_
              refine (e_kI (q := (124, [some (.ref 0), some (.int l1), some (.int l2), some (.int r3), some (.int r4)], [.int (jz 7), .ref 0])) (q2 := (127, [some (.ref 0), some (.int l1), some (.int l2), some (.int r3), some (.int r4)], [])) (M := M10) (o := (pcl GG lay d 56 [.ref 0, .int (jz 7)] M10)) (hf := rfl) rfl rfl).trans ?_
              refine kI_in (fun r11 M11 => ?_)
              refine (evn_adv 1 (q' := (137, [some (.ref 0), some (.int l1), some (.int l2), some (.int r3), some (.int r4)], [.int r11], M11)) rfl).trans ?_
              exact evn_end 1 rfl
        · refine (evn_adv 2 (q' := (59, [some (.ref 0), some (.int l1), some (.int l2), some (.int r3), some (.int r4)], [.int (jz 5), .ref 0], M6)) rfl).trans ?_
          refine (e_kI (q := (59, [some (.ref 0), some (.int l1), some (.int l2), some (.int r3), some (.int r4)], [.int (jz 5), .ref 0])) (q2 := (62, [some (.ref 0), some (.int l1), some (.int l2), some (.int r3), some (.int r4)], [])) (M := M6) (o := (pcl GG lay d 56 [.ref 0, .int (jz 5)] M6)) (hf := rfl) rfl rfl).trans ?_
          refine kI_in (fun r7 M7 => ?_)
          exact evn_end 1 rfl
      · refine (evn_adv 2 (q' := (59, [some (.ref 0), some (.int l1), some (.int l2), some (.int r3), some (.int r4)], [.int (jz 5), .ref 0], M5)) rfl).trans ?_
        refine (e_kI (q := (59, [some (.ref 0), some (.int l1), some (.int l2), some (.int r3), some (.int r4)], [.int (jz 5), .ref 0])) (q2 := (62, [some (.ref 0), some (.int l1), some (.int l2), some (.int r3), some (.int r4)], [])) (M := M5) (o := (pcl GG lay d 56 [.ref 0, .int (jz 5)] M5)) (hf := rfl) rfl rfl).trans ?_
        refine kI_in (fun r6 M6 => ?_)
        exact evn_end 1 rfl
/-- TermStrategies.hasTooManyVariables(I)Z -/
noncomputable abbrev E_41 (d : Nat) : PQ → PO := evn (rnn k_41 lay none (pcl GG lay d) 2)
theorem q_41 (d : Nat) (l1 : Int32) (M : PM) : pcl GG lay (d + 1) 41 [.ref 0, .int l1] M = (kI (pcl GG lay d 236 [.ref 6, .int l1] M) fun r1 M1 => (kI (pcl GG lay d 273 [.int r1] M1) fun r2 M2 => (if (jn 3) < r2 then (rZ (jn 1) M2) else (rZ (jn 0) M2)))) := by
  refine (pcl_un (mt := t_41) (by decide) rfl (Nat.le_of_ble_eq_true rfl)).trans ?_
  show E_41 d (0, [some (.ref 0), some (.int l1)], [], M) = _
  refine (evn_adv 3 (q' := (5, [some (.ref 0), some (.int l1)], [.int l1, .ref 6], M)) rfl).trans ?_
  refine (e_kI (q := (5, [some (.ref 0), some (.int l1)], [.int l1, .ref 6])) (q2 := (8, [some (.ref 0), some (.int l1)], [])) (M := M) (o := (pcl GG lay d 236 [.ref 6, .int l1] M)) (hf := rfl) rfl rfl).trans ?_
  refine kI_in (fun r1 M1 => ?_)
  refine (e_kI (q := (8, [some (.ref 0), some (.int l1)], [.int r1])) (q2 := (11, [some (.ref 0), some (.int l1)], [])) (M := M1) (o := (pcl GG lay d 273 [.int r1] M1)) (hf := rfl) rfl rfl).trans ?_
  refine kI_in (fun r2 M2 => ?_)
  refine (evn_adv 1 (q' := (12, [some (.ref 0), some (.int l1)], [.int (jn 3), .int r2], M2)) rfl).trans ?_
  refine (e_ic_le (hf := rfl)).trans ?_
  refine ite_in ?_ ?_
  · refine (evn_adv 2 (q' := (20, [some (.ref 0), some (.int l1)], [.int (jn 1)], M2)) rfl).trans ?_
    exact e_iretz (hf := rfl)
  · refine (evn_adv 1 (q' := (20, [some (.ref 0), some (.int l1)], [.int (jn 0)], M2)) rfl).trans ?_
    exact e_iretz (hf := rfl)
/-- TermStrategies.overlaps(II)I -/
noncomputable abbrev E_42 (d : Nat) : PQ → PO := evn (rnn k_42 lay none (pcl GG lay d) 1)
theorem q_42 (d : Nat) (l1 : Int32) (l2 : Int32) (M : PM) : pcl GG lay (d + 1) 42 [.ref 0, .int l1, .int l2] M = (kI (pcl GG lay d 241 [.ref 1, .int l1] M) fun r1 M1 => (if r1 = jn 0 then (kI (pcl GG lay d 56 [.ref 0, .int (jz 1)] M1) fun r2 M2 => (rI r2 M2)) else (kI (pcl GG lay d 241 [.ref 1, .int l2] M1) fun r2 M2 => (if r2 = jn 0 then (kI (pcl GG lay d 56 [.ref 0, .int (jz 1)] M2) fun r3 M3 => (rI r3 M3)) else (kI (pcl GG lay d 45 [.ref 0, .int l1, .int l2, .int (jz 1)] M2) fun r3 M3 => (rI r3 M3)))))) := by
  refine (pcl_un (mt := t_42) (by decide) rfl (Nat.le_of_ble_eq_true rfl)).trans ?_
  show E_42 d (0, [some (.ref 0), some (.int l1), some (.int l2)], [], M) = _
  refine (evn_adv 3 (q' := (5, [some (.ref 0), some (.int l1), some (.int l2)], [.int l1, .ref 1], M)) rfl).trans ?_
  refine (e_kI (q := (5, [some (.ref 0), some (.int l1), some (.int l2)], [.int l1, .ref 1])) (q2 := (8, [some (.ref 0), some (.int l1), some (.int l2)], [])) (M := M) (o := (pcl GG lay d 241 [.ref 1, .int l1] M)) (hf := rfl) rfl rfl).trans ?_
  refine kI_in (fun r1 M1 => ?_)
  refine (e_if_eq (hf := rfl)).trans ?_
  refine ite_in ?_ ?_
  · refine (evn_adv 2 (q' := (24, [some (.ref 0), some (.int l1), some (.int l2)], [.int (jz 1), .ref 0], M1)) rfl).trans ?_
    refine (e_kI (q := (24, [some (.ref 0), some (.int l1), some (.int l2)], [.int (jz 1), .ref 0])) (q2 := (27, [some (.ref 0), some (.int l1), some (.int l2)], [])) (M := M1) (o := (pcl GG lay d 56 [.ref 0, .int (jz 1)] M1)) (hf := rfl) rfl rfl).trans ?_
    refine kI_in (fun r2 M2 => ?_)
    exact evn_end 1 rfl
  · refine (evn_adv 3 (q' := (16, [some (.ref 0), some (.int l1), some (.int l2)], [.int l2, .ref 1], M1)) rfl).trans ?_
    refine (e_kI (q := (16, [some (.ref 0), some (.int l1), some (.int l2)], [.int l2, .ref 1])) (q2 := (19, [some (.ref 0), some (.int l1), some (.int l2)], [])) (M := M1) (o := (pcl GG lay d 241 [.ref 1, .int l2] M1)) (hf := rfl) rfl rfl).trans ?_
    refine kI_in (fun r2 M2 => ?_)
    refine (e_if_ne (hf := rfl)).trans ?_
    refine ite_in ?_ ?_
    · refine (evn_adv 2 (q' := (24, [some (.ref 0), some (.int l1), some (.int l2)], [.int (jz 1), .ref 0], M2)) rfl).trans ?_
      refine (e_kI (q := (24, [some (.ref 0), some (.int l1), some (.int l2)], [.int (jz 1), .ref 0])) (q2 := (27, [some (.ref 0), some (.int l1), some (.int l2)], [])) (M := M2) (o := (pcl GG lay d 56 [.ref 0, .int (jz 1)] M2)) (hf := rfl) rfl rfl).trans ?_
      refine kI_in (fun r3 M3 => ?_)
      exact evn_end 1 rfl
    · refine (evn_adv 4 (q' := (32, [some (.ref 0), some (.int l1), some (.int l2)], [.int (jz 1), .int l2, .int l1, .ref 0], M2)) rfl).trans ?_
      refine (e_kI (q := (32, [some (.ref 0), some (.int l1), some (.int l2)], [.int (jz 1), .int l2, .int l1, .ref 0])) (q2 := (35, [some (.ref 0), some (.int l1), some (.int l2)], [])) (M := M2) (o := (pcl GG lay d 45 [.ref 0, .int l1, .int l2, .int (jz 1)] M2)) (hf := rfl) rfl rfl).trans ?_
      refine kI_in (fun r3 M3 => ?_)
      exact evn_end 1 rfl
/-- TermStrategies.overlap(IIII)I -/
noncomputable abbrev E_43 (d : Nat) : PQ → PO := evn (rnn k_43 lay none (pcl GG lay d) 1)
theorem q_43 (d : Nat) (l1 : Int32) (l2 : Int32) (l3 : Int32) (l4 : Int32) (M : PM) : pcl GG lay (d + 1) 43 [.ref 0, .int l1, .int l2, .int l3, .int l4] M = (kI (pcl GG lay d 241 [.ref 1, .int l1] M) fun r1 M1 => (if r1 = jn 0 then (kI (pcl GG lay d 56 [.ref 0, .int (jz 1)] M1) fun r2 M2 => (rI r2 M2)) else (kI (pcl GG lay d 241 [.ref 1, .int l2] M1) fun r2 M2 => (if r2 = jn 0 then (kI (pcl GG lay d 56 [.ref 0, .int (jz 1)] M2) fun r3 M3 => (rI r3 M3)) else (if l3 < jn 0 then (kI (pcl GG lay d 56 [.ref 0, .int (jz 5)] M2) fun r3 M3 => (rI r3 M3)) else (if l4 < jn 0 then (kI (pcl GG lay d 56 [.ref 0, .int (jz 5)] M2) fun r3 M3 => (rI r3 M3)) else (if (jn 2) < l4 then (kI (pcl GG lay d 56 [.ref 0, .int (jz 5)] M2) fun r3 M3 => (rI r3 M3)) else (kI (pcl GG lay d 45 [.ref 0, .int l1, .int l2, .int l3] M2) fun r3 M3 => (if l3 < r3 then (if l4 = jn 0 then (kI (pcl GG lay d 57 [.ref 0, .int (jn 2000)] M3) fun r4 M4 => (rI r4 M4)) else (if l4 = (jn 1) then (kI (pcl GG lay d 57 [.ref 0, .int (jn 2040)] M3) fun r4 M4 => (rI r4 M4)) else (kI (pcl GG lay d 57 [.ref 0, .int (jn 2080)] M3) fun r4 M4 => (rI r4 M4)))) else (kI (pcl GG lay d 56 [.ref 0, .int (jz 5)] M3) fun r4 M4 => (rI r4 M4))))))))))) := by
  refine (pcl_un (mt := t_43) (by decide) rfl (Nat.le_of_ble_eq_true rfl)).trans ?_
  show E_43 d (0, [some (.ref 0), some (.int l1), some (.int l2), some (.int l3), some (.int l4)], [], M) = _
  refine (evn_adv 3 (q' := (5, [some (.ref 0), some (.int l1), some (.int l2), some (.int l3), some (.int l4)], [.int l1, .ref 1], M)) rfl).trans ?_
  refine (e_kI (q := (5, [some (.ref 0), some (.int l1), some (.int l2), some (.int l3), some (.int l4)], [.int l1, .ref 1])) (q2 := (8, [some (.ref 0), some (.int l1), some (.int l2), some (.int l3), some (.int l4)], [])) (M := M) (o := (pcl GG lay d 241 [.ref 1, .int l1] M)) (hf := rfl) rfl rfl).trans ?_
  refine kI_in (fun r1 M1 => ?_)
  refine (e_if_eq (hf := rfl)).trans ?_
  refine ite_in ?_ ?_
  · refine (evn_adv 2 (q' := (24, [some (.ref 0), some (.int l1), some (.int l2), some (.int l3), some (.int l4)], [.int (jz 1), .ref 0], M1)) rfl).trans ?_
    refine (e_kI (q := (24, [some (.ref 0), some (.int l1), some (.int l2), some (.int l3), some (.int l4)], [.int (jz 1), .ref 0])) (q2 := (27, [some (.ref 0), some (.int l1), some (.int l2), some (.int l3), some (.int l4)], [])) (M := M1) (o := (pcl GG lay d 56 [.ref 0, .int (jz 1)] M1)) (hf := rfl) rfl rfl).trans ?_
    refine kI_in (fun r2 M2 => ?_)
    exact evn_end 1 rfl
  · refine (evn_adv 3 (q' := (16, [some (.ref 0), some (.int l1), some (.int l2), some (.int l3), some (.int l4)], [.int l2, .ref 1], M1)) rfl).trans ?_
    refine (e_kI (q := (16, [some (.ref 0), some (.int l1), some (.int l2), some (.int l3), some (.int l4)], [.int l2, .ref 1])) (q2 := (19, [some (.ref 0), some (.int l1), some (.int l2), some (.int l3), some (.int l4)], [])) (M := M1) (o := (pcl GG lay d 241 [.ref 1, .int l2] M1)) (hf := rfl) rfl rfl).trans ?_
    refine kI_in (fun r2 M2 => ?_)
    refine (e_if_ne (hf := rfl)).trans ?_
    refine ite_in ?_ ?_
    · refine (evn_adv 2 (q' := (24, [some (.ref 0), some (.int l1), some (.int l2), some (.int l3), some (.int l4)], [.int (jz 1), .ref 0], M2)) rfl).trans ?_
      refine (e_kI (q := (24, [some (.ref 0), some (.int l1), some (.int l2), some (.int l3), some (.int l4)], [.int (jz 1), .ref 0])) (q2 := (27, [some (.ref 0), some (.int l1), some (.int l2), some (.int l3), some (.int l4)], [])) (M := M2) (o := (pcl GG lay d 56 [.ref 0, .int (jz 1)] M2)) (hf := rfl) rfl rfl).trans ?_
      refine kI_in (fun r3 M3 => ?_)
      exact evn_end 1 rfl
    · refine (evn_adv 1 (q' := (29, [some (.ref 0), some (.int l1), some (.int l2), some (.int l3), some (.int l4)], [.int l3], M2)) rfl).trans ?_
      refine (e_if_lt (hf := rfl)).trans ?_
      refine ite_in ?_ ?_
      · refine (evn_adv 2 (q' := (57, [some (.ref 0), some (.int l1), some (.int l2), some (.int l3), some (.int l4)], [.int (jz 5), .ref 0], M2)) rfl).trans ?_
        refine (e_kI (q := (57, [some (.ref 0), some (.int l1), some (.int l2), some (.int l3), some (.int l4)], [.int (jz 5), .ref 0])) (q2 := (60, [some (.ref 0), some (.int l1), some (.int l2), some (.int l3), some (.int l4)], [])) (M := M2) (o := (pcl GG lay d 56 [.ref 0, .int (jz 5)] M2)) (hf := rfl) rfl rfl).trans ?_
        refine kI_in (fun r3 M3 => ?_)
        exact evn_end 1 rfl
      · refine (evn_adv 1 (q' := (34, [some (.ref 0), some (.int l1), some (.int l2), some (.int l3), some (.int l4)], [.int l4], M2)) rfl).trans ?_
        refine (e_if_lt (hf := rfl)).trans ?_
        refine ite_in ?_ ?_
        · refine (evn_adv 2 (q' := (57, [some (.ref 0), some (.int l1), some (.int l2), some (.int l3), some (.int l4)], [.int (jz 5), .ref 0], M2)) rfl).trans ?_
          refine (e_kI (q := (57, [some (.ref 0), some (.int l1), some (.int l2), some (.int l3), some (.int l4)], [.int (jz 5), .ref 0])) (q2 := (60, [some (.ref 0), some (.int l1), some (.int l2), some (.int l3), some (.int l4)], [])) (M := M2) (o := (pcl GG lay d 56 [.ref 0, .int (jz 5)] M2)) (hf := rfl) rfl rfl).trans ?_
          refine kI_in (fun r3 M3 => ?_)
          exact evn_end 1 rfl
        · refine (evn_adv 2 (q' := (40, [some (.ref 0), some (.int l1), some (.int l2), some (.int l3), some (.int l4)], [.int (jn 2), .int l4], M2)) rfl).trans ?_
          refine (e_ic_gt (hf := rfl)).trans ?_
          refine ite_in ?_ ?_
          · refine (evn_adv 2 (q' := (57, [some (.ref 0), some (.int l1), some (.int l2), some (.int l3), some (.int l4)], [.int (jz 5), .ref 0], M2)) rfl).trans ?_
            refine (e_kI (q := (57, [some (.ref 0), some (.int l1), some (.int l2), some (.int l3), some (.int l4)], [.int (jz 5), .ref 0])) (q2 := (60, [some (.ref 0), some (.int l1), some (.int l2), some (.int l3), some (.int l4)], [])) (M := M2) (o := (pcl GG lay d 56 [.ref 0, .int (jz 5)] M2)) (hf := rfl) rfl rfl).trans ?_
            refine kI_in (fun r3 M3 => ?_)
            exact evn_end 1 rfl
          · refine (evn_adv 4 (q' := (47, [some (.ref 0), some (.int l1), some (.int l2), some (.int l3), some (.int l4)], [.int l3, .int l2, .int l1, .ref 0], M2)) rfl).trans ?_
            refine (e_kI (q := (47, [some (.ref 0), some (.int l1), some (.int l2), some (.int l3), some (.int l4)], [.int l3, .int l2, .int l1, .ref 0])) (q2 := (50, [some (.ref 0), some (.int l1), some (.int l2), some (.int l3), some (.int l4)], [])) (M := M2) (o := (pcl GG lay d 45 [.ref 0, .int l1, .int l2, .int l3] M2)) (hf := rfl) rfl rfl).trans ?_
            refine kI_in (fun r3 M3 => ?_)
            refine (evn_adv 1 (q' := (51, [some (.ref 0), some (.int l1), some (.int l2), some (.int l3), some (.int l4)], [.int l3, .int r3], M3)) rfl).trans ?_
            refine (e_ic_gt (hf := rfl)).trans ?_
            refine ite_in ?_ ?_
            · refine (evn_adv 2 (q' := (64, [some (.ref 0), some (.int l1), some (.int l2), some (.int l3), some (.int l4)], [.int l4, .ref 0], M3)) rfl).trans ?_
              refine (e_if_ne (hf := rfl)).trans ?_
              refine ite_in ?_ ?_
              · refine (evn_adv 2 (q' := (88, [some (.ref 0), some (.int l1), some (.int l2), some (.int l3), some (.int l4)], [.int (jn 2000), .ref 0], M3)) rfl).trans ?_
                refine (e_kI (q := (88, [some (.ref 0), some (.int l1), some (.int l2), some (.int l3), some (.int l4)], [.int (jn 2000), .ref 0])) (q2 := (91, [some (.ref 0), some (.int l1), some (.int l2), some (.int l3), some (.int l4)], [])) (M := M3) (o := (pcl GG lay d 57 [.ref 0, .int (jn 2000)] M3)) (hf := rfl) rfl rfl).trans ?_
                refine kI_in (fun r4 M4 => ?_)
                exact evn_end 1 rfl
              · refine (evn_adv 2 (q' := (76, [some (.ref 0), some (.int l1), some (.int l2), some (.int l3), some (.int l4)], [.int (jn 1), .int l4, .ref 0], M3)) rfl).trans ?_
                refine (e_ic_ne (hf := rfl)).trans ?_
                refine ite_in ?_ ?_
                · refine (evn_adv 2 (q' := (88, [some (.ref 0), some (.int l1), some (.int l2), some (.int l3), some (.int l4)], [.int (jn 2040), .ref 0], M3)) rfl).trans ?_
                  refine (e_kI (q := (88, [some (.ref 0), some (.int l1), some (.int l2), some (.int l3), some (.int l4)], [.int (jn 2040), .ref 0])) (q2 := (91, [some (.ref 0), some (.int l1), some (.int l2), some (.int l3), some (.int l4)], [])) (M := M3) (o := (pcl GG lay d 57 [.ref 0, .int (jn 2040)] M3)) (hf := rfl) rfl rfl).trans ?_
                  refine kI_in (fun r4 M4 => ?_)
                  exact evn_end 1 rfl
                · refine (evn_adv 1 (q' := (88, [some (.ref 0), some (.int l1), some (.int l2), some (.int l3), some (.int l4)], [.int (jn 2080), .ref 0], M3)) rfl).trans ?_
                  refine (e_kI (q := (88, [some (.ref 0), some (.int l1), some (.int l2), some (.int l3), some (.int l4)], [.int (jn 2080), .ref 0])) (q2 := (91, [some (.ref 0), some (.int l1), some (.int l2), some (.int l3), some (.int l4)], [])) (M := M3) (o := (pcl GG lay d 57 [.ref 0, .int (jn 2080)] M3)) (hf := rfl) rfl rfl).trans ?_
                  refine kI_in (fun r4 M4 => ?_)
                  exact evn_end 1 rfl
            · refine (evn_adv 2 (q' := (57, [some (.ref 0), some (.int l1), some (.int l2), some (.int l3), some (.int l4)], [.int (jz 5), .ref 0], M3)) rfl).trans ?_
              refine (e_kI (q := (57, [some (.ref 0), some (.int l1), some (.int l2), some (.int l3), some (.int l4)], [.int (jz 5), .ref 0])) (q2 := (60, [some (.ref 0), some (.int l1), some (.int l2), some (.int l3), some (.int l4)], [])) (M := M3) (o := (pcl GG lay d 56 [.ref 0, .int (jz 5)] M3)) (hf := rfl) rfl rfl).trans ?_
              refine kI_in (fun r4 M4 => ?_)
              exact evn_end 1 rfl
/-- TermStrategies.meets(III)I -/
noncomputable abbrev E_44 (d : Nat) : PQ → PO := evn (rnn k_44 lay none (pcl GG lay d) 1)
theorem q_44 (d : Nat) (l1 : Int32) (l2 : Int32) (l3 : Int32) (M : PM) : pcl GG lay (d + 1) 44 [.ref 0, .int l1, .int l2, .int l3] M = (kI (pcl GG lay d 241 [.ref 1, .int l1] M) fun r1 M1 => (if r1 = jn 0 then (kI (pcl GG lay d 56 [.ref 0, .int (jz 1)] M1) fun r2 M2 => (rI r2 M2)) else (kI (pcl GG lay d 241 [.ref 1, .int l2] M1) fun r2 M2 => (if r2 = jn 0 then (kI (pcl GG lay d 56 [.ref 0, .int (jz 1)] M2) fun r3 M3 => (rI r3 M3)) else (if l3 < jn 0 then (kI (pcl GG lay d 56 [.ref 0, .int (jz 5)] M2) fun r3 M3 => (rI r3 M3)) else (kI (pcl GG lay d 45 [.ref 0, .int l1, .int l2, .int l3] M2) fun r3 M3 => (if l3 < r3 then (kI (pcl GG lay d 247 [.ref 1] M3) fun r4 M4 => (kV (pcl GG lay d 199 [.ref 29] M4) fun M5 => (kI (pcl GG lay d 200 [.ref 29, .int r4, .int (jn 2040)] M5) fun r6 M6 => (if r6 = (jz 2) then (rI (jn 2) M6) else (kI (pcl GG lay d 237 [.ref 6, .int r6, .int (jn 1960)] M6) fun r7 M7 => (kV (pcl GG lay d 199 [.ref 29] M7) fun M8 => (kI (pcl GG lay d 200 [.ref 29, .int r4, .int (jn 2080)] M8) fun r9 M9 => (if r9 = (jz 2) then (rI (jn 2) M9) else (kI (pcl GG lay d 235 [.ref 6, .int (jn 1960), .int r9] M9) fun r10 M10 => (if r10 = jn 0 then (rI (jn 0) M10) else (rI (jn 1) M10))))))))))) else (kI (pcl GG lay d 56 [.ref 0, .int (jz 5)] M3) fun r4 M4 => (rI r4 M4))))))))) := by
  refine (pcl_un (mt := t_44) (by decide) rfl (Nat.le_of_ble_eq_true rfl)).trans ?_
  show E_44 d (0, [some (.ref 0), some (.int l1), some (.int l2), some (.int l3), none, none], [], M) = _
  refine (evn_adv 3 (q' := (5, [some (.ref 0), some (.int l1), some (.int l2), some (.int l3), none, none], [.int l1, .ref 1], M)) rfl).trans ?_
  refine (e_kI (q := (5, [some (.ref 0), some (.int l1), some (.int l2), some (.int l3), none, none], [.int l1, .ref 1])) (q2 := (8, [some (.ref 0), some (.int l1), some (.int l2), some (.int l3), none, none], [])) (M := M) (o := (pcl GG lay d 241 [.ref 1, .int l1] M)) (hf := rfl) rfl rfl).trans ?_
  refine kI_in (fun r1 M1 => ?_)
  refine (e_if_eq (hf := rfl)).trans ?_
  refine ite_in ?_ ?_
  · refine (evn_adv 2 (q' := (24, [some (.ref 0), some (.int l1), some (.int l2), some (.int l3), none, none], [.int (jz 1), .ref 0], M1)) rfl).trans ?_
    refine (e_kI (q := (24, [some (.ref 0), some (.int l1), some (.int l2), some (.int l3), none, none], [.int (jz 1), .ref 0])) (q2 := (27, [some (.ref 0), some (.int l1), some (.int l2), some (.int l3), none, none], [])) (M := M1) (o := (pcl GG lay d 56 [.ref 0, .int (jz 1)] M1)) (hf := rfl) rfl rfl).trans ?_
    refine kI_in (fun r2 M2 => ?_)
    exact evn_end 1 rfl
  · refine (evn_adv 3 (q' := (16, [some (.ref 0), some (.int l1), some (.int l2), some (.int l3), none, none], [.int l2, .ref 1], M1)) rfl).trans ?_
    refine (e_kI (q := (16, [some (.ref 0), some (.int l1), some (.int l2), some (.int l3), none, none], [.int l2, .ref 1])) (q2 := (19, [some (.ref 0), some (.int l1), some (.int l2), some (.int l3), none, none], [])) (M := M1) (o := (pcl GG lay d 241 [.ref 1, .int l2] M1)) (hf := rfl) rfl rfl).trans ?_
    refine kI_in (fun r2 M2 => ?_)
    refine (e_if_ne (hf := rfl)).trans ?_
    refine ite_in ?_ ?_
    · refine (evn_adv 2 (q' := (24, [some (.ref 0), some (.int l1), some (.int l2), some (.int l3), none, none], [.int (jz 1), .ref 0], M2)) rfl).trans ?_
      refine (e_kI (q := (24, [some (.ref 0), some (.int l1), some (.int l2), some (.int l3), none, none], [.int (jz 1), .ref 0])) (q2 := (27, [some (.ref 0), some (.int l1), some (.int l2), some (.int l3), none, none], [])) (M := M2) (o := (pcl GG lay d 56 [.ref 0, .int (jz 1)] M2)) (hf := rfl) rfl rfl).trans ?_
      refine kI_in (fun r3 M3 => ?_)
      exact evn_end 1 rfl
    · refine (evn_adv 1 (q' := (29, [some (.ref 0), some (.int l1), some (.int l2), some (.int l3), none, none], [.int l3], M2)) rfl).trans ?_
      refine (e_if_lt (hf := rfl)).trans ?_
      refine ite_in ?_ ?_
      · refine (evn_adv 2 (q' := (46, [some (.ref 0), some (.int l1), some (.int l2), some (.int l3), none, none], [.int (jz 5), .ref 0], M2)) rfl).trans ?_
        refine (e_kI (q := (46, [some (.ref 0), some (.int l1), some (.int l2), some (.int l3), none, none], [.int (jz 5), .ref 0])) (q2 := (49, [some (.ref 0), some (.int l1), some (.int l2), some (.int l3), none, none], [])) (M := M2) (o := (pcl GG lay d 56 [.ref 0, .int (jz 5)] M2)) (hf := rfl) rfl rfl).trans ?_
        refine kI_in (fun r3 M3 => ?_)
        exact evn_end 1 rfl
      · refine (evn_adv 4 (q' := (36, [some (.ref 0), some (.int l1), some (.int l2), some (.int l3), none, none], [.int l3, .int l2, .int l1, .ref 0], M2)) rfl).trans ?_
        refine (e_kI (q := (36, [some (.ref 0), some (.int l1), some (.int l2), some (.int l3), none, none], [.int l3, .int l2, .int l1, .ref 0])) (q2 := (39, [some (.ref 0), some (.int l1), some (.int l2), some (.int l3), none, none], [])) (M := M2) (o := (pcl GG lay d 45 [.ref 0, .int l1, .int l2, .int l3] M2)) (hf := rfl) rfl rfl).trans ?_
        refine kI_in (fun r3 M3 => ?_)
        refine (evn_adv 1 (q' := (40, [some (.ref 0), some (.int l1), some (.int l2), some (.int l3), none, none], [.int l3, .int r3], M3)) rfl).trans ?_
        refine (e_ic_gt (hf := rfl)).trans ?_
        refine ite_in ?_ ?_
        · refine (evn_adv 2 (q' := (54, [some (.ref 0), some (.int l1), some (.int l2), some (.int l3), none, none], [.ref 1], M3)) rfl).trans ?_
          refine (e_kI (q := (54, [some (.ref 0), some (.int l1), some (.int l2), some (.int l3), none, none], [.ref 1])) (q2 := (57, [some (.ref 0), some (.int l1), some (.int l2), some (.int l3), none, none], [])) (M := M3) (o := (pcl GG lay d 247 [.ref 1] M3)) (hf := rfl) rfl rfl).trans ?_
          refine kI_in (fun r4 M4 => ?_)
          refine (evn_adv 3 (q' := (63, [some (.ref 0), some (.int l1), some (.int l2), some (.int l3), some (.int r4), none], [.ref 29], M4)) rfl).trans ?_
          refine (e_kV (q := (63, [some (.ref 0), some (.int l1), some (.int l2), some (.int l3), some (.int r4), none], [.ref 29])) (q2 := (66, [some (.ref 0), some (.int l1), some (.int l2), some (.int l3), some (.int r4), none], [])) (M := M4) (o := (pcl GG lay d 199 [.ref 29] M4)) (hf := rfl) rfl rfl).trans ?_
          refine kV_in (fun M5 => ?_)
          refine (evn_adv 4 (q' := (75, [some (.ref 0), some (.int l1), some (.int l2), some (.int l3), some (.int r4), none], [.int (jn 2040), .int r4, .ref 29], M5)) rfl).trans ?_
          refine (e_kI (q := (75, [some (.ref 0), some (.int l1), some (.int l2), some (.int l3), some (.int r4), none], [.int (jn 2040), .int r4, .ref 29])) (q2 := (78, [some (.ref 0), some (.int l1), some (.int l2), some (.int l3), some (.int r4), none], [])) (M := M5) (o := (pcl GG lay d 200 [.ref 29, .int r4, .int (jn 2040)] M5)) (hf := rfl) rfl rfl).trans ?_
          refine kI_in (fun r6 M6 => ?_)
          refine (evn_adv 3 (q' := (84, [some (.ref 0), some (.int l1), some (.int l2), some (.int l3), some (.int r4), some (.int r6)], [.int (jz 2), .int r6], M6)) rfl).trans ?_
          refine (e_ic_ne (hf := rfl)).trans ?_
          refine ite_in ?_ ?_
          · refine (evn_adv 1 (q' := (88, [some (.ref 0), some (.int l1), some (.int l2), some (.int l3), some (.int r4), some (.int r6)], [.int (jn 2)], M6)) rfl).trans ?_
            exact evn_end 1 rfl
          · refine (evn_adv 4 (q' := (98, [some (.ref 0), some (.int l1), some (.int l2), some (.int l3), some (.int r4), some (.int r6)], [.int (jn 1960), .int r6, .ref 6], M6)) rfl).trans ?_
            refine (e_kI (q := (98, [some (.ref 0), some (.int l1), some (.int l2), some (.int l3), some (.int r4), some (.int r6)], [.int (jn 1960), .int r6, .ref 6])) (q2 := (101, [some (.ref 0), some (.int l1), some (.int l2), some (.int l3), some (.int r4), some (.int r6)], [])) (M := M6) (o := (pcl GG lay d 237 [.ref 6, .int r6, .int (jn 1960)] M6)) (hf := rfl) rfl rfl).trans ?_
            refine kI_in (fun r7 M7 => ?_)
            refine (evn_adv 3 (q' := (106, [some (.ref 0), some (.int l1), some (.int l2), some (.int l3), some (.int r4), some (.int r6)], [.ref 29], M7)) rfl).trans ?_
            refine (e_kV (q := (106, [some (.ref 0), some (.int l1), some (.int l2), some (.int l3), some (.int r4), some (.int r6)], [.ref 29])) (q2 := (109, [some (.ref 0), some (.int l1), some (.int l2), some (.int l3), some (.int r4), some (.int r6)], [])) (M := M7) (o := (pcl GG lay d 199 [.ref 29] M7)) (hf := rfl) rfl rfl).trans ?_
            refine kV_in (fun M8 => ?_)
            refine (evn_adv 4 (q' := (118, [some (.ref 0), some (.int l1), some (.int l2), some (.int l3), some (.int r4), some (.int r6)], [.int (jn 2080), .int r4, .ref 29], M8)) rfl).trans ?_
            refine (e_kI (q := (118, [some (.ref 0), some (.int l1), some (.int l2), some (.int l3), some (.int r4), some (.int r6)], [.int (jn 2080), .int r4, .ref 29])) (q2 := (121, [some (.ref 0), some (.int l1), some (.int l2), some (.int l3), some (.int r4), some (.int r6)], [])) (M := M8) (o := (pcl GG lay d 200 [.ref 29, .int r4, .int (jn 2080)] M8)) (hf := rfl) rfl rfl).trans ?_
            refine kI_in (fun r9 M9 => ?_)
            refine (evn_adv 3 (q' := (127, [some (.ref 0), some (.int l1), some (.int l2), some (.int l3), some (.int r4), some (.int r9)], [.int (jz 2), .int r9], M9)) rfl).trans ?_
            refine (e_ic_ne (hf := rfl)).trans ?_
            refine ite_in ?_ ?_
            · refine (evn_adv 1 (q' := (131, [some (.ref 0), some (.int l1), some (.int l2), some (.int l3), some (.int r4), some (.int r9)], [.int (jn 2)], M9)) rfl).trans ?_
              exact evn_end 1 rfl
            · refine (evn_adv 4 (q' := (141, [some (.ref 0), some (.int l1), some (.int l2), some (.int l3), some (.int r4), some (.int r9)], [.int r9, .int (jn 1960), .ref 6], M9)) rfl).trans ?_
              refine (e_kI (q := (141, [some (.ref 0), some (.int l1), some (.int l2), some (.int l3), some (.int r4), some (.int r9)], [.int r9, .int (jn 1960), .ref 6])) (q2 := (144, [some (.ref 0), some (.int l1), some (.int l2), some (.int l3), some (.int r4), some (.int r9)], [])) (M := M9) (o := (pcl GG lay d 235 [.ref 6, .int (jn 1960), .int r9] M9)) (hf := rfl) rfl rfl).trans ?_
              refine kI_in (fun r10 M10 => ?_)
              refine (e_if_eq (hf := rfl)).trans ?_
              refine ite_in ?_ ?_
              · refine (evn_adv 1 (q' := (152, [some (.ref 0), some (.int l1), some (.int l2), some (.int l3), some (.int r4), some (.int r9)], [.int (jn 0)], M10)) rfl).trans ?_
                exact evn_end 1 rfl
              · refine (evn_adv 2 (q' := (152, [some (.ref 0), some (.int l1), some (.int l2), some (.int l3), some (.int r4), some (.int r9)], [.int (jn 1)], M10)) rfl).trans ?_
                exact evn_end 1 rfl
        · refine (evn_adv 2 (q' := (46, [some (.ref 0), some (.int l1), some (.int l2), some (.int l3), none, none], [.int (jz 5), .ref 0], M3)) rfl).trans ?_
          refine (e_kI (q := (46, [some (.ref 0), some (.int l1), some (.int l2), some (.int l3), none, none], [.int (jz 5), .ref 0])) (q2 := (49, [some (.ref 0), some (.int l1), some (.int l2), some (.int l3), none, none], [])) (M := M3) (o := (pcl GG lay d 56 [.ref 0, .int (jz 5)] M3)) (hf := rfl) rfl rfl).trans ?_
          refine kI_in (fun r4 M4 => ?_)
          exact evn_end 1 rfl
/-- TermStrategies.seekOverlap(III)I -/
noncomputable abbrev E_45 (d : Nat) : PQ → PO := evn (rnn k_45 lay none (pcl GG lay d) 1)
theorem q_45 (d : Nat) (l1 : Int32) (l2 : Int32) (l3 : Int32) (M : PM) : pcl GG lay (d + 1) 45 [.ref 0, .int l1, .int l2, .int l3] M = (kI (pcl GG lay d 60 [.int l1] M) fun r1 M1 => (kI (pcl GG lay d 41 [.ref 0, .int r1] M1) fun r2 M2 => (if r2 = jn 0 then (kI (pcl GG lay d 60 [.int l2] M2) fun r3 M3 => (kI (pcl GG lay d 41 [.ref 0, .int r3] M3) fun r4 M4 => (if r4 = jn 0 then (kI (pcl GG lay d 60 [.int l1] M4) fun r5 M5 => (kI (pcl GG lay d 234 [.ref 6, .int r5] M5) fun r6 M6 => (if l1 = l2 then E_45 d (52, [some (.ref 0), some (.int l1), some (.int l2), some (.int l3), some (.int r6), some (.int (jn 0)), some (.int (jn 1))], [], M6) else E_45 d (52, [some (.ref 0), some (.int l1), some (.int l2), some (.int l3), some (.int r6), some (.int (jn 0)), some (.int (jn 0))], [], M6)))) else (rI (jn 0) M4)))) else (rI (jn 0) M2)))) := by
  refine (pcl_un (mt := t_45) (by decide) rfl (Nat.le_of_ble_eq_true rfl)).trans ?_
  show E_45 d (0, [some (.ref 0), some (.int l1), some (.int l2), some (.int l3), none, none, none], [], M) = _
  refine (evn_adv 2 (q' := (2, [some (.ref 0), some (.int l1), some (.int l2), some (.int l3), none, none, none], [.int l1, .ref 0], M)) rfl).trans ?_
  refine (e_kI (q := (2, [some (.ref 0), some (.int l1), some (.int l2), some (.int l3), none, none, none], [.int l1, .ref 0])) (q2 := (5, [some (.ref 0), some (.int l1), some (.int l2), some (.int l3), none, none, none], [.ref 0])) (M := M) (o := (pcl GG lay d 60 [.int l1] M)) (hf := rfl) rfl rfl).trans ?_
  refine kI_in (fun r1 M1 => ?_)
  refine (e_kI (q := (5, [some (.ref 0), some (.int l1), some (.int l2), some (.int l3), none, none, none], [.int r1, .ref 0])) (q2 := (8, [some (.ref 0), some (.int l1), some (.int l2), some (.int l3), none, none, none], [])) (M := M1) (o := (pcl GG lay d 41 [.ref 0, .int r1] M1)) (hf := rfl) rfl rfl).trans ?_
  refine kI_in (fun r2 M2 => ?_)
  refine (e_if_ne (hf := rfl)).trans ?_
  refine ite_in ?_ ?_
  · refine (evn_adv 2 (q' := (13, [some (.ref 0), some (.int l1), some (.int l2), some (.int l3), none, none, none], [.int l2, .ref 0], M2)) rfl).trans ?_
    refine (e_kI (q := (13, [some (.ref 0), some (.int l1), some (.int l2), some (.int l3), none, none, none], [.int l2, .ref 0])) (q2 := (16, [some (.ref 0), some (.int l1), some (.int l2), some (.int l3), none, none, none], [.ref 0])) (M := M2) (o := (pcl GG lay d 60 [.int l2] M2)) (hf := rfl) rfl rfl).trans ?_
    refine kI_in (fun r3 M3 => ?_)
    refine (e_kI (q := (16, [some (.ref 0), some (.int l1), some (.int l2), some (.int l3), none, none, none], [.int r3, .ref 0])) (q2 := (19, [some (.ref 0), some (.int l1), some (.int l2), some (.int l3), none, none, none], [])) (M := M3) (o := (pcl GG lay d 41 [.ref 0, .int r3] M3)) (hf := rfl) rfl rfl).trans ?_
    refine kI_in (fun r4 M4 => ?_)
    refine (e_if_eq (hf := rfl)).trans ?_
    refine ite_in ?_ ?_
    · refine (evn_adv 3 (q' := (29, [some (.ref 0), some (.int l1), some (.int l2), some (.int l3), none, none, none], [.int l1, .ref 6], M4)) rfl).trans ?_
      refine (e_kI (q := (29, [some (.ref 0), some (.int l1), some (.int l2), some (.int l3), none, none, none], [.int l1, .ref 6])) (q2 := (32, [some (.ref 0), some (.int l1), some (.int l2), some (.int l3), none, none, none], [.ref 6])) (M := M4) (o := (pcl GG lay d 60 [.int l1] M4)) (hf := rfl) rfl rfl).trans ?_
      refine kI_in (fun r5 M5 => ?_)
      refine (e_kI (q := (32, [some (.ref 0), some (.int l1), some (.int l2), some (.int l3), none, none, none], [.int r5, .ref 6])) (q2 := (35, [some (.ref 0), some (.int l1), some (.int l2), some (.int l3), none, none, none], [])) (M := M5) (o := (pcl GG lay d 234 [.ref 6, .int r5] M5)) (hf := rfl) rfl rfl).trans ?_
      refine kI_in (fun r6 M6 => ?_)
      refine (evn_adv 5 (q' := (42, [some (.ref 0), some (.int l1), some (.int l2), some (.int l3), some (.int r6), some (.int (jn 0)), none], [.int l2, .int l1], M6)) rfl).trans ?_
      refine (e_ic_ne (hf := rfl)).trans ?_
      refine ite_in ?_ ?_
      · refine (evn_adv 3 (q' := (52, [some (.ref 0), some (.int l1), some (.int l2), some (.int l3), some (.int r6), some (.int (jn 0)), some (.int (jn 1))], [], M6)) rfl).trans ?_
        rfl
      · refine (evn_adv 2 (q' := (52, [some (.ref 0), some (.int l1), some (.int l2), some (.int l3), some (.int r6), some (.int (jn 0)), some (.int (jn 0))], [], M6)) rfl).trans ?_
        rfl
    · refine (evn_adv 1 (q' := (23, [some (.ref 0), some (.int l1), some (.int l2), some (.int l3), none, none, none], [.int (jn 0)], M4)) rfl).trans ?_
      exact evn_end 1 rfl
  · refine (evn_adv 1 (q' := (23, [some (.ref 0), some (.int l1), some (.int l2), some (.int l3), none, none, none], [.int (jn 0)], M2)) rfl).trans ?_
    exact evn_end 1 rfl
theorem h_45_52 (d : Nat) (l1 : Int32) (l2 : Int32) (l3 : Int32) (l4 : Int32) (l5 : Int32) (l6 : Int32) (M : PM) : E_45 d (52, [some (.ref 0), some (.int l1), some (.int l2), some (.int l3), some (.int l4), some (.int l5), some (.int l6)], [], M) = (if l6 < l4 then (kI (pcl GG lay d 46 [.ref 0, .int l1, .int l2, .int l6] M) fun r1 M1 => (if r1 = jn 0 then E_45 d (52, [some (.ref 0), some (.int l1), some (.int l2), some (.int l3), some (.int l4), some (.int l5), some (.int (l6 + (jn 1)))], [], M1) else (if ((l5 + (jn 1)) - (jn 1)) = l3 then (rI (l5 + (jn 1)) M1) else E_45 d (52, [some (.ref 0), some (.int l1), some (.int l2), some (.int l3), some (.int l4), some (.int (l5 + (jn 1))), some (.int (l6 + (jn 1)))], [], M1)))) else (rI l5 M)) := by
  refine (evn_adv 2 (q' := (56, [some (.ref 0), some (.int l1), some (.int l2), some (.int l3), some (.int l4), some (.int l5), some (.int l6)], [.int l4, .int l6], M)) rfl).trans ?_
  refine (e_ic_ge (hf := rfl)).trans ?_
  refine ite_in ?_ ?_
  · refine (evn_adv 4 (q' := (64, [some (.ref 0), some (.int l1), some (.int l2), some (.int l3), some (.int l4), some (.int l5), some (.int l6)], [.int l6, .int l2, .int l1, .ref 0], M)) rfl).trans ?_
    refine (e_kI (q := (64, [some (.ref 0), some (.int l1), some (.int l2), some (.int l3), some (.int l4), some (.int l5), some (.int l6)], [.int l6, .int l2, .int l1, .ref 0])) (q2 := (67, [some (.ref 0), some (.int l1), some (.int l2), some (.int l3), some (.int l4), some (.int l5), some (.int l6)], [])) (M := M) (o := (pcl GG lay d 46 [.ref 0, .int l1, .int l2, .int l6] M)) (hf := rfl) rfl rfl).trans ?_
    refine kI_in (fun r1 M1 => ?_)
    refine (e_if_eq (hf := rfl)).trans ?_
    refine ite_in ?_ ?_
    · refine (evn_adv 2 (q' := (52, [some (.ref 0), some (.int l1), some (.int l2), some (.int l3), some (.int l4), some (.int l5), some (.int (l6 + (jn 1)))], [], M1)) rfl).trans ?_
      rfl
    · refine (evn_adv 5 (q' := (78, [some (.ref 0), some (.int l1), some (.int l2), some (.int l3), some (.int l4), some (.int (l5 + (jn 1))), some (.int l6)], [.int l3, .int ((l5 + (jn 1)) - (jn 1))], M1)) rfl).trans ?_
      refine (e_ic_ne (hf := rfl)).trans ?_
      refine ite_in ?_ ?_
      · refine (evn_adv 1 (q' := (83, [some (.ref 0), some (.int l1), some (.int l2), some (.int l3), some (.int l4), some (.int (l5 + (jn 1))), some (.int l6)], [.int (l5 + (jn 1))], M1)) rfl).trans ?_
        exact evn_end 1 rfl
      · refine (evn_adv 2 (q' := (52, [some (.ref 0), some (.int l1), some (.int l2), some (.int l3), some (.int l4), some (.int (l5 + (jn 1))), some (.int (l6 + (jn 1)))], [], M1)) rfl).trans ?_
        rfl
  · refine (evn_adv 1 (q' := (92, [some (.ref 0), some (.int l1), some (.int l2), some (.int l3), some (.int l4), some (.int l5), some (.int l6)], [.int l5], M)) rfl).trans ?_
    exact evn_end 1 rfl
/-- TermStrategies.layOverlap(III)Z -/
noncomputable abbrev E_46 (d : Nat) : PQ → PO := evn (rnn k_46 lay none (pcl GG lay d) 2)
theorem q_46 (d : Nat) (l1 : Int32) (l2 : Int32) (l3 : Int32) (M : PM) : pcl GG lay (d + 1) 46 [.ref 0, .int l1, .int l2, .int l3] M = (kI (pcl GG lay d 60 [.int l1] M) fun r1 M1 => (kI (pcl GG lay d 231 [.ref 6, .int (r1 + l3)] M1) fun r2 M2 => (kI (pcl GG lay d 62 [.int r2] M2) fun r3 M3 => (if r3 = jn 0 then (kI (pcl GG lay d 60 [.int l2] M3) fun r4 M4 => (kI (pcl GG lay d 259 [.ref 40, .int r1, .int r4, .int l3] M4) fun r5 M5 => (if r5 = jn 0 then (rZ (jn 0) M5) else (kV (pcl GG lay d 268 [.ref 40, .int (jn 2000)] M5) fun M6 => (kI (pcl GG lay d 233 [.ref 6, .int r1] M6) fun r7 M7 => (kV (pcl GG lay d 269 [.ref 40, .int r1, .int r7, .int (jn 0)] M7) fun M8 => (kV (pcl GG lay d 268 [.ref 40, .int (jn 2040)] M8) fun M9 => (kI (pcl GG lay d 61 [.int l1] M9) fun r10 M10 => (kI (pcl GG lay d 61 [.int l1] M10) fun r11 M11 => (kI (pcl GG lay d 233 [.ref 6, .int r11] M11) fun r12 M12 => (kV (pcl GG lay d 269 [.ref 40, .int r10, .int r12, .int (jn 0)] M12) fun M13 => (kV (pcl GG lay d 268 [.ref 40, .int (jn 2080)] M13) fun M14 => (kV (pcl GG lay d 269 [.ref 40, .int r1, .int (r1 + l3), .int (jn 0)] M14) fun M15 => (kI (pcl GG lay d 61 [.int l2] M15) fun r16 M16 => (kI (pcl GG lay d 61 [.int l2] M16) fun r17 M17 => (kI (pcl GG lay d 233 [.ref 6, .int r17] M17) fun r18 M18 => (kV (pcl GG lay d 269 [.ref 40, .int r16, .int r18, .int (jn 6)] M18) fun M19 => (kI (pcl GG lay d 233 [.ref 6, .int (r1 + l3)] M19) fun r20 M20 => (kI (pcl GG lay d 233 [.ref 6, .int r1] M20) fun r21 M21 => (kV (pcl GG lay d 269 [.ref 40, .int r20, .int r21, .int (jn 0)] M21) fun M22 => (if (M22.1 40 12) = jn 0 then (rZ (jn 1) M22) else (rZ (jn 0) M22)))))))))))))))))))))) else (rZ (jn 0) M3))))) := by
  refine (pcl_un (mt := t_46) (by decide) rfl (Nat.le_of_ble_eq_true rfl)).trans ?_
  show E_46 d (0, [some (.ref 0), some (.int l1), some (.int l2), some (.int l3), none, none], [], M) = _
  refine (evn_adv 1 (q' := (1, [some (.ref 0), some (.int l1), some (.int l2), some (.int l3), none, none], [.int l1], M)) rfl).trans ?_
  refine (e_kI (q := (1, [some (.ref 0), some (.int l1), some (.int l2), some (.int l3), none, none], [.int l1])) (q2 := (4, [some (.ref 0), some (.int l1), some (.int l2), some (.int l3), none, none], [])) (M := M) (o := (pcl GG lay d 60 [.int l1] M)) (hf := rfl) rfl rfl).trans ?_
  refine kI_in (fun r1 M1 => ?_)
  refine (evn_adv 8 (q' := (18, [some (.ref 0), some (.int l1), some (.int l2), some (.int l3), some (.int r1), some (.int (r1 + l3))], [.int (r1 + l3), .ref 6], M1)) rfl).trans ?_
  refine (e_kI (q := (18, [some (.ref 0), some (.int l1), some (.int l2), some (.int l3), some (.int r1), some (.int (r1 + l3))], [.int (r1 + l3), .ref 6])) (q2 := (21, [some (.ref 0), some (.int l1), some (.int l2), some (.int l3), some (.int r1), some (.int (r1 + l3))], [])) (M := M1) (o := (pcl GG lay d 231 [.ref 6, .int (r1 + l3)] M1)) (hf := rfl) rfl rfl).trans ?_
  refine kI_in (fun r2 M2 => ?_)
  refine (e_kI (q := (21, [some (.ref 0), some (.int l1), some (.int l2), some (.int l3), some (.int r1), some (.int (r1 + l3))], [.int r2])) (q2 := (24, [some (.ref 0), some (.int l1), some (.int l2), some (.int l3), some (.int r1), some (.int (r1 + l3))], [])) (M := M2) (o := (pcl GG lay d 62 [.int r2] M2)) (hf := rfl) rfl rfl).trans ?_
  refine kI_in (fun r3 M3 => ?_)
  refine (e_if_ne (hf := rfl)).trans ?_
  refine ite_in ?_ ?_
  · refine (evn_adv 4 (q' := (34, [some (.ref 0), some (.int l1), some (.int l2), some (.int l3), some (.int r1), some (.int (r1 + l3))], [.int l2, .int r1, .ref 40], M3)) rfl).trans ?_
    refine (e_kI (q := (34, [some (.ref 0), some (.int l1), some (.int l2), some (.int l3), some (.int r1), some (.int (r1 + l3))], [.int l2, .int r1, .ref 40])) (q2 := (37, [some (.ref 0), some (.int l1), some (.int l2), some (.int l3), some (.int r1), some (.int (r1 + l3))], [.int r1, .ref 40])) (M := M3) (o := (pcl GG lay d 60 [.int l2] M3)) (hf := rfl) rfl rfl).trans ?_
    refine kI_in (fun r4 M4 => ?_)
    refine (evn_adv 1 (q' := (38, [some (.ref 0), some (.int l1), some (.int l2), some (.int l3), some (.int r1), some (.int (r1 + l3))], [.int l3, .int r4, .int r1, .ref 40], M4)) rfl).trans ?_
    refine (e_kI (q := (38, [some (.ref 0), some (.int l1), some (.int l2), some (.int l3), some (.int r1), some (.int (r1 + l3))], [.int l3, .int r4, .int r1, .ref 40])) (q2 := (41, [some (.ref 0), some (.int l1), some (.int l2), some (.int l3), some (.int r1), some (.int (r1 + l3))], [])) (M := M4) (o := (pcl GG lay d 259 [.ref 40, .int r1, .int r4, .int l3] M4)) (hf := rfl) rfl rfl).trans ?_
    refine kI_in (fun r5 M5 => ?_)
    refine (e_if_ne (hf := rfl)).trans ?_
    refine ite_in ?_ ?_
    · refine (evn_adv 1 (q' := (45, [some (.ref 0), some (.int l1), some (.int l2), some (.int l3), some (.int r1), some (.int (r1 + l3))], [.int (jn 0)], M5)) rfl).trans ?_
      exact e_iretz (hf := rfl)
    · refine (evn_adv 3 (q' := (53, [some (.ref 0), some (.int l1), some (.int l2), some (.int l3), some (.int r1), some (.int (r1 + l3))], [.int (jn 2000), .ref 40], M5)) rfl).trans ?_
      refine (e_kV (q := (53, [some (.ref 0), some (.int l1), some (.int l2), some (.int l3), some (.int r1), some (.int (r1 + l3))], [.int (jn 2000), .ref 40])) (q2 := (56, [some (.ref 0), some (.int l1), some (.int l2), some (.int l3), some (.int r1), some (.int (r1 + l3))], [])) (M := M5) (o := (pcl GG lay d 268 [.ref 40, .int (jn 2000)] M5)) (hf := rfl) rfl rfl).trans ?_
      refine kV_in (fun M6 => ?_)
      refine (evn_adv 6 (q' := (68, [some (.ref 0), some (.int l1), some (.int l2), some (.int l3), some (.int r1), some (.int (r1 + l3))], [.int r1, .ref 6, .int r1, .ref 40], M6)) rfl).trans ?_
      refine (e_kI (q := (68, [some (.ref 0), some (.int l1), some (.int l2), some (.int l3), some (.int r1), some (.int (r1 + l3))], [.int r1, .ref 6, .int r1, .ref 40])) (q2 := (71, [some (.ref 0), some (.int l1), some (.int l2), some (.int l3), some (.int r1), some (.int (r1 + l3))], [.int r1, .ref 40])) (M := M6) (o := (pcl GG lay d 233 [.ref 6, .int r1] M6)) (hf := rfl) rfl rfl).trans ?_
      refine kI_in (fun r7 M7 => ?_)
      refine (evn_adv 1 (q' := (72, [some (.ref 0), some (.int l1), some (.int l2), some (.int l3), some (.int r1), some (.int (r1 + l3))], [.int (jn 0), .int r7, .int r1, .ref 40], M7)) rfl).trans ?_
      refine (e_kV (q := (72, [some (.ref 0), some (.int l1), some (.int l2), some (.int l3), some (.int r1), some (.int (r1 + l3))], [.int (jn 0), .int r7, .int r1, .ref 40])) (q2 := (75, [some (.ref 0), some (.int l1), some (.int l2), some (.int l3), some (.int r1), some (.int (r1 + l3))], [])) (M := M7) (o := (pcl GG lay d 269 [.ref 40, .int r1, .int r7, .int (jn 0)] M7)) (hf := rfl) rfl rfl).trans ?_
      refine kV_in (fun M8 => ?_)
      refine (evn_adv 3 (q' := (82, [some (.ref 0), some (.int l1), some (.int l2), some (.int l3), some (.int r1), some (.int (r1 + l3))], [.int (jn 2040), .ref 40], M8)) rfl).trans ?_
      refine (e_kV (q := (82, [some (.ref 0), some (.int l1), some (.int l2), some (.int l3), some (.int r1), some (.int (r1 + l3))], [.int (jn 2040), .ref 40])) (q2 := (85, [some (.ref 0), some (.int l1), some (.int l2), some (.int l3), some (.int r1), some (.int (r1 + l3))], [])) (M := M8) (o := (pcl GG lay d 268 [.ref 40, .int (jn 2040)] M8)) (hf := rfl) rfl rfl).trans ?_
      refine kV_in (fun M9 => ?_)
      refine (evn_adv 3 (q' := (90, [some (.ref 0), some (.int l1), some (.int l2), some (.int l3), some (.int r1), some (.int (r1 + l3))], [.int l1, .ref 40], M9)) rfl).trans ?_
      refine (e_kI (q := (90, [some (.ref 0), some (.int l1), some (.int l2), some (.int l3), some (.int r1), some (.int (r1 + l3))], [.int l1, .ref 40])) (q2 := (93, [some (.ref 0), some (.int l1), some (.int l2), some (.int l3), some (.int r1), some (.int (r1 + l3))], [.ref 40])) (M := M9) (o := (pcl GG lay d 61 [.int l1] M9)) (hf := rfl) rfl rfl).trans ?_
      refine kI_in (fun r10 M10 => ?_)
      refine (evn_adv 3 (q' := (98, [some (.ref 0), some (.int l1), some (.int l2), some (.int l3), some (.int r1), some (.int (r1 + l3))], [.int l1, .ref 6, .int r10, .ref 40], M10)) rfl).trans ?_
      refine (e_kI (q := (98, [some (.ref 0), some (.int l1), some (.int l2), some (.int l3), some (.int r1), some (.int (r1 + l3))], [.int l1, .ref 6, .int r10, .ref 40])) (q2 := (101, [some (.ref 0), some (.int l1), some (.int l2), some (.int l3), some (.int r1), some (.int (r1 + l3))], [.ref 6, .int r10, .ref 40])) (M := M10) (o := (pcl GG lay d 61 [.int l1] M10)) (hf := rfl) rfl rfl).trans ?_
      refine kI_in (fun r11 M11 => ?_)
      refine (e_kI (q := (101, [some (.ref 0), some (.int l1), some (.int l2), some (.int l3), some (.int r1), some (.int (r1 + l3))], [.int r11, .ref 6, .int r10, .ref 40])) (q2 := (104, [some (.ref 0), some (.int l1), some (.int l2), some (.int l3), some (.int r1), some (.int (r1 + l3))], [.int r10, .ref 40])) (M := M11) (o := (pcl GG lay d 233 [.ref 6, .int r11] M11)) (hf := rfl) rfl rfl).trans ?_
      refine kI_in (fun r12 M12 => ?_)
      refine (evn_adv 1 (q' := (105, [some (.ref 0), some (.int l1), some (.int l2), some (.int l3), some (.int r1), some (.int (r1 + l3))], [.int (jn 0), .int r12, .int r10, .ref 40], M12)) rfl).trans ?_
      refine (e_kV (q := (105, [some (.ref 0), some (.int l1), some (.int l2), some (.int l3), some (.int r1), some (.int (r1 + l3))], [.int (jn 0), .int r12, .int r10, .ref 40])) (q2 := (108, [some (.ref 0), some (.int l1), some (.int l2), some (.int l3), some (.int r1), some (.int (r1 + l3))], [])) (M := M12) (o := (pcl GG lay d 269 [.ref 40, .int r10, .int r12, .int (jn 0)] M12)) (hf := rfl) rfl rfl).trans ?_
      refine kV_in (fun M13 => ?_)
      refine (evn_adv 3 (q' := (115, [some (.ref 0), some (.int l1), some (.int l2), some (.int l3), some (.int r1), some (.int (r1 + l3))], [.int (jn 2080), .ref 40], M13)) rfl).trans ?_
      refine (e_kV (q := (115, [some (.ref 0), some (.int l1), some (.int l2), some (.int l3), some (.int r1), some (.int (r1 + l3))], [.int (jn 2080), .ref 40])) (q2 := (118, [some (.ref 0), some (.int l1), some (.int l2), some (.int l3), some (.int r1), some (.int (r1 + l3))], [])) (M := M13) (o := (pcl GG lay d 268 [.ref 40, .int (jn 2080)] M13)) (hf := rfl) rfl rfl).trans ?_
      refine kV_in (fun M14 => ?_)
      refine (evn_adv 5 (q' := (127, [some (.ref 0), some (.int l1), some (.int l2), some (.int l3), some (.int r1), some (.int (r1 + l3))], [.int (jn 0), .int (r1 + l3), .int r1, .ref 40], M14)) rfl).trans ?_
      refine (e_kV (q := (127, [some (.ref 0), some (.int l1), some (.int l2), some (.int l3), some (.int r1), some (.int (r1 + l3))], [.int (jn 0), .int (r1 + l3), .int r1, .ref 40])) (q2 := (130, [some (.ref 0), some (.int l1), some (.int l2), some (.int l3), some (.int r1), some (.int (r1 + l3))], [])) (M := M14) (o := (pcl GG lay d 269 [.ref 40, .int r1, .int (r1 + l3), .int (jn 0)] M14)) (hf := rfl) rfl rfl).trans ?_
      refine kV_in (fun M15 => ?_)
      refine (evn_adv 3 (q' := (135, [some (.ref 0), some (.int l1), some (.int l2), some (.int l3), some (.int r1), some (.int (r1 + l3))], [.int l2, .ref 40], M15)) rfl).trans ?_
      refine (e_kI (q := (135, [some (.ref 0), some (.int l1), some (.int l2), some (.int l3), some (.int r1), some (.int (r1 + l3))], [.int l2, .ref 40])) (q2 := (138, [some (.ref 0), some (.int l1), some (.int l2), some (.int l3), some (.int r1), some (.int (r1 + l3))], [.ref 40])) (M := M15) (o := (pcl GG lay d 61 [.int l2] M15)) (hf := rfl) rfl rfl).trans ?_
      refine kI_in (fun r16 M16 => ?_)
      refine (evn_adv 3 (q' := (143, [some (.ref 0), some (.int l1), some (.int l2), some (.int l3), some (.int r1), some (.int (r1 + l3))], [.int l2, .ref 6, .int r16, .ref 40], M16)) rfl).trans ?_
      refine (e_kI (q := (143, [some (.ref 0), some (.int l1), some (.int l2), some (.int l3), some (.int r1), some (.int (r1 + l3))], [.int l2, .ref 6, .int r16, .ref 40])) (q2 := (146, [some (.ref 0), some (.int l1), some (.int l2), some (.int l3), some (.int r1), some (.int (r1 + l3))], [.ref 6, .int r16, .ref 40])) (M := M16) (o := (pcl GG lay d 61 [.int l2] M16)) (hf := rfl) rfl rfl).trans ?_
      refine kI_in (fun r17 M17 => ?_)
      refine (e_kI (q := (146, [some (.ref 0), some (.int l1), some (.int l2), some (.int l3), some (.int r1), some (.int (r1 + l3))], [.int r17, .ref 6, .int r16, .ref 40])) (q2 := (149, [some (.ref 0), some (.int l1), some (.int l2), some (.int l3), some (.int r1), some (.int (r1 + l3))], [.int r16, .ref 40])) (M := M17) (o := (pcl GG lay d 233 [.ref 6, .int r17] M17)) (hf := rfl) rfl rfl).trans ?_
      refine kI_in (fun r18 M18 => ?_)
      refine (evn_adv 1 (q' := (151, [some (.ref 0), some (.int l1), some (.int l2), some (.int l3), some (.int r1), some (.int (r1 + l3))], [.int (jn 6), .int r18, .int r16, .ref 40], M18)) rfl).trans ?_
      refine (e_kV (q := (151, [some (.ref 0), some (.int l1), some (.int l2), some (.int l3), some (.int r1), some (.int (r1 + l3))], [.int (jn 6), .int r18, .int r16, .ref 40])) (q2 := (154, [some (.ref 0), some (.int l1), some (.int l2), some (.int l3), some (.int r1), some (.int (r1 + l3))], [])) (M := M18) (o := (pcl GG lay d 269 [.ref 40, .int r16, .int r18, .int (jn 6)] M18)) (hf := rfl) rfl rfl).trans ?_
      refine kV_in (fun M19 => ?_)
      refine (evn_adv 5 (q' := (164, [some (.ref 0), some (.int l1), some (.int l2), some (.int l3), some (.int r1), some (.int (r1 + l3))], [.int (r1 + l3), .ref 6, .ref 40], M19)) rfl).trans ?_
      refine (e_kI (q := (164, [some (.ref 0), some (.int l1), some (.int l2), some (.int l3), some (.int r1), some (.int (r1 + l3))], [.int (r1 + l3), .ref 6, .ref 40])) (q2 := (167, [some (.ref 0), some (.int l1), some (.int l2), some (.int l3), some (.int r1), some (.int (r1 + l3))], [.ref 40])) (M := M19) (o := (pcl GG lay d 233 [.ref 6, .int (r1 + l3)] M19)) (hf := rfl) rfl rfl).trans ?_
      refine kI_in (fun r20 M20 => ?_)
      refine (evn_adv 3 (q' := (173, [some (.ref 0), some (.int l1), some (.int l2), some (.int l3), some (.int r1), some (.int (r1 + l3))], [.int r1, .ref 6, .int r20, .ref 40], M20)) rfl).trans ?_
      refine (e_kI (q := (173, [some (.ref 0), some (.int l1), some (.int l2), some (.int l3), some (.int r1), some (.int (r1 + l3))], [.int r1, .ref 6, .int r20, .ref 40])) (q2 := (176, [some (.ref 0), some (.int l1), some (.int l2), some (.int l3), some (.int r1), some (.int (r1 + l3))], [.int r20, .ref 40])) (M := M20) (o := (pcl GG lay d 233 [.ref 6, .int r1] M20)) (hf := rfl) rfl rfl).trans ?_
      refine kI_in (fun r21 M21 => ?_)
      refine (evn_adv 1 (q' := (177, [some (.ref 0), some (.int l1), some (.int l2), some (.int l3), some (.int r1), some (.int (r1 + l3))], [.int (jn 0), .int r21, .int r20, .ref 40], M21)) rfl).trans ?_
      refine (e_kV (q := (177, [some (.ref 0), some (.int l1), some (.int l2), some (.int l3), some (.int r1), some (.int (r1 + l3))], [.int (jn 0), .int r21, .int r20, .ref 40])) (q2 := (180, [some (.ref 0), some (.int l1), some (.int l2), some (.int l3), some (.int r1), some (.int (r1 + l3))], [])) (M := M21) (o := (pcl GG lay d 269 [.ref 40, .int r20, .int r21, .int (jn 0)] M21)) (hf := rfl) rfl rfl).trans ?_
      refine kV_in (fun M22 => ?_)
      refine (evn_adv 3 (q' := (187, [some (.ref 0), some (.int l1), some (.int l2), some (.int l3), some (.int r1), some (.int (r1 + l3))], [.int (M22.1 40 12)], M22)) rfl).trans ?_
      refine (e_if_ne (hf := rfl)).trans ?_
      refine ite_in ?_ ?_
      · refine (evn_adv 2 (q' := (195, [some (.ref 0), some (.int l1), some (.int l2), some (.int l3), some (.int r1), some (.int (r1 + l3))], [.int (jn 1)], M22)) rfl).trans ?_
        exact e_iretz (hf := rfl)
      · refine (evn_adv 1 (q' := (195, [some (.ref 0), some (.int l1), some (.int l2), some (.int l3), some (.int r1), some (.int (r1 + l3))], [.int (jn 0)], M22)) rfl).trans ?_
        exact e_iretz (hf := rfl)
  · refine (evn_adv 1 (q' := (45, [some (.ref 0), some (.int l1), some (.int l2), some (.int l3), some (.int r1), some (.int (r1 + l3))], [.int (jn 0)], M3)) rfl).trans ?_
    exact e_iretz (hf := rfl)
/-- TermStrategies.judge(III)I -/
noncomputable abbrev E_47 (d : Nat) : PQ → PO := evn (rnn k_47 lay none (pcl GG lay d) 1)
theorem q_47 (d : Nat) (l1 : Int32) (l2 : Int32) (l3 : Int32) (M : PM) : pcl GG lay (d + 1) 47 [.ref 0, .int l1, .int l2, .int l3] M = (kI (pcl GG lay d 48 [.ref 0, .int l1, .int l2, .int l3] M) fun r1 M1 => (if r1 = jn 0 then (kV (pcl GG lay d 199 [.ref 29] M1) fun M2 => E_47 d (34, [some (.ref 0), some (.int l1), some (.int l2), some (.int l3), some (.int r1), some (.int (jn 0)), none], [], M2)) else (kI (pcl GG lay d 56 [.ref 0, .int r1] M1) fun r2 M2 => (rI (r2 - (jn 10)) M2)))) := by
  refine (pcl_un (mt := t_47) (by decide) rfl (Nat.le_of_ble_eq_true rfl)).trans ?_
  show E_47 d (0, [some (.ref 0), some (.int l1), some (.int l2), some (.int l3), none, none, none], [], M) = _
  refine (evn_adv 4 (q' := (4, [some (.ref 0), some (.int l1), some (.int l2), some (.int l3), none, none, none], [.int l3, .int l2, .int l1, .ref 0], M)) rfl).trans ?_
  refine (e_kI (q := (4, [some (.ref 0), some (.int l1), some (.int l2), some (.int l3), none, none, none], [.int l3, .int l2, .int l1, .ref 0])) (q2 := (7, [some (.ref 0), some (.int l1), some (.int l2), some (.int l3), none, none, none], [])) (M := M) (o := (pcl GG lay d 48 [.ref 0, .int l1, .int l2, .int l3] M)) (hf := rfl) rfl rfl).trans ?_
  refine kI_in (fun r1 M1 => ?_)
  refine (evn_adv 2 (q' := (11, [some (.ref 0), some (.int l1), some (.int l2), some (.int l3), some (.int r1), none, none], [.int r1], M1)) rfl).trans ?_
  refine (e_if_eq (hf := rfl)).trans ?_
  refine ite_in ?_ ?_
  · refine (evn_adv 2 (q' := (28, [some (.ref 0), some (.int l1), some (.int l2), some (.int l3), some (.int r1), none, none], [.ref 29], M1)) rfl).trans ?_
    refine (e_kV (q := (28, [some (.ref 0), some (.int l1), some (.int l2), some (.int l3), some (.int r1), none, none], [.ref 29])) (q2 := (31, [some (.ref 0), some (.int l1), some (.int l2), some (.int l3), some (.int r1), none, none], [])) (M := M1) (o := (pcl GG lay d 199 [.ref 29] M1)) (hf := rfl) rfl rfl).trans ?_
    refine kV_in (fun M2 => ?_)
    refine (evn_adv 2 (q' := (34, [some (.ref 0), some (.int l1), some (.int l2), some (.int l3), some (.int r1), some (.int (jn 0)), none], [], M2)) rfl).trans ?_
    rfl
  · refine (evn_adv 2 (q' := (17, [some (.ref 0), some (.int l1), some (.int l2), some (.int l3), some (.int r1), none, none], [.int r1, .ref 0], M1)) rfl).trans ?_
    refine (e_kI (q := (17, [some (.ref 0), some (.int l1), some (.int l2), some (.int l3), some (.int r1), none, none], [.int r1, .ref 0])) (q2 := (20, [some (.ref 0), some (.int l1), some (.int l2), some (.int l3), some (.int r1), none, none], [])) (M := M1) (o := (pcl GG lay d 56 [.ref 0, .int r1] M1)) (hf := rfl) rfl rfl).trans ?_
    refine kI_in (fun r2 M2 => ?_)
    refine (evn_adv 2 (q' := (23, [some (.ref 0), some (.int l1), some (.int l2), some (.int l3), some (.int r1), none, none], [.int (r2 - (jn 10))], M2)) rfl).trans ?_
    exact evn_end 1 rfl
theorem h_47_34 (d : Nat) (l1 : Int32) (l2 : Int32) (l3 : Int32) (u4 : Option Value) (l5 : Int32) (u6 : Option Value) (M : PM) : E_47 d (34, [some (.ref 0), some (.int l1), some (.int l2), some (.int l3), u4, some (.int l5), u6], [], M) = (if l5 < l3 then (kI (pcl GG lay d 226 [.ref 15, .int l1, .int ((jn 2) * l5)] M) fun r1 M1 => (kI (pcl GG lay d 59 [.int r1] M1) fun r2 M2 => (kI (pcl GG lay d 200 [.ref 29, .int l2, .int r2] M2) fun r3 M3 => (if r3 < jn 0 then (rI l5 M3) else (kI (pcl GG lay d 226 [.ref 15, .int l1, .int (((jn 2) * l5) + (jn 1))] M3) fun r4 M4 => (kI (pcl GG lay d 59 [.int r4] M4) fun r5 M5 => (kI (pcl GG lay d 235 [.ref 6, .int r3, .int r5] M5) fun r6 M6 => (if r6 = jn 0 then (rI l5 M6) else E_47 d (34, [some (.ref 0), some (.int l1), some (.int l2), some (.int l3), u4, some (.int (l5 + (jn 1))), some (.int r3)], [], M6))))))))) else (rI (jz 1) M)) := by
  refine (evn_adv 2 (q' := (37, [some (.ref 0), some (.int l1), some (.int l2), some (.int l3), u4, some (.int l5), u6], [.int l3, .int l5], M)) rfl).trans ?_
  refine (e_ic_ge (hf := rfl)).trans ?_
  refine ite_in ?_ ?_
  · refine (evn_adv 9 (q' := (54, [some (.ref 0), some (.int l1), some (.int l2), some (.int l3), u4, some (.int l5), u6], [.int ((jn 2) * l5), .int l1, .ref 15, .int l2, .ref 29], M)) rfl).trans ?_
    refine (e_kI (q := (54, [some (.ref 0), some (.int l1), some (.int l2), some (.int l3), u4, some (.int l5), u6], [.int ((jn 2) * l5), .int l1, .ref 15, .int l2, .ref 29])) (q2 := (57, [some (.ref 0), some (.int l1), some (.int l2), some (.int l3), u4, some (.int l5), u6], [.int l2, .ref 29])) (M := M) (o := (pcl GG lay d 226 [.ref 15, .int l1, .int ((jn 2) * l5)] M)) (hf := rfl) rfl rfl).trans ?_
    refine kI_in (fun r1 M1 => ?_)
    refine (e_kI (q := (57, [some (.ref 0), some (.int l1), some (.int l2), some (.int l3), u4, some (.int l5), u6], [.int r1, .int l2, .ref 29])) (q2 := (60, [some (.ref 0), some (.int l1), some (.int l2), some (.int l3), u4, some (.int l5), u6], [.int l2, .ref 29])) (M := M1) (o := (pcl GG lay d 59 [.int r1] M1)) (hf := rfl) rfl rfl).trans ?_
    refine kI_in (fun r2 M2 => ?_)
    refine (e_kI (q := (60, [some (.ref 0), some (.int l1), some (.int l2), some (.int l3), u4, some (.int l5), u6], [.int r2, .int l2, .ref 29])) (q2 := (63, [some (.ref 0), some (.int l1), some (.int l2), some (.int l3), u4, some (.int l5), u6], [])) (M := M2) (o := (pcl GG lay d 200 [.ref 29, .int l2, .int r2] M2)) (hf := rfl) rfl rfl).trans ?_
    refine kI_in (fun r3 M3 => ?_)
    refine (evn_adv 2 (q' := (67, [some (.ref 0), some (.int l1), some (.int l2), some (.int l3), u4, some (.int l5), some (.int r3)], [.int r3], M3)) rfl).trans ?_
    refine (e_if_lt (hf := rfl)).trans ?_
    refine ite_in ?_ ?_
    · refine (evn_adv 1 (q' := (101, [some (.ref 0), some (.int l1), some (.int l2), some (.int l3), u4, some (.int l5), some (.int r3)], [.int l5], M3)) rfl).trans ?_
      exact evn_end 1 rfl
    · refine (evn_adv 11 (q' := (87, [some (.ref 0), some (.int l1), some (.int l2), some (.int l3), u4, some (.int l5), some (.int r3)], [.int (((jn 2) * l5) + (jn 1)), .int l1, .ref 15, .int r3, .ref 6], M3)) rfl).trans ?_
      refine (e_kI (q := (87, [some (.ref 0), some (.int l1), some (.int l2), some (.int l3), u4, some (.int l5), some (.int r3)], [.int (((jn 2) * l5) + (jn 1)), .int l1, .ref 15, .int r3, .ref 6])) (q2 := (90, [some (.ref 0), some (.int l1), some (.int l2), some (.int l3), u4, some (.int l5), some (.int r3)], [.int r3, .ref 6])) (M := M3) (o := (pcl GG lay d 226 [.ref 15, .int l1, .int (((jn 2) * l5) + (jn 1))] M3)) (hf := rfl) rfl rfl).trans ?_
      refine kI_in (fun r4 M4 => ?_)
      refine (e_kI (q := (90, [some (.ref 0), some (.int l1), some (.int l2), some (.int l3), u4, some (.int l5), some (.int r3)], [.int r4, .int r3, .ref 6])) (q2 := (93, [some (.ref 0), some (.int l1), some (.int l2), some (.int l3), u4, some (.int l5), some (.int r3)], [.int r3, .ref 6])) (M := M4) (o := (pcl GG lay d 59 [.int r4] M4)) (hf := rfl) rfl rfl).trans ?_
      refine kI_in (fun r5 M5 => ?_)
      refine (e_kI (q := (93, [some (.ref 0), some (.int l1), some (.int l2), some (.int l3), u4, some (.int l5), some (.int r3)], [.int r5, .int r3, .ref 6])) (q2 := (96, [some (.ref 0), some (.int l1), some (.int l2), some (.int l3), u4, some (.int l5), some (.int r3)], [])) (M := M5) (o := (pcl GG lay d 235 [.ref 6, .int r3, .int r5] M5)) (hf := rfl) rfl rfl).trans ?_
      refine kI_in (fun r6 M6 => ?_)
      refine (e_if_ne (hf := rfl)).trans ?_
      refine ite_in ?_ ?_
      · refine (evn_adv 1 (q' := (101, [some (.ref 0), some (.int l1), some (.int l2), some (.int l3), u4, some (.int l5), some (.int r3)], [.int l5], M6)) rfl).trans ?_
        exact evn_end 1 rfl
      · refine (evn_adv 2 (q' := (34, [some (.ref 0), some (.int l1), some (.int l2), some (.int l3), u4, some (.int (l5 + (jn 1))), some (.int r3)], [], M6)) rfl).trans ?_
        rfl
  · refine (evn_adv 1 (q' := (109, [some (.ref 0), some (.int l1), some (.int l2), some (.int l3), u4, some (.int l5), u6], [.int (jz 1)], M)) rfl).trans ?_
    exact evn_end 1 rfl
/-- TermStrategies.judgeRefusal(III)I -/
noncomputable abbrev E_48 (d : Nat) : PQ → PO := evn (rnn k_48 lay none (pcl GG lay d) 1)
theorem q_48 (d : Nat) (l1 : Int32) (l2 : Int32) (l3 : Int32) (M : PM) : pcl GG lay (d + 1) 48 [.ref 0, .int l1, .int l2, .int l3] M = (kI (pcl GG lay d 217 [.int l1] M) fun r1 M1 => (if r1 = jn 0 then (rI (jz 1) M1) else (kI (pcl GG lay d 242 [.ref 1, .int l2] M1) fun r2 M2 => (if r2 = jn 0 then (rI (jz 1) M2) else (kI (pcl GG lay d 221 [.ref 15, .int l1] M2) fun r3 M3 => (if r3 = jn 0 then (if l3 < jn 0 then (rI (jz 4) M3) else (kI (pcl GG lay d 222 [.ref 15, .int l1] M3) fun r4 M4 => (if jn 0 < (lg_cmp ((Int64.ofInt 2) * (l3.toInt64)) (r4.toInt64)) then (rI (jz 5) M4) else (if (jn 80) < l3 then (rI (jz 6) M4) else E_48 d (79, [some (.ref 0), some (.int l1), some (.int l2), some (.int l3), some (.int r3), some (.int (jn 0))], [], M4))))) else (rI r3 M3))))))) := by
  refine (pcl_un (mt := t_48) (by decide) rfl (Nat.le_of_ble_eq_true rfl)).trans ?_
  show E_48 d (0, [some (.ref 0), some (.int l1), some (.int l2), some (.int l3), none, none], [], M) = _
  refine (evn_adv 1 (q' := (1, [some (.ref 0), some (.int l1), some (.int l2), some (.int l3), none, none], [.int l1], M)) rfl).trans ?_
  refine (e_kI (q := (1, [some (.ref 0), some (.int l1), some (.int l2), some (.int l3), none, none], [.int l1])) (q2 := (4, [some (.ref 0), some (.int l1), some (.int l2), some (.int l3), none, none], [])) (M := M) (o := (pcl GG lay d 217 [.int l1] M)) (hf := rfl) rfl rfl).trans ?_
  refine kI_in (fun r1 M1 => ?_)
  refine (e_if_eq (hf := rfl)).trans ?_
  refine ite_in ?_ ?_
  · refine (evn_adv 1 (q' := (19, [some (.ref 0), some (.int l1), some (.int l2), some (.int l3), none, none], [.int (jz 1)], M1)) rfl).trans ?_
    exact evn_end 1 rfl
  · refine (evn_adv 3 (q' := (12, [some (.ref 0), some (.int l1), some (.int l2), some (.int l3), none, none], [.int l2, .ref 1], M1)) rfl).trans ?_
    refine (e_kI (q := (12, [some (.ref 0), some (.int l1), some (.int l2), some (.int l3), none, none], [.int l2, .ref 1])) (q2 := (15, [some (.ref 0), some (.int l1), some (.int l2), some (.int l3), none, none], [])) (M := M1) (o := (pcl GG lay d 242 [.ref 1, .int l2] M1)) (hf := rfl) rfl rfl).trans ?_
    refine kI_in (fun r2 M2 => ?_)
    refine (e_if_ne (hf := rfl)).trans ?_
    refine ite_in ?_ ?_
    · refine (evn_adv 1 (q' := (19, [some (.ref 0), some (.int l1), some (.int l2), some (.int l3), none, none], [.int (jz 1)], M2)) rfl).trans ?_
      exact evn_end 1 rfl
    · refine (evn_adv 3 (q' := (25, [some (.ref 0), some (.int l1), some (.int l2), some (.int l3), none, none], [.int l1, .ref 15], M2)) rfl).trans ?_
      refine (e_kI (q := (25, [some (.ref 0), some (.int l1), some (.int l2), some (.int l3), none, none], [.int l1, .ref 15])) (q2 := (28, [some (.ref 0), some (.int l1), some (.int l2), some (.int l3), none, none], [])) (M := M2) (o := (pcl GG lay d 221 [.ref 15, .int l1] M2)) (hf := rfl) rfl rfl).trans ?_
      refine kI_in (fun r3 M3 => ?_)
      refine (evn_adv 2 (q' := (32, [some (.ref 0), some (.int l1), some (.int l2), some (.int l3), some (.int r3), none], [.int r3], M3)) rfl).trans ?_
      refine (e_if_eq (hf := rfl)).trans ?_
      refine ite_in ?_ ?_
      · refine (evn_adv 1 (q' := (39, [some (.ref 0), some (.int l1), some (.int l2), some (.int l3), some (.int r3), none], [.int l3], M3)) rfl).trans ?_
        refine (e_if_ge (hf := rfl)).trans ?_
        refine ite_in ?_ ?_
        · refine (evn_adv 1 (q' := (44, [some (.ref 0), some (.int l1), some (.int l2), some (.int l3), some (.int r3), none], [.int (jz 4)], M3)) rfl).trans ?_
          exact evn_end 1 rfl
        · refine (evn_adv 7 (q' := (56, [some (.ref 0), some (.int l1), some (.int l2), some (.int l3), some (.int r3), none], [.int l1, .ref 15, .long ((Int64.ofInt 2) * (l3.toInt64))], M3)) rfl).trans ?_
          refine (e_kI (q := (56, [some (.ref 0), some (.int l1), some (.int l2), some (.int l3), some (.int r3), none], [.int l1, .ref 15, .long ((Int64.ofInt 2) * (l3.toInt64))])) (q2 := (59, [some (.ref 0), some (.int l1), some (.int l2), some (.int l3), some (.int r3), none], [.long ((Int64.ofInt 2) * (l3.toInt64))])) (M := M3) (o := (pcl GG lay d 222 [.ref 15, .int l1] M3)) (hf := rfl) rfl rfl).trans ?_
          refine kI_in (fun r4 M4 => ?_)
          refine (evn_adv 2 (q' := (61, [some (.ref 0), some (.int l1), some (.int l2), some (.int l3), some (.int r3), none], [.int (lg_cmp ((Int64.ofInt 2) * (l3.toInt64)) (r4.toInt64))], M4)) rfl).trans ?_
          refine (e_if_le (hf := rfl)).trans ?_
          refine ite_in ?_ ?_
          · refine (evn_adv 1 (q' := (66, [some (.ref 0), some (.int l1), some (.int l2), some (.int l3), some (.int r3), none], [.int (jz 5)], M4)) rfl).trans ?_
            exact evn_end 1 rfl
          · refine (evn_adv 2 (q' := (70, [some (.ref 0), some (.int l1), some (.int l2), some (.int l3), some (.int r3), none], [.int (jn 80), .int l3], M4)) rfl).trans ?_
            refine (e_ic_le (hf := rfl)).trans ?_
            refine ite_in ?_ ?_
            · refine (evn_adv 1 (q' := (75, [some (.ref 0), some (.int l1), some (.int l2), some (.int l3), some (.int r3), none], [.int (jz 6)], M4)) rfl).trans ?_
              exact evn_end 1 rfl
            · refine (evn_adv 2 (q' := (79, [some (.ref 0), some (.int l1), some (.int l2), some (.int l3), some (.int r3), some (.int (jn 0))], [], M4)) rfl).trans ?_
              rfl
      · refine (evn_adv 1 (q' := (37, [some (.ref 0), some (.int l1), some (.int l2), some (.int l3), some (.int r3), none], [.int r3], M3)) rfl).trans ?_
        exact evn_end 1 rfl
theorem h_48_79 (d : Nat) (l1 : Int32) (u2 : Option Value) (l3 : Int32) (u4 : Option Value) (l5 : Int32) (M : PM) : E_48 d (79, [some (.ref 0), some (.int l1), u2, some (.int l3), u4, some (.int l5)], [], M) = (if l5 < ((jn 2) * l3) then (kI (pcl GG lay d 226 [.ref 15, .int l1, .int l5] M) fun r1 M1 => (kI (pcl GG lay d 240 [.ref 1, .int r1] M1) fun r2 M2 => (if r2 = jn 0 then (rI (jz 6) M2) else E_48 d (79, [some (.ref 0), some (.int l1), u2, some (.int l3), u4, some (.int (l5 + (jn 1)))], [], M2)))) else (rI (jn 0) M)) := by
  refine (evn_adv 4 (q' := (84, [some (.ref 0), some (.int l1), u2, some (.int l3), u4, some (.int l5)], [.int ((jn 2) * l3), .int l5], M)) rfl).trans ?_
  refine (e_ic_ge (hf := rfl)).trans ?_
  refine ite_in ?_ ?_
  · refine (evn_adv 6 (q' := (98, [some (.ref 0), some (.int l1), u2, some (.int l3), u4, some (.int l5)], [.int l5, .int l1, .ref 15, .ref 1], M)) rfl).trans ?_
    refine (e_kI (q := (98, [some (.ref 0), some (.int l1), u2, some (.int l3), u4, some (.int l5)], [.int l5, .int l1, .ref 15, .ref 1])) (q2 := (101, [some (.ref 0), some (.int l1), u2, some (.int l3), u4, some (.int l5)], [.ref 1])) (M := M) (o := (pcl GG lay d 226 [.ref 15, .int l1, .int l5] M)) (hf := rfl) rfl rfl).trans ?_
    refine kI_in (fun r1 M1 => ?_)
    refine (e_kI (q := (101, [some (.ref 0), some (.int l1), u2, some (.int l3), u4, some (.int l5)], [.int r1, .ref 1])) (q2 := (104, [some (.ref 0), some (.int l1), u2, some (.int l3), u4, some (.int l5)], [])) (M := M1) (o := (pcl GG lay d 240 [.ref 1, .int r1] M1)) (hf := rfl) rfl rfl).trans ?_
    refine kI_in (fun r2 M2 => ?_)
    refine (e_if_ne (hf := rfl)).trans ?_
    refine ite_in ?_ ?_
    · refine (evn_adv 1 (q' := (109, [some (.ref 0), some (.int l1), u2, some (.int l3), u4, some (.int l5)], [.int (jz 6)], M2)) rfl).trans ?_
      exact evn_end 1 rfl
    · refine (evn_adv 2 (q' := (79, [some (.ref 0), some (.int l1), u2, some (.int l3), u4, some (.int (l5 + (jn 1)))], [], M2)) rfl).trans ?_
      rfl
  · refine (evn_adv 1 (q' := (117, [some (.ref 0), some (.int l1), u2, some (.int l3), u4, some (.int l5)], [.int (jn 0)], M)) rfl).trans ?_
    exact evn_end 1 rfl
/-- TermStrategies.days(I)I -/
noncomputable abbrev E_49 (d : Nat) : PQ → PO := evn (rnn k_49 lay none (pcl GG lay d) 1)
theorem q_49 (d : Nat) (l1 : Int32) (M : PM) : pcl GG lay (d + 1) 49 [.ref 0, .int l1] M = (if (M.1 1 6) = jn 0 then (kI (pcl GG lay d 56 [.ref 0, .int (jz 5)] M) fun r1 M1 => (rI r1 M1)) else (if (M.1 1 5) = jn 0 then (kI (pcl GG lay d 56 [.ref 0, .int (jz 5)] M) fun r1 M1 => (rI r1 M1)) else (if l1 < (jn 1) then (kI (pcl GG lay d 56 [.ref 0, .int (jz 6)] M) fun r1 M1 => (rI r1 M1)) else (if (jn 40) < l1 then (kI (pcl GG lay d 56 [.ref 0, .int (jz 6)] M) fun r1 M1 => (rI r1 M1)) else E_49 d (49, [some (.ref 0), some (.int l1), some (.int (jn 0)), some (.int (jn 0)), none, none], [], M))))) := by
  refine (pcl_un (mt := t_49) (by decide) rfl (Nat.le_of_ble_eq_true rfl)).trans ?_
  show E_49 d (0, [some (.ref 0), some (.int l1), none, none, none, none], [], M) = _
  refine (evn_adv 3 (q' := (7, [some (.ref 0), some (.int l1), none, none, none, none], [.int (M.1 1 6)], M)) rfl).trans ?_
  refine (e_if_eq (hf := rfl)).trans ?_
  refine ite_in ?_ ?_
  · refine (evn_adv 2 (q' := (23, [some (.ref 0), some (.int l1), none, none, none, none], [.int (jz 5), .ref 0], M)) rfl).trans ?_
    refine (e_kI (q := (23, [some (.ref 0), some (.int l1), none, none, none, none], [.int (jz 5), .ref 0])) (q2 := (26, [some (.ref 0), some (.int l1), none, none, none, none], [])) (M := M) (o := (pcl GG lay d 56 [.ref 0, .int (jz 5)] M)) (hf := rfl) rfl rfl).trans ?_
    refine kI_in (fun r1 M1 => ?_)
    exact evn_end 1 rfl
  · refine (evn_adv 3 (q' := (17, [some (.ref 0), some (.int l1), none, none, none, none], [.int (M.1 1 5)], M)) rfl).trans ?_
    refine (e_if_ne (hf := rfl)).trans ?_
    refine ite_in ?_ ?_
    · refine (evn_adv 2 (q' := (23, [some (.ref 0), some (.int l1), none, none, none, none], [.int (jz 5), .ref 0], M)) rfl).trans ?_
      refine (e_kI (q := (23, [some (.ref 0), some (.int l1), none, none, none, none], [.int (jz 5), .ref 0])) (q2 := (26, [some (.ref 0), some (.int l1), none, none, none, none], [])) (M := M) (o := (pcl GG lay d 56 [.ref 0, .int (jz 5)] M)) (hf := rfl) rfl rfl).trans ?_
      refine kI_in (fun r1 M1 => ?_)
      exact evn_end 1 rfl
    · refine (evn_adv 2 (q' := (29, [some (.ref 0), some (.int l1), none, none, none, none], [.int (jn 1), .int l1], M)) rfl).trans ?_
      refine (e_ic_lt (hf := rfl)).trans ?_
      refine ite_in ?_ ?_
      · refine (evn_adv 2 (q' := (41, [some (.ref 0), some (.int l1), none, none, none, none], [.int (jz 6), .ref 0], M)) rfl).trans ?_
        refine (e_kI (q := (41, [some (.ref 0), some (.int l1), none, none, none, none], [.int (jz 6), .ref 0])) (q2 := (44, [some (.ref 0), some (.int l1), none, none, none, none], [])) (M := M) (o := (pcl GG lay d 56 [.ref 0, .int (jz 6)] M)) (hf := rfl) rfl rfl).trans ?_
        refine kI_in (fun r1 M1 => ?_)
        exact evn_end 1 rfl
      · refine (evn_adv 2 (q' := (35, [some (.ref 0), some (.int l1), none, none, none, none], [.int (jn 40), .int l1], M)) rfl).trans ?_
        refine (e_ic_le (hf := rfl)).trans ?_
        refine ite_in ?_ ?_
        · refine (evn_adv 2 (q' := (41, [some (.ref 0), some (.int l1), none, none, none, none], [.int (jz 6), .ref 0], M)) rfl).trans ?_
          refine (e_kI (q := (41, [some (.ref 0), some (.int l1), none, none, none, none], [.int (jz 6), .ref 0])) (q2 := (44, [some (.ref 0), some (.int l1), none, none, none, none], [])) (M := M) (o := (pcl GG lay d 56 [.ref 0, .int (jz 6)] M)) (hf := rfl) rfl rfl).trans ?_
          refine kI_in (fun r1 M1 => ?_)
          exact evn_end 1 rfl
        · refine (evn_adv 4 (q' := (49, [some (.ref 0), some (.int l1), some (.int (jn 0)), some (.int (jn 0)), none, none], [], M)) rfl).trans ?_
          rfl
theorem h_49_49 (d : Nat) (l1 : Int32) (l2 : Int32) (l3 : Int32) (u4 : Option Value) (u5 : Option Value) (M : PM) : E_49 d (49, [some (.ref 0), some (.int l1), some (.int l2), some (.int l3), u4, u5], [], M) = (if l3 < l1 then (kI (pcl GG lay d 252 [.ref 1, .int (M.1 1 6)] M) fun r1 M1 => (kI (pcl GG lay d 252 [.ref 1, .int (M1.1 1 5)] M1) fun r2 M2 => (kI (pcl GG lay d 59 [.int r2] M2) fun r3 M3 => (kI (pcl GG lay d 50 [.ref 0, .int r1, .int r3] M3) fun r4 M4 => (if r4 = jn 0 then E_49 d (49, [some (.ref 0), some (.int l1), some (.int l2), some (.int (l3 + (jn 1))), some (.int r1), some (.int r2)], [], M4) else E_49 d (49, [some (.ref 0), some (.int l1), some (.int (l2 + (jn 1))), some (.int (l3 + (jn 1))), some (.int r1), some (.int r2)], [], M4)))))) else (rI l2 M)) := by
  refine (evn_adv 2 (q' := (51, [some (.ref 0), some (.int l1), some (.int l2), some (.int l3), u4, u5], [.int l1, .int l3], M)) rfl).trans ?_
  refine (e_ic_ge (hf := rfl)).trans ?_
  refine ite_in ?_ ?_
  · refine (evn_adv 5 (q' := (65, [some (.ref 0), some (.int l1), some (.int l2), some (.int l3), u4, u5], [.int (M.1 1 6), .ref 1], M)) rfl).trans ?_
    refine (e_kI (q := (65, [some (.ref 0), some (.int l1), some (.int l2), some (.int l3), u4, u5], [.int (M.1 1 6), .ref 1])) (q2 := (68, [some (.ref 0), some (.int l1), some (.int l2), some (.int l3), u4, u5], [])) (M := M) (o := (pcl GG lay d 252 [.ref 1, .int (M.1 1 6)] M)) (hf := rfl) rfl rfl).trans ?_
    refine kI_in (fun r1 M1 => ?_)
    refine (evn_adv 6 (q' := (81, [some (.ref 0), some (.int l1), some (.int l2), some (.int l3), some (.int r1), u5], [.int (M1.1 1 5), .ref 1], M1)) rfl).trans ?_
    refine (e_kI (q := (81, [some (.ref 0), some (.int l1), some (.int l2), some (.int l3), some (.int r1), u5], [.int (M1.1 1 5), .ref 1])) (q2 := (84, [some (.ref 0), some (.int l1), some (.int l2), some (.int l3), some (.int r1), u5], [])) (M := M1) (o := (pcl GG lay d 252 [.ref 1, .int (M1.1 1 5)] M1)) (hf := rfl) rfl rfl).trans ?_
    refine kI_in (fun r2 M2 => ?_)
    refine (evn_adv 4 (q' := (91, [some (.ref 0), some (.int l1), some (.int l2), some (.int l3), some (.int r1), some (.int r2)], [.int r2, .int r1, .ref 0], M2)) rfl).trans ?_
    refine (e_kI (q := (91, [some (.ref 0), some (.int l1), some (.int l2), some (.int l3), some (.int r1), some (.int r2)], [.int r2, .int r1, .ref 0])) (q2 := (94, [some (.ref 0), some (.int l1), some (.int l2), some (.int l3), some (.int r1), some (.int r2)], [.int r1, .ref 0])) (M := M2) (o := (pcl GG lay d 59 [.int r2] M2)) (hf := rfl) rfl rfl).trans ?_
    refine kI_in (fun r3 M3 => ?_)
    refine (e_kI (q := (94, [some (.ref 0), some (.int l1), some (.int l2), some (.int l3), some (.int r1), some (.int r2)], [.int r3, .int r1, .ref 0])) (q2 := (97, [some (.ref 0), some (.int l1), some (.int l2), some (.int l3), some (.int r1), some (.int r2)], [])) (M := M3) (o := (pcl GG lay d 50 [.ref 0, .int r1, .int r3] M3)) (hf := rfl) rfl rfl).trans ?_
    refine kI_in (fun r4 M4 => ?_)
    refine (e_if_eq (hf := rfl)).trans ?_
    refine ite_in ?_ ?_
    · refine (evn_adv 2 (q' := (49, [some (.ref 0), some (.int l1), some (.int l2), some (.int (l3 + (jn 1))), some (.int r1), some (.int r2)], [], M4)) rfl).trans ?_
      rfl
    · refine (evn_adv 3 (q' := (49, [some (.ref 0), some (.int l1), some (.int (l2 + (jn 1))), some (.int (l3 + (jn 1))), some (.int r1), some (.int r2)], [], M4)) rfl).trans ?_
      rfl
  · refine (evn_adv 1 (q' := (110, [some (.ref 0), some (.int l1), some (.int l2), some (.int l3), u4, u5], [.int l2], M)) rfl).trans ?_
    exact evn_end 1 rfl
/-- TermStrategies.rewriteAtLeast(II)Z -/
noncomputable abbrev E_50 (d : Nat) : PQ → PO := evn (rnn k_50 lay none (pcl GG lay d) 2)
theorem q_50 (d : Nat) (l1 : Int32) (l2 : Int32) (M : PM) : pcl GG lay (d + 1) 50 [.ref 0, .int l1, .int l2] M = (kI (pcl GG lay d 25 [.ref 0, .int l1, .int l2, .int (jn 0)] M) fun r1 M1 => (if r1 = (jz 1) then (rZ (jn 0) M1) else (kI (pcl GG lay d 30 [.ref 0, .int l1, .int l2, .int r1] M1) fun r2 M2 => (if r2 = jn 0 then (kI (pcl GG lay d 237 [.ref 6, .int (jn 1920), .int l2] M2) fun r3 M3 => (rZ (jn 1) M3)) else (rZ (jn 0) M2))))) := by
  refine (pcl_un (mt := t_50) (by decide) rfl (Nat.le_of_ble_eq_true rfl)).trans ?_
  show E_50 d (0, [some (.ref 0), some (.int l1), some (.int l2), none], [], M) = _
  refine (evn_adv 4 (q' := (4, [some (.ref 0), some (.int l1), some (.int l2), none], [.int (jn 0), .int l2, .int l1, .ref 0], M)) rfl).trans ?_
  refine (e_kI (q := (4, [some (.ref 0), some (.int l1), some (.int l2), none], [.int (jn 0), .int l2, .int l1, .ref 0])) (q2 := (7, [some (.ref 0), some (.int l1), some (.int l2), none], [])) (M := M) (o := (pcl GG lay d 25 [.ref 0, .int l1, .int l2, .int (jn 0)] M)) (hf := rfl) rfl rfl).trans ?_
  refine kI_in (fun r1 M1 => ?_)
  refine (evn_adv 3 (q' := (10, [some (.ref 0), some (.int l1), some (.int l2), some (.int r1)], [.int (jz 1), .int r1], M1)) rfl).trans ?_
  refine (e_ic_eq (hf := rfl)).trans ?_
  refine ite_in ?_ ?_
  · refine (evn_adv 1 (q' := (24, [some (.ref 0), some (.int l1), some (.int l2), some (.int r1)], [.int (jn 0)], M1)) rfl).trans ?_
    exact e_iretz (hf := rfl)
  · refine (evn_adv 4 (q' := (17, [some (.ref 0), some (.int l1), some (.int l2), some (.int r1)], [.int r1, .int l2, .int l1, .ref 0], M1)) rfl).trans ?_
    refine (e_kI (q := (17, [some (.ref 0), some (.int l1), some (.int l2), some (.int r1)], [.int r1, .int l2, .int l1, .ref 0])) (q2 := (20, [some (.ref 0), some (.int l1), some (.int l2), some (.int r1)], [])) (M := M1) (o := (pcl GG lay d 30 [.ref 0, .int l1, .int l2, .int r1] M1)) (hf := rfl) rfl rfl).trans ?_
    refine kI_in (fun r2 M2 => ?_)
    refine (e_if_eq (hf := rfl)).trans ?_
    refine ite_in ?_ ?_
    · refine (evn_adv 4 (q' := (33, [some (.ref 0), some (.int l1), some (.int l2), some (.int r1)], [.int l2, .int (jn 1920), .ref 6], M2)) rfl).trans ?_
      refine (e_kI (q := (33, [some (.ref 0), some (.int l1), some (.int l2), some (.int r1)], [.int l2, .int (jn 1920), .ref 6])) (q2 := (36, [some (.ref 0), some (.int l1), some (.int l2), some (.int r1)], [])) (M := M2) (o := (pcl GG lay d 237 [.ref 6, .int (jn 1920), .int l2] M2)) (hf := rfl) rfl rfl).trans ?_
      refine kI_in (fun r3 M3 => ?_)
      refine (evn_adv 2 (q' := (38, [some (.ref 0), some (.int l1), some (.int l2), some (.int r1)], [.int (jn 1)], M3)) rfl).trans ?_
      exact e_iretz (hf := rfl)
    · refine (evn_adv 1 (q' := (24, [some (.ref 0), some (.int l1), some (.int l2), some (.int r1)], [.int (jn 0)], M2)) rfl).trans ?_
      exact e_iretz (hf := rfl)
/-- TermStrategies.seed(I)I -/
noncomputable abbrev E_51 (d : Nat) : PQ → PO := evn (rnn k_51 lay none (pcl GG lay d) 1)
theorem q_51 (d : Nat) (l1 : Int32) (M : PM) : pcl GG lay (d + 1) 51 [.ref 0, .int l1] M = (wr (sI M 1 (va_up (M.1 1) 9 l1)) fun M1 => (rI (M.1 1 9) M1)) := by
  refine (pcl_un (mt := t_51) (by decide) rfl (Nat.le_of_ble_eq_true rfl)).trans ?_
  show E_51 d (0, [some (.ref 0), some (.int l1), none], [], M) = _
  refine (evn_adv 7 (q' := (13, [some (.ref 0), some (.int l1), some (.int (M.1 1 9))], [.int l1, .ref 1], M)) rfl).trans ?_
  refine (evn_adv 1 (q' := (16, [some (.ref 0), some (.int l1), some (.int (M.1 1 9))], [], (sI M 1 (va_up (M.1 1) 9 l1)))) rfl).trans ?_
  refine wr_in (f := fun M1 => E_51 d (16, [some (.ref 0), some (.int l1), some (.int (M.1 1 9))], [], M1)) (fun M1 => ?_)
  refine (evn_adv 1 (q' := (17, [some (.ref 0), some (.int l1), some (.int (M.1 1 9))], [.int (M.1 1 9)], M1)) rfl).trans ?_
  exact evn_end 1 rfl
/-- TermStrategies.image()I -/
noncomputable abbrev E_52 (d : Nat) : PQ → PO := evn (rnn k_52 lay none (pcl GG lay d) 1)
theorem q_52 (d : Nat)  (M : PM) : pcl GG lay (d + 1) 52 [.ref 0] M = (kV (pcl GG lay d 253 [.ref 8, .ref 1] M) fun M1 => (wr (sI M1 0 (va_up (M1.1 0) 12 (jn 1))) fun M2 => (rI (M2.1 1 5) M2))) := by
  refine (pcl_un (mt := t_52) (by decide) rfl (Nat.le_of_ble_eq_true rfl)).trans ?_
  show E_52 d (0, [some (.ref 0)], [], M) = _
  refine (evn_adv 4 (q' := (8, [some (.ref 0)], [.ref 1, .ref 8], M)) rfl).trans ?_
  refine (e_kV (q := (8, [some (.ref 0)], [.ref 1, .ref 8])) (q2 := (11, [some (.ref 0)], [])) (M := M) (o := (pcl GG lay d 253 [.ref 8, .ref 1] M)) (hf := rfl) rfl rfl).trans ?_
  refine kV_in (fun M1 => ?_)
  refine (evn_adv 2 (q' := (13, [some (.ref 0)], [.int (jn 1), .ref 0], M1)) rfl).trans ?_
  refine (e_putz (q2 := (16, [some (.ref 0)], [])) (k := 0) (j := 12) rfl rfl).trans ?_
  refine (if_pos (Or.inr rfl)).trans ?_
  refine wr_in (f := fun M2 => E_52 d (16, [some (.ref 0)], [], M2)) (fun M2 => ?_)
  refine (evn_adv 3 (q' := (23, [some (.ref 0)], [.int (M2.1 1 5)], M2)) rfl).trans ?_
  exact evn_end 1 rfl
/-- TermStrategies.restore()I -/
noncomputable abbrev E_53 (d : Nat) : PQ → PO := evn (rnn k_53 lay none (pcl GG lay d) 1)
theorem q_53 (d : Nat)  (M : PM) : pcl GG lay (d + 1) 53 [.ref 0] M = (if (M.1 0 12) = jn 0 then (kI (pcl GG lay d 56 [.ref 0, .int (jz 6)] M) fun r1 M1 => (rI r1 M1)) else (kV (pcl GG lay d 253 [.ref 1, .ref 8] M) fun M1 => (kV (pcl GG lay d 230 [.ref 15, .int (M1.1 1 7)] M1) fun M2 => (rI (M2.1 1 5) M2)))) := by
  refine (pcl_un (mt := t_53) (by decide) rfl (Nat.le_of_ble_eq_true rfl)).trans ?_
  show E_53 d (0, [some (.ref 0)], [], M) = _
  refine (evn_adv 2 (q' := (4, [some (.ref 0)], [.int (M.1 0 12)], M)) rfl).trans ?_
  refine (e_if_ne (hf := rfl)).trans ?_
  refine ite_in ?_ ?_
  · refine (evn_adv 2 (q' := (10, [some (.ref 0)], [.int (jz 6), .ref 0], M)) rfl).trans ?_
    refine (e_kI (q := (10, [some (.ref 0)], [.int (jz 6), .ref 0])) (q2 := (13, [some (.ref 0)], [])) (M := M) (o := (pcl GG lay d 56 [.ref 0, .int (jz 6)] M)) (hf := rfl) rfl rfl).trans ?_
    refine kI_in (fun r1 M1 => ?_)
    exact evn_end 1 rfl
  · refine (evn_adv 4 (q' := (22, [some (.ref 0)], [.ref 8, .ref 1], M)) rfl).trans ?_
    refine (e_kV (q := (22, [some (.ref 0)], [.ref 8, .ref 1])) (q2 := (25, [some (.ref 0)], [])) (M := M) (o := (pcl GG lay d 253 [.ref 1, .ref 8] M)) (hf := rfl) rfl rfl).trans ?_
    refine kV_in (fun M1 => ?_)
    refine (evn_adv 5 (q' := (36, [some (.ref 0)], [.int (M1.1 1 7), .ref 15], M1)) rfl).trans ?_
    refine (e_kV (q := (36, [some (.ref 0)], [.int (M1.1 1 7), .ref 15])) (q2 := (39, [some (.ref 0)], [])) (M := M1) (o := (pcl GG lay d 230 [.ref 15, .int (M1.1 1 7)] M1)) (hf := rfl) rfl rfl).trans ?_
    refine kV_in (fun M2 => ?_)
    refine (evn_adv 3 (q' := (46, [some (.ref 0)], [.int (M2.1 1 5)], M2)) rfl).trans ?_
    exact evn_end 1 rfl
/-- TermStrategies.status(I)I -/
noncomputable abbrev E_54 (d : Nat) : PQ → PO := evn (rnn k_54 lay none (pcl GG lay d) 1)
theorem q_54 (d : Nat) (l1 : Int32) (M : PM) : pcl GG lay (d + 1) 54 [.ref 0, .int l1] M = (if l1 = (jn 0) then (rI (M.1 1 5) M) else (if l1 = (jn 1) then (rI (M.1 1 6) M) else (if l1 = (jn 2) then (rI (M.1 1 7) M) else (if l1 = (jn 3) then (rI (M.1 1 8) M) else (if l1 = (jn 4) then (kI (pcl GG lay d 55 [.ref 0] M) fun r1 M1 => (rI r1 M1)) else (if l1 = (jn 5) then (rI (M.1 1 9) M) else (if l1 = (jn 6) then (rI (M.1 48 2) M) else (if (jn 10) < l1 then (if (jn 17) < l1 then (rI (jz 1) M) else (kI (pcl GG lay d 65 [.ref 51, .int (l1 - (jn 10))] M) fun r1 M1 => (rI r1 M1))) else (rI (jz 1) M))))))))) := by
  refine (pcl_un (mt := t_54) (by decide) rfl (Nat.le_of_ble_eq_true rfl)).trans ?_
  show E_54 d (0, [some (.ref 0), some (.int l1)], [], M) = _
  refine (evn_adv 1 (q' := (1, [some (.ref 0), some (.int l1)], [.int l1], M)) rfl).trans ?_
  refine (e_sw0 (dflt := 97) (lo := ((0 : Nat) : Int)) (ts := [44, 52, 60, 68, 76, 81, 89]) (hf := rfl) rfl).trans ?_
  refine sw_cons (lo := 0) (F := fun pc => E_54 d (pc, [some (.ref 0), some (.int l1)], [], M)) (by decide) ?_ ?_
  · refine (evn_adv 3 (q' := (51, [some (.ref 0), some (.int l1)], [.int (M.1 1 5)], M)) rfl).trans ?_
    exact evn_end 1 rfl
  refine sw_cons (lo := 1) (F := fun pc => E_54 d (pc, [some (.ref 0), some (.int l1)], [], M)) (by decide) ?_ ?_
  · refine (evn_adv 3 (q' := (59, [some (.ref 0), some (.int l1)], [.int (M.1 1 6)], M)) rfl).trans ?_
    exact evn_end 1 rfl
  refine sw_cons (lo := 2) (F := fun pc => E_54 d (pc, [some (.ref 0), some (.int l1)], [], M)) (by decide) ?_ ?_
  · refine (evn_adv 3 (q' := (67, [some (.ref 0), some (.int l1)], [.int (M.1 1 7)], M)) rfl).trans ?_
    exact evn_end 1 rfl
  refine sw_cons (lo := 3) (F := fun pc => E_54 d (pc, [some (.ref 0), some (.int l1)], [], M)) (by decide) ?_ ?_
  · refine (evn_adv 3 (q' := (75, [some (.ref 0), some (.int l1)], [.int (M.1 1 8)], M)) rfl).trans ?_
    exact evn_end 1 rfl
  refine sw_cons (lo := 4) (F := fun pc => E_54 d (pc, [some (.ref 0), some (.int l1)], [], M)) (by decide) ?_ ?_
  · refine (evn_adv 1 (q' := (77, [some (.ref 0), some (.int l1)], [.ref 0], M)) rfl).trans ?_
    refine (e_kI (q := (77, [some (.ref 0), some (.int l1)], [.ref 0])) (q2 := (80, [some (.ref 0), some (.int l1)], [])) (M := M) (o := (pcl GG lay d 55 [.ref 0] M)) (hf := rfl) rfl rfl).trans ?_
    refine kI_in (fun r1 M1 => ?_)
    exact evn_end 1 rfl
  refine sw_cons (lo := 5) (F := fun pc => E_54 d (pc, [some (.ref 0), some (.int l1)], [], M)) (by decide) ?_ ?_
  · refine (evn_adv 3 (q' := (88, [some (.ref 0), some (.int l1)], [.int (M.1 1 9)], M)) rfl).trans ?_
    exact evn_end 1 rfl
  refine sw_cons (lo := 6) (F := fun pc => E_54 d (pc, [some (.ref 0), some (.int l1)], [], M)) (by decide) ?_ ?_
  · refine (evn_adv 3 (q' := (96, [some (.ref 0), some (.int l1)], [.int (M.1 48 2)], M)) rfl).trans ?_
    exact evn_end 1 rfl
  show E_54 d (97, [some (.ref 0), some (.int l1)], [], M) = _
  refine (evn_adv 2 (q' := (100, [some (.ref 0), some (.int l1)], [.int (jn 10), .int l1], M)) rfl).trans ?_
  refine (e_ic_le (hf := rfl)).trans ?_
  refine ite_in ?_ ?_
  · refine (evn_adv 2 (q' := (106, [some (.ref 0), some (.int l1)], [.int (jn 17), .int l1], M)) rfl).trans ?_
    refine (e_ic_gt (hf := rfl)).trans ?_
    refine ite_in ?_ ?_
    · refine (evn_adv 1 (q' := (124, [some (.ref 0), some (.int l1)], [.int (jz 1)], M)) rfl).trans ?_
      exact evn_end 1 rfl
    · refine (evn_adv 5 (q' := (117, [some (.ref 0), some (.int l1)], [.int (l1 - (jn 10)), .ref 51], M)) rfl).trans ?_
      refine (e_kI (q := (117, [some (.ref 0), some (.int l1)], [.int (l1 - (jn 10)), .ref 51])) (q2 := (120, [some (.ref 0), some (.int l1)], [])) (M := M) (o := (pcl GG lay d 65 [.ref 51, .int (l1 - (jn 10))] M)) (hf := rfl) rfl rfl).trans ?_
      refine kI_in (fun r1 M1 => ?_)
      refine (evn_adv 1 (q' := (124, [some (.ref 0), some (.int l1)], [.int r1], M1)) rfl).trans ?_
      exact evn_end 1 rfl
  · refine (evn_adv 1 (q' := (124, [some (.ref 0), some (.int l1)], [.int (jz 1)], M)) rfl).trans ?_
    exact evn_end 1 rfl
/-- TermStrategies.nodesOfAll()I -/
noncomputable abbrev E_55 (d : Nat) : PQ → PO := evn (rnn k_55 lay none (pcl GG lay d) 1)
theorem q_55 (d : Nat)  (M : PM) : pcl GG lay (d + 1) 55 [.ref 0] M = E_55 d (4, [some (.ref 0), some (.int (jn 0)), some (.int (jn 0))], [], M) := by
  refine (pcl_un (mt := t_55) (by decide) rfl (Nat.le_of_ble_eq_true rfl)).trans ?_
  show E_55 d (0, [some (.ref 0), none, none], [], M) = _
  refine (evn_adv 4 (q' := (4, [some (.ref 0), some (.int (jn 0)), some (.int (jn 0))], [], M)) rfl).trans ?_
  rfl
theorem h_55_4 (d : Nat) (l1 : Int32) (l2 : Int32) (M : PM) : E_55 d (4, [some (.ref 0), some (.int l1), some (.int l2)], [], M) = (if l2 < (M.1 1 5) then (kI (pcl GG lay d 59 [.int l2] M) fun r1 M1 => (kI (pcl GG lay d 234 [.ref 6, .int r1] M1) fun r2 M2 => E_55 d (4, [some (.ref 0), some (.int (l1 + r2)), some (.int (l2 + (jn 1)))], [], M2))) else (rI l1 M)) := by
  refine (evn_adv 4 (q' := (12, [some (.ref 0), some (.int l1), some (.int l2)], [.int (M.1 1 5), .int l2], M)) rfl).trans ?_
  refine (e_ic_ge (hf := rfl)).trans ?_
  refine ite_in ?_ ?_
  · refine (evn_adv 4 (q' := (21, [some (.ref 0), some (.int l1), some (.int l2)], [.int l2, .ref 6, .int l1], M)) rfl).trans ?_
    refine (e_kI (q := (21, [some (.ref 0), some (.int l1), some (.int l2)], [.int l2, .ref 6, .int l1])) (q2 := (24, [some (.ref 0), some (.int l1), some (.int l2)], [.ref 6, .int l1])) (M := M) (o := (pcl GG lay d 59 [.int l2] M)) (hf := rfl) rfl rfl).trans ?_
    refine kI_in (fun r1 M1 => ?_)
    refine (e_kI (q := (24, [some (.ref 0), some (.int l1), some (.int l2)], [.int r1, .ref 6, .int l1])) (q2 := (27, [some (.ref 0), some (.int l1), some (.int l2)], [.int l1])) (M := M1) (o := (pcl GG lay d 234 [.ref 6, .int r1] M1)) (hf := rfl) rfl rfl).trans ?_
    refine kI_in (fun r2 M2 => ?_)
    refine (evn_adv 4 (q' := (4, [some (.ref 0), some (.int (l1 + r2)), some (.int (l2 + (jn 1)))], [], M2)) rfl).trans ?_
    rfl
  · refine (evn_adv 1 (q' := (36, [some (.ref 0), some (.int l1), some (.int l2)], [.int l1], M)) rfl).trans ?_
    exact evn_end 1 rfl
/-- TermStrategies.refuse(I)I -/
noncomputable abbrev E_56 (d : Nat) : PQ → PO := evn (rnn k_56 lay none (pcl GG lay d) 1)
theorem q_56 (d : Nat) (l1 : Int32) (M : PM) : pcl GG lay (d + 1) 56 [.ref 0, .int l1] M = (kI (pcl GG lay d 65 [.ref 51, .int (-l1)] M) fun r1 M1 => (kV (pcl GG lay d 66 [.ref 51, .int (-l1), .int (r1 + (jn 1))] M1) fun M2 => (rI l1 M2))) := by
  refine (pcl_un (mt := t_56) (by decide) rfl (Nat.le_of_ble_eq_true rfl)).trans ?_
  show E_56 d (0, [some (.ref 0), some (.int l1)], [], M) = _
  refine (evn_adv 8 (q' := (12, [some (.ref 0), some (.int l1)], [.int (-l1), .ref 51, .int (-l1), .ref 51], M)) rfl).trans ?_
  refine (e_kI (q := (12, [some (.ref 0), some (.int l1)], [.int (-l1), .ref 51, .int (-l1), .ref 51])) (q2 := (15, [some (.ref 0), some (.int l1)], [.int (-l1), .ref 51])) (M := M) (o := (pcl GG lay d 65 [.ref 51, .int (-l1)] M)) (hf := rfl) rfl rfl).trans ?_
  refine kI_in (fun r1 M1 => ?_)
  refine (evn_adv 2 (q' := (17, [some (.ref 0), some (.int l1)], [.int (r1 + (jn 1)), .int (-l1), .ref 51], M1)) rfl).trans ?_
  refine (e_kV (q := (17, [some (.ref 0), some (.int l1)], [.int (r1 + (jn 1)), .int (-l1), .ref 51])) (q2 := (20, [some (.ref 0), some (.int l1)], [])) (M := M1) (o := (pcl GG lay d 66 [.ref 51, .int (-l1), .int (r1 + (jn 1))] M1)) (hf := rfl) rfl rfl).trans ?_
  refine kV_in (fun M2 => ?_)
  refine (evn_adv 1 (q' := (21, [some (.ref 0), some (.int l1)], [.int l1], M2)) rfl).trans ?_
  exact evn_end 1 rfl
/-- TermStrategies.newTerm(I)I -/
noncomputable abbrev E_57 (d : Nat) : PQ → PO := evn (rnn k_57 lay none (pcl GG lay d) 1)
theorem q_57 (d : Nat) (l1 : Int32) (M : PM) : pcl GG lay (d + 1) 57 [.ref 0, .int l1] M = (if (M.1 1 5) < (jn 24) then (kI (pcl GG lay d 243 [.ref 1, .int l1] M) fun r1 M1 => (rI r1 M1)) else (kI (pcl GG lay d 56 [.ref 0, .int (jz 7)] M) fun r1 M1 => (rI r1 M1))) := by
  refine (pcl_un (mt := t_57) (by decide) rfl (Nat.le_of_ble_eq_true rfl)).trans ?_
  show E_57 d (0, [some (.ref 0), some (.int l1)], [], M) = _
  refine (evn_adv 4 (q' := (9, [some (.ref 0), some (.int l1)], [.int (jn 24), .int (M.1 1 5)], M)) rfl).trans ?_
  refine (e_ic_lt (hf := rfl)).trans ?_
  refine ite_in ?_ ?_
  · refine (evn_adv 3 (q' := (24, [some (.ref 0), some (.int l1)], [.int l1, .ref 1], M)) rfl).trans ?_
    refine (e_kI (q := (24, [some (.ref 0), some (.int l1)], [.int l1, .ref 1])) (q2 := (27, [some (.ref 0), some (.int l1)], [])) (M := M) (o := (pcl GG lay d 243 [.ref 1, .int l1] M)) (hf := rfl) rfl rfl).trans ?_
    refine kI_in (fun r1 M1 => ?_)
    exact evn_end 1 rfl
  · refine (evn_adv 2 (q' := (15, [some (.ref 0), some (.int l1)], [.int (jz 7), .ref 0], M)) rfl).trans ?_
    refine (e_kI (q := (15, [some (.ref 0), some (.int l1)], [.int (jz 7), .ref 0])) (q2 := (18, [some (.ref 0), some (.int l1)], [])) (M := M) (o := (pcl GG lay d 56 [.ref 0, .int (jz 7)] M)) (hf := rfl) rfl rfl).trans ?_
    refine kI_in (fun r1 M1 => ?_)
    exact evn_end 1 rfl
/-- TermStrategies.hasNode(II)Z -/
noncomputable abbrev E_58 (d : Nat) : PQ → PO := evn (rnn k_58 lay none (pcl GG lay d) 2)
theorem q_58 (d : Nat) (l1 : Int32) (l2 : Int32) (M : PM) : pcl GG lay (d + 1) 58 [.ref 0, .int l1, .int l2] M = (if l2 < jn 0 then (rZ (jn 0) M) else (kI (pcl GG lay d 234 [.ref 6, .int l1] M) fun r1 M1 => (if l2 < r1 then (rZ (jn 1) M1) else (rZ (jn 0) M1)))) := by
  refine (pcl_un (mt := t_58) (by decide) rfl (Nat.le_of_ble_eq_true rfl)).trans ?_
  show E_58 d (0, [some (.ref 0), some (.int l1), some (.int l2)], [], M) = _
  refine (evn_adv 1 (q' := (1, [some (.ref 0), some (.int l1), some (.int l2)], [.int l2], M)) rfl).trans ?_
  refine (e_if_lt (hf := rfl)).trans ?_
  refine ite_in ?_ ?_
  · refine (evn_adv 1 (q' := (21, [some (.ref 0), some (.int l1), some (.int l2)], [.int (jn 0)], M)) rfl).trans ?_
    exact e_iretz (hf := rfl)
  · refine (evn_adv 4 (q' := (10, [some (.ref 0), some (.int l1), some (.int l2)], [.int l1, .ref 6, .int l2], M)) rfl).trans ?_
    refine (e_kI (q := (10, [some (.ref 0), some (.int l1), some (.int l2)], [.int l1, .ref 6, .int l2])) (q2 := (13, [some (.ref 0), some (.int l1), some (.int l2)], [.int l2])) (M := M) (o := (pcl GG lay d 234 [.ref 6, .int l1] M)) (hf := rfl) rfl rfl).trans ?_
    refine kI_in (fun r1 M1 => ?_)
    refine (e_ic_ge (hf := rfl)).trans ?_
    refine ite_in ?_ ?_
    · refine (evn_adv 2 (q' := (21, [some (.ref 0), some (.int l1), some (.int l2)], [.int (jn 1)], M1)) rfl).trans ?_
      exact e_iretz (hf := rfl)
    · refine (evn_adv 1 (q' := (21, [some (.ref 0), some (.int l1), some (.int l2)], [.int (jn 0)], M1)) rfl).trans ?_
      exact e_iretz (hf := rfl)
/-- TermStrategies.termPlace(I)I -/
noncomputable abbrev E_59 (d : Nat) : PQ → PO := evn (rnn k_59 lay none (pcl GG lay d) 1)
theorem q_59 (d : Nat) (l0 : Int32) (M : PM) : pcl GG lay (d + 1) 59 [.int l0] M = (rI (l0 * (jn 40)) M) := by
  refine (pcl_un (mt := t_59) (by decide) rfl (Nat.le_of_ble_eq_true rfl)).trans ?_
  show E_59 d (0, [some (.int l0)], [], M) = _
  refine (evn_adv 3 (q' := (4, [some (.int l0)], [.int (l0 * (jn 40))], M)) rfl).trans ?_
  exact evn_end 1 rfl
/-- TermStrategies.leftPlace(I)I -/
noncomputable abbrev E_60 (d : Nat) : PQ → PO := evn (rnn k_60 lay none (pcl GG lay d) 1)
theorem q_60 (d : Nat) (l0 : Int32) (M : PM) : pcl GG lay (d + 1) 60 [.int l0] M = (rI ((jn 960) + (l0 * (jn 40))) M) := by
  refine (pcl_un (mt := t_60) (by decide) rfl (Nat.le_of_ble_eq_true rfl)).trans ?_
  show E_60 d (0, [some (.int l0)], [], M) = _
  refine (evn_adv 5 (q' := (8, [some (.int l0)], [.int ((jn 960) + (l0 * (jn 40)))], M)) rfl).trans ?_
  exact evn_end 1 rfl
/-- TermStrategies.rightPlace(I)I -/
noncomputable abbrev E_61 (d : Nat) : PQ → PO := evn (rnn k_61 lay none (pcl GG lay d) 1)
theorem q_61 (d : Nat) (l0 : Int32) (M : PM) : pcl GG lay (d + 1) 61 [.int l0] M = (rI ((jn 1440) + (l0 * (jn 40))) M) := by
  refine (pcl_un (mt := t_61) (by decide) rfl (Nat.le_of_ble_eq_true rfl)).trans ?_
  show E_61 d (0, [some (.int l0)], [], M) = _
  refine (evn_adv 5 (q' := (8, [some (.int l0)], [.int ((jn 1440) + (l0 * (jn 40)))], M)) rfl).trans ?_
  exact evn_end 1 rfl
/-- TermStrategies.isVariable(I)Z -/
noncomputable abbrev E_62 (d : Nat) : PQ → PO := evn (rnn k_62 lay none (pcl GG lay d) 2)
theorem q_62 (d : Nat) (l0 : Int32) (M : PM) : pcl GG lay (d + 1) 62 [.int l0] M = (if l0 < (jn 117) then (rZ (jn 0) M) else (if (jn 122) < l0 then (rZ (jn 0) M) else (rZ (jn 1) M))) := by
  refine (pcl_un (mt := t_62) (by decide) rfl (Nat.le_of_ble_eq_true rfl)).trans ?_
  show E_62 d (0, [some (.int l0)], [], M) = _
  refine (evn_adv 2 (q' := (3, [some (.int l0)], [.int (jn 117), .int l0], M)) rfl).trans ?_
  refine (e_ic_lt (hf := rfl)).trans ?_
  refine ite_in ?_ ?_
  · refine (evn_adv 1 (q' := (17, [some (.int l0)], [.int (jn 0)], M)) rfl).trans ?_
    exact e_iretz (hf := rfl)
  · refine (evn_adv 2 (q' := (9, [some (.int l0)], [.int (jn 122), .int l0], M)) rfl).trans ?_
    refine (e_ic_gt (hf := rfl)).trans ?_
    refine ite_in ?_ ?_
    · refine (evn_adv 1 (q' := (17, [some (.int l0)], [.int (jn 0)], M)) rfl).trans ?_
      exact e_iretz (hf := rfl)
    · refine (evn_adv 2 (q' := (17, [some (.int l0)], [.int (jn 1)], M)) rfl).trans ?_
      exact e_iretz (hf := rfl)
/-- TermStrategies.arity(I)I -/
noncomputable abbrev E_63 (d : Nat) : PQ → PO := evn (rnn k_63 lay none (pcl GG lay d) 1)
theorem q_63 (d : Nat) (l0 : Int32) (M : PM) : pcl GG lay (d + 1) 63 [.int l0] M = (if l0 < (jn 105) then (if l0 < (jn 101) then (if l0 < (jn 97) then (if l0 < (jn 117) then (rI (jz 1) M) else (if (jn 122) < l0 then (rI (jz 1) M) else (rI (jn 0) M))) else (if (jn 100) < l0 then (if l0 < (jn 117) then (rI (jz 1) M) else (if (jn 122) < l0 then (rI (jz 1) M) else (rI (jn 0) M))) else (rI (jn 0) M))) else (if (jn 104) < l0 then (if l0 < (jn 97) then (if l0 < (jn 117) then (rI (jz 1) M) else (if (jn 122) < l0 then (rI (jz 1) M) else (rI (jn 0) M))) else (if (jn 100) < l0 then (if l0 < (jn 117) then (rI (jz 1) M) else (if (jn 122) < l0 then (rI (jz 1) M) else (rI (jn 0) M))) else (rI (jn 0) M))) else (rI (jn 1) M))) else (if (jn 108) < l0 then (if l0 < (jn 101) then (if l0 < (jn 97) then (if l0 < (jn 117) then (rI (jz 1) M) else (if (jn 122) < l0 then (rI (jz 1) M) else (rI (jn 0) M))) else (if (jn 100) < l0 then (if l0 < (jn 117) then (rI (jz 1) M) else (if (jn 122) < l0 then (rI (jz 1) M) else (rI (jn 0) M))) else (rI (jn 0) M))) else (if (jn 104) < l0 then (if l0 < (jn 97) then (if l0 < (jn 117) then (rI (jz 1) M) else (if (jn 122) < l0 then (rI (jz 1) M) else (rI (jn 0) M))) else (if (jn 100) < l0 then (if l0 < (jn 117) then (rI (jz 1) M) else (if (jn 122) < l0 then (rI (jz 1) M) else (rI (jn 0) M))) else (rI (jn 0) M))) else (rI (jn 1) M))) else (rI (jn 2) M))) := by
  refine (pcl_un (mt := t_63) (by decide) rfl (Nat.le_of_ble_eq_true rfl)).trans ?_
  show E_63 d (0, [some (.int l0)], [], M) = _
  refine (evn_adv 2 (q' := (3, [some (.int l0)], [.int (jn 105), .int l0], M)) rfl).trans ?_
  refine (e_ic_lt (hf := rfl)).trans ?_
  refine ite_in ?_ ?_
  · refine (evn_adv 2 (q' := (17, [some (.int l0)], [.int (jn 101), .int l0], M)) rfl).trans ?_
    refine (e_ic_lt (hf := rfl)).trans ?_
    refine ite_in ?_ ?_
    · refine (evn_adv 2 (q' := (31, [some (.int l0)], [.int (jn 97), .int l0], M)) rfl).trans ?_
      refine (e_ic_lt (hf := rfl)).trans ?_
      refine ite_in ?_ ?_
      · refine (evn_adv 2 (q' := (43, [some (.int l0)], [.int (jn 117), .int l0], M)) rfl).trans ?_
        refine (e_ic_lt (hf := rfl)).trans ?_
        refine ite_in ?_ ?_
        · refine (evn_adv 1 (q' := (57, [some (.int l0)], [.int (jz 1)], M)) rfl).trans ?_
          exact evn_end 1 rfl
        · refine (evn_adv 2 (q' := (49, [some (.int l0)], [.int (jn 122), .int l0], M)) rfl).trans ?_
          refine (e_ic_gt (hf := rfl)).trans ?_
          refine ite_in ?_ ?_
          · refine (evn_adv 1 (q' := (57, [some (.int l0)], [.int (jz 1)], M)) rfl).trans ?_
            exact evn_end 1 rfl
          · refine (evn_adv 2 (q' := (57, [some (.int l0)], [.int (jn 0)], M)) rfl).trans ?_
            exact evn_end 1 rfl
      · refine (evn_adv 2 (q' := (37, [some (.int l0)], [.int (jn 100), .int l0], M)) rfl).trans ?_
        refine (e_ic_le (hf := rfl)).trans ?_
        refine ite_in ?_ ?_
        · refine (evn_adv 2 (q' := (43, [some (.int l0)], [.int (jn 117), .int l0], M)) rfl).trans ?_
          refine (e_ic_lt (hf := rfl)).trans ?_
          refine ite_in ?_ ?_
          · refine (evn_adv 1 (q' := (57, [some (.int l0)], [.int (jz 1)], M)) rfl).trans ?_
            exact evn_end 1 rfl
          · refine (evn_adv 2 (q' := (49, [some (.int l0)], [.int (jn 122), .int l0], M)) rfl).trans ?_
            refine (e_ic_gt (hf := rfl)).trans ?_
            refine ite_in ?_ ?_
            · refine (evn_adv 1 (q' := (57, [some (.int l0)], [.int (jz 1)], M)) rfl).trans ?_
              exact evn_end 1 rfl
            · refine (evn_adv 2 (q' := (57, [some (.int l0)], [.int (jn 0)], M)) rfl).trans ?_
              exact evn_end 1 rfl
        · refine (evn_adv 2 (q' := (57, [some (.int l0)], [.int (jn 0)], M)) rfl).trans ?_
          exact evn_end 1 rfl
    · refine (evn_adv 2 (q' := (23, [some (.int l0)], [.int (jn 104), .int l0], M)) rfl).trans ?_
      refine (e_ic_gt (hf := rfl)).trans ?_
      refine ite_in ?_ ?_
      · refine (evn_adv 2 (q' := (31, [some (.int l0)], [.int (jn 97), .int l0], M)) rfl).trans ?_
        refine (e_ic_lt (hf := rfl)).trans ?_
        refine ite_in ?_ ?_
        · refine (evn_adv 2 (q' := (43, [some (.int l0)], [.int (jn 117), .int l0], M)) rfl).trans ?_
          refine (e_ic_lt (hf := rfl)).trans ?_
          refine ite_in ?_ ?_
          · refine (evn_adv 1 (q' := (57, [some (.int l0)], [.int (jz 1)], M)) rfl).trans ?_
            exact evn_end 1 rfl
          · refine (evn_adv 2 (q' := (49, [some (.int l0)], [.int (jn 122), .int l0], M)) rfl).trans ?_
            refine (e_ic_gt (hf := rfl)).trans ?_
            refine ite_in ?_ ?_
            · refine (evn_adv 1 (q' := (57, [some (.int l0)], [.int (jz 1)], M)) rfl).trans ?_
              exact evn_end 1 rfl
            · refine (evn_adv 2 (q' := (57, [some (.int l0)], [.int (jn 0)], M)) rfl).trans ?_
              exact evn_end 1 rfl
        · refine (evn_adv 2 (q' := (37, [some (.int l0)], [.int (jn 100), .int l0], M)) rfl).trans ?_
          refine (e_ic_le (hf := rfl)).trans ?_
          refine ite_in ?_ ?_
          · refine (evn_adv 2 (q' := (43, [some (.int l0)], [.int (jn 117), .int l0], M)) rfl).trans ?_
            refine (e_ic_lt (hf := rfl)).trans ?_
            refine ite_in ?_ ?_
            · refine (evn_adv 1 (q' := (57, [some (.int l0)], [.int (jz 1)], M)) rfl).trans ?_
              exact evn_end 1 rfl
            · refine (evn_adv 2 (q' := (49, [some (.int l0)], [.int (jn 122), .int l0], M)) rfl).trans ?_
              refine (e_ic_gt (hf := rfl)).trans ?_
              refine ite_in ?_ ?_
              · refine (evn_adv 1 (q' := (57, [some (.int l0)], [.int (jz 1)], M)) rfl).trans ?_
                exact evn_end 1 rfl
              · refine (evn_adv 2 (q' := (57, [some (.int l0)], [.int (jn 0)], M)) rfl).trans ?_
                exact evn_end 1 rfl
          · refine (evn_adv 2 (q' := (57, [some (.int l0)], [.int (jn 0)], M)) rfl).trans ?_
            exact evn_end 1 rfl
      · refine (evn_adv 1 (q' := (27, [some (.int l0)], [.int (jn 1)], M)) rfl).trans ?_
        exact evn_end 1 rfl
  · refine (evn_adv 2 (q' := (9, [some (.int l0)], [.int (jn 108), .int l0], M)) rfl).trans ?_
    refine (e_ic_gt (hf := rfl)).trans ?_
    refine ite_in ?_ ?_
    · refine (evn_adv 2 (q' := (17, [some (.int l0)], [.int (jn 101), .int l0], M)) rfl).trans ?_
      refine (e_ic_lt (hf := rfl)).trans ?_
      refine ite_in ?_ ?_
      · refine (evn_adv 2 (q' := (31, [some (.int l0)], [.int (jn 97), .int l0], M)) rfl).trans ?_
        refine (e_ic_lt (hf := rfl)).trans ?_
        refine ite_in ?_ ?_
        · refine (evn_adv 2 (q' := (43, [some (.int l0)], [.int (jn 117), .int l0], M)) rfl).trans ?_
          refine (e_ic_lt (hf := rfl)).trans ?_
          refine ite_in ?_ ?_
          · refine (evn_adv 1 (q' := (57, [some (.int l0)], [.int (jz 1)], M)) rfl).trans ?_
            exact evn_end 1 rfl
          · refine (evn_adv 2 (q' := (49, [some (.int l0)], [.int (jn 122), .int l0], M)) rfl).trans ?_
            refine (e_ic_gt (hf := rfl)).trans ?_
            refine ite_in ?_ ?_
            · refine (evn_adv 1 (q' := (57, [some (.int l0)], [.int (jz 1)], M)) rfl).trans ?_
              exact evn_end 1 rfl
            · refine (evn_adv 2 (q' := (57, [some (.int l0)], [.int (jn 0)], M)) rfl).trans ?_
              exact evn_end 1 rfl
        · refine (evn_adv 2 (q' := (37, [some (.int l0)], [.int (jn 100), .int l0], M)) rfl).trans ?_
          refine (e_ic_le (hf := rfl)).trans ?_
          refine ite_in ?_ ?_
          · refine (evn_adv 2 (q' := (43, [some (.int l0)], [.int (jn 117), .int l0], M)) rfl).trans ?_
            refine (e_ic_lt (hf := rfl)).trans ?_
            refine ite_in ?_ ?_
            · refine (evn_adv 1 (q' := (57, [some (.int l0)], [.int (jz 1)], M)) rfl).trans ?_
              exact evn_end 1 rfl
            · refine (evn_adv 2 (q' := (49, [some (.int l0)], [.int (jn 122), .int l0], M)) rfl).trans ?_
              refine (e_ic_gt (hf := rfl)).trans ?_
              refine ite_in ?_ ?_
              · refine (evn_adv 1 (q' := (57, [some (.int l0)], [.int (jz 1)], M)) rfl).trans ?_
                exact evn_end 1 rfl
              · refine (evn_adv 2 (q' := (57, [some (.int l0)], [.int (jn 0)], M)) rfl).trans ?_
                exact evn_end 1 rfl
          · refine (evn_adv 2 (q' := (57, [some (.int l0)], [.int (jn 0)], M)) rfl).trans ?_
            exact evn_end 1 rfl
      · refine (evn_adv 2 (q' := (23, [some (.int l0)], [.int (jn 104), .int l0], M)) rfl).trans ?_
        refine (e_ic_gt (hf := rfl)).trans ?_
        refine ite_in ?_ ?_
        · refine (evn_adv 2 (q' := (31, [some (.int l0)], [.int (jn 97), .int l0], M)) rfl).trans ?_
          refine (e_ic_lt (hf := rfl)).trans ?_
          refine ite_in ?_ ?_
          · refine (evn_adv 2 (q' := (43, [some (.int l0)], [.int (jn 117), .int l0], M)) rfl).trans ?_
            refine (e_ic_lt (hf := rfl)).trans ?_
            refine ite_in ?_ ?_
            · refine (evn_adv 1 (q' := (57, [some (.int l0)], [.int (jz 1)], M)) rfl).trans ?_
              exact evn_end 1 rfl
            · refine (evn_adv 2 (q' := (49, [some (.int l0)], [.int (jn 122), .int l0], M)) rfl).trans ?_
              refine (e_ic_gt (hf := rfl)).trans ?_
              refine ite_in ?_ ?_
              · refine (evn_adv 1 (q' := (57, [some (.int l0)], [.int (jz 1)], M)) rfl).trans ?_
                exact evn_end 1 rfl
              · refine (evn_adv 2 (q' := (57, [some (.int l0)], [.int (jn 0)], M)) rfl).trans ?_
                exact evn_end 1 rfl
          · refine (evn_adv 2 (q' := (37, [some (.int l0)], [.int (jn 100), .int l0], M)) rfl).trans ?_
            refine (e_ic_le (hf := rfl)).trans ?_
            refine ite_in ?_ ?_
            · refine (evn_adv 2 (q' := (43, [some (.int l0)], [.int (jn 117), .int l0], M)) rfl).trans ?_
              refine (e_ic_lt (hf := rfl)).trans ?_
              refine ite_in ?_ ?_
              · refine (evn_adv 1 (q' := (57, [some (.int l0)], [.int (jz 1)], M)) rfl).trans ?_
                exact evn_end 1 rfl
              · refine (evn_adv 2 (q' := (49, [some (.int l0)], [.int (jn 122), .int l0], M)) rfl).trans ?_
                refine (e_ic_gt (hf := rfl)).trans ?_
                refine ite_in ?_ ?_
                · refine (evn_adv 1 (q' := (57, [some (.int l0)], [.int (jz 1)], M)) rfl).trans ?_
                  exact evn_end 1 rfl
                · refine (evn_adv 2 (q' := (57, [some (.int l0)], [.int (jn 0)], M)) rfl).trans ?_
                  exact evn_end 1 rfl
            · refine (evn_adv 2 (q' := (57, [some (.int l0)], [.int (jn 0)], M)) rfl).trans ?_
              exact evn_end 1 rfl
        · refine (evn_adv 1 (q' := (27, [some (.int l0)], [.int (jn 1)], M)) rfl).trans ?_
          exact evn_end 1 rfl
    · refine (evn_adv 1 (q' := (13, [some (.int l0)], [.int (jn 2)], M)) rfl).trans ?_
      exact evn_end 1 rfl
/-- TermStrategies.isOverTwo(I)Z -/
noncomputable abbrev E_64 (d : Nat) : PQ → PO := evn (rnn k_64 lay none (pcl GG lay d) 2)
theorem q_64 (d : Nat) (l0 : Int32) (M : PM) : pcl GG lay (d + 1) 64 [.int l0] M = (if l0 = (jn 3) then (rZ (jn 1) M) else (if l0 = (jn 4) then (rZ (jn 1) M) else (rZ (jn 0) M))) := by
  refine (pcl_un (mt := t_64) (by decide) rfl (Nat.le_of_ble_eq_true rfl)).trans ?_
  show E_64 d (0, [some (.int l0)], [], M) = _
  refine (evn_adv 2 (q' := (2, [some (.int l0)], [.int (jn 3), .int l0], M)) rfl).trans ?_
  refine (e_ic_eq (hf := rfl)).trans ?_
  refine ite_in ?_ ?_
  · refine (evn_adv 2 (q' := (15, [some (.int l0)], [.int (jn 1)], M)) rfl).trans ?_
    exact e_iretz (hf := rfl)
  · refine (evn_adv 2 (q' := (7, [some (.int l0)], [.int (jn 4), .int l0], M)) rfl).trans ?_
    refine (e_ic_ne (hf := rfl)).trans ?_
    refine ite_in ?_ ?_
    · refine (evn_adv 2 (q' := (15, [some (.int l0)], [.int (jn 1)], M)) rfl).trans ?_
      exact e_iretz (hf := rfl)
    · refine (evn_adv 1 (q' := (15, [some (.int l0)], [.int (jn 0)], M)) rfl).trans ?_
      exact e_iretz (hf := rfl)
/-- TermStrategies.get([II)I -/
noncomputable abbrev E_65 (d : Nat) : PQ → PO := evn (rnn k_65 lay none (pcl GG lay d) 1)
theorem q_65 (d : Nat) (l0 : Nat) (l1 : Int32) (M : PM) : pcl GG lay (d + 1) 65 [.ref l0, .int l1] M = (if l1 < jn 0 then (rI (jn 0) M) else (oB (alen lay none l0) fun v1 => (if l1 < v1 then (oB (aldI lay none M l0 l1) fun v2 => (rI v2 M)) else (rI (jn 0) M)))) := by
  refine (pcl_un (mt := t_65) (by decide) rfl (Nat.le_of_ble_eq_true rfl)).trans ?_
  show E_65 d (0, [some (.ref l0), some (.int l1)], [], M) = _
  refine (evn_adv 1 (q' := (1, [some (.ref l0), some (.int l1)], [.int l1], M)) rfl).trans ?_
  refine (e_if_lt (hf := rfl)).trans ?_
  refine ite_in ?_ ?_
  · refine (evn_adv 2 (q' := (17, [some (.ref l0), some (.int l1)], [.int (jn 0)], M)) rfl).trans ?_
    exact evn_end 1 rfl
  · refine (evn_adv 2 (q' := (6, [some (.ref l0), some (.int l1)], [.ref l0, .int l1], M)) rfl).trans ?_
    refine (e_oB (q := (6, [some (.ref l0), some (.int l1)], [.ref l0, .int l1], M)) (o := (alen lay none l0)) (f := fun v1 => (7, [some (.ref l0), some (.int l1)], [.int v1, .int l1], M)) (hf := rfl) rfl).trans ?_
    refine oB_in (fun v1 => ?_)
    refine (e_ic_lt (hf := rfl)).trans ?_
    refine ite_in ?_ ?_
    · refine (evn_adv 2 (q' := (16, [some (.ref l0), some (.int l1)], [.int l1, .ref l0], M)) rfl).trans ?_
      refine (e_oB (q := (16, [some (.ref l0), some (.int l1)], [.int l1, .ref l0], M)) (o := (aldI lay none M l0 l1)) (f := fun v2 => (17, [some (.ref l0), some (.int l1)], [.int v2], M)) (hf := rfl) rfl).trans ?_
      refine oB_in (fun v2 => ?_)
      exact evn_end 1 rfl
    · refine (evn_adv 2 (q' := (17, [some (.ref l0), some (.int l1)], [.int (jn 0)], M)) rfl).trans ?_
      exact evn_end 1 rfl
/-- TermStrategies.put([III)V -/
noncomputable abbrev E_66 (d : Nat) : PQ → PO := evn (rnn k_66 lay none (pcl GG lay d) 0)
theorem q_66 (d : Nat) (l0 : Nat) (l1 : Int32) (l2 : Int32) (M : PM) : pcl GG lay (d + 1) 66 [.ref l0, .int l1, .int l2] M = (if l1 < jn 0 then (rV M) else (oB (alen lay none l0) fun v1 => (if l1 < v1 then (oB (astI lay M l0 l1 l2) fun M2 => (rV M2)) else (rV M)))) := by
  refine (pcl_un (mt := t_66) (by decide) rfl (Nat.le_of_ble_eq_true rfl)).trans ?_
  show E_66 d (0, [some (.ref l0), some (.int l1), some (.int l2)], [], M) = _
  refine (evn_adv 1 (q' := (1, [some (.ref l0), some (.int l1), some (.int l2)], [.int l1], M)) rfl).trans ?_
  refine (e_if_lt (hf := rfl)).trans ?_
  refine ite_in ?_ ?_
  · exact evn_end 1 rfl
  · refine (evn_adv 2 (q' := (6, [some (.ref l0), some (.int l1), some (.int l2)], [.ref l0, .int l1], M)) rfl).trans ?_
    refine (e_oB (q := (6, [some (.ref l0), some (.int l1), some (.int l2)], [.ref l0, .int l1], M)) (o := (alen lay none l0)) (f := fun v1 => (7, [some (.ref l0), some (.int l1), some (.int l2)], [.int v1, .int l1], M)) (hf := rfl) rfl).trans ?_
    refine oB_in (fun v1 => ?_)
    refine (e_ic_ge (hf := rfl)).trans ?_
    refine ite_in ?_ ?_
    · refine (evn_adv 3 (q' := (13, [some (.ref l0), some (.int l1), some (.int l2)], [.int l2, .int l1, .ref l0], M)) rfl).trans ?_
      refine (e_oB (q := (13, [some (.ref l0), some (.int l1), some (.int l2)], [.int l2, .int l1, .ref l0], M)) (o := (astI lay M l0 l1 l2)) (f := fun M2 => (14, [some (.ref l0), some (.int l1), some (.int l2)], [], M2)) (hf := rfl) rfl).trans ?_
      refine oB_in (fun M2 => ?_)
      exact evn_end 1 rfl
    · exact evn_end 1 rfl
/-- TermStrategies.getLong([JI)J -/
noncomputable abbrev E_67 (d : Nat) : PQ → PO := evn (rnn k_67 lay none (pcl GG lay d) 3)
theorem q_67 (d : Nat) (l0 : Nat) (l1 : Int32) (M : PM) : pcl GG lay (d + 1) 67 [.ref l0, .int l1] M = (if l1 < jn 0 then (rL (Int64.ofNat 0) M) else (oB (alen lay none l0) fun v1 => (if l1 < v1 then (oB (aldL lay M l0 l1) fun v2 => (rL v2 M)) else (rL (Int64.ofNat 0) M)))) := by
  refine (pcl_un (mt := t_67) (by decide) rfl (Nat.le_of_ble_eq_true rfl)).trans ?_
  show E_67 d (0, [some (.ref l0), some (.int l1)], [], M) = _
  refine (evn_adv 1 (q' := (1, [some (.ref l0), some (.int l1)], [.int l1], M)) rfl).trans ?_
  refine (e_if_lt (hf := rfl)).trans ?_
  refine ite_in ?_ ?_
  · refine (evn_adv 2 (q' := (17, [some (.ref l0), some (.int l1)], [.long (Int64.ofNat 0)], M)) rfl).trans ?_
    exact evn_end 1 rfl
  · refine (evn_adv 2 (q' := (6, [some (.ref l0), some (.int l1)], [.ref l0, .int l1], M)) rfl).trans ?_
    refine (e_oB (q := (6, [some (.ref l0), some (.int l1)], [.ref l0, .int l1], M)) (o := (alen lay none l0)) (f := fun v1 => (7, [some (.ref l0), some (.int l1)], [.int v1, .int l1], M)) (hf := rfl) rfl).trans ?_
    refine oB_in (fun v1 => ?_)
    refine (e_ic_lt (hf := rfl)).trans ?_
    refine ite_in ?_ ?_
    · refine (evn_adv 2 (q' := (16, [some (.ref l0), some (.int l1)], [.int l1, .ref l0], M)) rfl).trans ?_
      refine (e_oB (q := (16, [some (.ref l0), some (.int l1)], [.int l1, .ref l0], M)) (o := (aldL lay M l0 l1)) (f := fun v2 => (17, [some (.ref l0), some (.int l1)], [.long v2], M)) (hf := rfl) rfl).trans ?_
      refine oB_in (fun v2 => ?_)
      exact evn_end 1 rfl
    · refine (evn_adv 2 (q' := (17, [some (.ref l0), some (.int l1)], [.long (Int64.ofNat 0)], M)) rfl).trans ?_
      exact evn_end 1 rfl
/-- TermStrategies.putLong([JIJ)V -/
noncomputable abbrev E_68 (d : Nat) : PQ → PO := evn (rnn k_68 lay none (pcl GG lay d) 0)
theorem q_68 (d : Nat) (l0 : Nat) (l1 : Int32) (l2 : Int64) (M : PM) : pcl GG lay (d + 1) 68 [.ref l0, .int l1, .long l2] M = (if l1 < jn 0 then (rV M) else (oB (alen lay none l0) fun v1 => (if l1 < v1 then (oB (astL lay M l0 l1 l2) fun M2 => (rV M2)) else (rV M)))) := by
  refine (pcl_un (mt := t_68) (by decide) rfl (Nat.le_of_ble_eq_true rfl)).trans ?_
  show E_68 d (0, [some (.ref l0), some (.int l1), some (.long l2), none], [], M) = _
  refine (evn_adv 1 (q' := (1, [some (.ref l0), some (.int l1), some (.long l2), none], [.int l1], M)) rfl).trans ?_
  refine (e_if_lt (hf := rfl)).trans ?_
  refine ite_in ?_ ?_
  · exact evn_end 1 rfl
  · refine (evn_adv 2 (q' := (6, [some (.ref l0), some (.int l1), some (.long l2), none], [.ref l0, .int l1], M)) rfl).trans ?_
    refine (e_oB (q := (6, [some (.ref l0), some (.int l1), some (.long l2), none], [.ref l0, .int l1], M)) (o := (alen lay none l0)) (f := fun v1 => (7, [some (.ref l0), some (.int l1), some (.long l2), none], [.int v1, .int l1], M)) (hf := rfl) rfl).trans ?_
    refine oB_in (fun v1 => ?_)
    refine (e_ic_ge (hf := rfl)).trans ?_
    refine ite_in ?_ ?_
    · refine (evn_adv 3 (q' := (13, [some (.ref l0), some (.int l1), some (.long l2), none], [.long l2, .int l1, .ref l0], M)) rfl).trans ?_
      refine (e_oB (q := (13, [some (.ref l0), some (.int l1), some (.long l2), none], [.long l2, .int l1, .ref l0], M)) (o := (astL lay M l0 l1 l2)) (f := fun M2 => (14, [some (.ref l0), some (.int l1), some (.long l2), none], [], M2)) (hf := rfl) rfl).trans ?_
      refine oB_in (fun M2 => ?_)
      exact evn_end 1 rfl
    · exact evn_end 1 rfl
/-- TermStrategiesModel.no(I)I -/
noncomputable abbrev E_69 (d : Nat) : PQ → PO := evn (rnn k_69 lay none (pcl GG lay d) 1)
theorem q_69 (d : Nat) (l1 : Int32) (M : PM) : pcl GG lay (d + 1) 69 [.ref 52, .int l1] M = (oB (aldI lay none M 64 (-l1)) fun v1 => (oB (astI lay M 64 (-l1) (v1 + (jn 1))) fun M2 => (rI l1 M2))) := by
  refine (pcl_un (mt := t_69) (by decide) rfl (Nat.le_of_ble_eq_true rfl)).trans ?_
  show E_69 d (0, [some (.ref 52), some (.int l1)], [], M) = _
  refine (evn_adv 5 (q' := (7, [some (.ref 52), some (.int l1)], [.int (-l1), .ref 64, .int (-l1), .ref 64], M)) rfl).trans ?_
  refine (e_oB (q := (7, [some (.ref 52), some (.int l1)], [.int (-l1), .ref 64, .int (-l1), .ref 64], M)) (o := (aldI lay none M 64 (-l1))) (f := fun v1 => (8, [some (.ref 52), some (.int l1)], [.int v1, .int (-l1), .ref 64], M)) (hf := rfl) rfl).trans ?_
  refine oB_in (fun v1 => ?_)
  refine (evn_adv 2 (q' := (10, [some (.ref 52), some (.int l1)], [.int (v1 + (jn 1)), .int (-l1), .ref 64], M)) rfl).trans ?_
  refine (e_oB (q := (10, [some (.ref 52), some (.int l1)], [.int (v1 + (jn 1)), .int (-l1), .ref 64], M)) (o := (astI lay M 64 (-l1) (v1 + (jn 1)))) (f := fun M2 => (11, [some (.ref 52), some (.int l1)], [], M2)) (hf := rfl) rfl).trans ?_
  refine oB_in (fun M2 => ?_)
  refine (evn_adv 1 (q' := (12, [some (.ref 52), some (.int l1)], [.int l1], M2)) rfl).trans ?_
  exact evn_end 1 rfl
/-- TermStrategiesModel.no10(I)I -/
noncomputable abbrev E_70 (d : Nat) : PQ → PO := evn (rnn k_70 lay none (pcl GG lay d) 1)
theorem q_70 (d : Nat) (l1 : Int32) (M : PM) : pcl GG lay (d + 1) 70 [.ref 52, .int l1] M = (kI (pcl GG lay d 69 [.ref 52, .int l1] M) fun r1 M1 => (rI (r1 - (jn 10)) M1)) := by
  refine (pcl_un (mt := t_70) (by decide) rfl (Nat.le_of_ble_eq_true rfl)).trans ?_
  show E_70 d (0, [some (.ref 52), some (.int l1)], [], M) = _
  refine (evn_adv 2 (q' := (2, [some (.ref 52), some (.int l1)], [.int l1, .ref 52], M)) rfl).trans ?_
  refine (e_kI (q := (2, [some (.ref 52), some (.int l1)], [.int l1, .ref 52])) (q2 := (5, [some (.ref 52), some (.int l1)], [])) (M := M) (o := (pcl GG lay d 69 [.ref 52, .int l1] M)) (hf := rfl) rfl rfl).trans ?_
  refine kI_in (fun r1 M1 => ?_)
  refine (evn_adv 2 (q' := (8, [some (.ref 52), some (.int l1)], [.int (r1 - (jn 10))], M1)) rfl).trans ?_
  exact evn_end 1 rfl
/-- TermStrategiesModel.within(III)Z -/
noncomputable abbrev E_71 (d : Nat) : PQ → PO := evn (rnn k_71 lay none (pcl GG lay d) 2)
theorem q_71 (d : Nat) (l0 : Int32) (l1 : Int32) (l2 : Int32) (M : PM) : pcl GG lay (d + 1) 71 [.int l0, .int l1, .int l2] M = (if l0 < l1 then (rZ (jn 0) M) else (if l2 < l0 then (rZ (jn 0) M) else (rZ (jn 1) M))) := by
  refine (pcl_un (mt := t_71) (by decide) rfl (Nat.le_of_ble_eq_true rfl)).trans ?_
  show E_71 d (0, [some (.int l0), some (.int l1), some (.int l2)], [], M) = _
  refine (evn_adv 2 (q' := (2, [some (.int l0), some (.int l1), some (.int l2)], [.int l1, .int l0], M)) rfl).trans ?_
  refine (e_ic_lt (hf := rfl)).trans ?_
  refine ite_in ?_ ?_
  · refine (evn_adv 1 (q' := (15, [some (.int l0), some (.int l1), some (.int l2)], [.int (jn 0)], M)) rfl).trans ?_
    exact e_iretz (hf := rfl)
  · refine (evn_adv 2 (q' := (7, [some (.int l0), some (.int l1), some (.int l2)], [.int l2, .int l0], M)) rfl).trans ?_
    refine (e_ic_gt (hf := rfl)).trans ?_
    refine ite_in ?_ ?_
    · refine (evn_adv 1 (q' := (15, [some (.int l0), some (.int l1), some (.int l2)], [.int (jn 0)], M)) rfl).trans ?_
      exact e_iretz (hf := rfl)
    · refine (evn_adv 2 (q' := (15, [some (.int l0), some (.int l1), some (.int l2)], [.int (jn 1)], M)) rfl).trans ?_
      exact e_iretz (hf := rfl)
/-- TermStrategiesModel.isTerm(I)Z -/
noncomputable abbrev E_72 (d : Nat) : PQ → PO := evn (rnn k_72 lay none (pcl GG lay d) 2)
theorem q_72 (d : Nat) (l1 : Int32) (M : PM) : pcl GG lay (d + 1) 72 [.ref 52, .int l1] M = (kI (pcl GG lay d 71 [.int l1, .int (jn 0), .int ((M.1 52 0) - (jn 1))] M) fun r1 M1 => (rZ r1 M1)) := by
  refine (pcl_un (mt := t_72) (by decide) rfl (Nat.le_of_ble_eq_true rfl)).trans ?_
  show E_72 d (0, [some (.ref 52), some (.int l1)], [], M) = _
  refine (evn_adv 6 (q' := (8, [some (.ref 52), some (.int l1)], [.int ((M.1 52 0) - (jn 1)), .int (jn 0), .int l1], M)) rfl).trans ?_
  refine (e_kI (q := (8, [some (.ref 52), some (.int l1)], [.int ((M.1 52 0) - (jn 1)), .int (jn 0), .int l1])) (q2 := (11, [some (.ref 52), some (.int l1)], [])) (M := M) (o := (pcl GG lay d 71 [.int l1, .int (jn 0), .int ((M.1 52 0) - (jn 1))] M)) (hf := rfl) rfl rfl).trans ?_
  refine kI_in (fun r1 M1 => ?_)
  exact e_iretz (hf := rfl)
/-- TermStrategiesModel.isRule(I)Z -/
noncomputable abbrev E_73 (d : Nat) : PQ → PO := evn (rnn k_73 lay none (pcl GG lay d) 2)
theorem q_73 (d : Nat) (l1 : Int32) (M : PM) : pcl GG lay (d + 1) 73 [.ref 52, .int l1] M = (kI (pcl GG lay d 71 [.int l1, .int (jn 0), .int ((M.1 52 3) - (jn 1))] M) fun r1 M1 => (rZ r1 M1)) := by
  refine (pcl_un (mt := t_73) (by decide) rfl (Nat.le_of_ble_eq_true rfl)).trans ?_
  show E_73 d (0, [some (.ref 52), some (.int l1)], [], M) = _
  refine (evn_adv 6 (q' := (8, [some (.ref 52), some (.int l1)], [.int ((M.1 52 3) - (jn 1)), .int (jn 0), .int l1], M)) rfl).trans ?_
  refine (e_kI (q := (8, [some (.ref 52), some (.int l1)], [.int ((M.1 52 3) - (jn 1)), .int (jn 0), .int l1])) (q2 := (11, [some (.ref 52), some (.int l1)], [])) (M := M) (o := (pcl GG lay d 71 [.int l1, .int (jn 0), .int ((M.1 52 3) - (jn 1))] M)) (hf := rfl) rfl rfl).trans ?_
  refine kI_in (fun r1 M1 => ?_)
  exact e_iretz (hf := rfl)
/-- TermStrategiesModel.isStrategy(I)Z -/
noncomputable abbrev E_74 (d : Nat) : PQ → PO := evn (rnn k_74 lay none (pcl GG lay d) 2)
theorem q_74 (d : Nat) (l1 : Int32) (M : PM) : pcl GG lay (d + 1) 74 [.ref 52, .int l1] M = (kI (pcl GG lay d 71 [.int l1, .int (jn 0), .int ((M.1 52 6) - (jn 1))] M) fun r1 M1 => (rZ r1 M1)) := by
  refine (pcl_un (mt := t_74) (by decide) rfl (Nat.le_of_ble_eq_true rfl)).trans ?_
  show E_74 d (0, [some (.ref 52), some (.int l1)], [], M) = _
  refine (evn_adv 6 (q' := (8, [some (.ref 52), some (.int l1)], [.int ((M.1 52 6) - (jn 1)), .int (jn 0), .int l1], M)) rfl).trans ?_
  refine (e_kI (q := (8, [some (.ref 52), some (.int l1)], [.int ((M.1 52 6) - (jn 1)), .int (jn 0), .int l1])) (q2 := (11, [some (.ref 52), some (.int l1)], [])) (M := M) (o := (pcl GG lay d 71 [.int l1, .int (jn 0), .int ((M.1 52 6) - (jn 1))] M)) (hf := rfl) rfl rfl).trans ?_
  refine kI_in (fun r1 M1 => ?_)
  exact e_iretz (hf := rfl)
/-- TermStrategiesModel.isRow(I)Z -/
noncomputable abbrev E_75 (d : Nat) : PQ → PO := evn (rnn k_75 lay none (pcl GG lay d) 2)
theorem q_75 (d : Nat) (l1 : Int32) (M : PM) : pcl GG lay (d + 1) 75 [.ref 52, .int l1] M = (oB (aldI lay none M 61 l1) fun v1 => (if v1 < (jn 100) then (rZ (jn 0) M) else (rZ (jn 1) M))) := by
  refine (pcl_un (mt := t_75) (by decide) rfl (Nat.le_of_ble_eq_true rfl)).trans ?_
  show E_75 d (0, [some (.ref 52), some (.int l1)], [], M) = _
  refine (evn_adv 3 (q' := (5, [some (.ref 52), some (.int l1)], [.int l1, .ref 61], M)) rfl).trans ?_
  refine (e_oB (q := (5, [some (.ref 52), some (.int l1)], [.int l1, .ref 61], M)) (o := (aldI lay none M 61 l1)) (f := fun v1 => (6, [some (.ref 52), some (.int l1)], [.int v1], M)) (hf := rfl) rfl).trans ?_
  refine oB_in (fun v1 => ?_)
  refine (evn_adv 1 (q' := (8, [some (.ref 52), some (.int l1)], [.int (jn 100), .int v1], M)) rfl).trans ?_
  refine (e_ic_lt (hf := rfl)).trans ?_
  refine ite_in ?_ ?_
  · refine (evn_adv 1 (q' := (16, [some (.ref 52), some (.int l1)], [.int (jn 0)], M)) rfl).trans ?_
    exact e_iretz (hf := rfl)
  · refine (evn_adv 2 (q' := (16, [some (.ref 52), some (.int l1)], [.int (jn 1)], M)) rfl).trans ?_
    exact e_iretz (hf := rfl)
/-- TermStrategiesModel.isVariable(I)Z -/
noncomputable abbrev E_76 (d : Nat) : PQ → PO := evn (rnn k_76 lay none (pcl GG lay d) 2)
theorem q_76 (d : Nat) (l0 : Int32) (M : PM) : pcl GG lay (d + 1) 76 [.int l0] M = (kI (pcl GG lay d 71 [.int l0, .int (jn 117), .int (jn 122)] M) fun r1 M1 => (rZ r1 M1)) := by
  refine (pcl_un (mt := t_76) (by decide) rfl (Nat.le_of_ble_eq_true rfl)).trans ?_
  show E_76 d (0, [some (.int l0)], [], M) = _
  refine (evn_adv 3 (q' := (5, [some (.int l0)], [.int (jn 122), .int (jn 117), .int l0], M)) rfl).trans ?_
  refine (e_kI (q := (5, [some (.int l0)], [.int (jn 122), .int (jn 117), .int l0])) (q2 := (8, [some (.int l0)], [])) (M := M) (o := (pcl GG lay d 71 [.int l0, .int (jn 117), .int (jn 122)] M)) (hf := rfl) rfl rfl).trans ?_
  refine kI_in (fun r1 M1 => ?_)
  exact e_iretz (hf := rfl)
/-- TermStrategiesModel.arity(I)I -/
noncomputable abbrev E_77 (d : Nat) : PQ → PO := evn (rnn k_77 lay none (pcl GG lay d) 1)
theorem q_77 (d : Nat) (l0 : Int32) (M : PM) : pcl GG lay (d + 1) 77 [.int l0] M = (kI (pcl GG lay d 71 [.int l0, .int (jn 97), .int (jn 100)] M) fun r1 M1 => (if r1 = jn 0 then (kI (pcl GG lay d 76 [.int l0] M1) fun r2 M2 => (if r2 = jn 0 then (kI (pcl GG lay d 71 [.int l0, .int (jn 101), .int (jn 104)] M2) fun r3 M3 => (if r3 = jn 0 then (kI (pcl GG lay d 71 [.int l0, .int (jn 105), .int (jn 108)] M3) fun r4 M4 => (if r4 = jn 0 then (rI (jz 1) M4) else (rI (jn 2) M4))) else (rI (jn 1) M3))) else (rI (jn 0) M2))) else (rI (jn 0) M1))) := by
  refine (pcl_un (mt := t_77) (by decide) rfl (Nat.le_of_ble_eq_true rfl)).trans ?_
  show E_77 d (0, [some (.int l0)], [], M) = _
  refine (evn_adv 3 (q' := (5, [some (.int l0)], [.int (jn 100), .int (jn 97), .int l0], M)) rfl).trans ?_
  refine (e_kI (q := (5, [some (.int l0)], [.int (jn 100), .int (jn 97), .int l0])) (q2 := (8, [some (.int l0)], [])) (M := M) (o := (pcl GG lay d 71 [.int l0, .int (jn 97), .int (jn 100)] M)) (hf := rfl) rfl rfl).trans ?_
  refine kI_in (fun r1 M1 => ?_)
  refine (e_if_ne (hf := rfl)).trans ?_
  refine ite_in ?_ ?_
  · refine (evn_adv 1 (q' := (12, [some (.int l0)], [.int l0], M1)) rfl).trans ?_
    refine (e_kI (q := (12, [some (.int l0)], [.int l0])) (q2 := (15, [some (.int l0)], [])) (M := M1) (o := (pcl GG lay d 76 [.int l0] M1)) (hf := rfl) rfl rfl).trans ?_
    refine kI_in (fun r2 M2 => ?_)
    refine (e_if_eq (hf := rfl)).trans ?_
    refine ite_in ?_ ?_
    · refine (evn_adv 3 (q' := (25, [some (.int l0)], [.int (jn 104), .int (jn 101), .int l0], M2)) rfl).trans ?_
      refine (e_kI (q := (25, [some (.int l0)], [.int (jn 104), .int (jn 101), .int l0])) (q2 := (28, [some (.int l0)], [])) (M := M2) (o := (pcl GG lay d 71 [.int l0, .int (jn 101), .int (jn 104)] M2)) (hf := rfl) rfl rfl).trans ?_
      refine kI_in (fun r3 M3 => ?_)
      refine (e_if_eq (hf := rfl)).trans ?_
      refine ite_in ?_ ?_
      · refine (evn_adv 3 (q' := (40, [some (.int l0)], [.int (jn 108), .int (jn 105), .int l0], M3)) rfl).trans ?_
        refine (e_kI (q := (40, [some (.int l0)], [.int (jn 108), .int (jn 105), .int l0])) (q2 := (43, [some (.int l0)], [])) (M := M3) (o := (pcl GG lay d 71 [.int l0, .int (jn 105), .int (jn 108)] M3)) (hf := rfl) rfl rfl).trans ?_
        refine kI_in (fun r4 M4 => ?_)
        refine (e_if_eq (hf := rfl)).trans ?_
        refine ite_in ?_ ?_
        · refine (evn_adv 1 (q' := (51, [some (.int l0)], [.int (jz 1)], M4)) rfl).trans ?_
          exact evn_end 1 rfl
        · refine (evn_adv 2 (q' := (51, [some (.int l0)], [.int (jn 2)], M4)) rfl).trans ?_
          exact evn_end 1 rfl
      · refine (evn_adv 2 (q' := (51, [some (.int l0)], [.int (jn 1)], M3)) rfl).trans ?_
        exact evn_end 1 rfl
    · refine (evn_adv 1 (q' := (19, [some (.int l0)], [.int (jn 0)], M2)) rfl).trans ?_
      exact evn_end 1 rfl
  · refine (evn_adv 1 (q' := (19, [some (.int l0)], [.int (jn 0)], M1)) rfl).trans ?_
    exact evn_end 1 rfl
/-- TermStrategiesModel.span([II)I -/
noncomputable abbrev E_78 (d : Nat) : PQ → PO := evn (rnn k_78 lay none (pcl GG lay d) 1)
theorem q_78 (d : Nat) (l0 : Nat) (l1 : Int32) (M : PM) : pcl GG lay (d + 1) 78 [.ref l0, .int l1] M = E_78 d (4, [some (.ref l0), some (.int l1), some (.int (jn 1)), some (.int l1)], [], M) := by
  refine (pcl_un (mt := t_78) (by decide) rfl (Nat.le_of_ble_eq_true rfl)).trans ?_
  show E_78 d (0, [some (.ref l0), some (.int l1), none, none], [], M) = _
  refine (evn_adv 4 (q' := (4, [some (.ref l0), some (.int l1), some (.int (jn 1)), some (.int l1)], [], M)) rfl).trans ?_
  rfl
theorem h_78_4 (d : Nat) (l0 : Nat) (l1 : Int32) (l2 : Int32) (l3 : Int32) (M : PM) : E_78 d (4, [some (.ref l0), some (.int l1), some (.int l2), some (.int l3)], [], M) = (if jn 0 < l2 then (oB (aldI lay none M l0 l3) fun v1 => (kI (pcl GG lay d 77 [.int v1] M) fun r2 M2 => E_78 d (4, [some (.ref l0), some (.int l1), some (.int (l2 + (r2 - (jn 1)))), some (.int (l3 + (jn 1)))], [], M2))) else (rI (l3 - l1) M)) := by
  refine (evn_adv 1 (q' := (5, [some (.ref l0), some (.int l1), some (.int l2), some (.int l3)], [.int l2], M)) rfl).trans ?_
  refine (e_if_le (hf := rfl)).trans ?_
  refine ite_in ?_ ?_
  · refine (evn_adv 3 (q' := (11, [some (.ref l0), some (.int l1), some (.int l2), some (.int l3)], [.int l3, .ref l0, .int l2], M)) rfl).trans ?_
    refine (e_oB (q := (11, [some (.ref l0), some (.int l1), some (.int l2), some (.int l3)], [.int l3, .ref l0, .int l2], M)) (o := (aldI lay none M l0 l3)) (f := fun v1 => (12, [some (.ref l0), some (.int l1), some (.int l2), some (.int l3)], [.int v1, .int l2], M)) (hf := rfl) rfl).trans ?_
    refine oB_in (fun v1 => ?_)
    refine (e_kI (q := (12, [some (.ref l0), some (.int l1), some (.int l2), some (.int l3)], [.int v1, .int l2])) (q2 := (15, [some (.ref l0), some (.int l1), some (.int l2), some (.int l3)], [.int l2])) (M := M) (o := (pcl GG lay d 77 [.int v1] M)) (hf := rfl) rfl rfl).trans ?_
    refine kI_in (fun r2 M2 => ?_)
    refine (evn_adv 6 (q' := (4, [some (.ref l0), some (.int l1), some (.int (l2 + (r2 - (jn 1)))), some (.int (l3 + (jn 1)))], [], M2)) rfl).trans ?_
    rfl
  · refine (evn_adv 3 (q' := (28, [some (.ref l0), some (.int l1), some (.int l2), some (.int l3)], [.int (l3 - l1)], M)) rfl).trans ?_
    exact evn_end 1 rfl
/-- TermStrategiesModel.argument([III)I -/
noncomputable abbrev E_79 (d : Nat) : PQ → PO := evn (rnn k_79 lay none (pcl GG lay d) 1)
theorem q_79 (d : Nat) (l0 : Nat) (l1 : Int32) (l2 : Int32) (M : PM) : pcl GG lay (d + 1) 79 [.ref l0, .int l1, .int l2] M = (if l2 = jn 0 then (rI (l1 + (jn 1)) M) else (kI (pcl GG lay d 78 [.ref l0, .int (l1 + (jn 1))] M) fun r1 M1 => (rI ((l1 + (jn 1)) + r1) M1))) := by
  refine (pcl_un (mt := t_79) (by decide) rfl (Nat.le_of_ble_eq_true rfl)).trans ?_
  show E_79 d (0, [some (.ref l0), some (.int l1), some (.int l2)], [], M) = _
  refine (evn_adv 1 (q' := (1, [some (.ref l0), some (.int l1), some (.int l2)], [.int l2], M)) rfl).trans ?_
  refine (e_if_ne (hf := rfl)).trans ?_
  refine ite_in ?_ ?_
  · refine (evn_adv 4 (q' := (21, [some (.ref l0), some (.int l1), some (.int l2)], [.int (l1 + (jn 1))], M)) rfl).trans ?_
    exact evn_end 1 rfl
  · refine (evn_adv 7 (q' := (17, [some (.ref l0), some (.int l1), some (.int l2)], [.int (l1 + (jn 1)), .ref l0, .int (l1 + (jn 1))], M)) rfl).trans ?_
    refine (e_kI (q := (17, [some (.ref l0), some (.int l1), some (.int l2)], [.int (l1 + (jn 1)), .ref l0, .int (l1 + (jn 1))])) (q2 := (20, [some (.ref l0), some (.int l1), some (.int l2)], [.int (l1 + (jn 1))])) (M := M) (o := (pcl GG lay d 78 [.ref l0, .int (l1 + (jn 1))] M)) (hf := rfl) rfl rfl).trans ?_
    refine kI_in (fun r1 M1 => ?_)
    refine (evn_adv 1 (q' := (21, [some (.ref l0), some (.int l1), some (.int l2)], [.int ((l1 + (jn 1)) + r1)], M1)) rfl).trans ?_
    exact evn_end 1 rfl
/-- TermStrategiesModel.row(III)I -/
noncomputable abbrev E_80 (d : Nat) : PQ → PO := evn (rnn k_80 lay none (pcl GG lay d) 1)
theorem q_80 (d : Nat) (l1 : Int32) (l2 : Int32) (l3 : Int32) (M : PM) : pcl GG lay (d + 1) 80 [.ref 52, .int l1, .int l2, .int l3] M = (kI (pcl GG lay d 71 [.int l1, .int (jn 0), .int (jn 7)] M) fun r1 M1 => (if r1 = jn 0 then (kI (pcl GG lay d 69 [.ref 52, .int (jz 1)] M1) fun r2 M2 => (rI r2 M2)) else (if l3 < jn 0 then (kI (pcl GG lay d 69 [.ref 52, .int (jz 4)] M1) fun r2 M2 => (rI r2 M2)) else (kI (pcl GG lay d 71 [.int l2, .int (jn 0), .int (jn 3)] M1) fun r2 M2 => (if r2 = jn 0 then (kI (pcl GG lay d 69 [.ref 52, .int (jz 6)] M2) fun r3 M3 => (rI r3 M3)) else (if (jn 160) < l3 then (kI (pcl GG lay d 69 [.ref 52, .int (jz 7)] M2) fun r3 M3 => (rI r3 M3)) else (oB (astI lay M2 61 l1 ((jn 100) + l2)) fun M3 => (oB (astI lay M3 62 l1 l3) fun M4 => E_80 d (77, [some (.ref 52), some (.int l1), some (.int l2), some (.int l3), some (.int (jn 0))], [], M4))))))))) := by
  refine (pcl_un (mt := t_80) (by decide) rfl (Nat.le_of_ble_eq_true rfl)).trans ?_
  show E_80 d (0, [some (.ref 52), some (.int l1), some (.int l2), some (.int l3), none], [], M) = _
  refine (evn_adv 3 (q' := (4, [some (.ref 52), some (.int l1), some (.int l2), some (.int l3), none], [.int (jn 7), .int (jn 0), .int l1], M)) rfl).trans ?_
  refine (e_kI (q := (4, [some (.ref 52), some (.int l1), some (.int l2), some (.int l3), none], [.int (jn 7), .int (jn 0), .int l1])) (q2 := (7, [some (.ref 52), some (.int l1), some (.int l2), some (.int l3), none], [])) (M := M) (o := (pcl GG lay d 71 [.int l1, .int (jn 0), .int (jn 7)] M)) (hf := rfl) rfl rfl).trans ?_
  refine kI_in (fun r1 M1 => ?_)
  refine (e_if_ne (hf := rfl)).trans ?_
  refine ite_in ?_ ?_
  · refine (evn_adv 2 (q' := (12, [some (.ref 52), some (.int l1), some (.int l2), some (.int l3), none], [.int (jz 1), .ref 52], M1)) rfl).trans ?_
    refine (e_kI (q := (12, [some (.ref 52), some (.int l1), some (.int l2), some (.int l3), none], [.int (jz 1), .ref 52])) (q2 := (15, [some (.ref 52), some (.int l1), some (.int l2), some (.int l3), none], [])) (M := M1) (o := (pcl GG lay d 69 [.ref 52, .int (jz 1)] M1)) (hf := rfl) rfl rfl).trans ?_
    refine kI_in (fun r2 M2 => ?_)
    exact evn_end 1 rfl
  · refine (evn_adv 1 (q' := (17, [some (.ref 52), some (.int l1), some (.int l2), some (.int l3), none], [.int l3], M1)) rfl).trans ?_
    refine (e_if_ge (hf := rfl)).trans ?_
    refine ite_in ?_ ?_
    · refine (evn_adv 2 (q' := (23, [some (.ref 52), some (.int l1), some (.int l2), some (.int l3), none], [.int (jz 4), .ref 52], M1)) rfl).trans ?_
      refine (e_kI (q := (23, [some (.ref 52), some (.int l1), some (.int l2), some (.int l3), none], [.int (jz 4), .ref 52])) (q2 := (26, [some (.ref 52), some (.int l1), some (.int l2), some (.int l3), none], [])) (M := M1) (o := (pcl GG lay d 69 [.ref 52, .int (jz 4)] M1)) (hf := rfl) rfl rfl).trans ?_
      refine kI_in (fun r2 M2 => ?_)
      exact evn_end 1 rfl
    · refine (evn_adv 3 (q' := (30, [some (.ref 52), some (.int l1), some (.int l2), some (.int l3), none], [.int (jn 3), .int (jn 0), .int l2], M1)) rfl).trans ?_
      refine (e_kI (q := (30, [some (.ref 52), some (.int l1), some (.int l2), some (.int l3), none], [.int (jn 3), .int (jn 0), .int l2])) (q2 := (33, [some (.ref 52), some (.int l1), some (.int l2), some (.int l3), none], [])) (M := M1) (o := (pcl GG lay d 71 [.int l2, .int (jn 0), .int (jn 3)] M1)) (hf := rfl) rfl rfl).trans ?_
      refine kI_in (fun r2 M2 => ?_)
      refine (e_if_ne (hf := rfl)).trans ?_
      refine ite_in ?_ ?_
      · refine (evn_adv 2 (q' := (39, [some (.ref 52), some (.int l1), some (.int l2), some (.int l3), none], [.int (jz 6), .ref 52], M2)) rfl).trans ?_
        refine (e_kI (q := (39, [some (.ref 52), some (.int l1), some (.int l2), some (.int l3), none], [.int (jz 6), .ref 52])) (q2 := (42, [some (.ref 52), some (.int l1), some (.int l2), some (.int l3), none], [])) (M := M2) (o := (pcl GG lay d 69 [.ref 52, .int (jz 6)] M2)) (hf := rfl) rfl rfl).trans ?_
        refine kI_in (fun r3 M3 => ?_)
        exact evn_end 1 rfl
      · refine (evn_adv 2 (q' := (47, [some (.ref 52), some (.int l1), some (.int l2), some (.int l3), none], [.int (jn 160), .int l3], M2)) rfl).trans ?_
        refine (e_ic_le (hf := rfl)).trans ?_
        refine ite_in ?_ ?_
        · refine (evn_adv 2 (q' := (53, [some (.ref 52), some (.int l1), some (.int l2), some (.int l3), none], [.int (jz 7), .ref 52], M2)) rfl).trans ?_
          refine (e_kI (q := (53, [some (.ref 52), some (.int l1), some (.int l2), some (.int l3), none], [.int (jz 7), .ref 52])) (q2 := (56, [some (.ref 52), some (.int l1), some (.int l2), some (.int l3), none], [])) (M := M2) (o := (pcl GG lay d 69 [.ref 52, .int (jz 7)] M2)) (hf := rfl) rfl rfl).trans ?_
          refine kI_in (fun r3 M3 => ?_)
          exact evn_end 1 rfl
        · refine (evn_adv 6 (q' := (66, [some (.ref 52), some (.int l1), some (.int l2), some (.int l3), none], [.int ((jn 100) + l2), .int l1, .ref 61], M2)) rfl).trans ?_
          refine (e_oB (q := (66, [some (.ref 52), some (.int l1), some (.int l2), some (.int l3), none], [.int ((jn 100) + l2), .int l1, .ref 61], M2)) (o := (astI lay M2 61 l1 ((jn 100) + l2))) (f := fun M3 => (67, [some (.ref 52), some (.int l1), some (.int l2), some (.int l3), none], [], M3)) (hf := rfl) rfl).trans ?_
          refine oB_in (fun M3 => ?_)
          refine (evn_adv 4 (q' := (73, [some (.ref 52), some (.int l1), some (.int l2), some (.int l3), none], [.int l3, .int l1, .ref 62], M3)) rfl).trans ?_
          refine (e_oB (q := (73, [some (.ref 52), some (.int l1), some (.int l2), some (.int l3), none], [.int l3, .int l1, .ref 62], M3)) (o := (astI lay M3 62 l1 l3)) (f := fun M4 => (74, [some (.ref 52), some (.int l1), some (.int l2), some (.int l3), none], [], M4)) (hf := rfl) rfl).trans ?_
          refine oB_in (fun M4 => ?_)
          refine (evn_adv 2 (q' := (77, [some (.ref 52), some (.int l1), some (.int l2), some (.int l3), some (.int (jn 0))], [], M4)) rfl).trans ?_
          rfl
theorem h_80_77 (d : Nat) (l1 : Int32) (u2 : Option Value) (u3 : Option Value) (l4 : Int32) (M : PM) : E_80 d (77, [some (.ref 52), some (.int l1), u2, u3, some (.int l4)], [], M) = (if l4 < (jn 160) then (oB (astL lay M 63 (((jn 160) * l1) + l4) (Int64.ofNat 0)) fun M1 => E_80 d (77, [some (.ref 52), some (.int l1), u2, u3, some (.int (l4 + (jn 1)))], [], M1)) else (rI (jn 1) M)) := by
  refine (evn_adv 2 (q' := (82, [some (.ref 52), some (.int l1), u2, u3, some (.int l4)], [.int (jn 160), .int l4], M)) rfl).trans ?_
  refine (e_ic_ge (hf := rfl)).trans ?_
  refine ite_in ?_ ?_
  · refine (evn_adv 8 (q' := (98, [some (.ref 52), some (.int l1), u2, u3, some (.int l4)], [.long (Int64.ofNat 0), .int (((jn 160) * l1) + l4), .ref 63], M)) rfl).trans ?_
    refine (e_oB (q := (98, [some (.ref 52), some (.int l1), u2, u3, some (.int l4)], [.long (Int64.ofNat 0), .int (((jn 160) * l1) + l4), .ref 63], M)) (o := (astL lay M 63 (((jn 160) * l1) + l4) (Int64.ofNat 0))) (f := fun M1 => (99, [some (.ref 52), some (.int l1), u2, u3, some (.int l4)], [], M1)) (hf := rfl) rfl).trans ?_
    refine oB_in (fun M1 => ?_)
    refine (evn_adv 2 (q' := (77, [some (.ref 52), some (.int l1), u2, u3, some (.int (l4 + (jn 1)))], [], M1)) rfl).trans ?_
    rfl
  · refine (evn_adv 1 (q' := (106, [some (.ref 52), some (.int l1), u2, u3, some (.int l4)], [.int (jn 1)], M)) rfl).trans ?_
    exact evn_end 1 rfl
/-- TermStrategiesModel.noRow(I)I -/
noncomputable abbrev E_81 (d : Nat) : PQ → PO := evn (rnn k_81 lay none (pcl GG lay d) 1)
theorem q_81 (d : Nat) (l1 : Int32) (M : PM) : pcl GG lay (d + 1) 81 [.ref 52, .int l1] M = (kI (pcl GG lay d 71 [.int l1, .int (jn 0), .int (jn 7)] M) fun r1 M1 => (if r1 = jn 0 then (rI (jz 1) M1) else (oB (aldI lay none M1 61 l1) fun v2 => (if v2 < jn 0 then (oB (aldI lay none M1 61 l1) fun v3 => (if v3 < jn 0 then (rI (jz 3) M1) else (rI (jn 0) M1))) else (kI (pcl GG lay d 75 [.ref 52, .int l1] M1) fun r3 M3 => (if r3 = jn 0 then (rI (jz 2) M3) else (oB (aldI lay none M3 61 l1) fun v4 => (if v4 < jn 0 then (rI (jz 3) M3) else (rI (jn 0) M3))))))))) := by
  refine (pcl_un (mt := t_81) (by decide) rfl (Nat.le_of_ble_eq_true rfl)).trans ?_
  show E_81 d (0, [some (.ref 52), some (.int l1)], [], M) = _
  refine (evn_adv 3 (q' := (4, [some (.ref 52), some (.int l1)], [.int (jn 7), .int (jn 0), .int l1], M)) rfl).trans ?_
  refine (e_kI (q := (4, [some (.ref 52), some (.int l1)], [.int (jn 7), .int (jn 0), .int l1])) (q2 := (7, [some (.ref 52), some (.int l1)], [])) (M := M) (o := (pcl GG lay d 71 [.int l1, .int (jn 0), .int (jn 7)] M)) (hf := rfl) rfl rfl).trans ?_
  refine kI_in (fun r1 M1 => ?_)
  refine (e_if_ne (hf := rfl)).trans ?_
  refine ite_in ?_ ?_
  · refine (evn_adv 1 (q' := (11, [some (.ref 52), some (.int l1)], [.int (jz 1)], M1)) rfl).trans ?_
    exact evn_end 1 rfl
  · refine (evn_adv 3 (q' := (17, [some (.ref 52), some (.int l1)], [.int l1, .ref 61], M1)) rfl).trans ?_
    refine (e_oB (q := (17, [some (.ref 52), some (.int l1)], [.int l1, .ref 61], M1)) (o := (aldI lay none M1 61 l1)) (f := fun v2 => (18, [some (.ref 52), some (.int l1)], [.int v2], M1)) (hf := rfl) rfl).trans ?_
    refine oB_in (fun v2 => ?_)
    refine (e_if_lt (hf := rfl)).trans ?_
    refine ite_in ?_ ?_
    · refine (evn_adv 3 (q' := (37, [some (.ref 52), some (.int l1)], [.int l1, .ref 61], M1)) rfl).trans ?_
      refine (e_oB (q := (37, [some (.ref 52), some (.int l1)], [.int l1, .ref 61], M1)) (o := (aldI lay none M1 61 l1)) (f := fun v3 => (38, [some (.ref 52), some (.int l1)], [.int v3], M1)) (hf := rfl) rfl).trans ?_
      refine oB_in (fun v3 => ?_)
      refine (e_if_ge (hf := rfl)).trans ?_
      refine ite_in ?_ ?_
      · refine (evn_adv 2 (q' := (47, [some (.ref 52), some (.int l1)], [.int (jz 3)], M1)) rfl).trans ?_
        exact evn_end 1 rfl
      · refine (evn_adv 1 (q' := (47, [some (.ref 52), some (.int l1)], [.int (jn 0)], M1)) rfl).trans ?_
        exact evn_end 1 rfl
    · refine (evn_adv 2 (q' := (23, [some (.ref 52), some (.int l1)], [.int l1, .ref 52], M1)) rfl).trans ?_
      refine (e_kI (q := (23, [some (.ref 52), some (.int l1)], [.int l1, .ref 52])) (q2 := (26, [some (.ref 52), some (.int l1)], [])) (M := M1) (o := (pcl GG lay d 75 [.ref 52, .int l1] M1)) (hf := rfl) rfl rfl).trans ?_
      refine kI_in (fun r3 M3 => ?_)
      refine (e_if_ne (hf := rfl)).trans ?_
      refine ite_in ?_ ?_
      · refine (evn_adv 1 (q' := (31, [some (.ref 52), some (.int l1)], [.int (jz 2)], M3)) rfl).trans ?_
        exact evn_end 1 rfl
      · refine (evn_adv 3 (q' := (37, [some (.ref 52), some (.int l1)], [.int l1, .ref 61], M3)) rfl).trans ?_
        refine (e_oB (q := (37, [some (.ref 52), some (.int l1)], [.int l1, .ref 61], M3)) (o := (aldI lay none M3 61 l1)) (f := fun v4 => (38, [some (.ref 52), some (.int l1)], [.int v4], M3)) (hf := rfl) rfl).trans ?_
        refine oB_in (fun v4 => ?_)
        refine (e_if_ge (hf := rfl)).trans ?_
        refine ite_in ?_ ?_
        · refine (evn_adv 2 (q' := (47, [some (.ref 52), some (.int l1)], [.int (jz 3)], M3)) rfl).trans ?_
          exact evn_end 1 rfl
        · refine (evn_adv 1 (q' := (47, [some (.ref 52), some (.int l1)], [.int (jn 0)], M3)) rfl).trans ?_
          exact evn_end 1 rfl
/-- TermStrategiesModel.set(IIJ)I -/
noncomputable abbrev E_82 (d : Nat) : PQ → PO := evn (rnn k_82 lay none (pcl GG lay d) 1)
theorem q_82 (d : Nat) (l1 : Int32) (l2 : Int32) (l3 : Int64) (M : PM) : pcl GG lay (d + 1) 82 [.ref 52, .int l1, .int l2, .long l3] M = (kI (pcl GG lay d 81 [.ref 52, .int l1] M) fun r1 M1 => (if r1 < jn 0 then (kI (pcl GG lay d 69 [.ref 52, .int r1] M1) fun r2 M2 => (rI r2 M2)) else (oB (aldI lay none M1 62 l1) fun v2 => (kI (pcl GG lay d 71 [.int l2, .int (jn 0), .int (v2 - (jn 1))] M1) fun r3 M3 => (if r3 = jn 0 then (kI (pcl GG lay d 69 [.ref 52, .int (jz 5)] M3) fun r4 M4 => (rI r4 M4)) else (oB (aldI lay none M3 61 l1) fun v4 => (if (v4 - (jn 100)) = jn 0 then (oB (astL lay M3 63 (((jn 160) * l1) + l2) (((l3.toInt32).toInt8.toInt32).toInt64)) fun M5 => (rI (jn 1) M5)) else (if (v4 - (jn 100)) = (jn 1) then (oB (astL lay M3 63 (((jn 160) * l1) + l2) (((l3.toInt32).toInt16.toInt32).toInt64)) fun M5 => (rI (jn 1) M5)) else (if (v4 - (jn 100)) = (jn 2) then (oB (astL lay M3 63 (((jn 160) * l1) + l2) ((l3.toInt32).toInt64)) fun M5 => (rI (jn 1) M5)) else (oB (astL lay M3 63 (((jn 160) * l1) + l2) l3) fun M5 => (rI (jn 1) M5))))))))))) := by
  refine (pcl_un (mt := t_82) (by decide) rfl (Nat.le_of_ble_eq_true rfl)).trans ?_
  show E_82 d (0, [some (.ref 52), some (.int l1), some (.int l2), some (.long l3), none, none, none], [], M) = _
  refine (evn_adv 2 (q' := (2, [some (.ref 52), some (.int l1), some (.int l2), some (.long l3), none, none, none], [.int l1, .ref 52], M)) rfl).trans ?_
  refine (e_kI (q := (2, [some (.ref 52), some (.int l1), some (.int l2), some (.long l3), none, none, none], [.int l1, .ref 52])) (q2 := (5, [some (.ref 52), some (.int l1), some (.int l2), some (.long l3), none, none, none], [])) (M := M) (o := (pcl GG lay d 81 [.ref 52, .int l1] M)) (hf := rfl) rfl rfl).trans ?_
  refine kI_in (fun r1 M1 => ?_)
  refine (evn_adv 2 (q' := (9, [some (.ref 52), some (.int l1), some (.int l2), some (.long l3), none, some (.int r1), none], [.int r1], M1)) rfl).trans ?_
  refine (e_if_ge (hf := rfl)).trans ?_
  refine ite_in ?_ ?_
  · refine (evn_adv 2 (q' := (15, [some (.ref 52), some (.int l1), some (.int l2), some (.long l3), none, some (.int r1), none], [.int r1, .ref 52], M1)) rfl).trans ?_
    refine (e_kI (q := (15, [some (.ref 52), some (.int l1), some (.int l2), some (.long l3), none, some (.int r1), none], [.int r1, .ref 52])) (q2 := (18, [some (.ref 52), some (.int l1), some (.int l2), some (.long l3), none, some (.int r1), none], [])) (M := M1) (o := (pcl GG lay d 69 [.ref 52, .int r1] M1)) (hf := rfl) rfl rfl).trans ?_
    refine kI_in (fun r2 M2 => ?_)
    exact evn_end 1 rfl
  · refine (evn_adv 5 (q' := (26, [some (.ref 52), some (.int l1), some (.int l2), some (.long l3), none, some (.int r1), none], [.int l1, .ref 62, .int (jn 0), .int l2], M1)) rfl).trans ?_
    refine (e_oB (q := (26, [some (.ref 52), some (.int l1), some (.int l2), some (.long l3), none, some (.int r1), none], [.int l1, .ref 62, .int (jn 0), .int l2], M1)) (o := (aldI lay none M1 62 l1)) (f := fun v2 => (27, [some (.ref 52), some (.int l1), some (.int l2), some (.long l3), none, some (.int r1), none], [.int v2, .int (jn 0), .int l2], M1)) (hf := rfl) rfl).trans ?_
    refine oB_in (fun v2 => ?_)
    refine (evn_adv 2 (q' := (29, [some (.ref 52), some (.int l1), some (.int l2), some (.long l3), none, some (.int r1), none], [.int (v2 - (jn 1)), .int (jn 0), .int l2], M1)) rfl).trans ?_
    refine (e_kI (q := (29, [some (.ref 52), some (.int l1), some (.int l2), some (.long l3), none, some (.int r1), none], [.int (v2 - (jn 1)), .int (jn 0), .int l2])) (q2 := (32, [some (.ref 52), some (.int l1), some (.int l2), some (.long l3), none, some (.int r1), none], [])) (M := M1) (o := (pcl GG lay d 71 [.int l2, .int (jn 0), .int (v2 - (jn 1))] M1)) (hf := rfl) rfl rfl).trans ?_
    refine kI_in (fun r3 M3 => ?_)
    refine (e_if_ne (hf := rfl)).trans ?_
    refine ite_in ?_ ?_
    · refine (evn_adv 2 (q' := (38, [some (.ref 52), some (.int l1), some (.int l2), some (.long l3), none, some (.int r1), none], [.int (jz 5), .ref 52], M3)) rfl).trans ?_
      refine (e_kI (q := (38, [some (.ref 52), some (.int l1), some (.int l2), some (.long l3), none, some (.int r1), none], [.int (jz 5), .ref 52])) (q2 := (41, [some (.ref 52), some (.int l1), some (.int l2), some (.long l3), none, some (.int r1), none], [])) (M := M3) (o := (pcl GG lay d 69 [.ref 52, .int (jz 5)] M3)) (hf := rfl) rfl rfl).trans ?_
      refine kI_in (fun r4 M4 => ?_)
      exact evn_end 1 rfl
    · refine (evn_adv 3 (q' := (47, [some (.ref 52), some (.int l1), some (.int l2), some (.long l3), none, some (.int r1), none], [.int l1, .ref 61], M3)) rfl).trans ?_
      refine (e_oB (q := (47, [some (.ref 52), some (.int l1), some (.int l2), some (.long l3), none, some (.int r1), none], [.int l1, .ref 61], M3)) (o := (aldI lay none M3 61 l1)) (f := fun v4 => (48, [some (.ref 52), some (.int l1), some (.int l2), some (.long l3), none, some (.int r1), none], [.int v4], M3)) (hf := rfl) rfl).trans ?_
      refine oB_in (fun v4 => ?_)
      refine (evn_adv 11 (q' := (66, [some (.ref 52), some (.int l1), some (.int l2), some (.long l3), none, some (.int r1), some (.int (v4 - (jn 100)))], [.int (v4 - (jn 100)), .int (((jn 160) * l1) + l2), .ref 63], M3)) rfl).trans ?_
      refine (e_if_ne (hf := rfl)).trans ?_
      refine ite_in ?_ ?_
      · refine (evn_adv 5 (q' := (102, [some (.ref 52), some (.int l1), some (.int l2), some (.long l3), none, some (.int r1), some (.int (v4 - (jn 100)))], [.long (((l3.toInt32).toInt8.toInt32).toInt64), .int (((jn 160) * l1) + l2), .ref 63], M3)) rfl).trans ?_
        refine (e_oB (q := (102, [some (.ref 52), some (.int l1), some (.int l2), some (.long l3), none, some (.int r1), some (.int (v4 - (jn 100)))], [.long (((l3.toInt32).toInt8.toInt32).toInt64), .int (((jn 160) * l1) + l2), .ref 63], M3)) (o := (astL lay M3 63 (((jn 160) * l1) + l2) (((l3.toInt32).toInt8.toInt32).toInt64))) (f := fun M5 => (103, [some (.ref 52), some (.int l1), some (.int l2), some (.long l3), none, some (.int r1), some (.int (v4 - (jn 100)))], [], M5)) (hf := rfl) rfl).trans ?_
        refine oB_in (fun M5 => ?_)
        refine (evn_adv 1 (q' := (104, [some (.ref 52), some (.int l1), some (.int l2), some (.long l3), none, some (.int r1), some (.int (v4 - (jn 100)))], [.int (jn 1)], M5)) rfl).trans ?_
        exact evn_end 1 rfl
      · refine (evn_adv 2 (q' := (79, [some (.ref 52), some (.int l1), some (.int l2), some (.long l3), none, some (.int r1), some (.int (v4 - (jn 100)))], [.int (jn 1), .int (v4 - (jn 100)), .int (((jn 160) * l1) + l2), .ref 63], M3)) rfl).trans ?_
        refine (e_ic_ne (hf := rfl)).trans ?_
        refine ite_in ?_ ?_
        · refine (evn_adv 5 (q' := (102, [some (.ref 52), some (.int l1), some (.int l2), some (.long l3), none, some (.int r1), some (.int (v4 - (jn 100)))], [.long (((l3.toInt32).toInt16.toInt32).toInt64), .int (((jn 160) * l1) + l2), .ref 63], M3)) rfl).trans ?_
          refine (e_oB (q := (102, [some (.ref 52), some (.int l1), some (.int l2), some (.long l3), none, some (.int r1), some (.int (v4 - (jn 100)))], [.long (((l3.toInt32).toInt16.toInt32).toInt64), .int (((jn 160) * l1) + l2), .ref 63], M3)) (o := (astL lay M3 63 (((jn 160) * l1) + l2) (((l3.toInt32).toInt16.toInt32).toInt64))) (f := fun M5 => (103, [some (.ref 52), some (.int l1), some (.int l2), some (.long l3), none, some (.int r1), some (.int (v4 - (jn 100)))], [], M5)) (hf := rfl) rfl).trans ?_
          refine oB_in (fun M5 => ?_)
          refine (evn_adv 1 (q' := (104, [some (.ref 52), some (.int l1), some (.int l2), some (.long l3), none, some (.int r1), some (.int (v4 - (jn 100)))], [.int (jn 1)], M5)) rfl).trans ?_
          exact evn_end 1 rfl
        · refine (evn_adv 2 (q' := (92, [some (.ref 52), some (.int l1), some (.int l2), some (.long l3), none, some (.int r1), some (.int (v4 - (jn 100)))], [.int (jn 2), .int (v4 - (jn 100)), .int (((jn 160) * l1) + l2), .ref 63], M3)) rfl).trans ?_
          refine (e_ic_ne (hf := rfl)).trans ?_
          refine ite_in ?_ ?_
          · refine (evn_adv 4 (q' := (102, [some (.ref 52), some (.int l1), some (.int l2), some (.long l3), none, some (.int r1), some (.int (v4 - (jn 100)))], [.long ((l3.toInt32).toInt64), .int (((jn 160) * l1) + l2), .ref 63], M3)) rfl).trans ?_
            refine (e_oB (q := (102, [some (.ref 52), some (.int l1), some (.int l2), some (.long l3), none, some (.int r1), some (.int (v4 - (jn 100)))], [.long ((l3.toInt32).toInt64), .int (((jn 160) * l1) + l2), .ref 63], M3)) (o := (astL lay M3 63 (((jn 160) * l1) + l2) ((l3.toInt32).toInt64))) (f := fun M5 => (103, [some (.ref 52), some (.int l1), some (.int l2), some (.long l3), none, some (.int r1), some (.int (v4 - (jn 100)))], [], M5)) (hf := rfl) rfl).trans ?_
            refine oB_in (fun M5 => ?_)
            refine (evn_adv 1 (q' := (104, [some (.ref 52), some (.int l1), some (.int l2), some (.long l3), none, some (.int r1), some (.int (v4 - (jn 100)))], [.int (jn 1)], M5)) rfl).trans ?_
            exact evn_end 1 rfl
          · refine (evn_adv 1 (q' := (102, [some (.ref 52), some (.int l1), some (.int l2), some (.long l3), none, some (.int r1), some (.int (v4 - (jn 100)))], [.long l3, .int (((jn 160) * l1) + l2), .ref 63], M3)) rfl).trans ?_
            refine (e_oB (q := (102, [some (.ref 52), some (.int l1), some (.int l2), some (.long l3), none, some (.int r1), some (.int (v4 - (jn 100)))], [.long l3, .int (((jn 160) * l1) + l2), .ref 63], M3)) (o := (astL lay M3 63 (((jn 160) * l1) + l2) l3)) (f := fun M5 => (103, [some (.ref 52), some (.int l1), some (.int l2), some (.long l3), none, some (.int r1), some (.int (v4 - (jn 100)))], [], M5)) (hf := rfl) rfl).trans ?_
            refine oB_in (fun M5 => ?_)
            refine (evn_adv 1 (q' := (104, [some (.ref 52), some (.int l1), some (.int l2), some (.long l3), none, some (.int r1), some (.int (v4 - (jn 100)))], [.int (jn 1)], M5)) rfl).trans ?_
            exact evn_end 1 rfl
/-- TermStrategiesModel.copy(IIIII)I -/
noncomputable abbrev E_83 (d : Nat) : PQ → PO := evn (rnn k_83 lay none (pcl GG lay d) 1)
theorem q_83 (d : Nat) (l1 : Int32) (l2 : Int32) (l3 : Int32) (l4 : Int32) (l5 : Int32) (M : PM) : pcl GG lay (d + 1) 83 [.ref 52, .int l1, .int l2, .int l3, .int l4, .int l5] M = (kI (pcl GG lay d 71 [.int l1, .int (jn 0), .int (jn 7)] M) fun r1 M1 => (if r1 = jn 0 then E_83 d (20, [some (.ref 52), some (.int l1), some (.int l2), some (.int l3), some (.int l4), some (.int l5), none], [], M1) else (kI (pcl GG lay d 71 [.int l2, .int (jn 0), .int (jn 7)] M1) fun r2 M2 => (if r2 = jn 0 then E_83 d (20, [some (.ref 52), some (.int l1), some (.int l2), some (.int l3), some (.int l4), some (.int l5), none], [], M2) else (oB (aldI lay none M2 61 l1) fun v3 => (if v3 < jn 0 then E_83 d (43, [some (.ref 52), some (.int l1), some (.int l2), some (.int l3), some (.int l4), some (.int l5), none], [], M2) else (kI (pcl GG lay d 75 [.ref 52, .int l1] M2) fun r4 M4 => (if r4 = jn 0 then E_83 d (91, [some (.ref 52), some (.int l1), some (.int l2), some (.int l3), some (.int l4), some (.int l5), none], [], M4) else E_83 d (43, [some (.ref 52), some (.int l1), some (.int l2), some (.int l3), some (.int l4), some (.int l5), none], [], M4))))))))) := by
  refine (pcl_un (mt := t_83) (by decide) rfl (Nat.le_of_ble_eq_true rfl)).trans ?_
  show E_83 d (0, [some (.ref 52), some (.int l1), some (.int l2), some (.int l3), some (.int l4), some (.int l5), none], [], M) = _
  refine (evn_adv 3 (q' := (4, [some (.ref 52), some (.int l1), some (.int l2), some (.int l3), some (.int l4), some (.int l5), none], [.int (jn 7), .int (jn 0), .int l1], M)) rfl).trans ?_
  refine (e_kI (q := (4, [some (.ref 52), some (.int l1), some (.int l2), some (.int l3), some (.int l4), some (.int l5), none], [.int (jn 7), .int (jn 0), .int l1])) (q2 := (7, [some (.ref 52), some (.int l1), some (.int l2), some (.int l3), some (.int l4), some (.int l5), none], [])) (M := M) (o := (pcl GG lay d 71 [.int l1, .int (jn 0), .int (jn 7)] M)) (hf := rfl) rfl rfl).trans ?_
  refine kI_in (fun r1 M1 => ?_)
  refine (e_if_eq (hf := rfl)).trans ?_
  refine ite_in ?_ ?_
  · rfl
  · refine (evn_adv 3 (q' := (14, [some (.ref 52), some (.int l1), some (.int l2), some (.int l3), some (.int l4), some (.int l5), none], [.int (jn 7), .int (jn 0), .int l2], M1)) rfl).trans ?_
    refine (e_kI (q := (14, [some (.ref 52), some (.int l1), some (.int l2), some (.int l3), some (.int l4), some (.int l5), none], [.int (jn 7), .int (jn 0), .int l2])) (q2 := (17, [some (.ref 52), some (.int l1), some (.int l2), some (.int l3), some (.int l4), some (.int l5), none], [])) (M := M1) (o := (pcl GG lay d 71 [.int l2, .int (jn 0), .int (jn 7)] M1)) (hf := rfl) rfl rfl).trans ?_
    refine kI_in (fun r2 M2 => ?_)
    refine (e_if_ne (hf := rfl)).trans ?_
    refine ite_in ?_ ?_
    · rfl
    · refine (evn_adv 3 (q' := (31, [some (.ref 52), some (.int l1), some (.int l2), some (.int l3), some (.int l4), some (.int l5), none], [.int l1, .ref 61], M2)) rfl).trans ?_
      refine (e_oB (q := (31, [some (.ref 52), some (.int l1), some (.int l2), some (.int l3), some (.int l4), some (.int l5), none], [.int l1, .ref 61], M2)) (o := (aldI lay none M2 61 l1)) (f := fun v3 => (32, [some (.ref 52), some (.int l1), some (.int l2), some (.int l3), some (.int l4), some (.int l5), none], [.int v3], M2)) (hf := rfl) rfl).trans ?_
      refine oB_in (fun v3 => ?_)
      refine (e_if_lt (hf := rfl)).trans ?_
      refine ite_in ?_ ?_
      · rfl
      · refine (evn_adv 2 (q' := (37, [some (.ref 52), some (.int l1), some (.int l2), some (.int l3), some (.int l4), some (.int l5), none], [.int l1, .ref 52], M2)) rfl).trans ?_
        refine (e_kI (q := (37, [some (.ref 52), some (.int l1), some (.int l2), some (.int l3), some (.int l4), some (.int l5), none], [.int l1, .ref 52])) (q2 := (40, [some (.ref 52), some (.int l1), some (.int l2), some (.int l3), some (.int l4), some (.int l5), none], [])) (M := M2) (o := (pcl GG lay d 75 [.ref 52, .int l1] M2)) (hf := rfl) rfl rfl).trans ?_
        refine kI_in (fun r4 M4 => ?_)
        refine (e_if_eq (hf := rfl)).trans ?_
        refine ite_in ?_ ?_
        · rfl
        · rfl
theorem h_83_20 (d : Nat) (u1 : Option Value) (u2 : Option Value) (u3 : Option Value) (u4 : Option Value) (u5 : Option Value) (u6 : Option Value) (M : PM) : E_83 d (20, [some (.ref 52), u1, u2, u3, u4, u5, u6], [], M) = (kI (pcl GG lay d 69 [.ref 52, .int (jz 1)] M) fun r1 M1 => (rI r1 M1)) := by
  refine (evn_adv 2 (q' := (22, [some (.ref 52), u1, u2, u3, u4, u5, u6], [.int (jz 1), .ref 52], M)) rfl).trans ?_
  refine (e_kI (q := (22, [some (.ref 52), u1, u2, u3, u4, u5, u6], [.int (jz 1), .ref 52])) (q2 := (25, [some (.ref 52), u1, u2, u3, u4, u5, u6], [])) (M := M) (o := (pcl GG lay d 69 [.ref 52, .int (jz 1)] M)) (hf := rfl) rfl rfl).trans ?_
  refine kI_in (fun r1 M1 => ?_)
  exact evn_end 1 rfl
theorem h_83_43 (d : Nat) (l1 : Int32) (l2 : Int32) (l3 : Int32) (l4 : Int32) (l5 : Int32) (u6 : Option Value) (M : PM) : E_83 d (43, [some (.ref 52), some (.int l1), some (.int l2), some (.int l3), some (.int l4), some (.int l5), u6], [], M) = (oB (aldI lay none M 61 l2) fun v1 => (if v1 < jn 0 then E_83 d (60, [some (.ref 52), some (.int l1), some (.int l2), some (.int l3), some (.int l4), some (.int l5), u6], [], M) else (kI (pcl GG lay d 75 [.ref 52, .int l2] M) fun r2 M2 => (if r2 = jn 0 then E_83 d (91, [some (.ref 52), some (.int l1), some (.int l2), some (.int l3), some (.int l4), some (.int l5), u6], [], M2) else E_83 d (60, [some (.ref 52), some (.int l1), some (.int l2), some (.int l3), some (.int l4), some (.int l5), u6], [], M2))))) := by
  refine (evn_adv 3 (q' := (48, [some (.ref 52), some (.int l1), some (.int l2), some (.int l3), some (.int l4), some (.int l5), u6], [.int l2, .ref 61], M)) rfl).trans ?_
  refine (e_oB (q := (48, [some (.ref 52), some (.int l1), some (.int l2), some (.int l3), some (.int l4), some (.int l5), u6], [.int l2, .ref 61], M)) (o := (aldI lay none M 61 l2)) (f := fun v1 => (49, [some (.ref 52), some (.int l1), some (.int l2), some (.int l3), some (.int l4), some (.int l5), u6], [.int v1], M)) (hf := rfl) rfl).trans ?_
  refine oB_in (fun v1 => ?_)
  refine (e_if_lt (hf := rfl)).trans ?_
  refine ite_in ?_ ?_
  · rfl
  · refine (evn_adv 2 (q' := (54, [some (.ref 52), some (.int l1), some (.int l2), some (.int l3), some (.int l4), some (.int l5), u6], [.int l2, .ref 52], M)) rfl).trans ?_
    refine (e_kI (q := (54, [some (.ref 52), some (.int l1), some (.int l2), some (.int l3), some (.int l4), some (.int l5), u6], [.int l2, .ref 52])) (q2 := (57, [some (.ref 52), some (.int l1), some (.int l2), some (.int l3), some (.int l4), some (.int l5), u6], [])) (M := M) (o := (pcl GG lay d 75 [.ref 52, .int l2] M)) (hf := rfl) rfl rfl).trans ?_
    refine kI_in (fun r2 M2 => ?_)
    refine (e_if_eq (hf := rfl)).trans ?_
    refine ite_in ?_ ?_
    · rfl
    · rfl
theorem h_83_91 (d : Nat) (u1 : Option Value) (u2 : Option Value) (u3 : Option Value) (u4 : Option Value) (u5 : Option Value) (u6 : Option Value) (M : PM) : E_83 d (91, [some (.ref 52), u1, u2, u3, u4, u5, u6], [], M) = (kI (pcl GG lay d 69 [.ref 52, .int (jz 2)] M) fun r1 M1 => (rI r1 M1)) := by
  refine (evn_adv 2 (q' := (94, [some (.ref 52), u1, u2, u3, u4, u5, u6], [.int (jz 2), .ref 52], M)) rfl).trans ?_
  refine (e_kI (q := (94, [some (.ref 52), u1, u2, u3, u4, u5, u6], [.int (jz 2), .ref 52])) (q2 := (97, [some (.ref 52), u1, u2, u3, u4, u5, u6], [])) (M := M) (o := (pcl GG lay d 69 [.ref 52, .int (jz 2)] M)) (hf := rfl) rfl rfl).trans ?_
  refine kI_in (fun r1 M1 => ?_)
  exact evn_end 1 rfl
theorem h_83_60 (d : Nat) (l1 : Int32) (l2 : Int32) (l3 : Int32) (l4 : Int32) (l5 : Int32) (u6 : Option Value) (M : PM) : E_83 d (60, [some (.ref 52), some (.int l1), some (.int l2), some (.int l3), some (.int l4), some (.int l5), u6], [], M) = (kI (pcl GG lay d 75 [.ref 52, .int l1] M) fun r1 M1 => (if r1 = jn 0 then E_83 d (98, [some (.ref 52), some (.int l1), some (.int l2), some (.int l3), some (.int l4), some (.int l5), u6], [], M1) else (kI (pcl GG lay d 75 [.ref 52, .int l2] M1) fun r2 M2 => (if r2 = jn 0 then E_83 d (98, [some (.ref 52), some (.int l1), some (.int l2), some (.int l3), some (.int l4), some (.int l5), u6], [], M2) else (oB (aldI lay none M2 61 l1) fun v3 => (oB (aldI lay none M2 61 l2) fun v4 => (if v3 = v4 then E_83 d (98, [some (.ref 52), some (.int l1), some (.int l2), some (.int l3), some (.int l4), some (.int l5), u6], [], M2) else E_83 d (91, [some (.ref 52), some (.int l1), some (.int l2), some (.int l3), some (.int l4), some (.int l5), u6], [], M2)))))))) := by
  refine (evn_adv 2 (q' := (62, [some (.ref 52), some (.int l1), some (.int l2), some (.int l3), some (.int l4), some (.int l5), u6], [.int l1, .ref 52], M)) rfl).trans ?_
  refine (e_kI (q := (62, [some (.ref 52), some (.int l1), some (.int l2), some (.int l3), some (.int l4), some (.int l5), u6], [.int l1, .ref 52])) (q2 := (65, [some (.ref 52), some (.int l1), some (.int l2), some (.int l3), some (.int l4), some (.int l5), u6], [])) (M := M) (o := (pcl GG lay d 75 [.ref 52, .int l1] M)) (hf := rfl) rfl rfl).trans ?_
  refine kI_in (fun r1 M1 => ?_)
  refine (e_if_eq (hf := rfl)).trans ?_
  refine ite_in ?_ ?_
  · rfl
  · refine (evn_adv 2 (q' := (70, [some (.ref 52), some (.int l1), some (.int l2), some (.int l3), some (.int l4), some (.int l5), u6], [.int l2, .ref 52], M1)) rfl).trans ?_
    refine (e_kI (q := (70, [some (.ref 52), some (.int l1), some (.int l2), some (.int l3), some (.int l4), some (.int l5), u6], [.int l2, .ref 52])) (q2 := (73, [some (.ref 52), some (.int l1), some (.int l2), some (.int l3), some (.int l4), some (.int l5), u6], [])) (M := M1) (o := (pcl GG lay d 75 [.ref 52, .int l2] M1)) (hf := rfl) rfl rfl).trans ?_
    refine kI_in (fun r2 M2 => ?_)
    refine (e_if_eq (hf := rfl)).trans ?_
    refine ite_in ?_ ?_
    · rfl
    · refine (evn_adv 3 (q' := (81, [some (.ref 52), some (.int l1), some (.int l2), some (.int l3), some (.int l4), some (.int l5), u6], [.int l1, .ref 61], M2)) rfl).trans ?_
      refine (e_oB (q := (81, [some (.ref 52), some (.int l1), some (.int l2), some (.int l3), some (.int l4), some (.int l5), u6], [.int l1, .ref 61], M2)) (o := (aldI lay none M2 61 l1)) (f := fun v3 => (82, [some (.ref 52), some (.int l1), some (.int l2), some (.int l3), some (.int l4), some (.int l5), u6], [.int v3], M2)) (hf := rfl) rfl).trans ?_
      refine oB_in (fun v3 => ?_)
      refine (evn_adv 3 (q' := (87, [some (.ref 52), some (.int l1), some (.int l2), some (.int l3), some (.int l4), some (.int l5), u6], [.int l2, .ref 61, .int v3], M2)) rfl).trans ?_
      refine (e_oB (q := (87, [some (.ref 52), some (.int l1), some (.int l2), some (.int l3), some (.int l4), some (.int l5), u6], [.int l2, .ref 61, .int v3], M2)) (o := (aldI lay none M2 61 l2)) (f := fun v4 => (88, [some (.ref 52), some (.int l1), some (.int l2), some (.int l3), some (.int l4), some (.int l5), u6], [.int v4, .int v3], M2)) (hf := rfl) rfl).trans ?_
      refine oB_in (fun v4 => ?_)
      refine (e_ic_eq (hf := rfl)).trans ?_
      refine ite_in ?_ ?_
      · rfl
      · rfl
theorem h_83_98 (d : Nat) (l1 : Int32) (l2 : Int32) (l3 : Int32) (l4 : Int32) (l5 : Int32) (u6 : Option Value) (M : PM) : E_83 d (98, [some (.ref 52), some (.int l1), some (.int l2), some (.int l3), some (.int l4), some (.int l5), u6], [], M) = (oB (aldI lay none M 61 l1) fun v1 => (if v1 < jn 0 then E_83 d (116, [some (.ref 52), some (.int l1), some (.int l2), some (.int l3), some (.int l4), some (.int l5), u6], [], M) else (oB (aldI lay none M 61 l2) fun v2 => (if v2 < jn 0 then E_83 d (116, [some (.ref 52), some (.int l1), some (.int l2), some (.int l3), some (.int l4), some (.int l5), u6], [], M) else (if l5 < jn 0 then (kI (pcl GG lay d 69 [.ref 52, .int (jz 4)] M) fun r3 M3 => (rI r3 M3)) else (if l3 < jn 0 then E_83 d (179, [some (.ref 52), some (.int l1), some (.int l2), some (.int l3), some (.int l4), some (.int l5), u6], [], M) else (if l4 < jn 0 then E_83 d (179, [some (.ref 52), some (.int l1), some (.int l2), some (.int l3), some (.int l4), some (.int l5), u6], [], M) else (oB (aldI lay none M 62 l1) fun v3 => (if jn 0 < (lg_cmp ((l3.toInt64) + (l5.toInt64)) (v3.toInt64)) then E_83 d (179, [some (.ref 52), some (.int l1), some (.int l2), some (.int l3), some (.int l4), some (.int l5), u6], [], M) else (oB (aldI lay none M 62 l2) fun v4 => (if jn 0 < (lg_cmp ((l4.toInt64) + (l5.toInt64)) (v4.toInt64)) then E_83 d (179, [some (.ref 52), some (.int l1), some (.int l2), some (.int l3), some (.int l4), some (.int l5), u6], [], M) else (if l1 = l2 then (if l3 < l4 then E_83 d (203, [some (.ref 52), some (.int l1), some (.int l2), some (.int l3), some (.int l4), some (.int l5), some (.int (l5 - (jn 1)))], [], M) else E_83 d (248, [some (.ref 52), some (.int l1), some (.int l2), some (.int l3), some (.int l4), some (.int l5), u6], [], M)) else E_83 d (248, [some (.ref 52), some (.int l1), some (.int l2), some (.int l3), some (.int l4), some (.int l5), u6], [], M))))))))))))) := by
  refine (evn_adv 3 (q' := (103, [some (.ref 52), some (.int l1), some (.int l2), some (.int l3), some (.int l4), some (.int l5), u6], [.int l1, .ref 61], M)) rfl).trans ?_
  refine (e_oB (q := (103, [some (.ref 52), some (.int l1), some (.int l2), some (.int l3), some (.int l4), some (.int l5), u6], [.int l1, .ref 61], M)) (o := (aldI lay none M 61 l1)) (f := fun v1 => (104, [some (.ref 52), some (.int l1), some (.int l2), some (.int l3), some (.int l4), some (.int l5), u6], [.int v1], M)) (hf := rfl) rfl).trans ?_
  refine oB_in (fun v1 => ?_)
  refine (e_if_lt (hf := rfl)).trans ?_
  refine ite_in ?_ ?_
  · rfl
  · refine (evn_adv 3 (q' := (112, [some (.ref 52), some (.int l1), some (.int l2), some (.int l3), some (.int l4), some (.int l5), u6], [.int l2, .ref 61], M)) rfl).trans ?_
    refine (e_oB (q := (112, [some (.ref 52), some (.int l1), some (.int l2), some (.int l3), some (.int l4), some (.int l5), u6], [.int l2, .ref 61], M)) (o := (aldI lay none M 61 l2)) (f := fun v2 => (113, [some (.ref 52), some (.int l1), some (.int l2), some (.int l3), some (.int l4), some (.int l5), u6], [.int v2], M)) (hf := rfl) rfl).trans ?_
    refine oB_in (fun v2 => ?_)
    refine (e_if_ge (hf := rfl)).trans ?_
    refine ite_in ?_ ?_
    · rfl
    · refine (evn_adv 1 (q' := (125, [some (.ref 52), some (.int l1), some (.int l2), some (.int l3), some (.int l4), some (.int l5), u6], [.int l5], M)) rfl).trans ?_
      refine (e_if_ge (hf := rfl)).trans ?_
      refine ite_in ?_ ?_
      · refine (evn_adv 2 (q' := (131, [some (.ref 52), some (.int l1), some (.int l2), some (.int l3), some (.int l4), some (.int l5), u6], [.int (jz 4), .ref 52], M)) rfl).trans ?_
        refine (e_kI (q := (131, [some (.ref 52), some (.int l1), some (.int l2), some (.int l3), some (.int l4), some (.int l5), u6], [.int (jz 4), .ref 52])) (q2 := (134, [some (.ref 52), some (.int l1), some (.int l2), some (.int l3), some (.int l4), some (.int l5), u6], [])) (M := M) (o := (pcl GG lay d 69 [.ref 52, .int (jz 4)] M)) (hf := rfl) rfl rfl).trans ?_
        refine kI_in (fun r3 M3 => ?_)
        exact evn_end 1 rfl
      · refine (evn_adv 1 (q' := (136, [some (.ref 52), some (.int l1), some (.int l2), some (.int l3), some (.int l4), some (.int l5), u6], [.int l3], M)) rfl).trans ?_
        refine (e_if_lt (hf := rfl)).trans ?_
        refine ite_in ?_ ?_
        · rfl
        · refine (evn_adv 1 (q' := (141, [some (.ref 52), some (.int l1), some (.int l2), some (.int l3), some (.int l4), some (.int l5), u6], [.int l4], M)) rfl).trans ?_
          refine (e_if_lt (hf := rfl)).trans ?_
          refine ite_in ?_ ?_
          · rfl
          · refine (evn_adv 8 (q' := (155, [some (.ref 52), some (.int l1), some (.int l2), some (.int l3), some (.int l4), some (.int l5), u6], [.int l1, .ref 62, .long ((l3.toInt64) + (l5.toInt64))], M)) rfl).trans ?_
            refine (e_oB (q := (155, [some (.ref 52), some (.int l1), some (.int l2), some (.int l3), some (.int l4), some (.int l5), u6], [.int l1, .ref 62, .long ((l3.toInt64) + (l5.toInt64))], M)) (o := (aldI lay none M 62 l1)) (f := fun v3 => (156, [some (.ref 52), some (.int l1), some (.int l2), some (.int l3), some (.int l4), some (.int l5), u6], [.int v3, .long ((l3.toInt64) + (l5.toInt64))], M)) (hf := rfl) rfl).trans ?_
            refine oB_in (fun v3 => ?_)
            refine (evn_adv 2 (q' := (158, [some (.ref 52), some (.int l1), some (.int l2), some (.int l3), some (.int l4), some (.int l5), u6], [.int (lg_cmp ((l3.toInt64) + (l5.toInt64)) (v3.toInt64))], M)) rfl).trans ?_
            refine (e_if_gt (hf := rfl)).trans ?_
            refine ite_in ?_ ?_
            · rfl
            · refine (evn_adv 8 (q' := (173, [some (.ref 52), some (.int l1), some (.int l2), some (.int l3), some (.int l4), some (.int l5), u6], [.int l2, .ref 62, .long ((l4.toInt64) + (l5.toInt64))], M)) rfl).trans ?_
              refine (e_oB (q := (173, [some (.ref 52), some (.int l1), some (.int l2), some (.int l3), some (.int l4), some (.int l5), u6], [.int l2, .ref 62, .long ((l4.toInt64) + (l5.toInt64))], M)) (o := (aldI lay none M 62 l2)) (f := fun v4 => (174, [some (.ref 52), some (.int l1), some (.int l2), some (.int l3), some (.int l4), some (.int l5), u6], [.int v4, .long ((l4.toInt64) + (l5.toInt64))], M)) (hf := rfl) rfl).trans ?_
              refine oB_in (fun v4 => ?_)
              refine (evn_adv 2 (q' := (176, [some (.ref 52), some (.int l1), some (.int l2), some (.int l3), some (.int l4), some (.int l5), u6], [.int (lg_cmp ((l4.toInt64) + (l5.toInt64)) (v4.toInt64))], M)) rfl).trans ?_
              refine (e_if_le (hf := rfl)).trans ?_
              refine ite_in ?_ ?_
              · rfl
              · refine (evn_adv 2 (q' := (188, [some (.ref 52), some (.int l1), some (.int l2), some (.int l3), some (.int l4), some (.int l5), u6], [.int l2, .int l1], M)) rfl).trans ?_
                refine (e_ic_ne (hf := rfl)).trans ?_
                refine ite_in ?_ ?_
                · refine (evn_adv 2 (q' := (194, [some (.ref 52), some (.int l1), some (.int l2), some (.int l3), some (.int l4), some (.int l5), u6], [.int l4, .int l3], M)) rfl).trans ?_
                  refine (e_ic_ge (hf := rfl)).trans ?_
                  refine ite_in ?_ ?_
                  · refine (evn_adv 4 (q' := (203, [some (.ref 52), some (.int l1), some (.int l2), some (.int l3), some (.int l4), some (.int l5), some (.int (l5 - (jn 1)))], [], M)) rfl).trans ?_
                    rfl
                  · rfl
                · rfl
theorem h_83_116 (d : Nat) (u1 : Option Value) (u2 : Option Value) (u3 : Option Value) (u4 : Option Value) (u5 : Option Value) (u6 : Option Value) (M : PM) : E_83 d (116, [some (.ref 52), u1, u2, u3, u4, u5, u6], [], M) = (kI (pcl GG lay d 69 [.ref 52, .int (jz 3)] M) fun r1 M1 => (rI r1 M1)) := by
  refine (evn_adv 2 (q' := (119, [some (.ref 52), u1, u2, u3, u4, u5, u6], [.int (jz 3), .ref 52], M)) rfl).trans ?_
  refine (e_kI (q := (119, [some (.ref 52), u1, u2, u3, u4, u5, u6], [.int (jz 3), .ref 52])) (q2 := (122, [some (.ref 52), u1, u2, u3, u4, u5, u6], [])) (M := M) (o := (pcl GG lay d 69 [.ref 52, .int (jz 3)] M)) (hf := rfl) rfl rfl).trans ?_
  refine kI_in (fun r1 M1 => ?_)
  exact evn_end 1 rfl
theorem h_83_179 (d : Nat) (u1 : Option Value) (u2 : Option Value) (u3 : Option Value) (u4 : Option Value) (u5 : Option Value) (u6 : Option Value) (M : PM) : E_83 d (179, [some (.ref 52), u1, u2, u3, u4, u5, u6], [], M) = (kI (pcl GG lay d 69 [.ref 52, .int (jz 5)] M) fun r1 M1 => (rI r1 M1)) := by
  refine (evn_adv 2 (q' := (182, [some (.ref 52), u1, u2, u3, u4, u5, u6], [.int (jz 5), .ref 52], M)) rfl).trans ?_
  refine (e_kI (q := (182, [some (.ref 52), u1, u2, u3, u4, u5, u6], [.int (jz 5), .ref 52])) (q2 := (185, [some (.ref 52), u1, u2, u3, u4, u5, u6], [])) (M := M) (o := (pcl GG lay d 69 [.ref 52, .int (jz 5)] M)) (hf := rfl) rfl rfl).trans ?_
  refine kI_in (fun r1 M1 => ?_)
  exact evn_end 1 rfl
theorem h_83_203 (d : Nat) (l1 : Int32) (l2 : Int32) (l3 : Int32) (l4 : Int32) (u5 : Option Value) (l6 : Int32) (M : PM) : E_83 d (203, [some (.ref 52), some (.int l1), some (.int l2), some (.int l3), some (.int l4), u5, some (.int l6)], [], M) = (if l6 < jn 0 then E_83 d (295, [some (.ref 52), some (.int l1), some (.int l2), some (.int l3), some (.int l4), u5, some (.int l6)], [], M) else (oB (aldL lay M 63 ((((jn 160) * l1) + l3) + l6)) fun v1 => (oB (astL lay M 63 ((((jn 160) * l2) + l4) + l6) v1) fun M2 => E_83 d (203, [some (.ref 52), some (.int l1), some (.int l2), some (.int l3), some (.int l4), u5, some (.int (l6 + (jz 1)))], [], M2)))) := by
  refine (evn_adv 1 (q' := (205, [some (.ref 52), some (.int l1), some (.int l2), some (.int l3), some (.int l4), u5, some (.int l6)], [.int l6], M)) rfl).trans ?_
  refine (e_if_lt (hf := rfl)).trans ?_
  refine ite_in ?_ ?_
  · refine (evn_adv 1 (q' := (295, [some (.ref 52), some (.int l1), some (.int l2), some (.int l3), some (.int l4), u5, some (.int l6)], [], M)) rfl).trans ?_
    rfl
  · refine (evn_adv 18 (q' := (237, [some (.ref 52), some (.int l1), some (.int l2), some (.int l3), some (.int l4), u5, some (.int l6)], [.int ((((jn 160) * l1) + l3) + l6), .ref 63, .int ((((jn 160) * l2) + l4) + l6), .ref 63], M)) rfl).trans ?_
    refine (e_oB (q := (237, [some (.ref 52), some (.int l1), some (.int l2), some (.int l3), some (.int l4), u5, some (.int l6)], [.int ((((jn 160) * l1) + l3) + l6), .ref 63, .int ((((jn 160) * l2) + l4) + l6), .ref 63], M)) (o := (aldL lay M 63 ((((jn 160) * l1) + l3) + l6))) (f := fun v1 => (238, [some (.ref 52), some (.int l1), some (.int l2), some (.int l3), some (.int l4), u5, some (.int l6)], [.long v1, .int ((((jn 160) * l2) + l4) + l6), .ref 63], M)) (hf := rfl) rfl).trans ?_
    refine oB_in (fun v1 => ?_)
    refine (e_oB (q := (238, [some (.ref 52), some (.int l1), some (.int l2), some (.int l3), some (.int l4), u5, some (.int l6)], [.long v1, .int ((((jn 160) * l2) + l4) + l6), .ref 63], M)) (o := (astL lay M 63 ((((jn 160) * l2) + l4) + l6) v1)) (f := fun M2 => (239, [some (.ref 52), some (.int l1), some (.int l2), some (.int l3), some (.int l4), u5, some (.int l6)], [], M2)) (hf := rfl) rfl).trans ?_
    refine oB_in (fun M2 => ?_)
    refine (evn_adv 2 (q' := (203, [some (.ref 52), some (.int l1), some (.int l2), some (.int l3), some (.int l4), u5, some (.int (l6 + (jz 1)))], [], M2)) rfl).trans ?_
    rfl
theorem h_83_248 (d : Nat) (l1 : Int32) (l2 : Int32) (l3 : Int32) (l4 : Int32) (l5 : Int32) (u6 : Option Value) (M : PM) : E_83 d (248, [some (.ref 52), some (.int l1), some (.int l2), some (.int l3), some (.int l4), some (.int l5), u6], [], M) = E_83 d (251, [some (.ref 52), some (.int l1), some (.int l2), some (.int l3), some (.int l4), some (.int l5), some (.int (jn 0))], [], M) := by
  refine (evn_adv 2 (q' := (251, [some (.ref 52), some (.int l1), some (.int l2), some (.int l3), some (.int l4), some (.int l5), some (.int (jn 0))], [], M)) rfl).trans ?_
  rfl
theorem h_83_295 (d : Nat) (u0 : Option Value) (u1 : Option Value) (u2 : Option Value) (u3 : Option Value) (u4 : Option Value) (u5 : Option Value) (u6 : Option Value) (M : PM) : E_83 d (295, [u0, u1, u2, u3, u4, u5, u6], [], M) = (rI (jn 1) M) := by
  refine (evn_adv 1 (q' := (296, [u0, u1, u2, u3, u4, u5, u6], [.int (jn 1)], M)) rfl).trans ?_
  exact evn_end 1 rfl
theorem h_83_251 (d : Nat) (l1 : Int32) (l2 : Int32) (l3 : Int32) (l4 : Int32) (l5 : Int32) (l6 : Int32) (M : PM) : E_83 d (251, [some (.ref 52), some (.int l1), some (.int l2), some (.int l3), some (.int l4), some (.int l5), some (.int l6)], [], M) = (if l6 < l5 then (oB (aldL lay M 63 ((((jn 160) * l1) + l3) + l6)) fun v1 => (oB (astL lay M 63 ((((jn 160) * l2) + l4) + l6) v1) fun M2 => E_83 d (251, [some (.ref 52), some (.int l1), some (.int l2), some (.int l3), some (.int l4), some (.int l5), some (.int (l6 + (jn 1)))], [], M2))) else E_83 d (295, [some (.ref 52), some (.int l1), some (.int l2), some (.int l3), some (.int l4), some (.int l5), some (.int l6)], [], M)) := by
  refine (evn_adv 2 (q' := (255, [some (.ref 52), some (.int l1), some (.int l2), some (.int l3), some (.int l4), some (.int l5), some (.int l6)], [.int l5, .int l6], M)) rfl).trans ?_
  refine (e_ic_ge (hf := rfl)).trans ?_
  refine ite_in ?_ ?_
  · refine (evn_adv 18 (q' := (287, [some (.ref 52), some (.int l1), some (.int l2), some (.int l3), some (.int l4), some (.int l5), some (.int l6)], [.int ((((jn 160) * l1) + l3) + l6), .ref 63, .int ((((jn 160) * l2) + l4) + l6), .ref 63], M)) rfl).trans ?_
    refine (e_oB (q := (287, [some (.ref 52), some (.int l1), some (.int l2), some (.int l3), some (.int l4), some (.int l5), some (.int l6)], [.int ((((jn 160) * l1) + l3) + l6), .ref 63, .int ((((jn 160) * l2) + l4) + l6), .ref 63], M)) (o := (aldL lay M 63 ((((jn 160) * l1) + l3) + l6))) (f := fun v1 => (288, [some (.ref 52), some (.int l1), some (.int l2), some (.int l3), some (.int l4), some (.int l5), some (.int l6)], [.long v1, .int ((((jn 160) * l2) + l4) + l6), .ref 63], M)) (hf := rfl) rfl).trans ?_
    refine oB_in (fun v1 => ?_)
    refine (e_oB (q := (288, [some (.ref 52), some (.int l1), some (.int l2), some (.int l3), some (.int l4), some (.int l5), some (.int l6)], [.long v1, .int ((((jn 160) * l2) + l4) + l6), .ref 63], M)) (o := (astL lay M 63 ((((jn 160) * l2) + l4) + l6) v1)) (f := fun M2 => (289, [some (.ref 52), some (.int l1), some (.int l2), some (.int l3), some (.int l4), some (.int l5), some (.int l6)], [], M2)) (hf := rfl) rfl).trans ?_
    refine oB_in (fun M2 => ?_)
    refine (evn_adv 2 (q' := (251, [some (.ref 52), some (.int l1), some (.int l2), some (.int l3), some (.int l4), some (.int l5), some (.int (l6 + (jn 1)))], [], M2)) rfl).trans ?_
    rfl
  · rfl
/-- TermStrategiesModel.element(II)J -/
noncomputable abbrev E_84 (d : Nat) : PQ → PO := evn (rnn k_84 lay none (pcl GG lay d) 3)
theorem q_84 (d : Nat) (l1 : Int32) (l2 : Int32) (M : PM) : pcl GG lay (d + 1) 84 [.ref 52, .int l1, .int l2] M = (kI (pcl GG lay d 71 [.int l1, .int (jn 0), .int (jn 7)] M) fun r1 M1 => (if r1 = jn 0 then (rL (Int64.ofNat 0) M1) else (kI (pcl GG lay d 75 [.ref 52, .int l1] M1) fun r2 M2 => (if r2 = jn 0 then (rL (Int64.ofNat 0) M2) else (oB (aldI lay none M2 62 l1) fun v3 => (kI (pcl GG lay d 71 [.int l2, .int (jn 0), .int (v3 - (jn 1))] M2) fun r4 M4 => (if r4 = jn 0 then (rL (Int64.ofNat 0) M4) else (oB (aldL lay M4 63 (((jn 160) * l1) + l2)) fun v5 => (rL v5 M4))))))))) := by
  refine (pcl_un (mt := t_84) (by decide) rfl (Nat.le_of_ble_eq_true rfl)).trans ?_
  show E_84 d (0, [some (.ref 52), some (.int l1), some (.int l2)], [], M) = _
  refine (evn_adv 3 (q' := (4, [some (.ref 52), some (.int l1), some (.int l2)], [.int (jn 7), .int (jn 0), .int l1], M)) rfl).trans ?_
  refine (e_kI (q := (4, [some (.ref 52), some (.int l1), some (.int l2)], [.int (jn 7), .int (jn 0), .int l1])) (q2 := (7, [some (.ref 52), some (.int l1), some (.int l2)], [])) (M := M) (o := (pcl GG lay d 71 [.int l1, .int (jn 0), .int (jn 7)] M)) (hf := rfl) rfl rfl).trans ?_
  refine kI_in (fun r1 M1 => ?_)
  refine (e_if_eq (hf := rfl)).trans ?_
  refine ite_in ?_ ?_
  · refine (evn_adv 1 (q' := (50, [some (.ref 52), some (.int l1), some (.int l2)], [.long (Int64.ofNat 0)], M1)) rfl).trans ?_
    exact evn_end 1 rfl
  · refine (evn_adv 2 (q' := (12, [some (.ref 52), some (.int l1), some (.int l2)], [.int l1, .ref 52], M1)) rfl).trans ?_
    refine (e_kI (q := (12, [some (.ref 52), some (.int l1), some (.int l2)], [.int l1, .ref 52])) (q2 := (15, [some (.ref 52), some (.int l1), some (.int l2)], [])) (M := M1) (o := (pcl GG lay d 75 [.ref 52, .int l1] M1)) (hf := rfl) rfl rfl).trans ?_
    refine kI_in (fun r2 M2 => ?_)
    refine (e_if_eq (hf := rfl)).trans ?_
    refine ite_in ?_ ?_
    · refine (evn_adv 1 (q' := (50, [some (.ref 52), some (.int l1), some (.int l2)], [.long (Int64.ofNat 0)], M2)) rfl).trans ?_
      exact evn_end 1 rfl
    · refine (evn_adv 5 (q' := (25, [some (.ref 52), some (.int l1), some (.int l2)], [.int l1, .ref 62, .int (jn 0), .int l2], M2)) rfl).trans ?_
      refine (e_oB (q := (25, [some (.ref 52), some (.int l1), some (.int l2)], [.int l1, .ref 62, .int (jn 0), .int l2], M2)) (o := (aldI lay none M2 62 l1)) (f := fun v3 => (26, [some (.ref 52), some (.int l1), some (.int l2)], [.int v3, .int (jn 0), .int l2], M2)) (hf := rfl) rfl).trans ?_
      refine oB_in (fun v3 => ?_)
      refine (evn_adv 2 (q' := (28, [some (.ref 52), some (.int l1), some (.int l2)], [.int (v3 - (jn 1)), .int (jn 0), .int l2], M2)) rfl).trans ?_
      refine (e_kI (q := (28, [some (.ref 52), some (.int l1), some (.int l2)], [.int (v3 - (jn 1)), .int (jn 0), .int l2])) (q2 := (31, [some (.ref 52), some (.int l1), some (.int l2)], [])) (M := M2) (o := (pcl GG lay d 71 [.int l2, .int (jn 0), .int (v3 - (jn 1))] M2)) (hf := rfl) rfl rfl).trans ?_
      refine kI_in (fun r4 M4 => ?_)
      refine (e_if_eq (hf := rfl)).trans ?_
      refine ite_in ?_ ?_
      · refine (evn_adv 1 (q' := (50, [some (.ref 52), some (.int l1), some (.int l2)], [.long (Int64.ofNat 0)], M4)) rfl).trans ?_
        exact evn_end 1 rfl
      · refine (evn_adv 7 (q' := (45, [some (.ref 52), some (.int l1), some (.int l2)], [.int (((jn 160) * l1) + l2), .ref 63], M4)) rfl).trans ?_
        refine (e_oB (q := (45, [some (.ref 52), some (.int l1), some (.int l2)], [.int (((jn 160) * l1) + l2), .ref 63], M4)) (o := (aldL lay M4 63 (((jn 160) * l1) + l2))) (f := fun v5 => (46, [some (.ref 52), some (.int l1), some (.int l2)], [.long v5], M4)) (hf := rfl) rfl).trans ?_
        refine oB_in (fun v5 => ?_)
        refine (evn_adv 1 (q' := (50, [some (.ref 52), some (.int l1), some (.int l2)], [.long v5], M4)) rfl).trans ?_
        exact evn_end 1 rfl
/-- TermStrategiesModel.show(II)I -/
noncomputable abbrev E_85 (d : Nat) : PQ → PO := evn (rnn k_85 lay none (pcl GG lay d) 1)
theorem q_85 (d : Nat) (l1 : Int32) (l2 : Int32) (M : PM) : pcl GG lay (d + 1) 85 [.ref 52, .int l1, .int l2] M = (kI (pcl GG lay d 71 [.int l1, .int (jn 0), .int (jn 7)] M) fun r1 M1 => (if r1 = jn 0 then (kI (pcl GG lay d 69 [.ref 52, .int (jz 1)] M1) fun r2 M2 => (rI r2 M2)) else (if l2 = (jz 1) then (oB (astI lay M1 61 l1 l2) fun M2 => (if l2 = (jz 1) then (rI (jn 0) M2) else (rI (jn 1) M2))) else (kI (pcl GG lay d 74 [.ref 52, .int l2] M1) fun r2 M2 => (if r2 = jn 0 then (kI (pcl GG lay d 69 [.ref 52, .int (jz 1)] M2) fun r3 M3 => (rI r3 M3)) else (oB (astI lay M2 61 l1 l2) fun M3 => (if l2 = (jz 1) then (rI (jn 0) M3) else (rI (jn 1) M3)))))))) := by
  refine (pcl_un (mt := t_85) (by decide) rfl (Nat.le_of_ble_eq_true rfl)).trans ?_
  show E_85 d (0, [some (.ref 52), some (.int l1), some (.int l2)], [], M) = _
  refine (evn_adv 3 (q' := (4, [some (.ref 52), some (.int l1), some (.int l2)], [.int (jn 7), .int (jn 0), .int l1], M)) rfl).trans ?_
  refine (e_kI (q := (4, [some (.ref 52), some (.int l1), some (.int l2)], [.int (jn 7), .int (jn 0), .int l1])) (q2 := (7, [some (.ref 52), some (.int l1), some (.int l2)], [])) (M := M) (o := (pcl GG lay d 71 [.int l1, .int (jn 0), .int (jn 7)] M)) (hf := rfl) rfl rfl).trans ?_
  refine kI_in (fun r1 M1 => ?_)
  refine (e_if_eq (hf := rfl)).trans ?_
  refine ite_in ?_ ?_
  · refine (evn_adv 2 (q' := (25, [some (.ref 52), some (.int l1), some (.int l2)], [.int (jz 1), .ref 52], M1)) rfl).trans ?_
    refine (e_kI (q := (25, [some (.ref 52), some (.int l1), some (.int l2)], [.int (jz 1), .ref 52])) (q2 := (28, [some (.ref 52), some (.int l1), some (.int l2)], [])) (M := M1) (o := (pcl GG lay d 69 [.ref 52, .int (jz 1)] M1)) (hf := rfl) rfl rfl).trans ?_
    refine kI_in (fun r2 M2 => ?_)
    exact evn_end 1 rfl
  · refine (evn_adv 2 (q' := (12, [some (.ref 52), some (.int l1), some (.int l2)], [.int (jz 1), .int l2], M1)) rfl).trans ?_
    refine (e_ic_eq (hf := rfl)).trans ?_
    refine ite_in ?_ ?_
    · refine (evn_adv 4 (q' := (35, [some (.ref 52), some (.int l1), some (.int l2)], [.int l2, .int l1, .ref 61], M1)) rfl).trans ?_
      refine (e_oB (q := (35, [some (.ref 52), some (.int l1), some (.int l2)], [.int l2, .int l1, .ref 61], M1)) (o := (astI lay M1 61 l1 l2)) (f := fun M2 => (36, [some (.ref 52), some (.int l1), some (.int l2)], [], M2)) (hf := rfl) rfl).trans ?_
      refine oB_in (fun M2 => ?_)
      refine (evn_adv 2 (q' := (38, [some (.ref 52), some (.int l1), some (.int l2)], [.int (jz 1), .int l2], M2)) rfl).trans ?_
      refine (e_ic_ne (hf := rfl)).trans ?_
      refine ite_in ?_ ?_
      · refine (evn_adv 2 (q' := (46, [some (.ref 52), some (.int l1), some (.int l2)], [.int (jn 0)], M2)) rfl).trans ?_
        exact evn_end 1 rfl
      · refine (evn_adv 1 (q' := (46, [some (.ref 52), some (.int l1), some (.int l2)], [.int (jn 1)], M2)) rfl).trans ?_
        exact evn_end 1 rfl
    · refine (evn_adv 2 (q' := (17, [some (.ref 52), some (.int l1), some (.int l2)], [.int l2, .ref 52], M1)) rfl).trans ?_
      refine (e_kI (q := (17, [some (.ref 52), some (.int l1), some (.int l2)], [.int l2, .ref 52])) (q2 := (20, [some (.ref 52), some (.int l1), some (.int l2)], [])) (M := M1) (o := (pcl GG lay d 74 [.ref 52, .int l2] M1)) (hf := rfl) rfl rfl).trans ?_
      refine kI_in (fun r2 M2 => ?_)
      refine (e_if_ne (hf := rfl)).trans ?_
      refine ite_in ?_ ?_
      · refine (evn_adv 2 (q' := (25, [some (.ref 52), some (.int l1), some (.int l2)], [.int (jz 1), .ref 52], M2)) rfl).trans ?_
        refine (e_kI (q := (25, [some (.ref 52), some (.int l1), some (.int l2)], [.int (jz 1), .ref 52])) (q2 := (28, [some (.ref 52), some (.int l1), some (.int l2)], [])) (M := M2) (o := (pcl GG lay d 69 [.ref 52, .int (jz 1)] M2)) (hf := rfl) rfl rfl).trans ?_
        refine kI_in (fun r3 M3 => ?_)
        exact evn_end 1 rfl
      · refine (evn_adv 4 (q' := (35, [some (.ref 52), some (.int l1), some (.int l2)], [.int l2, .int l1, .ref 61], M2)) rfl).trans ?_
        refine (e_oB (q := (35, [some (.ref 52), some (.int l1), some (.int l2)], [.int l2, .int l1, .ref 61], M2)) (o := (astI lay M2 61 l1 l2)) (f := fun M3 => (36, [some (.ref 52), some (.int l1), some (.int l2)], [], M3)) (hf := rfl) rfl).trans ?_
        refine oB_in (fun M3 => ?_)
        refine (evn_adv 2 (q' := (38, [some (.ref 52), some (.int l1), some (.int l2)], [.int (jz 1), .int l2], M3)) rfl).trans ?_
        refine (e_ic_ne (hf := rfl)).trans ?_
        refine ite_in ?_ ?_
        · refine (evn_adv 2 (q' := (46, [some (.ref 52), some (.int l1), some (.int l2)], [.int (jn 0)], M3)) rfl).trans ?_
          exact evn_end 1 rfl
        · refine (evn_adv 1 (q' := (46, [some (.ref 52), some (.int l1), some (.int l2)], [.int (jn 1)], M3)) rfl).trans ?_
          exact evn_end 1 rfl
/-- TermStrategiesModel.holds(I)I -/
noncomputable abbrev E_86 (d : Nat) : PQ → PO := evn (rnn k_86 lay none (pcl GG lay d) 1)
theorem q_86 (d : Nat) (l1 : Int32) (M : PM) : pcl GG lay (d + 1) 86 [.ref 52, .int l1] M = (kI (pcl GG lay d 71 [.int l1, .int (jn 0), .int (jn 7)] M) fun r1 M1 => (if r1 = jn 0 then (rI (jz 1) M1) else (oB (aldI lay none M1 61 l1) fun v2 => (rI v2 M1)))) := by
  refine (pcl_un (mt := t_86) (by decide) rfl (Nat.le_of_ble_eq_true rfl)).trans ?_
  show E_86 d (0, [some (.ref 52), some (.int l1)], [], M) = _
  refine (evn_adv 3 (q' := (4, [some (.ref 52), some (.int l1)], [.int (jn 7), .int (jn 0), .int l1], M)) rfl).trans ?_
  refine (e_kI (q := (4, [some (.ref 52), some (.int l1)], [.int (jn 7), .int (jn 0), .int l1])) (q2 := (7, [some (.ref 52), some (.int l1)], [])) (M := M) (o := (pcl GG lay d 71 [.int l1, .int (jn 0), .int (jn 7)] M)) (hf := rfl) rfl rfl).trans ?_
  refine kI_in (fun r1 M1 => ?_)
  refine (e_if_eq (hf := rfl)).trans ?_
  refine ite_in ?_ ?_
  · refine (evn_adv 1 (q' := (20, [some (.ref 52), some (.int l1)], [.int (jz 1)], M1)) rfl).trans ?_
    exact evn_end 1 rfl
  · refine (evn_adv 3 (q' := (15, [some (.ref 52), some (.int l1)], [.int l1, .ref 61], M1)) rfl).trans ?_
    refine (e_oB (q := (15, [some (.ref 52), some (.int l1)], [.int l1, .ref 61], M1)) (o := (aldI lay none M1 61 l1)) (f := fun v2 => (16, [some (.ref 52), some (.int l1)], [.int v2], M1)) (hf := rfl) rfl).trans ?_
    refine oB_in (fun v2 => ?_)
    refine (evn_adv 1 (q' := (20, [some (.ref 52), some (.int l1)], [.int v2], M1)) rfl).trans ?_
    exact evn_end 1 rfl
/-- TermStrategiesModel.isSuch(II)Z -/
noncomputable abbrev E_87 (d : Nat) : PQ → PO := evn (rnn k_87 lay none (pcl GG lay d) 2)
theorem q_87 (d : Nat) (l0 : Int32) (l1 : Int32) (M : PM) : pcl GG lay (d + 1) 87 [.int l0, .int l1] M = (if l1 = (jn 1) then (if l0 < (jn 3) then (rZ (jn 1) M) else (rZ (jn 0) M)) else (if l1 = (jn 2) then (if (jn 4) < l0 then (rZ (jn 1) M) else (rZ (jn 0) M)) else (if l1 = (jn 3) then (if l0 = (jn 3) then (rZ (jn 1) M) else (if l0 = (jn 4) then (rZ (jn 1) M) else (rZ (jn 0) M))) else (if l1 = (jn 4) then (kI (pcl GG lay d 71 [.int l0, .int (jn 6), .int (jn 12)] M) fun r1 M1 => (rZ r1 M1)) else (rZ (jn 1) M))))) := by
  refine (pcl_un (mt := t_87) (by decide) rfl (Nat.le_of_ble_eq_true rfl)).trans ?_
  show E_87 d (0, [some (.int l0), some (.int l1)], [], M) = _
  refine (evn_adv 1 (q' := (1, [some (.int l0), some (.int l1)], [.int l1], M)) rfl).trans ?_
  refine (e_sw0 (dflt := 79) (lo := ((1 : Nat) : Int)) (ts := [32, 43, 54, 70]) (hf := rfl) rfl).trans ?_
  refine sw_cons (lo := 1) (F := fun pc => E_87 d (pc, [some (.int l0), some (.int l1)], [], M)) (by decide) ?_ ?_
  · refine (evn_adv 2 (q' := (34, [some (.int l0), some (.int l1)], [.int (jn 3), .int l0], M)) rfl).trans ?_
    refine (e_ic_ge (hf := rfl)).trans ?_
    refine ite_in ?_ ?_
    · refine (evn_adv 2 (q' := (42, [some (.int l0), some (.int l1)], [.int (jn 1)], M)) rfl).trans ?_
      exact e_iretz (hf := rfl)
    · refine (evn_adv 1 (q' := (42, [some (.int l0), some (.int l1)], [.int (jn 0)], M)) rfl).trans ?_
      exact e_iretz (hf := rfl)
  refine sw_cons (lo := 2) (F := fun pc => E_87 d (pc, [some (.int l0), some (.int l1)], [], M)) (by decide) ?_ ?_
  · refine (evn_adv 2 (q' := (45, [some (.int l0), some (.int l1)], [.int (jn 4), .int l0], M)) rfl).trans ?_
    refine (e_ic_le (hf := rfl)).trans ?_
    refine ite_in ?_ ?_
    · refine (evn_adv 2 (q' := (53, [some (.int l0), some (.int l1)], [.int (jn 1)], M)) rfl).trans ?_
      exact e_iretz (hf := rfl)
    · refine (evn_adv 1 (q' := (53, [some (.int l0), some (.int l1)], [.int (jn 0)], M)) rfl).trans ?_
      exact e_iretz (hf := rfl)
  refine sw_cons (lo := 3) (F := fun pc => E_87 d (pc, [some (.int l0), some (.int l1)], [], M)) (by decide) ?_ ?_
  · refine (evn_adv 2 (q' := (56, [some (.int l0), some (.int l1)], [.int (jn 3), .int l0], M)) rfl).trans ?_
    refine (e_ic_eq (hf := rfl)).trans ?_
    refine ite_in ?_ ?_
    · refine (evn_adv 2 (q' := (69, [some (.int l0), some (.int l1)], [.int (jn 1)], M)) rfl).trans ?_
      exact e_iretz (hf := rfl)
    · refine (evn_adv 2 (q' := (61, [some (.int l0), some (.int l1)], [.int (jn 4), .int l0], M)) rfl).trans ?_
      refine (e_ic_ne (hf := rfl)).trans ?_
      refine ite_in ?_ ?_
      · refine (evn_adv 2 (q' := (69, [some (.int l0), some (.int l1)], [.int (jn 1)], M)) rfl).trans ?_
        exact e_iretz (hf := rfl)
      · refine (evn_adv 1 (q' := (69, [some (.int l0), some (.int l1)], [.int (jn 0)], M)) rfl).trans ?_
        exact e_iretz (hf := rfl)
  refine sw_cons (lo := 4) (F := fun pc => E_87 d (pc, [some (.int l0), some (.int l1)], [], M)) (by decide) ?_ ?_
  · refine (evn_adv 3 (q' := (75, [some (.int l0), some (.int l1)], [.int (jn 12), .int (jn 6), .int l0], M)) rfl).trans ?_
    refine (e_kI (q := (75, [some (.int l0), some (.int l1)], [.int (jn 12), .int (jn 6), .int l0])) (q2 := (78, [some (.int l0), some (.int l1)], [])) (M := M) (o := (pcl GG lay d 71 [.int l0, .int (jn 6), .int (jn 12)] M)) (hf := rfl) rfl rfl).trans ?_
    refine kI_in (fun r1 M1 => ?_)
    exact e_iretz (hf := rfl)
  show E_87 d (79, [some (.int l0), some (.int l1)], [], M) = _
  refine (evn_adv 1 (q' := (80, [some (.int l0), some (.int l1)], [.int (jn 1)], M)) rfl).trans ?_
  exact e_iretz (hf := rfl)
/-- TermStrategiesModel.weight(I)I -/
noncomputable abbrev E_88 (d : Nat) : PQ → PO := evn (rnn k_88 lay none (pcl GG lay d) 1)
theorem q_88 (d : Nat) (l1 : Int32) (M : PM) : pcl GG lay (d + 1) 88 [.ref 52, .int l1] M = E_88 d (2, [some (.ref 52), some (.int l1), some (.int (jn 0)), none], [], M) := by
  refine (pcl_un (mt := t_88) (by decide) rfl (Nat.le_of_ble_eq_true rfl)).trans ?_
  show E_88 d (0, [some (.ref 52), some (.int l1), none, none], [], M) = _
  refine (evn_adv 2 (q' := (2, [some (.ref 52), some (.int l1), some (.int (jn 0)), none], [], M)) rfl).trans ?_
  rfl
theorem h_88_2 (d : Nat) (l1 : Int32) (l2 : Int32) (u3 : Option Value) (M : PM) : E_88 d (2, [some (.ref 52), some (.int l1), some (.int l2), u3], [], M) = (if l1 < l2 then (oB (aldI lay none M 60 l1) fun v1 => (rI v1 M)) else (oB (aldI lay none M 57 l2) fun v1 => (if (jn 2) < v1 then (oB (aldI lay none M 58 l2) fun v2 => (oB (aldI lay none M 60 v2) fun v3 => (oB (aldI lay none M 59 l2) fun v4 => (if v4 = (jz 1) then (kI (pcl GG lay d 2 [.int (jn 1000), .int (((jn 1) + v3) + (jn 0))] M) fun r5 M5 => (oB (astI lay M5 60 l2 r5) fun M6 => E_88 d (2, [some (.ref 52), some (.int l1), some (.int (l2 + (jn 1))), some (.int (((jn 1) + v3) + (jn 0)))], [], M6))) else (oB (aldI lay none M 59 l2) fun v5 => (oB (aldI lay none M 60 v5) fun v6 => (kI (pcl GG lay d 2 [.int (jn 1000), .int (((jn 1) + v3) + v6)] M) fun r7 M7 => (oB (astI lay M7 60 l2 r7) fun M8 => E_88 d (2, [some (.ref 52), some (.int l1), some (.int (l2 + (jn 1))), some (.int (((jn 1) + v3) + v6))], [], M8))))))))) else (oB (aldI lay none M 59 l2) fun v2 => (if v2 = (jz 1) then (kI (pcl GG lay d 2 [.int (jn 1000), .int (((jn 1) + (jn 0)) + (jn 0))] M) fun r3 M3 => (oB (astI lay M3 60 l2 r3) fun M4 => E_88 d (2, [some (.ref 52), some (.int l1), some (.int (l2 + (jn 1))), some (.int (((jn 1) + (jn 0)) + (jn 0)))], [], M4))) else (oB (aldI lay none M 59 l2) fun v3 => (oB (aldI lay none M 60 v3) fun v4 => (kI (pcl GG lay d 2 [.int (jn 1000), .int (((jn 1) + (jn 0)) + v4)] M) fun r5 M5 => (oB (astI lay M5 60 l2 r5) fun M6 => E_88 d (2, [some (.ref 52), some (.int l1), some (.int (l2 + (jn 1))), some (.int (((jn 1) + (jn 0)) + v4))], [], M6)))))))))) := by
  refine (evn_adv 2 (q' := (4, [some (.ref 52), some (.int l1), some (.int l2), u3], [.int l1, .int l2], M)) rfl).trans ?_
  refine (e_ic_gt (hf := rfl)).trans ?_
  refine ite_in ?_ ?_
  · refine (evn_adv 3 (q' := (85, [some (.ref 52), some (.int l1), some (.int l2), u3], [.int l1, .ref 60], M)) rfl).trans ?_
    refine (e_oB (q := (85, [some (.ref 52), some (.int l1), some (.int l2), u3], [.int l1, .ref 60], M)) (o := (aldI lay none M 60 l1)) (f := fun v1 => (86, [some (.ref 52), some (.int l1), some (.int l2), u3], [.int v1], M)) (hf := rfl) rfl).trans ?_
    refine oB_in (fun v1 => ?_)
    exact evn_end 1 rfl
  · refine (evn_adv 4 (q' := (13, [some (.ref 52), some (.int l1), some (.int l2), u3], [.int l2, .ref 57, .int (jn 1)], M)) rfl).trans ?_
    refine (e_oB (q := (13, [some (.ref 52), some (.int l1), some (.int l2), u3], [.int l2, .ref 57, .int (jn 1)], M)) (o := (aldI lay none M 57 l2)) (f := fun v1 => (14, [some (.ref 52), some (.int l1), some (.int l2), u3], [.int v1, .int (jn 1)], M)) (hf := rfl) rfl).trans ?_
    refine oB_in (fun v1 => ?_)
    refine (evn_adv 1 (q' := (15, [some (.ref 52), some (.int l1), some (.int l2), u3], [.int (jn 2), .int v1, .int (jn 1)], M)) rfl).trans ?_
    refine (e_ic_le (hf := rfl)).trans ?_
    refine ite_in ?_ ?_
    · refine (evn_adv 5 (q' := (27, [some (.ref 52), some (.int l1), some (.int l2), u3], [.int l2, .ref 58, .ref 60, .int (jn 1)], M)) rfl).trans ?_
      refine (e_oB (q := (27, [some (.ref 52), some (.int l1), some (.int l2), u3], [.int l2, .ref 58, .ref 60, .int (jn 1)], M)) (o := (aldI lay none M 58 l2)) (f := fun v2 => (28, [some (.ref 52), some (.int l1), some (.int l2), u3], [.int v2, .ref 60, .int (jn 1)], M)) (hf := rfl) rfl).trans ?_
      refine oB_in (fun v2 => ?_)
      refine (e_oB (q := (28, [some (.ref 52), some (.int l1), some (.int l2), u3], [.int v2, .ref 60, .int (jn 1)], M)) (o := (aldI lay none M 60 v2)) (f := fun v3 => (29, [some (.ref 52), some (.int l1), some (.int l2), u3], [.int v3, .int (jn 1)], M)) (hf := rfl) rfl).trans ?_
      refine oB_in (fun v3 => ?_)
      refine (evn_adv 5 (q' := (39, [some (.ref 52), some (.int l1), some (.int l2), u3], [.int l2, .ref 59, .int ((jn 1) + v3)], M)) rfl).trans ?_
      refine (e_oB (q := (39, [some (.ref 52), some (.int l1), some (.int l2), u3], [.int l2, .ref 59, .int ((jn 1) + v3)], M)) (o := (aldI lay none M 59 l2)) (f := fun v4 => (40, [some (.ref 52), some (.int l1), some (.int l2), u3], [.int v4, .int ((jn 1) + v3)], M)) (hf := rfl) rfl).trans ?_
      refine oB_in (fun v4 => ?_)
      refine (evn_adv 1 (q' := (41, [some (.ref 52), some (.int l1), some (.int l2), u3], [.int (jz 1), .int v4, .int ((jn 1) + v3)], M)) rfl).trans ?_
      refine (e_ic_eq (hf := rfl)).trans ?_
      refine ite_in ?_ ?_
      · refine (evn_adv 8 (q' := (70, [some (.ref 52), some (.int l1), some (.int l2), some (.int (((jn 1) + v3) + (jn 0)))], [.int (((jn 1) + v3) + (jn 0)), .int (jn 1000), .int l2, .ref 60], M)) rfl).trans ?_
        refine (e_kI (q := (70, [some (.ref 52), some (.int l1), some (.int l2), some (.int (((jn 1) + v3) + (jn 0)))], [.int (((jn 1) + v3) + (jn 0)), .int (jn 1000), .int l2, .ref 60])) (q2 := (73, [some (.ref 52), some (.int l1), some (.int l2), some (.int (((jn 1) + v3) + (jn 0)))], [.int l2, .ref 60])) (M := M) (o := (pcl GG lay d 2 [.int (jn 1000), .int (((jn 1) + v3) + (jn 0))] M)) (hf := rfl) rfl rfl).trans ?_
        refine kI_in (fun r5 M5 => ?_)
        refine (e_oB (q := (73, [some (.ref 52), some (.int l1), some (.int l2), some (.int (((jn 1) + v3) + (jn 0)))], [.int r5, .int l2, .ref 60], M5)) (o := (astI lay M5 60 l2 r5)) (f := fun M6 => (74, [some (.ref 52), some (.int l1), some (.int l2), some (.int (((jn 1) + v3) + (jn 0)))], [], M6)) (hf := rfl) rfl).trans ?_
        refine oB_in (fun M6 => ?_)
        refine (evn_adv 2 (q' := (2, [some (.ref 52), some (.int l1), some (.int (l2 + (jn 1))), some (.int (((jn 1) + v3) + (jn 0)))], [], M6)) rfl).trans ?_
        rfl
      · refine (evn_adv 5 (q' := (53, [some (.ref 52), some (.int l1), some (.int l2), u3], [.int l2, .ref 59, .ref 60, .int ((jn 1) + v3)], M)) rfl).trans ?_
        refine (e_oB (q := (53, [some (.ref 52), some (.int l1), some (.int l2), u3], [.int l2, .ref 59, .ref 60, .int ((jn 1) + v3)], M)) (o := (aldI lay none M 59 l2)) (f := fun v5 => (54, [some (.ref 52), some (.int l1), some (.int l2), u3], [.int v5, .ref 60, .int ((jn 1) + v3)], M)) (hf := rfl) rfl).trans ?_
        refine oB_in (fun v5 => ?_)
        refine (e_oB (q := (54, [some (.ref 52), some (.int l1), some (.int l2), u3], [.int v5, .ref 60, .int ((jn 1) + v3)], M)) (o := (aldI lay none M 60 v5)) (f := fun v6 => (55, [some (.ref 52), some (.int l1), some (.int l2), u3], [.int v6, .int ((jn 1) + v3)], M)) (hf := rfl) rfl).trans ?_
        refine oB_in (fun v6 => ?_)
        refine (evn_adv 8 (q' := (70, [some (.ref 52), some (.int l1), some (.int l2), some (.int (((jn 1) + v3) + v6))], [.int (((jn 1) + v3) + v6), .int (jn 1000), .int l2, .ref 60], M)) rfl).trans ?_
        refine (e_kI (q := (70, [some (.ref 52), some (.int l1), some (.int l2), some (.int (((jn 1) + v3) + v6))], [.int (((jn 1) + v3) + v6), .int (jn 1000), .int l2, .ref 60])) (q2 := (73, [some (.ref 52), some (.int l1), some (.int l2), some (.int (((jn 1) + v3) + v6))], [.int l2, .ref 60])) (M := M) (o := (pcl GG lay d 2 [.int (jn 1000), .int (((jn 1) + v3) + v6)] M)) (hf := rfl) rfl rfl).trans ?_
        refine kI_in (fun r7 M7 => ?_)
        refine (e_oB (q := (73, [some (.ref 52), some (.int l1), some (.int l2), some (.int (((jn 1) + v3) + v6))], [.int r7, .int l2, .ref 60], M7)) (o := (astI lay M7 60 l2 r7)) (f := fun M8 => (74, [some (.ref 52), some (.int l1), some (.int l2), some (.int (((jn 1) + v3) + v6))], [], M8)) (hf := rfl) rfl).trans ?_
        refine oB_in (fun M8 => ?_)
        refine (evn_adv 2 (q' := (2, [some (.ref 52), some (.int l1), some (.int (l2 + (jn 1))), some (.int (((jn 1) + v3) + v6))], [], M8)) rfl).trans ?_
        rfl
    · refine (evn_adv 5 (q' := (39, [some (.ref 52), some (.int l1), some (.int l2), u3], [.int l2, .ref 59, .int ((jn 1) + (jn 0))], M)) rfl).trans ?_
      refine (e_oB (q := (39, [some (.ref 52), some (.int l1), some (.int l2), u3], [.int l2, .ref 59, .int ((jn 1) + (jn 0))], M)) (o := (aldI lay none M 59 l2)) (f := fun v2 => (40, [some (.ref 52), some (.int l1), some (.int l2), u3], [.int v2, .int ((jn 1) + (jn 0))], M)) (hf := rfl) rfl).trans ?_
      refine oB_in (fun v2 => ?_)
      refine (evn_adv 1 (q' := (41, [some (.ref 52), some (.int l1), some (.int l2), u3], [.int (jz 1), .int v2, .int ((jn 1) + (jn 0))], M)) rfl).trans ?_
      refine (e_ic_eq (hf := rfl)).trans ?_
      refine ite_in ?_ ?_
      · refine (evn_adv 8 (q' := (70, [some (.ref 52), some (.int l1), some (.int l2), some (.int (((jn 1) + (jn 0)) + (jn 0)))], [.int (((jn 1) + (jn 0)) + (jn 0)), .int (jn 1000), .int l2, .ref 60], M)) rfl).trans ?_
        refine (e_kI (q := (70, [some (.ref 52), some (.int l1), some (.int l2), some (.int (((jn 1) + (jn 0)) + (jn 0)))], [.int (((jn 1) + (jn 0)) + (jn 0)), .int (jn 1000), .int l2, .ref 60])) (q2 := (73, [some (.ref 52), some (.int l1), some (.int l2), some (.int (((jn 1) + (jn 0)) + (jn 0)))], [.int l2, .ref 60])) (M := M) (o := (pcl GG lay d 2 [.int (jn 1000), .int (((jn 1) + (jn 0)) + (jn 0))] M)) (hf := rfl) rfl rfl).trans ?_
        refine kI_in (fun r3 M3 => ?_)
        refine (e_oB (q := (73, [some (.ref 52), some (.int l1), some (.int l2), some (.int (((jn 1) + (jn 0)) + (jn 0)))], [.int r3, .int l2, .ref 60], M3)) (o := (astI lay M3 60 l2 r3)) (f := fun M4 => (74, [some (.ref 52), some (.int l1), some (.int l2), some (.int (((jn 1) + (jn 0)) + (jn 0)))], [], M4)) (hf := rfl) rfl).trans ?_
        refine oB_in (fun M4 => ?_)
        refine (evn_adv 2 (q' := (2, [some (.ref 52), some (.int l1), some (.int (l2 + (jn 1))), some (.int (((jn 1) + (jn 0)) + (jn 0)))], [], M4)) rfl).trans ?_
        rfl
      · refine (evn_adv 5 (q' := (53, [some (.ref 52), some (.int l1), some (.int l2), u3], [.int l2, .ref 59, .ref 60, .int ((jn 1) + (jn 0))], M)) rfl).trans ?_
        refine (e_oB (q := (53, [some (.ref 52), some (.int l1), some (.int l2), u3], [.int l2, .ref 59, .ref 60, .int ((jn 1) + (jn 0))], M)) (o := (aldI lay none M 59 l2)) (f := fun v3 => (54, [some (.ref 52), some (.int l1), some (.int l2), u3], [.int v3, .ref 60, .int ((jn 1) + (jn 0))], M)) (hf := rfl) rfl).trans ?_
        refine oB_in (fun v3 => ?_)
        refine (e_oB (q := (54, [some (.ref 52), some (.int l1), some (.int l2), u3], [.int v3, .ref 60, .int ((jn 1) + (jn 0))], M)) (o := (aldI lay none M 60 v3)) (f := fun v4 => (55, [some (.ref 52), some (.int l1), some (.int l2), u3], [.int v4, .int ((jn 1) + (jn 0))], M)) (hf := rfl) rfl).trans ?_
        refine oB_in (fun v4 => ?_)
        refine (evn_adv 8 (q' := (70, [some (.ref 52), some (.int l1), some (.int l2), some (.int (((jn 1) + (jn 0)) + v4))], [.int (((jn 1) + (jn 0)) + v4), .int (jn 1000), .int l2, .ref 60], M)) rfl).trans ?_
        refine (e_kI (q := (70, [some (.ref 52), some (.int l1), some (.int l2), some (.int (((jn 1) + (jn 0)) + v4))], [.int (((jn 1) + (jn 0)) + v4), .int (jn 1000), .int l2, .ref 60])) (q2 := (73, [some (.ref 52), some (.int l1), some (.int l2), some (.int (((jn 1) + (jn 0)) + v4))], [.int l2, .ref 60])) (M := M) (o := (pcl GG lay d 2 [.int (jn 1000), .int (((jn 1) + (jn 0)) + v4)] M)) (hf := rfl) rfl rfl).trans ?_
        refine kI_in (fun r5 M5 => ?_)
        refine (e_oB (q := (73, [some (.ref 52), some (.int l1), some (.int l2), some (.int (((jn 1) + (jn 0)) + v4))], [.int r5, .int l2, .ref 60], M5)) (o := (astI lay M5 60 l2 r5)) (f := fun M6 => (74, [some (.ref 52), some (.int l1), some (.int l2), some (.int (((jn 1) + (jn 0)) + v4))], [], M6)) (hf := rfl) rfl).trans ?_
        refine oB_in (fun M6 => ?_)
        refine (evn_adv 2 (q' := (2, [some (.ref 52), some (.int l1), some (.int (l2 + (jn 1))), some (.int (((jn 1) + (jn 0)) + v4))], [], M6)) rfl).trans ?_
        rfl
