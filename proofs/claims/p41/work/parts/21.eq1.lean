/-- TermStrategies.row(III)I -/
noncomputable abbrev E_3 (d : Nat) : PQ → PO := evn (rnn k_3 lay none (pcl GG lay d) 1)
theorem q_3 (d : Nat) (l1 : Int32) (l2 : Int32) (l3 : Int32) (M : PM) : pcl GG lay (d + 1) 3 [.ref 0, .int l1, .int l2, .int l3] M = (kI (pcl GG lay d 217 [.int l1] M) fun r1 M1 => (if r1 = jn 0 then (kI (pcl GG lay d 56 [.ref 0, .int (jz 1)] M1) fun r2 M2 => (rI r2 M2)) else (if l3 < jn 0 then (kI (pcl GG lay d 56 [.ref 0, .int (jz 4)] M1) fun r2 M2 => (rI r2 M2)) else (if l2 < jn 0 then (kI (pcl GG lay d 56 [.ref 0, .int (jz 6)] M1) fun r2 M2 => (rI r2 M2)) else (if l2 < (jn 4) then (if (jn 160) < l3 then (kI (pcl GG lay d 56 [.ref 0, .int (jz 7)] M1) fun r2 M2 => (rI r2 M2)) else (kV (pcl GG lay d 223 [.ref 15, .int l1, .int l2, .int l3] M1) fun M2 => (rI (jn 1) M2))) else (kI (pcl GG lay d 56 [.ref 0, .int (jz 6)] M1) fun r2 M2 => (rI r2 M2))))))) := by
  refine (pcl_un (mt := t_3) (by decide) rfl (Nat.le_of_ble_eq_true rfl)).trans ?_
  show E_3 d (0, [some (.ref 0), some (.int l1), some (.int l2), some (.int l3)], [], M) = _
  refine (evn_adv 1 (q' := (1, [some (.ref 0), some (.int l1), some (.int l2), some (.int l3)], [.int l1], M)) rfl).trans ?_
  refine (e_kI (q := (1, [some (.ref 0), some (.int l1), some (.int l2), some (.int l3)], [.int l1])) (q2 := (4, [some (.ref 0), some (.int l1), some (.int l2), some (.int l3)], [])) (M := M) (o := (pcl GG lay d 217 [.int l1] M)) (hf := rfl) rfl rfl).trans ?_
  refine kI_in (fun r1 M1 => ?_)
  refine (e_if_ne (hf := rfl)).trans ?_
  refine ite_in ?_ ?_
  · refine (evn_adv 2 (q' := (9, [some (.ref 0), some (.int l1), some (.int l2), some (.int l3)], [.int (jz 1), .ref 0], M1)) rfl).trans ?_
    refine (e_kI (q := (9, [some (.ref 0), some (.int l1), some (.int l2), some (.int l3)], [.int (jz 1), .ref 0])) (q2 := (12, [some (.ref 0), some (.int l1), some (.int l2), some (.int l3)], [])) (M := M1) (o := (pcl GG lay d 56 [.ref 0, .int (jz 1)] M1)) (hf := rfl) rfl rfl).trans ?_
    refine kI_in (fun r2 M2 => ?_)
    exact evn_end 1 rfl
  · refine (evn_adv 1 (q' := (14, [some (.ref 0), some (.int l1), some (.int l2), some (.int l3)], [.int l3], M1)) rfl).trans ?_
    refine (e_if_ge (hf := rfl)).trans ?_
    refine ite_in ?_ ?_
    · refine (evn_adv 2 (q' := (20, [some (.ref 0), some (.int l1), some (.int l2), some (.int l3)], [.int (jz 4), .ref 0], M1)) rfl).trans ?_
      refine (e_kI (q := (20, [some (.ref 0), some (.int l1), some (.int l2), some (.int l3)], [.int (jz 4), .ref 0])) (q2 := (23, [some (.ref 0), some (.int l1), some (.int l2), some (.int l3)], [])) (M := M1) (o := (pcl GG lay d 56 [.ref 0, .int (jz 4)] M1)) (hf := rfl) rfl rfl).trans ?_
      refine kI_in (fun r2 M2 => ?_)
      exact evn_end 1 rfl
    · refine (evn_adv 1 (q' := (25, [some (.ref 0), some (.int l1), some (.int l2), some (.int l3)], [.int l2], M1)) rfl).trans ?_
      refine (e_if_lt (hf := rfl)).trans ?_
      refine ite_in ?_ ?_
      · refine (evn_adv 2 (q' := (36, [some (.ref 0), some (.int l1), some (.int l2), some (.int l3)], [.int (jz 6), .ref 0], M1)) rfl).trans ?_
        refine (e_kI (q := (36, [some (.ref 0), some (.int l1), some (.int l2), some (.int l3)], [.int (jz 6), .ref 0])) (q2 := (39, [some (.ref 0), some (.int l1), some (.int l2), some (.int l3)], [])) (M := M1) (o := (pcl GG lay d 56 [.ref 0, .int (jz 6)] M1)) (hf := rfl) rfl rfl).trans ?_
        refine kI_in (fun r2 M2 => ?_)
        exact evn_end 1 rfl
      · refine (evn_adv 2 (q' := (30, [some (.ref 0), some (.int l1), some (.int l2), some (.int l3)], [.int (jn 4), .int l2], M1)) rfl).trans ?_
        refine (e_ic_lt (hf := rfl)).trans ?_
        refine ite_in ?_ ?_
        · refine (evn_adv 2 (q' := (44, [some (.ref 0), some (.int l1), some (.int l2), some (.int l3)], [.int (jn 160), .int l3], M1)) rfl).trans ?_
          refine (e_ic_le (hf := rfl)).trans ?_
          refine ite_in ?_ ?_
          · refine (evn_adv 2 (q' := (50, [some (.ref 0), some (.int l1), some (.int l2), some (.int l3)], [.int (jz 7), .ref 0], M1)) rfl).trans ?_
            refine (e_kI (q := (50, [some (.ref 0), some (.int l1), some (.int l2), some (.int l3)], [.int (jz 7), .ref 0])) (q2 := (53, [some (.ref 0), some (.int l1), some (.int l2), some (.int l3)], [])) (M := M1) (o := (pcl GG lay d 56 [.ref 0, .int (jz 7)] M1)) (hf := rfl) rfl rfl).trans ?_
            refine kI_in (fun r2 M2 => ?_)
            exact evn_end 1 rfl
          · refine (evn_adv 5 (q' := (61, [some (.ref 0), some (.int l1), some (.int l2), some (.int l3)], [.int l3, .int l2, .int l1, .ref 15], M1)) rfl).trans ?_
            refine (e_kV (q := (61, [some (.ref 0), some (.int l1), some (.int l2), some (.int l3)], [.int l3, .int l2, .int l1, .ref 15])) (q2 := (64, [some (.ref 0), some (.int l1), some (.int l2), some (.int l3)], [])) (M := M1) (o := (pcl GG lay d 223 [.ref 15, .int l1, .int l2, .int l3] M1)) (hf := rfl) rfl rfl).trans ?_
            refine kV_in (fun M2 => ?_)
            refine (evn_adv 1 (q' := (65, [some (.ref 0), some (.int l1), some (.int l2), some (.int l3)], [.int (jn 1)], M2)) rfl).trans ?_
            exact evn_end 1 rfl
        · refine (evn_adv 2 (q' := (36, [some (.ref 0), some (.int l1), some (.int l2), some (.int l3)], [.int (jz 6), .ref 0], M1)) rfl).trans ?_
          refine (e_kI (q := (36, [some (.ref 0), some (.int l1), some (.int l2), some (.int l3)], [.int (jz 6), .ref 0])) (q2 := (39, [some (.ref 0), some (.int l1), some (.int l2), some (.int l3)], [])) (M := M1) (o := (pcl GG lay d 56 [.ref 0, .int (jz 6)] M1)) (hf := rfl) rfl rfl).trans ?_
          refine kI_in (fun r2 M2 => ?_)
          exact evn_end 1 rfl
/-- TermStrategies.set(IIJ)I -/
noncomputable abbrev E_4 (d : Nat) : PQ → PO := evn (rnn k_4 lay none (pcl GG lay d) 1)
theorem q_4 (d : Nat) (l1 : Int32) (l2 : Int32) (l3 : Int64) (M : PM) : pcl GG lay (d + 1) 4 [.ref 0, .int l1, .int l2, .long l3] M = (kI (pcl GG lay d 221 [.ref 15, .int l1] M) fun r1 M1 => (if r1 = jn 0 then (if l2 < jn 0 then (kI (pcl GG lay d 56 [.ref 0, .int (jz 5)] M1) fun r2 M2 => (rI r2 M2)) else (kI (pcl GG lay d 222 [.ref 15, .int l1] M1) fun r2 M2 => (if l2 < r2 then (kV (pcl GG lay d 227 [.ref 15, .int l1, .int l2, .long l3] M2) fun M3 => (rI (jn 1) M3)) else (kI (pcl GG lay d 56 [.ref 0, .int (jz 5)] M2) fun r3 M3 => (rI r3 M3))))) else (kI (pcl GG lay d 56 [.ref 0, .int r1] M1) fun r2 M2 => (rI r2 M2)))) := by
  refine (pcl_un (mt := t_4) (by decide) rfl (Nat.le_of_ble_eq_true rfl)).trans ?_
  show E_4 d (0, [some (.ref 0), some (.int l1), some (.int l2), some (.long l3), none, none], [], M) = _
  refine (evn_adv 3 (q' := (5, [some (.ref 0), some (.int l1), some (.int l2), some (.long l3), none, none], [.int l1, .ref 15], M)) rfl).trans ?_
  refine (e_kI (q := (5, [some (.ref 0), some (.int l1), some (.int l2), some (.long l3), none, none], [.int l1, .ref 15])) (q2 := (8, [some (.ref 0), some (.int l1), some (.int l2), some (.long l3), none, none], [])) (M := M) (o := (pcl GG lay d 221 [.ref 15, .int l1] M)) (hf := rfl) rfl rfl).trans ?_
  refine kI_in (fun r1 M1 => ?_)
  refine (evn_adv 2 (q' := (12, [some (.ref 0), some (.int l1), some (.int l2), some (.long l3), none, some (.int r1)], [.int r1], M1)) rfl).trans ?_
  refine (e_if_eq (hf := rfl)).trans ?_
  refine ite_in ?_ ?_
  · refine (evn_adv 1 (q' := (23, [some (.ref 0), some (.int l1), some (.int l2), some (.long l3), none, some (.int r1)], [.int l2], M1)) rfl).trans ?_
    refine (e_if_lt (hf := rfl)).trans ?_
    refine ite_in ?_ ?_
    · refine (evn_adv 2 (q' := (41, [some (.ref 0), some (.int l1), some (.int l2), some (.long l3), none, some (.int r1)], [.int (jz 5), .ref 0], M1)) rfl).trans ?_
      refine (e_kI (q := (41, [some (.ref 0), some (.int l1), some (.int l2), some (.long l3), none, some (.int r1)], [.int (jz 5), .ref 0])) (q2 := (44, [some (.ref 0), some (.int l1), some (.int l2), some (.long l3), none, some (.int r1)], [])) (M := M1) (o := (pcl GG lay d 56 [.ref 0, .int (jz 5)] M1)) (hf := rfl) rfl rfl).trans ?_
      refine kI_in (fun r2 M2 => ?_)
      exact evn_end 1 rfl
    · refine (evn_adv 4 (q' := (32, [some (.ref 0), some (.int l1), some (.int l2), some (.long l3), none, some (.int r1)], [.int l1, .ref 15, .int l2], M1)) rfl).trans ?_
      refine (e_kI (q := (32, [some (.ref 0), some (.int l1), some (.int l2), some (.long l3), none, some (.int r1)], [.int l1, .ref 15, .int l2])) (q2 := (35, [some (.ref 0), some (.int l1), some (.int l2), some (.long l3), none, some (.int r1)], [.int l2])) (M := M1) (o := (pcl GG lay d 222 [.ref 15, .int l1] M1)) (hf := rfl) rfl rfl).trans ?_
      refine kI_in (fun r2 M2 => ?_)
      refine (e_ic_lt (hf := rfl)).trans ?_
      refine ite_in ?_ ?_
      · refine (evn_adv 5 (q' := (52, [some (.ref 0), some (.int l1), some (.int l2), some (.long l3), none, some (.int r1)], [.long l3, .int l2, .int l1, .ref 15], M2)) rfl).trans ?_
        refine (e_kV (q := (52, [some (.ref 0), some (.int l1), some (.int l2), some (.long l3), none, some (.int r1)], [.long l3, .int l2, .int l1, .ref 15])) (q2 := (55, [some (.ref 0), some (.int l1), some (.int l2), some (.long l3), none, some (.int r1)], [])) (M := M2) (o := (pcl GG lay d 227 [.ref 15, .int l1, .int l2, .long l3] M2)) (hf := rfl) rfl rfl).trans ?_
        refine kV_in (fun M3 => ?_)
        refine (evn_adv 1 (q' := (56, [some (.ref 0), some (.int l1), some (.int l2), some (.long l3), none, some (.int r1)], [.int (jn 1)], M3)) rfl).trans ?_
        exact evn_end 1 rfl
      · refine (evn_adv 2 (q' := (41, [some (.ref 0), some (.int l1), some (.int l2), some (.long l3), none, some (.int r1)], [.int (jz 5), .ref 0], M2)) rfl).trans ?_
        refine (e_kI (q := (41, [some (.ref 0), some (.int l1), some (.int l2), some (.long l3), none, some (.int r1)], [.int (jz 5), .ref 0])) (q2 := (44, [some (.ref 0), some (.int l1), some (.int l2), some (.long l3), none, some (.int r1)], [])) (M := M2) (o := (pcl GG lay d 56 [.ref 0, .int (jz 5)] M2)) (hf := rfl) rfl rfl).trans ?_
        refine kI_in (fun r3 M3 => ?_)
        exact evn_end 1 rfl
  · refine (evn_adv 2 (q' := (18, [some (.ref 0), some (.int l1), some (.int l2), some (.long l3), none, some (.int r1)], [.int r1, .ref 0], M1)) rfl).trans ?_
    refine (e_kI (q := (18, [some (.ref 0), some (.int l1), some (.int l2), some (.long l3), none, some (.int r1)], [.int r1, .ref 0])) (q2 := (21, [some (.ref 0), some (.int l1), some (.int l2), some (.long l3), none, some (.int r1)], [])) (M := M1) (o := (pcl GG lay d 56 [.ref 0, .int r1] M1)) (hf := rfl) rfl rfl).trans ?_
    refine kI_in (fun r2 M2 => ?_)
    exact evn_end 1 rfl
/-- TermStrategies.term(I)I -/
noncomputable abbrev E_12 (d : Nat) : PQ → PO := evn (rnn k_12 lay none (pcl GG lay d) 1)
theorem q_12 (d : Nat) (l1 : Int32) (M : PM) : pcl GG lay (d + 1) 12 [.ref 0, .int l1] M = (kI (pcl GG lay d 221 [.ref 15, .int l1] M) fun r1 M1 => (if r1 = jn 0 then (kI (pcl GG lay d 196 [.ref 19, .int l1, .int (jn 1920)] M1) fun r2 M2 => (wr (sI M2 0 (va_up (M2.1 0) 13 r2)) fun M3 => (if (M3.1 0 13) = (jz 1) then (kI (pcl GG lay d 57 [.ref 0, .int (jn 1920)] M3) fun r4 M4 => (rI r4 M4)) else (kI (pcl GG lay d 56 [.ref 0, .int (jz 6)] M3) fun r4 M4 => (rI r4 M4))))) else (kI (pcl GG lay d 56 [.ref 0, .int r1] M1) fun r2 M2 => (rI r2 M2)))) := by
  refine (pcl_un (mt := t_12) (by decide) rfl (Nat.le_of_ble_eq_true rfl)).trans ?_
  show E_12 d (0, [some (.ref 0), some (.int l1), none], [], M) = _
  refine (evn_adv 3 (q' := (5, [some (.ref 0), some (.int l1), none], [.int l1, .ref 15], M)) rfl).trans ?_
  refine (e_kI (q := (5, [some (.ref 0), some (.int l1), none], [.int l1, .ref 15])) (q2 := (8, [some (.ref 0), some (.int l1), none], [])) (M := M) (o := (pcl GG lay d 221 [.ref 15, .int l1] M)) (hf := rfl) rfl rfl).trans ?_
  refine kI_in (fun r1 M1 => ?_)
  refine (evn_adv 2 (q' := (10, [some (.ref 0), some (.int l1), some (.int r1)], [.int r1], M1)) rfl).trans ?_
  refine (e_if_eq (hf := rfl)).trans ?_
  refine ite_in ?_ ?_
  · refine (evn_adv 5 (q' := (28, [some (.ref 0), some (.int l1), some (.int r1)], [.int (jn 1920), .int l1, .ref 19, .ref 0], M1)) rfl).trans ?_
    refine (e_kI (q := (28, [some (.ref 0), some (.int l1), some (.int r1)], [.int (jn 1920), .int l1, .ref 19, .ref 0])) (q2 := (31, [some (.ref 0), some (.int l1), some (.int r1)], [.ref 0])) (M := M1) (o := (pcl GG lay d 196 [.ref 19, .int l1, .int (jn 1920)] M1)) (hf := rfl) rfl rfl).trans ?_
    refine kI_in (fun r2 M2 => ?_)
    refine (evn_adv 1 (q' := (34, [some (.ref 0), some (.int l1), some (.int r1)], [], (sI M2 0 (va_up (M2.1 0) 13 r2)))) rfl).trans ?_
    refine wr_in (f := fun M3 => E_12 d (34, [some (.ref 0), some (.int l1), some (.int r1)], [], M3)) (fun M3 => ?_)
    refine (evn_adv 3 (q' := (39, [some (.ref 0), some (.int l1), some (.int r1)], [.int (jz 1), .int (M3.1 0 13)], M3)) rfl).trans ?_
    refine (e_ic_eq (hf := rfl)).trans ?_
    refine ite_in ?_ ?_
    · refine (evn_adv 2 (q' := (53, [some (.ref 0), some (.int l1), some (.int r1)], [.int (jn 1920), .ref 0], M3)) rfl).trans ?_
      refine (e_kI (q := (53, [some (.ref 0), some (.int l1), some (.int r1)], [.int (jn 1920), .ref 0])) (q2 := (56, [some (.ref 0), some (.int l1), some (.int r1)], [])) (M := M3) (o := (pcl GG lay d 57 [.ref 0, .int (jn 1920)] M3)) (hf := rfl) rfl rfl).trans ?_
      refine kI_in (fun r4 M4 => ?_)
      exact evn_end 1 rfl
    · refine (evn_adv 2 (q' := (45, [some (.ref 0), some (.int l1), some (.int r1)], [.int (jz 6), .ref 0], M3)) rfl).trans ?_
      refine (e_kI (q := (45, [some (.ref 0), some (.int l1), some (.int r1)], [.int (jz 6), .ref 0])) (q2 := (48, [some (.ref 0), some (.int l1), some (.int r1)], [])) (M := M3) (o := (pcl GG lay d 56 [.ref 0, .int (jz 6)] M3)) (hf := rfl) rfl rfl).trans ?_
      refine kI_in (fun r4 M4 => ?_)
      exact evn_end 1 rfl
  · refine (evn_adv 2 (q' := (15, [some (.ref 0), some (.int l1), some (.int r1)], [.int r1, .ref 0], M1)) rfl).trans ?_
    refine (e_kI (q := (15, [some (.ref 0), some (.int l1), some (.int r1)], [.int r1, .ref 0])) (q2 := (18, [some (.ref 0), some (.int l1), some (.int r1)], [])) (M := M1) (o := (pcl GG lay d 56 [.ref 0, .int r1] M1)) (hf := rfl) rfl rfl).trans ?_
    refine kI_in (fun r2 M2 => ?_)
    exact evn_end 1 rfl
/-- TermStrategies.fault()I -/
noncomputable abbrev E_13 (d : Nat) : PQ → PO := evn (rnn k_13 lay none (pcl GG lay d) 1)
theorem q_13 (d : Nat)  (M : PM) : pcl GG lay (d + 1) 13 [.ref 0] M = (rI (M.1 0 13) M) := by
  refine (pcl_un (mt := t_13) (by decide) rfl (Nat.le_of_ble_eq_true rfl)).trans ?_
  show E_13 d (0, [some (.ref 0)], [], M) = _
  refine (evn_adv 2 (q' := (4, [some (.ref 0)], [.int (M.1 0 13)], M)) rfl).trans ?_
  exact evn_end 1 rfl
/-- TermStrategies.drop()I -/
noncomputable abbrev E_14 (d : Nat) : PQ → PO := evn (rnn k_14 lay none (pcl GG lay d) 1)
theorem q_14 (d : Nat)  (M : PM) : pcl GG lay (d + 1) 14 [.ref 0] M = (if (M.1 1 5) = jn 0 then (kI (pcl GG lay d 56 [.ref 0, .int (jz 6)] M) fun r1 M1 => (rI r1 M1)) else (wr (sI M 1 (va_up (M.1 1) 5 ((M.1 1 5) - (jn 1)))) fun M1 => (rI (M1.1 1 5) M1))) := by
  refine (pcl_un (mt := t_14) (by decide) rfl (Nat.le_of_ble_eq_true rfl)).trans ?_
  show E_14 d (0, [some (.ref 0)], [], M) = _
  refine (evn_adv 3 (q' := (7, [some (.ref 0)], [.int (M.1 1 5)], M)) rfl).trans ?_
  refine (e_if_ne (hf := rfl)).trans ?_
  refine ite_in ?_ ?_
  · refine (evn_adv 2 (q' := (13, [some (.ref 0)], [.int (jz 6), .ref 0], M)) rfl).trans ?_
    refine (e_kI (q := (13, [some (.ref 0)], [.int (jz 6), .ref 0])) (q2 := (16, [some (.ref 0)], [])) (M := M) (o := (pcl GG lay d 56 [.ref 0, .int (jz 6)] M)) (hf := rfl) rfl rfl).trans ?_
    refine kI_in (fun r1 M1 => ?_)
    exact evn_end 1 rfl
  · refine (evn_adv 6 (q' := (27, [some (.ref 0)], [.int ((M.1 1 5) - (jn 1)), .ref 1], M)) rfl).trans ?_
    refine (evn_adv 1 (q' := (30, [some (.ref 0)], [], (sI M 1 (va_up (M.1 1) 5 ((M.1 1 5) - (jn 1)))))) rfl).trans ?_
    refine wr_in (f := fun M1 => E_14 d (30, [some (.ref 0)], [], M1)) (fun M1 => ?_)
    refine (evn_adv 3 (q' := (37, [some (.ref 0)], [.int (M1.1 1 5)], M1)) rfl).trans ?_
    exact evn_end 1 rfl
/-- TermStrategies.commute(IZ)I -/
noncomputable abbrev E_15 (d : Nat) : PQ → PO := evn (rnn k_15 lay none (pcl GG lay d) 1)
theorem q_15 (d : Nat) (l1 : Int32) (l2 : Int32) (M : PM) : pcl GG lay (d + 1) 15 [.ref 0, .int l1, .int l2] M = (kI (pcl GG lay d 63 [.int l1] M) fun r1 M1 => (if r1 = (jn 2) then (if ((M1.1 1 8) &&& ((jn 1) <<< ((l1 - (jn 105)) &&& 31))) = jn 0 then (if l2 = jn 0 then (wr (sI M1 1 (va_up (M1.1 1) 8 ((M1.1 1 8) &&& (((jn 1) <<< ((l1 - (jn 105)) &&& 31)) ^^^ (jz 1))))) fun M2 => (rI (jn 0) M2)) else (wr (sI M1 1 (va_up (M1.1 1) 8 ((M1.1 1 8) ||| ((jn 1) <<< ((l1 - (jn 105)) &&& 31))))) fun M2 => (rI (jn 0) M2))) else (if l2 = jn 0 then (wr (sI M1 1 (va_up (M1.1 1) 8 ((M1.1 1 8) &&& (((jn 1) <<< ((l1 - (jn 105)) &&& 31)) ^^^ (jz 1))))) fun M2 => (rI (jn 1) M2)) else (wr (sI M1 1 (va_up (M1.1 1) 8 ((M1.1 1 8) ||| ((jn 1) <<< ((l1 - (jn 105)) &&& 31))))) fun M2 => (rI (jn 1) M2)))) else (kI (pcl GG lay d 56 [.ref 0, .int (jz 1)] M1) fun r2 M2 => (rI r2 M2)))) := by
  refine (pcl_un (mt := t_15) (by decide) rfl (Nat.le_of_ble_eq_true rfl)).trans ?_
  show E_15 d (0, [some (.ref 0), some (.int l1), some (.int l2), none, none], [], M) = _
  refine (evn_adv 1 (q' := (1, [some (.ref 0), some (.int l1), some (.int l2), none, none], [.int l1], M)) rfl).trans ?_
  refine (e_kI (q := (1, [some (.ref 0), some (.int l1), some (.int l2), none, none], [.int l1])) (q2 := (4, [some (.ref 0), some (.int l1), some (.int l2), none, none], [])) (M := M) (o := (pcl GG lay d 63 [.int l1] M)) (hf := rfl) rfl rfl).trans ?_
  refine kI_in (fun r1 M1 => ?_)
  refine (evn_adv 1 (q' := (5, [some (.ref 0), some (.int l1), some (.int l2), none, none], [.int (jn 2), .int r1], M1)) rfl).trans ?_
  refine (e_ic_eq (hf := rfl)).trans ?_
  refine ite_in ?_ ?_
  · refine (evn_adv 11 (q' := (30, [some (.ref 0), some (.int l1), some (.int l2), some (.int ((jn 1) <<< ((l1 - (jn 105)) &&& 31))), none], [.int ((M1.1 1 8) &&& ((jn 1) <<< ((l1 - (jn 105)) &&& 31)))], M1)) rfl).trans ?_
    refine (e_if_eq (hf := rfl)).trans ?_
    refine ite_in ?_ ?_
    · refine (evn_adv 5 (q' := (45, [some (.ref 0), some (.int l1), some (.int l2), some (.int ((jn 1) <<< ((l1 - (jn 105)) &&& 31))), some (.int (jn 0))], [.int l2, .ref 1], M1)) rfl).trans ?_
      refine (e_if_eq (hf := rfl)).trans ?_
      refine ite_in ?_ ?_
      · refine (evn_adv 7 (q' := (71, [some (.ref 0), some (.int l1), some (.int l2), some (.int ((jn 1) <<< ((l1 - (jn 105)) &&& 31))), some (.int (jn 0))], [.int ((M1.1 1 8) &&& (((jn 1) <<< ((l1 - (jn 105)) &&& 31)) ^^^ (jz 1))), .ref 1], M1)) rfl).trans ?_
        refine (evn_adv 1 (q' := (74, [some (.ref 0), some (.int l1), some (.int l2), some (.int ((jn 1) <<< ((l1 - (jn 105)) &&& 31))), some (.int (jn 0))], [], (sI M1 1 (va_up (M1.1 1) 8 ((M1.1 1 8) &&& (((jn 1) <<< ((l1 - (jn 105)) &&& 31)) ^^^ (jz 1))))))) rfl).trans ?_
        refine wr_in (f := fun M2 => E_15 d (74, [some (.ref 0), some (.int l1), some (.int l2), some (.int ((jn 1) <<< ((l1 - (jn 105)) &&& 31))), some (.int (jn 0))], [], M2)) (fun M2 => ?_)
        refine (evn_adv 1 (q' := (76, [some (.ref 0), some (.int l1), some (.int l2), some (.int ((jn 1) <<< ((l1 - (jn 105)) &&& 31))), some (.int (jn 0))], [.int (jn 0)], M2)) rfl).trans ?_
        exact evn_end 1 rfl
      · refine (evn_adv 6 (q' := (71, [some (.ref 0), some (.int l1), some (.int l2), some (.int ((jn 1) <<< ((l1 - (jn 105)) &&& 31))), some (.int (jn 0))], [.int ((M1.1 1 8) ||| ((jn 1) <<< ((l1 - (jn 105)) &&& 31))), .ref 1], M1)) rfl).trans ?_
        refine (evn_adv 1 (q' := (74, [some (.ref 0), some (.int l1), some (.int l2), some (.int ((jn 1) <<< ((l1 - (jn 105)) &&& 31))), some (.int (jn 0))], [], (sI M1 1 (va_up (M1.1 1) 8 ((M1.1 1 8) ||| ((jn 1) <<< ((l1 - (jn 105)) &&& 31))))))) rfl).trans ?_
        refine wr_in (f := fun M2 => E_15 d (74, [some (.ref 0), some (.int l1), some (.int l2), some (.int ((jn 1) <<< ((l1 - (jn 105)) &&& 31))), some (.int (jn 0))], [], M2)) (fun M2 => ?_)
        refine (evn_adv 1 (q' := (76, [some (.ref 0), some (.int l1), some (.int l2), some (.int ((jn 1) <<< ((l1 - (jn 105)) &&& 31))), some (.int (jn 0))], [.int (jn 0)], M2)) rfl).trans ?_
        exact evn_end 1 rfl
    · refine (evn_adv 6 (q' := (45, [some (.ref 0), some (.int l1), some (.int l2), some (.int ((jn 1) <<< ((l1 - (jn 105)) &&& 31))), some (.int (jn 1))], [.int l2, .ref 1], M1)) rfl).trans ?_
      refine (e_if_eq (hf := rfl)).trans ?_
      refine ite_in ?_ ?_
      · refine (evn_adv 7 (q' := (71, [some (.ref 0), some (.int l1), some (.int l2), some (.int ((jn 1) <<< ((l1 - (jn 105)) &&& 31))), some (.int (jn 1))], [.int ((M1.1 1 8) &&& (((jn 1) <<< ((l1 - (jn 105)) &&& 31)) ^^^ (jz 1))), .ref 1], M1)) rfl).trans ?_
        refine (evn_adv 1 (q' := (74, [some (.ref 0), some (.int l1), some (.int l2), some (.int ((jn 1) <<< ((l1 - (jn 105)) &&& 31))), some (.int (jn 1))], [], (sI M1 1 (va_up (M1.1 1) 8 ((M1.1 1 8) &&& (((jn 1) <<< ((l1 - (jn 105)) &&& 31)) ^^^ (jz 1))))))) rfl).trans ?_
        refine wr_in (f := fun M2 => E_15 d (74, [some (.ref 0), some (.int l1), some (.int l2), some (.int ((jn 1) <<< ((l1 - (jn 105)) &&& 31))), some (.int (jn 1))], [], M2)) (fun M2 => ?_)
        refine (evn_adv 1 (q' := (76, [some (.ref 0), some (.int l1), some (.int l2), some (.int ((jn 1) <<< ((l1 - (jn 105)) &&& 31))), some (.int (jn 1))], [.int (jn 1)], M2)) rfl).trans ?_
        exact evn_end 1 rfl
      · refine (evn_adv 6 (q' := (71, [some (.ref 0), some (.int l1), some (.int l2), some (.int ((jn 1) <<< ((l1 - (jn 105)) &&& 31))), some (.int (jn 1))], [.int ((M1.1 1 8) ||| ((jn 1) <<< ((l1 - (jn 105)) &&& 31))), .ref 1], M1)) rfl).trans ?_
        refine (evn_adv 1 (q' := (74, [some (.ref 0), some (.int l1), some (.int l2), some (.int ((jn 1) <<< ((l1 - (jn 105)) &&& 31))), some (.int (jn 1))], [], (sI M1 1 (va_up (M1.1 1) 8 ((M1.1 1 8) ||| ((jn 1) <<< ((l1 - (jn 105)) &&& 31))))))) rfl).trans ?_
        refine wr_in (f := fun M2 => E_15 d (74, [some (.ref 0), some (.int l1), some (.int l2), some (.int ((jn 1) <<< ((l1 - (jn 105)) &&& 31))), some (.int (jn 1))], [], M2)) (fun M2 => ?_)
        refine (evn_adv 1 (q' := (76, [some (.ref 0), some (.int l1), some (.int l2), some (.int ((jn 1) <<< ((l1 - (jn 105)) &&& 31))), some (.int (jn 1))], [.int (jn 1)], M2)) rfl).trans ?_
        exact evn_end 1 rfl
  · refine (evn_adv 2 (q' := (10, [some (.ref 0), some (.int l1), some (.int l2), none, none], [.int (jz 1), .ref 0], M1)) rfl).trans ?_
    refine (e_kI (q := (10, [some (.ref 0), some (.int l1), some (.int l2), none, none], [.int (jz 1), .ref 0])) (q2 := (13, [some (.ref 0), some (.int l1), some (.int l2), none, none], [])) (M := M1) (o := (pcl GG lay d 56 [.ref 0, .int (jz 1)] M1)) (hf := rfl) rfl rfl).trans ?_
    refine kI_in (fun r2 M2 => ?_)
    exact evn_end 1 rfl
/-- TermStrategies.node(II)I -/
noncomputable abbrev E_16 (d : Nat) : PQ → PO := evn (rnn k_16 lay none (pcl GG lay d) 1)
theorem q_16 (d : Nat) (l1 : Int32) (l2 : Int32) (M : PM) : pcl GG lay (d + 1) 16 [.ref 0, .int l1, .int l2] M = (kI (pcl GG lay d 240 [.ref 1, .int l1] M) fun r1 M1 => (if r1 = jn 0 then (kI (pcl GG lay d 56 [.ref 0, .int (jz 1)] M1) fun r2 M2 => (rI r2 M2)) else (kI (pcl GG lay d 59 [.int l1] M1) fun r2 M2 => (kI (pcl GG lay d 58 [.ref 0, .int r2, .int l2] M2) fun r3 M3 => (if r3 = jn 0 then (kI (pcl GG lay d 56 [.ref 0, .int (jz 5)] M3) fun r4 M4 => (rI r4 M4)) else (kI (pcl GG lay d 59 [.int l1] M3) fun r4 M4 => (kI (pcl GG lay d 231 [.ref 6, .int (r4 + l2)] M4) fun r5 M5 => (rI r5 M5)))))))) := by
  refine (pcl_un (mt := t_16) (by decide) rfl (Nat.le_of_ble_eq_true rfl)).trans ?_
  show E_16 d (0, [some (.ref 0), some (.int l1), some (.int l2)], [], M) = _
  refine (evn_adv 3 (q' := (5, [some (.ref 0), some (.int l1), some (.int l2)], [.int l1, .ref 1], M)) rfl).trans ?_
  refine (e_kI (q := (5, [some (.ref 0), some (.int l1), some (.int l2)], [.int l1, .ref 1])) (q2 := (8, [some (.ref 0), some (.int l1), some (.int l2)], [])) (M := M) (o := (pcl GG lay d 240 [.ref 1, .int l1] M)) (hf := rfl) rfl rfl).trans ?_
  refine kI_in (fun r1 M1 => ?_)
  refine (e_if_ne (hf := rfl)).trans ?_
  refine ite_in ?_ ?_
  · refine (evn_adv 2 (q' := (13, [some (.ref 0), some (.int l1), some (.int l2)], [.int (jz 1), .ref 0], M1)) rfl).trans ?_
    refine (e_kI (q := (13, [some (.ref 0), some (.int l1), some (.int l2)], [.int (jz 1), .ref 0])) (q2 := (16, [some (.ref 0), some (.int l1), some (.int l2)], [])) (M := M1) (o := (pcl GG lay d 56 [.ref 0, .int (jz 1)] M1)) (hf := rfl) rfl rfl).trans ?_
    refine kI_in (fun r2 M2 => ?_)
    exact evn_end 1 rfl
  · refine (evn_adv 2 (q' := (19, [some (.ref 0), some (.int l1), some (.int l2)], [.int l1, .ref 0], M1)) rfl).trans ?_
    refine (e_kI (q := (19, [some (.ref 0), some (.int l1), some (.int l2)], [.int l1, .ref 0])) (q2 := (22, [some (.ref 0), some (.int l1), some (.int l2)], [.ref 0])) (M := M1) (o := (pcl GG lay d 59 [.int l1] M1)) (hf := rfl) rfl rfl).trans ?_
    refine kI_in (fun r2 M2 => ?_)
    refine (evn_adv 1 (q' := (23, [some (.ref 0), some (.int l1), some (.int l2)], [.int l2, .int r2, .ref 0], M2)) rfl).trans ?_
    refine (e_kI (q := (23, [some (.ref 0), some (.int l1), some (.int l2)], [.int l2, .int r2, .ref 0])) (q2 := (26, [some (.ref 0), some (.int l1), some (.int l2)], [])) (M := M2) (o := (pcl GG lay d 58 [.ref 0, .int r2, .int l2] M2)) (hf := rfl) rfl rfl).trans ?_
    refine kI_in (fun r3 M3 => ?_)
    refine (e_if_ne (hf := rfl)).trans ?_
    refine ite_in ?_ ?_
    · refine (evn_adv 2 (q' := (32, [some (.ref 0), some (.int l1), some (.int l2)], [.int (jz 5), .ref 0], M3)) rfl).trans ?_
      refine (e_kI (q := (32, [some (.ref 0), some (.int l1), some (.int l2)], [.int (jz 5), .ref 0])) (q2 := (35, [some (.ref 0), some (.int l1), some (.int l2)], [])) (M := M3) (o := (pcl GG lay d 56 [.ref 0, .int (jz 5)] M3)) (hf := rfl) rfl rfl).trans ?_
      refine kI_in (fun r4 M4 => ?_)
      exact evn_end 1 rfl
    · refine (evn_adv 3 (q' := (41, [some (.ref 0), some (.int l1), some (.int l2)], [.int l1, .ref 6], M3)) rfl).trans ?_
      refine (e_kI (q := (41, [some (.ref 0), some (.int l1), some (.int l2)], [.int l1, .ref 6])) (q2 := (44, [some (.ref 0), some (.int l1), some (.int l2)], [.ref 6])) (M := M3) (o := (pcl GG lay d 59 [.int l1] M3)) (hf := rfl) rfl rfl).trans ?_
      refine kI_in (fun r4 M4 => ?_)
      refine (evn_adv 2 (q' := (46, [some (.ref 0), some (.int l1), some (.int l2)], [.int (r4 + l2), .ref 6], M4)) rfl).trans ?_
      refine (e_kI (q := (46, [some (.ref 0), some (.int l1), some (.int l2)], [.int (r4 + l2), .ref 6])) (q2 := (49, [some (.ref 0), some (.int l1), some (.int l2)], [])) (M := M4) (o := (pcl GG lay d 231 [.ref 6, .int (r4 + l2)] M4)) (hf := rfl) rfl rfl).trans ?_
      refine kI_in (fun r5 M5 => ?_)
      exact evn_end 1 rfl
/-- TermStrategies.termOf(II)I -/
noncomputable abbrev E_17 (d : Nat) : PQ → PO := evn (rnn k_17 lay none (pcl GG lay d) 1)
theorem q_17 (d : Nat) (l1 : Int32) (l2 : Int32) (M : PM) : pcl GG lay (d + 1) 17 [.ref 0, .int l1, .int l2] M = (kI (pcl GG lay d 240 [.ref 1, .int l1] M) fun r1 M1 => (if r1 = jn 0 then (kI (pcl GG lay d 56 [.ref 0, .int (jz 1)] M1) fun r2 M2 => (rI r2 M2)) else (kI (pcl GG lay d 59 [.int l1] M1) fun r2 M2 => (if l2 = (jn 0) then (kI (pcl GG lay d 234 [.ref 6, .int r2] M2) fun r3 M3 => (rI r3 M3)) else (if l2 = (jn 1) then (kV (pcl GG lay d 183 [.ref 21, .int r2] M2) fun M3 => (kI (pcl GG lay d 185 [.ref 21] M3) fun r4 M4 => (rI r4 M4))) else (if l2 = (jn 2) then (kI (pcl GG lay d 236 [.ref 6, .int r2] M2) fun r3 M3 => (rI r3 M3)) else (if l2 = (jn 3) then (kL (pcl GG lay d 27 [.ref 0, .int r2] M2) fun r3 M3 => (if (lg_cmp r3 (Int64.ofNat 0)) = jn 0 then (rI (jn 1) M3) else (rI (jn 0) M3))) else (kI (pcl GG lay d 56 [.ref 0, .int (jz 5)] M2) fun r3 M3 => (rI r3 M3))))))))) := by
  refine (pcl_un (mt := t_17) (by decide) rfl (Nat.le_of_ble_eq_true rfl)).trans ?_
  show E_17 d (0, [some (.ref 0), some (.int l1), some (.int l2), none], [], M) = _
  refine (evn_adv 3 (q' := (5, [some (.ref 0), some (.int l1), some (.int l2), none], [.int l1, .ref 1], M)) rfl).trans ?_
  refine (e_kI (q := (5, [some (.ref 0), some (.int l1), some (.int l2), none], [.int l1, .ref 1])) (q2 := (8, [some (.ref 0), some (.int l1), some (.int l2), none], [])) (M := M) (o := (pcl GG lay d 240 [.ref 1, .int l1] M)) (hf := rfl) rfl rfl).trans ?_
  refine kI_in (fun r1 M1 => ?_)
  refine (e_if_ne (hf := rfl)).trans ?_
  refine ite_in ?_ ?_
  · refine (evn_adv 2 (q' := (13, [some (.ref 0), some (.int l1), some (.int l2), none], [.int (jz 1), .ref 0], M1)) rfl).trans ?_
    refine (e_kI (q := (13, [some (.ref 0), some (.int l1), some (.int l2), none], [.int (jz 1), .ref 0])) (q2 := (16, [some (.ref 0), some (.int l1), some (.int l2), none], [])) (M := M1) (o := (pcl GG lay d 56 [.ref 0, .int (jz 1)] M1)) (hf := rfl) rfl rfl).trans ?_
    refine kI_in (fun r2 M2 => ?_)
    exact evn_end 1 rfl
  · refine (evn_adv 1 (q' := (18, [some (.ref 0), some (.int l1), some (.int l2), none], [.int l1], M1)) rfl).trans ?_
    refine (e_kI (q := (18, [some (.ref 0), some (.int l1), some (.int l2), none], [.int l1])) (q2 := (21, [some (.ref 0), some (.int l1), some (.int l2), none], [])) (M := M1) (o := (pcl GG lay d 59 [.int l1] M1)) (hf := rfl) rfl rfl).trans ?_
    refine kI_in (fun r2 M2 => ?_)
    refine (evn_adv 2 (q' := (23, [some (.ref 0), some (.int l1), some (.int l2), some (.int r2)], [.int l2], M2)) rfl).trans ?_
    refine (e_sw0 (dflt := 102) (lo := ((0 : Nat) : Int)) (ts := [52, 61, 77, 86]) (hf := rfl) rfl).trans ?_
    refine sw_cons (lo := 0) (F := fun pc => E_17 d (pc, [some (.ref 0), some (.int l1), some (.int l2), some (.int r2)], [], M2)) (by decide) ?_ ?_
    · refine (evn_adv 3 (q' := (57, [some (.ref 0), some (.int l1), some (.int l2), some (.int r2)], [.int r2, .ref 6], M2)) rfl).trans ?_
      refine (e_kI (q := (57, [some (.ref 0), some (.int l1), some (.int l2), some (.int r2)], [.int r2, .ref 6])) (q2 := (60, [some (.ref 0), some (.int l1), some (.int l2), some (.int r2)], [])) (M := M2) (o := (pcl GG lay d 234 [.ref 6, .int r2] M2)) (hf := rfl) rfl rfl).trans ?_
      refine kI_in (fun r3 M3 => ?_)
      exact evn_end 1 rfl
    refine sw_cons (lo := 1) (F := fun pc => E_17 d (pc, [some (.ref 0), some (.int l1), some (.int l2), some (.int r2)], [], M2)) (by decide) ?_ ?_
    · refine (evn_adv 3 (q' := (66, [some (.ref 0), some (.int l1), some (.int l2), some (.int r2)], [.int r2, .ref 21], M2)) rfl).trans ?_
      refine (e_kV (q := (66, [some (.ref 0), some (.int l1), some (.int l2), some (.int r2)], [.int r2, .ref 21])) (q2 := (69, [some (.ref 0), some (.int l1), some (.int l2), some (.int r2)], [])) (M := M2) (o := (pcl GG lay d 183 [.ref 21, .int r2] M2)) (hf := rfl) rfl rfl).trans ?_
      refine kV_in (fun M3 => ?_)
      refine (evn_adv 2 (q' := (73, [some (.ref 0), some (.int l1), some (.int l2), some (.int r2)], [.ref 21], M3)) rfl).trans ?_
      refine (e_kI (q := (73, [some (.ref 0), some (.int l1), some (.int l2), some (.int r2)], [.ref 21])) (q2 := (76, [some (.ref 0), some (.int l1), some (.int l2), some (.int r2)], [])) (M := M3) (o := (pcl GG lay d 185 [.ref 21] M3)) (hf := rfl) rfl rfl).trans ?_
      refine kI_in (fun r4 M4 => ?_)
      exact evn_end 1 rfl
    refine sw_cons (lo := 2) (F := fun pc => E_17 d (pc, [some (.ref 0), some (.int l1), some (.int l2), some (.int r2)], [], M2)) (by decide) ?_ ?_
    · refine (evn_adv 3 (q' := (82, [some (.ref 0), some (.int l1), some (.int l2), some (.int r2)], [.int r2, .ref 6], M2)) rfl).trans ?_
      refine (e_kI (q := (82, [some (.ref 0), some (.int l1), some (.int l2), some (.int r2)], [.int r2, .ref 6])) (q2 := (85, [some (.ref 0), some (.int l1), some (.int l2), some (.int r2)], [])) (M := M2) (o := (pcl GG lay d 236 [.ref 6, .int r2] M2)) (hf := rfl) rfl rfl).trans ?_
      refine kI_in (fun r3 M3 => ?_)
      exact evn_end 1 rfl
    refine sw_cons (lo := 3) (F := fun pc => E_17 d (pc, [some (.ref 0), some (.int l1), some (.int l2), some (.int r2)], [], M2)) (by decide) ?_ ?_
    · refine (evn_adv 2 (q' := (88, [some (.ref 0), some (.int l1), some (.int l2), some (.int r2)], [.int r2, .ref 0], M2)) rfl).trans ?_
      refine (e_kL (q := (88, [some (.ref 0), some (.int l1), some (.int l2), some (.int r2)], [.int r2, .ref 0])) (q2 := (91, [some (.ref 0), some (.int l1), some (.int l2), some (.int r2)], [])) (M := M2) (o := (pcl GG lay d 27 [.ref 0, .int r2] M2)) (hf := rfl) rfl rfl).trans ?_
      refine kL_in (fun r3 M3 => ?_)
      refine (evn_adv 2 (q' := (93, [some (.ref 0), some (.int l1), some (.int l2), some (.int r2)], [.int (lg_cmp r3 (Int64.ofNat 0))], M3)) rfl).trans ?_
      refine (e_if_ne (hf := rfl)).trans ?_
      refine ite_in ?_ ?_
      · refine (evn_adv 2 (q' := (101, [some (.ref 0), some (.int l1), some (.int l2), some (.int r2)], [.int (jn 1)], M3)) rfl).trans ?_
        exact evn_end 1 rfl
      · refine (evn_adv 1 (q' := (101, [some (.ref 0), some (.int l1), some (.int l2), some (.int r2)], [.int (jn 0)], M3)) rfl).trans ?_
        exact evn_end 1 rfl
    show E_17 d (102, [some (.ref 0), some (.int l1), some (.int l2), some (.int r2)], [], M2) = _
    refine (evn_adv 2 (q' := (105, [some (.ref 0), some (.int l1), some (.int l2), some (.int r2)], [.int (jz 5), .ref 0], M2)) rfl).trans ?_
    refine (e_kI (q := (105, [some (.ref 0), some (.int l1), some (.int l2), some (.int r2)], [.int (jz 5), .ref 0])) (q2 := (108, [some (.ref 0), some (.int l1), some (.int l2), some (.int r2)], [])) (M := M2) (o := (pcl GG lay d 56 [.ref 0, .int (jz 5)] M2)) (hf := rfl) rfl rfl).trans ?_
    refine kI_in (fun r3 M3 => ?_)
    exact evn_end 1 rfl
/-- TermStrategies.path(II)J -/
noncomputable abbrev E_18 (d : Nat) : PQ → PO := evn (rnn k_18 lay none (pcl GG lay d) 3)
theorem q_18 (d : Nat) (l1 : Int32) (l2 : Int32) (M : PM) : pcl GG lay (d + 1) 18 [.ref 0, .int l1, .int l2] M = (kI (pcl GG lay d 240 [.ref 1, .int l1] M) fun r1 M1 => (if r1 = jn 0 then (kI (pcl GG lay d 56 [.ref 0, .int (jz 1)] M1) fun r2 M2 => (rL (r2.toInt64) M2)) else (kI (pcl GG lay d 59 [.int l1] M1) fun r2 M2 => (kI (pcl GG lay d 58 [.ref 0, .int r2, .int l2] M2) fun r3 M3 => (if r3 = jn 0 then (kI (pcl GG lay d 56 [.ref 0, .int (jz 5)] M3) fun r4 M4 => (rL (r4.toInt64) M4)) else (kI (pcl GG lay d 59 [.int l1] M3) fun r4 M4 => (kV (pcl GG lay d 183 [.ref 21, .int r4] M4) fun M5 => (kL (pcl GG lay d 186 [.ref 21, .int l2] M5) fun r6 M6 => (rL r6 M6))))))))) := by
  refine (pcl_un (mt := t_18) (by decide) rfl (Nat.le_of_ble_eq_true rfl)).trans ?_
  show E_18 d (0, [some (.ref 0), some (.int l1), some (.int l2)], [], M) = _
  refine (evn_adv 3 (q' := (5, [some (.ref 0), some (.int l1), some (.int l2)], [.int l1, .ref 1], M)) rfl).trans ?_
  refine (e_kI (q := (5, [some (.ref 0), some (.int l1), some (.int l2)], [.int l1, .ref 1])) (q2 := (8, [some (.ref 0), some (.int l1), some (.int l2)], [])) (M := M) (o := (pcl GG lay d 240 [.ref 1, .int l1] M)) (hf := rfl) rfl rfl).trans ?_
  refine kI_in (fun r1 M1 => ?_)
  refine (e_if_ne (hf := rfl)).trans ?_
  refine ite_in ?_ ?_
  · refine (evn_adv 2 (q' := (13, [some (.ref 0), some (.int l1), some (.int l2)], [.int (jz 1), .ref 0], M1)) rfl).trans ?_
    refine (e_kI (q := (13, [some (.ref 0), some (.int l1), some (.int l2)], [.int (jz 1), .ref 0])) (q2 := (16, [some (.ref 0), some (.int l1), some (.int l2)], [])) (M := M1) (o := (pcl GG lay d 56 [.ref 0, .int (jz 1)] M1)) (hf := rfl) rfl rfl).trans ?_
    refine kI_in (fun r2 M2 => ?_)
    refine (evn_adv 1 (q' := (17, [some (.ref 0), some (.int l1), some (.int l2)], [.long (r2.toInt64)], M2)) rfl).trans ?_
    exact evn_end 1 rfl
  · refine (evn_adv 2 (q' := (20, [some (.ref 0), some (.int l1), some (.int l2)], [.int l1, .ref 0], M1)) rfl).trans ?_
    refine (e_kI (q := (20, [some (.ref 0), some (.int l1), some (.int l2)], [.int l1, .ref 0])) (q2 := (23, [some (.ref 0), some (.int l1), some (.int l2)], [.ref 0])) (M := M1) (o := (pcl GG lay d 59 [.int l1] M1)) (hf := rfl) rfl rfl).trans ?_
    refine kI_in (fun r2 M2 => ?_)
    refine (evn_adv 1 (q' := (24, [some (.ref 0), some (.int l1), some (.int l2)], [.int l2, .int r2, .ref 0], M2)) rfl).trans ?_
    refine (e_kI (q := (24, [some (.ref 0), some (.int l1), some (.int l2)], [.int l2, .int r2, .ref 0])) (q2 := (27, [some (.ref 0), some (.int l1), some (.int l2)], [])) (M := M2) (o := (pcl GG lay d 58 [.ref 0, .int r2, .int l2] M2)) (hf := rfl) rfl rfl).trans ?_
    refine kI_in (fun r3 M3 => ?_)
    refine (e_if_ne (hf := rfl)).trans ?_
    refine ite_in ?_ ?_
    · refine (evn_adv 2 (q' := (33, [some (.ref 0), some (.int l1), some (.int l2)], [.int (jz 5), .ref 0], M3)) rfl).trans ?_
      refine (e_kI (q := (33, [some (.ref 0), some (.int l1), some (.int l2)], [.int (jz 5), .ref 0])) (q2 := (36, [some (.ref 0), some (.int l1), some (.int l2)], [])) (M := M3) (o := (pcl GG lay d 56 [.ref 0, .int (jz 5)] M3)) (hf := rfl) rfl rfl).trans ?_
      refine kI_in (fun r4 M4 => ?_)
      refine (evn_adv 1 (q' := (37, [some (.ref 0), some (.int l1), some (.int l2)], [.long (r4.toInt64)], M4)) rfl).trans ?_
      exact evn_end 1 rfl
    · refine (evn_adv 3 (q' := (43, [some (.ref 0), some (.int l1), some (.int l2)], [.int l1, .ref 21], M3)) rfl).trans ?_
      refine (e_kI (q := (43, [some (.ref 0), some (.int l1), some (.int l2)], [.int l1, .ref 21])) (q2 := (46, [some (.ref 0), some (.int l1), some (.int l2)], [.ref 21])) (M := M3) (o := (pcl GG lay d 59 [.int l1] M3)) (hf := rfl) rfl rfl).trans ?_
      refine kI_in (fun r4 M4 => ?_)
      refine (e_kV (q := (46, [some (.ref 0), some (.int l1), some (.int l2)], [.int r4, .ref 21])) (q2 := (49, [some (.ref 0), some (.int l1), some (.int l2)], [])) (M := M4) (o := (pcl GG lay d 183 [.ref 21, .int r4] M4)) (hf := rfl) rfl rfl).trans ?_
      refine kV_in (fun M5 => ?_)
      refine (evn_adv 3 (q' := (54, [some (.ref 0), some (.int l1), some (.int l2)], [.int l2, .ref 21], M5)) rfl).trans ?_
      refine (e_kL (q := (54, [some (.ref 0), some (.int l1), some (.int l2)], [.int l2, .ref 21])) (q2 := (57, [some (.ref 0), some (.int l1), some (.int l2)], [])) (M := M5) (o := (pcl GG lay d 186 [.ref 21, .int l2] M5)) (hf := rfl) rfl rfl).trans ?_
      refine kL_in (fun r6 M6 => ?_)
      exact evn_end 1 rfl
/-- TermStrategies.same(II)I -/
noncomputable abbrev E_19 (d : Nat) : PQ → PO := evn (rnn k_19 lay none (pcl GG lay d) 1)
theorem q_19 (d : Nat) (l1 : Int32) (l2 : Int32) (M : PM) : pcl GG lay (d + 1) 19 [.ref 0, .int l1, .int l2] M = (kI (pcl GG lay d 240 [.ref 1, .int l1] M) fun r1 M1 => (if r1 = jn 0 then (kI (pcl GG lay d 56 [.ref 0, .int (jz 1)] M1) fun r2 M2 => (rI r2 M2)) else (kI (pcl GG lay d 240 [.ref 1, .int l2] M1) fun r2 M2 => (if r2 = jn 0 then (kI (pcl GG lay d 56 [.ref 0, .int (jz 1)] M2) fun r3 M3 => (rI r3 M3)) else (kI (pcl GG lay d 59 [.int l1] M2) fun r3 M3 => (kI (pcl GG lay d 59 [.int l2] M3) fun r4 M4 => (kI (pcl GG lay d 235 [.ref 6, .int r3, .int r4] M4) fun r5 M5 => (if r5 = jn 0 then (kI (pcl GG lay d 59 [.int l1] M5) fun r6 M6 => (kI (pcl GG lay d 59 [.int l2] M6) fun r7 M7 => (kI (pcl GG lay d 180 [.ref 24, .int r6, .int r7, .int (M7.1 1 8)] M7) fun r8 M8 => (if r8 = jn 0 then (rI (jn 2) M8) else (rI (jn 1) M8))))) else (rI (jn 0) M5))))))))) := by
  refine (pcl_un (mt := t_19) (by decide) rfl (Nat.le_of_ble_eq_true rfl)).trans ?_
  show E_19 d (0, [some (.ref 0), some (.int l1), some (.int l2)], [], M) = _
  refine (evn_adv 3 (q' := (5, [some (.ref 0), some (.int l1), some (.int l2)], [.int l1, .ref 1], M)) rfl).trans ?_
  refine (e_kI (q := (5, [some (.ref 0), some (.int l1), some (.int l2)], [.int l1, .ref 1])) (q2 := (8, [some (.ref 0), some (.int l1), some (.int l2)], [])) (M := M) (o := (pcl GG lay d 240 [.ref 1, .int l1] M)) (hf := rfl) rfl rfl).trans ?_
  refine kI_in (fun r1 M1 => ?_)
  refine (e_if_eq (hf := rfl)).trans ?_
  refine ite_in ?_ ?_
  · refine (evn_adv 2 (q' := (24, [some (.ref 0), some (.int l1), some (.int l2)], [.int (jz 1), .ref 0], M1)) rfl).trans ?_
    refine (e_kI (q := (24, [some (.ref 0), some (.int l1), some (.int l2)], [.int (jz 1), .ref 0])) (q2 := (27, [some (.ref 0), some (.int l1), some (.int l2)], [])) (M := M1) (o := (pcl GG lay d 56 [.ref 0, .int (jz 1)] M1)) (hf := rfl) rfl rfl).trans ?_
    refine kI_in (fun r2 M2 => ?_)
    exact evn_end 1 rfl
  · refine (evn_adv 3 (q' := (16, [some (.ref 0), some (.int l1), some (.int l2)], [.int l2, .ref 1], M1)) rfl).trans ?_
    refine (e_kI (q := (16, [some (.ref 0), some (.int l1), some (.int l2)], [.int l2, .ref 1])) (q2 := (19, [some (.ref 0), some (.int l1), some (.int l2)], [])) (M := M1) (o := (pcl GG lay d 240 [.ref 1, .int l2] M1)) (hf := rfl) rfl rfl).trans ?_
    refine kI_in (fun r2 M2 => ?_)
    refine (e_if_ne (hf := rfl)).trans ?_
    refine ite_in ?_ ?_
    · refine (evn_adv 2 (q' := (24, [some (.ref 0), some (.int l1), some (.int l2)], [.int (jz 1), .ref 0], M2)) rfl).trans ?_
      refine (e_kI (q := (24, [some (.ref 0), some (.int l1), some (.int l2)], [.int (jz 1), .ref 0])) (q2 := (27, [some (.ref 0), some (.int l1), some (.int l2)], [])) (M := M2) (o := (pcl GG lay d 56 [.ref 0, .int (jz 1)] M2)) (hf := rfl) rfl rfl).trans ?_
      refine kI_in (fun r3 M3 => ?_)
      exact evn_end 1 rfl
    · refine (evn_adv 3 (q' := (33, [some (.ref 0), some (.int l1), some (.int l2)], [.int l1, .ref 6], M2)) rfl).trans ?_
      refine (e_kI (q := (33, [some (.ref 0), some (.int l1), some (.int l2)], [.int l1, .ref 6])) (q2 := (36, [some (.ref 0), some (.int l1), some (.int l2)], [.ref 6])) (M := M2) (o := (pcl GG lay d 59 [.int l1] M2)) (hf := rfl) rfl rfl).trans ?_
      refine kI_in (fun r3 M3 => ?_)
      refine (evn_adv 1 (q' := (37, [some (.ref 0), some (.int l1), some (.int l2)], [.int l2, .int r3, .ref 6], M3)) rfl).trans ?_
      refine (e_kI (q := (37, [some (.ref 0), some (.int l1), some (.int l2)], [.int l2, .int r3, .ref 6])) (q2 := (40, [some (.ref 0), some (.int l1), some (.int l2)], [.int r3, .ref 6])) (M := M3) (o := (pcl GG lay d 59 [.int l2] M3)) (hf := rfl) rfl rfl).trans ?_
      refine kI_in (fun r4 M4 => ?_)
      refine (e_kI (q := (40, [some (.ref 0), some (.int l1), some (.int l2)], [.int r4, .int r3, .ref 6])) (q2 := (43, [some (.ref 0), some (.int l1), some (.int l2)], [])) (M := M4) (o := (pcl GG lay d 235 [.ref 6, .int r3, .int r4] M4)) (hf := rfl) rfl rfl).trans ?_
      refine kI_in (fun r5 M5 => ?_)
      refine (e_if_eq (hf := rfl)).trans ?_
      refine ite_in ?_ ?_
      · refine (evn_adv 3 (q' := (53, [some (.ref 0), some (.int l1), some (.int l2)], [.int l1, .ref 24], M5)) rfl).trans ?_
        refine (e_kI (q := (53, [some (.ref 0), some (.int l1), some (.int l2)], [.int l1, .ref 24])) (q2 := (56, [some (.ref 0), some (.int l1), some (.int l2)], [.ref 24])) (M := M5) (o := (pcl GG lay d 59 [.int l1] M5)) (hf := rfl) rfl rfl).trans ?_
        refine kI_in (fun r6 M6 => ?_)
        refine (evn_adv 1 (q' := (57, [some (.ref 0), some (.int l1), some (.int l2)], [.int l2, .int r6, .ref 24], M6)) rfl).trans ?_
        refine (e_kI (q := (57, [some (.ref 0), some (.int l1), some (.int l2)], [.int l2, .int r6, .ref 24])) (q2 := (60, [some (.ref 0), some (.int l1), some (.int l2)], [.int r6, .ref 24])) (M := M6) (o := (pcl GG lay d 59 [.int l2] M6)) (hf := rfl) rfl rfl).trans ?_
        refine kI_in (fun r7 M7 => ?_)
        refine (evn_adv 3 (q' := (67, [some (.ref 0), some (.int l1), some (.int l2)], [.int (M7.1 1 8), .int r7, .int r6, .ref 24], M7)) rfl).trans ?_
        refine (e_kI (q := (67, [some (.ref 0), some (.int l1), some (.int l2)], [.int (M7.1 1 8), .int r7, .int r6, .ref 24])) (q2 := (70, [some (.ref 0), some (.int l1), some (.int l2)], [])) (M := M7) (o := (pcl GG lay d 180 [.ref 24, .int r6, .int r7, .int (M7.1 1 8)] M7)) (hf := rfl) rfl rfl).trans ?_
        refine kI_in (fun r8 M8 => ?_)
        refine (e_if_eq (hf := rfl)).trans ?_
        refine ite_in ?_ ?_
        · refine (evn_adv 1 (q' := (78, [some (.ref 0), some (.int l1), some (.int l2)], [.int (jn 2)], M8)) rfl).trans ?_
          exact evn_end 1 rfl
        · refine (evn_adv 2 (q' := (78, [some (.ref 0), some (.int l1), some (.int l2)], [.int (jn 1)], M8)) rfl).trans ?_
          exact evn_end 1 rfl
      · refine (evn_adv 1 (q' := (47, [some (.ref 0), some (.int l1), some (.int l2)], [.int (jn 0)], M5)) rfl).trans ?_
        exact evn_end 1 rfl
/-- TermStrategies.rule(II)I -/
noncomputable abbrev E_20 (d : Nat) : PQ → PO := evn (rnn k_20 lay none (pcl GG lay d) 1)
theorem q_20 (d : Nat) (l1 : Int32) (l2 : Int32) (M : PM) : pcl GG lay (d + 1) 20 [.ref 0, .int l1, .int l2] M = (kI (pcl GG lay d 240 [.ref 1, .int l1] M) fun r1 M1 => (if r1 = jn 0 then (kI (pcl GG lay d 56 [.ref 0, .int (jz 1)] M1) fun r2 M2 => (rI r2 M2)) else (kI (pcl GG lay d 240 [.ref 1, .int l2] M1) fun r2 M2 => (if r2 = jn 0 then (kI (pcl GG lay d 56 [.ref 0, .int (jz 1)] M2) fun r3 M3 => (rI r3 M3)) else (kI (pcl GG lay d 59 [.int l2] M2) fun r3 M3 => (kI (pcl GG lay d 236 [.ref 6, .int r3] M3) fun r4 M4 => (kI (pcl GG lay d 59 [.int l1] M4) fun r5 M5 => (kI (pcl GG lay d 236 [.ref 6, .int r5] M5) fun r6 M6 => (kI (pcl GG lay d 59 [.int l1] M6) fun r7 M7 => (kI (pcl GG lay d 231 [.ref 6, .int r7] M7) fun r8 M8 => (kI (pcl GG lay d 62 [.int r8] M8) fun r9 M9 => (if r9 = jn 0 then (if (r4 &&& (r6 ^^^ (jz 1))) = jn 0 then (if (M9.1 1 6) < (jn 12) then (kI (pcl GG lay d 59 [.int l1] M9) fun r10 M10 => (kI (pcl GG lay d 59 [.int l2] M10) fun r11 M11 => (kI (pcl GG lay d 244 [.ref 1, .int r10, .int r11] M11) fun r12 M12 => (rI r12 M12)))) else (kI (pcl GG lay d 56 [.ref 0, .int (jz 7)] M9) fun r10 M10 => (rI r10 M10))) else (kI (pcl GG lay d 56 [.ref 0, .int (jz 6)] M9) fun r10 M10 => (rI r10 M10))) else (kI (pcl GG lay d 56 [.ref 0, .int (jz 6)] M9) fun r10 M10 => (rI r10 M10)))))))))))))) := by
  refine (pcl_un (mt := t_20) (by decide) rfl (Nat.le_of_ble_eq_true rfl)).trans ?_
  show E_20 d (0, [some (.ref 0), some (.int l1), some (.int l2), none], [], M) = _
  refine (evn_adv 3 (q' := (5, [some (.ref 0), some (.int l1), some (.int l2), none], [.int l1, .ref 1], M)) rfl).trans ?_
  refine (e_kI (q := (5, [some (.ref 0), some (.int l1), some (.int l2), none], [.int l1, .ref 1])) (q2 := (8, [some (.ref 0), some (.int l1), some (.int l2), none], [])) (M := M) (o := (pcl GG lay d 240 [.ref 1, .int l1] M)) (hf := rfl) rfl rfl).trans ?_
  refine kI_in (fun r1 M1 => ?_)
  refine (e_if_eq (hf := rfl)).trans ?_
  refine ite_in ?_ ?_
  · refine (evn_adv 2 (q' := (24, [some (.ref 0), some (.int l1), some (.int l2), none], [.int (jz 1), .ref 0], M1)) rfl).trans ?_
    refine (e_kI (q := (24, [some (.ref 0), some (.int l1), some (.int l2), none], [.int (jz 1), .ref 0])) (q2 := (27, [some (.ref 0), some (.int l1), some (.int l2), none], [])) (M := M1) (o := (pcl GG lay d 56 [.ref 0, .int (jz 1)] M1)) (hf := rfl) rfl rfl).trans ?_
    refine kI_in (fun r2 M2 => ?_)
    exact evn_end 1 rfl
  · refine (evn_adv 3 (q' := (16, [some (.ref 0), some (.int l1), some (.int l2), none], [.int l2, .ref 1], M1)) rfl).trans ?_
    refine (e_kI (q := (16, [some (.ref 0), some (.int l1), some (.int l2), none], [.int l2, .ref 1])) (q2 := (19, [some (.ref 0), some (.int l1), some (.int l2), none], [])) (M := M1) (o := (pcl GG lay d 240 [.ref 1, .int l2] M1)) (hf := rfl) rfl rfl).trans ?_
    refine kI_in (fun r2 M2 => ?_)
    refine (e_if_ne (hf := rfl)).trans ?_
    refine ite_in ?_ ?_
    · refine (evn_adv 2 (q' := (24, [some (.ref 0), some (.int l1), some (.int l2), none], [.int (jz 1), .ref 0], M2)) rfl).trans ?_
      refine (e_kI (q := (24, [some (.ref 0), some (.int l1), some (.int l2), none], [.int (jz 1), .ref 0])) (q2 := (27, [some (.ref 0), some (.int l1), some (.int l2), none], [])) (M := M2) (o := (pcl GG lay d 56 [.ref 0, .int (jz 1)] M2)) (hf := rfl) rfl rfl).trans ?_
      refine kI_in (fun r3 M3 => ?_)
      exact evn_end 1 rfl
    · refine (evn_adv 3 (q' := (33, [some (.ref 0), some (.int l1), some (.int l2), none], [.int l2, .ref 6], M2)) rfl).trans ?_
      refine (e_kI (q := (33, [some (.ref 0), some (.int l1), some (.int l2), none], [.int l2, .ref 6])) (q2 := (36, [some (.ref 0), some (.int l1), some (.int l2), none], [.ref 6])) (M := M2) (o := (pcl GG lay d 59 [.int l2] M2)) (hf := rfl) rfl rfl).trans ?_
      refine kI_in (fun r3 M3 => ?_)
      refine (e_kI (q := (36, [some (.ref 0), some (.int l1), some (.int l2), none], [.int r3, .ref 6])) (q2 := (39, [some (.ref 0), some (.int l1), some (.int l2), none], [])) (M := M3) (o := (pcl GG lay d 236 [.ref 6, .int r3] M3)) (hf := rfl) rfl rfl).trans ?_
      refine kI_in (fun r4 M4 => ?_)
      refine (evn_adv 3 (q' := (44, [some (.ref 0), some (.int l1), some (.int l2), none], [.int l1, .ref 6, .int r4], M4)) rfl).trans ?_
      refine (e_kI (q := (44, [some (.ref 0), some (.int l1), some (.int l2), none], [.int l1, .ref 6, .int r4])) (q2 := (47, [some (.ref 0), some (.int l1), some (.int l2), none], [.ref 6, .int r4])) (M := M4) (o := (pcl GG lay d 59 [.int l1] M4)) (hf := rfl) rfl rfl).trans ?_
      refine kI_in (fun r5 M5 => ?_)
      refine (e_kI (q := (47, [some (.ref 0), some (.int l1), some (.int l2), none], [.int r5, .ref 6, .int r4])) (q2 := (50, [some (.ref 0), some (.int l1), some (.int l2), none], [.int r4])) (M := M5) (o := (pcl GG lay d 236 [.ref 6, .int r5] M5)) (hf := rfl) rfl rfl).trans ?_
      refine kI_in (fun r6 M6 => ?_)
      refine (evn_adv 7 (q' := (59, [some (.ref 0), some (.int l1), some (.int l2), some (.int (r4 &&& (r6 ^^^ (jz 1))))], [.int l1, .ref 6], M6)) rfl).trans ?_
      refine (e_kI (q := (59, [some (.ref 0), some (.int l1), some (.int l2), some (.int (r4 &&& (r6 ^^^ (jz 1))))], [.int l1, .ref 6])) (q2 := (62, [some (.ref 0), some (.int l1), some (.int l2), some (.int (r4 &&& (r6 ^^^ (jz 1))))], [.ref 6])) (M := M6) (o := (pcl GG lay d 59 [.int l1] M6)) (hf := rfl) rfl rfl).trans ?_
      refine kI_in (fun r7 M7 => ?_)
      refine (e_kI (q := (62, [some (.ref 0), some (.int l1), some (.int l2), some (.int (r4 &&& (r6 ^^^ (jz 1))))], [.int r7, .ref 6])) (q2 := (65, [some (.ref 0), some (.int l1), some (.int l2), some (.int (r4 &&& (r6 ^^^ (jz 1))))], [])) (M := M7) (o := (pcl GG lay d 231 [.ref 6, .int r7] M7)) (hf := rfl) rfl rfl).trans ?_
      refine kI_in (fun r8 M8 => ?_)
      refine (e_kI (q := (65, [some (.ref 0), some (.int l1), some (.int l2), some (.int (r4 &&& (r6 ^^^ (jz 1))))], [.int r8])) (q2 := (68, [some (.ref 0), some (.int l1), some (.int l2), some (.int (r4 &&& (r6 ^^^ (jz 1))))], [])) (M := M8) (o := (pcl GG lay d 62 [.int r8] M8)) (hf := rfl) rfl rfl).trans ?_
      refine kI_in (fun r9 M9 => ?_)
      refine (e_if_ne (hf := rfl)).trans ?_
      refine ite_in ?_ ?_
      · refine (evn_adv 1 (q' := (72, [some (.ref 0), some (.int l1), some (.int l2), some (.int (r4 &&& (r6 ^^^ (jz 1))))], [.int (r4 &&& (r6 ^^^ (jz 1)))], M9)) rfl).trans ?_
        refine (e_if_eq (hf := rfl)).trans ?_
        refine ite_in ?_ ?_
        · refine (evn_adv 4 (q' := (91, [some (.ref 0), some (.int l1), some (.int l2), some (.int (r4 &&& (r6 ^^^ (jz 1))))], [.int (jn 12), .int (M9.1 1 6)], M9)) rfl).trans ?_
          refine (e_ic_lt (hf := rfl)).trans ?_
          refine ite_in ?_ ?_
          · refine (evn_adv 3 (q' := (106, [some (.ref 0), some (.int l1), some (.int l2), some (.int (r4 &&& (r6 ^^^ (jz 1))))], [.int l1, .ref 1], M9)) rfl).trans ?_
            refine (e_kI (q := (106, [some (.ref 0), some (.int l1), some (.int l2), some (.int (r4 &&& (r6 ^^^ (jz 1))))], [.int l1, .ref 1])) (q2 := (109, [some (.ref 0), some (.int l1), some (.int l2), some (.int (r4 &&& (r6 ^^^ (jz 1))))], [.ref 1])) (M := M9) (o := (pcl GG lay d 59 [.int l1] M9)) (hf := rfl) rfl rfl).trans ?_
            refine kI_in (fun r10 M10 => ?_)
            refine (evn_adv 1 (q' := (110, [some (.ref 0), some (.int l1), some (.int l2), some (.int (r4 &&& (r6 ^^^ (jz 1))))], [.int l2, .int r10, .ref 1], M10)) rfl).trans ?_
            refine (e_kI (q := (110, [some (.ref 0), some (.int l1), some (.int l2), some (.int (r4 &&& (r6 ^^^ (jz 1))))], [.int l2, .int r10, .ref 1])) (q2 := (113, [some (.ref 0), some (.int l1), some (.int l2), some (.int (r4 &&& (r6 ^^^ (jz 1))))], [.int r10, .ref 1])) (M := M10) (o := (pcl GG lay d 59 [.int l2] M10)) (hf := rfl) rfl rfl).trans ?_
            refine kI_in (fun r11 M11 => ?_)
            refine (e_kI (q := (113, [some (.ref 0), some (.int l1), some (.int l2), some (.int (r4 &&& (r6 ^^^ (jz 1))))], [.int r11, .int r10, .ref 1])) (q2 := (116, [some (.ref 0), some (.int l1), some (.int l2), some (.int (r4 &&& (r6 ^^^ (jz 1))))], [])) (M := M11) (o := (pcl GG lay d 244 [.ref 1, .int r10, .int r11] M11)) (hf := rfl) rfl rfl).trans ?_
            refine kI_in (fun r12 M12 => ?_)
            exact evn_end 1 rfl
          · refine (evn_adv 2 (q' := (97, [some (.ref 0), some (.int l1), some (.int l2), some (.int (r4 &&& (r6 ^^^ (jz 1))))], [.int (jz 7), .ref 0], M9)) rfl).trans ?_
            refine (e_kI (q := (97, [some (.ref 0), some (.int l1), some (.int l2), some (.int (r4 &&& (r6 ^^^ (jz 1))))], [.int (jz 7), .ref 0])) (q2 := (100, [some (.ref 0), some (.int l1), some (.int l2), some (.int (r4 &&& (r6 ^^^ (jz 1))))], [])) (M := M9) (o := (pcl GG lay d 56 [.ref 0, .int (jz 7)] M9)) (hf := rfl) rfl rfl).trans ?_
            refine kI_in (fun r10 M10 => ?_)
            exact evn_end 1 rfl
        · refine (evn_adv 2 (q' := (78, [some (.ref 0), some (.int l1), some (.int l2), some (.int (r4 &&& (r6 ^^^ (jz 1))))], [.int (jz 6), .ref 0], M9)) rfl).trans ?_
          refine (e_kI (q := (78, [some (.ref 0), some (.int l1), some (.int l2), some (.int (r4 &&& (r6 ^^^ (jz 1))))], [.int (jz 6), .ref 0])) (q2 := (81, [some (.ref 0), some (.int l1), some (.int l2), some (.int (r4 &&& (r6 ^^^ (jz 1))))], [])) (M := M9) (o := (pcl GG lay d 56 [.ref 0, .int (jz 6)] M9)) (hf := rfl) rfl rfl).trans ?_
          refine kI_in (fun r10 M10 => ?_)
          exact evn_end 1 rfl
      · refine (evn_adv 2 (q' := (78, [some (.ref 0), some (.int l1), some (.int l2), some (.int (r4 &&& (r6 ^^^ (jz 1))))], [.int (jz 6), .ref 0], M9)) rfl).trans ?_
        refine (e_kI (q := (78, [some (.ref 0), some (.int l1), some (.int l2), some (.int (r4 &&& (r6 ^^^ (jz 1))))], [.int (jz 6), .ref 0])) (q2 := (81, [some (.ref 0), some (.int l1), some (.int l2), some (.int (r4 &&& (r6 ^^^ (jz 1))))], [])) (M := M9) (o := (pcl GG lay d 56 [.ref 0, .int (jz 6)] M9)) (hf := rfl) rfl rfl).trans ?_
        refine kI_in (fun r10 M10 => ?_)
        exact evn_end 1 rfl
/-- TermStrategies.bound(IIII)I -/
noncomputable abbrev E_22 (d : Nat) : PQ → PO := evn (rnn k_22 lay none (pcl GG lay d) 1)
theorem q_22 (d : Nat) (l1 : Int32) (l2 : Int32) (l3 : Int32) (l4 : Int32) (M : PM) : pcl GG lay (d + 1) 22 [.ref 0, .int l1, .int l2, .int l3, .int l4] M = (kI (pcl GG lay d 240 [.ref 1, .int l1] M) fun r1 M1 => (if r1 = jn 0 then (kI (pcl GG lay d 56 [.ref 0, .int (jz 1)] M1) fun r2 M2 => (rI r2 M2)) else (kI (pcl GG lay d 240 [.ref 1, .int l2] M1) fun r2 M2 => (if r2 = jn 0 then (kI (pcl GG lay d 56 [.ref 0, .int (jz 1)] M2) fun r3 M3 => (rI r3 M3)) else (kI (pcl GG lay d 59 [.int l1] M2) fun r3 M3 => (kI (pcl GG lay d 59 [.int l2] M3) fun r4 M4 => (kI (pcl GG lay d 188 [.ref 26, .int r3, .int r4, .int (M4.1 1 8)] M4) fun r5 M5 => (if r5 = jn 0 then (kI (pcl GG lay d 56 [.ref 0, .int (jz 6)] M5) fun r6 M6 => (rI r6 M6)) else (kI (pcl GG lay d 193 [.ref 26, .int l3] M5) fun r6 M6 => (if r6 = (jz 1) then (kI (pcl GG lay d 56 [.ref 0, .int (jz 5)] M6) fun r7 M7 => (rI r7 M7)) else (kI (pcl GG lay d 58 [.ref 0, .int r6, .int l4] M6) fun r7 M7 => (if r7 = jn 0 then (kI (pcl GG lay d 56 [.ref 0, .int (jz 5)] M7) fun r8 M8 => (rI r8 M8)) else (kI (pcl GG lay d 231 [.ref 6, .int (r6 + l4)] M7) fun r8 M8 => (rI r8 M8)))))))))))))) := by
  refine (pcl_un (mt := t_22) (by decide) rfl (Nat.le_of_ble_eq_true rfl)).trans ?_
  show E_22 d (0, [some (.ref 0), some (.int l1), some (.int l2), some (.int l3), some (.int l4), none], [], M) = _
  refine (evn_adv 3 (q' := (5, [some (.ref 0), some (.int l1), some (.int l2), some (.int l3), some (.int l4), none], [.int l1, .ref 1], M)) rfl).trans ?_
  refine (e_kI (q := (5, [some (.ref 0), some (.int l1), some (.int l2), some (.int l3), some (.int l4), none], [.int l1, .ref 1])) (q2 := (8, [some (.ref 0), some (.int l1), some (.int l2), some (.int l3), some (.int l4), none], [])) (M := M) (o := (pcl GG lay d 240 [.ref 1, .int l1] M)) (hf := rfl) rfl rfl).trans ?_
  refine kI_in (fun r1 M1 => ?_)
  refine (e_if_eq (hf := rfl)).trans ?_
  refine ite_in ?_ ?_
  · refine (evn_adv 2 (q' := (24, [some (.ref 0), some (.int l1), some (.int l2), some (.int l3), some (.int l4), none], [.int (jz 1), .ref 0], M1)) rfl).trans ?_
    refine (e_kI (q := (24, [some (.ref 0), some (.int l1), some (.int l2), some (.int l3), some (.int l4), none], [.int (jz 1), .ref 0])) (q2 := (27, [some (.ref 0), some (.int l1), some (.int l2), some (.int l3), some (.int l4), none], [])) (M := M1) (o := (pcl GG lay d 56 [.ref 0, .int (jz 1)] M1)) (hf := rfl) rfl rfl).trans ?_
    refine kI_in (fun r2 M2 => ?_)
    exact evn_end 1 rfl
  · refine (evn_adv 3 (q' := (16, [some (.ref 0), some (.int l1), some (.int l2), some (.int l3), some (.int l4), none], [.int l2, .ref 1], M1)) rfl).trans ?_
    refine (e_kI (q := (16, [some (.ref 0), some (.int l1), some (.int l2), some (.int l3), some (.int l4), none], [.int l2, .ref 1])) (q2 := (19, [some (.ref 0), some (.int l1), some (.int l2), some (.int l3), some (.int l4), none], [])) (M := M1) (o := (pcl GG lay d 240 [.ref 1, .int l2] M1)) (hf := rfl) rfl rfl).trans ?_
    refine kI_in (fun r2 M2 => ?_)
    refine (e_if_ne (hf := rfl)).trans ?_
    refine ite_in ?_ ?_
    · refine (evn_adv 2 (q' := (24, [some (.ref 0), some (.int l1), some (.int l2), some (.int l3), some (.int l4), none], [.int (jz 1), .ref 0], M2)) rfl).trans ?_
      refine (e_kI (q := (24, [some (.ref 0), some (.int l1), some (.int l2), some (.int l3), some (.int l4), none], [.int (jz 1), .ref 0])) (q2 := (27, [some (.ref 0), some (.int l1), some (.int l2), some (.int l3), some (.int l4), none], [])) (M := M2) (o := (pcl GG lay d 56 [.ref 0, .int (jz 1)] M2)) (hf := rfl) rfl rfl).trans ?_
      refine kI_in (fun r3 M3 => ?_)
      exact evn_end 1 rfl
    · refine (evn_adv 3 (q' := (33, [some (.ref 0), some (.int l1), some (.int l2), some (.int l3), some (.int l4), none], [.int l1, .ref 26], M2)) rfl).trans ?_
      refine (e_kI (q := (33, [some (.ref 0), some (.int l1), some (.int l2), some (.int l3), some (.int l4), none], [.int l1, .ref 26])) (q2 := (36, [some (.ref 0), some (.int l1), some (.int l2), some (.int l3), some (.int l4), none], [.ref 26])) (M := M2) (o := (pcl GG lay d 59 [.int l1] M2)) (hf := rfl) rfl rfl).trans ?_
      refine kI_in (fun r3 M3 => ?_)
      refine (evn_adv 1 (q' := (37, [some (.ref 0), some (.int l1), some (.int l2), some (.int l3), some (.int l4), none], [.int l2, .int r3, .ref 26], M3)) rfl).trans ?_
      refine (e_kI (q := (37, [some (.ref 0), some (.int l1), some (.int l2), some (.int l3), some (.int l4), none], [.int l2, .int r3, .ref 26])) (q2 := (40, [some (.ref 0), some (.int l1), some (.int l2), some (.int l3), some (.int l4), none], [.int r3, .ref 26])) (M := M3) (o := (pcl GG lay d 59 [.int l2] M3)) (hf := rfl) rfl rfl).trans ?_
      refine kI_in (fun r4 M4 => ?_)
      refine (evn_adv 3 (q' := (47, [some (.ref 0), some (.int l1), some (.int l2), some (.int l3), some (.int l4), none], [.int (M4.1 1 8), .int r4, .int r3, .ref 26], M4)) rfl).trans ?_
      refine (e_kI (q := (47, [some (.ref 0), some (.int l1), some (.int l2), some (.int l3), some (.int l4), none], [.int (M4.1 1 8), .int r4, .int r3, .ref 26])) (q2 := (50, [some (.ref 0), some (.int l1), some (.int l2), some (.int l3), some (.int l4), none], [])) (M := M4) (o := (pcl GG lay d 188 [.ref 26, .int r3, .int r4, .int (M4.1 1 8)] M4)) (hf := rfl) rfl rfl).trans ?_
      refine kI_in (fun r5 M5 => ?_)
      refine (e_if_ne (hf := rfl)).trans ?_
      refine ite_in ?_ ?_
      · refine (evn_adv 2 (q' := (56, [some (.ref 0), some (.int l1), some (.int l2), some (.int l3), some (.int l4), none], [.int (jz 6), .ref 0], M5)) rfl).trans ?_
        refine (e_kI (q := (56, [some (.ref 0), some (.int l1), some (.int l2), some (.int l3), some (.int l4), none], [.int (jz 6), .ref 0])) (q2 := (59, [some (.ref 0), some (.int l1), some (.int l2), some (.int l3), some (.int l4), none], [])) (M := M5) (o := (pcl GG lay d 56 [.ref 0, .int (jz 6)] M5)) (hf := rfl) rfl rfl).trans ?_
        refine kI_in (fun r6 M6 => ?_)
        exact evn_end 1 rfl
      · refine (evn_adv 3 (q' := (65, [some (.ref 0), some (.int l1), some (.int l2), some (.int l3), some (.int l4), none], [.int l3, .ref 26], M5)) rfl).trans ?_
        refine (e_kI (q := (65, [some (.ref 0), some (.int l1), some (.int l2), some (.int l3), some (.int l4), none], [.int l3, .ref 26])) (q2 := (68, [some (.ref 0), some (.int l1), some (.int l2), some (.int l3), some (.int l4), none], [])) (M := M5) (o := (pcl GG lay d 193 [.ref 26, .int l3] M5)) (hf := rfl) rfl rfl).trans ?_
        refine kI_in (fun r6 M6 => ?_)
        refine (evn_adv 3 (q' := (73, [some (.ref 0), some (.int l1), some (.int l2), some (.int l3), some (.int l4), some (.int r6)], [.int (jz 1), .int r6], M6)) rfl).trans ?_
        refine (e_ic_eq (hf := rfl)).trans ?_
        refine ite_in ?_ ?_
        · refine (evn_adv 2 (q' := (90, [some (.ref 0), some (.int l1), some (.int l2), some (.int l3), some (.int l4), some (.int r6)], [.int (jz 5), .ref 0], M6)) rfl).trans ?_
          refine (e_kI (q := (90, [some (.ref 0), some (.int l1), some (.int l2), some (.int l3), some (.int l4), some (.int r6)], [.int (jz 5), .ref 0])) (q2 := (93, [some (.ref 0), some (.int l1), some (.int l2), some (.int l3), some (.int l4), some (.int r6)], [])) (M := M6) (o := (pcl GG lay d 56 [.ref 0, .int (jz 5)] M6)) (hf := rfl) rfl rfl).trans ?_
          refine kI_in (fun r7 M7 => ?_)
          exact evn_end 1 rfl
        · refine (evn_adv 3 (q' := (81, [some (.ref 0), some (.int l1), some (.int l2), some (.int l3), some (.int l4), some (.int r6)], [.int l4, .int r6, .ref 0], M6)) rfl).trans ?_
          refine (e_kI (q := (81, [some (.ref 0), some (.int l1), some (.int l2), some (.int l3), some (.int l4), some (.int r6)], [.int l4, .int r6, .ref 0])) (q2 := (84, [some (.ref 0), some (.int l1), some (.int l2), some (.int l3), some (.int l4), some (.int r6)], [])) (M := M6) (o := (pcl GG lay d 58 [.ref 0, .int r6, .int l4] M6)) (hf := rfl) rfl rfl).trans ?_
          refine kI_in (fun r7 M7 => ?_)
          refine (e_if_ne (hf := rfl)).trans ?_
          refine ite_in ?_ ?_
          · refine (evn_adv 2 (q' := (90, [some (.ref 0), some (.int l1), some (.int l2), some (.int l3), some (.int l4), some (.int r6)], [.int (jz 5), .ref 0], M7)) rfl).trans ?_
            refine (e_kI (q := (90, [some (.ref 0), some (.int l1), some (.int l2), some (.int l3), some (.int l4), some (.int r6)], [.int (jz 5), .ref 0])) (q2 := (93, [some (.ref 0), some (.int l1), some (.int l2), some (.int l3), some (.int l4), some (.int r6)], [])) (M := M7) (o := (pcl GG lay d 56 [.ref 0, .int (jz 5)] M7)) (hf := rfl) rfl rfl).trans ?_
            refine kI_in (fun r8 M8 => ?_)
            exact evn_end 1 rfl
          · refine (evn_adv 5 (q' := (103, [some (.ref 0), some (.int l1), some (.int l2), some (.int l3), some (.int l4), some (.int r6)], [.int (r6 + l4), .ref 6], M7)) rfl).trans ?_
            refine (e_kI (q := (103, [some (.ref 0), some (.int l1), some (.int l2), some (.int l3), some (.int l4), some (.int r6)], [.int (r6 + l4), .ref 6])) (q2 := (106, [some (.ref 0), some (.int l1), some (.int l2), some (.int l3), some (.int l4), some (.int r6)], [])) (M := M7) (o := (pcl GG lay d 231 [.ref 6, .int (r6 + l4)] M7)) (hf := rfl) rfl rfl).trans ?_
            refine kI_in (fun r8 M8 => ?_)
            exact evn_end 1 rfl
/-- TermStrategies.fits(III)I -/
noncomputable abbrev E_23 (d : Nat) : PQ → PO := evn (rnn k_23 lay none (pcl GG lay d) 1)
theorem q_23 (d : Nat) (l1 : Int32) (l2 : Int32) (l3 : Int32) (M : PM) : pcl GG lay (d + 1) 23 [.ref 0, .int l1, .int l2, .int l3] M = (kI (pcl GG lay d 241 [.ref 1, .int l1] M) fun r1 M1 => (if r1 = jn 0 then (kI (pcl GG lay d 56 [.ref 0, .int (jz 1)] M1) fun r2 M2 => (rI (r2 - (jn 10)) M2)) else (kI (pcl GG lay d 240 [.ref 1, .int l2] M1) fun r2 M2 => (if r2 = jn 0 then (kI (pcl GG lay d 56 [.ref 0, .int (jz 1)] M2) fun r3 M3 => (rI (r3 - (jn 10)) M3)) else (if l3 = (jz 1) then (kI (pcl GG lay d 59 [.int l2] M2) fun r3 M3 => (kI (pcl GG lay d 24 [.ref 0, .int l1, .int r3] M3) fun r4 M4 => (rI r4 M4))) else (kI (pcl GG lay d 59 [.int l2] M2) fun r3 M3 => (kI (pcl GG lay d 25 [.ref 0, .int l1, .int r3, .int l3] M3) fun r4 M4 => (rI r4 M4)))))))) := by
  refine (pcl_un (mt := t_23) (by decide) rfl (Nat.le_of_ble_eq_true rfl)).trans ?_
  show E_23 d (0, [some (.ref 0), some (.int l1), some (.int l2), some (.int l3)], [], M) = _
  refine (evn_adv 3 (q' := (5, [some (.ref 0), some (.int l1), some (.int l2), some (.int l3)], [.int l1, .ref 1], M)) rfl).trans ?_
  refine (e_kI (q := (5, [some (.ref 0), some (.int l1), some (.int l2), some (.int l3)], [.int l1, .ref 1])) (q2 := (8, [some (.ref 0), some (.int l1), some (.int l2), some (.int l3)], [])) (M := M) (o := (pcl GG lay d 241 [.ref 1, .int l1] M)) (hf := rfl) rfl rfl).trans ?_
  refine kI_in (fun r1 M1 => ?_)
  refine (e_if_eq (hf := rfl)).trans ?_
  refine ite_in ?_ ?_
  · refine (evn_adv 2 (q' := (24, [some (.ref 0), some (.int l1), some (.int l2), some (.int l3)], [.int (jz 1), .ref 0], M1)) rfl).trans ?_
    refine (e_kI (q := (24, [some (.ref 0), some (.int l1), some (.int l2), some (.int l3)], [.int (jz 1), .ref 0])) (q2 := (27, [some (.ref 0), some (.int l1), some (.int l2), some (.int l3)], [])) (M := M1) (o := (pcl GG lay d 56 [.ref 0, .int (jz 1)] M1)) (hf := rfl) rfl rfl).trans ?_
    refine kI_in (fun r2 M2 => ?_)
    refine (evn_adv 2 (q' := (30, [some (.ref 0), some (.int l1), some (.int l2), some (.int l3)], [.int (r2 - (jn 10))], M2)) rfl).trans ?_
    exact evn_end 1 rfl
  · refine (evn_adv 3 (q' := (16, [some (.ref 0), some (.int l1), some (.int l2), some (.int l3)], [.int l2, .ref 1], M1)) rfl).trans ?_
    refine (e_kI (q := (16, [some (.ref 0), some (.int l1), some (.int l2), some (.int l3)], [.int l2, .ref 1])) (q2 := (19, [some (.ref 0), some (.int l1), some (.int l2), some (.int l3)], [])) (M := M1) (o := (pcl GG lay d 240 [.ref 1, .int l2] M1)) (hf := rfl) rfl rfl).trans ?_
    refine kI_in (fun r2 M2 => ?_)
    refine (e_if_ne (hf := rfl)).trans ?_
    refine ite_in ?_ ?_
    · refine (evn_adv 2 (q' := (24, [some (.ref 0), some (.int l1), some (.int l2), some (.int l3)], [.int (jz 1), .ref 0], M2)) rfl).trans ?_
      refine (e_kI (q := (24, [some (.ref 0), some (.int l1), some (.int l2), some (.int l3)], [.int (jz 1), .ref 0])) (q2 := (27, [some (.ref 0), some (.int l1), some (.int l2), some (.int l3)], [])) (M := M2) (o := (pcl GG lay d 56 [.ref 0, .int (jz 1)] M2)) (hf := rfl) rfl rfl).trans ?_
      refine kI_in (fun r3 M3 => ?_)
      refine (evn_adv 2 (q' := (30, [some (.ref 0), some (.int l1), some (.int l2), some (.int l3)], [.int (r3 - (jn 10))], M3)) rfl).trans ?_
      exact evn_end 1 rfl
    · refine (evn_adv 2 (q' := (33, [some (.ref 0), some (.int l1), some (.int l2), some (.int l3)], [.int (jz 1), .int l3], M2)) rfl).trans ?_
      refine (e_ic_ne (hf := rfl)).trans ?_
      refine ite_in ?_ ?_
      · refine (evn_adv 3 (q' := (39, [some (.ref 0), some (.int l1), some (.int l2), some (.int l3)], [.int l2, .int l1, .ref 0], M2)) rfl).trans ?_
        refine (e_kI (q := (39, [some (.ref 0), some (.int l1), some (.int l2), some (.int l3)], [.int l2, .int l1, .ref 0])) (q2 := (42, [some (.ref 0), some (.int l1), some (.int l2), some (.int l3)], [.int l1, .ref 0])) (M := M2) (o := (pcl GG lay d 59 [.int l2] M2)) (hf := rfl) rfl rfl).trans ?_
        refine kI_in (fun r3 M3 => ?_)
        refine (e_kI (q := (42, [some (.ref 0), some (.int l1), some (.int l2), some (.int l3)], [.int r3, .int l1, .ref 0])) (q2 := (45, [some (.ref 0), some (.int l1), some (.int l2), some (.int l3)], [])) (M := M3) (o := (pcl GG lay d 24 [.ref 0, .int l1, .int r3] M3)) (hf := rfl) rfl rfl).trans ?_
        refine kI_in (fun r4 M4 => ?_)
        refine (evn_adv 1 (q' := (58, [some (.ref 0), some (.int l1), some (.int l2), some (.int l3)], [.int r4], M4)) rfl).trans ?_
        exact evn_end 1 rfl
      · refine (evn_adv 3 (q' := (51, [some (.ref 0), some (.int l1), some (.int l2), some (.int l3)], [.int l2, .int l1, .ref 0], M2)) rfl).trans ?_
        refine (e_kI (q := (51, [some (.ref 0), some (.int l1), some (.int l2), some (.int l3)], [.int l2, .int l1, .ref 0])) (q2 := (54, [some (.ref 0), some (.int l1), some (.int l2), some (.int l3)], [.int l1, .ref 0])) (M := M2) (o := (pcl GG lay d 59 [.int l2] M2)) (hf := rfl) rfl rfl).trans ?_
        refine kI_in (fun r3 M3 => ?_)
        refine (evn_adv 1 (q' := (55, [some (.ref 0), some (.int l1), some (.int l2), some (.int l3)], [.int l3, .int r3, .int l1, .ref 0], M3)) rfl).trans ?_
        refine (e_kI (q := (55, [some (.ref 0), some (.int l1), some (.int l2), some (.int l3)], [.int l3, .int r3, .int l1, .ref 0])) (q2 := (58, [some (.ref 0), some (.int l1), some (.int l2), some (.int l3)], [])) (M := M3) (o := (pcl GG lay d 25 [.ref 0, .int l1, .int r3, .int l3] M3)) (hf := rfl) rfl rfl).trans ?_
        refine kI_in (fun r4 M4 => ?_)
        exact evn_end 1 rfl
/-- TermStrategies.countFits(II)I -/
noncomputable abbrev E_24 (d : Nat) : PQ → PO := evn (rnn k_24 lay none (pcl GG lay d) 1)
theorem q_24 (d : Nat) (l1 : Int32) (l2 : Int32) (M : PM) : pcl GG lay (d + 1) 24 [.ref 0, .int l1, .int l2] M = (kI (pcl GG lay d 234 [.ref 6, .int l2] M) fun r1 M1 => E_24 d (15, [some (.ref 0), some (.int l1), some (.int l2), some (.int r1), some (.int (jn 0)), some (.int (jn 0))], [], M1)) := by
  refine (pcl_un (mt := t_24) (by decide) rfl (Nat.le_of_ble_eq_true rfl)).trans ?_
  show E_24 d (0, [some (.ref 0), some (.int l1), some (.int l2), none, none, none], [], M) = _
  refine (evn_adv 3 (q' := (5, [some (.ref 0), some (.int l1), some (.int l2), none, none, none], [.int l2, .ref 6], M)) rfl).trans ?_
  refine (e_kI (q := (5, [some (.ref 0), some (.int l1), some (.int l2), none, none, none], [.int l2, .ref 6])) (q2 := (8, [some (.ref 0), some (.int l1), some (.int l2), none, none, none], [])) (M := M) (o := (pcl GG lay d 234 [.ref 6, .int l2] M)) (hf := rfl) rfl rfl).trans ?_
  refine kI_in (fun r1 M1 => ?_)
  refine (evn_adv 5 (q' := (15, [some (.ref 0), some (.int l1), some (.int l2), some (.int r1), some (.int (jn 0)), some (.int (jn 0))], [], M1)) rfl).trans ?_
  rfl
theorem h_24_15 (d : Nat) (l1 : Int32) (l2 : Int32) (l3 : Int32) (l4 : Int32) (l5 : Int32) (M : PM) : E_24 d (15, [some (.ref 0), some (.int l1), some (.int l2), some (.int l3), some (.int l4), some (.int l5)], [], M) = (if l5 < l3 then (kI (pcl GG lay d 60 [.int l1] M) fun r1 M1 => (kI (pcl GG lay d 188 [.ref 26, .int r1, .int (l2 + l5), .int (M1.1 1 8)] M1) fun r2 M2 => (if r2 = jn 0 then E_24 d (15, [some (.ref 0), some (.int l1), some (.int l2), some (.int l3), some (.int l4), some (.int (l5 + (jn 1)))], [], M2) else E_24 d (15, [some (.ref 0), some (.int l1), some (.int l2), some (.int l3), some (.int (l4 + (jn 1))), some (.int (l5 + (jn 1)))], [], M2)))) else (rI l4 M)) := by
  refine (evn_adv 2 (q' := (18, [some (.ref 0), some (.int l1), some (.int l2), some (.int l3), some (.int l4), some (.int l5)], [.int l3, .int l5], M)) rfl).trans ?_
  refine (e_ic_ge (hf := rfl)).trans ?_
  refine ite_in ?_ ?_
  · refine (evn_adv 3 (q' := (26, [some (.ref 0), some (.int l1), some (.int l2), some (.int l3), some (.int l4), some (.int l5)], [.int l1, .ref 26], M)) rfl).trans ?_
    refine (e_kI (q := (26, [some (.ref 0), some (.int l1), some (.int l2), some (.int l3), some (.int l4), some (.int l5)], [.int l1, .ref 26])) (q2 := (29, [some (.ref 0), some (.int l1), some (.int l2), some (.int l3), some (.int l4), some (.int l5)], [.ref 26])) (M := M) (o := (pcl GG lay d 60 [.int l1] M)) (hf := rfl) rfl rfl).trans ?_
    refine kI_in (fun r1 M1 => ?_)
    refine (evn_adv 6 (q' := (40, [some (.ref 0), some (.int l1), some (.int l2), some (.int l3), some (.int l4), some (.int l5)], [.int (M1.1 1 8), .int (l2 + l5), .int r1, .ref 26], M1)) rfl).trans ?_
    refine (e_kI (q := (40, [some (.ref 0), some (.int l1), some (.int l2), some (.int l3), some (.int l4), some (.int l5)], [.int (M1.1 1 8), .int (l2 + l5), .int r1, .ref 26])) (q2 := (43, [some (.ref 0), some (.int l1), some (.int l2), some (.int l3), some (.int l4), some (.int l5)], [])) (M := M1) (o := (pcl GG lay d 188 [.ref 26, .int r1, .int (l2 + l5), .int (M1.1 1 8)] M1)) (hf := rfl) rfl rfl).trans ?_
    refine kI_in (fun r2 M2 => ?_)
    refine (e_if_eq (hf := rfl)).trans ?_
    refine ite_in ?_ ?_
    · refine (evn_adv 2 (q' := (15, [some (.ref 0), some (.int l1), some (.int l2), some (.int l3), some (.int l4), some (.int (l5 + (jn 1)))], [], M2)) rfl).trans ?_
      rfl
    · refine (evn_adv 3 (q' := (15, [some (.ref 0), some (.int l1), some (.int l2), some (.int l3), some (.int (l4 + (jn 1))), some (.int (l5 + (jn 1)))], [], M2)) rfl).trans ?_
      rfl
  · refine (evn_adv 1 (q' := (57, [some (.ref 0), some (.int l1), some (.int l2), some (.int l3), some (.int l4), some (.int l5)], [.int l4], M)) rfl).trans ?_
    exact evn_end 1 rfl
/-- TermStrategies.fittingNode(III)I -/
noncomputable abbrev E_25 (d : Nat) : PQ → PO := evn (rnn k_25 lay none (pcl GG lay d) 1)
theorem q_25 (d : Nat) (l1 : Int32) (l2 : Int32) (l3 : Int32) (M : PM) : pcl GG lay (d + 1) 25 [.ref 0, .int l1, .int l2, .int l3] M = (kI (pcl GG lay d 234 [.ref 6, .int l2] M) fun r1 M1 => E_25 d (16, [some (.ref 0), some (.int l1), some (.int l2), some (.int l3), some (.int r1), some (.int (jn 0)), some (.int (jn 0))], [], M1)) := by
  refine (pcl_un (mt := t_25) (by decide) rfl (Nat.le_of_ble_eq_true rfl)).trans ?_
  show E_25 d (0, [some (.ref 0), some (.int l1), some (.int l2), some (.int l3), none, none, none], [], M) = _
  refine (evn_adv 3 (q' := (5, [some (.ref 0), some (.int l1), some (.int l2), some (.int l3), none, none, none], [.int l2, .ref 6], M)) rfl).trans ?_
  refine (e_kI (q := (5, [some (.ref 0), some (.int l1), some (.int l2), some (.int l3), none, none, none], [.int l2, .ref 6])) (q2 := (8, [some (.ref 0), some (.int l1), some (.int l2), some (.int l3), none, none, none], [])) (M := M) (o := (pcl GG lay d 234 [.ref 6, .int l2] M)) (hf := rfl) rfl rfl).trans ?_
  refine kI_in (fun r1 M1 => ?_)
  refine (evn_adv 5 (q' := (16, [some (.ref 0), some (.int l1), some (.int l2), some (.int l3), some (.int r1), some (.int (jn 0)), some (.int (jn 0))], [], M1)) rfl).trans ?_
  rfl
theorem h_25_16 (d : Nat) (l1 : Int32) (l2 : Int32) (l3 : Int32) (l4 : Int32) (l5 : Int32) (l6 : Int32) (M : PM) : E_25 d (16, [some (.ref 0), some (.int l1), some (.int l2), some (.int l3), some (.int l4), some (.int l5), some (.int l6)], [], M) = (if l6 < l4 then (kI (pcl GG lay d 60 [.int l1] M) fun r1 M1 => (kI (pcl GG lay d 188 [.ref 26, .int r1, .int (l2 + l6), .int (M1.1 1 8)] M1) fun r2 M2 => (if r2 = jn 0 then E_25 d (16, [some (.ref 0), some (.int l1), some (.int l2), some (.int l3), some (.int l4), some (.int l5), some (.int (l6 + (jn 1)))], [], M2) else (if l5 = l3 then (rI l6 M2) else E_25 d (16, [some (.ref 0), some (.int l1), some (.int l2), some (.int l3), some (.int l4), some (.int (l5 + (jn 1))), some (.int (l6 + (jn 1)))], [], M2))))) else (rI (jz 1) M)) := by
  refine (evn_adv 2 (q' := (20, [some (.ref 0), some (.int l1), some (.int l2), some (.int l3), some (.int l4), some (.int l5), some (.int l6)], [.int l4, .int l6], M)) rfl).trans ?_
  refine (e_ic_ge (hf := rfl)).trans ?_
  refine ite_in ?_ ?_
  · refine (evn_adv 3 (q' := (28, [some (.ref 0), some (.int l1), some (.int l2), some (.int l3), some (.int l4), some (.int l5), some (.int l6)], [.int l1, .ref 26], M)) rfl).trans ?_
    refine (e_kI (q := (28, [some (.ref 0), some (.int l1), some (.int l2), some (.int l3), some (.int l4), some (.int l5), some (.int l6)], [.int l1, .ref 26])) (q2 := (31, [some (.ref 0), some (.int l1), some (.int l2), some (.int l3), some (.int l4), some (.int l5), some (.int l6)], [.ref 26])) (M := M) (o := (pcl GG lay d 60 [.int l1] M)) (hf := rfl) rfl rfl).trans ?_
    refine kI_in (fun r1 M1 => ?_)
    refine (evn_adv 6 (q' := (42, [some (.ref 0), some (.int l1), some (.int l2), some (.int l3), some (.int l4), some (.int l5), some (.int l6)], [.int (M1.1 1 8), .int (l2 + l6), .int r1, .ref 26], M1)) rfl).trans ?_
    refine (e_kI (q := (42, [some (.ref 0), some (.int l1), some (.int l2), some (.int l3), some (.int l4), some (.int l5), some (.int l6)], [.int (M1.1 1 8), .int (l2 + l6), .int r1, .ref 26])) (q2 := (45, [some (.ref 0), some (.int l1), some (.int l2), some (.int l3), some (.int l4), some (.int l5), some (.int l6)], [])) (M := M1) (o := (pcl GG lay d 188 [.ref 26, .int r1, .int (l2 + l6), .int (M1.1 1 8)] M1)) (hf := rfl) rfl rfl).trans ?_
    refine kI_in (fun r2 M2 => ?_)
    refine (e_if_eq (hf := rfl)).trans ?_
    refine ite_in ?_ ?_
    · refine (evn_adv 2 (q' := (16, [some (.ref 0), some (.int l1), some (.int l2), some (.int l3), some (.int l4), some (.int l5), some (.int (l6 + (jn 1)))], [], M2)) rfl).trans ?_
      rfl
    · refine (evn_adv 2 (q' := (51, [some (.ref 0), some (.int l1), some (.int l2), some (.int l3), some (.int l4), some (.int l5), some (.int l6)], [.int l3, .int l5], M2)) rfl).trans ?_
      refine (e_ic_ne (hf := rfl)).trans ?_
      refine ite_in ?_ ?_
      · refine (evn_adv 1 (q' := (56, [some (.ref 0), some (.int l1), some (.int l2), some (.int l3), some (.int l4), some (.int l5), some (.int l6)], [.int l6], M2)) rfl).trans ?_
        exact evn_end 1 rfl
      · refine (evn_adv 3 (q' := (16, [some (.ref 0), some (.int l1), some (.int l2), some (.int l3), some (.int l4), some (.int (l5 + (jn 1))), some (.int (l6 + (jn 1)))], [], M2)) rfl).trans ?_
        rfl
  · refine (evn_adv 1 (q' := (67, [some (.ref 0), some (.int l1), some (.int l2), some (.int l3), some (.int l4), some (.int l5), some (.int l6)], [.int (jz 1)], M)) rfl).trans ?_
    exact evn_end 1 rfl
/-- TermStrategies.redexes(I)J -/
noncomputable abbrev E_26 (d : Nat) : PQ → PO := evn (rnn k_26 lay none (pcl GG lay d) 3)
theorem q_26 (d : Nat) (l1 : Int32) (M : PM) : pcl GG lay (d + 1) 26 [.ref 0, .int l1] M = (kI (pcl GG lay d 240 [.ref 1, .int l1] M) fun r1 M1 => (if r1 = jn 0 then (kI (pcl GG lay d 56 [.ref 0, .int (jz 1)] M1) fun r2 M2 => (rL (r2.toInt64) M2)) else (kI (pcl GG lay d 59 [.int l1] M1) fun r2 M2 => (kL (pcl GG lay d 27 [.ref 0, .int r2] M2) fun r3 M3 => (rL r3 M3))))) := by
  refine (pcl_un (mt := t_26) (by decide) rfl (Nat.le_of_ble_eq_true rfl)).trans ?_
  show E_26 d (0, [some (.ref 0), some (.int l1)], [], M) = _
  refine (evn_adv 3 (q' := (5, [some (.ref 0), some (.int l1)], [.int l1, .ref 1], M)) rfl).trans ?_
  refine (e_kI (q := (5, [some (.ref 0), some (.int l1)], [.int l1, .ref 1])) (q2 := (8, [some (.ref 0), some (.int l1)], [])) (M := M) (o := (pcl GG lay d 240 [.ref 1, .int l1] M)) (hf := rfl) rfl rfl).trans ?_
  refine kI_in (fun r1 M1 => ?_)
  refine (e_if_ne (hf := rfl)).trans ?_
  refine ite_in ?_ ?_
  · refine (evn_adv 2 (q' := (13, [some (.ref 0), some (.int l1)], [.int (jz 1), .ref 0], M1)) rfl).trans ?_
    refine (e_kI (q := (13, [some (.ref 0), some (.int l1)], [.int (jz 1), .ref 0])) (q2 := (16, [some (.ref 0), some (.int l1)], [])) (M := M1) (o := (pcl GG lay d 56 [.ref 0, .int (jz 1)] M1)) (hf := rfl) rfl rfl).trans ?_
    refine kI_in (fun r2 M2 => ?_)
    refine (evn_adv 1 (q' := (17, [some (.ref 0), some (.int l1)], [.long (r2.toInt64)], M2)) rfl).trans ?_
    exact evn_end 1 rfl
  · refine (evn_adv 2 (q' := (20, [some (.ref 0), some (.int l1)], [.int l1, .ref 0], M1)) rfl).trans ?_
    refine (e_kI (q := (20, [some (.ref 0), some (.int l1)], [.int l1, .ref 0])) (q2 := (23, [some (.ref 0), some (.int l1)], [.ref 0])) (M := M1) (o := (pcl GG lay d 59 [.int l1] M1)) (hf := rfl) rfl rfl).trans ?_
    refine kI_in (fun r2 M2 => ?_)
    refine (e_kL (q := (23, [some (.ref 0), some (.int l1)], [.int r2, .ref 0])) (q2 := (26, [some (.ref 0), some (.int l1)], [])) (M := M2) (o := (pcl GG lay d 27 [.ref 0, .int r2] M2)) (hf := rfl) rfl rfl).trans ?_
    refine kL_in (fun r3 M3 => ?_)
    exact evn_end 1 rfl
/-- TermStrategies.redexesAt(I)J -/
noncomputable abbrev E_27 (d : Nat) : PQ → PO := evn (rnn k_27 lay none (pcl GG lay d) 3)
theorem q_27 (d : Nat) (l1 : Int32) (M : PM) : pcl GG lay (d + 1) 27 [.ref 0, .int l1] M = (kI (pcl GG lay d 234 [.ref 6, .int l1] M) fun r1 M1 => E_27 d (14, [some (.ref 0), some (.int l1), some (.int r1), some (.long (Int64.ofNat 0)), none, some (.int (jn 0))], [], M1)) := by
  refine (pcl_un (mt := t_27) (by decide) rfl (Nat.le_of_ble_eq_true rfl)).trans ?_
  show E_27 d (0, [some (.ref 0), some (.int l1), none, none, none, none], [], M) = _
  refine (evn_adv 3 (q' := (5, [some (.ref 0), some (.int l1), none, none, none, none], [.int l1, .ref 6], M)) rfl).trans ?_
  refine (e_kI (q := (5, [some (.ref 0), some (.int l1), none, none, none, none], [.int l1, .ref 6])) (q2 := (8, [some (.ref 0), some (.int l1), none, none, none, none], [])) (M := M) (o := (pcl GG lay d 234 [.ref 6, .int l1] M)) (hf := rfl) rfl rfl).trans ?_
  refine kI_in (fun r1 M1 => ?_)
  refine (evn_adv 5 (q' := (14, [some (.ref 0), some (.int l1), some (.int r1), some (.long (Int64.ofNat 0)), none, some (.int (jn 0))], [], M1)) rfl).trans ?_
  rfl
theorem h_27_14 (d : Nat) (l1 : Int32) (l2 : Int32) (l3 : Int64) (l5 : Int32) (M : PM) : E_27 d (14, [some (.ref 0), some (.int l1), some (.int l2), some (.long l3), none, some (.int l5)], [], M) = (if l5 < l2 then (kI (pcl GG lay d 28 [.ref 0, .int (l1 + l5)] M) fun r1 M1 => (if r1 = jn 0 then E_27 d (14, [some (.ref 0), some (.int l1), some (.int l2), some (.long l3), none, some (.int (l5 + (jn 1)))], [], M1) else E_27 d (14, [some (.ref 0), some (.int l1), some (.int l2), some (.long (l3 ||| ((Int64.ofNat 1) <<< (l5.toInt64 &&& 63)))), none, some (.int (l5 + (jn 1)))], [], M1))) else (rL l3 M)) := by
  refine (evn_adv 2 (q' := (17, [some (.ref 0), some (.int l1), some (.int l2), some (.long l3), none, some (.int l5)], [.int l2, .int l5], M)) rfl).trans ?_
  refine (e_ic_ge (hf := rfl)).trans ?_
  refine ite_in ?_ ?_
  · refine (evn_adv 4 (q' := (25, [some (.ref 0), some (.int l1), some (.int l2), some (.long l3), none, some (.int l5)], [.int (l1 + l5), .ref 0], M)) rfl).trans ?_
    refine (e_kI (q := (25, [some (.ref 0), some (.int l1), some (.int l2), some (.long l3), none, some (.int l5)], [.int (l1 + l5), .ref 0])) (q2 := (28, [some (.ref 0), some (.int l1), some (.int l2), some (.long l3), none, some (.int l5)], [])) (M := M) (o := (pcl GG lay d 28 [.ref 0, .int (l1 + l5)] M)) (hf := rfl) rfl rfl).trans ?_
    refine kI_in (fun r1 M1 => ?_)
    refine (e_if_eq (hf := rfl)).trans ?_
    refine ite_in ?_ ?_
    · refine (evn_adv 2 (q' := (14, [some (.ref 0), some (.int l1), some (.int l2), some (.long l3), none, some (.int (l5 + (jn 1)))], [], M1)) rfl).trans ?_
      rfl
    · refine (evn_adv 8 (q' := (14, [some (.ref 0), some (.int l1), some (.int l2), some (.long (l3 ||| ((Int64.ofNat 1) <<< (l5.toInt64 &&& 63)))), none, some (.int (l5 + (jn 1)))], [], M1)) rfl).trans ?_
      rfl
  · refine (evn_adv 1 (q' := (45, [some (.ref 0), some (.int l1), some (.int l2), some (.long l3), none, some (.int l5)], [.long l3], M)) rfl).trans ?_
    exact evn_end 1 rfl
/-- TermStrategies.someRuleFits(I)Z -/
noncomputable abbrev E_28 (d : Nat) : PQ → PO := evn (rnn k_28 lay none (pcl GG lay d) 2)
theorem q_28 (d : Nat) (l1 : Int32) (M : PM) : pcl GG lay (d + 1) 28 [.ref 0, .int l1] M = E_28 d (2, [some (.ref 0), some (.int l1), some (.int (jn 0))], [], M) := by
  refine (pcl_un (mt := t_28) (by decide) rfl (Nat.le_of_ble_eq_true rfl)).trans ?_
  show E_28 d (0, [some (.ref 0), some (.int l1), none], [], M) = _
  refine (evn_adv 2 (q' := (2, [some (.ref 0), some (.int l1), some (.int (jn 0))], [], M)) rfl).trans ?_
  rfl
theorem h_28_2 (d : Nat) (l1 : Int32) (l2 : Int32) (M : PM) : E_28 d (2, [some (.ref 0), some (.int l1), some (.int l2)], [], M) = (if l2 < (M.1 1 6) then (kI (pcl GG lay d 60 [.int l2] M) fun r1 M1 => (kI (pcl GG lay d 188 [.ref 26, .int r1, .int l1, .int (M1.1 1 8)] M1) fun r2 M2 => (if r2 = jn 0 then E_28 d (2, [some (.ref 0), some (.int l1), some (.int (l2 + (jn 1)))], [], M2) else (rZ (jn 1) M2)))) else (rZ (jn 0) M)) := by
  refine (evn_adv 4 (q' := (10, [some (.ref 0), some (.int l1), some (.int l2)], [.int (M.1 1 6), .int l2], M)) rfl).trans ?_
  refine (e_ic_ge (hf := rfl)).trans ?_
  refine ite_in ?_ ?_
  · refine (evn_adv 3 (q' := (18, [some (.ref 0), some (.int l1), some (.int l2)], [.int l2, .ref 26], M)) rfl).trans ?_
    refine (e_kI (q := (18, [some (.ref 0), some (.int l1), some (.int l2)], [.int l2, .ref 26])) (q2 := (21, [some (.ref 0), some (.int l1), some (.int l2)], [.ref 26])) (M := M) (o := (pcl GG lay d 60 [.int l2] M)) (hf := rfl) rfl rfl).trans ?_
    refine kI_in (fun r1 M1 => ?_)
    refine (evn_adv 4 (q' := (29, [some (.ref 0), some (.int l1), some (.int l2)], [.int (M1.1 1 8), .int l1, .int r1, .ref 26], M1)) rfl).trans ?_
    refine (e_kI (q := (29, [some (.ref 0), some (.int l1), some (.int l2)], [.int (M1.1 1 8), .int l1, .int r1, .ref 26])) (q2 := (32, [some (.ref 0), some (.int l1), some (.int l2)], [])) (M := M1) (o := (pcl GG lay d 188 [.ref 26, .int r1, .int l1, .int (M1.1 1 8)] M1)) (hf := rfl) rfl rfl).trans ?_
    refine kI_in (fun r2 M2 => ?_)
    refine (e_if_eq (hf := rfl)).trans ?_
    refine ite_in ?_ ?_
    · refine (evn_adv 2 (q' := (2, [some (.ref 0), some (.int l1), some (.int (l2 + (jn 1)))], [], M2)) rfl).trans ?_
      rfl
    · refine (evn_adv 1 (q' := (36, [some (.ref 0), some (.int l1), some (.int l2)], [.int (jn 1)], M2)) rfl).trans ?_
      exact e_iretz (hf := rfl)
  · refine (evn_adv 1 (q' := (44, [some (.ref 0), some (.int l1), some (.int l2)], [.int (jn 0)], M)) rfl).trans ?_
    exact e_iretz (hf := rfl)
/-- TermStrategies.rewrite(III)I -/
noncomputable abbrev E_29 (d : Nat) : PQ → PO := evn (rnn k_29 lay none (pcl GG lay d) 1)
theorem q_29 (d : Nat) (l1 : Int32) (l2 : Int32) (l3 : Int32) (M : PM) : pcl GG lay (d + 1) 29 [.ref 0, .int l1, .int l2, .int l3] M = (kI (pcl GG lay d 241 [.ref 1, .int l1] M) fun r1 M1 => (if r1 = jn 0 then (kI (pcl GG lay d 56 [.ref 0, .int (jz 1)] M1) fun r2 M2 => (rI r2 M2)) else (kI (pcl GG lay d 240 [.ref 1, .int l2] M1) fun r2 M2 => (if r2 = jn 0 then (kI (pcl GG lay d 56 [.ref 0, .int (jz 1)] M2) fun r3 M3 => (rI r3 M3)) else (kI (pcl GG lay d 59 [.int l2] M2) fun r3 M3 => (kI (pcl GG lay d 58 [.ref 0, .int r3, .int l3] M3) fun r4 M4 => (if r4 = jn 0 then (kI (pcl GG lay d 56 [.ref 0, .int (jz 5)] M4) fun r5 M5 => (rI r5 M5)) else (kI (pcl GG lay d 59 [.int l2] M4) fun r5 M5 => (kI (pcl GG lay d 30 [.ref 0, .int l1, .int r5, .int l3] M5) fun r6 M6 => (if r6 = jn 0 then (kI (pcl GG lay d 57 [.ref 0, .int (jn 1920)] M6) fun r7 M7 => (rI r7 M7)) else (kI (pcl GG lay d 56 [.ref 0, .int r6] M6) fun r7 M7 => (rI r7 M7)))))))))))) := by
  refine (pcl_un (mt := t_29) (by decide) rfl (Nat.le_of_ble_eq_true rfl)).trans ?_
  show E_29 d (0, [some (.ref 0), some (.int l1), some (.int l2), some (.int l3), none], [], M) = _
  refine (evn_adv 3 (q' := (5, [some (.ref 0), some (.int l1), some (.int l2), some (.int l3), none], [.int l1, .ref 1], M)) rfl).trans ?_
  refine (e_kI (q := (5, [some (.ref 0), some (.int l1), some (.int l2), some (.int l3), none], [.int l1, .ref 1])) (q2 := (8, [some (.ref 0), some (.int l1), some (.int l2), some (.int l3), none], [])) (M := M) (o := (pcl GG lay d 241 [.ref 1, .int l1] M)) (hf := rfl) rfl rfl).trans ?_
  refine kI_in (fun r1 M1 => ?_)
  refine (e_if_eq (hf := rfl)).trans ?_
  refine ite_in ?_ ?_
  · refine (evn_adv 2 (q' := (24, [some (.ref 0), some (.int l1), some (.int l2), some (.int l3), none], [.int (jz 1), .ref 0], M1)) rfl).trans ?_
    refine (e_kI (q := (24, [some (.ref 0), some (.int l1), some (.int l2), some (.int l3), none], [.int (jz 1), .ref 0])) (q2 := (27, [some (.ref 0), some (.int l1), some (.int l2), some (.int l3), none], [])) (M := M1) (o := (pcl GG lay d 56 [.ref 0, .int (jz 1)] M1)) (hf := rfl) rfl rfl).trans ?_
    refine kI_in (fun r2 M2 => ?_)
    exact evn_end 1 rfl
  · refine (evn_adv 3 (q' := (16, [some (.ref 0), some (.int l1), some (.int l2), some (.int l3), none], [.int l2, .ref 1], M1)) rfl).trans ?_
    refine (e_kI (q := (16, [some (.ref 0), some (.int l1), some (.int l2), some (.int l3), none], [.int l2, .ref 1])) (q2 := (19, [some (.ref 0), some (.int l1), some (.int l2), some (.int l3), none], [])) (M := M1) (o := (pcl GG lay d 240 [.ref 1, .int l2] M1)) (hf := rfl) rfl rfl).trans ?_
    refine kI_in (fun r2 M2 => ?_)
    refine (e_if_ne (hf := rfl)).trans ?_
    refine ite_in ?_ ?_
    · refine (evn_adv 2 (q' := (24, [some (.ref 0), some (.int l1), some (.int l2), some (.int l3), none], [.int (jz 1), .ref 0], M2)) rfl).trans ?_
      refine (e_kI (q := (24, [some (.ref 0), some (.int l1), some (.int l2), some (.int l3), none], [.int (jz 1), .ref 0])) (q2 := (27, [some (.ref 0), some (.int l1), some (.int l2), some (.int l3), none], [])) (M := M2) (o := (pcl GG lay d 56 [.ref 0, .int (jz 1)] M2)) (hf := rfl) rfl rfl).trans ?_
      refine kI_in (fun r3 M3 => ?_)
      exact evn_end 1 rfl
    · refine (evn_adv 2 (q' := (30, [some (.ref 0), some (.int l1), some (.int l2), some (.int l3), none], [.int l2, .ref 0], M2)) rfl).trans ?_
      refine (e_kI (q := (30, [some (.ref 0), some (.int l1), some (.int l2), some (.int l3), none], [.int l2, .ref 0])) (q2 := (33, [some (.ref 0), some (.int l1), some (.int l2), some (.int l3), none], [.ref 0])) (M := M2) (o := (pcl GG lay d 59 [.int l2] M2)) (hf := rfl) rfl rfl).trans ?_
      refine kI_in (fun r3 M3 => ?_)
      refine (evn_adv 1 (q' := (34, [some (.ref 0), some (.int l1), some (.int l2), some (.int l3), none], [.int l3, .int r3, .ref 0], M3)) rfl).trans ?_
      refine (e_kI (q := (34, [some (.ref 0), some (.int l1), some (.int l2), some (.int l3), none], [.int l3, .int r3, .ref 0])) (q2 := (37, [some (.ref 0), some (.int l1), some (.int l2), some (.int l3), none], [])) (M := M3) (o := (pcl GG lay d 58 [.ref 0, .int r3, .int l3] M3)) (hf := rfl) rfl rfl).trans ?_
      refine kI_in (fun r4 M4 => ?_)
      refine (e_if_ne (hf := rfl)).trans ?_
      refine ite_in ?_ ?_
      · refine (evn_adv 2 (q' := (43, [some (.ref 0), some (.int l1), some (.int l2), some (.int l3), none], [.int (jz 5), .ref 0], M4)) rfl).trans ?_
        refine (e_kI (q := (43, [some (.ref 0), some (.int l1), some (.int l2), some (.int l3), none], [.int (jz 5), .ref 0])) (q2 := (46, [some (.ref 0), some (.int l1), some (.int l2), some (.int l3), none], [])) (M := M4) (o := (pcl GG lay d 56 [.ref 0, .int (jz 5)] M4)) (hf := rfl) rfl rfl).trans ?_
        refine kI_in (fun r5 M5 => ?_)
        exact evn_end 1 rfl
      · refine (evn_adv 3 (q' := (50, [some (.ref 0), some (.int l1), some (.int l2), some (.int l3), none], [.int l2, .int l1, .ref 0], M4)) rfl).trans ?_
        refine (e_kI (q := (50, [some (.ref 0), some (.int l1), some (.int l2), some (.int l3), none], [.int l2, .int l1, .ref 0])) (q2 := (53, [some (.ref 0), some (.int l1), some (.int l2), some (.int l3), none], [.int l1, .ref 0])) (M := M4) (o := (pcl GG lay d 59 [.int l2] M4)) (hf := rfl) rfl rfl).trans ?_
        refine kI_in (fun r5 M5 => ?_)
        refine (evn_adv 1 (q' := (54, [some (.ref 0), some (.int l1), some (.int l2), some (.int l3), none], [.int l3, .int r5, .int l1, .ref 0], M5)) rfl).trans ?_
        refine (e_kI (q := (54, [some (.ref 0), some (.int l1), some (.int l2), some (.int l3), none], [.int l3, .int r5, .int l1, .ref 0])) (q2 := (57, [some (.ref 0), some (.int l1), some (.int l2), some (.int l3), none], [])) (M := M5) (o := (pcl GG lay d 30 [.ref 0, .int l1, .int r5, .int l3] M5)) (hf := rfl) rfl rfl).trans ?_
        refine kI_in (fun r6 M6 => ?_)
        refine (evn_adv 2 (q' := (61, [some (.ref 0), some (.int l1), some (.int l2), some (.int l3), some (.int r6)], [.int r6], M6)) rfl).trans ?_
        refine (e_if_eq (hf := rfl)).trans ?_
        refine ite_in ?_ ?_
        · refine (evn_adv 2 (q' := (75, [some (.ref 0), some (.int l1), some (.int l2), some (.int l3), some (.int r6)], [.int (jn 1920), .ref 0], M6)) rfl).trans ?_
          refine (e_kI (q := (75, [some (.ref 0), some (.int l1), some (.int l2), some (.int l3), some (.int r6)], [.int (jn 1920), .ref 0])) (q2 := (78, [some (.ref 0), some (.int l1), some (.int l2), some (.int l3), some (.int r6)], [])) (M := M6) (o := (pcl GG lay d 57 [.ref 0, .int (jn 1920)] M6)) (hf := rfl) rfl rfl).trans ?_
          refine kI_in (fun r7 M7 => ?_)
          exact evn_end 1 rfl
        · refine (evn_adv 2 (q' := (67, [some (.ref 0), some (.int l1), some (.int l2), some (.int l3), some (.int r6)], [.int r6, .ref 0], M6)) rfl).trans ?_
          refine (e_kI (q := (67, [some (.ref 0), some (.int l1), some (.int l2), some (.int l3), some (.int r6)], [.int r6, .ref 0])) (q2 := (70, [some (.ref 0), some (.int l1), some (.int l2), some (.int l3), some (.int r6)], [])) (M := M6) (o := (pcl GG lay d 56 [.ref 0, .int r6] M6)) (hf := rfl) rfl rfl).trans ?_
          refine kI_in (fun r7 M7 => ?_)
          exact evn_end 1 rfl
/-- TermStrategies.rewriteToWork(III)I -/
noncomputable abbrev E_30 (d : Nat) : PQ → PO := evn (rnn k_30 lay none (pcl GG lay d) 1)
theorem q_30 (d : Nat) (l1 : Int32) (l2 : Int32) (l3 : Int32) (M : PM) : pcl GG lay (d + 1) 30 [.ref 0, .int l1, .int l2, .int l3] M = (kI (pcl GG lay d 60 [.int l1] M) fun r1 M1 => (kI (pcl GG lay d 188 [.ref 26, .int r1, .int (l2 + l3), .int (M1.1 1 8)] M1) fun r2 M2 => (if r2 = jn 0 then (rI (jz 6) M2) else (kI (pcl GG lay d 234 [.ref 6, .int l2] M2) fun r3 M3 => (kI (pcl GG lay d 234 [.ref 6, .int (l2 + l3)] M3) fun r4 M4 => (kI (pcl GG lay d 61 [.int l1] M4) fun r5 M5 => (kI (pcl GG lay d 194 [.ref 26, .int r5] M5) fun r6 M6 => (if (jn 40) < ((r3 - r4) + r6) then (rI (jz 7) M6) else (kI (pcl GG lay d 238 [.ref 6, .int l2, .int (l2 + l3), .int (jn 1920)] M6) fun r7 M7 => (kI (pcl GG lay d 61 [.int l1] M7) fun r8 M8 => (kI (pcl GG lay d 195 [.ref 26, .int r8, .int r7] M8) fun r9 M9 => (kI (pcl GG lay d 233 [.ref 6, .int (l2 + l3)] M9) fun r10 M10 => (kI (pcl GG lay d 233 [.ref 6, .int l2] M10) fun r11 M11 => (kI (pcl GG lay d 238 [.ref 6, .int r10, .int r11, .int r9] M11) fun r12 M12 => (rI (jn 0) M12))))))))))))))) := by
  refine (pcl_un (mt := t_30) (by decide) rfl (Nat.le_of_ble_eq_true rfl)).trans ?_
  show E_30 d (0, [some (.ref 0), some (.int l1), some (.int l2), some (.int l3), none, none, none], [], M) = _
  refine (evn_adv 7 (q' := (10, [some (.ref 0), some (.int l1), some (.int l2), some (.int l3), some (.int (l2 + l3)), none, none], [.int l1, .ref 26], M)) rfl).trans ?_
  refine (e_kI (q := (10, [some (.ref 0), some (.int l1), some (.int l2), some (.int l3), some (.int (l2 + l3)), none, none], [.int l1, .ref 26])) (q2 := (13, [some (.ref 0), some (.int l1), some (.int l2), some (.int l3), some (.int (l2 + l3)), none, none], [.ref 26])) (M := M) (o := (pcl GG lay d 60 [.int l1] M)) (hf := rfl) rfl rfl).trans ?_
  refine kI_in (fun r1 M1 => ?_)
  refine (evn_adv 4 (q' := (22, [some (.ref 0), some (.int l1), some (.int l2), some (.int l3), some (.int (l2 + l3)), none, none], [.int (M1.1 1 8), .int (l2 + l3), .int r1, .ref 26], M1)) rfl).trans ?_
  refine (e_kI (q := (22, [some (.ref 0), some (.int l1), some (.int l2), some (.int l3), some (.int (l2 + l3)), none, none], [.int (M1.1 1 8), .int (l2 + l3), .int r1, .ref 26])) (q2 := (25, [some (.ref 0), some (.int l1), some (.int l2), some (.int l3), some (.int (l2 + l3)), none, none], [])) (M := M1) (o := (pcl GG lay d 188 [.ref 26, .int r1, .int (l2 + l3), .int (M1.1 1 8)] M1)) (hf := rfl) rfl rfl).trans ?_
  refine kI_in (fun r2 M2 => ?_)
  refine (e_if_ne (hf := rfl)).trans ?_
  refine ite_in ?_ ?_
  · refine (evn_adv 1 (q' := (30, [some (.ref 0), some (.int l1), some (.int l2), some (.int l3), some (.int (l2 + l3)), none, none], [.int (jz 6)], M2)) rfl).trans ?_
    exact evn_end 1 rfl
  · refine (evn_adv 3 (q' := (36, [some (.ref 0), some (.int l1), some (.int l2), some (.int l3), some (.int (l2 + l3)), none, none], [.int l2, .ref 6], M2)) rfl).trans ?_
    refine (e_kI (q := (36, [some (.ref 0), some (.int l1), some (.int l2), some (.int l3), some (.int (l2 + l3)), none, none], [.int l2, .ref 6])) (q2 := (39, [some (.ref 0), some (.int l1), some (.int l2), some (.int l3), some (.int (l2 + l3)), none, none], [])) (M := M2) (o := (pcl GG lay d 234 [.ref 6, .int l2] M2)) (hf := rfl) rfl rfl).trans ?_
    refine kI_in (fun r3 M3 => ?_)
    refine (evn_adv 3 (q' := (45, [some (.ref 0), some (.int l1), some (.int l2), some (.int l3), some (.int (l2 + l3)), none, none], [.int (l2 + l3), .ref 6, .int r3], M3)) rfl).trans ?_
    refine (e_kI (q := (45, [some (.ref 0), some (.int l1), some (.int l2), some (.int l3), some (.int (l2 + l3)), none, none], [.int (l2 + l3), .ref 6, .int r3])) (q2 := (48, [some (.ref 0), some (.int l1), some (.int l2), some (.int l3), some (.int (l2 + l3)), none, none], [.int r3])) (M := M3) (o := (pcl GG lay d 234 [.ref 6, .int (l2 + l3)] M3)) (hf := rfl) rfl rfl).trans ?_
    refine kI_in (fun r4 M4 => ?_)
    refine (evn_adv 4 (q' := (54, [some (.ref 0), some (.int l1), some (.int l2), some (.int l3), some (.int (l2 + l3)), none, none], [.int l1, .ref 26, .int (r3 - r4)], M4)) rfl).trans ?_
    refine (e_kI (q := (54, [some (.ref 0), some (.int l1), some (.int l2), some (.int l3), some (.int (l2 + l3)), none, none], [.int l1, .ref 26, .int (r3 - r4)])) (q2 := (57, [some (.ref 0), some (.int l1), some (.int l2), some (.int l3), some (.int (l2 + l3)), none, none], [.ref 26, .int (r3 - r4)])) (M := M4) (o := (pcl GG lay d 61 [.int l1] M4)) (hf := rfl) rfl rfl).trans ?_
    refine kI_in (fun r5 M5 => ?_)
    refine (e_kI (q := (57, [some (.ref 0), some (.int l1), some (.int l2), some (.int l3), some (.int (l2 + l3)), none, none], [.int r5, .ref 26, .int (r3 - r4)])) (q2 := (60, [some (.ref 0), some (.int l1), some (.int l2), some (.int l3), some (.int (l2 + l3)), none, none], [.int (r3 - r4)])) (M := M5) (o := (pcl GG lay d 194 [.ref 26, .int r5] M5)) (hf := rfl) rfl rfl).trans ?_
    refine kI_in (fun r6 M6 => ?_)
    refine (evn_adv 4 (q' := (67, [some (.ref 0), some (.int l1), some (.int l2), some (.int l3), some (.int (l2 + l3)), some (.int ((r3 - r4) + r6)), none], [.int (jn 40), .int ((r3 - r4) + r6)], M6)) rfl).trans ?_
    refine (e_ic_le (hf := rfl)).trans ?_
    refine ite_in ?_ ?_
    · refine (evn_adv 1 (q' := (72, [some (.ref 0), some (.int l1), some (.int l2), some (.int l3), some (.int (l2 + l3)), some (.int ((r3 - r4) + r6)), none], [.int (jz 7)], M6)) rfl).trans ?_
      exact evn_end 1 rfl
    · refine (evn_adv 5 (q' := (83, [some (.ref 0), some (.int l1), some (.int l2), some (.int l3), some (.int (l2 + l3)), some (.int ((r3 - r4) + r6)), none], [.int (jn 1920), .int (l2 + l3), .int l2, .ref 6], M6)) rfl).trans ?_
      refine (e_kI (q := (83, [some (.ref 0), some (.int l1), some (.int l2), some (.int l3), some (.int (l2 + l3)), some (.int ((r3 - r4) + r6)), none], [.int (jn 1920), .int (l2 + l3), .int l2, .ref 6])) (q2 := (86, [some (.ref 0), some (.int l1), some (.int l2), some (.int l3), some (.int (l2 + l3)), some (.int ((r3 - r4) + r6)), none], [])) (M := M6) (o := (pcl GG lay d 238 [.ref 6, .int l2, .int (l2 + l3), .int (jn 1920)] M6)) (hf := rfl) rfl rfl).trans ?_
      refine kI_in (fun r7 M7 => ?_)
      refine (evn_adv 4 (q' := (93, [some (.ref 0), some (.int l1), some (.int l2), some (.int l3), some (.int (l2 + l3)), some (.int ((r3 - r4) + r6)), some (.int r7)], [.int l1, .ref 26], M7)) rfl).trans ?_
      refine (e_kI (q := (93, [some (.ref 0), some (.int l1), some (.int l2), some (.int l3), some (.int (l2 + l3)), some (.int ((r3 - r4) + r6)), some (.int r7)], [.int l1, .ref 26])) (q2 := (96, [some (.ref 0), some (.int l1), some (.int l2), some (.int l3), some (.int (l2 + l3)), some (.int ((r3 - r4) + r6)), some (.int r7)], [.ref 26])) (M := M7) (o := (pcl GG lay d 61 [.int l1] M7)) (hf := rfl) rfl rfl).trans ?_
      refine kI_in (fun r8 M8 => ?_)
      refine (evn_adv 1 (q' := (98, [some (.ref 0), some (.int l1), some (.int l2), some (.int l3), some (.int (l2 + l3)), some (.int ((r3 - r4) + r6)), some (.int r7)], [.int r7, .int r8, .ref 26], M8)) rfl).trans ?_
      refine (e_kI (q := (98, [some (.ref 0), some (.int l1), some (.int l2), some (.int l3), some (.int (l2 + l3)), some (.int ((r3 - r4) + r6)), some (.int r7)], [.int r7, .int r8, .ref 26])) (q2 := (101, [some (.ref 0), some (.int l1), some (.int l2), some (.int l3), some (.int (l2 + l3)), some (.int ((r3 - r4) + r6)), some (.int r7)], [])) (M := M8) (o := (pcl GG lay d 195 [.ref 26, .int r8, .int r7] M8)) (hf := rfl) rfl rfl).trans ?_
      refine kI_in (fun r9 M9 => ?_)
      refine (evn_adv 6 (q' := (113, [some (.ref 0), some (.int l1), some (.int l2), some (.int l3), some (.int (l2 + l3)), some (.int ((r3 - r4) + r6)), some (.int r9)], [.int (l2 + l3), .ref 6, .ref 6], M9)) rfl).trans ?_
      refine (e_kI (q := (113, [some (.ref 0), some (.int l1), some (.int l2), some (.int l3), some (.int (l2 + l3)), some (.int ((r3 - r4) + r6)), some (.int r9)], [.int (l2 + l3), .ref 6, .ref 6])) (q2 := (116, [some (.ref 0), some (.int l1), some (.int l2), some (.int l3), some (.int (l2 + l3)), some (.int ((r3 - r4) + r6)), some (.int r9)], [.ref 6])) (M := M9) (o := (pcl GG lay d 233 [.ref 6, .int (l2 + l3)] M9)) (hf := rfl) rfl rfl).trans ?_
      refine kI_in (fun r10 M10 => ?_)
      refine (evn_adv 3 (q' := (121, [some (.ref 0), some (.int l1), some (.int l2), some (.int l3), some (.int (l2 + l3)), some (.int ((r3 - r4) + r6)), some (.int r9)], [.int l2, .ref 6, .int r10, .ref 6], M10)) rfl).trans ?_
      refine (e_kI (q := (121, [some (.ref 0), some (.int l1), some (.int l2), some (.int l3), some (.int (l2 + l3)), some (.int ((r3 - r4) + r6)), some (.int r9)], [.int l2, .ref 6, .int r10, .ref 6])) (q2 := (124, [some (.ref 0), some (.int l1), some (.int l2), some (.int l3), some (.int (l2 + l3)), some (.int ((r3 - r4) + r6)), some (.int r9)], [.int r10, .ref 6])) (M := M10) (o := (pcl GG lay d 233 [.ref 6, .int l2] M10)) (hf := rfl) rfl rfl).trans ?_
      refine kI_in (fun r11 M11 => ?_)
      refine (evn_adv 1 (q' := (126, [some (.ref 0), some (.int l1), some (.int l2), some (.int l3), some (.int (l2 + l3)), some (.int ((r3 - r4) + r6)), some (.int r9)], [.int r9, .int r11, .int r10, .ref 6], M11)) rfl).trans ?_
      refine (e_kI (q := (126, [some (.ref 0), some (.int l1), some (.int l2), some (.int l3), some (.int (l2 + l3)), some (.int ((r3 - r4) + r6)), some (.int r9)], [.int r9, .int r11, .int r10, .ref 6])) (q2 := (129, [some (.ref 0), some (.int l1), some (.int l2), some (.int l3), some (.int (l2 + l3)), some (.int ((r3 - r4) + r6)), some (.int r9)], [])) (M := M11) (o := (pcl GG lay d 238 [.ref 6, .int r10, .int r11, .int r9] M11)) (hf := rfl) rfl rfl).trans ?_
      refine kI_in (fun r12 M12 => ?_)
      refine (evn_adv 2 (q' := (131, [some (.ref 0), some (.int l1), some (.int l2), some (.int l3), some (.int (l2 + l3)), some (.int ((r3 - r4) + r6)), some (.int r9)], [.int (jn 0)], M12)) rfl).trans ?_
      exact evn_end 1 rfl
/-- TermStrategies.strategy(III)I -/
noncomputable abbrev E_31 (d : Nat) : PQ → PO := evn (rnn k_31 lay none (pcl GG lay d) 1)
theorem q_31 (d : Nat) (l1 : Int32) (l2 : Int32) (l3 : Int32) (M : PM) : pcl GG lay (d + 1) 31 [.ref 0, .int l1, .int l2, .int l3] M = (kI (pcl GG lay d 32 [.ref 0, .int l1, .int l2, .int l3] M) fun r1 M1 => (if r1 = jn 0 then (kI (pcl GG lay d 56 [.ref 0, .int (jz 1)] M1) fun r2 M2 => (rI r2 M2)) else (if (M1.1 1 7) < (jn 24) then (kI (pcl GG lay d 245 [.ref 1, .int l1, .int l2, .int l3] M1) fun r2 M2 => (rI r2 M2)) else (kI (pcl GG lay d 56 [.ref 0, .int (jz 7)] M1) fun r2 M2 => (rI r2 M2))))) := by
  refine (pcl_un (mt := t_31) (by decide) rfl (Nat.le_of_ble_eq_true rfl)).trans ?_
  show E_31 d (0, [some (.ref 0), some (.int l1), some (.int l2), some (.int l3)], [], M) = _
  refine (evn_adv 4 (q' := (4, [some (.ref 0), some (.int l1), some (.int l2), some (.int l3)], [.int l3, .int l2, .int l1, .ref 0], M)) rfl).trans ?_
  refine (e_kI (q := (4, [some (.ref 0), some (.int l1), some (.int l2), some (.int l3)], [.int l3, .int l2, .int l1, .ref 0])) (q2 := (7, [some (.ref 0), some (.int l1), some (.int l2), some (.int l3)], [])) (M := M) (o := (pcl GG lay d 32 [.ref 0, .int l1, .int l2, .int l3] M)) (hf := rfl) rfl rfl).trans ?_
  refine kI_in (fun r1 M1 => ?_)
  refine (e_if_ne (hf := rfl)).trans ?_
  refine ite_in ?_ ?_
  · refine (evn_adv 2 (q' := (12, [some (.ref 0), some (.int l1), some (.int l2), some (.int l3)], [.int (jz 1), .ref 0], M1)) rfl).trans ?_
    refine (e_kI (q := (12, [some (.ref 0), some (.int l1), some (.int l2), some (.int l3)], [.int (jz 1), .ref 0])) (q2 := (15, [some (.ref 0), some (.int l1), some (.int l2), some (.int l3)], [])) (M := M1) (o := (pcl GG lay d 56 [.ref 0, .int (jz 1)] M1)) (hf := rfl) rfl rfl).trans ?_
    refine kI_in (fun r2 M2 => ?_)
    exact evn_end 1 rfl
  · refine (evn_adv 4 (q' := (25, [some (.ref 0), some (.int l1), some (.int l2), some (.int l3)], [.int (jn 24), .int (M1.1 1 7)], M1)) rfl).trans ?_
    refine (e_ic_lt (hf := rfl)).trans ?_
    refine ite_in ?_ ?_
    · refine (evn_adv 5 (q' := (42, [some (.ref 0), some (.int l1), some (.int l2), some (.int l3)], [.int l3, .int l2, .int l1, .ref 1], M1)) rfl).trans ?_
      refine (e_kI (q := (42, [some (.ref 0), some (.int l1), some (.int l2), some (.int l3)], [.int l3, .int l2, .int l1, .ref 1])) (q2 := (45, [some (.ref 0), some (.int l1), some (.int l2), some (.int l3)], [])) (M := M1) (o := (pcl GG lay d 245 [.ref 1, .int l1, .int l2, .int l3] M1)) (hf := rfl) rfl rfl).trans ?_
      refine kI_in (fun r2 M2 => ?_)
      exact evn_end 1 rfl
    · refine (evn_adv 2 (q' := (31, [some (.ref 0), some (.int l1), some (.int l2), some (.int l3)], [.int (jz 7), .ref 0], M1)) rfl).trans ?_
      refine (e_kI (q := (31, [some (.ref 0), some (.int l1), some (.int l2), some (.int l3)], [.int (jz 7), .ref 0])) (q2 := (34, [some (.ref 0), some (.int l1), some (.int l2), some (.int l3)], [])) (M := M1) (o := (pcl GG lay d 56 [.ref 0, .int (jz 7)] M1)) (hf := rfl) rfl rfl).trans ?_
      refine kI_in (fun r2 M2 => ?_)
      exact evn_end 1 rfl
/-- TermStrategies.isStrategyOver(III)Z -/
noncomputable abbrev E_32 (d : Nat) : PQ → PO := evn (rnn k_32 lay none (pcl GG lay d) 2)
theorem q_32 (d : Nat) (l1 : Int32) (l2 : Int32) (l3 : Int32) (M : PM) : pcl GG lay (d + 1) 32 [.ref 0, .int l1, .int l2, .int l3] M = (if l1 < jn 0 then (rZ (jn 0) M) else (if (jn 13) < l1 then (rZ (jn 0) M) else (if l1 = jn 0 then (kI (pcl GG lay d 241 [.ref 1, .int l2] M) fun r1 M1 => (rZ r1 M1)) else (if (jn 2) < l1 then (kI (pcl GG lay d 242 [.ref 1, .int l2] M) fun r1 M1 => (if r1 = jn 0 then (rZ (jn 0) M1) else (kI (pcl GG lay d 64 [.int l1] M1) fun r2 M2 => (if r2 = jn 0 then (rZ (jn 1) M2) else (kI (pcl GG lay d 242 [.ref 1, .int l3] M2) fun r3 M3 => (if r3 = jn 0 then (rZ (jn 0) M3) else (rZ (jn 1) M3))))))) else (rZ (jn 1) M))))) := by
  refine (pcl_un (mt := t_32) (by decide) rfl (Nat.le_of_ble_eq_true rfl)).trans ?_
  show E_32 d (0, [some (.ref 0), some (.int l1), some (.int l2), some (.int l3)], [], M) = _
  refine (evn_adv 1 (q' := (1, [some (.ref 0), some (.int l1), some (.int l2), some (.int l3)], [.int l1], M)) rfl).trans ?_
  refine (e_if_lt (hf := rfl)).trans ?_
  refine ite_in ?_ ?_
  · refine (evn_adv 1 (q' := (11, [some (.ref 0), some (.int l1), some (.int l2), some (.int l3)], [.int (jn 0)], M)) rfl).trans ?_
    exact e_iretz (hf := rfl)
  · refine (evn_adv 2 (q' := (7, [some (.ref 0), some (.int l1), some (.int l2), some (.int l3)], [.int (jn 13), .int l1], M)) rfl).trans ?_
    refine (e_ic_le (hf := rfl)).trans ?_
    refine ite_in ?_ ?_
    · refine (evn_adv 1 (q' := (11, [some (.ref 0), some (.int l1), some (.int l2), some (.int l3)], [.int (jn 0)], M)) rfl).trans ?_
      exact e_iretz (hf := rfl)
    · refine (evn_adv 1 (q' := (13, [some (.ref 0), some (.int l1), some (.int l2), some (.int l3)], [.int l1], M)) rfl).trans ?_
      refine (e_if_ne (hf := rfl)).trans ?_
      refine ite_in ?_ ?_
      · refine (evn_adv 3 (q' := (21, [some (.ref 0), some (.int l1), some (.int l2), some (.int l3)], [.int l2, .ref 1], M)) rfl).trans ?_
        refine (e_kI (q := (21, [some (.ref 0), some (.int l1), some (.int l2), some (.int l3)], [.int l2, .ref 1])) (q2 := (24, [some (.ref 0), some (.int l1), some (.int l2), some (.int l3)], [])) (M := M) (o := (pcl GG lay d 241 [.ref 1, .int l2] M)) (hf := rfl) rfl rfl).trans ?_
        refine kI_in (fun r1 M1 => ?_)
        exact e_iretz (hf := rfl)
      · refine (evn_adv 2 (q' := (27, [some (.ref 0), some (.int l1), some (.int l2), some (.int l3)], [.int (jn 2), .int l1], M)) rfl).trans ?_
        refine (e_ic_gt (hf := rfl)).trans ?_
        refine ite_in ?_ ?_
        · refine (evn_adv 3 (q' := (37, [some (.ref 0), some (.int l1), some (.int l2), some (.int l3)], [.int l2, .ref 1], M)) rfl).trans ?_
          refine (e_kI (q := (37, [some (.ref 0), some (.int l1), some (.int l2), some (.int l3)], [.int l2, .ref 1])) (q2 := (40, [some (.ref 0), some (.int l1), some (.int l2), some (.int l3)], [])) (M := M) (o := (pcl GG lay d 242 [.ref 1, .int l2] M)) (hf := rfl) rfl rfl).trans ?_
          refine kI_in (fun r1 M1 => ?_)
          refine (e_if_eq (hf := rfl)).trans ?_
          refine ite_in ?_ ?_
          · refine (evn_adv 1 (q' := (66, [some (.ref 0), some (.int l1), some (.int l2), some (.int l3)], [.int (jn 0)], M1)) rfl).trans ?_
            exact e_iretz (hf := rfl)
          · refine (evn_adv 1 (q' := (44, [some (.ref 0), some (.int l1), some (.int l2), some (.int l3)], [.int l1], M1)) rfl).trans ?_
            refine (e_kI (q := (44, [some (.ref 0), some (.int l1), some (.int l2), some (.int l3)], [.int l1])) (q2 := (47, [some (.ref 0), some (.int l1), some (.int l2), some (.int l3)], [])) (M := M1) (o := (pcl GG lay d 64 [.int l1] M1)) (hf := rfl) rfl rfl).trans ?_
            refine kI_in (fun r2 M2 => ?_)
            refine (e_if_eq (hf := rfl)).trans ?_
            refine ite_in ?_ ?_
            · refine (evn_adv 2 (q' := (66, [some (.ref 0), some (.int l1), some (.int l2), some (.int l3)], [.int (jn 1)], M2)) rfl).trans ?_
              exact e_iretz (hf := rfl)
            · refine (evn_adv 3 (q' := (55, [some (.ref 0), some (.int l1), some (.int l2), some (.int l3)], [.int l3, .ref 1], M2)) rfl).trans ?_
              refine (e_kI (q := (55, [some (.ref 0), some (.int l1), some (.int l2), some (.int l3)], [.int l3, .ref 1])) (q2 := (58, [some (.ref 0), some (.int l1), some (.int l2), some (.int l3)], [])) (M := M2) (o := (pcl GG lay d 242 [.ref 1, .int l3] M2)) (hf := rfl) rfl rfl).trans ?_
              refine kI_in (fun r3 M3 => ?_)
              refine (e_if_eq (hf := rfl)).trans ?_
              refine ite_in ?_ ?_
              · refine (evn_adv 1 (q' := (66, [some (.ref 0), some (.int l1), some (.int l2), some (.int l3)], [.int (jn 0)], M3)) rfl).trans ?_
                exact e_iretz (hf := rfl)
              · refine (evn_adv 2 (q' := (66, [some (.ref 0), some (.int l1), some (.int l2), some (.int l3)], [.int (jn 1)], M3)) rfl).trans ?_
                exact e_iretz (hf := rfl)
        · refine (evn_adv 1 (q' := (31, [some (.ref 0), some (.int l1), some (.int l2), some (.int l3)], [.int (jn 1)], M)) rfl).trans ?_
          exact e_iretz (hf := rfl)
/-- TermStrategies.strategyOf(II)I -/
noncomputable abbrev E_33 (d : Nat) : PQ → PO := evn (rnn k_33 lay none (pcl GG lay d) 1)
theorem q_33 (d : Nat) (l1 : Int32) (l2 : Int32) (M : PM) : pcl GG lay (d + 1) 33 [.ref 0, .int l1, .int l2] M = (kI (pcl GG lay d 242 [.ref 1, .int l1] M) fun r1 M1 => (if r1 = jn 0 then (kI (pcl GG lay d 56 [.ref 0, .int (jz 5)] M1) fun r2 M2 => (rI r2 M2)) else (if l2 = (jn 0) then (kI (pcl GG lay d 248 [.ref 1, .int l1] M1) fun r2 M2 => (rI r2 M2)) else (if l2 = (jn 1) then (kI (pcl GG lay d 249 [.ref 1, .int l1] M1) fun r2 M2 => (rI r2 M2)) else (if l2 = (jn 2) then (kI (pcl GG lay d 250 [.ref 1, .int l1] M1) fun r2 M2 => (rI r2 M2)) else (kI (pcl GG lay d 56 [.ref 0, .int (jz 5)] M1) fun r2 M2 => (rI r2 M2))))))) := by
  refine (pcl_un (mt := t_33) (by decide) rfl (Nat.le_of_ble_eq_true rfl)).trans ?_
  show E_33 d (0, [some (.ref 0), some (.int l1), some (.int l2)], [], M) = _
  refine (evn_adv 3 (q' := (5, [some (.ref 0), some (.int l1), some (.int l2)], [.int l1, .ref 1], M)) rfl).trans ?_
  refine (e_kI (q := (5, [some (.ref 0), some (.int l1), some (.int l2)], [.int l1, .ref 1])) (q2 := (8, [some (.ref 0), some (.int l1), some (.int l2)], [])) (M := M) (o := (pcl GG lay d 242 [.ref 1, .int l1] M)) (hf := rfl) rfl rfl).trans ?_
  refine kI_in (fun r1 M1 => ?_)
  refine (e_if_ne (hf := rfl)).trans ?_
  refine ite_in ?_ ?_
  · refine (evn_adv 2 (q' := (14, [some (.ref 0), some (.int l1), some (.int l2)], [.int (jz 5), .ref 0], M1)) rfl).trans ?_
    refine (e_kI (q := (14, [some (.ref 0), some (.int l1), some (.int l2)], [.int (jz 5), .ref 0])) (q2 := (17, [some (.ref 0), some (.int l1), some (.int l2)], [])) (M := M1) (o := (pcl GG lay d 56 [.ref 0, .int (jz 5)] M1)) (hf := rfl) rfl rfl).trans ?_
    refine kI_in (fun r2 M2 => ?_)
    exact evn_end 1 rfl
  · refine (evn_adv 1 (q' := (19, [some (.ref 0), some (.int l1), some (.int l2)], [.int l2], M1)) rfl).trans ?_
    refine (e_sw0 (dflt := 71) (lo := ((0 : Nat) : Int)) (ts := [44, 53, 62]) (hf := rfl) rfl).trans ?_
    refine sw_cons (lo := 0) (F := fun pc => E_33 d (pc, [some (.ref 0), some (.int l1), some (.int l2)], [], M1)) (by decide) ?_ ?_
    · refine (evn_adv 3 (q' := (49, [some (.ref 0), some (.int l1), some (.int l2)], [.int l1, .ref 1], M1)) rfl).trans ?_
      refine (e_kI (q := (49, [some (.ref 0), some (.int l1), some (.int l2)], [.int l1, .ref 1])) (q2 := (52, [some (.ref 0), some (.int l1), some (.int l2)], [])) (M := M1) (o := (pcl GG lay d 248 [.ref 1, .int l1] M1)) (hf := rfl) rfl rfl).trans ?_
      refine kI_in (fun r2 M2 => ?_)
      exact evn_end 1 rfl
    refine sw_cons (lo := 1) (F := fun pc => E_33 d (pc, [some (.ref 0), some (.int l1), some (.int l2)], [], M1)) (by decide) ?_ ?_
    · refine (evn_adv 3 (q' := (58, [some (.ref 0), some (.int l1), some (.int l2)], [.int l1, .ref 1], M1)) rfl).trans ?_
      refine (e_kI (q := (58, [some (.ref 0), some (.int l1), some (.int l2)], [.int l1, .ref 1])) (q2 := (61, [some (.ref 0), some (.int l1), some (.int l2)], [])) (M := M1) (o := (pcl GG lay d 249 [.ref 1, .int l1] M1)) (hf := rfl) rfl rfl).trans ?_
      refine kI_in (fun r2 M2 => ?_)
      exact evn_end 1 rfl
    refine sw_cons (lo := 2) (F := fun pc => E_33 d (pc, [some (.ref 0), some (.int l1), some (.int l2)], [], M1)) (by decide) ?_ ?_
    · refine (evn_adv 3 (q' := (67, [some (.ref 0), some (.int l1), some (.int l2)], [.int l1, .ref 1], M1)) rfl).trans ?_
      refine (e_kI (q := (67, [some (.ref 0), some (.int l1), some (.int l2)], [.int l1, .ref 1])) (q2 := (70, [some (.ref 0), some (.int l1), some (.int l2)], [])) (M := M1) (o := (pcl GG lay d 250 [.ref 1, .int l1] M1)) (hf := rfl) rfl rfl).trans ?_
      refine kI_in (fun r2 M2 => ?_)
      exact evn_end 1 rfl
    show E_33 d (71, [some (.ref 0), some (.int l1), some (.int l2)], [], M1) = _
    refine (evn_adv 2 (q' := (74, [some (.ref 0), some (.int l1), some (.int l2)], [.int (jz 5), .ref 0], M1)) rfl).trans ?_
    refine (e_kI (q := (74, [some (.ref 0), some (.int l1), some (.int l2)], [.int (jz 5), .ref 0])) (q2 := (77, [some (.ref 0), some (.int l1), some (.int l2)], [])) (M := M1) (o := (pcl GG lay d 56 [.ref 0, .int (jz 5)] M1)) (hf := rfl) rfl rfl).trans ?_
    refine kI_in (fun r2 M2 => ?_)
    exact evn_end 1 rfl
/-- TermStrategies.run(II)I -/
noncomputable abbrev E_34 (d : Nat) : PQ → PO := evn (rnn k_34 lay none (pcl GG lay d) 1)
theorem q_34 (d : Nat) (l1 : Int32) (l2 : Int32) (M : PM) : pcl GG lay (d + 1) 34 [.ref 0, .int l1, .int l2] M = (kI (pcl GG lay d 242 [.ref 1, .int l1] M) fun r1 M1 => (if r1 = jn 0 then (kI (pcl GG lay d 56 [.ref 0, .int (jz 1)] M1) fun r2 M2 => (rI r2 M2)) else (kI (pcl GG lay d 240 [.ref 1, .int l2] M1) fun r2 M2 => (if r2 = jn 0 then (kI (pcl GG lay d 56 [.ref 0, .int (jz 1)] M2) fun r3 M3 => (rI r3 M3)) else (kV (pcl GG lay d 199 [.ref 29] M2) fun M3 => (kI (pcl GG lay d 59 [.int l2] M3) fun r4 M4 => (kI (pcl GG lay d 200 [.ref 29, .int l1, .int r4] M4) fun r5 M5 => (if r5 = (jz 1) then (kI (pcl GG lay d 56 [.ref 0, .int (jz 6)] M5) fun r6 M6 => (rI r6 M6)) else (if r5 = (jz 2) then (kI (pcl GG lay d 56 [.ref 0, .int (jz 7)] M5) fun r6 M6 => (rI r6 M6)) else (if (M5.1 1 5) < (jn 24) then (kV (pcl GG lay d 258 [.ref 48, .ref 30] M5) fun M6 => (kI (pcl GG lay d 243 [.ref 1, .int r5] M6) fun r7 M7 => (rI r7 M7))) else (kI (pcl GG lay d 56 [.ref 0, .int (jz 7)] M5) fun r6 M6 => (rI r6 M6)))))))))))) := by
  refine (pcl_un (mt := t_34) (by decide) rfl (Nat.le_of_ble_eq_true rfl)).trans ?_
  show E_34 d (0, [some (.ref 0), some (.int l1), some (.int l2), none], [], M) = _
  refine (evn_adv 3 (q' := (5, [some (.ref 0), some (.int l1), some (.int l2), none], [.int l1, .ref 1], M)) rfl).trans ?_
  refine (e_kI (q := (5, [some (.ref 0), some (.int l1), some (.int l2), none], [.int l1, .ref 1])) (q2 := (8, [some (.ref 0), some (.int l1), some (.int l2), none], [])) (M := M) (o := (pcl GG lay d 242 [.ref 1, .int l1] M)) (hf := rfl) rfl rfl).trans ?_
  refine kI_in (fun r1 M1 => ?_)
  refine (e_if_eq (hf := rfl)).trans ?_
  refine ite_in ?_ ?_
  · refine (evn_adv 2 (q' := (24, [some (.ref 0), some (.int l1), some (.int l2), none], [.int (jz 1), .ref 0], M1)) rfl).trans ?_
    refine (e_kI (q := (24, [some (.ref 0), some (.int l1), some (.int l2), none], [.int (jz 1), .ref 0])) (q2 := (27, [some (.ref 0), some (.int l1), some (.int l2), none], [])) (M := M1) (o := (pcl GG lay d 56 [.ref 0, .int (jz 1)] M1)) (hf := rfl) rfl rfl).trans ?_
    refine kI_in (fun r2 M2 => ?_)
    exact evn_end 1 rfl
  · refine (evn_adv 3 (q' := (16, [some (.ref 0), some (.int l1), some (.int l2), none], [.int l2, .ref 1], M1)) rfl).trans ?_
    refine (e_kI (q := (16, [some (.ref 0), some (.int l1), some (.int l2), none], [.int l2, .ref 1])) (q2 := (19, [some (.ref 0), some (.int l1), some (.int l2), none], [])) (M := M1) (o := (pcl GG lay d 240 [.ref 1, .int l2] M1)) (hf := rfl) rfl rfl).trans ?_
    refine kI_in (fun r2 M2 => ?_)
    refine (e_if_ne (hf := rfl)).trans ?_
    refine ite_in ?_ ?_
    · refine (evn_adv 2 (q' := (24, [some (.ref 0), some (.int l1), some (.int l2), none], [.int (jz 1), .ref 0], M2)) rfl).trans ?_
      refine (e_kI (q := (24, [some (.ref 0), some (.int l1), some (.int l2), none], [.int (jz 1), .ref 0])) (q2 := (27, [some (.ref 0), some (.int l1), some (.int l2), none], [])) (M := M2) (o := (pcl GG lay d 56 [.ref 0, .int (jz 1)] M2)) (hf := rfl) rfl rfl).trans ?_
      refine kI_in (fun r3 M3 => ?_)
      exact evn_end 1 rfl
    · refine (evn_adv 2 (q' := (32, [some (.ref 0), some (.int l1), some (.int l2), none], [.ref 29], M2)) rfl).trans ?_
      refine (e_kV (q := (32, [some (.ref 0), some (.int l1), some (.int l2), none], [.ref 29])) (q2 := (35, [some (.ref 0), some (.int l1), some (.int l2), none], [])) (M := M2) (o := (pcl GG lay d 199 [.ref 29] M2)) (hf := rfl) rfl rfl).trans ?_
      refine kV_in (fun M3 => ?_)
      refine (evn_adv 4 (q' := (41, [some (.ref 0), some (.int l1), some (.int l2), none], [.int l2, .int l1, .ref 29], M3)) rfl).trans ?_
      refine (e_kI (q := (41, [some (.ref 0), some (.int l1), some (.int l2), none], [.int l2, .int l1, .ref 29])) (q2 := (44, [some (.ref 0), some (.int l1), some (.int l2), none], [.int l1, .ref 29])) (M := M3) (o := (pcl GG lay d 59 [.int l2] M3)) (hf := rfl) rfl rfl).trans ?_
      refine kI_in (fun r4 M4 => ?_)
      refine (e_kI (q := (44, [some (.ref 0), some (.int l1), some (.int l2), none], [.int r4, .int l1, .ref 29])) (q2 := (47, [some (.ref 0), some (.int l1), some (.int l2), none], [])) (M := M4) (o := (pcl GG lay d 200 [.ref 29, .int l1, .int r4] M4)) (hf := rfl) rfl rfl).trans ?_
      refine kI_in (fun r5 M5 => ?_)
      refine (evn_adv 3 (q' := (50, [some (.ref 0), some (.int l1), some (.int l2), some (.int r5)], [.int (jz 1), .int r5], M5)) rfl).trans ?_
      refine (e_ic_ne (hf := rfl)).trans ?_
      refine ite_in ?_ ?_
      · refine (evn_adv 2 (q' := (56, [some (.ref 0), some (.int l1), some (.int l2), some (.int r5)], [.int (jz 6), .ref 0], M5)) rfl).trans ?_
        refine (e_kI (q := (56, [some (.ref 0), some (.int l1), some (.int l2), some (.int r5)], [.int (jz 6), .ref 0])) (q2 := (59, [some (.ref 0), some (.int l1), some (.int l2), some (.int r5)], [])) (M := M5) (o := (pcl GG lay d 56 [.ref 0, .int (jz 6)] M5)) (hf := rfl) rfl rfl).trans ?_
        refine kI_in (fun r6 M6 => ?_)
        exact evn_end 1 rfl
      · refine (evn_adv 2 (q' := (63, [some (.ref 0), some (.int l1), some (.int l2), some (.int r5)], [.int (jz 2), .int r5], M5)) rfl).trans ?_
        refine (e_ic_eq (hf := rfl)).trans ?_
        refine ite_in ?_ ?_
        · refine (evn_adv 2 (q' := (81, [some (.ref 0), some (.int l1), some (.int l2), some (.int r5)], [.int (jz 7), .ref 0], M5)) rfl).trans ?_
          refine (e_kI (q := (81, [some (.ref 0), some (.int l1), some (.int l2), some (.int r5)], [.int (jz 7), .ref 0])) (q2 := (84, [some (.ref 0), some (.int l1), some (.int l2), some (.int r5)], [])) (M := M5) (o := (pcl GG lay d 56 [.ref 0, .int (jz 7)] M5)) (hf := rfl) rfl rfl).trans ?_
          refine kI_in (fun r6 M6 => ?_)
          exact evn_end 1 rfl
        · refine (evn_adv 4 (q' := (75, [some (.ref 0), some (.int l1), some (.int l2), some (.int r5)], [.int (jn 24), .int (M5.1 1 5)], M5)) rfl).trans ?_
          refine (e_ic_lt (hf := rfl)).trans ?_
          refine ite_in ?_ ?_
          · refine (evn_adv 5 (q' := (96, [some (.ref 0), some (.int l1), some (.int l2), some (.int r5)], [.ref 30, .ref 48], M5)) rfl).trans ?_
            refine (e_kV (q := (96, [some (.ref 0), some (.int l1), some (.int l2), some (.int r5)], [.ref 30, .ref 48])) (q2 := (99, [some (.ref 0), some (.int l1), some (.int l2), some (.int r5)], [])) (M := M5) (o := (pcl GG lay d 258 [.ref 48, .ref 30] M5)) (hf := rfl) rfl rfl).trans ?_
            refine kV_in (fun M6 => ?_)
            refine (evn_adv 3 (q' := (104, [some (.ref 0), some (.int l1), some (.int l2), some (.int r5)], [.int r5, .ref 1], M6)) rfl).trans ?_
            refine (e_kI (q := (104, [some (.ref 0), some (.int l1), some (.int l2), some (.int r5)], [.int r5, .ref 1])) (q2 := (107, [some (.ref 0), some (.int l1), some (.int l2), some (.int r5)], [])) (M := M6) (o := (pcl GG lay d 243 [.ref 1, .int r5] M6)) (hf := rfl) rfl rfl).trans ?_
            refine kI_in (fun r7 M7 => ?_)
            exact evn_end 1 rfl
          · refine (evn_adv 2 (q' := (81, [some (.ref 0), some (.int l1), some (.int l2), some (.int r5)], [.int (jz 7), .ref 0], M5)) rfl).trans ?_
            refine (e_kI (q := (81, [some (.ref 0), some (.int l1), some (.int l2), some (.int r5)], [.int (jz 7), .ref 0])) (q2 := (84, [some (.ref 0), some (.int l1), some (.int l2), some (.int r5)], [])) (M := M5) (o := (pcl GG lay d 56 [.ref 0, .int (jz 7)] M5)) (hf := rfl) rfl rfl).trans ?_
            refine kI_in (fun r6 M6 => ?_)
            exact evn_end 1 rfl
/-- TermStrategies.trial(III)I -/
noncomputable abbrev E_35 (d : Nat) : PQ → PO := evn (rnn k_35 lay none (pcl GG lay d) 1)
theorem q_35 (d : Nat) (l1 : Int32) (l2 : Int32) (l3 : Int32) (M : PM) : pcl GG lay (d + 1) 35 [.ref 0, .int l1, .int l2, .int l3] M = (kI (pcl GG lay d 242 [.ref 1, .int l1] M) fun r1 M1 => (if r1 = jn 0 then (kI (pcl GG lay d 56 [.ref 0, .int (jz 1)] M1) fun r2 M2 => (rI r2 M2)) else (kI (pcl GG lay d 240 [.ref 1, .int l2] M1) fun r2 M2 => (if r2 = jn 0 then (kI (pcl GG lay d 56 [.ref 0, .int (jz 1)] M2) fun r3 M3 => (rI r3 M3)) else (if l3 < jn 0 then (kI (pcl GG lay d 56 [.ref 0, .int (jz 5)] M2) fun r3 M3 => (rI r3 M3)) else (if (jn 2) < l3 then (kI (pcl GG lay d 56 [.ref 0, .int (jz 5)] M2) fun r3 M3 => (rI r3 M3)) else (kV (pcl GG lay d 199 [.ref 29] M2) fun M3 => (kI (pcl GG lay d 59 [.int l2] M3) fun r4 M4 => (kI (pcl GG lay d 200 [.ref 29, .int l1, .int r4] M4) fun r5 M5 => (if l3 = jn 0 then (if r5 = (jz 1) then (rI (jn 1) M5) else (if r5 = (jz 2) then (rI (jn 2) M5) else (rI (jn 0) M5))) else (if r5 < jn 0 then (rI (jn 0) M5) else (if l3 = (jn 1) then (kI (pcl GG lay d 234 [.ref 6, .int r5] M5) fun r6 M6 => (rI r6 M6)) else (rI (M5.1 30 2) M5))))))))))))) := by
  refine (pcl_un (mt := t_35) (by decide) rfl (Nat.le_of_ble_eq_true rfl)).trans ?_
  show E_35 d (0, [some (.ref 0), some (.int l1), some (.int l2), some (.int l3), none], [], M) = _
  refine (evn_adv 3 (q' := (5, [some (.ref 0), some (.int l1), some (.int l2), some (.int l3), none], [.int l1, .ref 1], M)) rfl).trans ?_
  refine (e_kI (q := (5, [some (.ref 0), some (.int l1), some (.int l2), some (.int l3), none], [.int l1, .ref 1])) (q2 := (8, [some (.ref 0), some (.int l1), some (.int l2), some (.int l3), none], [])) (M := M) (o := (pcl GG lay d 242 [.ref 1, .int l1] M)) (hf := rfl) rfl rfl).trans ?_
  refine kI_in (fun r1 M1 => ?_)
  refine (e_if_eq (hf := rfl)).trans ?_
  refine ite_in ?_ ?_
  · refine (evn_adv 2 (q' := (24, [some (.ref 0), some (.int l1), some (.int l2), some (.int l3), none], [.int (jz 1), .ref 0], M1)) rfl).trans ?_
    refine (e_kI (q := (24, [some (.ref 0), some (.int l1), some (.int l2), some (.int l3), none], [.int (jz 1), .ref 0])) (q2 := (27, [some (.ref 0), some (.int l1), some (.int l2), some (.int l3), none], [])) (M := M1) (o := (pcl GG lay d 56 [.ref 0, .int (jz 1)] M1)) (hf := rfl) rfl rfl).trans ?_
    refine kI_in (fun r2 M2 => ?_)
    exact evn_end 1 rfl
  · refine (evn_adv 3 (q' := (16, [some (.ref 0), some (.int l1), some (.int l2), some (.int l3), none], [.int l2, .ref 1], M1)) rfl).trans ?_
    refine (e_kI (q := (16, [some (.ref 0), some (.int l1), some (.int l2), some (.int l3), none], [.int l2, .ref 1])) (q2 := (19, [some (.ref 0), some (.int l1), some (.int l2), some (.int l3), none], [])) (M := M1) (o := (pcl GG lay d 240 [.ref 1, .int l2] M1)) (hf := rfl) rfl rfl).trans ?_
    refine kI_in (fun r2 M2 => ?_)
    refine (e_if_ne (hf := rfl)).trans ?_
    refine ite_in ?_ ?_
    · refine (evn_adv 2 (q' := (24, [some (.ref 0), some (.int l1), some (.int l2), some (.int l3), none], [.int (jz 1), .ref 0], M2)) rfl).trans ?_
      refine (e_kI (q := (24, [some (.ref 0), some (.int l1), some (.int l2), some (.int l3), none], [.int (jz 1), .ref 0])) (q2 := (27, [some (.ref 0), some (.int l1), some (.int l2), some (.int l3), none], [])) (M := M2) (o := (pcl GG lay d 56 [.ref 0, .int (jz 1)] M2)) (hf := rfl) rfl rfl).trans ?_
      refine kI_in (fun r3 M3 => ?_)
      exact evn_end 1 rfl
    · refine (evn_adv 1 (q' := (29, [some (.ref 0), some (.int l1), some (.int l2), some (.int l3), none], [.int l3], M2)) rfl).trans ?_
      refine (e_if_lt (hf := rfl)).trans ?_
      refine ite_in ?_ ?_
      · refine (evn_adv 2 (q' := (40, [some (.ref 0), some (.int l1), some (.int l2), some (.int l3), none], [.int (jz 5), .ref 0], M2)) rfl).trans ?_
        refine (e_kI (q := (40, [some (.ref 0), some (.int l1), some (.int l2), some (.int l3), none], [.int (jz 5), .ref 0])) (q2 := (43, [some (.ref 0), some (.int l1), some (.int l2), some (.int l3), none], [])) (M := M2) (o := (pcl GG lay d 56 [.ref 0, .int (jz 5)] M2)) (hf := rfl) rfl rfl).trans ?_
        refine kI_in (fun r3 M3 => ?_)
        exact evn_end 1 rfl
      · refine (evn_adv 2 (q' := (34, [some (.ref 0), some (.int l1), some (.int l2), some (.int l3), none], [.int (jn 2), .int l3], M2)) rfl).trans ?_
        refine (e_ic_le (hf := rfl)).trans ?_
        refine ite_in ?_ ?_
        · refine (evn_adv 2 (q' := (40, [some (.ref 0), some (.int l1), some (.int l2), some (.int l3), none], [.int (jz 5), .ref 0], M2)) rfl).trans ?_
          refine (e_kI (q := (40, [some (.ref 0), some (.int l1), some (.int l2), some (.int l3), none], [.int (jz 5), .ref 0])) (q2 := (43, [some (.ref 0), some (.int l1), some (.int l2), some (.int l3), none], [])) (M := M2) (o := (pcl GG lay d 56 [.ref 0, .int (jz 5)] M2)) (hf := rfl) rfl rfl).trans ?_
          refine kI_in (fun r3 M3 => ?_)
          exact evn_end 1 rfl
        · refine (evn_adv 2 (q' := (48, [some (.ref 0), some (.int l1), some (.int l2), some (.int l3), none], [.ref 29], M2)) rfl).trans ?_
          refine (e_kV (q := (48, [some (.ref 0), some (.int l1), some (.int l2), some (.int l3), none], [.ref 29])) (q2 := (51, [some (.ref 0), some (.int l1), some (.int l2), some (.int l3), none], [])) (M := M2) (o := (pcl GG lay d 199 [.ref 29] M2)) (hf := rfl) rfl rfl).trans ?_
          refine kV_in (fun M3 => ?_)
          refine (evn_adv 4 (q' := (57, [some (.ref 0), some (.int l1), some (.int l2), some (.int l3), none], [.int l2, .int l1, .ref 29], M3)) rfl).trans ?_
          refine (e_kI (q := (57, [some (.ref 0), some (.int l1), some (.int l2), some (.int l3), none], [.int l2, .int l1, .ref 29])) (q2 := (60, [some (.ref 0), some (.int l1), some (.int l2), some (.int l3), none], [.int l1, .ref 29])) (M := M3) (o := (pcl GG lay d 59 [.int l2] M3)) (hf := rfl) rfl rfl).trans ?_
          refine kI_in (fun r4 M4 => ?_)
          refine (e_kI (q := (60, [some (.ref 0), some (.int l1), some (.int l2), some (.int l3), none], [.int r4, .int l1, .ref 29])) (q2 := (63, [some (.ref 0), some (.int l1), some (.int l2), some (.int l3), none], [])) (M := M4) (o := (pcl GG lay d 200 [.ref 29, .int l1, .int r4] M4)) (hf := rfl) rfl rfl).trans ?_
          refine kI_in (fun r5 M5 => ?_)
          refine (evn_adv 2 (q' := (66, [some (.ref 0), some (.int l1), some (.int l2), some (.int l3), some (.int r5)], [.int l3], M5)) rfl).trans ?_
          refine (e_if_ne (hf := rfl)).trans ?_
          refine ite_in ?_ ?_
          · refine (evn_adv 2 (q' := (72, [some (.ref 0), some (.int l1), some (.int l2), some (.int l3), some (.int r5)], [.int (jz 1), .int r5], M5)) rfl).trans ?_
            refine (e_ic_ne (hf := rfl)).trans ?_
            refine ite_in ?_ ?_
            · refine (evn_adv 2 (q' := (91, [some (.ref 0), some (.int l1), some (.int l2), some (.int l3), some (.int r5)], [.int (jn 1)], M5)) rfl).trans ?_
              exact evn_end 1 rfl
            · refine (evn_adv 2 (q' := (83, [some (.ref 0), some (.int l1), some (.int l2), some (.int l3), some (.int r5)], [.int (jz 2), .int r5], M5)) rfl).trans ?_
              refine (e_ic_ne (hf := rfl)).trans ?_
              refine ite_in ?_ ?_
              · refine (evn_adv 2 (q' := (91, [some (.ref 0), some (.int l1), some (.int l2), some (.int l3), some (.int r5)], [.int (jn 2)], M5)) rfl).trans ?_
                exact evn_end 1 rfl
              · refine (evn_adv 1 (q' := (91, [some (.ref 0), some (.int l1), some (.int l2), some (.int l3), some (.int r5)], [.int (jn 0)], M5)) rfl).trans ?_
                exact evn_end 1 rfl
          · refine (evn_adv 1 (q' := (94, [some (.ref 0), some (.int l1), some (.int l2), some (.int l3), some (.int r5)], [.int r5], M5)) rfl).trans ?_
            refine (e_if_ge (hf := rfl)).trans ?_
            refine ite_in ?_ ?_
            · refine (evn_adv 1 (q' := (98, [some (.ref 0), some (.int l1), some (.int l2), some (.int l3), some (.int r5)], [.int (jn 0)], M5)) rfl).trans ?_
              exact evn_end 1 rfl
            · refine (evn_adv 2 (q' := (101, [some (.ref 0), some (.int l1), some (.int l2), some (.int l3), some (.int r5)], [.int (jn 1), .int l3], M5)) rfl).trans ?_
              refine (e_ic_ne (hf := rfl)).trans ?_
              refine ite_in ?_ ?_
              · refine (evn_adv 3 (q' := (110, [some (.ref 0), some (.int l1), some (.int l2), some (.int l3), some (.int r5)], [.int r5, .ref 6], M5)) rfl).trans ?_
                refine (e_kI (q := (110, [some (.ref 0), some (.int l1), some (.int l2), some (.int l3), some (.int r5)], [.int r5, .ref 6])) (q2 := (113, [some (.ref 0), some (.int l1), some (.int l2), some (.int l3), some (.int r5)], [])) (M := M5) (o := (pcl GG lay d 234 [.ref 6, .int r5] M5)) (hf := rfl) rfl rfl).trans ?_
                refine kI_in (fun r6 M6 => ?_)
                refine (evn_adv 1 (q' := (126, [some (.ref 0), some (.int l1), some (.int l2), some (.int l3), some (.int r5)], [.int r6], M6)) rfl).trans ?_
                exact evn_end 1 rfl
              · refine (evn_adv 4 (q' := (126, [some (.ref 0), some (.int l1), some (.int l2), some (.int l3), some (.int r5)], [.int (M5.1 30 2)], M5)) rfl).trans ?_
                exact evn_end 1 rfl
/-- TermStrategies.trace(I)I -/
noncomputable abbrev E_36 (d : Nat) : PQ → PO := evn (rnn k_36 lay none (pcl GG lay d) 1)
theorem q_36 (d : Nat) (l1 : Int32) (M : PM) : pcl GG lay (d + 1) 36 [.ref 0, .int l1] M = (kI (pcl GG lay d 256 [.ref 48, .int l1] M) fun r1 M1 => (rI r1 M1)) := by
  refine (pcl_un (mt := t_36) (by decide) rfl (Nat.le_of_ble_eq_true rfl)).trans ?_
  show E_36 d (0, [some (.ref 0), some (.int l1)], [], M) = _
  refine (evn_adv 3 (q' := (5, [some (.ref 0), some (.int l1)], [.int l1, .ref 48], M)) rfl).trans ?_
  refine (e_kI (q := (5, [some (.ref 0), some (.int l1)], [.int l1, .ref 48])) (q2 := (8, [some (.ref 0), some (.int l1)], [])) (M := M) (o := (pcl GG lay d 256 [.ref 48, .int l1] M)) (hf := rfl) rfl rfl).trans ?_
  refine kI_in (fun r1 M1 => ?_)
  exact evn_end 1 rfl
/-- TermStrategies.tracePath(I)J -/
noncomputable abbrev E_37 (d : Nat) : PQ → PO := evn (rnn k_37 lay none (pcl GG lay d) 3)
theorem q_37 (d : Nat) (l1 : Int32) (M : PM) : pcl GG lay (d + 1) 37 [.ref 0, .int l1] M = (kL (pcl GG lay d 257 [.ref 48, .int l1] M) fun r1 M1 => (rL r1 M1)) := by
  refine (pcl_un (mt := t_37) (by decide) rfl (Nat.le_of_ble_eq_true rfl)).trans ?_
  show E_37 d (0, [some (.ref 0), some (.int l1)], [], M) = _
  refine (evn_adv 3 (q' := (5, [some (.ref 0), some (.int l1)], [.int l1, .ref 48], M)) rfl).trans ?_
  refine (e_kL (q := (5, [some (.ref 0), some (.int l1)], [.int l1, .ref 48])) (q2 := (8, [some (.ref 0), some (.int l1)], [])) (M := M) (o := (pcl GG lay d 257 [.ref 48, .int l1] M)) (hf := rfl) rfl rfl).trans ?_
  refine kL_in (fun r1 M1 => ?_)
  exact evn_end 1 rfl
/-- TermStrategies.replay(II)I -/
noncomputable abbrev E_38 (d : Nat) : PQ → PO := evn (rnn k_38 lay none (pcl GG lay d) 1)
theorem q_38 (d : Nat) (l1 : Int32) (l2 : Int32) (M : PM) : pcl GG lay (d + 1) 38 [.ref 0, .int l1, .int l2] M = (kI (pcl GG lay d 240 [.ref 1, .int l1] M) fun r1 M1 => (if r1 = jn 0 then (kI (pcl GG lay d 56 [.ref 0, .int (jz 1)] M1) fun r2 M2 => (rI r2 M2)) else (if l2 < jn 0 then (kI (pcl GG lay d 56 [.ref 0, .int (jz 5)] M1) fun r2 M2 => (rI r2 M2)) else (if (M1.1 48 2) < l2 then (kI (pcl GG lay d 56 [.ref 0, .int (jz 5)] M1) fun r2 M2 => (rI r2 M2)) else (kI (pcl GG lay d 59 [.int l1] M1) fun r2 M2 => (kI (pcl GG lay d 237 [.ref 6, .int r2, .int (jn 1960)] M2) fun r3 M3 => E_38 d (56, [some (.ref 0), some (.int l1), some (.int l2), some (.int (jn 0)), none], [], M3))))))) := by
  refine (pcl_un (mt := t_38) (by decide) rfl (Nat.le_of_ble_eq_true rfl)).trans ?_
  show E_38 d (0, [some (.ref 0), some (.int l1), some (.int l2), none, none], [], M) = _
  refine (evn_adv 3 (q' := (5, [some (.ref 0), some (.int l1), some (.int l2), none, none], [.int l1, .ref 1], M)) rfl).trans ?_
  refine (e_kI (q := (5, [some (.ref 0), some (.int l1), some (.int l2), none, none], [.int l1, .ref 1])) (q2 := (8, [some (.ref 0), some (.int l1), some (.int l2), none, none], [])) (M := M) (o := (pcl GG lay d 240 [.ref 1, .int l1] M)) (hf := rfl) rfl rfl).trans ?_
  refine kI_in (fun r1 M1 => ?_)
  refine (e_if_ne (hf := rfl)).trans ?_
  refine ite_in ?_ ?_
  · refine (evn_adv 2 (q' := (13, [some (.ref 0), some (.int l1), some (.int l2), none, none], [.int (jz 1), .ref 0], M1)) rfl).trans ?_
    refine (e_kI (q := (13, [some (.ref 0), some (.int l1), some (.int l2), none, none], [.int (jz 1), .ref 0])) (q2 := (16, [some (.ref 0), some (.int l1), some (.int l2), none, none], [])) (M := M1) (o := (pcl GG lay d 56 [.ref 0, .int (jz 1)] M1)) (hf := rfl) rfl rfl).trans ?_
    refine kI_in (fun r2 M2 => ?_)
    exact evn_end 1 rfl
  · refine (evn_adv 1 (q' := (18, [some (.ref 0), some (.int l1), some (.int l2), none, none], [.int l2], M1)) rfl).trans ?_
    refine (e_if_lt (hf := rfl)).trans ?_
    refine ite_in ?_ ?_
    · refine (evn_adv 2 (q' := (35, [some (.ref 0), some (.int l1), some (.int l2), none, none], [.int (jz 5), .ref 0], M1)) rfl).trans ?_
      refine (e_kI (q := (35, [some (.ref 0), some (.int l1), some (.int l2), none, none], [.int (jz 5), .ref 0])) (q2 := (38, [some (.ref 0), some (.int l1), some (.int l2), none, none], [])) (M := M1) (o := (pcl GG lay d 56 [.ref 0, .int (jz 5)] M1)) (hf := rfl) rfl rfl).trans ?_
      refine kI_in (fun r2 M2 => ?_)
      exact evn_end 1 rfl
    · refine (evn_adv 4 (q' := (29, [some (.ref 0), some (.int l1), some (.int l2), none, none], [.int (M1.1 48 2), .int l2], M1)) rfl).trans ?_
      refine (e_ic_le (hf := rfl)).trans ?_
      refine ite_in ?_ ?_
      · refine (evn_adv 2 (q' := (35, [some (.ref 0), some (.int l1), some (.int l2), none, none], [.int (jz 5), .ref 0], M1)) rfl).trans ?_
        refine (e_kI (q := (35, [some (.ref 0), some (.int l1), some (.int l2), none, none], [.int (jz 5), .ref 0])) (q2 := (38, [some (.ref 0), some (.int l1), some (.int l2), none, none], [])) (M := M1) (o := (pcl GG lay d 56 [.ref 0, .int (jz 5)] M1)) (hf := rfl) rfl rfl).trans ?_
        refine kI_in (fun r2 M2 => ?_)
        exact evn_end 1 rfl
      · refine (evn_adv 3 (q' := (44, [some (.ref 0), some (.int l1), some (.int l2), none, none], [.int l1, .ref 6], M1)) rfl).trans ?_
        refine (e_kI (q := (44, [some (.ref 0), some (.int l1), some (.int l2), none, none], [.int l1, .ref 6])) (q2 := (47, [some (.ref 0), some (.int l1), some (.int l2), none, none], [.ref 6])) (M := M1) (o := (pcl GG lay d 59 [.int l1] M1)) (hf := rfl) rfl rfl).trans ?_
        refine kI_in (fun r2 M2 => ?_)
        refine (evn_adv 1 (q' := (50, [some (.ref 0), some (.int l1), some (.int l2), none, none], [.int (jn 1960), .int r2, .ref 6], M2)) rfl).trans ?_
        refine (e_kI (q := (50, [some (.ref 0), some (.int l1), some (.int l2), none, none], [.int (jn 1960), .int r2, .ref 6])) (q2 := (53, [some (.ref 0), some (.int l1), some (.int l2), none, none], [])) (M := M2) (o := (pcl GG lay d 237 [.ref 6, .int r2, .int (jn 1960)] M2)) (hf := rfl) rfl rfl).trans ?_
        refine kI_in (fun r3 M3 => ?_)
        refine (evn_adv 3 (q' := (56, [some (.ref 0), some (.int l1), some (.int l2), some (.int (jn 0)), none], [], M3)) rfl).trans ?_
        rfl
theorem h_38_56 (d : Nat) (u1 : Option Value) (l2 : Int32) (l3 : Int32) (u4 : Option Value) (M : PM) : E_38 d (56, [some (.ref 0), u1, some (.int l2), some (.int l3), u4], [], M) = (if l3 < l2 then (kI (pcl GG lay d 256 [.ref 48, .int l3] M) fun r1 M1 => (kL (pcl GG lay d 257 [.ref 48, .int l3] M1) fun r2 M2 => (kI (pcl GG lay d 39 [.ref 0, .int r1, .long r2] M2) fun r3 M3 => (if r3 = jn 0 then E_38 d (56, [some (.ref 0), u1, some (.int l2), some (.int (l3 + (jn 1))), some (.int r3)], [], M3) else (kI (pcl GG lay d 56 [.ref 0, .int r3] M3) fun r4 M4 => (rI r4 M4)))))) else (kI (pcl GG lay d 57 [.ref 0, .int (jn 1960)] M) fun r1 M1 => (rI r1 M1))) := by
  refine (evn_adv 2 (q' := (58, [some (.ref 0), u1, some (.int l2), some (.int l3), u4], [.int l2, .int l3], M)) rfl).trans ?_
  refine (e_ic_ge (hf := rfl)).trans ?_
  refine ite_in ?_ ?_
  · refine (evn_adv 4 (q' := (67, [some (.ref 0), u1, some (.int l2), some (.int l3), u4], [.int l3, .ref 48, .ref 0], M)) rfl).trans ?_
    refine (e_kI (q := (67, [some (.ref 0), u1, some (.int l2), some (.int l3), u4], [.int l3, .ref 48, .ref 0])) (q2 := (70, [some (.ref 0), u1, some (.int l2), some (.int l3), u4], [.ref 0])) (M := M) (o := (pcl GG lay d 256 [.ref 48, .int l3] M)) (hf := rfl) rfl rfl).trans ?_
    refine kI_in (fun r1 M1 => ?_)
    refine (evn_adv 3 (q' := (75, [some (.ref 0), u1, some (.int l2), some (.int l3), u4], [.int l3, .ref 48, .int r1, .ref 0], M1)) rfl).trans ?_
    refine (e_kL (q := (75, [some (.ref 0), u1, some (.int l2), some (.int l3), u4], [.int l3, .ref 48, .int r1, .ref 0])) (q2 := (78, [some (.ref 0), u1, some (.int l2), some (.int l3), u4], [.int r1, .ref 0])) (M := M1) (o := (pcl GG lay d 257 [.ref 48, .int l3] M1)) (hf := rfl) rfl rfl).trans ?_
    refine kL_in (fun r2 M2 => ?_)
    refine (e_kI (q := (78, [some (.ref 0), u1, some (.int l2), some (.int l3), u4], [.long r2, .int r1, .ref 0])) (q2 := (81, [some (.ref 0), u1, some (.int l2), some (.int l3), u4], [])) (M := M2) (o := (pcl GG lay d 39 [.ref 0, .int r1, .long r2] M2)) (hf := rfl) rfl rfl).trans ?_
    refine kI_in (fun r3 M3 => ?_)
    refine (evn_adv 2 (q' := (85, [some (.ref 0), u1, some (.int l2), some (.int l3), some (.int r3)], [.int r3], M3)) rfl).trans ?_
    refine (e_if_eq (hf := rfl)).trans ?_
    refine ite_in ?_ ?_
    · refine (evn_adv 2 (q' := (56, [some (.ref 0), u1, some (.int l2), some (.int (l3 + (jn 1))), some (.int r3)], [], M3)) rfl).trans ?_
      rfl
    · refine (evn_adv 2 (q' := (91, [some (.ref 0), u1, some (.int l2), some (.int l3), some (.int r3)], [.int r3, .ref 0], M3)) rfl).trans ?_
      refine (e_kI (q := (91, [some (.ref 0), u1, some (.int l2), some (.int l3), some (.int r3)], [.int r3, .ref 0])) (q2 := (94, [some (.ref 0), u1, some (.int l2), some (.int l3), some (.int r3)], [])) (M := M3) (o := (pcl GG lay d 56 [.ref 0, .int r3] M3)) (hf := rfl) rfl rfl).trans ?_
      refine kI_in (fun r4 M4 => ?_)
      exact evn_end 1 rfl
  · refine (evn_adv 2 (q' := (105, [some (.ref 0), u1, some (.int l2), some (.int l3), u4], [.int (jn 1960), .ref 0], M)) rfl).trans ?_
    refine (e_kI (q := (105, [some (.ref 0), u1, some (.int l2), some (.int l3), u4], [.int (jn 1960), .ref 0])) (q2 := (108, [some (.ref 0), u1, some (.int l2), some (.int l3), u4], [])) (M := M) (o := (pcl GG lay d 57 [.ref 0, .int (jn 1960)] M)) (hf := rfl) rfl rfl).trans ?_
    refine kI_in (fun r1 M1 => ?_)
    exact evn_end 1 rfl
/-- TermStrategies.rewriteInHand(IJ)I -/
noncomputable abbrev E_39 (d : Nat) : PQ → PO := evn (rnn k_39 lay none (pcl GG lay d) 1)
theorem q_39 (d : Nat) (l1 : Int32) (l2 : Int64) (M : PM) : pcl GG lay (d + 1) 39 [.ref 0, .int l1, .long l2] M = (kV (pcl GG lay d 183 [.ref 21, .int (jn 1960)] M) fun M1 => (kI (pcl GG lay d 187 [.ref 21, .long l2] M1) fun r2 M2 => (kI (pcl GG lay d 241 [.ref 1, .int l1] M2) fun r3 M3 => (if r3 = jn 0 then (rI (jz 6) M3) else (if r2 = (jz 1) then (rI (jz 6) M3) else (kI (pcl GG lay d 30 [.ref 0, .int l1, .int (jn 1960), .int r2] M3) fun r4 M4 => (if r4 = jn 0 then (kI (pcl GG lay d 237 [.ref 6, .int (jn 1920), .int (jn 1960)] M4) fun r5 M5 => (rI r4 M5)) else (rI r4 M4)))))))) := by
  refine (pcl_un (mt := t_39) (by decide) rfl (Nat.le_of_ble_eq_true rfl)).trans ?_
  show E_39 d (0, [some (.ref 0), some (.int l1), some (.long l2), none, none, none], [], M) = _
  refine (evn_adv 3 (q' := (7, [some (.ref 0), some (.int l1), some (.long l2), none, none, none], [.int (jn 1960), .ref 21], M)) rfl).trans ?_
  refine (e_kV (q := (7, [some (.ref 0), some (.int l1), some (.long l2), none, none, none], [.int (jn 1960), .ref 21])) (q2 := (10, [some (.ref 0), some (.int l1), some (.long l2), none, none, none], [])) (M := M) (o := (pcl GG lay d 183 [.ref 21, .int (jn 1960)] M)) (hf := rfl) rfl rfl).trans ?_
  refine kV_in (fun M1 => ?_)
  refine (evn_adv 3 (q' := (15, [some (.ref 0), some (.int l1), some (.long l2), none, none, none], [.long l2, .ref 21], M1)) rfl).trans ?_
  refine (e_kI (q := (15, [some (.ref 0), some (.int l1), some (.long l2), none, none, none], [.long l2, .ref 21])) (q2 := (18, [some (.ref 0), some (.int l1), some (.long l2), none, none, none], [])) (M := M1) (o := (pcl GG lay d 187 [.ref 21, .long l2] M1)) (hf := rfl) rfl rfl).trans ?_
  refine kI_in (fun r2 M2 => ?_)
  refine (evn_adv 4 (q' := (25, [some (.ref 0), some (.int l1), some (.long l2), none, some (.int r2), none], [.int l1, .ref 1], M2)) rfl).trans ?_
  refine (e_kI (q := (25, [some (.ref 0), some (.int l1), some (.long l2), none, some (.int r2), none], [.int l1, .ref 1])) (q2 := (28, [some (.ref 0), some (.int l1), some (.long l2), none, some (.int r2), none], [])) (M := M2) (o := (pcl GG lay d 241 [.ref 1, .int l1] M2)) (hf := rfl) rfl rfl).trans ?_
  refine kI_in (fun r3 M3 => ?_)
  refine (e_if_eq (hf := rfl)).trans ?_
  refine ite_in ?_ ?_
  · refine (evn_adv 1 (q' := (39, [some (.ref 0), some (.int l1), some (.long l2), none, some (.int r2), none], [.int (jz 6)], M3)) rfl).trans ?_
    exact evn_end 1 rfl
  · refine (evn_adv 2 (q' := (34, [some (.ref 0), some (.int l1), some (.long l2), none, some (.int r2), none], [.int (jz 1), .int r2], M3)) rfl).trans ?_
    refine (e_ic_ne (hf := rfl)).trans ?_
    refine ite_in ?_ ?_
    · refine (evn_adv 1 (q' := (39, [some (.ref 0), some (.int l1), some (.long l2), none, some (.int r2), none], [.int (jz 6)], M3)) rfl).trans ?_
      exact evn_end 1 rfl
    · refine (evn_adv 4 (q' := (47, [some (.ref 0), some (.int l1), some (.long l2), none, some (.int r2), none], [.int r2, .int (jn 1960), .int l1, .ref 0], M3)) rfl).trans ?_
      refine (e_kI (q := (47, [some (.ref 0), some (.int l1), some (.long l2), none, some (.int r2), none], [.int r2, .int (jn 1960), .int l1, .ref 0])) (q2 := (50, [some (.ref 0), some (.int l1), some (.long l2), none, some (.int r2), none], [])) (M := M3) (o := (pcl GG lay d 30 [.ref 0, .int l1, .int (jn 1960), .int r2] M3)) (hf := rfl) rfl rfl).trans ?_
      refine kI_in (fun r4 M4 => ?_)
      refine (evn_adv 2 (q' := (54, [some (.ref 0), some (.int l1), some (.long l2), none, some (.int r2), some (.int r4)], [.int r4], M4)) rfl).trans ?_
      refine (e_if_ne (hf := rfl)).trans ?_
      refine ite_in ?_ ?_
      · refine (evn_adv 4 (q' := (67, [some (.ref 0), some (.int l1), some (.long l2), none, some (.int r2), some (.int r4)], [.int (jn 1960), .int (jn 1920), .ref 6], M4)) rfl).trans ?_
        refine (e_kI (q := (67, [some (.ref 0), some (.int l1), some (.long l2), none, some (.int r2), some (.int r4)], [.int (jn 1960), .int (jn 1920), .ref 6])) (q2 := (70, [some (.ref 0), some (.int l1), some (.long l2), none, some (.int r2), some (.int r4)], [])) (M := M4) (o := (pcl GG lay d 237 [.ref 6, .int (jn 1920), .int (jn 1960)] M4)) (hf := rfl) rfl rfl).trans ?_
        refine kI_in (fun r5 M5 => ?_)
        refine (evn_adv 2 (q' := (73, [some (.ref 0), some (.int l1), some (.long l2), none, some (.int r2), some (.int r4)], [.int r4], M5)) rfl).trans ?_
        exact evn_end 1 rfl
      · refine (evn_adv 1 (q' := (73, [some (.ref 0), some (.int l1), some (.long l2), none, some (.int r2), some (.int r4)], [.int r4], M4)) rfl).trans ?_
        exact evn_end 1 rfl
/-- TermStrategies.unify(II)I -/
noncomputable abbrev E_40 (d : Nat) : PQ → PO := evn (rnn k_40 lay none (pcl GG lay d) 1)
theorem q_40 (d : Nat) (l1 : Int32) (l2 : Int32) (M : PM) : pcl GG lay (d + 1) 40 [.ref 0, .int l1, .int l2] M = (kI (pcl GG lay d 240 [.ref 1, .int l1] M) fun r1 M1 => (if r1 = jn 0 then (kI (pcl GG lay d 56 [.ref 0, .int (jz 1)] M1) fun r2 M2 => (rI r2 M2)) else (kI (pcl GG lay d 240 [.ref 1, .int l2] M1) fun r2 M2 => (if r2 = jn 0 then (kI (pcl GG lay d 56 [.ref 0, .int (jz 1)] M2) fun r3 M3 => (rI r3 M3)) else (kI (pcl GG lay d 59 [.int l1] M2) fun r3 M3 => (kI (pcl GG lay d 59 [.int l2] M3) fun r4 M4 => (kI (pcl GG lay d 41 [.ref 0, .int r3] M4) fun r5 M5 => (if r5 = jn 0 then (kI (pcl GG lay d 41 [.ref 0, .int r4] M5) fun r6 M6 => (if r6 = jn 0 then (kI (pcl GG lay d 259 [.ref 40, .int r3, .int r4, .int (jn 0)] M6) fun r7 M7 => (if r7 = jn 0 then (kI (pcl GG lay d 56 [.ref 0, .int (jz 6)] M7) fun r8 M8 => (rI r8 M8)) else (kV (pcl GG lay d 268 [.ref 40, .int (jn 2000)] M7) fun M8 => (kI (pcl GG lay d 233 [.ref 6, .int r3] M8) fun r9 M9 => (kV (pcl GG lay d 269 [.ref 40, .int r3, .int r9, .int (jn 0)] M9) fun M10 => (if (M10.1 40 12) = jn 0 then (kI (pcl GG lay d 57 [.ref 0, .int (jn 2000)] M10) fun r11 M11 => (rI r11 M11)) else (kI (pcl GG lay d 56 [.ref 0, .int (jz 7)] M10) fun r11 M11 => (rI r11 M11)))))))) else (kI (pcl GG lay d 56 [.ref 0, .int (jz 5)] M6) fun r7 M7 => (rI r7 M7)))) else (kI (pcl GG lay d 56 [.ref 0, .int (jz 5)] M5) fun r6 M6 => (rI r6 M6)))))))))) := by
  refine (pcl_un (mt := t_40) (by decide) rfl (Nat.le_of_ble_eq_true rfl)).trans ?_
  show E_40 d (0, [some (.ref 0), some (.int l1), some (.int l2), none, none], [], M) = _
  refine (evn_adv 3 (q' := (5, [some (.ref 0), some (.int l1), some (.int l2), none, none], [.int l1, .ref 1], M)) rfl).trans ?_
  refine (e_kI (q := (5, [some (.ref 0), some (.int l1), some (.int l2), none, none], [.int l1, .ref 1])) (q2 := (8, [some (.ref 0), some (.int l1), some (.int l2), none, none], [])) (M := M) (o := (pcl GG lay d 240 [.ref 1, .int l1] M)) (hf := rfl) rfl rfl).trans ?_
  refine kI_in (fun r1 M1 => ?_)
  refine (e_if_eq (hf := rfl)).trans ?_
  refine ite_in ?_ ?_
  · refine (evn_adv 2 (q' := (24, [some (.ref 0), some (.int l1), some (.int l2), none, none], [.int (jz 1), .ref 0], M1)) rfl).trans ?_
    refine (e_kI (q := (24, [some (.ref 0), some (.int l1), some (.int l2), none, none], [.int (jz 1), .ref 0])) (q2 := (27, [some (.ref 0), some (.int l1), some (.int l2), none, none], [])) (M := M1) (o := (pcl GG lay d 56 [.ref 0, .int (jz 1)] M1)) (hf := rfl) rfl rfl).trans ?_
    refine kI_in (fun r2 M2 => ?_)
    exact evn_end 1 rfl
  · refine (evn_adv 3 (q' := (16, [some (.ref 0), some (.int l1), some (.int l2), none, none], [.int l2, .ref 1], M1)) rfl).trans ?_
    refine (e_kI (q := (16, [some (.ref 0), some (.int l1), some (.int l2), none, none], [.int l2, .ref 1])) (q2 := (19, [some (.ref 0), some (.int l1), some (.int l2), none, none], [])) (M := M1) (o := (pcl GG lay d 240 [.ref 1, .int l2] M1)) (hf := rfl) rfl rfl).trans ?_
    refine kI_in (fun r2 M2 => ?_)
    refine (e_if_ne (hf := rfl)).trans ?_
    refine ite_in ?_ ?_
    · refine (evn_adv 2 (q' := (24, [some (.ref 0), some (.int l1), some (.int l2), none, none], [.int (jz 1), .ref 0], M2)) rfl).trans ?_
      refine (e_kI (q := (24, [some (.ref 0), some (.int l1), some (.int l2), none, none], [.int (jz 1), .ref 0])) (q2 := (27, [some (.ref 0), some (.int l1), some (.int l2), none, none], [])) (M := M2) (o := (pcl GG lay d 56 [.ref 0, .int (jz 1)] M2)) (hf := rfl) rfl rfl).trans ?_
      refine kI_in (fun r3 M3 => ?_)
      exact evn_end 1 rfl
    · refine (evn_adv 1 (q' := (29, [some (.ref 0), some (.int l1), some (.int l2), none, none], [.int l1], M2)) rfl).trans ?_
      refine (e_kI (q := (29, [some (.ref 0), some (.int l1), some (.int l2), none, none], [.int l1])) (q2 := (32, [some (.ref 0), some (.int l1), some (.int l2), none, none], [])) (M := M2) (o := (pcl GG lay d 59 [.int l1] M2)) (hf := rfl) rfl rfl).trans ?_
      refine kI_in (fun r3 M3 => ?_)
      refine (evn_adv 2 (q' := (34, [some (.ref 0), some (.int l1), some (.int l2), some (.int r3), none], [.int l2], M3)) rfl).trans ?_
      refine (e_kI (q := (34, [some (.ref 0), some (.int l1), some (.int l2), some (.int r3), none], [.int l2])) (q2 := (37, [some (.ref 0), some (.int l1), some (.int l2), some (.int r3), none], [])) (M := M3) (o := (pcl GG lay d 59 [.int l2] M3)) (hf := rfl) rfl rfl).trans ?_
      refine kI_in (fun r4 M4 => ?_)
      refine (evn_adv 3 (q' := (41, [some (.ref 0), some (.int l1), some (.int l2), some (.int r3), some (.int r4)], [.int r3, .ref 0], M4)) rfl).trans ?_
      refine (e_kI (q := (41, [some (.ref 0), some (.int l1), some (.int l2), some (.int r3), some (.int r4)], [.int r3, .ref 0])) (q2 := (44, [some (.ref 0), some (.int l1), some (.int l2), some (.int r3), some (.int r4)], [])) (M := M4) (o := (pcl GG lay d 41 [.ref 0, .int r3] M4)) (hf := rfl) rfl rfl).trans ?_
      refine kI_in (fun r5 M5 => ?_)
      refine (e_if_ne (hf := rfl)).trans ?_
      refine ite_in ?_ ?_
      · refine (evn_adv 2 (q' := (50, [some (.ref 0), some (.int l1), some (.int l2), some (.int r3), some (.int r4)], [.int r4, .ref 0], M5)) rfl).trans ?_
        refine (e_kI (q := (50, [some (.ref 0), some (.int l1), some (.int l2), some (.int r3), some (.int r4)], [.int r4, .ref 0])) (q2 := (53, [some (.ref 0), some (.int l1), some (.int l2), some (.int r3), some (.int r4)], [])) (M := M5) (o := (pcl GG lay d 41 [.ref 0, .int r4] M5)) (hf := rfl) rfl rfl).trans ?_
        refine kI_in (fun r6 M6 => ?_)
        refine (e_if_eq (hf := rfl)).trans ?_
        refine ite_in ?_ ?_
        · refine (evn_adv 5 (q' := (71, [some (.ref 0), some (.int l1), some (.int l2), some (.int r3), some (.int r4)], [.int (jn 0), .int r4, .int r3, .ref 40], M6)) rfl).trans ?_
          refine (e_kI (q := (71, [some (.ref 0), some (.int l1), some (.int l2), some (.int r3), some (.int r4)], [.int (jn 0), .int r4, .int r3, .ref 40])) (q2 := (74, [some (.ref 0), some (.int l1), some (.int l2), some (.int r3), some (.int r4)], [])) (M := M6) (o := (pcl GG lay d 259 [.ref 40, .int r3, .int r4, .int (jn 0)] M6)) (hf := rfl) rfl rfl).trans ?_
          refine kI_in (fun r7 M7 => ?_)
          refine (e_if_ne (hf := rfl)).trans ?_
          refine ite_in ?_ ?_
          · refine (evn_adv 2 (q' := (80, [some (.ref 0), some (.int l1), some (.int l2), some (.int r3), some (.int r4)], [.int (jz 6), .ref 0], M7)) rfl).trans ?_
            refine (e_kI (q := (80, [some (.ref 0), some (.int l1), some (.int l2), some (.int r3), some (.int r4)], [.int (jz 6), .ref 0])) (q2 := (83, [some (.ref 0), some (.int l1), some (.int l2), some (.int r3), some (.int r4)], [])) (M := M7) (o := (pcl GG lay d 56 [.ref 0, .int (jz 6)] M7)) (hf := rfl) rfl rfl).trans ?_
            refine kI_in (fun r8 M8 => ?_)
            exact evn_end 1 rfl
          · refine (evn_adv 3 (q' := (91, [some (.ref 0), some (.int l1), some (.int l2), some (.int r3), some (.int r4)], [.int (jn 2000), .ref 40], M7)) rfl).trans ?_
            refine (e_kV (q := (91, [some (.ref 0), some (.int l1), some (.int l2), some (.int r3), some (.int r4)], [.int (jn 2000), .ref 40])) (q2 := (94, [some (.ref 0), some (.int l1), some (.int l2), some (.int r3), some (.int r4)], [])) (M := M7) (o := (pcl GG lay d 268 [.ref 40, .int (jn 2000)] M7)) (hf := rfl) rfl rfl).trans ?_
            refine kV_in (fun M8 => ?_)
            refine (evn_adv 6 (q' := (104, [some (.ref 0), some (.int l1), some (.int l2), some (.int r3), some (.int r4)], [.int r3, .ref 6, .int r3, .ref 40], M8)) rfl).trans ?_
            refine (e_kI (q := (104, [some (.ref 0), some (.int l1), some (.int l2), some (.int r3), some (.int r4)], [.int r3, .ref 6, .int r3, .ref 40])) (q2 := (107, [some (.ref 0), some (.int l1), some (.int l2), some (.int r3), some (.int r4)], [.int r3, .ref 40])) (M := M8) (o := (pcl GG lay d 233 [.ref 6, .int r3] M8)) (hf := rfl) rfl rfl).trans ?_
            refine kI_in (fun r9 M9 => ?_)
            refine (evn_adv 1 (q' := (108, [some (.ref 0), some (.int l1), some (.int l2), some (.int r3), some (.int r4)], [.int (jn 0), .int r9, .int r3, .ref 40], M9)) rfl).trans ?_
            refine (e_kV (q := (108, [some (.ref 0), some (.int l1), some (.int l2), some (.int r3), some (.int r4)], [.int (jn 0), .int r9, .int r3, .ref 40])) (q2 := (111, [some (.ref 0), some (.int l1), some (.int l2), some (.int r3), some (.int r4)], [])) (M := M9) (o := (pcl GG lay d 269 [.ref 40, .int r3, .int r9, .int (jn 0)] M9)) (hf := rfl) rfl rfl).trans ?_
            refine kV_in (fun M10 => ?_)
            refine (evn_adv 3 (q' := (118, [some (.ref 0), some (.int l1), some (.int l2), some (.int r3), some (.int r4)], [.int (M10.1 40 12)], M10)) rfl).trans ?_
            refine (e_if_eq (hf := rfl)).trans ?_
            refine ite_in ?_ ?_
            · refine (evn_adv 2 (q' := (134, [some (.ref 0), some (.int l1), some (.int l2), some (.int r3), some (.int r4)], [.int (jn 2000), .ref 0], M10)) rfl).trans ?_
              refine (e_kI (q := (134, [some (.ref 0), some (.int l1), some (.int l2), some (.int r3), some (.int r4)], [.int (jn 2000), .ref 0])) (q2 := (137, [some (.ref 0), some (.int l1), some (.int l2), some (.int r3), some (.int r4)], [])) (M := M10) (o := (pcl GG lay d 57 [.ref 0, .int (jn 2000)] M10)) (hf := rfl) rfl rfl).trans ?_
              refine kI_in (fun r11 M11 => ?_)
              exact evn_end 1 rfl
            · refine (evn_adv 2 (q' := (124, [some (.ref 0), some (.int l1), some (.int l2), some (.int r3), some (.int r4)], [.int (jz 7), .ref 0], M10)) rfl).trans ?_
              refine (e_kI (q := (124, [some (.ref 0), some (.int l1), some (.int l2), some (.int r3), some (.int r4)], [.int (jz 7), .ref 0])) (q2 := (127, [some (.ref 0), some (.int l1), some (.int l2), some (.int r3), some (.int r4)], [])) (M := M10) (o := (pcl GG lay d 56 [.ref 0, .int (jz 7)] M10)) (hf := rfl) rfl rfl).trans ?_
              refine kI_in (fun r11 M11 => ?_)
              refine (evn_adv 1 (q' := (137, [some (.ref 0), some (.int l1), some (.int l2), some (.int r3), some (.int r4)], [.int r11], M11)) rfl).trans ?_
              exact evn_end 1 rfl
        · refine (evn_adv 2 (q' := (59, [some (.ref 0), some (.int l1), some (.int l2), some (.int r3), some (.int r4)], [.int (jz 5), .ref 0], M6)) rfl).trans ?_
          refine (e_kI (q := (59, [some (.ref 0), some (.int l1), some (.int l2), some (.int r3), some (.int r4)], [.int (jz 5), .ref 0])) (q2 := (62, [some (.ref 0), some (.int l1), some (.int l2), some (.int r3), some (.int r4)], [])) (M := M6) (o := (pcl GG lay d 56 [.ref 0, .int (jz 5)] M6)) (hf := rfl) rfl rfl).trans ?_
          refine kI_in (fun r7 M7 => ?_)
          exact evn_end 1 rfl
      · refine (evn_adv 2 (q' := (59, [some (.ref 0), some (.int l1), some (.int l2), some (.int r3), some (.int r4)], [.int (jz 5), .ref 0], M5)) rfl).trans ?_
        refine (e_kI (q := (59, [some (.ref 0), some (.int l1), some (.int l2), some (.int r3), some (.int r4)], [.int (jz 5), .ref 0])) (q2 := (62, [some (.ref 0), some (.int l1), some (.int l2), some (.int r3), some (.int r4)], [])) (M := M5) (o := (pcl GG lay d 56 [.ref 0, .int (jz 5)] M5)) (hf := rfl) rfl rfl).trans ?_
        refine kI_in (fun r6 M6 => ?_)
        exact evn_end 1 rfl
/-- TermStrategies.hasTooManyVariables(I)Z -/
noncomputable abbrev E_41 (d : Nat) : PQ → PO := evn (rnn k_41 lay none (pcl GG lay d) 2)
theorem q_41 (d : Nat) (l1 : Int32) (M : PM) : pcl GG lay (d + 1) 41 [.ref 0, .int l1] M = (kI (pcl GG lay d 236 [.ref 6, .int l1] M) fun r1 M1 => (kI (pcl GG lay d 273 [.int r1] M1) fun r2 M2 => (if (jn 3) < r2 then (rZ (jn 1) M2) else (rZ (jn 0) M2)))) := by
  refine (pcl_un (mt := t_41) (by decide) rfl (Nat.le_of_ble_eq_true rfl)).trans ?_
  show E_41 d (0, [some (.ref 0), some (.int l1)], [], M) = _
  refine (evn_adv 3 (q' := (5, [some (.ref 0), some (.int l1)], [.int l1, .ref 6], M)) rfl).trans ?_
  refine (e_kI (q := (5, [some (.ref 0), some (.int l1)], [.int l1, .ref 6])) (q2 := (8, [some (.ref 0), some (.int l1)], [])) (M := M) (o := (pcl GG lay d 236 [.ref 6, .int l1] M)) (hf := rfl) rfl rfl).trans ?_
  refine kI_in (fun r1 M1 => ?_)
  refine (e_kI (q := (8, [some (.ref 0), some (.int l1)], [.int r1])) (q2 := (11, [some (.ref 0), some (.int l1)], [])) (M := M1) (o := (pcl GG lay d 273 [.int r1] M1)) (hf := rfl) rfl rfl).trans ?_
  refine kI_in (fun r2 M2 => ?_)
  refine (evn_adv 1 (q' := (12, [some (.ref 0), some (.int l1)], [.int (jn 3), .int r2], M2)) rfl).trans ?_
  refine (e_ic_le (hf := rfl)).trans ?_
  refine ite_in ?_ ?_
  · refine (evn_adv 2 (q' := (20, [some (.ref 0), some (.int l1)], [.int (jn 1)], M2)) rfl).trans ?_
    exact e_iretz (hf := rfl)
  · refine (evn_adv 1 (q' := (20, [some (.ref 0), some (.int l1)], [.int (jn 0)], M2)) rfl).trans ?_
    exact e_iretz (hf := rfl)
/-- TermStrategies.overlaps(II)I -/
noncomputable abbrev E_42 (d : Nat) : PQ → PO := evn (rnn k_42 lay none (pcl GG lay d) 1)
theorem q_42 (d : Nat) (l1 : Int32) (l2 : Int32) (M : PM) : pcl GG lay (d + 1) 42 [.ref 0, .int l1, .int l2] M = (kI (pcl GG lay d 241 [.ref 1, .int l1] M) fun r1 M1 => (if r1 = jn 0 then (kI (pcl GG lay d 56 [.ref 0, .int (jz 1)] M1) fun r2 M2 => (rI r2 M2)) else (kI (pcl GG lay d 241 [.ref 1, .int l2] M1) fun r2 M2 => (if r2 = jn 0 then (kI (pcl GG lay d 56 [.ref 0, .int (jz 1)] M2) fun r3 M3 => (rI r3 M3)) else (kI (pcl GG lay d 45 [.ref 0, .int l1, .int l2, .int (jz 1)] M2) fun r3 M3 => (rI r3 M3)))))) := by
  refine (pcl_un (mt := t_42) (by decide) rfl (Nat.le_of_ble_eq_true rfl)).trans ?_
  show E_42 d (0, [some (.ref 0), some (.int l1), some (.int l2)], [], M) = _
  refine (evn_adv 3 (q' := (5, [some (.ref 0), some (.int l1), some (.int l2)], [.int l1, .ref 1], M)) rfl).trans ?_
  refine (e_kI (q := (5, [some (.ref 0), some (.int l1), some (.int l2)], [.int l1, .ref 1])) (q2 := (8, [some (.ref 0), some (.int l1), some (.int l2)], [])) (M := M) (o := (pcl GG lay d 241 [.ref 1, .int l1] M)) (hf := rfl) rfl rfl).trans ?_
  refine kI_in (fun r1 M1 => ?_)
  refine (e_if_eq (hf := rfl)).trans ?_
  refine ite_in ?_ ?_
  · refine (evn_adv 2 (q' := (24, [some (.ref 0), some (.int l1), some (.int l2)], [.int (jz 1), .ref 0], M1)) rfl).trans ?_
    refine (e_kI (q := (24, [some (.ref 0), some (.int l1), some (.int l2)], [.int (jz 1), .ref 0])) (q2 := (27, [some (.ref 0), some (.int l1), some (.int l2)], [])) (M := M1) (o := (pcl GG lay d 56 [.ref 0, .int (jz 1)] M1)) (hf := rfl) rfl rfl).trans ?_
    refine kI_in (fun r2 M2 => ?_)
    exact evn_end 1 rfl
  · refine (evn_adv 3 (q' := (16, [some (.ref 0), some (.int l1), some (.int l2)], [.int l2, .ref 1], M1)) rfl).trans ?_
    refine (e_kI (q := (16, [some (.ref 0), some (.int l1), some (.int l2)], [.int l2, .ref 1])) (q2 := (19, [some (.ref 0), some (.int l1), some (.int l2)], [])) (M := M1) (o := (pcl GG lay d 241 [.ref 1, .int l2] M1)) (hf := rfl) rfl rfl).trans ?_
    refine kI_in (fun r2 M2 => ?_)
    refine (e_if_ne (hf := rfl)).trans ?_
    refine ite_in ?_ ?_
    · refine (evn_adv 2 (q' := (24, [some (.ref 0), some (.int l1), some (.int l2)], [.int (jz 1), .ref 0], M2)) rfl).trans ?_
      refine (e_kI (q := (24, [some (.ref 0), some (.int l1), some (.int l2)], [.int (jz 1), .ref 0])) (q2 := (27, [some (.ref 0), some (.int l1), some (.int l2)], [])) (M := M2) (o := (pcl GG lay d 56 [.ref 0, .int (jz 1)] M2)) (hf := rfl) rfl rfl).trans ?_
      refine kI_in (fun r3 M3 => ?_)
      exact evn_end 1 rfl
    · refine (evn_adv 4 (q' := (32, [some (.ref 0), some (.int l1), some (.int l2)], [.int (jz 1), .int l2, .int l1, .ref 0], M2)) rfl).trans ?_
      refine (e_kI (q := (32, [some (.ref 0), some (.int l1), some (.int l2)], [.int (jz 1), .int l2, .int l1, .ref 0])) (q2 := (35, [some (.ref 0), some (.int l1), some (.int l2)], [])) (M := M2) (o := (pcl GG lay d 45 [.ref 0, .int l1, .int l2, .int (jz 1)] M2)) (hf := rfl) rfl rfl).trans ?_
      refine kI_in (fun r3 M3 => ?_)
      exact evn_end 1 rfl
/-- TermStrategies.overlap(IIII)I -/
noncomputable abbrev E_43 (d : Nat) : PQ → PO := evn (rnn k_43 lay none (pcl GG lay d) 1)
theorem q_43 (d : Nat) (l1 : Int32) (l2 : Int32) (l3 : Int32) (l4 : Int32) (M : PM) : pcl GG lay (d + 1) 43 [.ref 0, .int l1, .int l2, .int l3, .int l4] M = (kI (pcl GG lay d 241 [.ref 1, .int l1] M) fun r1 M1 => (if r1 = jn 0 then (kI (pcl GG lay d 56 [.ref 0, .int (jz 1)] M1) fun r2 M2 => (rI r2 M2)) else (kI (pcl GG lay d 241 [.ref 1, .int l2] M1) fun r2 M2 => (if r2 = jn 0 then (kI (pcl GG lay d 56 [.ref 0, .int (jz 1)] M2) fun r3 M3 => (rI r3 M3)) else (if l3 < jn 0 then (kI (pcl GG lay d 56 [.ref 0, .int (jz 5)] M2) fun r3 M3 => (rI r3 M3)) else (if l4 < jn 0 then (kI (pcl GG lay d 56 [.ref 0, .int (jz 5)] M2) fun r3 M3 => (rI r3 M3)) else (if (jn 2) < l4 then (kI (pcl GG lay d 56 [.ref 0, .int (jz 5)] M2) fun r3 M3 => (rI r3 M3)) else (kI (pcl GG lay d 45 [.ref 0, .int l1, .int l2, .int l3] M2) fun r3 M3 => (if l3 < r3 then (if l4 = jn 0 then (kI (pcl GG lay d 57 [.ref 0, .int (jn 2000)] M3) fun r4 M4 => (rI r4 M4)) else (if l4 = (jn 1) then (kI (pcl GG lay d 57 [.ref 0, .int (jn 2040)] M3) fun r4 M4 => (rI r4 M4)) else (kI (pcl GG lay d 57 [.ref 0, .int (jn 2080)] M3) fun r4 M4 => (rI r4 M4)))) else (kI (pcl GG lay d 56 [.ref 0, .int (jz 5)] M3) fun r4 M4 => (rI r4 M4))))))))))) := by
  refine (pcl_un (mt := t_43) (by decide) rfl (Nat.le_of_ble_eq_true rfl)).trans ?_
  show E_43 d (0, [some (.ref 0), some (.int l1), some (.int l2), some (.int l3), some (.int l4)], [], M) = _
  refine (evn_adv 3 (q' := (5, [some (.ref 0), some (.int l1), some (.int l2), some (.int l3), some (.int l4)], [.int l1, .ref 1], M)) rfl).trans ?_
  refine (e_kI (q := (5, [some (.ref 0), some (.int l1), some (.int l2), some (.int l3), some (.int l4)], [.int l1, .ref 1])) (q2 := (8, [some (.ref 0), some (.int l1), some (.int l2), some (.int l3), some (.int l4)], [])) (M := M) (o := (pcl GG lay d 241 [.ref 1, .int l1] M)) (hf := rfl) rfl rfl).trans ?_
  refine kI_in (fun r1 M1 => ?_)
  refine (e_if_eq (hf := rfl)).trans ?_
  refine ite_in ?_ ?_
  · refine (evn_adv 2 (q' := (24, [some (.ref 0), some (.int l1), some (.int l2), some (.int l3), some (.int l4)], [.int (jz 1), .ref 0], M1)) rfl).trans ?_
    refine (e_kI (q := (24, [some (.ref 0), some (.int l1), some (.int l2), some (.int l3), some (.int l4)], [.int (jz 1), .ref 0])) (q2 := (27, [some (.ref 0), some (.int l1), some (.int l2), some (.int l3), some (.int l4)], [])) (M := M1) (o := (pcl GG lay d 56 [.ref 0, .int (jz 1)] M1)) (hf := rfl) rfl rfl).trans ?_
    refine kI_in (fun r2 M2 => ?_)
    exact evn_end 1 rfl
  · refine (evn_adv 3 (q' := (16, [some (.ref 0), some (.int l1), some (.int l2), some (.int l3), some (.int l4)], [.int l2, .ref 1], M1)) rfl).trans ?_
    refine (e_kI (q := (16, [some (.ref 0), some (.int l1), some (.int l2), some (.int l3), some (.int l4)], [.int l2, .ref 1])) (q2 := (19, [some (.ref 0), some (.int l1), some (.int l2), some (.int l3), some (.int l4)], [])) (M := M1) (o := (pcl GG lay d 241 [.ref 1, .int l2] M1)) (hf := rfl) rfl rfl).trans ?_
    refine kI_in (fun r2 M2 => ?_)
    refine (e_if_ne (hf := rfl)).trans ?_
    refine ite_in ?_ ?_
    · refine (evn_adv 2 (q' := (24, [some (.ref 0), some (.int l1), some (.int l2), some (.int l3), some (.int l4)], [.int (jz 1), .ref 0], M2)) rfl).trans ?_
      refine (e_kI (q := (24, [some (.ref 0), some (.int l1), some (.int l2), some (.int l3), some (.int l4)], [.int (jz 1), .ref 0])) (q2 := (27, [some (.ref 0), some (.int l1), some (.int l2), some (.int l3), some (.int l4)], [])) (M := M2) (o := (pcl GG lay d 56 [.ref 0, .int (jz 1)] M2)) (hf := rfl) rfl rfl).trans ?_
      refine kI_in (fun r3 M3 => ?_)
      exact evn_end 1 rfl
    · refine (evn_adv 1 (q' := (29, [some (.ref 0), some (.int l1), some (.int l2), some (.int l3), some (.int l4)], [.int l3], M2)) rfl).trans ?_
      refine (e_if_lt (hf := rfl)).trans ?_
      refine ite_in ?_ ?_
      · refine (evn_adv 2 (q' := (57, [some (.ref 0), some (.int l1), some (.int l2), some (.int l3), some (.int l4)], [.int (jz 5), .ref 0], M2)) rfl).trans ?_
        refine (e_kI (q := (57, [some (.ref 0), some (.int l1), some (.int l2), some (.int l3), some (.int l4)], [.int (jz 5), .ref 0])) (q2 := (60, [some (.ref 0), some (.int l1), some (.int l2), some (.int l3), some (.int l4)], [])) (M := M2) (o := (pcl GG lay d 56 [.ref 0, .int (jz 5)] M2)) (hf := rfl) rfl rfl).trans ?_
        refine kI_in (fun r3 M3 => ?_)
        exact evn_end 1 rfl
      · refine (evn_adv 1 (q' := (34, [some (.ref 0), some (.int l1), some (.int l2), some (.int l3), some (.int l4)], [.int l4], M2)) rfl).trans ?_
        refine (e_if_lt (hf := rfl)).trans ?_
        refine ite_in ?_ ?_
        · refine (evn_adv 2 (q' := (57, [some (.ref 0), some (.int l1), some (.int l2), some (.int l3), some (.int l4)], [.int (jz 5), .ref 0], M2)) rfl).trans ?_
          refine (e_kI (q := (57, [some (.ref 0), some (.int l1), some (.int l2), some (.int l3), some (.int l4)], [.int (jz 5), .ref 0])) (q2 := (60, [some (.ref 0), some (.int l1), some (.int l2), some (.int l3), some (.int l4)], [])) (M := M2) (o := (pcl GG lay d 56 [.ref 0, .int (jz 5)] M2)) (hf := rfl) rfl rfl).trans ?_
          refine kI_in (fun r3 M3 => ?_)
          exact evn_end 1 rfl
        · refine (evn_adv 2 (q' := (40, [some (.ref 0), some (.int l1), some (.int l2), some (.int l3), some (.int l4)], [.int (jn 2), .int l4], M2)) rfl).trans ?_
          refine (e_ic_gt (hf := rfl)).trans ?_
          refine ite_in ?_ ?_
          · refine (evn_adv 2 (q' := (57, [some (.ref 0), some (.int l1), some (.int l2), some (.int l3), some (.int l4)], [.int (jz 5), .ref 0], M2)) rfl).trans ?_
            refine (e_kI (q := (57, [some (.ref 0), some (.int l1), some (.int l2), some (.int l3), some (.int l4)], [.int (jz 5), .ref 0])) (q2 := (60, [some (.ref 0), some (.int l1), some (.int l2), some (.int l3), some (.int l4)], [])) (M := M2) (o := (pcl GG lay d 56 [.ref 0, .int (jz 5)] M2)) (hf := rfl) rfl rfl).trans ?_
            refine kI_in (fun r3 M3 => ?_)
            exact evn_end 1 rfl
          · refine (evn_adv 4 (q' := (47, [some (.ref 0), some (.int l1), some (.int l2), some (.int l3), some (.int l4)], [.int l3, .int l2, .int l1, .ref 0], M2)) rfl).trans ?_
            refine (e_kI (q := (47, [some (.ref 0), some (.int l1), some (.int l2), some (.int l3), some (.int l4)], [.int l3, .int l2, .int l1, .ref 0])) (q2 := (50, [some (.ref 0), some (.int l1), some (.int l2), some (.int l3), some (.int l4)], [])) (M := M2) (o := (pcl GG lay d 45 [.ref 0, .int l1, .int l2, .int l3] M2)) (hf := rfl) rfl rfl).trans ?_
            refine kI_in (fun r3 M3 => ?_)
            refine (evn_adv 1 (q' := (51, [some (.ref 0), some (.int l1), some (.int l2), some (.int l3), some (.int l4)], [.int l3, .int r3], M3)) rfl).trans ?_
            refine (e_ic_gt (hf := rfl)).trans ?_
            refine ite_in ?_ ?_
            · refine (evn_adv 2 (q' := (64, [some (.ref 0), some (.int l1), some (.int l2), some (.int l3), some (.int l4)], [.int l4, .ref 0], M3)) rfl).trans ?_
              refine (e_if_ne (hf := rfl)).trans ?_
              refine ite_in ?_ ?_
              · refine (evn_adv 2 (q' := (88, [some (.ref 0), some (.int l1), some (.int l2), some (.int l3), some (.int l4)], [.int (jn 2000), .ref 0], M3)) rfl).trans ?_
                refine (e_kI (q := (88, [some (.ref 0), some (.int l1), some (.int l2), some (.int l3), some (.int l4)], [.int (jn 2000), .ref 0])) (q2 := (91, [some (.ref 0), some (.int l1), some (.int l2), some (.int l3), some (.int l4)], [])) (M := M3) (o := (pcl GG lay d 57 [.ref 0, .int (jn 2000)] M3)) (hf := rfl) rfl rfl).trans ?_
                refine kI_in (fun r4 M4 => ?_)
                exact evn_end 1 rfl
              · refine (evn_adv 2 (q' := (76, [some (.ref 0), some (.int l1), some (.int l2), some (.int l3), some (.int l4)], [.int (jn 1), .int l4, .ref 0], M3)) rfl).trans ?_
                refine (e_ic_ne (hf := rfl)).trans ?_
                refine ite_in ?_ ?_
                · refine (evn_adv 2 (q' := (88, [some (.ref 0), some (.int l1), some (.int l2), some (.int l3), some (.int l4)], [.int (jn 2040), .ref 0], M3)) rfl).trans ?_
                  refine (e_kI (q := (88, [some (.ref 0), some (.int l1), some (.int l2), some (.int l3), some (.int l4)], [.int (jn 2040), .ref 0])) (q2 := (91, [some (.ref 0), some (.int l1), some (.int l2), some (.int l3), some (.int l4)], [])) (M := M3) (o := (pcl GG lay d 57 [.ref 0, .int (jn 2040)] M3)) (hf := rfl) rfl rfl).trans ?_
                  refine kI_in (fun r4 M4 => ?_)
                  exact evn_end 1 rfl
                · refine (evn_adv 1 (q' := (88, [some (.ref 0), some (.int l1), some (.int l2), some (.int l3), some (.int l4)], [.int (jn 2080), .ref 0], M3)) rfl).trans ?_
                  refine (e_kI (q := (88, [some (.ref 0), some (.int l1), some (.int l2), some (.int l3), some (.int l4)], [.int (jn 2080), .ref 0])) (q2 := (91, [some (.ref 0), some (.int l1), some (.int l2), some (.int l3), some (.int l4)], [])) (M := M3) (o := (pcl GG lay d 57 [.ref 0, .int (jn 2080)] M3)) (hf := rfl) rfl rfl).trans ?_
                  refine kI_in (fun r4 M4 => ?_)
                  exact evn_end 1 rfl
            · refine (evn_adv 2 (q' := (57, [some (.ref 0), some (.int l1), some (.int l2), some (.int l3), some (.int l4)], [.int (jz 5), .ref 0], M3)) rfl).trans ?_
              refine (e_kI (q := (57, [some (.ref 0), some (.int l1), some (.int l2), some (.int l3), some (.int l4)], [.int (jz 5), .ref 0])) (q2 := (60, [some (.ref 0), some (.int l1), some (.int l2), some (.int l3), some (.int l4)], [])) (M := M3) (o := (pcl GG lay d 56 [.ref 0, .int (jz 5)] M3)) (hf := rfl) rfl rfl).trans ?_
              refine kI_in (fun r4 M4 => ?_)
              exact evn_end 1 rfl
/-- TermStrategies.meets(III)I -/
noncomputable abbrev E_44 (d : Nat) : PQ → PO := evn (rnn k_44 lay none (pcl GG lay d) 1)
theorem q_44 (d : Nat) (l1 : Int32) (l2 : Int32) (l3 : Int32) (M : PM) : pcl GG lay (d + 1) 44 [.ref 0, .int l1, .int l2, .int l3] M = (kI (pcl GG lay d 241 [.ref 1, .int l1] M) fun r1 M1 => (if r1 = jn 0 then (kI (pcl GG lay d 56 [.ref 0, .int (jz 1)] M1) fun r2 M2 => (rI r2 M2)) else (kI (pcl GG lay d 241 [.ref 1, .int l2] M1) fun r2 M2 => (if r2 = jn 0 then (kI (pcl GG lay d 56 [.ref 0, .int (jz 1)] M2) fun r3 M3 => (rI r3 M3)) else (if l3 < jn 0 then (kI (pcl GG lay d 56 [.ref 0, .int (jz 5)] M2) fun r3 M3 => (rI r3 M3)) else (kI (pcl GG lay d 45 [.ref 0, .int l1, .int l2, .int l3] M2) fun r3 M3 => (if l3 < r3 then (kI (pcl GG lay d 247 [.ref 1] M3) fun r4 M4 => (kV (pcl GG lay d 199 [.ref 29] M4) fun M5 => (kI (pcl GG lay d 200 [.ref 29, .int r4, .int (jn 2040)] M5) fun r6 M6 => (if r6 = (jz 2) then (rI (jn 2) M6) else (kI (pcl GG lay d 237 [.ref 6, .int r6, .int (jn 1960)] M6) fun r7 M7 => (kV (pcl GG lay d 199 [.ref 29] M7) fun M8 => (kI (pcl GG lay d 200 [.ref 29, .int r4, .int (jn 2080)] M8) fun r9 M9 => (if r9 = (jz 2) then (rI (jn 2) M9) else (kI (pcl GG lay d 235 [.ref 6, .int (jn 1960), .int r9] M9) fun r10 M10 => (if r10 = jn 0 then (rI (jn 0) M10) else (rI (jn 1) M10))))))))))) else (kI (pcl GG lay d 56 [.ref 0, .int (jz 5)] M3) fun r4 M4 => (rI r4 M4))))))))) := by
  refine (pcl_un (mt := t_44) (by decide) rfl (Nat.le_of_ble_eq_true rfl)).trans ?_
  show E_44 d (0, [some (.ref 0), some (.int l1), some (.int l2), some (.int l3), none, none], [], M) = _
  refine (evn_adv 3 (q' := (5, [some (.ref 0), some (.int l1), some (.int l2), some (.int l3), none, none], [.int l1, .ref 1], M)) rfl).trans ?_
  refine (e_kI (q := (5, [some (.ref 0), some (.int l1), some (.int l2), some (.int l3), none, none], [.int l1, .ref 1])) (q2 := (8, [some (.ref 0), some (.int l1), some (.int l2), some (.int l3), none, none], [])) (M := M) (o := (pcl GG lay d 241 [.ref 1, .int l1] M)) (hf := rfl) rfl rfl).trans ?_
  refine kI_in (fun r1 M1 => ?_)
  refine (e_if_eq (hf := rfl)).trans ?_
  refine ite_in ?_ ?_
  · refine (evn_adv 2 (q' := (24, [some (.ref 0), some (.int l1), some (.int l2), some (.int l3), none, none], [.int (jz 1), .ref 0], M1)) rfl).trans ?_
    refine (e_kI (q := (24, [some (.ref 0), some (.int l1), some (.int l2), some (.int l3), none, none], [.int (jz 1), .ref 0])) (q2 := (27, [some (.ref 0), some (.int l1), some (.int l2), some (.int l3), none, none], [])) (M := M1) (o := (pcl GG lay d 56 [.ref 0, .int (jz 1)] M1)) (hf := rfl) rfl rfl).trans ?_
    refine kI_in (fun r2 M2 => ?_)
    exact evn_end 1 rfl
  · refine (evn_adv 3 (q' := (16, [some (.ref 0), some (.int l1), some (.int l2), some (.int l3), none, none], [.int l2, .ref 1], M1)) rfl).trans ?_
    refine (e_kI (q := (16, [some (.ref 0), some (.int l1), some (.int l2), some (.int l3), none, none], [.int l2, .ref 1])) (q2 := (19, [some (.ref 0), some (.int l1), some (.int l2), some (.int l3), none, none], [])) (M := M1) (o := (pcl GG lay d 241 [.ref 1, .int l2] M1)) (hf := rfl) rfl rfl).trans ?_
    refine kI_in (fun r2 M2 => ?_)
    refine (e_if_ne (hf := rfl)).trans ?_
    refine ite_in ?_ ?_
    · refine (evn_adv 2 (q' := (24, [some (.ref 0), some (.int l1), some (.int l2), some (.int l3), none, none], [.int (jz 1), .ref 0], M2)) rfl).trans ?_
      refine (e_kI (q := (24, [some (.ref 0), some (.int l1), some (.int l2), some (.int l3), none, none], [.int (jz 1), .ref 0])) (q2 := (27, [some (.ref 0), some (.int l1), some (.int l2), some (.int l3), none, none], [])) (M := M2) (o := (pcl GG lay d 56 [.ref 0, .int (jz 1)] M2)) (hf := rfl) rfl rfl).trans ?_
      refine kI_in (fun r3 M3 => ?_)
      exact evn_end 1 rfl
    · refine (evn_adv 1 (q' := (29, [some (.ref 0), some (.int l1), some (.int l2), some (.int l3), none, none], [.int l3], M2)) rfl).trans ?_
      refine (e_if_lt (hf := rfl)).trans ?_
      refine ite_in ?_ ?_
      · refine (evn_adv 2 (q' := (46, [some (.ref 0), some (.int l1), some (.int l2), some (.int l3), none, none], [.int (jz 5), .ref 0], M2)) rfl).trans ?_
        refine (e_kI (q := (46, [some (.ref 0), some (.int l1), some (.int l2), some (.int l3), none, none], [.int (jz 5), .ref 0])) (q2 := (49, [some (.ref 0), some (.int l1), some (.int l2), some (.int l3), none, none], [])) (M := M2) (o := (pcl GG lay d 56 [.ref 0, .int (jz 5)] M2)) (hf := rfl) rfl rfl).trans ?_
        refine kI_in (fun r3 M3 => ?_)
        exact evn_end 1 rfl
      · refine (evn_adv 4 (q' := (36, [some (.ref 0), some (.int l1), some (.int l2), some (.int l3), none, none], [.int l3, .int l2, .int l1, .ref 0], M2)) rfl).trans ?_
        refine (e_kI (q := (36, [some (.ref 0), some (.int l1), some (.int l2), some (.int l3), none, none], [.int l3, .int l2, .int l1, .ref 0])) (q2 := (39, [some (.ref 0), some (.int l1), some (.int l2), some (.int l3), none, none], [])) (M := M2) (o := (pcl GG lay d 45 [.ref 0, .int l1, .int l2, .int l3] M2)) (hf := rfl) rfl rfl).trans ?_
        refine kI_in (fun r3 M3 => ?_)
        refine (evn_adv 1 (q' := (40, [some (.ref 0), some (.int l1), some (.int l2), some (.int l3), none, none], [.int l3, .int r3], M3)) rfl).trans ?_
        refine (e_ic_gt (hf := rfl)).trans ?_
        refine ite_in ?_ ?_
        · refine (evn_adv 2 (q' := (54, [some (.ref 0), some (.int l1), some (.int l2), some (.int l3), none, none], [.ref 1], M3)) rfl).trans ?_
          refine (e_kI (q := (54, [some (.ref 0), some (.int l1), some (.int l2), some (.int l3), none, none], [.ref 1])) (q2 := (57, [some (.ref 0), some (.int l1), some (.int l2), some (.int l3), none, none], [])) (M := M3) (o := (pcl GG lay d 247 [.ref 1] M3)) (hf := rfl) rfl rfl).trans ?_
          refine kI_in (fun r4 M4 => ?_)
          refine (evn_adv 3 (q' := (63, [some (.ref 0), some (.int l1), some (.int l2), some (.int l3), some (.int r4), none], [.ref 29], M4)) rfl).trans ?_
          refine (e_kV (q := (63, [some (.ref 0), some (.int l1), some (.int l2), some (.int l3), some (.int r4), none], [.ref 29])) (q2 := (66, [some (.ref 0), some (.int l1), some (.int l2), some (.int l3), some (.int r4), none], [])) (M := M4) (o := (pcl GG lay d 199 [.ref 29] M4)) (hf := rfl) rfl rfl).trans ?_
          refine kV_in (fun M5 => ?_)
          refine (evn_adv 4 (q' := (75, [some (.ref 0), some (.int l1), some (.int l2), some (.int l3), some (.int r4), none], [.int (jn 2040), .int r4, .ref 29], M5)) rfl).trans ?_
          refine (e_kI (q := (75, [some (.ref 0), some (.int l1), some (.int l2), some (.int l3), some (.int r4), none], [.int (jn 2040), .int r4, .ref 29])) (q2 := (78, [some (.ref 0), some (.int l1), some (.int l2), some (.int l3), some (.int r4), none], [])) (M := M5) (o := (pcl GG lay d 200 [.ref 29, .int r4, .int (jn 2040)] M5)) (hf := rfl) rfl rfl).trans ?_
          refine kI_in (fun r6 M6 => ?_)
          refine (evn_adv 3 (q' := (84, [some (.ref 0), some (.int l1), some (.int l2), some (.int l3), some (.int r4), some (.int r6)], [.int (jz 2), .int r6], M6)) rfl).trans ?_
          refine (e_ic_ne (hf := rfl)).trans ?_
          refine ite_in ?_ ?_
          · refine (evn_adv 1 (q' := (88, [some (.ref 0), some (.int l1), some (.int l2), some (.int l3), some (.int r4), some (.int r6)], [.int (jn 2)], M6)) rfl).trans ?_
            exact evn_end 1 rfl
          · refine (evn_adv 4 (q' := (98, [some (.ref 0), some (.int l1), some (.int l2), some (.int l3), some (.int r4), some (.int r6)], [.int (jn 1960), .int r6, .ref 6], M6)) rfl).trans ?_
            refine (e_kI (q := (98, [some (.ref 0), some (.int l1), some (.int l2), some (.int l3), some (.int r4), some (.int r6)], [.int (jn 1960), .int r6, .ref 6])) (q2 := (101, [some (.ref 0), some (.int l1), some (.int l2), some (.int l3), some (.int r4), some (.int r6)], [])) (M := M6) (o := (pcl GG lay d 237 [.ref 6, .int r6, .int (jn 1960)] M6)) (hf := rfl) rfl rfl).trans ?_
            refine kI_in (fun r7 M7 => ?_)
            refine (evn_adv 3 (q' := (106, [some (.ref 0), some (.int l1), some (.int l2), some (.int l3), some (.int r4), some (.int r6)], [.ref 29], M7)) rfl).trans ?_
            refine (e_kV (q := (106, [some (.ref 0), some (.int l1), some (.int l2), some (.int l3), some (.int r4), some (.int r6)], [.ref 29])) (q2 := (109, [some (.ref 0), some (.int l1), some (.int l2), some (.int l3), some (.int r4), some (.int r6)], [])) (M := M7) (o := (pcl GG lay d 199 [.ref 29] M7)) (hf := rfl) rfl rfl).trans ?_
            refine kV_in (fun M8 => ?_)
            refine (evn_adv 4 (q' := (118, [some (.ref 0), some (.int l1), some (.int l2), some (.int l3), some (.int r4), some (.int r6)], [.int (jn 2080), .int r4, .ref 29], M8)) rfl).trans ?_
            refine (e_kI (q := (118, [some (.ref 0), some (.int l1), some (.int l2), some (.int l3), some (.int r4), some (.int r6)], [.int (jn 2080), .int r4, .ref 29])) (q2 := (121, [some (.ref 0), some (.int l1), some (.int l2), some (.int l3), some (.int r4), some (.int r6)], [])) (M := M8) (o := (pcl GG lay d 200 [.ref 29, .int r4, .int (jn 2080)] M8)) (hf := rfl) rfl rfl).trans ?_
            refine kI_in (fun r9 M9 => ?_)
            refine (evn_adv 3 (q' := (127, [some (.ref 0), some (.int l1), some (.int l2), some (.int l3), some (.int r4), some (.int r9)], [.int (jz 2), .int r9], M9)) rfl).trans ?_
            refine (e_ic_ne (hf := rfl)).trans ?_
            refine ite_in ?_ ?_
            · refine (evn_adv 1 (q' := (131, [some (.ref 0), some (.int l1), some (.int l2), some (.int l3), some (.int r4), some (.int r9)], [.int (jn 2)], M9)) rfl).trans ?_
              exact evn_end 1 rfl
            · refine (evn_adv 4 (q' := (141, [some (.ref 0), some (.int l1), some (.int l2), some (.int l3), some (.int r4), some (.int r9)], [.int r9, .int (jn 1960), .ref 6], M9)) rfl).trans ?_
              refine (e_kI (q := (141, [some (.ref 0), some (.int l1), some (.int l2), some (.int l3), some (.int r4), some (.int r9)], [.int r9, .int (jn 1960), .ref 6])) (q2 := (144, [some (.ref 0), some (.int l1), some (.int l2), some (.int l3), some (.int r4), some (.int r9)], [])) (M := M9) (o := (pcl GG lay d 235 [.ref 6, .int (jn 1960), .int r9] M9)) (hf := rfl) rfl rfl).trans ?_
              refine kI_in (fun r10 M10 => ?_)
              refine (e_if_eq (hf := rfl)).trans ?_
              refine ite_in ?_ ?_
              · refine (evn_adv 1 (q' := (152, [some (.ref 0), some (.int l1), some (.int l2), some (.int l3), some (.int r4), some (.int r9)], [.int (jn 0)], M10)) rfl).trans ?_
                exact evn_end 1 rfl
              · refine (evn_adv 2 (q' := (152, [some (.ref 0), some (.int l1), some (.int l2), some (.int l3), some (.int r4), some (.int r9)], [.int (jn 1)], M10)) rfl).trans ?_
                exact evn_end 1 rfl
        · refine (evn_adv 2 (q' := (46, [some (.ref 0), some (.int l1), some (.int l2), some (.int l3), none, none], [.int (jz 5), .ref 0], M3)) rfl).trans ?_
          refine (e_kI (q := (46, [some (.ref 0), some (.int l1), some (.int l2), some (.int l3), none, none], [.int (jz 5), .ref 0])) (q2 := (49, [some (.ref 0), some (.int l1), some (.int l2), some (.int l3), none, none], [])) (M := M3) (o := (pcl GG lay d 56 [.ref 0, .int (jz 5)] M3)) (hf := rfl) rfl rfl).trans ?_
          refine kI_in (fun r4 M4 => ?_)
          exact evn_end 1 rfl
/-- TermStrategies.seekOverlap(III)I -/
noncomputable abbrev E_45 (d : Nat) : PQ → PO := evn (rnn k_45 lay none (pcl GG lay d) 1)
theorem q_45 (d : Nat) (l1 : Int32) (l2 : Int32) (l3 : Int32) (M : PM) : pcl GG lay (d + 1) 45 [.ref 0, .int l1, .int l2, .int l3] M = (kI (pcl GG lay d 60 [.int l1] M) fun r1 M1 => (kI (pcl GG lay d 41 [.ref 0, .int r1] M1) fun r2 M2 => (if r2 = jn 0 then (kI (pcl GG lay d 60 [.int l2] M2) fun r3 M3 => (kI (pcl GG lay d 41 [.ref 0, .int r3] M3) fun r4 M4 => (if r4 = jn 0 then (kI (pcl GG lay d 60 [.int l1] M4) fun r5 M5 => (kI (pcl GG lay d 234 [.ref 6, .int r5] M5) fun r6 M6 => (if l1 = l2 then E_45 d (52, [some (.ref 0), some (.int l1), some (.int l2), some (.int l3), some (.int r6), some (.int (jn 0)), some (.int (jn 1))], [], M6) else E_45 d (52, [some (.ref 0), some (.int l1), some (.int l2), some (.int l3), some (.int r6), some (.int (jn 0)), some (.int (jn 0))], [], M6)))) else (rI (jn 0) M4)))) else (rI (jn 0) M2)))) := by
  refine (pcl_un (mt := t_45) (by decide) rfl (Nat.le_of_ble_eq_true rfl)).trans ?_
  show E_45 d (0, [some (.ref 0), some (.int l1), some (.int l2), some (.int l3), none, none, none], [], M) = _
  refine (evn_adv 2 (q' := (2, [some (.ref 0), some (.int l1), some (.int l2), some (.int l3), none, none, none], [.int l1, .ref 0], M)) rfl).trans ?_
  refine (e_kI (q := (2, [some (.ref 0), some (.int l1), some (.int l2), some (.int l3), none, none, none], [.int l1, .ref 0])) (q2 := (5, [some (.ref 0), some (.int l1), some (.int l2), some (.int l3), none, none, none], [.ref 0])) (M := M) (o := (pcl GG lay d 60 [.int l1] M)) (hf := rfl) rfl rfl).trans ?_
  refine kI_in (fun r1 M1 => ?_)
  refine (e_kI (q := (5, [some (.ref 0), some (.int l1), some (.int l2), some (.int l3), none, none, none], [.int r1, .ref 0])) (q2 := (8, [some (.ref 0), some (.int l1), some (.int l2), some (.int l3), none, none, none], [])) (M := M1) (o := (pcl GG lay d 41 [.ref 0, .int r1] M1)) (hf := rfl) rfl rfl).trans ?_
  refine kI_in (fun r2 M2 => ?_)
  refine (e_if_ne (hf := rfl)).trans ?_
  refine ite_in ?_ ?_
  · refine (evn_adv 2 (q' := (13, [some (.ref 0), some (.int l1), some (.int l2), some (.int l3), none, none, none], [.int l2, .ref 0], M2)) rfl).trans ?_
    refine (e_kI (q := (13, [some (.ref 0), some (.int l1), some (.int l2), some (.int l3), none, none, none], [.int l2, .ref 0])) (q2 := (16, [some (.ref 0), some (.int l1), some (.int l2), some (.int l3), none, none, none], [.ref 0])) (M := M2) (o := (pcl GG lay d 60 [.int l2] M2)) (hf := rfl) rfl rfl).trans ?_
    refine kI_in (fun r3 M3 => ?_)
    refine (e_kI (q := (16, [some (.ref 0), some (.int l1), some (.int l2), some (.int l3), none, none, none], [.int r3, .ref 0])) (q2 := (19, [some (.ref 0), some (.int l1), some (.int l2), some (.int l3), none, none, none], [])) (M := M3) (o := (pcl GG lay d 41 [.ref 0, .int r3] M3)) (hf := rfl) rfl rfl).trans ?_
    refine kI_in (fun r4 M4 => ?_)
    refine (e_if_eq (hf := rfl)).trans ?_
    refine ite_in ?_ ?_
    · refine (evn_adv 3 (q' := (29, [some (.ref 0), some (.int l1), some (.int l2), some (.int l3), none, none, none], [.int l1, .ref 6], M4)) rfl).trans ?_
      refine (e_kI (q := (29, [some (.ref 0), some (.int l1), some (.int l2), some (.int l3), none, none, none], [.int l1, .ref 6])) (q2 := (32, [some (.ref 0), some (.int l1), some (.int l2), some (.int l3), none, none, none], [.ref 6])) (M := M4) (o := (pcl GG lay d 60 [.int l1] M4)) (hf := rfl) rfl rfl).trans ?_
      refine kI_in (fun r5 M5 => ?_)
      refine (e_kI (q := (32, [some (.ref 0), some (.int l1), some (.int l2), some (.int l3), none, none, none], [.int r5, .ref 6])) (q2 := (35, [some (.ref 0), some (.int l1), some (.int l2), some (.int l3), none, none, none], [])) (M := M5) (o := (pcl GG lay d 234 [.ref 6, .int r5] M5)) (hf := rfl) rfl rfl).trans ?_
      refine kI_in (fun r6 M6 => ?_)
      refine (evn_adv 5 (q' := (42, [some (.ref 0), some (.int l1), some (.int l2), some (.int l3), some (.int r6), some (.int (jn 0)), none], [.int l2, .int l1], M6)) rfl).trans ?_
      refine (e_ic_ne (hf := rfl)).trans ?_
      refine ite_in ?_ ?_
      · refine (evn_adv 3 (q' := (52, [some (.ref 0), some (.int l1), some (.int l2), some (.int l3), some (.int r6), some (.int (jn 0)), some (.int (jn 1))], [], M6)) rfl).trans ?_
        rfl
      · refine (evn_adv 2 (q' := (52, [some (.ref 0), some (.int l1), some (.int l2), some (.int l3), some (.int r6), some (.int (jn 0)), some (.int (jn 0))], [], M6)) rfl).trans ?_
        rfl
    · refine (evn_adv 1 (q' := (23, [some (.ref 0), some (.int l1), some (.int l2), some (.int l3), none, none, none], [.int (jn 0)], M4)) rfl).trans ?_
      exact evn_end 1 rfl
  · refine (evn_adv 1 (q' := (23, [some (.ref 0), some (.int l1), some (.int l2), some (.int l3), none, none, none], [.int (jn 0)], M2)) rfl).trans ?_
    exact evn_end 1 rfl
theorem h_45_52 (d : Nat) (l1 : Int32) (l2 : Int32) (l3 : Int32) (l4 : Int32) (l5 : Int32) (l6 : Int32) (M : PM) : E_45 d (52, [some (.ref 0), some (.int l1), some (.int l2), some (.int l3), some (.int l4), some (.int l5), some (.int l6)], [], M) = (if l6 < l4 then (kI (pcl GG lay d 46 [.ref 0, .int l1, .int l2, .int l6] M) fun r1 M1 => (if r1 = jn 0 then E_45 d (52, [some (.ref 0), some (.int l1), some (.int l2), some (.int l3), some (.int l4), some (.int l5), some (.int (l6 + (jn 1)))], [], M1) else (if ((l5 + (jn 1)) - (jn 1)) = l3 then (rI (l5 + (jn 1)) M1) else E_45 d (52, [some (.ref 0), some (.int l1), some (.int l2), some (.int l3), some (.int l4), some (.int (l5 + (jn 1))), some (.int (l6 + (jn 1)))], [], M1)))) else (rI l5 M)) := by
  refine (evn_adv 2 (q' := (56, [some (.ref 0), some (.int l1), some (.int l2), some (.int l3), some (.int l4), some (.int l5), some (.int l6)], [.int l4, .int l6], M)) rfl).trans ?_
  refine (e_ic_ge (hf := rfl)).trans ?_
  refine ite_in ?_ ?_
  · refine (evn_adv 4 (q' := (64, [some (.ref 0), some (.int l1), some (.int l2), some (.int l3), some (.int l4), some (.int l5), some (.int l6)], [.int l6, .int l2, .int l1, .ref 0], M)) rfl).trans ?_
    refine (e_kI (q := (64, [some (.ref 0), some (.int l1), some (.int l2), some (.int l3), some (.int l4), some (.int l5), some (.int l6)], [.int l6, .int l2, .int l1, .ref 0])) (q2 := (67, [some (.ref 0), some (.int l1), some (.int l2), some (.int l3), some (.int l4), some (.int l5), some (.int l6)], [])) (M := M) (o := (pcl GG lay d 46 [.ref 0, .int l1, .int l2, .int l6] M)) (hf := rfl) rfl rfl).trans ?_
    refine kI_in (fun r1 M1 => ?_)
    refine (e_if_eq (hf := rfl)).trans ?_
    refine ite_in ?_ ?_
    · refine (evn_adv 2 (q' := (52, [some (.ref 0), some (.int l1), some (.int l2), some (.int l3), some (.int l4), some (.int l5), some (.int (l6 + (jn 1)))], [], M1)) rfl).trans ?_
      rfl
    · refine (evn_adv 5 (q' := (78, [some (.ref 0), some (.int l1), some (.int l2), some (.int l3), some (.int l4), some (.int (l5 + (jn 1))), some (.int l6)], [.int l3, .int ((l5 + (jn 1)) - (jn 1))], M1)) rfl).trans ?_
      refine (e_ic_ne (hf := rfl)).trans ?_
      refine ite_in ?_ ?_
      · refine (evn_adv 1 (q' := (83, [some (.ref 0), some (.int l1), some (.int l2), some (.int l3), some (.int l4), some (.int (l5 + (jn 1))), some (.int l6)], [.int (l5 + (jn 1))], M1)) rfl).trans ?_
        exact evn_end 1 rfl
      · refine (evn_adv 2 (q' := (52, [some (.ref 0), some (.int l1), some (.int l2), some (.int l3), some (.int l4), some (.int (l5 + (jn 1))), some (.int (l6 + (jn 1)))], [], M1)) rfl).trans ?_
        rfl
  · refine (evn_adv 1 (q' := (92, [some (.ref 0), some (.int l1), some (.int l2), some (.int l3), some (.int l4), some (.int l5), some (.int l6)], [.int l5], M)) rfl).trans ?_
    exact evn_end 1 rfl
/-- TermStrategies.layOverlap(III)Z -/
noncomputable abbrev E_46 (d : Nat) : PQ → PO := evn (rnn k_46 lay none (pcl GG lay d) 2)
theorem q_46 (d : Nat) (l1 : Int32) (l2 : Int32) (l3 : Int32) (M : PM) : pcl GG lay (d + 1) 46 [.ref 0, .int l1, .int l2, .int l3] M = (kI (pcl GG lay d 60 [.int l1] M) fun r1 M1 => (kI (pcl GG lay d 231 [.ref 6, .int (r1 + l3)] M1) fun r2 M2 => (kI (pcl GG lay d 62 [.int r2] M2) fun r3 M3 => (if r3 = jn 0 then (kI (pcl GG lay d 60 [.int l2] M3) fun r4 M4 => (kI (pcl GG lay d 259 [.ref 40, .int r1, .int r4, .int l3] M4) fun r5 M5 => (if r5 = jn 0 then (rZ (jn 0) M5) else (kV (pcl GG lay d 268 [.ref 40, .int (jn 2000)] M5) fun M6 => (kI (pcl GG lay d 233 [.ref 6, .int r1] M6) fun r7 M7 => (kV (pcl GG lay d 269 [.ref 40, .int r1, .int r7, .int (jn 0)] M7) fun M8 => (kV (pcl GG lay d 268 [.ref 40, .int (jn 2040)] M8) fun M9 => (kI (pcl GG lay d 61 [.int l1] M9) fun r10 M10 => (kI (pcl GG lay d 61 [.int l1] M10) fun r11 M11 => (kI (pcl GG lay d 233 [.ref 6, .int r11] M11) fun r12 M12 => (kV (pcl GG lay d 269 [.ref 40, .int r10, .int r12, .int (jn 0)] M12) fun M13 => (kV (pcl GG lay d 268 [.ref 40, .int (jn 2080)] M13) fun M14 => (kV (pcl GG lay d 269 [.ref 40, .int r1, .int (r1 + l3), .int (jn 0)] M14) fun M15 => (kI (pcl GG lay d 61 [.int l2] M15) fun r16 M16 => (kI (pcl GG lay d 61 [.int l2] M16) fun r17 M17 => (kI (pcl GG lay d 233 [.ref 6, .int r17] M17) fun r18 M18 => (kV (pcl GG lay d 269 [.ref 40, .int r16, .int r18, .int (jn 6)] M18) fun M19 => (kI (pcl GG lay d 233 [.ref 6, .int (r1 + l3)] M19) fun r20 M20 => (kI (pcl GG lay d 233 [.ref 6, .int r1] M20) fun r21 M21 => (kV (pcl GG lay d 269 [.ref 40, .int r20, .int r21, .int (jn 0)] M21) fun M22 => (if (M22.1 40 12) = jn 0 then (rZ (jn 1) M22) else (rZ (jn 0) M22)))))))))))))))))))))) else (rZ (jn 0) M3))))) := by
  refine (pcl_un (mt := t_46) (by decide) rfl (Nat.le_of_ble_eq_true rfl)).trans ?_
  show E_46 d (0, [some (.ref 0), some (.int l1), some (.int l2), some (.int l3), none, none], [], M) = _
  refine (evn_adv 1 (q' := (1, [some (.ref 0), some (.int l1), some (.int l2), some (.int l3), none, none], [.int l1], M)) rfl).trans ?_
  refine (e_kI (q := (1, [some (.ref 0), some (.int l1), some (.int l2), some (.int l3), none, none], [.int l1])) (q2 := (4, [some (.ref 0), some (.int l1), some (.int l2), some (.int l3), none, none], [])) (M := M) (o := (pcl GG lay d 60 [.int l1] M)) (hf := rfl) rfl rfl).trans ?_
  refine kI_in (fun r1 M1 => ?_)
  refine (evn_adv 8 (q' := (18, [some (.ref 0), some (.int l1), some (.int l2), some (.int l3), some (.int r1), some (.int (r1 + l3))], [.int (r1 + l3), .ref 6], M1)) rfl).trans ?_
  refine (e_kI (q := (18, [some (.ref 0), some (.int l1), some (.int l2), some (.int l3), some (.int r1), some (.int (r1 + l3))], [.int (r1 + l3), .ref 6])) (q2 := (21, [some (.ref 0), some (.int l1), some (.int l2), some (.int l3), some (.int r1), some (.int (r1 + l3))], [])) (M := M1) (o := (pcl GG lay d 231 [.ref 6, .int (r1 + l3)] M1)) (hf := rfl) rfl rfl).trans ?_
  refine kI_in (fun r2 M2 => ?_)
  refine (e_kI (q := (21, [some (.ref 0), some (.int l1), some (.int l2), some (.int l3), some (.int r1), some (.int (r1 + l3))], [.int r2])) (q2 := (24, [some (.ref 0), some (.int l1), some (.int l2), some (.int l3), some (.int r1), some (.int (r1 + l3))], [])) (M := M2) (o := (pcl GG lay d 62 [.int r2] M2)) (hf := rfl) rfl rfl).trans ?_
  refine kI_in (fun r3 M3 => ?_)
  refine (e_if_ne (hf := rfl)).trans ?_
  refine ite_in ?_ ?_
  · refine (evn_adv 4 (q' := (34, [some (.ref 0), some (.int l1), some (.int l2), some (.int l3), some (.int r1), some (.int (r1 + l3))], [.int l2, .int r1, .ref 40], M3)) rfl).trans ?_
    refine (e_kI (q := (34, [some (.ref 0), some (.int l1), some (.int l2), some (.int l3), some (.int r1), some (.int (r1 + l3))], [.int l2, .int r1, .ref 40])) (q2 := (37, [some (.ref 0), some (.int l1), some (.int l2), some (.int l3), some (.int r1), some (.int (r1 + l3))], [.int r1, .ref 40])) (M := M3) (o := (pcl GG lay d 60 [.int l2] M3)) (hf := rfl) rfl rfl).trans ?_
    refine kI_in (fun r4 M4 => ?_)
    refine (evn_adv 1 (q' := (38, [some (.ref 0), some (.int l1), some (.int l2), some (.int l3), some (.int r1), some (.int (r1 + l3))], [.int l3, .int r4, .int r1, .ref 40], M4)) rfl).trans ?_
    refine (e_kI (q := (38, [some (.ref 0), some (.int l1), some (.int l2), some (.int l3), some (.int r1), some (.int (r1 + l3))], [.int l3, .int r4, .int r1, .ref 40])) (q2 := (41, [some (.ref 0), some (.int l1), some (.int l2), some (.int l3), some (.int r1), some (.int (r1 + l3))], [])) (M := M4) (o := (pcl GG lay d 259 [.ref 40, .int r1, .int r4, .int l3] M4)) (hf := rfl) rfl rfl).trans ?_
    refine kI_in (fun r5 M5 => ?_)
    refine (e_if_ne (hf := rfl)).trans ?_
    refine ite_in ?_ ?_
    · refine (evn_adv 1 (q' := (45, [some (.ref 0), some (.int l1), some (.int l2), some (.int l3), some (.int r1), some (.int (r1 + l3))], [.int (jn 0)], M5)) rfl).trans ?_
      exact e_iretz (hf := rfl)
    · refine (evn_adv 3 (q' := (53, [some (.ref 0), some (.int l1), some (.int l2), some (.int l3), some (.int r1), some (.int (r1 + l3))], [.int (jn 2000), .ref 40], M5)) rfl).trans ?_
      refine (e_kV (q := (53, [some (.ref 0), some (.int l1), some (.int l2), some (.int l3), some (.int r1), some (.int (r1 + l3))], [.int (jn 2000), .ref 40])) (q2 := (56, [some (.ref 0), some (.int l1), some (.int l2), some (.int l3), some (.int r1), some (.int (r1 + l3))], [])) (M := M5) (o := (pcl GG lay d 268 [.ref 40, .int (jn 2000)] M5)) (hf := rfl) rfl rfl).trans ?_
      refine kV_in (fun M6 => ?_)
      refine (evn_adv 6 (q' := (68, [some (.ref 0), some (.int l1), some (.int l2), some (.int l3), some (.int r1), some (.int (r1 + l3))], [.int r1, .ref 6, .int r1, .ref 40], M6)) rfl).trans ?_
      refine (e_kI (q := (68, [some (.ref 0), some (.int l1), some (.int l2), some (.int l3), some (.int r1), some (.int (r1 + l3))], [.int r1, .ref 6, .int r1, .ref 40])) (q2 := (71, [some (.ref 0), some (.int l1), some (.int l2), some (.int l3), some (.int r1), some (.int (r1 + l3))], [.int r1, .ref 40])) (M := M6) (o := (pcl GG lay d 233 [.ref 6, .int r1] M6)) (hf := rfl) rfl rfl).trans ?_
      refine kI_in (fun r7 M7 => ?_)
      refine (evn_adv 1 (q' := (72, [some (.ref 0), some (.int l1), some (.int l2), some (.int l3), some (.int r1), some (.int (r1 + l3))], [.int (jn 0), .int r7, .int r1, .ref 40], M7)) rfl).trans ?_
      refine (e_kV (q := (72, [some (.ref 0), some (.int l1), some (.int l2), some (.int l3), some (.int r1), some (.int (r1 + l3))], [.int (jn 0), .int r7, .int r1, .ref 40])) (q2 := (75, [some (.ref 0), some (.int l1), some (.int l2), some (.int l3), some (.int r1), some (.int (r1 + l3))], [])) (M := M7) (o := (pcl GG lay d 269 [.ref 40, .int r1, .int r7, .int (jn 0)] M7)) (hf := rfl) rfl rfl).trans ?_
      refine kV_in (fun M8 => ?_)
      refine (evn_adv 3 (q' := (82, [some (.ref 0), some (.int l1), some (.int l2), some (.int l3), some (.int r1), some (.int (r1 + l3))], [.int (jn 2040), .ref 40], M8)) rfl).trans ?_
      refine (e_kV (q := (82, [some (.ref 0), some (.int l1), some (.int l2), some (.int l3), some (.int r1), some (.int (r1 + l3))], [.int (jn 2040), .ref 40])) (q2 := (85, [some (.ref 0), some (.int l1), some (.int l2), some (.int l3), some (.int r1), some (.int (r1 + l3))], [])) (M := M8) (o := (pcl GG lay d 268 [.ref 40, .int (jn 2040)] M8)) (hf := rfl) rfl rfl).trans ?_
      refine kV_in (fun M9 => ?_)
      refine (evn_adv 3 (q' := (90, [some (.ref 0), some (.int l1), some (.int l2), some (.int l3), some (.int r1), some (.int (r1 + l3))], [.int l1, .ref 40], M9)) rfl).trans ?_
      refine (e_kI (q := (90, [some (.ref 0), some (.int l1), some (.int l2), some (.int l3), some (.int r1), some (.int (r1 + l3))], [.int l1, .ref 40])) (q2 := (93, [some (.ref 0), some (.int l1), some (.int l2), some (.int l3), some (.int r1), some (.int (r1 + l3))], [.ref 40])) (M := M9) (o := (pcl GG lay d 61 [.int l1] M9)) (hf := rfl) rfl rfl).trans ?_
      refine kI_in (fun r10 M10 => ?_)
      refine (evn_adv 3 (q' := (98, [some (.ref 0), some (.int l1), some (.int l2), some (.int l3), some (.int r1), some (.int (r1 + l3))], [.int l1, .ref 6, .int r10, .ref 40], M10)) rfl).trans ?_
      refine (e_kI (q := (98, [some (.ref 0), some (.int l1), some (.int l2), some (.int l3), some (.int r1), some (.int (r1 + l3))], [.int l1, .ref 6, .int r10, .ref 40])) (q2 := (101, [some (.ref 0), some (.int l1), some (.int l2), some (.int l3), some (.int r1), some (.int (r1 + l3))], [.ref 6, .int r10, .ref 40])) (M := M10) (o := (pcl GG lay d 61 [.int l1] M10)) (hf := rfl) rfl rfl).trans ?_
      refine kI_in (fun r11 M11 => ?_)
      refine (e_kI (q := (101, [some (.ref 0), some (.int l1), some (.int l2), some (.int l3), some (.int r1), some (.int (r1 + l3))], [.int r11, .ref 6, .int r10, .ref 40])) (q2 := (104, [some (.ref 0), some (.int l1), some (.int l2), some (.int l3), some (.int r1), some (.int (r1 + l3))], [.int r10, .ref 40])) (M := M11) (o := (pcl GG lay d 233 [.ref 6, .int r11] M11)) (hf := rfl) rfl rfl).trans ?_
      refine kI_in (fun r12 M12 => ?_)
      refine (evn_adv 1 (q' := (105, [some (.ref 0), some (.int l1), some (.int l2), some (.int l3), some (.int r1), some (.int (r1 + l3))], [.int (jn 0), .int r12, .int r10, .ref 40], M12)) rfl).trans ?_
      refine (e_kV (q := (105, [some (.ref 0), some (.int l1), some (.int l2), some (.int l3), some (.int r1), some (.int (r1 + l3))], [.int (jn 0), .int r12, .int r10, .ref 40])) (q2 := (108, [some (.ref 0), some (.int l1), some (.int l2), some (.int l3), some (.int r1), some (.int (r1 + l3))], [])) (M := M12) (o := (pcl GG lay d 269 [.ref 40, .int r10, .int r12, .int (jn 0)] M12)) (hf := rfl) rfl rfl).trans ?_
      refine kV_in (fun M13 => ?_)
      refine (evn_adv 3 (q' := (115, [some (.ref 0), some (.int l1), some (.int l2), some (.int l3), some (.int r1), some (.int (r1 + l3))], [.int (jn 2080), .ref 40], M13)) rfl).trans ?_
      refine (e_kV (q := (115, [some (.ref 0), some (.int l1), some (.int l2), some (.int l3), some (.int r1), some (.int (r1 + l3))], [.int (jn 2080), .ref 40])) (q2 := (118, [some (.ref 0), some (.int l1), some (.int l2), some (.int l3), some (.int r1), some (.int (r1 + l3))], [])) (M := M13) (o := (pcl GG lay d 268 [.ref 40, .int (jn 2080)] M13)) (hf := rfl) rfl rfl).trans ?_
      refine kV_in (fun M14 => ?_)
      refine (evn_adv 5 (q' := (127, [some (.ref 0), some (.int l1), some (.int l2), some (.int l3), some (.int r1), some (.int (r1 + l3))], [.int (jn 0), .int (r1 + l3), .int r1, .ref 40], M14)) rfl).trans ?_
      refine (e_kV (q := (127, [some (.ref 0), some (.int l1), some (.int l2), some (.int l3), some (.int r1), some (.int (r1 + l3))], [.int (jn 0), .int (r1 + l3), .int r1, .ref 40])) (q2 := (130, [some (.ref 0), some (.int l1), some (.int l2), some (.int l3), some (.int r1), some (.int (r1 + l3))], [])) (M := M14) (o := (pcl GG lay d 269 [.ref 40, .int r1, .int (r1 + l3), .int (jn 0)] M14)) (hf := rfl) rfl rfl).trans ?_
      refine kV_in (fun M15 => ?_)
      refine (evn_adv 3 (q' := (135, [some (.ref 0), some (.int l1), some (.int l2), some (.int l3), some (.int r1), some (.int (r1 + l3))], [.int l2, .ref 40], M15)) rfl).trans ?_
      refine (e_kI (q := (135, [some (.ref 0), some (.int l1), some (.int l2), some (.int l3), some (.int r1), some (.int (r1 + l3))], [.int l2, .ref 40])) (q2 := (138, [some (.ref 0), some (.int l1), some (.int l2), some (.int l3), some (.int r1), some (.int (r1 + l3))], [.ref 40])) (M := M15) (o := (pcl GG lay d 61 [.int l2] M15)) (hf := rfl) rfl rfl).trans ?_
      refine kI_in (fun r16 M16 => ?_)
      refine (evn_adv 3 (q' := (143, [some (.ref 0), some (.int l1), some (.int l2), some (.int l3), some (.int r1), some (.int (r1 + l3))], [.int l2, .ref 6, .int r16, .ref 40], M16)) rfl).trans ?_
      refine (e_kI (q := (143, [some (.ref 0), some (.int l1), some (.int l2), some (.int l3), some (.int r1), some (.int (r1 + l3))], [.int l2, .ref 6, .int r16, .ref 40])) (q2 := (146, [some (.ref 0), some (.int l1), some (.int l2), some (.int l3), some (.int r1), some (.int (r1 + l3))], [.ref 6, .int r16, .ref 40])) (M := M16) (o := (pcl GG lay d 61 [.int l2] M16)) (hf := rfl) rfl rfl).trans ?_
      refine kI_in (fun r17 M17 => ?_)
      refine (e_kI (q := (146, [some (.ref 0), some (.int l1), some (.int l2), some (.int l3), some (.int r1), some (.int (r1 + l3))], [.int r17, .ref 6, .int r16, .ref 40])) (q2 := (149, [some (.ref 0), some (.int l1), some (.int l2), some (.int l3), some (.int r1), some (.int (r1 + l3))], [.int r16, .ref 40])) (M := M17) (o := (pcl GG lay d 233 [.ref 6, .int r17] M17)) (hf := rfl) rfl rfl).trans ?_
      refine kI_in (fun r18 M18 => ?_)
      refine (evn_adv 1 (q' := (151, [some (.ref 0), some (.int l1), some (.int l2), some (.int l3), some (.int r1), some (.int (r1 + l3))], [.int (jn 6), .int r18, .int r16, .ref 40], M18)) rfl).trans ?_
      refine (e_kV (q := (151, [some (.ref 0), some (.int l1), some (.int l2), some (.int l3), some (.int r1), some (.int (r1 + l3))], [.int (jn 6), .int r18, .int r16, .ref 40])) (q2 := (154, [some (.ref 0), some (.int l1), some (.int l2), some (.int l3), some (.int r1), some (.int (r1 + l3))], [])) (M := M18) (o := (pcl GG lay d 269 [.ref 40, .int r16, .int r18, .int (jn 6)] M18)) (hf := rfl) rfl rfl).trans ?_
      refine kV_in (fun M19 => ?_)
      refine (evn_adv 5 (q' := (164, [some (.ref 0), some (.int l1), some (.int l2), some (.int l3), some (.int r1), some (.int (r1 + l3))], [.int (r1 + l3), .ref 6, .ref 40], M19)) rfl).trans ?_
      refine (e_kI (q := (164, [some (.ref 0), some (.int l1), some (.int l2), some (.int l3), some (.int r1), some (.int (r1 + l3))], [.int (r1 + l3), .ref 6, .ref 40])) (q2 := (167, [some (.ref 0), some (.int l1), some (.int l2), some (.int l3), some (.int r1), some (.int (r1 + l3))], [.ref 40])) (M := M19) (o := (pcl GG lay d 233 [.ref 6, .int (r1 + l3)] M19)) (hf := rfl) rfl rfl).trans ?_
      refine kI_in (fun r20 M20 => ?_)
      refine (evn_adv 3 (q' := (173, [some (.ref 0), some (.int l1), some (.int l2), some (.int l3), some (.int r1), some (.int (r1 + l3))], [.int r1, .ref 6, .int r20, .ref 40], M20)) rfl).trans ?_
      refine (e_kI (q := (173, [some (.ref 0), some (.int l1), some (.int l2), some (.int l3), some (.int r1), some (.int (r1 + l3))], [.int r1, .ref 6, .int r20, .ref 40])) (q2 := (176, [some (.ref 0), some (.int l1), some (.int l2), some (.int l3), some (.int r1), some (.int (r1 + l3))], [.int r20, .ref 40])) (M := M20) (o := (pcl GG lay d 233 [.ref 6, .int r1] M20)) (hf := rfl) rfl rfl).trans ?_
      refine kI_in (fun r21 M21 => ?_)
      refine (evn_adv 1 (q' := (177, [some (.ref 0), some (.int l1), some (.int l2), some (.int l3), some (.int r1), some (.int (r1 + l3))], [.int (jn 0), .int r21, .int r20, .ref 40], M21)) rfl).trans ?_
      refine (e_kV (q := (177, [some (.ref 0), some (.int l1), some (.int l2), some (.int l3), some (.int r1), some (.int (r1 + l3))], [.int (jn 0), .int r21, .int r20, .ref 40])) (q2 := (180, [some (.ref 0), some (.int l1), some (.int l2), some (.int l3), some (.int r1), some (.int (r1 + l3))], [])) (M := M21) (o := (pcl GG lay d 269 [.ref 40, .int r20, .int r21, .int (jn 0)] M21)) (hf := rfl) rfl rfl).trans ?_
      refine kV_in (fun M22 => ?_)
      refine (evn_adv 3 (q' := (187, [some (.ref 0), some (.int l1), some (.int l2), some (.int l3), some (.int r1), some (.int (r1 + l3))], [.int (M22.1 40 12)], M22)) rfl).trans ?_
      refine (e_if_ne (hf := rfl)).trans ?_
      refine ite_in ?_ ?_
      · refine (evn_adv 2 (q' := (195, [some (.ref 0), some (.int l1), some (.int l2), some (.int l3), some (.int r1), some (.int (r1 + l3))], [.int (jn 1)], M22)) rfl).trans ?_
        exact e_iretz (hf := rfl)
      · refine (evn_adv 1 (q' := (195, [some (.ref 0), some (.int l1), some (.int l2), some (.int l3), some (.int r1), some (.int (r1 + l3))], [.int (jn 0)], M22)) rfl).trans ?_
        exact e_iretz (hf := rfl)
  · refine (evn_adv 1 (q' := (45, [some (.ref 0), some (.int l1), some (.int l2), some (.int l3), some (.int r1), some (.int (r1 + l3))], [.int (jn 0)], M3)) rfl).trans ?_
    exact e_iretz (hf := rfl)
/-- TermStrategies.days(I)I -/
noncomputable abbrev E_49 (d : Nat) : PQ → PO := evn (rnn k_49 lay none (pcl GG lay d) 1)
theorem q_49 (d : Nat) (l1 : Int32) (M : PM) : pcl GG lay (d + 1) 49 [.ref 0, .int l1] M = (if (M.1 1 6) = jn 0 then (kI (pcl GG lay d 56 [.ref 0, .int (jz 5)] M) fun r1 M1 => (rI r1 M1)) else (if (M.1 1 5) = jn 0 then (kI (pcl GG lay d 56 [.ref 0, .int (jz 5)] M) fun r1 M1 => (rI r1 M1)) else (if l1 < (jn 1) then (kI (pcl GG lay d 56 [.ref 0, .int (jz 6)] M) fun r1 M1 => (rI r1 M1)) else (if (jn 40) < l1 then (kI (pcl GG lay d 56 [.ref 0, .int (jz 6)] M) fun r1 M1 => (rI r1 M1)) else E_49 d (49, [some (.ref 0), some (.int l1), some (.int (jn 0)), some (.int (jn 0)), none, none], [], M))))) := by
  refine (pcl_un (mt := t_49) (by decide) rfl (Nat.le_of_ble_eq_true rfl)).trans ?_
  show E_49 d (0, [some (.ref 0), some (.int l1), none, none, none, none], [], M) = _
  refine (evn_adv 3 (q' := (7, [some (.ref 0), some (.int l1), none, none, none, none], [.int (M.1 1 6)], M)) rfl).trans ?_
  refine (e_if_eq (hf := rfl)).trans ?_
  refine ite_in ?_ ?_
  · refine (evn_adv 2 (q' := (23, [some (.ref 0), some (.int l1), none, none, none, none], [.int (jz 5), .ref 0], M)) rfl).trans ?_
    refine (e_kI (q := (23, [some (.ref 0), some (.int l1), none, none, none, none], [.int (jz 5), .ref 0])) (q2 := (26, [some (.ref 0), some (.int l1), none, none, none, none], [])) (M := M) (o := (pcl GG lay d 56 [.ref 0, .int (jz 5)] M)) (hf := rfl) rfl rfl).trans ?_
    refine kI_in (fun r1 M1 => ?_)
    exact evn_end 1 rfl
  · refine (evn_adv 3 (q' := (17, [some (.ref 0), some (.int l1), none, none, none, none], [.int (M.1 1 5)], M)) rfl).trans ?_
    refine (e_if_ne (hf := rfl)).trans ?_
    refine ite_in ?_ ?_
    · refine (evn_adv 2 (q' := (23, [some (.ref 0), some (.int l1), none, none, none, none], [.int (jz 5), .ref 0], M)) rfl).trans ?_
      refine (e_kI (q := (23, [some (.ref 0), some (.int l1), none, none, none, none], [.int (jz 5), .ref 0])) (q2 := (26, [some (.ref 0), some (.int l1), none, none, none, none], [])) (M := M) (o := (pcl GG lay d 56 [.ref 0, .int (jz 5)] M)) (hf := rfl) rfl rfl).trans ?_
      refine kI_in (fun r1 M1 => ?_)
      exact evn_end 1 rfl
    · refine (evn_adv 2 (q' := (29, [some (.ref 0), some (.int l1), none, none, none, none], [.int (jn 1), .int l1], M)) rfl).trans ?_
      refine (e_ic_lt (hf := rfl)).trans ?_
      refine ite_in ?_ ?_
      · refine (evn_adv 2 (q' := (41, [some (.ref 0), some (.int l1), none, none, none, none], [.int (jz 6), .ref 0], M)) rfl).trans ?_
        refine (e_kI (q := (41, [some (.ref 0), some (.int l1), none, none, none, none], [.int (jz 6), .ref 0])) (q2 := (44, [some (.ref 0), some (.int l1), none, none, none, none], [])) (M := M) (o := (pcl GG lay d 56 [.ref 0, .int (jz 6)] M)) (hf := rfl) rfl rfl).trans ?_
        refine kI_in (fun r1 M1 => ?_)
        exact evn_end 1 rfl
      · refine (evn_adv 2 (q' := (35, [some (.ref 0), some (.int l1), none, none, none, none], [.int (jn 40), .int l1], M)) rfl).trans ?_
        refine (e_ic_le (hf := rfl)).trans ?_
        refine ite_in ?_ ?_
        · refine (evn_adv 2 (q' := (41, [some (.ref 0), some (.int l1), none, none, none, none], [.int (jz 6), .ref 0], M)) rfl).trans ?_
          refine (e_kI (q := (41, [some (.ref 0), some (.int l1), none, none, none, none], [.int (jz 6), .ref 0])) (q2 := (44, [some (.ref 0), some (.int l1), none, none, none, none], [])) (M := M) (o := (pcl GG lay d 56 [.ref 0, .int (jz 6)] M)) (hf := rfl) rfl rfl).trans ?_
          refine kI_in (fun r1 M1 => ?_)
          exact evn_end 1 rfl
        · refine (evn_adv 4 (q' := (49, [some (.ref 0), some (.int l1), some (.int (jn 0)), some (.int (jn 0)), none, none], [], M)) rfl).trans ?_
          rfl
theorem h_49_49 (d : Nat) (l1 : Int32) (l2 : Int32) (l3 : Int32) (u4 : Option Value) (u5 : Option Value) (M : PM) : E_49 d (49, [some (.ref 0), some (.int l1), some (.int l2), some (.int l3), u4, u5], [], M) = (if l3 < l1 then (kI (pcl GG lay d 252 [.ref 1, .int (M.1 1 6)] M) fun r1 M1 => (kI (pcl GG lay d 252 [.ref 1, .int (M1.1 1 5)] M1) fun r2 M2 => (kI (pcl GG lay d 59 [.int r2] M2) fun r3 M3 => (kI (pcl GG lay d 50 [.ref 0, .int r1, .int r3] M3) fun r4 M4 => (if r4 = jn 0 then E_49 d (49, [some (.ref 0), some (.int l1), some (.int l2), some (.int (l3 + (jn 1))), some (.int r1), some (.int r2)], [], M4) else E_49 d (49, [some (.ref 0), some (.int l1), some (.int (l2 + (jn 1))), some (.int (l3 + (jn 1))), some (.int r1), some (.int r2)], [], M4)))))) else (rI l2 M)) := by
  refine (evn_adv 2 (q' := (51, [some (.ref 0), some (.int l1), some (.int l2), some (.int l3), u4, u5], [.int l1, .int l3], M)) rfl).trans ?_
  refine (e_ic_ge (hf := rfl)).trans ?_
  refine ite_in ?_ ?_
  · refine (evn_adv 5 (q' := (65, [some (.ref 0), some (.int l1), some (.int l2), some (.int l3), u4, u5], [.int (M.1 1 6), .ref 1], M)) rfl).trans ?_
    refine (e_kI (q := (65, [some (.ref 0), some (.int l1), some (.int l2), some (.int l3), u4, u5], [.int (M.1 1 6), .ref 1])) (q2 := (68, [some (.ref 0), some (.int l1), some (.int l2), some (.int l3), u4, u5], [])) (M := M) (o := (pcl GG lay d 252 [.ref 1, .int (M.1 1 6)] M)) (hf := rfl) rfl rfl).trans ?_
    refine kI_in (fun r1 M1 => ?_)
    refine (evn_adv 6 (q' := (81, [some (.ref 0), some (.int l1), some (.int l2), some (.int l3), some (.int r1), u5], [.int (M1.1 1 5), .ref 1], M1)) rfl).trans ?_
    refine (e_kI (q := (81, [some (.ref 0), some (.int l1), some (.int l2), some (.int l3), some (.int r1), u5], [.int (M1.1 1 5), .ref 1])) (q2 := (84, [some (.ref 0), some (.int l1), some (.int l2), some (.int l3), some (.int r1), u5], [])) (M := M1) (o := (pcl GG lay d 252 [.ref 1, .int (M1.1 1 5)] M1)) (hf := rfl) rfl rfl).trans ?_
    refine kI_in (fun r2 M2 => ?_)
    refine (evn_adv 4 (q' := (91, [some (.ref 0), some (.int l1), some (.int l2), some (.int l3), some (.int r1), some (.int r2)], [.int r2, .int r1, .ref 0], M2)) rfl).trans ?_
    refine (e_kI (q := (91, [some (.ref 0), some (.int l1), some (.int l2), some (.int l3), some (.int r1), some (.int r2)], [.int r2, .int r1, .ref 0])) (q2 := (94, [some (.ref 0), some (.int l1), some (.int l2), some (.int l3), some (.int r1), some (.int r2)], [.int r1, .ref 0])) (M := M2) (o := (pcl GG lay d 59 [.int r2] M2)) (hf := rfl) rfl rfl).trans ?_
    refine kI_in (fun r3 M3 => ?_)
    refine (e_kI (q := (94, [some (.ref 0), some (.int l1), some (.int l2), some (.int l3), some (.int r1), some (.int r2)], [.int r3, .int r1, .ref 0])) (q2 := (97, [some (.ref 0), some (.int l1), some (.int l2), some (.int l3), some (.int r1), some (.int r2)], [])) (M := M3) (o := (pcl GG lay d 50 [.ref 0, .int r1, .int r3] M3)) (hf := rfl) rfl rfl).trans ?_
    refine kI_in (fun r4 M4 => ?_)
    refine (e_if_eq (hf := rfl)).trans ?_
    refine ite_in ?_ ?_
    · refine (evn_adv 2 (q' := (49, [some (.ref 0), some (.int l1), some (.int l2), some (.int (l3 + (jn 1))), some (.int r1), some (.int r2)], [], M4)) rfl).trans ?_
      rfl
    · refine (evn_adv 3 (q' := (49, [some (.ref 0), some (.int l1), some (.int (l2 + (jn 1))), some (.int (l3 + (jn 1))), some (.int r1), some (.int r2)], [], M4)) rfl).trans ?_
      rfl
  · refine (evn_adv 1 (q' := (110, [some (.ref 0), some (.int l1), some (.int l2), some (.int l3), u4, u5], [.int l2], M)) rfl).trans ?_
    exact evn_end 1 rfl
/-- TermStrategies.rewriteAtLeast(II)Z -/
noncomputable abbrev E_50 (d : Nat) : PQ → PO := evn (rnn k_50 lay none (pcl GG lay d) 2)
theorem q_50 (d : Nat) (l1 : Int32) (l2 : Int32) (M : PM) : pcl GG lay (d + 1) 50 [.ref 0, .int l1, .int l2] M = (kI (pcl GG lay d 25 [.ref 0, .int l1, .int l2, .int (jn 0)] M) fun r1 M1 => (if r1 = (jz 1) then (rZ (jn 0) M1) else (kI (pcl GG lay d 30 [.ref 0, .int l1, .int l2, .int r1] M1) fun r2 M2 => (if r2 = jn 0 then (kI (pcl GG lay d 237 [.ref 6, .int (jn 1920), .int l2] M2) fun r3 M3 => (rZ (jn 1) M3)) else (rZ (jn 0) M2))))) := by
  refine (pcl_un (mt := t_50) (by decide) rfl (Nat.le_of_ble_eq_true rfl)).trans ?_
  show E_50 d (0, [some (.ref 0), some (.int l1), some (.int l2), none], [], M) = _
  refine (evn_adv 4 (q' := (4, [some (.ref 0), some (.int l1), some (.int l2), none], [.int (jn 0), .int l2, .int l1, .ref 0], M)) rfl).trans ?_
  refine (e_kI (q := (4, [some (.ref 0), some (.int l1), some (.int l2), none], [.int (jn 0), .int l2, .int l1, .ref 0])) (q2 := (7, [some (.ref 0), some (.int l1), some (.int l2), none], [])) (M := M) (o := (pcl GG lay d 25 [.ref 0, .int l1, .int l2, .int (jn 0)] M)) (hf := rfl) rfl rfl).trans ?_
  refine kI_in (fun r1 M1 => ?_)
  refine (evn_adv 3 (q' := (10, [some (.ref 0), some (.int l1), some (.int l2), some (.int r1)], [.int (jz 1), .int r1], M1)) rfl).trans ?_
  refine (e_ic_eq (hf := rfl)).trans ?_
  refine ite_in ?_ ?_
  · refine (evn_adv 1 (q' := (24, [some (.ref 0), some (.int l1), some (.int l2), some (.int r1)], [.int (jn 0)], M1)) rfl).trans ?_
    exact e_iretz (hf := rfl)
  · refine (evn_adv 4 (q' := (17, [some (.ref 0), some (.int l1), some (.int l2), some (.int r1)], [.int r1, .int l2, .int l1, .ref 0], M1)) rfl).trans ?_
    refine (e_kI (q := (17, [some (.ref 0), some (.int l1), some (.int l2), some (.int r1)], [.int r1, .int l2, .int l1, .ref 0])) (q2 := (20, [some (.ref 0), some (.int l1), some (.int l2), some (.int r1)], [])) (M := M1) (o := (pcl GG lay d 30 [.ref 0, .int l1, .int l2, .int r1] M1)) (hf := rfl) rfl rfl).trans ?_
    refine kI_in (fun r2 M2 => ?_)
    refine (e_if_eq (hf := rfl)).trans ?_
    refine ite_in ?_ ?_
    · refine (evn_adv 4 (q' := (33, [some (.ref 0), some (.int l1), some (.int l2), some (.int r1)], [.int l2, .int (jn 1920), .ref 6], M2)) rfl).trans ?_
      refine (e_kI (q := (33, [some (.ref 0), some (.int l1), some (.int l2), some (.int r1)], [.int l2, .int (jn 1920), .ref 6])) (q2 := (36, [some (.ref 0), some (.int l1), some (.int l2), some (.int r1)], [])) (M := M2) (o := (pcl GG lay d 237 [.ref 6, .int (jn 1920), .int l2] M2)) (hf := rfl) rfl rfl).trans ?_
      refine kI_in (fun r3 M3 => ?_)
      refine (evn_adv 2 (q' := (38, [some (.ref 0), some (.int l1), some (.int l2), some (.int r1)], [.int (jn 1)], M3)) rfl).trans ?_
      exact e_iretz (hf := rfl)
    · refine (evn_adv 1 (q' := (24, [some (.ref 0), some (.int l1), some (.int l2), some (.int r1)], [.int (jn 0)], M2)) rfl).trans ?_
      exact e_iretz (hf := rfl)
/-- TermStrategies.seed(I)I -/
noncomputable abbrev E_51 (d : Nat) : PQ → PO := evn (rnn k_51 lay none (pcl GG lay d) 1)
theorem q_51 (d : Nat) (l1 : Int32) (M : PM) : pcl GG lay (d + 1) 51 [.ref 0, .int l1] M = (wr (sI M 1 (va_up (M.1 1) 9 l1)) fun M1 => (rI (M.1 1 9) M1)) := by
  refine (pcl_un (mt := t_51) (by decide) rfl (Nat.le_of_ble_eq_true rfl)).trans ?_
  show E_51 d (0, [some (.ref 0), some (.int l1), none], [], M) = _
  refine (evn_adv 7 (q' := (13, [some (.ref 0), some (.int l1), some (.int (M.1 1 9))], [.int l1, .ref 1], M)) rfl).trans ?_
  refine (evn_adv 1 (q' := (16, [some (.ref 0), some (.int l1), some (.int (M.1 1 9))], [], (sI M 1 (va_up (M.1 1) 9 l1)))) rfl).trans ?_
  refine wr_in (f := fun M1 => E_51 d (16, [some (.ref 0), some (.int l1), some (.int (M.1 1 9))], [], M1)) (fun M1 => ?_)
  refine (evn_adv 1 (q' := (17, [some (.ref 0), some (.int l1), some (.int (M.1 1 9))], [.int (M.1 1 9)], M1)) rfl).trans ?_
  exact evn_end 1 rfl
/-- TermStrategies.image()I -/
noncomputable abbrev E_52 (d : Nat) : PQ → PO := evn (rnn k_52 lay none (pcl GG lay d) 1)
theorem q_52 (d : Nat)  (M : PM) : pcl GG lay (d + 1) 52 [.ref 0] M = (kV (pcl GG lay d 253 [.ref 8, .ref 1] M) fun M1 => (wr (sI M1 0 (va_up (M1.1 0) 12 (jn 1))) fun M2 => (rI (M2.1 1 5) M2))) := by
  refine (pcl_un (mt := t_52) (by decide) rfl (Nat.le_of_ble_eq_true rfl)).trans ?_
  show E_52 d (0, [some (.ref 0)], [], M) = _
  refine (evn_adv 4 (q' := (8, [some (.ref 0)], [.ref 1, .ref 8], M)) rfl).trans ?_
  refine (e_kV (q := (8, [some (.ref 0)], [.ref 1, .ref 8])) (q2 := (11, [some (.ref 0)], [])) (M := M) (o := (pcl GG lay d 253 [.ref 8, .ref 1] M)) (hf := rfl) rfl rfl).trans ?_
  refine kV_in (fun M1 => ?_)
  refine (evn_adv 2 (q' := (13, [some (.ref 0)], [.int (jn 1), .ref 0], M1)) rfl).trans ?_
  refine (e_putz (q2 := (16, [some (.ref 0)], [])) (k := 0) (j := 12) rfl rfl).trans ?_
  refine (if_pos (Or.inr rfl)).trans ?_
  refine wr_in (f := fun M2 => E_52 d (16, [some (.ref 0)], [], M2)) (fun M2 => ?_)
  refine (evn_adv 3 (q' := (23, [some (.ref 0)], [.int (M2.1 1 5)], M2)) rfl).trans ?_
  exact evn_end 1 rfl
/-- TermStrategies.restore()I -/
noncomputable abbrev E_53 (d : Nat) : PQ → PO := evn (rnn k_53 lay none (pcl GG lay d) 1)
theorem q_53 (d : Nat)  (M : PM) : pcl GG lay (d + 1) 53 [.ref 0] M = (if (M.1 0 12) = jn 0 then (kI (pcl GG lay d 56 [.ref 0, .int (jz 6)] M) fun r1 M1 => (rI r1 M1)) else (kV (pcl GG lay d 253 [.ref 1, .ref 8] M) fun M1 => (kV (pcl GG lay d 230 [.ref 15, .int (M1.1 1 7)] M1) fun M2 => (rI (M2.1 1 5) M2)))) := by
  refine (pcl_un (mt := t_53) (by decide) rfl (Nat.le_of_ble_eq_true rfl)).trans ?_
  show E_53 d (0, [some (.ref 0)], [], M) = _
  refine (evn_adv 2 (q' := (4, [some (.ref 0)], [.int (M.1 0 12)], M)) rfl).trans ?_
  refine (e_if_ne (hf := rfl)).trans ?_
  refine ite_in ?_ ?_
  · refine (evn_adv 2 (q' := (10, [some (.ref 0)], [.int (jz 6), .ref 0], M)) rfl).trans ?_
    refine (e_kI (q := (10, [some (.ref 0)], [.int (jz 6), .ref 0])) (q2 := (13, [some (.ref 0)], [])) (M := M) (o := (pcl GG lay d 56 [.ref 0, .int (jz 6)] M)) (hf := rfl) rfl rfl).trans ?_
    refine kI_in (fun r1 M1 => ?_)
    exact evn_end 1 rfl
  · refine (evn_adv 4 (q' := (22, [some (.ref 0)], [.ref 8, .ref 1], M)) rfl).trans ?_
    refine (e_kV (q := (22, [some (.ref 0)], [.ref 8, .ref 1])) (q2 := (25, [some (.ref 0)], [])) (M := M) (o := (pcl GG lay d 253 [.ref 1, .ref 8] M)) (hf := rfl) rfl rfl).trans ?_
    refine kV_in (fun M1 => ?_)
    refine (evn_adv 5 (q' := (36, [some (.ref 0)], [.int (M1.1 1 7), .ref 15], M1)) rfl).trans ?_
    refine (e_kV (q := (36, [some (.ref 0)], [.int (M1.1 1 7), .ref 15])) (q2 := (39, [some (.ref 0)], [])) (M := M1) (o := (pcl GG lay d 230 [.ref 15, .int (M1.1 1 7)] M1)) (hf := rfl) rfl rfl).trans ?_
    refine kV_in (fun M2 => ?_)
    refine (evn_adv 3 (q' := (46, [some (.ref 0)], [.int (M2.1 1 5)], M2)) rfl).trans ?_
    exact evn_end 1 rfl
/-- TermStrategies.status(I)I -/
noncomputable abbrev E_54 (d : Nat) : PQ → PO := evn (rnn k_54 lay none (pcl GG lay d) 1)
theorem q_54 (d : Nat) (l1 : Int32) (M : PM) : pcl GG lay (d + 1) 54 [.ref 0, .int l1] M = (if l1 = (jn 0) then (rI (M.1 1 5) M) else (if l1 = (jn 1) then (rI (M.1 1 6) M) else (if l1 = (jn 2) then (rI (M.1 1 7) M) else (if l1 = (jn 3) then (rI (M.1 1 8) M) else (if l1 = (jn 4) then (kI (pcl GG lay d 55 [.ref 0] M) fun r1 M1 => (rI r1 M1)) else (if l1 = (jn 5) then (rI (M.1 1 9) M) else (if l1 = (jn 6) then (rI (M.1 48 2) M) else (if (jn 10) < l1 then (if (jn 17) < l1 then (rI (jz 1) M) else (kI (pcl GG lay d 65 [.ref 51, .int (l1 - (jn 10))] M) fun r1 M1 => (rI r1 M1))) else (rI (jz 1) M))))))))) := by
  refine (pcl_un (mt := t_54) (by decide) rfl (Nat.le_of_ble_eq_true rfl)).trans ?_
  show E_54 d (0, [some (.ref 0), some (.int l1)], [], M) = _
  refine (evn_adv 1 (q' := (1, [some (.ref 0), some (.int l1)], [.int l1], M)) rfl).trans ?_
  refine (e_sw0 (dflt := 97) (lo := ((0 : Nat) : Int)) (ts := [44, 52, 60, 68, 76, 81, 89]) (hf := rfl) rfl).trans ?_
  refine sw_cons (lo := 0) (F := fun pc => E_54 d (pc, [some (.ref 0), some (.int l1)], [], M)) (by decide) ?_ ?_
  · refine (evn_adv 3 (q' := (51, [some (.ref 0), some (.int l1)], [.int (M.1 1 5)], M)) rfl).trans ?_
    exact evn_end 1 rfl
  refine sw_cons (lo := 1) (F := fun pc => E_54 d (pc, [some (.ref 0), some (.int l1)], [], M)) (by decide) ?_ ?_
  · refine (evn_adv 3 (q' := (59, [some (.ref 0), some (.int l1)], [.int (M.1 1 6)], M)) rfl).trans ?_
    exact evn_end 1 rfl
  refine sw_cons (lo := 2) (F := fun pc => E_54 d (pc, [some (.ref 0), some (.int l1)], [], M)) (by decide) ?_ ?_
  · refine (evn_adv 3 (q' := (67, [some (.ref 0), some (.int l1)], [.int (M.1 1 7)], M)) rfl).trans ?_
    exact evn_end 1 rfl
  refine sw_cons (lo := 3) (F := fun pc => E_54 d (pc, [some (.ref 0), some (.int l1)], [], M)) (by decide) ?_ ?_
  · refine (evn_adv 3 (q' := (75, [some (.ref 0), some (.int l1)], [.int (M.1 1 8)], M)) rfl).trans ?_
    exact evn_end 1 rfl
  refine sw_cons (lo := 4) (F := fun pc => E_54 d (pc, [some (.ref 0), some (.int l1)], [], M)) (by decide) ?_ ?_
  · refine (evn_adv 1 (q' := (77, [some (.ref 0), some (.int l1)], [.ref 0], M)) rfl).trans ?_
    refine (e_kI (q := (77, [some (.ref 0), some (.int l1)], [.ref 0])) (q2 := (80, [some (.ref 0), some (.int l1)], [])) (M := M) (o := (pcl GG lay d 55 [.ref 0] M)) (hf := rfl) rfl rfl).trans ?_
    refine kI_in (fun r1 M1 => ?_)
    exact evn_end 1 rfl
  refine sw_cons (lo := 5) (F := fun pc => E_54 d (pc, [some (.ref 0), some (.int l1)], [], M)) (by decide) ?_ ?_
  · refine (evn_adv 3 (q' := (88, [some (.ref 0), some (.int l1)], [.int (M.1 1 9)], M)) rfl).trans ?_
    exact evn_end 1 rfl
  refine sw_cons (lo := 6) (F := fun pc => E_54 d (pc, [some (.ref 0), some (.int l1)], [], M)) (by decide) ?_ ?_
  · refine (evn_adv 3 (q' := (96, [some (.ref 0), some (.int l1)], [.int (M.1 48 2)], M)) rfl).trans ?_
    exact evn_end 1 rfl
  show E_54 d (97, [some (.ref 0), some (.int l1)], [], M) = _
  refine (evn_adv 2 (q' := (100, [some (.ref 0), some (.int l1)], [.int (jn 10), .int l1], M)) rfl).trans ?_
  refine (e_ic_le (hf := rfl)).trans ?_
  refine ite_in ?_ ?_
  · refine (evn_adv 2 (q' := (106, [some (.ref 0), some (.int l1)], [.int (jn 17), .int l1], M)) rfl).trans ?_
    refine (e_ic_gt (hf := rfl)).trans ?_
    refine ite_in ?_ ?_
    · refine (evn_adv 1 (q' := (124, [some (.ref 0), some (.int l1)], [.int (jz 1)], M)) rfl).trans ?_
      exact evn_end 1 rfl
    · refine (evn_adv 5 (q' := (117, [some (.ref 0), some (.int l1)], [.int (l1 - (jn 10)), .ref 51], M)) rfl).trans ?_
      refine (e_kI (q := (117, [some (.ref 0), some (.int l1)], [.int (l1 - (jn 10)), .ref 51])) (q2 := (120, [some (.ref 0), some (.int l1)], [])) (M := M) (o := (pcl GG lay d 65 [.ref 51, .int (l1 - (jn 10))] M)) (hf := rfl) rfl rfl).trans ?_
      refine kI_in (fun r1 M1 => ?_)
      refine (evn_adv 1 (q' := (124, [some (.ref 0), some (.int l1)], [.int r1], M1)) rfl).trans ?_
      exact evn_end 1 rfl
  · refine (evn_adv 1 (q' := (124, [some (.ref 0), some (.int l1)], [.int (jz 1)], M)) rfl).trans ?_
    exact evn_end 1 rfl
/-- TermStrategies.nodesOfAll()I -/
noncomputable abbrev E_55 (d : Nat) : PQ → PO := evn (rnn k_55 lay none (pcl GG lay d) 1)
theorem q_55 (d : Nat)  (M : PM) : pcl GG lay (d + 1) 55 [.ref 0] M = E_55 d (4, [some (.ref 0), some (.int (jn 0)), some (.int (jn 0))], [], M) := by
  refine (pcl_un (mt := t_55) (by decide) rfl (Nat.le_of_ble_eq_true rfl)).trans ?_
  show E_55 d (0, [some (.ref 0), none, none], [], M) = _
  refine (evn_adv 4 (q' := (4, [some (.ref 0), some (.int (jn 0)), some (.int (jn 0))], [], M)) rfl).trans ?_
  rfl
theorem h_55_4 (d : Nat) (l1 : Int32) (l2 : Int32) (M : PM) : E_55 d (4, [some (.ref 0), some (.int l1), some (.int l2)], [], M) = (if l2 < (M.1 1 5) then (kI (pcl GG lay d 59 [.int l2] M) fun r1 M1 => (kI (pcl GG lay d 234 [.ref 6, .int r1] M1) fun r2 M2 => E_55 d (4, [some (.ref 0), some (.int (l1 + r2)), some (.int (l2 + (jn 1)))], [], M2))) else (rI l1 M)) := by
  refine (evn_adv 4 (q' := (12, [some (.ref 0), some (.int l1), some (.int l2)], [.int (M.1 1 5), .int l2], M)) rfl).trans ?_
  refine (e_ic_ge (hf := rfl)).trans ?_
  refine ite_in ?_ ?_
  · refine (evn_adv 4 (q' := (21, [some (.ref 0), some (.int l1), some (.int l2)], [.int l2, .ref 6, .int l1], M)) rfl).trans ?_
    refine (e_kI (q := (21, [some (.ref 0), some (.int l1), some (.int l2)], [.int l2, .ref 6, .int l1])) (q2 := (24, [some (.ref 0), some (.int l1), some (.int l2)], [.ref 6, .int l1])) (M := M) (o := (pcl GG lay d 59 [.int l2] M)) (hf := rfl) rfl rfl).trans ?_
    refine kI_in (fun r1 M1 => ?_)
    refine (e_kI (q := (24, [some (.ref 0), some (.int l1), some (.int l2)], [.int r1, .ref 6, .int l1])) (q2 := (27, [some (.ref 0), some (.int l1), some (.int l2)], [.int l1])) (M := M1) (o := (pcl GG lay d 234 [.ref 6, .int r1] M1)) (hf := rfl) rfl rfl).trans ?_
    refine kI_in (fun r2 M2 => ?_)
    refine (evn_adv 4 (q' := (4, [some (.ref 0), some (.int (l1 + r2)), some (.int (l2 + (jn 1)))], [], M2)) rfl).trans ?_
    rfl
  · refine (evn_adv 1 (q' := (36, [some (.ref 0), some (.int l1), some (.int l2)], [.int l1], M)) rfl).trans ?_
    exact evn_end 1 rfl
/-- TermStrategies.refuse(I)I -/
noncomputable abbrev E_56 (d : Nat) : PQ → PO := evn (rnn k_56 lay none (pcl GG lay d) 1)
theorem q_56 (d : Nat) (l1 : Int32) (M : PM) : pcl GG lay (d + 1) 56 [.ref 0, .int l1] M = (kI (pcl GG lay d 65 [.ref 51, .int (-l1)] M) fun r1 M1 => (kV (pcl GG lay d 66 [.ref 51, .int (-l1), .int (r1 + (jn 1))] M1) fun M2 => (rI l1 M2))) := by
  refine (pcl_un (mt := t_56) (by decide) rfl (Nat.le_of_ble_eq_true rfl)).trans ?_
  show E_56 d (0, [some (.ref 0), some (.int l1)], [], M) = _
  refine (evn_adv 8 (q' := (12, [some (.ref 0), some (.int l1)], [.int (-l1), .ref 51, .int (-l1), .ref 51], M)) rfl).trans ?_
  refine (e_kI (q := (12, [some (.ref 0), some (.int l1)], [.int (-l1), .ref 51, .int (-l1), .ref 51])) (q2 := (15, [some (.ref 0), some (.int l1)], [.int (-l1), .ref 51])) (M := M) (o := (pcl GG lay d 65 [.ref 51, .int (-l1)] M)) (hf := rfl) rfl rfl).trans ?_
  refine kI_in (fun r1 M1 => ?_)
  refine (evn_adv 2 (q' := (17, [some (.ref 0), some (.int l1)], [.int (r1 + (jn 1)), .int (-l1), .ref 51], M1)) rfl).trans ?_
  refine (e_kV (q := (17, [some (.ref 0), some (.int l1)], [.int (r1 + (jn 1)), .int (-l1), .ref 51])) (q2 := (20, [some (.ref 0), some (.int l1)], [])) (M := M1) (o := (pcl GG lay d 66 [.ref 51, .int (-l1), .int (r1 + (jn 1))] M1)) (hf := rfl) rfl rfl).trans ?_
  refine kV_in (fun M2 => ?_)
  refine (evn_adv 1 (q' := (21, [some (.ref 0), some (.int l1)], [.int l1], M2)) rfl).trans ?_
  exact evn_end 1 rfl
/-- TermStrategies.newTerm(I)I -/
noncomputable abbrev E_57 (d : Nat) : PQ → PO := evn (rnn k_57 lay none (pcl GG lay d) 1)
theorem q_57 (d : Nat) (l1 : Int32) (M : PM) : pcl GG lay (d + 1) 57 [.ref 0, .int l1] M = (if (M.1 1 5) < (jn 24) then (kI (pcl GG lay d 243 [.ref 1, .int l1] M) fun r1 M1 => (rI r1 M1)) else (kI (pcl GG lay d 56 [.ref 0, .int (jz 7)] M) fun r1 M1 => (rI r1 M1))) := by
  refine (pcl_un (mt := t_57) (by decide) rfl (Nat.le_of_ble_eq_true rfl)).trans ?_
  show E_57 d (0, [some (.ref 0), some (.int l1)], [], M) = _
  refine (evn_adv 4 (q' := (9, [some (.ref 0), some (.int l1)], [.int (jn 24), .int (M.1 1 5)], M)) rfl).trans ?_
  refine (e_ic_lt (hf := rfl)).trans ?_
  refine ite_in ?_ ?_
  · refine (evn_adv 3 (q' := (24, [some (.ref 0), some (.int l1)], [.int l1, .ref 1], M)) rfl).trans ?_
    refine (e_kI (q := (24, [some (.ref 0), some (.int l1)], [.int l1, .ref 1])) (q2 := (27, [some (.ref 0), some (.int l1)], [])) (M := M) (o := (pcl GG lay d 243 [.ref 1, .int l1] M)) (hf := rfl) rfl rfl).trans ?_
    refine kI_in (fun r1 M1 => ?_)
    exact evn_end 1 rfl
  · refine (evn_adv 2 (q' := (15, [some (.ref 0), some (.int l1)], [.int (jz 7), .ref 0], M)) rfl).trans ?_
    refine (e_kI (q := (15, [some (.ref 0), some (.int l1)], [.int (jz 7), .ref 0])) (q2 := (18, [some (.ref 0), some (.int l1)], [])) (M := M) (o := (pcl GG lay d 56 [.ref 0, .int (jz 7)] M)) (hf := rfl) rfl rfl).trans ?_
    refine kI_in (fun r1 M1 => ?_)
    exact evn_end 1 rfl
/-- TermStrategies.hasNode(II)Z -/
noncomputable abbrev E_58 (d : Nat) : PQ → PO := evn (rnn k_58 lay none (pcl GG lay d) 2)
theorem q_58 (d : Nat) (l1 : Int32) (l2 : Int32) (M : PM) : pcl GG lay (d + 1) 58 [.ref 0, .int l1, .int l2] M = (if l2 < jn 0 then (rZ (jn 0) M) else (kI (pcl GG lay d 234 [.ref 6, .int l1] M) fun r1 M1 => (if l2 < r1 then (rZ (jn 1) M1) else (rZ (jn 0) M1)))) := by
  refine (pcl_un (mt := t_58) (by decide) rfl (Nat.le_of_ble_eq_true rfl)).trans ?_
  show E_58 d (0, [some (.ref 0), some (.int l1), some (.int l2)], [], M) = _
  refine (evn_adv 1 (q' := (1, [some (.ref 0), some (.int l1), some (.int l2)], [.int l2], M)) rfl).trans ?_
  refine (e_if_lt (hf := rfl)).trans ?_
  refine ite_in ?_ ?_
  · refine (evn_adv 1 (q' := (21, [some (.ref 0), some (.int l1), some (.int l2)], [.int (jn 0)], M)) rfl).trans ?_
    exact e_iretz (hf := rfl)
  · refine (evn_adv 4 (q' := (10, [some (.ref 0), some (.int l1), some (.int l2)], [.int l1, .ref 6, .int l2], M)) rfl).trans ?_
    refine (e_kI (q := (10, [some (.ref 0), some (.int l1), some (.int l2)], [.int l1, .ref 6, .int l2])) (q2 := (13, [some (.ref 0), some (.int l1), some (.int l2)], [.int l2])) (M := M) (o := (pcl GG lay d 234 [.ref 6, .int l1] M)) (hf := rfl) rfl rfl).trans ?_
    refine kI_in (fun r1 M1 => ?_)
    refine (e_ic_ge (hf := rfl)).trans ?_
    refine ite_in ?_ ?_
    · refine (evn_adv 2 (q' := (21, [some (.ref 0), some (.int l1), some (.int l2)], [.int (jn 1)], M1)) rfl).trans ?_
      exact e_iretz (hf := rfl)
    · refine (evn_adv 1 (q' := (21, [some (.ref 0), some (.int l1), some (.int l2)], [.int (jn 0)], M1)) rfl).trans ?_
      exact e_iretz (hf := rfl)
/-- TermStrategies.termPlace(I)I -/
noncomputable abbrev E_59 (d : Nat) : PQ → PO := evn (rnn k_59 lay none (pcl GG lay d) 1)
theorem q_59 (d : Nat) (l0 : Int32) (M : PM) : pcl GG lay (d + 1) 59 [.int l0] M = (rI (l0 * (jn 40)) M) := by
  refine (pcl_un (mt := t_59) (by decide) rfl (Nat.le_of_ble_eq_true rfl)).trans ?_
  show E_59 d (0, [some (.int l0)], [], M) = _
  refine (evn_adv 3 (q' := (4, [some (.int l0)], [.int (l0 * (jn 40))], M)) rfl).trans ?_
  exact evn_end 1 rfl
/-- TermStrategies.leftPlace(I)I -/
noncomputable abbrev E_60 (d : Nat) : PQ → PO := evn (rnn k_60 lay none (pcl GG lay d) 1)
theorem q_60 (d : Nat) (l0 : Int32) (M : PM) : pcl GG lay (d + 1) 60 [.int l0] M = (rI ((jn 960) + (l0 * (jn 40))) M) := by
  refine (pcl_un (mt := t_60) (by decide) rfl (Nat.le_of_ble_eq_true rfl)).trans ?_
  show E_60 d (0, [some (.int l0)], [], M) = _
  refine (evn_adv 5 (q' := (8, [some (.int l0)], [.int ((jn 960) + (l0 * (jn 40)))], M)) rfl).trans ?_
  exact evn_end 1 rfl
/-- TermStrategies.rightPlace(I)I -/
noncomputable abbrev E_61 (d : Nat) : PQ → PO := evn (rnn k_61 lay none (pcl GG lay d) 1)
theorem q_61 (d : Nat) (l0 : Int32) (M : PM) : pcl GG lay (d + 1) 61 [.int l0] M = (rI ((jn 1440) + (l0 * (jn 40))) M) := by
  refine (pcl_un (mt := t_61) (by decide) rfl (Nat.le_of_ble_eq_true rfl)).trans ?_
  show E_61 d (0, [some (.int l0)], [], M) = _
  refine (evn_adv 5 (q' := (8, [some (.int l0)], [.int ((jn 1440) + (l0 * (jn 40)))], M)) rfl).trans ?_
  exact evn_end 1 rfl
/-- TermStrategies.isVariable(I)Z -/
noncomputable abbrev E_62 (d : Nat) : PQ → PO := evn (rnn k_62 lay none (pcl GG lay d) 2)
theorem q_62 (d : Nat) (l0 : Int32) (M : PM) : pcl GG lay (d + 1) 62 [.int l0] M = (if l0 < (jn 117) then (rZ (jn 0) M) else (if (jn 122) < l0 then (rZ (jn 0) M) else (rZ (jn 1) M))) := by
  refine (pcl_un (mt := t_62) (by decide) rfl (Nat.le_of_ble_eq_true rfl)).trans ?_
  show E_62 d (0, [some (.int l0)], [], M) = _
  refine (evn_adv 2 (q' := (3, [some (.int l0)], [.int (jn 117), .int l0], M)) rfl).trans ?_
  refine (e_ic_lt (hf := rfl)).trans ?_
  refine ite_in ?_ ?_
  · refine (evn_adv 1 (q' := (17, [some (.int l0)], [.int (jn 0)], M)) rfl).trans ?_
    exact e_iretz (hf := rfl)
  · refine (evn_adv 2 (q' := (9, [some (.int l0)], [.int (jn 122), .int l0], M)) rfl).trans ?_
    refine (e_ic_gt (hf := rfl)).trans ?_
    refine ite_in ?_ ?_
    · refine (evn_adv 1 (q' := (17, [some (.int l0)], [.int (jn 0)], M)) rfl).trans ?_
      exact e_iretz (hf := rfl)
    · refine (evn_adv 2 (q' := (17, [some (.int l0)], [.int (jn 1)], M)) rfl).trans ?_
      exact e_iretz (hf := rfl)
/-- TermStrategies.arity(I)I -/
noncomputable abbrev E_63 (d : Nat) : PQ → PO := evn (rnn k_63 lay none (pcl GG lay d) 1)
theorem q_63 (d : Nat) (l0 : Int32) (M : PM) : pcl GG lay (d + 1) 63 [.int l0] M = (if l0 < (jn 105) then (if l0 < (jn 101) then (if l0 < (jn 97) then (if l0 < (jn 117) then (rI (jz 1) M) else (if (jn 122) < l0 then (rI (jz 1) M) else (rI (jn 0) M))) else (if (jn 100) < l0 then (if l0 < (jn 117) then (rI (jz 1) M) else (if (jn 122) < l0 then (rI (jz 1) M) else (rI (jn 0) M))) else (rI (jn 0) M))) else (if (jn 104) < l0 then (if l0 < (jn 97) then (if l0 < (jn 117) then (rI (jz 1) M) else (if (jn 122) < l0 then (rI (jz 1) M) else (rI (jn 0) M))) else (if (jn 100) < l0 then (if l0 < (jn 117) then (rI (jz 1) M) else (if (jn 122) < l0 then (rI (jz 1) M) else (rI (jn 0) M))) else (rI (jn 0) M))) else (rI (jn 1) M))) else (if (jn 108) < l0 then (if l0 < (jn 101) then (if l0 < (jn 97) then (if l0 < (jn 117) then (rI (jz 1) M) else (if (jn 122) < l0 then (rI (jz 1) M) else (rI (jn 0) M))) else (if (jn 100) < l0 then (if l0 < (jn 117) then (rI (jz 1) M) else (if (jn 122) < l0 then (rI (jz 1) M) else (rI (jn 0) M))) else (rI (jn 0) M))) else (if (jn 104) < l0 then (if l0 < (jn 97) then (if l0 < (jn 117) then (rI (jz 1) M) else (if (jn 122) < l0 then (rI (jz 1) M) else (rI (jn 0) M))) else (if (jn 100) < l0 then (if l0 < (jn 117) then (rI (jz 1) M) else (if (jn 122) < l0 then (rI (jz 1) M) else (rI (jn 0) M))) else (rI (jn 0) M))) else (rI (jn 1) M))) else (rI (jn 2) M))) := by
  refine (pcl_un (mt := t_63) (by decide) rfl (Nat.le_of_ble_eq_true rfl)).trans ?_
  show E_63 d (0, [some (.int l0)], [], M) = _
  refine (evn_adv 2 (q' := (3, [some (.int l0)], [.int (jn 105), .int l0], M)) rfl).trans ?_
  refine (e_ic_lt (hf := rfl)).trans ?_
  refine ite_in ?_ ?_
  · refine (evn_adv 2 (q' := (17, [some (.int l0)], [.int (jn 101), .int l0], M)) rfl).trans ?_
    refine (e_ic_lt (hf := rfl)).trans ?_
    refine ite_in ?_ ?_
    · refine (evn_adv 2 (q' := (31, [some (.int l0)], [.int (jn 97), .int l0], M)) rfl).trans ?_
      refine (e_ic_lt (hf := rfl)).trans ?_
      refine ite_in ?_ ?_
      · refine (evn_adv 2 (q' := (43, [some (.int l0)], [.int (jn 117), .int l0], M)) rfl).trans ?_
        refine (e_ic_lt (hf := rfl)).trans ?_
        refine ite_in ?_ ?_
        · refine (evn_adv 1 (q' := (57, [some (.int l0)], [.int (jz 1)], M)) rfl).trans ?_
          exact evn_end 1 rfl
        · refine (evn_adv 2 (q' := (49, [some (.int l0)], [.int (jn 122), .int l0], M)) rfl).trans ?_
          refine (e_ic_gt (hf := rfl)).trans ?_
          refine ite_in ?_ ?_
          · refine (evn_adv 1 (q' := (57, [some (.int l0)], [.int (jz 1)], M)) rfl).trans ?_
            exact evn_end 1 rfl
          · refine (evn_adv 2 (q' := (57, [some (.int l0)], [.int (jn 0)], M)) rfl).trans ?_
            exact evn_end 1 rfl
      · refine (evn_adv 2 (q' := (37, [some (.int l0)], [.int (jn 100), .int l0], M)) rfl).trans ?_
        refine (e_ic_le (hf := rfl)).trans ?_
        refine ite_in ?_ ?_
        · refine (evn_adv 2 (q' := (43, [some (.int l0)], [.int (jn 117), .int l0], M)) rfl).trans ?_
          refine (e_ic_lt (hf := rfl)).trans ?_
          refine ite_in ?_ ?_
          · refine (evn_adv 1 (q' := (57, [some (.int l0)], [.int (jz 1)], M)) rfl).trans ?_
            exact evn_end 1 rfl
          · refine (evn_adv 2 (q' := (49, [some (.int l0)], [.int (jn 122), .int l0], M)) rfl).trans ?_
            refine (e_ic_gt (hf := rfl)).trans ?_
            refine ite_in ?_ ?_
            · refine (evn_adv 1 (q' := (57, [some (.int l0)], [.int (jz 1)], M)) rfl).trans ?_
              exact evn_end 1 rfl
            · refine (evn_adv 2 (q' := (57, [some (.int l0)], [.int (jn 0)], M)) rfl).trans ?_
              exact evn_end 1 rfl
        · refine (evn_adv 2 (q' := (57, [some (.int l0)], [.int (jn 0)], M)) rfl).trans ?_
          exact evn_end 1 rfl
    · refine (evn_adv 2 (q' := (23, [some (.int l0)], [.int (jn 104), .int l0], M)) rfl).trans ?_
      refine (e_ic_gt (hf := rfl)).trans ?_
      refine ite_in ?_ ?_
      · refine (evn_adv 2 (q' := (31, [some (.int l0)], [.int (jn 97), .int l0], M)) rfl).trans ?_
        refine (e_ic_lt (hf := rfl)).trans ?_
        refine ite_in ?_ ?_
        · refine (evn_adv 2 (q' := (43, [some (.int l0)], [.int (jn 117), .int l0], M)) rfl).trans ?_
          refine (e_ic_lt (hf := rfl)).trans ?_
          refine ite_in ?_ ?_
          · refine (evn_adv 1 (q' := (57, [some (.int l0)], [.int (jz 1)], M)) rfl).trans ?_
            exact evn_end 1 rfl
          · refine (evn_adv 2 (q' := (49, [some (.int l0)], [.int (jn 122), .int l0], M)) rfl).trans ?_
            refine (e_ic_gt (hf := rfl)).trans ?_
            refine ite_in ?_ ?_
            · refine (evn_adv 1 (q' := (57, [some (.int l0)], [.int (jz 1)], M)) rfl).trans ?_
              exact evn_end 1 rfl
            · refine (evn_adv 2 (q' := (57, [some (.int l0)], [.int (jn 0)], M)) rfl).trans ?_
              exact evn_end 1 rfl
        · refine (evn_adv 2 (q' := (37, [some (.int l0)], [.int (jn 100), .int l0], M)) rfl).trans ?_
          refine (e_ic_le (hf := rfl)).trans ?_
          refine ite_in ?_ ?_
          · refine (evn_adv 2 (q' := (43, [some (.int l0)], [.int (jn 117), .int l0], M)) rfl).trans ?_
            refine (e_ic_lt (hf := rfl)).trans ?_
            refine ite_in ?_ ?_
            · refine (evn_adv 1 (q' := (57, [some (.int l0)], [.int (jz 1)], M)) rfl).trans ?_
              exact evn_end 1 rfl
            · refine (evn_adv 2 (q' := (49, [some (.int l0)], [.int (jn 122), .int l0], M)) rfl).trans ?_
              refine (e_ic_gt (hf := rfl)).trans ?_
              refine ite_in ?_ ?_
              · refine (evn_adv 1 (q' := (57, [some (.int l0)], [.int (jz 1)], M)) rfl).trans ?_
                exact evn_end 1 rfl
              · refine (evn_adv 2 (q' := (57, [some (.int l0)], [.int (jn 0)], M)) rfl).trans ?_
                exact evn_end 1 rfl
          · refine (evn_adv 2 (q' := (57, [some (.int l0)], [.int (jn 0)], M)) rfl).trans ?_
            exact evn_end 1 rfl
      · refine (evn_adv 1 (q' := (27, [some (.int l0)], [.int (jn 1)], M)) rfl).trans ?_
        exact evn_end 1 rfl
  · refine (evn_adv 2 (q' := (9, [some (.int l0)], [.int (jn 108), .int l0], M)) rfl).trans ?_
    refine (e_ic_gt (hf := rfl)).trans ?_
    refine ite_in ?_ ?_
    · refine (evn_adv 2 (q' := (17, [some (.int l0)], [.int (jn 101), .int l0], M)) rfl).trans ?_
      refine (e_ic_lt (hf := rfl)).trans ?_
      refine ite_in ?_ ?_
      · refine (evn_adv 2 (q' := (31, [some (.int l0)], [.int (jn 97), .int l0], M)) rfl).trans ?_
        refine (e_ic_lt (hf := rfl)).trans ?_
        refine ite_in ?_ ?_
        · refine (evn_adv 2 (q' := (43, [some (.int l0)], [.int (jn 117), .int l0], M)) rfl).trans ?_
          refine (e_ic_lt (hf := rfl)).trans ?_
          refine ite_in ?_ ?_
          · refine (evn_adv 1 (q' := (57, [some (.int l0)], [.int (jz 1)], M)) rfl).trans ?_
            exact evn_end 1 rfl
          · refine (evn_adv 2 (q' := (49, [some (.int l0)], [.int (jn 122), .int l0], M)) rfl).trans ?_
            refine (e_ic_gt (hf := rfl)).trans ?_
            refine ite_in ?_ ?_
            · refine (evn_adv 1 (q' := (57, [some (.int l0)], [.int (jz 1)], M)) rfl).trans ?_
              exact evn_end 1 rfl
            · refine (evn_adv 2 (q' := (57, [some (.int l0)], [.int (jn 0)], M)) rfl).trans ?_
              exact evn_end 1 rfl
        · refine (evn_adv 2 (q' := (37, [some (.int l0)], [.int (jn 100), .int l0], M)) rfl).trans ?_
          refine (e_ic_le (hf := rfl)).trans ?_
          refine ite_in ?_ ?_
          · refine (evn_adv 2 (q' := (43, [some (.int l0)], [.int (jn 117), .int l0], M)) rfl).trans ?_
            refine (e_ic_lt (hf := rfl)).trans ?_
            refine ite_in ?_ ?_
            · refine (evn_adv 1 (q' := (57, [some (.int l0)], [.int (jz 1)], M)) rfl).trans ?_
              exact evn_end 1 rfl
            · refine (evn_adv 2 (q' := (49, [some (.int l0)], [.int (jn 122), .int l0], M)) rfl).trans ?_
              refine (e_ic_gt (hf := rfl)).trans ?_
              refine ite_in ?_ ?_
              · refine (evn_adv 1 (q' := (57, [some (.int l0)], [.int (jz 1)], M)) rfl).trans ?_
                exact evn_end 1 rfl
              · refine (evn_adv 2 (q' := (57, [some (.int l0)], [.int (jn 0)], M)) rfl).trans ?_
                exact evn_end 1 rfl
          · refine (evn_adv 2 (q' := (57, [some (.int l0)], [.int (jn 0)], M)) rfl).trans ?_
            exact evn_end 1 rfl
      · refine (evn_adv 2 (q' := (23, [some (.int l0)], [.int (jn 104), .int l0], M)) rfl).trans ?_
        refine (e_ic_gt (hf := rfl)).trans ?_
        refine ite_in ?_ ?_
        · refine (evn_adv 2 (q' := (31, [some (.int l0)], [.int (jn 97), .int l0], M)) rfl).trans ?_
          refine (e_ic_lt (hf := rfl)).trans ?_
          refine ite_in ?_ ?_
          · refine (evn_adv 2 (q' := (43, [some (.int l0)], [.int (jn 117), .int l0], M)) rfl).trans ?_
            refine (e_ic_lt (hf := rfl)).trans ?_
            refine ite_in ?_ ?_
            · refine (evn_adv 1 (q' := (57, [some (.int l0)], [.int (jz 1)], M)) rfl).trans ?_
              exact evn_end 1 rfl
            · refine (evn_adv 2 (q' := (49, [some (.int l0)], [.int (jn 122), .int l0], M)) rfl).trans ?_
              refine (e_ic_gt (hf := rfl)).trans ?_
              refine ite_in ?_ ?_
              · refine (evn_adv 1 (q' := (57, [some (.int l0)], [.int (jz 1)], M)) rfl).trans ?_
                exact evn_end 1 rfl
              · refine (evn_adv 2 (q' := (57, [some (.int l0)], [.int (jn 0)], M)) rfl).trans ?_
                exact evn_end 1 rfl
          · refine (evn_adv 2 (q' := (37, [some (.int l0)], [.int (jn 100), .int l0], M)) rfl).trans ?_
            refine (e_ic_le (hf := rfl)).trans ?_
            refine ite_in ?_ ?_
            · refine (evn_adv 2 (q' := (43, [some (.int l0)], [.int (jn 117), .int l0], M)) rfl).trans ?_
              refine (e_ic_lt (hf := rfl)).trans ?_
              refine ite_in ?_ ?_
              · refine (evn_adv 1 (q' := (57, [some (.int l0)], [.int (jz 1)], M)) rfl).trans ?_
                exact evn_end 1 rfl
              · refine (evn_adv 2 (q' := (49, [some (.int l0)], [.int (jn 122), .int l0], M)) rfl).trans ?_
                refine (e_ic_gt (hf := rfl)).trans ?_
                refine ite_in ?_ ?_
                · refine (evn_adv 1 (q' := (57, [some (.int l0)], [.int (jz 1)], M)) rfl).trans ?_
                  exact evn_end 1 rfl
                · refine (evn_adv 2 (q' := (57, [some (.int l0)], [.int (jn 0)], M)) rfl).trans ?_
                  exact evn_end 1 rfl
            · refine (evn_adv 2 (q' := (57, [some (.int l0)], [.int (jn 0)], M)) rfl).trans ?_
              exact evn_end 1 rfl
        · refine (evn_adv 1 (q' := (27, [some (.int l0)], [.int (jn 1)], M)) rfl).trans ?_
          exact evn_end 1 rfl
    · refine (evn_adv 1 (q' := (13, [some (.int l0)], [.int (jn 2)], M)) rfl).trans ?_
      exact evn_end 1 rfl
/-- TermStrategies.isOverTwo(I)Z -/
noncomputable abbrev E_64 (d : Nat) : PQ → PO := evn (rnn k_64 lay none (pcl GG lay d) 2)
theorem q_64 (d : Nat) (l0 : Int32) (M : PM) : pcl GG lay (d + 1) 64 [.int l0] M = (if l0 = (jn 3) then (rZ (jn 1) M) else (if l0 = (jn 4) then (rZ (jn 1) M) else (rZ (jn 0) M))) := by
  refine (pcl_un (mt := t_64) (by decide) rfl (Nat.le_of_ble_eq_true rfl)).trans ?_
  show E_64 d (0, [some (.int l0)], [], M) = _
  refine (evn_adv 2 (q' := (2, [some (.int l0)], [.int (jn 3), .int l0], M)) rfl).trans ?_
  refine (e_ic_eq (hf := rfl)).trans ?_
  refine ite_in ?_ ?_
  · refine (evn_adv 2 (q' := (15, [some (.int l0)], [.int (jn 1)], M)) rfl).trans ?_
    exact e_iretz (hf := rfl)
  · refine (evn_adv 2 (q' := (7, [some (.int l0)], [.int (jn 4), .int l0], M)) rfl).trans ?_
    refine (e_ic_ne (hf := rfl)).trans ?_
    refine ite_in ?_ ?_
    · refine (evn_adv 2 (q' := (15, [some (.int l0)], [.int (jn 1)], M)) rfl).trans ?_
      exact e_iretz (hf := rfl)
    · refine (evn_adv 1 (q' := (15, [some (.int l0)], [.int (jn 0)], M)) rfl).trans ?_
      exact e_iretz (hf := rfl)
/-- TermStrategies.get([II)I -/
noncomputable abbrev E_65 (d : Nat) : PQ → PO := evn (rnn k_65 lay none (pcl GG lay d) 1)
theorem q_65 (d : Nat) (l0 : Nat) (l1 : Int32) (M : PM) : pcl GG lay (d + 1) 65 [.ref l0, .int l1] M = (if l1 < jn 0 then (rI (jn 0) M) else (oB (alen lay none l0) fun v1 => (if l1 < v1 then (oB (aldI lay none M l0 l1) fun v2 => (rI v2 M)) else (rI (jn 0) M)))) := by
  refine (pcl_un (mt := t_65) (by decide) rfl (Nat.le_of_ble_eq_true rfl)).trans ?_
  show E_65 d (0, [some (.ref l0), some (.int l1)], [], M) = _
  refine (evn_adv 1 (q' := (1, [some (.ref l0), some (.int l1)], [.int l1], M)) rfl).trans ?_
  refine (e_if_lt (hf := rfl)).trans ?_
  refine ite_in ?_ ?_
  · refine (evn_adv 2 (q' := (17, [some (.ref l0), some (.int l1)], [.int (jn 0)], M)) rfl).trans ?_
    exact evn_end 1 rfl
  · refine (evn_adv 2 (q' := (6, [some (.ref l0), some (.int l1)], [.ref l0, .int l1], M)) rfl).trans ?_
    refine (e_oB (q := (6, [some (.ref l0), some (.int l1)], [.ref l0, .int l1], M)) (o := (alen lay none l0)) (f := fun v1 => (7, [some (.ref l0), some (.int l1)], [.int v1, .int l1], M)) (hf := rfl) rfl).trans ?_
    refine oB_in (fun v1 => ?_)
    refine (e_ic_lt (hf := rfl)).trans ?_
    refine ite_in ?_ ?_
    · refine (evn_adv 2 (q' := (16, [some (.ref l0), some (.int l1)], [.int l1, .ref l0], M)) rfl).trans ?_
      refine (e_oB (q := (16, [some (.ref l0), some (.int l1)], [.int l1, .ref l0], M)) (o := (aldI lay none M l0 l1)) (f := fun v2 => (17, [some (.ref l0), some (.int l1)], [.int v2], M)) (hf := rfl) rfl).trans ?_
      refine oB_in (fun v2 => ?_)
      exact evn_end 1 rfl
    · refine (evn_adv 2 (q' := (17, [some (.ref l0), some (.int l1)], [.int (jn 0)], M)) rfl).trans ?_
      exact evn_end 1 rfl
/-- TermStrategies.put([III)V -/
noncomputable abbrev E_66 (d : Nat) : PQ → PO := evn (rnn k_66 lay none (pcl GG lay d) 0)
theorem q_66 (d : Nat) (l0 : Nat) (l1 : Int32) (l2 : Int32) (M : PM) : pcl GG lay (d + 1) 66 [.ref l0, .int l1, .int l2] M = (if l1 < jn 0 then (rV M) else (oB (alen lay none l0) fun v1 => (if l1 < v1 then (oB (astI lay M l0 l1 l2) fun M2 => (rV M2)) else (rV M)))) := by
  refine (pcl_un (mt := t_66) (by decide) rfl (Nat.le_of_ble_eq_true rfl)).trans ?_
  show E_66 d (0, [some (.ref l0), some (.int l1), some (.int l2)], [], M) = _
  refine (evn_adv 1 (q' := (1, [some (.ref l0), some (.int l1), some (.int l2)], [.int l1], M)) rfl).trans ?_
  refine (e_if_lt (hf := rfl)).trans ?_
  refine ite_in ?_ ?_
  · exact evn_end 1 rfl
  · refine (evn_adv 2 (q' := (6, [some (.ref l0), some (.int l1), some (.int l2)], [.ref l0, .int l1], M)) rfl).trans ?_
    refine (e_oB (q := (6, [some (.ref l0), some (.int l1), some (.int l2)], [.ref l0, .int l1], M)) (o := (alen lay none l0)) (f := fun v1 => (7, [some (.ref l0), some (.int l1), some (.int l2)], [.int v1, .int l1], M)) (hf := rfl) rfl).trans ?_
    refine oB_in (fun v1 => ?_)
    refine (e_ic_ge (hf := rfl)).trans ?_
    refine ite_in ?_ ?_
    · refine (evn_adv 3 (q' := (13, [some (.ref l0), some (.int l1), some (.int l2)], [.int l2, .int l1, .ref l0], M)) rfl).trans ?_
      refine (e_oB (q := (13, [some (.ref l0), some (.int l1), some (.int l2)], [.int l2, .int l1, .ref l0], M)) (o := (astI lay M l0 l1 l2)) (f := fun M2 => (14, [some (.ref l0), some (.int l1), some (.int l2)], [], M2)) (hf := rfl) rfl).trans ?_
      refine oB_in (fun M2 => ?_)
      exact evn_end 1 rfl
    · exact evn_end 1 rfl
/-- TermStrategies.getLong([JI)J -/
noncomputable abbrev E_67 (d : Nat) : PQ → PO := evn (rnn k_67 lay none (pcl GG lay d) 3)
theorem q_67 (d : Nat) (l0 : Nat) (l1 : Int32) (M : PM) : pcl GG lay (d + 1) 67 [.ref l0, .int l1] M = (if l1 < jn 0 then (rL (Int64.ofNat 0) M) else (oB (alen lay none l0) fun v1 => (if l1 < v1 then (oB (aldL lay M l0 l1) fun v2 => (rL v2 M)) else (rL (Int64.ofNat 0) M)))) := by
  refine (pcl_un (mt := t_67) (by decide) rfl (Nat.le_of_ble_eq_true rfl)).trans ?_
  show E_67 d (0, [some (.ref l0), some (.int l1)], [], M) = _
  refine (evn_adv 1 (q' := (1, [some (.ref l0), some (.int l1)], [.int l1], M)) rfl).trans ?_
  refine (e_if_lt (hf := rfl)).trans ?_
  refine ite_in ?_ ?_
  · refine (evn_adv 2 (q' := (17, [some (.ref l0), some (.int l1)], [.long (Int64.ofNat 0)], M)) rfl).trans ?_
    exact evn_end 1 rfl
  · refine (evn_adv 2 (q' := (6, [some (.ref l0), some (.int l1)], [.ref l0, .int l1], M)) rfl).trans ?_
    refine (e_oB (q := (6, [some (.ref l0), some (.int l1)], [.ref l0, .int l1], M)) (o := (alen lay none l0)) (f := fun v1 => (7, [some (.ref l0), some (.int l1)], [.int v1, .int l1], M)) (hf := rfl) rfl).trans ?_
    refine oB_in (fun v1 => ?_)
    refine (e_ic_lt (hf := rfl)).trans ?_
    refine ite_in ?_ ?_
    · refine (evn_adv 2 (q' := (16, [some (.ref l0), some (.int l1)], [.int l1, .ref l0], M)) rfl).trans ?_
      refine (e_oB (q := (16, [some (.ref l0), some (.int l1)], [.int l1, .ref l0], M)) (o := (aldL lay M l0 l1)) (f := fun v2 => (17, [some (.ref l0), some (.int l1)], [.long v2], M)) (hf := rfl) rfl).trans ?_
      refine oB_in (fun v2 => ?_)
      exact evn_end 1 rfl
    · refine (evn_adv 2 (q' := (17, [some (.ref l0), some (.int l1)], [.long (Int64.ofNat 0)], M)) rfl).trans ?_
      exact evn_end 1 rfl
/-- TermStrategies.putLong([JIJ)V -/
noncomputable abbrev E_68 (d : Nat) : PQ → PO := evn (rnn k_68 lay none (pcl GG lay d) 0)
theorem q_68 (d : Nat) (l0 : Nat) (l1 : Int32) (l2 : Int64) (M : PM) : pcl GG lay (d + 1) 68 [.ref l0, .int l1, .long l2] M = (if l1 < jn 0 then (rV M) else (oB (alen lay none l0) fun v1 => (if l1 < v1 then (oB (astL lay M l0 l1 l2) fun M2 => (rV M2)) else (rV M)))) := by
  refine (pcl_un (mt := t_68) (by decide) rfl (Nat.le_of_ble_eq_true rfl)).trans ?_
  show E_68 d (0, [some (.ref l0), some (.int l1), some (.long l2), none], [], M) = _
  refine (evn_adv 1 (q' := (1, [some (.ref l0), some (.int l1), some (.long l2), none], [.int l1], M)) rfl).trans ?_
  refine (e_if_lt (hf := rfl)).trans ?_
  refine ite_in ?_ ?_
  · exact evn_end 1 rfl
  · refine (evn_adv 2 (q' := (6, [some (.ref l0), some (.int l1), some (.long l2), none], [.ref l0, .int l1], M)) rfl).trans ?_
    refine (e_oB (q := (6, [some (.ref l0), some (.int l1), some (.long l2), none], [.ref l0, .int l1], M)) (o := (alen lay none l0)) (f := fun v1 => (7, [some (.ref l0), some (.int l1), some (.long l2), none], [.int v1, .int l1], M)) (hf := rfl) rfl).trans ?_
    refine oB_in (fun v1 => ?_)
    refine (e_ic_ge (hf := rfl)).trans ?_
    refine ite_in ?_ ?_
    · refine (evn_adv 3 (q' := (13, [some (.ref l0), some (.int l1), some (.long l2), none], [.long l2, .int l1, .ref l0], M)) rfl).trans ?_
      refine (e_oB (q := (13, [some (.ref l0), some (.int l1), some (.long l2), none], [.long l2, .int l1, .ref l0], M)) (o := (astL lay M l0 l1 l2)) (f := fun M2 => (14, [some (.ref l0), some (.int l1), some (.long l2), none], [], M2)) (hf := rfl) rfl).trans ?_
      refine oB_in (fun M2 => ?_)
      exact evn_end 1 rfl
    · exact evn_end 1 rfl
/-- TermStrategies$Exchange.makesAlike(III)Z -/
noncomputable abbrev E_180 (d : Nat) : PQ → PO := evn (rnn k_180 lay none (pcl GG lay d) 2)
theorem q_180 (d : Nat) (l1 : Int32) (l2 : Int32) (l3 : Int32) (M : PM) : pcl GG lay (d + 1) 180 [.ref 24, .int l1, .int l2, .int l3] M = (wr (sI M 24 (va_up (M.1 24) 2 l1)) fun M1 => (wr (sI M1 24 (va_up (M1.1 24) 3 l2)) fun M2 => (kV (pcl GG lay d 275 [.ref 25, .long (Int64.ofNat 0)] M2) fun M3 => (kI (pcl GG lay d 234 [.ref 6, .int l2] M3) fun r4 M4 => (kI (pcl GG lay d 234 [.ref 6, .int l1] M4) fun r5 M5 => E_180 d (40, [some (.ref 24), some (.int l1), some (.int l2), some (.int l3), some (.int r4), some (.int (r5 - (jn 1))), none], [], M5)))))) := by
  refine (pcl_un (mt := t_180) (by decide) rfl (Nat.le_of_ble_eq_true rfl)).trans ?_
  show E_180 d (0, [some (.ref 24), some (.int l1), some (.int l2), some (.int l3), none, none, none], [], M) = _
  refine (evn_adv 2 (q' := (2, [some (.ref 24), some (.int l1), some (.int l2), some (.int l3), none, none, none], [.int l1, .ref 24], M)) rfl).trans ?_
  refine (evn_adv 1 (q' := (5, [some (.ref 24), some (.int l1), some (.int l2), some (.int l3), none, none, none], [], (sI M 24 (va_up (M.1 24) 2 l1)))) rfl).trans ?_
  refine wr_in (f := fun M1 => E_180 d (5, [some (.ref 24), some (.int l1), some (.int l2), some (.int l3), none, none, none], [], M1)) (fun M1 => ?_)
  refine (evn_adv 2 (q' := (7, [some (.ref 24), some (.int l1), some (.int l2), some (.int l3), none, none, none], [.int l2, .ref 24], M1)) rfl).trans ?_
  refine (evn_adv 1 (q' := (10, [some (.ref 24), some (.int l1), some (.int l2), some (.int l3), none, none, none], [], (sI M1 24 (va_up (M1.1 24) 3 l2)))) rfl).trans ?_
  refine wr_in (f := fun M2 => E_180 d (10, [some (.ref 24), some (.int l1), some (.int l2), some (.int l3), none, none, none], [], M2)) (fun M2 => ?_)
  refine (evn_adv 3 (q' := (15, [some (.ref 24), some (.int l1), some (.int l2), some (.int l3), none, none, none], [.long (Int64.ofNat 0), .ref 25], M2)) rfl).trans ?_
  refine (e_kV (q := (15, [some (.ref 24), some (.int l1), some (.int l2), some (.int l3), none, none, none], [.long (Int64.ofNat 0), .ref 25])) (q2 := (18, [some (.ref 24), some (.int l1), some (.int l2), some (.int l3), none, none, none], [])) (M := M2) (o := (pcl GG lay d 275 [.ref 25, .long (Int64.ofNat 0)] M2)) (hf := rfl) rfl rfl).trans ?_
  refine kV_in (fun M3 => ?_)
  refine (evn_adv 3 (q' := (23, [some (.ref 24), some (.int l1), some (.int l2), some (.int l3), none, none, none], [.int l2, .ref 6], M3)) rfl).trans ?_
  refine (e_kI (q := (23, [some (.ref 24), some (.int l1), some (.int l2), some (.int l3), none, none, none], [.int l2, .ref 6])) (q2 := (26, [some (.ref 24), some (.int l1), some (.int l2), some (.int l3), none, none, none], [])) (M := M3) (o := (pcl GG lay d 234 [.ref 6, .int l2] M3)) (hf := rfl) rfl rfl).trans ?_
  refine kI_in (fun r4 M4 => ?_)
  refine (evn_adv 4 (q' := (33, [some (.ref 24), some (.int l1), some (.int l2), some (.int l3), some (.int r4), none, none], [.int l1, .ref 6], M4)) rfl).trans ?_
  refine (e_kI (q := (33, [some (.ref 24), some (.int l1), some (.int l2), some (.int l3), some (.int r4), none, none], [.int l1, .ref 6])) (q2 := (36, [some (.ref 24), some (.int l1), some (.int l2), some (.int l3), some (.int r4), none, none], [])) (M := M4) (o := (pcl GG lay d 234 [.ref 6, .int l1] M4)) (hf := rfl) rfl rfl).trans ?_
  refine kI_in (fun r5 M5 => ?_)
  refine (evn_adv 3 (q' := (40, [some (.ref 24), some (.int l1), some (.int l2), some (.int l3), some (.int r4), some (.int (r5 - (jn 1))), none], [], M5)) rfl).trans ?_
  rfl
theorem h_180_40 (d : Nat) (l1 : Int32) (l2 : Int32) (l3 : Int32) (l4 : Int32) (l5 : Int32) (u6 : Option Value) (M : PM) : E_180 d (40, [some (.ref 24), some (.int l1), some (.int l2), some (.int l3), some (.int l4), some (.int l5), u6], [], M) = (if l5 < jn 0 then (kI (pcl GG lay d 182 [.ref 24, .int (jn 0), .int (jn 0)] M) fun r1 M1 => (rZ r1 M1)) else E_180 d (51, [some (.ref 24), some (.int l1), some (.int l2), some (.int l3), some (.int l4), some (.int l5), some (.int (l4 - (jn 1)))], [], M)) := by
  refine (evn_adv 1 (q' := (42, [some (.ref 24), some (.int l1), some (.int l2), some (.int l3), some (.int l4), some (.int l5), u6], [.int l5], M)) rfl).trans ?_
  refine (e_if_lt (hf := rfl)).trans ?_
  refine ite_in ?_ ?_
  · refine (evn_adv 3 (q' := (131, [some (.ref 24), some (.int l1), some (.int l2), some (.int l3), some (.int l4), some (.int l5), u6], [.int (jn 0), .int (jn 0), .ref 24], M)) rfl).trans ?_
    refine (e_kI (q := (131, [some (.ref 24), some (.int l1), some (.int l2), some (.int l3), some (.int l4), some (.int l5), u6], [.int (jn 0), .int (jn 0), .ref 24])) (q2 := (134, [some (.ref 24), some (.int l1), some (.int l2), some (.int l3), some (.int l4), some (.int l5), u6], [])) (M := M) (o := (pcl GG lay d 182 [.ref 24, .int (jn 0), .int (jn 0)] M)) (hf := rfl) rfl rfl).trans ?_
    refine kI_in (fun r1 M1 => ?_)
    exact e_iretz (hf := rfl)
  · refine (evn_adv 4 (q' := (51, [some (.ref 24), some (.int l1), some (.int l2), some (.int l3), some (.int l4), some (.int l5), some (.int (l4 - (jn 1)))], [], M)) rfl).trans ?_
    rfl
theorem h_180_51 (d : Nat) (l1 : Int32) (l2 : Int32) (l3 : Int32) (l4 : Int32) (l5 : Int32) (l6 : Int32) (M : PM) : E_180 d (51, [some (.ref 24), some (.int l1), some (.int l2), some (.int l3), some (.int l4), some (.int l5), some (.int l6)], [], M) = (if l6 < jn 0 then E_180 d (40, [some (.ref 24), some (.int l1), some (.int l2), some (.int l3), some (.int l4), some (.int (l5 + (jz 1))), some (.int l6)], [], M) else (kI (pcl GG lay d 231 [.ref 6, .int (l1 + l5)] M) fun r1 M1 => (kI (pcl GG lay d 231 [.ref 6, .int (l2 + l6)] M1) fun r2 M2 => (if r1 = r2 then (kI (pcl GG lay d 181 [.ref 24, .int l5, .int l6, .int l3] M2) fun r3 M3 => (if r3 = jn 0 then E_180 d (51, [some (.ref 24), some (.int l1), some (.int l2), some (.int l3), some (.int l4), some (.int l5), some (.int (l6 + (jz 1)))], [], M3) else (kL (pcl GG lay d 67 [.ref 25, .int l5] M3) fun r4 M4 => (kV (pcl GG lay d 68 [.ref 25, .int l5, .long (r4 ||| ((Int64.ofNat 1) <<< (l6.toInt64 &&& 63)))] M4) fun M5 => E_180 d (51, [some (.ref 24), some (.int l1), some (.int l2), some (.int l3), some (.int l4), some (.int l5), some (.int (l6 + (jz 1)))], [], M5))))) else E_180 d (51, [some (.ref 24), some (.int l1), some (.int l2), some (.int l3), some (.int l4), some (.int l5), some (.int (l6 + (jz 1)))], [], M2))))) := by
  refine (evn_adv 1 (q' := (53, [some (.ref 24), some (.int l1), some (.int l2), some (.int l3), some (.int l4), some (.int l5), some (.int l6)], [.int l6], M)) rfl).trans ?_
  refine (e_if_lt (hf := rfl)).trans ?_
  refine ite_in ?_ ?_
  · refine (evn_adv 2 (q' := (40, [some (.ref 24), some (.int l1), some (.int l2), some (.int l3), some (.int l4), some (.int (l5 + (jz 1))), some (.int l6)], [], M)) rfl).trans ?_
    rfl
  · refine (evn_adv 5 (q' := (64, [some (.ref 24), some (.int l1), some (.int l2), some (.int l3), some (.int l4), some (.int l5), some (.int l6)], [.int (l1 + l5), .ref 6], M)) rfl).trans ?_
    refine (e_kI (q := (64, [some (.ref 24), some (.int l1), some (.int l2), some (.int l3), some (.int l4), some (.int l5), some (.int l6)], [.int (l1 + l5), .ref 6])) (q2 := (67, [some (.ref 24), some (.int l1), some (.int l2), some (.int l3), some (.int l4), some (.int l5), some (.int l6)], [])) (M := M) (o := (pcl GG lay d 231 [.ref 6, .int (l1 + l5)] M)) (hf := rfl) rfl rfl).trans ?_
    refine kI_in (fun r1 M1 => ?_)
    refine (evn_adv 5 (q' := (75, [some (.ref 24), some (.int l1), some (.int l2), some (.int l3), some (.int l4), some (.int l5), some (.int l6)], [.int (l2 + l6), .ref 6, .int r1], M1)) rfl).trans ?_
    refine (e_kI (q := (75, [some (.ref 24), some (.int l1), some (.int l2), some (.int l3), some (.int l4), some (.int l5), some (.int l6)], [.int (l2 + l6), .ref 6, .int r1])) (q2 := (78, [some (.ref 24), some (.int l1), some (.int l2), some (.int l3), some (.int l4), some (.int l5), some (.int l6)], [.int r1])) (M := M1) (o := (pcl GG lay d 231 [.ref 6, .int (l2 + l6)] M1)) (hf := rfl) rfl rfl).trans ?_
    refine kI_in (fun r2 M2 => ?_)
    refine (e_ic_ne (hf := rfl)).trans ?_
    refine ite_in ?_ ?_
    · refine (evn_adv 4 (q' := (87, [some (.ref 24), some (.int l1), some (.int l2), some (.int l3), some (.int l4), some (.int l5), some (.int l6)], [.int l3, .int l6, .int l5, .ref 24], M2)) rfl).trans ?_
      refine (e_kI (q := (87, [some (.ref 24), some (.int l1), some (.int l2), some (.int l3), some (.int l4), some (.int l5), some (.int l6)], [.int l3, .int l6, .int l5, .ref 24])) (q2 := (90, [some (.ref 24), some (.int l1), some (.int l2), some (.int l3), some (.int l4), some (.int l5), some (.int l6)], [])) (M := M2) (o := (pcl GG lay d 181 [.ref 24, .int l5, .int l6, .int l3] M2)) (hf := rfl) rfl rfl).trans ?_
      refine kI_in (fun r3 M3 => ?_)
      refine (e_if_eq (hf := rfl)).trans ?_
      refine ite_in ?_ ?_
      · refine (evn_adv 2 (q' := (51, [some (.ref 24), some (.int l1), some (.int l2), some (.int l3), some (.int l4), some (.int l5), some (.int (l6 + (jz 1)))], [], M3)) rfl).trans ?_
        rfl
      · refine (evn_adv 6 (q' := (105, [some (.ref 24), some (.int l1), some (.int l2), some (.int l3), some (.int l4), some (.int l5), some (.int l6)], [.int l5, .ref 25, .int l5, .ref 25], M3)) rfl).trans ?_
        refine (e_kL (q := (105, [some (.ref 24), some (.int l1), some (.int l2), some (.int l3), some (.int l4), some (.int l5), some (.int l6)], [.int l5, .ref 25, .int l5, .ref 25])) (q2 := (108, [some (.ref 24), some (.int l1), some (.int l2), some (.int l3), some (.int l4), some (.int l5), some (.int l6)], [.int l5, .ref 25])) (M := M3) (o := (pcl GG lay d 67 [.ref 25, .int l5] M3)) (hf := rfl) rfl rfl).trans ?_
        refine kL_in (fun r4 M4 => ?_)
        refine (evn_adv 4 (q' := (113, [some (.ref 24), some (.int l1), some (.int l2), some (.int l3), some (.int l4), some (.int l5), some (.int l6)], [.long (r4 ||| ((Int64.ofNat 1) <<< (l6.toInt64 &&& 63))), .int l5, .ref 25], M4)) rfl).trans ?_
        refine (e_kV (q := (113, [some (.ref 24), some (.int l1), some (.int l2), some (.int l3), some (.int l4), some (.int l5), some (.int l6)], [.long (r4 ||| ((Int64.ofNat 1) <<< (l6.toInt64 &&& 63))), .int l5, .ref 25])) (q2 := (116, [some (.ref 24), some (.int l1), some (.int l2), some (.int l3), some (.int l4), some (.int l5), some (.int l6)], [])) (M := M4) (o := (pcl GG lay d 68 [.ref 25, .int l5, .long (r4 ||| ((Int64.ofNat 1) <<< (l6.toInt64 &&& 63)))] M4)) (hf := rfl) rfl rfl).trans ?_
        refine kV_in (fun M5 => ?_)
        refine (evn_adv 2 (q' := (51, [some (.ref 24), some (.int l1), some (.int l2), some (.int l3), some (.int l4), some (.int l5), some (.int (l6 + (jz 1)))], [], M5)) rfl).trans ?_
        rfl
    · refine (evn_adv 2 (q' := (51, [some (.ref 24), some (.int l1), some (.int l2), some (.int l3), some (.int l4), some (.int l5), some (.int (l6 + (jz 1)))], [], M2)) rfl).trans ?_
      rfl
/-- TermStrategies$Exchange.argumentsAlike(III)Z -/
noncomputable abbrev E_181 (d : Nat) : PQ → PO := evn (rnn k_181 lay none (pcl GG lay d) 2)
theorem q_181 (d : Nat) (l1 : Int32) (l2 : Int32) (l3 : Int32) (M : PM) : pcl GG lay (d + 1) 181 [.ref 24, .int l1, .int l2, .int l3] M = (kI (pcl GG lay d 231 [.ref 6, .int ((M.1 24 2) + l1)] M) fun r1 M1 => (kI (pcl GG lay d 63 [.int r1] M1) fun r2 M2 => (if r2 < (jn 2) then (if r2 < (jn 1) then (rZ (jn 1) M2) else (kI (pcl GG lay d 182 [.ref 24, .int (l1 + (jn 1)), .int (l2 + (jn 1))] M2) fun r3 M3 => (if r3 = jn 0 then (rZ (jn 0) M3) else (rZ (jn 1) M3)))) else (kI (pcl GG lay d 233 [.ref 6, .int (((M2.1 24 2) + l1) + (jn 1))] M2) fun r3 M3 => (kI (pcl GG lay d 233 [.ref 6, .int (((M3.1 24 3) + l2) + (jn 1))] M3) fun r4 M4 => (kI (pcl GG lay d 182 [.ref 24, .int (l1 + (jn 1)), .int (l2 + (jn 1))] M4) fun r5 M5 => (if r5 = jn 0 then (if ((l3 >>> ((r1 - (jn 105)) &&& 31)) &&& (jn 1)) = jn 0 then (rZ (jn 0) M5) else (kI (pcl GG lay d 182 [.ref 24, .int (l1 + (jn 1)), .int (r4 - (M4.1 24 3))] M5) fun r6 M6 => (if r6 = jn 0 then (rZ (jn 0) M6) else (kI (pcl GG lay d 182 [.ref 24, .int (r3 - (M3.1 24 2)), .int (l2 + (jn 1))] M6) fun r7 M7 => (if r7 = jn 0 then (rZ (jn 0) M7) else (rZ (jn 1) M7)))))) else (kI (pcl GG lay d 182 [.ref 24, .int (r3 - (M3.1 24 2)), .int (r4 - (M4.1 24 3))] M5) fun r6 M6 => (if r6 = jn 0 then (if ((l3 >>> ((r1 - (jn 105)) &&& 31)) &&& (jn 1)) = jn 0 then (rZ (jn 0) M6) else (kI (pcl GG lay d 182 [.ref 24, .int (l1 + (jn 1)), .int (r4 - (M4.1 24 3))] M6) fun r7 M7 => (if r7 = jn 0 then (rZ (jn 0) M7) else (kI (pcl GG lay d 182 [.ref 24, .int (r3 - (M3.1 24 2)), .int (l2 + (jn 1))] M7) fun r8 M8 => (if r8 = jn 0 then (rZ (jn 0) M8) else (rZ (jn 1) M8)))))) else (rZ (jn 1) M6)))))))))) := by
  refine (pcl_un (mt := t_181) (by decide) rfl (Nat.le_of_ble_eq_true rfl)).trans ?_
  show E_181 d (0, [some (.ref 24), some (.int l1), some (.int l2), some (.int l3), none, none, none, none], [], M) = _
  refine (evn_adv 6 (q' := (10, [some (.ref 24), some (.int l1), some (.int l2), some (.int l3), none, none, none, none], [.int ((M.1 24 2) + l1), .ref 6], M)) rfl).trans ?_
  refine (e_kI (q := (10, [some (.ref 24), some (.int l1), some (.int l2), some (.int l3), none, none, none, none], [.int ((M.1 24 2) + l1), .ref 6])) (q2 := (13, [some (.ref 24), some (.int l1), some (.int l2), some (.int l3), none, none, none, none], [])) (M := M) (o := (pcl GG lay d 231 [.ref 6, .int ((M.1 24 2) + l1)] M)) (hf := rfl) rfl rfl).trans ?_
  refine kI_in (fun r1 M1 => ?_)
  refine (evn_adv 2 (q' := (17, [some (.ref 24), some (.int l1), some (.int l2), some (.int l3), some (.int r1), none, none, none], [.int r1], M1)) rfl).trans ?_
  refine (e_kI (q := (17, [some (.ref 24), some (.int l1), some (.int l2), some (.int l3), some (.int r1), none, none, none], [.int r1])) (q2 := (20, [some (.ref 24), some (.int l1), some (.int l2), some (.int l3), some (.int r1), none, none, none], [])) (M := M1) (o := (pcl GG lay d 63 [.int r1] M1)) (hf := rfl) rfl rfl).trans ?_
  refine kI_in (fun r2 M2 => ?_)
  refine (evn_adv 3 (q' := (25, [some (.ref 24), some (.int l1), some (.int l2), some (.int l3), some (.int r1), some (.int r2), none, none], [.int (jn 2), .int r2], M2)) rfl).trans ?_
  refine (e_ic_ge (hf := rfl)).trans ?_
  refine ite_in ?_ ?_
  · refine (evn_adv 2 (q' := (31, [some (.ref 24), some (.int l1), some (.int l2), some (.int l3), some (.int r1), some (.int r2), none, none], [.int (jn 1), .int r2], M2)) rfl).trans ?_
    refine (e_ic_lt (hf := rfl)).trans ?_
    refine ite_in ?_ ?_
    · refine (evn_adv 2 (q' := (52, [some (.ref 24), some (.int l1), some (.int l2), some (.int l3), some (.int r1), some (.int r2), none, none], [.int (jn 1)], M2)) rfl).trans ?_
      exact e_iretz (hf := rfl)
    · refine (evn_adv 7 (q' := (41, [some (.ref 24), some (.int l1), some (.int l2), some (.int l3), some (.int r1), some (.int r2), none, none], [.int (l2 + (jn 1)), .int (l1 + (jn 1)), .ref 24], M2)) rfl).trans ?_
      refine (e_kI (q := (41, [some (.ref 24), some (.int l1), some (.int l2), some (.int l3), some (.int r1), some (.int r2), none, none], [.int (l2 + (jn 1)), .int (l1 + (jn 1)), .ref 24])) (q2 := (44, [some (.ref 24), some (.int l1), some (.int l2), some (.int l3), some (.int r1), some (.int r2), none, none], [])) (M := M2) (o := (pcl GG lay d 182 [.ref 24, .int (l1 + (jn 1)), .int (l2 + (jn 1))] M2)) (hf := rfl) rfl rfl).trans ?_
      refine kI_in (fun r3 M3 => ?_)
      refine (e_if_eq (hf := rfl)).trans ?_
      refine ite_in ?_ ?_
      · refine (evn_adv 1 (q' := (52, [some (.ref 24), some (.int l1), some (.int l2), some (.int l3), some (.int r1), some (.int r2), none, none], [.int (jn 0)], M3)) rfl).trans ?_
        exact e_iretz (hf := rfl)
      · refine (evn_adv 2 (q' := (52, [some (.ref 24), some (.int l1), some (.int l2), some (.int l3), some (.int r1), some (.int r2), none, none], [.int (jn 1)], M3)) rfl).trans ?_
        exact e_iretz (hf := rfl)
  · refine (evn_adv 8 (q' := (65, [some (.ref 24), some (.int l1), some (.int l2), some (.int l3), some (.int r1), some (.int r2), none, none], [.int (((M2.1 24 2) + l1) + (jn 1)), .ref 6], M2)) rfl).trans ?_
    refine (e_kI (q := (65, [some (.ref 24), some (.int l1), some (.int l2), some (.int l3), some (.int r1), some (.int r2), none, none], [.int (((M2.1 24 2) + l1) + (jn 1)), .ref 6])) (q2 := (68, [some (.ref 24), some (.int l1), some (.int l2), some (.int l3), some (.int r1), some (.int r2), none, none], [])) (M := M2) (o := (pcl GG lay d 233 [.ref 6, .int (((M2.1 24 2) + l1) + (jn 1))] M2)) (hf := rfl) rfl rfl).trans ?_
    refine kI_in (fun r3 M3 => ?_)
    refine (evn_adv 12 (q' := (87, [some (.ref 24), some (.int l1), some (.int l2), some (.int l3), some (.int r1), some (.int r2), some (.int (r3 - (M3.1 24 2))), none], [.int (((M3.1 24 3) + l2) + (jn 1)), .ref 6], M3)) rfl).trans ?_
    refine (e_kI (q := (87, [some (.ref 24), some (.int l1), some (.int l2), some (.int l3), some (.int r1), some (.int r2), some (.int (r3 - (M3.1 24 2))), none], [.int (((M3.1 24 3) + l2) + (jn 1)), .ref 6])) (q2 := (90, [some (.ref 24), some (.int l1), some (.int l2), some (.int l3), some (.int r1), some (.int r2), some (.int (r3 - (M3.1 24 2))), none], [])) (M := M3) (o := (pcl GG lay d 233 [.ref 6, .int (((M3.1 24 3) + l2) + (jn 1))] M3)) (hf := rfl) rfl rfl).trans ?_
    refine kI_in (fun r4 M4 => ?_)
    refine (evn_adv 11 (q' := (104, [some (.ref 24), some (.int l1), some (.int l2), some (.int l3), some (.int r1), some (.int r2), some (.int (r3 - (M3.1 24 2))), some (.int (r4 - (M4.1 24 3)))], [.int (l2 + (jn 1)), .int (l1 + (jn 1)), .ref 24], M4)) rfl).trans ?_
    refine (e_kI (q := (104, [some (.ref 24), some (.int l1), some (.int l2), some (.int l3), some (.int r1), some (.int r2), some (.int (r3 - (M3.1 24 2))), some (.int (r4 - (M4.1 24 3)))], [.int (l2 + (jn 1)), .int (l1 + (jn 1)), .ref 24])) (q2 := (107, [some (.ref 24), some (.int l1), some (.int l2), some (.int l3), some (.int r1), some (.int r2), some (.int (r3 - (M3.1 24 2))), some (.int (r4 - (M4.1 24 3)))], [])) (M := M4) (o := (pcl GG lay d 182 [.ref 24, .int (l1 + (jn 1)), .int (l2 + (jn 1))] M4)) (hf := rfl) rfl rfl).trans ?_
    refine kI_in (fun r5 M5 => ?_)
    refine (e_if_eq (hf := rfl)).trans ?_
    refine ite_in ?_ ?_
    · refine (evn_adv 7 (q' := (132, [some (.ref 24), some (.int l1), some (.int l2), some (.int l3), some (.int r1), some (.int r2), some (.int (r3 - (M3.1 24 2))), some (.int (r4 - (M4.1 24 3)))], [.int ((l3 >>> ((r1 - (jn 105)) &&& 31)) &&& (jn 1))], M5)) rfl).trans ?_
      refine (e_if_eq (hf := rfl)).trans ?_
      refine ite_in ?_ ?_
      · refine (evn_adv 1 (q' := (164, [some (.ref 24), some (.int l1), some (.int l2), some (.int l3), some (.int r1), some (.int r2), some (.int (r3 - (M3.1 24 2))), some (.int (r4 - (M4.1 24 3)))], [.int (jn 0)], M5)) rfl).trans ?_
        exact e_iretz (hf := rfl)
      · refine (evn_adv 5 (q' := (141, [some (.ref 24), some (.int l1), some (.int l2), some (.int l3), some (.int r1), some (.int r2), some (.int (r3 - (M3.1 24 2))), some (.int (r4 - (M4.1 24 3)))], [.int (r4 - (M4.1 24 3)), .int (l1 + (jn 1)), .ref 24], M5)) rfl).trans ?_
        refine (e_kI (q := (141, [some (.ref 24), some (.int l1), some (.int l2), some (.int l3), some (.int r1), some (.int r2), some (.int (r3 - (M3.1 24 2))), some (.int (r4 - (M4.1 24 3)))], [.int (r4 - (M4.1 24 3)), .int (l1 + (jn 1)), .ref 24])) (q2 := (144, [some (.ref 24), some (.int l1), some (.int l2), some (.int l3), some (.int r1), some (.int r2), some (.int (r3 - (M3.1 24 2))), some (.int (r4 - (M4.1 24 3)))], [])) (M := M5) (o := (pcl GG lay d 182 [.ref 24, .int (l1 + (jn 1)), .int (r4 - (M4.1 24 3))] M5)) (hf := rfl) rfl rfl).trans ?_
        refine kI_in (fun r6 M6 => ?_)
        refine (e_if_eq (hf := rfl)).trans ?_
        refine ite_in ?_ ?_
        · refine (evn_adv 1 (q' := (164, [some (.ref 24), some (.int l1), some (.int l2), some (.int l3), some (.int r1), some (.int r2), some (.int (r3 - (M3.1 24 2))), some (.int (r4 - (M4.1 24 3)))], [.int (jn 0)], M6)) rfl).trans ?_
          exact e_iretz (hf := rfl)
        · refine (evn_adv 5 (q' := (153, [some (.ref 24), some (.int l1), some (.int l2), some (.int l3), some (.int r1), some (.int r2), some (.int (r3 - (M3.1 24 2))), some (.int (r4 - (M4.1 24 3)))], [.int (l2 + (jn 1)), .int (r3 - (M3.1 24 2)), .ref 24], M6)) rfl).trans ?_
          refine (e_kI (q := (153, [some (.ref 24), some (.int l1), some (.int l2), some (.int l3), some (.int r1), some (.int r2), some (.int (r3 - (M3.1 24 2))), some (.int (r4 - (M4.1 24 3)))], [.int (l2 + (jn 1)), .int (r3 - (M3.1 24 2)), .ref 24])) (q2 := (156, [some (.ref 24), some (.int l1), some (.int l2), some (.int l3), some (.int r1), some (.int r2), some (.int (r3 - (M3.1 24 2))), some (.int (r4 - (M4.1 24 3)))], [])) (M := M6) (o := (pcl GG lay d 182 [.ref 24, .int (r3 - (M3.1 24 2)), .int (l2 + (jn 1))] M6)) (hf := rfl) rfl rfl).trans ?_
          refine kI_in (fun r7 M7 => ?_)
          refine (e_if_eq (hf := rfl)).trans ?_
          refine ite_in ?_ ?_
          · refine (evn_adv 1 (q' := (164, [some (.ref 24), some (.int l1), some (.int l2), some (.int l3), some (.int r1), some (.int r2), some (.int (r3 - (M3.1 24 2))), some (.int (r4 - (M4.1 24 3)))], [.int (jn 0)], M7)) rfl).trans ?_
            exact e_iretz (hf := rfl)
          · refine (evn_adv 2 (q' := (164, [some (.ref 24), some (.int l1), some (.int l2), some (.int l3), some (.int r1), some (.int r2), some (.int (r3 - (M3.1 24 2))), some (.int (r4 - (M4.1 24 3)))], [.int (jn 1)], M7)) rfl).trans ?_
            exact e_iretz (hf := rfl)
    · refine (evn_adv 3 (q' := (115, [some (.ref 24), some (.int l1), some (.int l2), some (.int l3), some (.int r1), some (.int r2), some (.int (r3 - (M3.1 24 2))), some (.int (r4 - (M4.1 24 3)))], [.int (r4 - (M4.1 24 3)), .int (r3 - (M3.1 24 2)), .ref 24], M5)) rfl).trans ?_
      refine (e_kI (q := (115, [some (.ref 24), some (.int l1), some (.int l2), some (.int l3), some (.int r1), some (.int r2), some (.int (r3 - (M3.1 24 2))), some (.int (r4 - (M4.1 24 3)))], [.int (r4 - (M4.1 24 3)), .int (r3 - (M3.1 24 2)), .ref 24])) (q2 := (118, [some (.ref 24), some (.int l1), some (.int l2), some (.int l3), some (.int r1), some (.int r2), some (.int (r3 - (M3.1 24 2))), some (.int (r4 - (M4.1 24 3)))], [])) (M := M5) (o := (pcl GG lay d 182 [.ref 24, .int (r3 - (M3.1 24 2)), .int (r4 - (M4.1 24 3))] M5)) (hf := rfl) rfl rfl).trans ?_
      refine kI_in (fun r6 M6 => ?_)
      refine (e_if_eq (hf := rfl)).trans ?_
      refine ite_in ?_ ?_
      · refine (evn_adv 7 (q' := (132, [some (.ref 24), some (.int l1), some (.int l2), some (.int l3), some (.int r1), some (.int r2), some (.int (r3 - (M3.1 24 2))), some (.int (r4 - (M4.1 24 3)))], [.int ((l3 >>> ((r1 - (jn 105)) &&& 31)) &&& (jn 1))], M6)) rfl).trans ?_
        refine (e_if_eq (hf := rfl)).trans ?_
        refine ite_in ?_ ?_
        · refine (evn_adv 1 (q' := (164, [some (.ref 24), some (.int l1), some (.int l2), some (.int l3), some (.int r1), some (.int r2), some (.int (r3 - (M3.1 24 2))), some (.int (r4 - (M4.1 24 3)))], [.int (jn 0)], M6)) rfl).trans ?_
          exact e_iretz (hf := rfl)
        · refine (evn_adv 5 (q' := (141, [some (.ref 24), some (.int l1), some (.int l2), some (.int l3), some (.int r1), some (.int r2), some (.int (r3 - (M3.1 24 2))), some (.int (r4 - (M4.1 24 3)))], [.int (r4 - (M4.1 24 3)), .int (l1 + (jn 1)), .ref 24], M6)) rfl).trans ?_
          refine (e_kI (q := (141, [some (.ref 24), some (.int l1), some (.int l2), some (.int l3), some (.int r1), some (.int r2), some (.int (r3 - (M3.1 24 2))), some (.int (r4 - (M4.1 24 3)))], [.int (r4 - (M4.1 24 3)), .int (l1 + (jn 1)), .ref 24])) (q2 := (144, [some (.ref 24), some (.int l1), some (.int l2), some (.int l3), some (.int r1), some (.int r2), some (.int (r3 - (M3.1 24 2))), some (.int (r4 - (M4.1 24 3)))], [])) (M := M6) (o := (pcl GG lay d 182 [.ref 24, .int (l1 + (jn 1)), .int (r4 - (M4.1 24 3))] M6)) (hf := rfl) rfl rfl).trans ?_
          refine kI_in (fun r7 M7 => ?_)
          refine (e_if_eq (hf := rfl)).trans ?_
          refine ite_in ?_ ?_
          · refine (evn_adv 1 (q' := (164, [some (.ref 24), some (.int l1), some (.int l2), some (.int l3), some (.int r1), some (.int r2), some (.int (r3 - (M3.1 24 2))), some (.int (r4 - (M4.1 24 3)))], [.int (jn 0)], M7)) rfl).trans ?_
            exact e_iretz (hf := rfl)
          · refine (evn_adv 5 (q' := (153, [some (.ref 24), some (.int l1), some (.int l2), some (.int l3), some (.int r1), some (.int r2), some (.int (r3 - (M3.1 24 2))), some (.int (r4 - (M4.1 24 3)))], [.int (l2 + (jn 1)), .int (r3 - (M3.1 24 2)), .ref 24], M7)) rfl).trans ?_
            refine (e_kI (q := (153, [some (.ref 24), some (.int l1), some (.int l2), some (.int l3), some (.int r1), some (.int r2), some (.int (r3 - (M3.1 24 2))), some (.int (r4 - (M4.1 24 3)))], [.int (l2 + (jn 1)), .int (r3 - (M3.1 24 2)), .ref 24])) (q2 := (156, [some (.ref 24), some (.int l1), some (.int l2), some (.int l3), some (.int r1), some (.int r2), some (.int (r3 - (M3.1 24 2))), some (.int (r4 - (M4.1 24 3)))], [])) (M := M7) (o := (pcl GG lay d 182 [.ref 24, .int (r3 - (M3.1 24 2)), .int (l2 + (jn 1))] M7)) (hf := rfl) rfl rfl).trans ?_
            refine kI_in (fun r8 M8 => ?_)
            refine (e_if_eq (hf := rfl)).trans ?_
            refine ite_in ?_ ?_
            · refine (evn_adv 1 (q' := (164, [some (.ref 24), some (.int l1), some (.int l2), some (.int l3), some (.int r1), some (.int r2), some (.int (r3 - (M3.1 24 2))), some (.int (r4 - (M4.1 24 3)))], [.int (jn 0)], M8)) rfl).trans ?_
              exact e_iretz (hf := rfl)
            · refine (evn_adv 2 (q' := (164, [some (.ref 24), some (.int l1), some (.int l2), some (.int l3), some (.int r1), some (.int r2), some (.int (r3 - (M3.1 24 2))), some (.int (r4 - (M4.1 24 3)))], [.int (jn 1)], M8)) rfl).trans ?_
              exact e_iretz (hf := rfl)
      · refine (evn_adv 1 (q' := (122, [some (.ref 24), some (.int l1), some (.int l2), some (.int l3), some (.int r1), some (.int r2), some (.int (r3 - (M3.1 24 2))), some (.int (r4 - (M4.1 24 3)))], [.int (jn 1)], M6)) rfl).trans ?_
        exact e_iretz (hf := rfl)
/-- TermStrategies$Exchange.isAlike(II)Z -/
noncomputable abbrev E_182 (d : Nat) : PQ → PO := evn (rnn k_182 lay none (pcl GG lay d) 2)
theorem q_182 (d : Nat) (l1 : Int32) (l2 : Int32) (M : PM) : pcl GG lay (d + 1) 182 [.ref 24, .int l1, .int l2] M = (kL (pcl GG lay d 67 [.ref 25, .int l1] M) fun r1 M1 => (if (lg_cmp ((r1 >>> (l2.toInt64 &&& 63)) &&& (Int64.ofNat 1)) (Int64.ofNat 0)) = jn 0 then (rZ (jn 0) M1) else (rZ (jn 1) M1))) := by
  refine (pcl_un (mt := t_182) (by decide) rfl (Nat.le_of_ble_eq_true rfl)).trans ?_
  show E_182 d (0, [some (.ref 24), some (.int l1), some (.int l2)], [], M) = _
  refine (evn_adv 3 (q' := (5, [some (.ref 24), some (.int l1), some (.int l2)], [.int l1, .ref 25], M)) rfl).trans ?_
  refine (e_kL (q := (5, [some (.ref 24), some (.int l1), some (.int l2)], [.int l1, .ref 25])) (q2 := (8, [some (.ref 24), some (.int l1), some (.int l2)], [])) (M := M) (o := (pcl GG lay d 67 [.ref 25, .int l1] M)) (hf := rfl) rfl rfl).trans ?_
  refine kL_in (fun r1 M1 => ?_)
  refine (evn_adv 6 (q' := (14, [some (.ref 24), some (.int l1), some (.int l2)], [.int (lg_cmp ((r1 >>> (l2.toInt64 &&& 63)) &&& (Int64.ofNat 1)) (Int64.ofNat 0))], M1)) rfl).trans ?_
  refine (e_if_eq (hf := rfl)).trans ?_
  refine ite_in ?_ ?_
  · refine (evn_adv 1 (q' := (22, [some (.ref 24), some (.int l1), some (.int l2)], [.int (jn 0)], M1)) rfl).trans ?_
    exact e_iretz (hf := rfl)
  · refine (evn_adv 2 (q' := (22, [some (.ref 24), some (.int l1), some (.int l2)], [.int (jn 1)], M1)) rfl).trans ?_
    exact e_iretz (hf := rfl)
/-- TermStrategies$Layout.lay(I)V -/
noncomputable abbrev E_183 (d : Nat) : PQ → PO := evn (rnn k_183 lay none (pcl GG lay d) 0)
theorem q_183 (d : Nat) (l1 : Int32) (M : PM) : pcl GG lay (d + 1) 183 [.ref 21, .int l1] M = (kI (pcl GG lay d 234 [.ref 6, .int l1] M) fun r1 M1 => (wr (sI M1 21 (va_up (M1.1 21) 3 r1)) fun M2 => (kV (pcl GG lay d 66 [.ref 22, .int (jn 0), .int (jn 1)] M2) fun M3 => (kV (pcl GG lay d 68 [.ref 23, .int (jn 0), .long (Int64.ofNat 0)] M3) fun M4 => E_183 d (32, [some (.ref 21), some (.int l1), some (.int (jn 0)), none], [], M4))))) := by
  refine (pcl_un (mt := t_183) (by decide) rfl (Nat.le_of_ble_eq_true rfl)).trans ?_
  show E_183 d (0, [some (.ref 21), some (.int l1), none, none], [], M) = _
  refine (evn_adv 4 (q' := (6, [some (.ref 21), some (.int l1), none, none], [.int l1, .ref 6, .ref 21], M)) rfl).trans ?_
  refine (e_kI (q := (6, [some (.ref 21), some (.int l1), none, none], [.int l1, .ref 6, .ref 21])) (q2 := (9, [some (.ref 21), some (.int l1), none, none], [.ref 21])) (M := M) (o := (pcl GG lay d 234 [.ref 6, .int l1] M)) (hf := rfl) rfl rfl).trans ?_
  refine kI_in (fun r1 M1 => ?_)
  refine (evn_adv 1 (q' := (12, [some (.ref 21), some (.int l1), none, none], [], (sI M1 21 (va_up (M1.1 21) 3 r1)))) rfl).trans ?_
  refine wr_in (f := fun M2 => E_183 d (12, [some (.ref 21), some (.int l1), none, none], [], M2)) (fun M2 => ?_)
  refine (evn_adv 4 (q' := (18, [some (.ref 21), some (.int l1), none, none], [.int (jn 1), .int (jn 0), .ref 22], M2)) rfl).trans ?_
  refine (e_kV (q := (18, [some (.ref 21), some (.int l1), none, none], [.int (jn 1), .int (jn 0), .ref 22])) (q2 := (21, [some (.ref 21), some (.int l1), none, none], [])) (M := M2) (o := (pcl GG lay d 66 [.ref 22, .int (jn 0), .int (jn 1)] M2)) (hf := rfl) rfl rfl).trans ?_
  refine kV_in (fun M3 => ?_)
  refine (evn_adv 4 (q' := (27, [some (.ref 21), some (.int l1), none, none], [.long (Int64.ofNat 0), .int (jn 0), .ref 23], M3)) rfl).trans ?_
  refine (e_kV (q := (27, [some (.ref 21), some (.int l1), none, none], [.long (Int64.ofNat 0), .int (jn 0), .ref 23])) (q2 := (30, [some (.ref 21), some (.int l1), none, none], [])) (M := M3) (o := (pcl GG lay d 68 [.ref 23, .int (jn 0), .long (Int64.ofNat 0)] M3)) (hf := rfl) rfl rfl).trans ?_
  refine kV_in (fun M4 => ?_)
  refine (evn_adv 2 (q' := (32, [some (.ref 21), some (.int l1), some (.int (jn 0)), none], [], M4)) rfl).trans ?_
  rfl
theorem h_183_32 (d : Nat) (l1 : Int32) (l2 : Int32) (u3 : Option Value) (M : PM) : E_183 d (32, [some (.ref 21), some (.int l1), some (.int l2), u3], [], M) = (if l2 < (M.1 21 3) then (kI (pcl GG lay d 231 [.ref 6, .int (l1 + l2)] M) fun r1 M1 => (kI (pcl GG lay d 63 [.int r1] M1) fun r2 M2 => (if r2 < (jn 1) then (if r2 = (jn 2) then (kI (pcl GG lay d 233 [.ref 6, .int ((l1 + l2) + (jn 1))] M2) fun r3 M3 => (kV (pcl GG lay d 184 [.ref 21, .int l2, .int (jn 2), .int (r3 - l1)] M3) fun M4 => E_183 d (32, [some (.ref 21), some (.int l1), some (.int (l2 + (jn 1))), some (.int r2)], [], M4))) else E_183 d (32, [some (.ref 21), some (.int l1), some (.int (l2 + (jn 1))), some (.int r2)], [], M2)) else (kV (pcl GG lay d 184 [.ref 21, .int l2, .int (jn 1), .int (l2 + (jn 1))] M2) fun M3 => (if r2 = (jn 2) then (kI (pcl GG lay d 233 [.ref 6, .int ((l1 + l2) + (jn 1))] M3) fun r4 M4 => (kV (pcl GG lay d 184 [.ref 21, .int l2, .int (jn 2), .int (r4 - l1)] M4) fun M5 => E_183 d (32, [some (.ref 21), some (.int l1), some (.int (l2 + (jn 1))), some (.int r2)], [], M5))) else E_183 d (32, [some (.ref 21), some (.int l1), some (.int (l2 + (jn 1))), some (.int r2)], [], M3)))))) else (rV M)) := by
  refine (evn_adv 3 (q' := (37, [some (.ref 21), some (.int l1), some (.int l2), u3], [.int (M.1 21 3), .int l2], M)) rfl).trans ?_
  refine (e_ic_ge (hf := rfl)).trans ?_
  refine ite_in ?_ ?_
  · refine (evn_adv 5 (q' := (47, [some (.ref 21), some (.int l1), some (.int l2), u3], [.int (l1 + l2), .ref 6], M)) rfl).trans ?_
    refine (e_kI (q := (47, [some (.ref 21), some (.int l1), some (.int l2), u3], [.int (l1 + l2), .ref 6])) (q2 := (50, [some (.ref 21), some (.int l1), some (.int l2), u3], [])) (M := M) (o := (pcl GG lay d 231 [.ref 6, .int (l1 + l2)] M)) (hf := rfl) rfl rfl).trans ?_
    refine kI_in (fun r1 M1 => ?_)
    refine (e_kI (q := (50, [some (.ref 21), some (.int l1), some (.int l2), u3], [.int r1])) (q2 := (53, [some (.ref 21), some (.int l1), some (.int l2), u3], [])) (M := M1) (o := (pcl GG lay d 63 [.int r1] M1)) (hf := rfl) rfl rfl).trans ?_
    refine kI_in (fun r2 M2 => ?_)
    refine (evn_adv 3 (q' := (56, [some (.ref 21), some (.int l1), some (.int l2), some (.int r2)], [.int (jn 1), .int r2], M2)) rfl).trans ?_
    refine (e_ic_lt (hf := rfl)).trans ?_
    refine ite_in ?_ ?_
    · refine (evn_adv 2 (q' := (70, [some (.ref 21), some (.int l1), some (.int l2), some (.int r2)], [.int (jn 2), .int r2], M2)) rfl).trans ?_
      refine (e_ic_ne (hf := rfl)).trans ?_
      refine ite_in ?_ ?_
      · refine (evn_adv 10 (q' := (85, [some (.ref 21), some (.int l1), some (.int l2), some (.int r2)], [.int ((l1 + l2) + (jn 1)), .ref 6, .int (jn 2), .int l2, .ref 21], M2)) rfl).trans ?_
        refine (e_kI (q := (85, [some (.ref 21), some (.int l1), some (.int l2), some (.int r2)], [.int ((l1 + l2) + (jn 1)), .ref 6, .int (jn 2), .int l2, .ref 21])) (q2 := (88, [some (.ref 21), some (.int l1), some (.int l2), some (.int r2)], [.int (jn 2), .int l2, .ref 21])) (M := M2) (o := (pcl GG lay d 233 [.ref 6, .int ((l1 + l2) + (jn 1))] M2)) (hf := rfl) rfl rfl).trans ?_
        refine kI_in (fun r3 M3 => ?_)
        refine (evn_adv 2 (q' := (90, [some (.ref 21), some (.int l1), some (.int l2), some (.int r2)], [.int (r3 - l1), .int (jn 2), .int l2, .ref 21], M3)) rfl).trans ?_
        refine (e_kV (q := (90, [some (.ref 21), some (.int l1), some (.int l2), some (.int r2)], [.int (r3 - l1), .int (jn 2), .int l2, .ref 21])) (q2 := (93, [some (.ref 21), some (.int l1), some (.int l2), some (.int r2)], [])) (M := M3) (o := (pcl GG lay d 184 [.ref 21, .int l2, .int (jn 2), .int (r3 - l1)] M3)) (hf := rfl) rfl rfl).trans ?_
        refine kV_in (fun M4 => ?_)
        refine (evn_adv 2 (q' := (32, [some (.ref 21), some (.int l1), some (.int (l2 + (jn 1))), some (.int r2)], [], M4)) rfl).trans ?_
        rfl
      · refine (evn_adv 2 (q' := (32, [some (.ref 21), some (.int l1), some (.int (l2 + (jn 1))), some (.int r2)], [], M2)) rfl).trans ?_
        rfl
    · refine (evn_adv 6 (q' := (65, [some (.ref 21), some (.int l1), some (.int l2), some (.int r2)], [.int (l2 + (jn 1)), .int (jn 1), .int l2, .ref 21], M2)) rfl).trans ?_
      refine (e_kV (q := (65, [some (.ref 21), some (.int l1), some (.int l2), some (.int r2)], [.int (l2 + (jn 1)), .int (jn 1), .int l2, .ref 21])) (q2 := (68, [some (.ref 21), some (.int l1), some (.int l2), some (.int r2)], [])) (M := M2) (o := (pcl GG lay d 184 [.ref 21, .int l2, .int (jn 1), .int (l2 + (jn 1))] M2)) (hf := rfl) rfl rfl).trans ?_
      refine kV_in (fun M3 => ?_)
      refine (evn_adv 2 (q' := (70, [some (.ref 21), some (.int l1), some (.int l2), some (.int r2)], [.int (jn 2), .int r2], M3)) rfl).trans ?_
      refine (e_ic_ne (hf := rfl)).trans ?_
      refine ite_in ?_ ?_
      · refine (evn_adv 10 (q' := (85, [some (.ref 21), some (.int l1), some (.int l2), some (.int r2)], [.int ((l1 + l2) + (jn 1)), .ref 6, .int (jn 2), .int l2, .ref 21], M3)) rfl).trans ?_
        refine (e_kI (q := (85, [some (.ref 21), some (.int l1), some (.int l2), some (.int r2)], [.int ((l1 + l2) + (jn 1)), .ref 6, .int (jn 2), .int l2, .ref 21])) (q2 := (88, [some (.ref 21), some (.int l1), some (.int l2), some (.int r2)], [.int (jn 2), .int l2, .ref 21])) (M := M3) (o := (pcl GG lay d 233 [.ref 6, .int ((l1 + l2) + (jn 1))] M3)) (hf := rfl) rfl rfl).trans ?_
        refine kI_in (fun r4 M4 => ?_)
        refine (evn_adv 2 (q' := (90, [some (.ref 21), some (.int l1), some (.int l2), some (.int r2)], [.int (r4 - l1), .int (jn 2), .int l2, .ref 21], M4)) rfl).trans ?_
        refine (e_kV (q := (90, [some (.ref 21), some (.int l1), some (.int l2), some (.int r2)], [.int (r4 - l1), .int (jn 2), .int l2, .ref 21])) (q2 := (93, [some (.ref 21), some (.int l1), some (.int l2), some (.int r2)], [])) (M := M4) (o := (pcl GG lay d 184 [.ref 21, .int l2, .int (jn 2), .int (r4 - l1)] M4)) (hf := rfl) rfl rfl).trans ?_
        refine kV_in (fun M5 => ?_)
        refine (evn_adv 2 (q' := (32, [some (.ref 21), some (.int l1), some (.int (l2 + (jn 1))), some (.int r2)], [], M5)) rfl).trans ?_
        rfl
      · refine (evn_adv 2 (q' := (32, [some (.ref 21), some (.int l1), some (.int (l2 + (jn 1))), some (.int r2)], [], M3)) rfl).trans ?_
        rfl
  · exact evn_end 1 rfl
/-- TermStrategies$Layout.layArgument(III)V -/
noncomputable abbrev E_184 (d : Nat) : PQ → PO := evn (rnn k_184 lay none (pcl GG lay d) 0)
theorem q_184 (d : Nat) (l1 : Int32) (l2 : Int32) (l3 : Int32) (M : PM) : pcl GG lay (d + 1) 184 [.ref 21, .int l1, .int l2, .int l3] M = (kI (pcl GG lay d 65 [.ref 22, .int l1] M) fun r1 M1 => (kV (pcl GG lay d 66 [.ref 22, .int l3, .int (r1 + (jn 1))] M1) fun M2 => (kL (pcl GG lay d 67 [.ref 23, .int l1] M2) fun r3 M3 => (kV (pcl GG lay d 68 [.ref 23, .int l3, .long (((Int64.ofInt 3) * r3) + (l2.toInt64))] M3) fun M4 => (rV M4))))) := by
  refine (pcl_un (mt := t_184) (by decide) rfl (Nat.le_of_ble_eq_true rfl)).trans ?_
  show E_184 d (0, [some (.ref 21), some (.int l1), some (.int l2), some (.int l3)], [], M) = _
  refine (evn_adv 6 (q' := (10, [some (.ref 21), some (.int l1), some (.int l2), some (.int l3)], [.int l1, .ref 22, .int l3, .ref 22], M)) rfl).trans ?_
  refine (e_kI (q := (10, [some (.ref 21), some (.int l1), some (.int l2), some (.int l3)], [.int l1, .ref 22, .int l3, .ref 22])) (q2 := (13, [some (.ref 21), some (.int l1), some (.int l2), some (.int l3)], [.int l3, .ref 22])) (M := M) (o := (pcl GG lay d 65 [.ref 22, .int l1] M)) (hf := rfl) rfl rfl).trans ?_
  refine kI_in (fun r1 M1 => ?_)
  refine (evn_adv 2 (q' := (15, [some (.ref 21), some (.int l1), some (.int l2), some (.int l3)], [.int (r1 + (jn 1)), .int l3, .ref 22], M1)) rfl).trans ?_
  refine (e_kV (q := (15, [some (.ref 21), some (.int l1), some (.int l2), some (.int l3)], [.int (r1 + (jn 1)), .int l3, .ref 22])) (q2 := (18, [some (.ref 21), some (.int l1), some (.int l2), some (.int l3)], [])) (M := M1) (o := (pcl GG lay d 66 [.ref 22, .int l3, .int (r1 + (jn 1))] M1)) (hf := rfl) rfl rfl).trans ?_
  refine kV_in (fun M2 => ?_)
  refine (evn_adv 7 (q' := (31, [some (.ref 21), some (.int l1), some (.int l2), some (.int l3)], [.int l1, .ref 23, .long (Int64.ofInt 3), .int l3, .ref 23], M2)) rfl).trans ?_
  refine (e_kL (q := (31, [some (.ref 21), some (.int l1), some (.int l2), some (.int l3)], [.int l1, .ref 23, .long (Int64.ofInt 3), .int l3, .ref 23])) (q2 := (34, [some (.ref 21), some (.int l1), some (.int l2), some (.int l3)], [.long (Int64.ofInt 3), .int l3, .ref 23])) (M := M2) (o := (pcl GG lay d 67 [.ref 23, .int l1] M2)) (hf := rfl) rfl rfl).trans ?_
  refine kL_in (fun r3 M3 => ?_)
  refine (evn_adv 4 (q' := (38, [some (.ref 21), some (.int l1), some (.int l2), some (.int l3)], [.long (((Int64.ofInt 3) * r3) + (l2.toInt64)), .int l3, .ref 23], M3)) rfl).trans ?_
  refine (e_kV (q := (38, [some (.ref 21), some (.int l1), some (.int l2), some (.int l3)], [.long (((Int64.ofInt 3) * r3) + (l2.toInt64)), .int l3, .ref 23])) (q2 := (41, [some (.ref 21), some (.int l1), some (.int l2), some (.int l3)], [])) (M := M3) (o := (pcl GG lay d 68 [.ref 23, .int l3, .long (((Int64.ofInt 3) * r3) + (l2.toInt64))] M3)) (hf := rfl) rfl rfl).trans ?_
  refine kV_in (fun M4 => ?_)
  exact evn_end 1 rfl
/-- TermStrategies$Layout.deepest()I -/
noncomputable abbrev E_185 (d : Nat) : PQ → PO := evn (rnn k_185 lay none (pcl GG lay d) 1)
theorem q_185 (d : Nat)  (M : PM) : pcl GG lay (d + 1) 185 [.ref 21] M = E_185 d (4, [some (.ref 21), some (.int (jn 0)), some (.int (jn 0))], [], M) := by
  refine (pcl_un (mt := t_185) (by decide) rfl (Nat.le_of_ble_eq_true rfl)).trans ?_
  show E_185 d (0, [some (.ref 21), none, none], [], M) = _
  refine (evn_adv 4 (q' := (4, [some (.ref 21), some (.int (jn 0)), some (.int (jn 0))], [], M)) rfl).trans ?_
  rfl
theorem h_185_4 (d : Nat) (l1 : Int32) (l2 : Int32) (M : PM) : E_185 d (4, [some (.ref 21), some (.int l1), some (.int l2)], [], M) = (if l2 < (M.1 21 3) then (kI (pcl GG lay d 65 [.ref 22, .int l2] M) fun r1 M1 => (kI (pcl GG lay d 1 [.int l1, .int r1] M1) fun r2 M2 => E_185 d (4, [some (.ref 21), some (.int r2), some (.int (l2 + (jn 1)))], [], M2))) else (rI l1 M)) := by
  refine (evn_adv 3 (q' := (9, [some (.ref 21), some (.int l1), some (.int l2)], [.int (M.1 21 3), .int l2], M)) rfl).trans ?_
  refine (e_ic_ge (hf := rfl)).trans ?_
  refine ite_in ?_ ?_
  · refine (evn_adv 4 (q' := (18, [some (.ref 21), some (.int l1), some (.int l2)], [.int l2, .ref 22, .int l1], M)) rfl).trans ?_
    refine (e_kI (q := (18, [some (.ref 21), some (.int l1), some (.int l2)], [.int l2, .ref 22, .int l1])) (q2 := (21, [some (.ref 21), some (.int l1), some (.int l2)], [.int l1])) (M := M) (o := (pcl GG lay d 65 [.ref 22, .int l2] M)) (hf := rfl) rfl rfl).trans ?_
    refine kI_in (fun r1 M1 => ?_)
    refine (e_kI (q := (21, [some (.ref 21), some (.int l1), some (.int l2)], [.int r1, .int l1])) (q2 := (24, [some (.ref 21), some (.int l1), some (.int l2)], [])) (M := M1) (o := (pcl GG lay d 1 [.int l1, .int r1] M1)) (hf := rfl) rfl rfl).trans ?_
    refine kI_in (fun r2 M2 => ?_)
    refine (evn_adv 3 (q' := (4, [some (.ref 21), some (.int r2), some (.int (l2 + (jn 1)))], [], M2)) rfl).trans ?_
    rfl
  · refine (evn_adv 1 (q' := (32, [some (.ref 21), some (.int l1), some (.int l2)], [.int l1], M)) rfl).trans ?_
    exact evn_end 1 rfl
/-- TermStrategies$Layout.pathAt(I)J -/
noncomputable abbrev E_186 (d : Nat) : PQ → PO := evn (rnn k_186 lay none (pcl GG lay d) 3)
theorem q_186 (d : Nat) (l1 : Int32) (M : PM) : pcl GG lay (d + 1) 186 [.ref 21, .int l1] M = (kL (pcl GG lay d 67 [.ref 23, .int l1] M) fun r1 M1 => (rL r1 M1)) := by
  refine (pcl_un (mt := t_186) (by decide) rfl (Nat.le_of_ble_eq_true rfl)).trans ?_
  show E_186 d (0, [some (.ref 21), some (.int l1)], [], M) = _
  refine (evn_adv 3 (q' := (5, [some (.ref 21), some (.int l1)], [.int l1, .ref 23], M)) rfl).trans ?_
  refine (e_kL (q := (5, [some (.ref 21), some (.int l1)], [.int l1, .ref 23])) (q2 := (8, [some (.ref 21), some (.int l1)], [])) (M := M) (o := (pcl GG lay d 67 [.ref 23, .int l1] M)) (hf := rfl) rfl rfl).trans ?_
  refine kL_in (fun r1 M1 => ?_)
  exact evn_end 1 rfl
/-- TermStrategies$Layout.nodeAt(J)I -/
noncomputable abbrev E_187 (d : Nat) : PQ → PO := evn (rnn k_187 lay none (pcl GG lay d) 1)
theorem q_187 (d : Nat) (l1 : Int64) (M : PM) : pcl GG lay (d + 1) 187 [.ref 21, .long l1] M = E_187 d (2, [some (.ref 21), some (.long l1), none, some (.int (jn 0))], [], M) := by
  refine (pcl_un (mt := t_187) (by decide) rfl (Nat.le_of_ble_eq_true rfl)).trans ?_
  show E_187 d (0, [some (.ref 21), some (.long l1), none, none], [], M) = _
  refine (evn_adv 2 (q' := (2, [some (.ref 21), some (.long l1), none, some (.int (jn 0))], [], M)) rfl).trans ?_
  rfl
theorem h_187_2 (d : Nat) (l1 : Int64) (l3 : Int32) (M : PM) : E_187 d (2, [some (.ref 21), some (.long l1), none, some (.int l3)], [], M) = (if l3 < (M.1 21 3) then (kL (pcl GG lay d 67 [.ref 23, .int l3] M) fun r1 M1 => (if (lg_cmp r1 l1) = jn 0 then (rI l3 M1) else E_187 d (2, [some (.ref 21), some (.long l1), none, some (.int (l3 + (jn 1)))], [], M1))) else (rI (jz 1) M)) := by
  refine (evn_adv 3 (q' := (7, [some (.ref 21), some (.long l1), none, some (.int l3)], [.int (M.1 21 3), .int l3], M)) rfl).trans ?_
  refine (e_ic_ge (hf := rfl)).trans ?_
  refine ite_in ?_ ?_
  · refine (evn_adv 3 (q' := (15, [some (.ref 21), some (.long l1), none, some (.int l3)], [.int l3, .ref 23], M)) rfl).trans ?_
    refine (e_kL (q := (15, [some (.ref 21), some (.long l1), none, some (.int l3)], [.int l3, .ref 23])) (q2 := (18, [some (.ref 21), some (.long l1), none, some (.int l3)], [])) (M := M) (o := (pcl GG lay d 67 [.ref 23, .int l3] M)) (hf := rfl) rfl rfl).trans ?_
    refine kL_in (fun r1 M1 => ?_)
    refine (evn_adv 2 (q' := (20, [some (.ref 21), some (.long l1), none, some (.int l3)], [.int (lg_cmp r1 l1)], M1)) rfl).trans ?_
    refine (e_if_ne (hf := rfl)).trans ?_
    refine ite_in ?_ ?_
    · refine (evn_adv 1 (q' := (24, [some (.ref 21), some (.long l1), none, some (.int l3)], [.int l3], M1)) rfl).trans ?_
      exact evn_end 1 rfl
    · refine (evn_adv 2 (q' := (2, [some (.ref 21), some (.long l1), none, some (.int (l3 + (jn 1)))], [], M1)) rfl).trans ?_
      rfl
  · refine (evn_adv 1 (q' := (32, [some (.ref 21), some (.long l1), none, some (.int l3)], [.int (jz 1)], M)) rfl).trans ?_
    exact evn_end 1 rfl
/-- TermStrategies$Matching.matches(III)Z -/
noncomputable abbrev E_188 (d : Nat) : PQ → PO := evn (rnn k_188 lay none (pcl GG lay d) 2)
theorem q_188 (d : Nat) (l1 : Int32) (l2 : Int32) (l3 : Int32) (M : PM) : pcl GG lay (d + 1) 188 [.ref 26, .int l1, .int l2, .int l3] M = (kI (pcl GG lay d 234 [.ref 6, .int l1] M) fun r1 M1 => (kV (pcl GG lay d 189 [.ref 26, .int l1, .int r1, .int l3] M1) fun M2 => E_188 d (32, [some (.ref 26), some (.int l1), some (.int l2), some (.int l3), some (.int r1), some (.int ((jn 1) <<< ((M2.1 26 4) &&& 31))), some (.int (jn 0)), some (.int (jn 0))], [], M2))) := by
  refine (pcl_un (mt := t_188) (by decide) rfl (Nat.le_of_ble_eq_true rfl)).trans ?_
  show E_188 d (0, [some (.ref 26), some (.int l1), some (.int l2), some (.int l3), none, none, none, none], [], M) = _
  refine (evn_adv 3 (q' := (5, [some (.ref 26), some (.int l1), some (.int l2), some (.int l3), none, none, none, none], [.int l1, .ref 6], M)) rfl).trans ?_
  refine (e_kI (q := (5, [some (.ref 26), some (.int l1), some (.int l2), some (.int l3), none, none, none, none], [.int l1, .ref 6])) (q2 := (8, [some (.ref 26), some (.int l1), some (.int l2), some (.int l3), none, none, none, none], [])) (M := M) (o := (pcl GG lay d 234 [.ref 6, .int l1] M)) (hf := rfl) rfl rfl).trans ?_
  refine kI_in (fun r1 M1 => ?_)
  refine (evn_adv 5 (q' := (15, [some (.ref 26), some (.int l1), some (.int l2), some (.int l3), some (.int r1), none, none, none], [.int l3, .int r1, .int l1, .ref 26], M1)) rfl).trans ?_
  refine (e_kV (q := (15, [some (.ref 26), some (.int l1), some (.int l2), some (.int l3), some (.int r1), none, none, none], [.int l3, .int r1, .int l1, .ref 26])) (q2 := (18, [some (.ref 26), some (.int l1), some (.int l2), some (.int l3), some (.int r1), none, none, none], [])) (M := M1) (o := (pcl GG lay d 189 [.ref 26, .int l1, .int r1, .int l3] M1)) (hf := rfl) rfl rfl).trans ?_
  refine kV_in (fun M2 => ?_)
  refine (evn_adv 9 (q' := (32, [some (.ref 26), some (.int l1), some (.int l2), some (.int l3), some (.int r1), some (.int ((jn 1) <<< ((M2.1 26 4) &&& 31))), some (.int (jn 0)), some (.int (jn 0))], [], M2)) rfl).trans ?_
  rfl
theorem h_188_32 (d : Nat) (l1 : Int32) (l2 : Int32) (u3 : Option Value) (l4 : Int32) (l5 : Int32) (l6 : Int32) (l7 : Int32) (M : PM) : E_188 d (32, [some (.ref 26), some (.int l1), some (.int l2), u3, some (.int l4), some (.int l5), some (.int l6), some (.int l7)], [], M) = (if l7 < l5 then (if l6 < l5 then (kI (pcl GG lay d 191 [.ref 26, .int l1, .int l4, .int l2, .int l6] M) fun r1 M1 => (if r1 = jn 0 then E_188 d (32, [some (.ref 26), some (.int l1), some (.int l2), u3, some (.int l4), some (.int l5), some (.int (l6 + ((jn 1) <<< (((M1.1 26 4) - (M1.1 26 5)) &&& 31)))), some (.int (l7 + (jn 1)))], [], M1) else (rZ (jn 1) M1))) else (rZ (jn 0) M)) else (rZ (jn 0) M)) := by
  refine (evn_adv 2 (q' := (36, [some (.ref 26), some (.int l1), some (.int l2), u3, some (.int l4), some (.int l5), some (.int l6), some (.int l7)], [.int l5, .int l7], M)) rfl).trans ?_
  refine (e_ic_ge (hf := rfl)).trans ?_
  refine ite_in ?_ ?_
  · refine (evn_adv 2 (q' := (43, [some (.ref 26), some (.int l1), some (.int l2), u3, some (.int l4), some (.int l5), some (.int l6), some (.int l7)], [.int l5, .int l6], M)) rfl).trans ?_
    refine (e_ic_ge (hf := rfl)).trans ?_
    refine ite_in ?_ ?_
    · refine (evn_adv 5 (q' := (53, [some (.ref 26), some (.int l1), some (.int l2), u3, some (.int l4), some (.int l5), some (.int l6), some (.int l7)], [.int l6, .int l2, .int l4, .int l1, .ref 26], M)) rfl).trans ?_
      refine (e_kI (q := (53, [some (.ref 26), some (.int l1), some (.int l2), u3, some (.int l4), some (.int l5), some (.int l6), some (.int l7)], [.int l6, .int l2, .int l4, .int l1, .ref 26])) (q2 := (56, [some (.ref 26), some (.int l1), some (.int l2), u3, some (.int l4), some (.int l5), some (.int l6), some (.int l7)], [])) (M := M) (o := (pcl GG lay d 191 [.ref 26, .int l1, .int l4, .int l2, .int l6] M)) (hf := rfl) rfl rfl).trans ?_
      refine kI_in (fun r1 M1 => ?_)
      refine (e_if_eq (hf := rfl)).trans ?_
      refine ite_in ?_ ?_
      · refine (evn_adv 12 (q' := (32, [some (.ref 26), some (.int l1), some (.int l2), u3, some (.int l4), some (.int l5), some (.int (l6 + ((jn 1) <<< (((M1.1 26 4) - (M1.1 26 5)) &&& 31)))), some (.int (l7 + (jn 1)))], [], M1)) rfl).trans ?_
        rfl
      · refine (evn_adv 1 (q' := (60, [some (.ref 26), some (.int l1), some (.int l2), u3, some (.int l4), some (.int l5), some (.int l6), some (.int l7)], [.int (jn 1)], M1)) rfl).trans ?_
        exact e_iretz (hf := rfl)
    · refine (evn_adv 1 (q' := (84, [some (.ref 26), some (.int l1), some (.int l2), u3, some (.int l4), some (.int l5), some (.int l6), some (.int l7)], [.int (jn 0)], M)) rfl).trans ?_
      exact e_iretz (hf := rfl)
  · refine (evn_adv 1 (q' := (84, [some (.ref 26), some (.int l1), some (.int l2), u3, some (.int l4), some (.int l5), some (.int l6), some (.int l7)], [.int (jn 0)], M)) rfl).trans ?_
    exact e_iretz (hf := rfl)
/-- TermStrategies$Matching.countTurns(III)V -/
noncomputable abbrev E_189 (d : Nat) : PQ → PO := evn (rnn k_189 lay none (pcl GG lay d) 0)
theorem q_189 (d : Nat) (l1 : Int32) (l2 : Int32) (l3 : Int32) (M : PM) : pcl GG lay (d + 1) 189 [.ref 26, .int l1, .int l2, .int l3] M = (wr (sI M 26 (va_up (M.1 26) 3 l3)) fun M1 => (wr (sI M1 26 (va_up (M1.1 26) 4 (jn 0))) fun M2 => E_189 d (13, [some (.ref 26), some (.int l1), some (.int l2), some (.int l3), some (.int (jn 0))], [], M2))) := by
  refine (pcl_un (mt := t_189) (by decide) rfl (Nat.le_of_ble_eq_true rfl)).trans ?_
  show E_189 d (0, [some (.ref 26), some (.int l1), some (.int l2), some (.int l3), none], [], M) = _
  refine (evn_adv 2 (q' := (2, [some (.ref 26), some (.int l1), some (.int l2), some (.int l3), none], [.int l3, .ref 26], M)) rfl).trans ?_
  refine (evn_adv 1 (q' := (5, [some (.ref 26), some (.int l1), some (.int l2), some (.int l3), none], [], (sI M 26 (va_up (M.1 26) 3 l3)))) rfl).trans ?_
  refine wr_in (f := fun M1 => E_189 d (5, [some (.ref 26), some (.int l1), some (.int l2), some (.int l3), none], [], M1)) (fun M1 => ?_)
  refine (evn_adv 2 (q' := (7, [some (.ref 26), some (.int l1), some (.int l2), some (.int l3), none], [.int (jn 0), .ref 26], M1)) rfl).trans ?_
  refine (evn_adv 1 (q' := (10, [some (.ref 26), some (.int l1), some (.int l2), some (.int l3), none], [], (sI M1 26 (va_up (M1.1 26) 4 (jn 0))))) rfl).trans ?_
  refine wr_in (f := fun M2 => E_189 d (10, [some (.ref 26), some (.int l1), some (.int l2), some (.int l3), none], [], M2)) (fun M2 => ?_)
  refine (evn_adv 2 (q' := (13, [some (.ref 26), some (.int l1), some (.int l2), some (.int l3), some (.int (jn 0))], [], M2)) rfl).trans ?_
  rfl
theorem h_189_13 (d : Nat) (l1 : Int32) (l2 : Int32) (u3 : Option Value) (l4 : Int32) (M : PM) : E_189 d (13, [some (.ref 26), some (.int l1), some (.int l2), u3, some (.int l4)], [], M) = (if l4 < l2 then (kI (pcl GG lay d 231 [.ref 6, .int (l1 + l4)] M) fun r1 M1 => (kI (pcl GG lay d 190 [.ref 26, .int r1] M1) fun r2 M2 => (if r2 = jn 0 then E_189 d (13, [some (.ref 26), some (.int l1), some (.int l2), u3, some (.int (l4 + (jn 1)))], [], M2) else (wr (sI M2 26 (va_up (M2.1 26) 4 ((M2.1 26 4) + (jn 1)))) fun M3 => E_189 d (13, [some (.ref 26), some (.int l1), some (.int l2), u3, some (.int (l4 + (jn 1)))], [], M3))))) else (if (jn 6) < (M.1 26 4) then (wr (sI M 26 (va_up (M.1 26) 3 (jn 0))) fun M1 => (wr (sI M1 26 (va_up (M1.1 26) 4 (jn 0))) fun M2 => (rV M2))) else (rV M))) := by
  refine (evn_adv 2 (q' := (16, [some (.ref 26), some (.int l1), some (.int l2), u3, some (.int l4)], [.int l2, .int l4], M)) rfl).trans ?_
  refine (e_ic_ge (hf := rfl)).trans ?_
  refine ite_in ?_ ?_
  · refine (evn_adv 6 (q' := (28, [some (.ref 26), some (.int l1), some (.int l2), u3, some (.int l4)], [.int (l1 + l4), .ref 6, .ref 26], M)) rfl).trans ?_
    refine (e_kI (q := (28, [some (.ref 26), some (.int l1), some (.int l2), u3, some (.int l4)], [.int (l1 + l4), .ref 6, .ref 26])) (q2 := (31, [some (.ref 26), some (.int l1), some (.int l2), u3, some (.int l4)], [.ref 26])) (M := M) (o := (pcl GG lay d 231 [.ref 6, .int (l1 + l4)] M)) (hf := rfl) rfl rfl).trans ?_
    refine kI_in (fun r1 M1 => ?_)
    refine (e_kI (q := (31, [some (.ref 26), some (.int l1), some (.int l2), u3, some (.int l4)], [.int r1, .ref 26])) (q2 := (34, [some (.ref 26), some (.int l1), some (.int l2), u3, some (.int l4)], [])) (M := M1) (o := (pcl GG lay d 190 [.ref 26, .int r1] M1)) (hf := rfl) rfl rfl).trans ?_
    refine kI_in (fun r2 M2 => ?_)
    refine (e_if_eq (hf := rfl)).trans ?_
    refine ite_in ?_ ?_
    · refine (evn_adv 2 (q' := (13, [some (.ref 26), some (.int l1), some (.int l2), u3, some (.int (l4 + (jn 1)))], [], M2)) rfl).trans ?_
      rfl
    · refine (evn_adv 5 (q' := (44, [some (.ref 26), some (.int l1), some (.int l2), u3, some (.int l4)], [.int ((M2.1 26 4) + (jn 1)), .ref 26], M2)) rfl).trans ?_
      refine (evn_adv 1 (q' := (47, [some (.ref 26), some (.int l1), some (.int l2), u3, some (.int l4)], [], (sI M2 26 (va_up (M2.1 26) 4 ((M2.1 26 4) + (jn 1)))))) rfl).trans ?_
      refine wr_in (f := fun M3 => E_189 d (47, [some (.ref 26), some (.int l1), some (.int l2), u3, some (.int l4)], [], M3)) (fun M3 => ?_)
      refine (evn_adv 2 (q' := (13, [some (.ref 26), some (.int l1), some (.int l2), u3, some (.int (l4 + (jn 1)))], [], M3)) rfl).trans ?_
      rfl
  · refine (evn_adv 3 (q' := (59, [some (.ref 26), some (.int l1), some (.int l2), u3, some (.int l4)], [.int (jn 6), .int (M.1 26 4)], M)) rfl).trans ?_
    refine (e_ic_le (hf := rfl)).trans ?_
    refine ite_in ?_ ?_
    · refine (evn_adv 2 (q' := (64, [some (.ref 26), some (.int l1), some (.int l2), u3, some (.int l4)], [.int (jn 0), .ref 26], M)) rfl).trans ?_
      refine (evn_adv 1 (q' := (67, [some (.ref 26), some (.int l1), some (.int l2), u3, some (.int l4)], [], (sI M 26 (va_up (M.1 26) 3 (jn 0))))) rfl).trans ?_
      refine wr_in (f := fun M1 => E_189 d (67, [some (.ref 26), some (.int l1), some (.int l2), u3, some (.int l4)], [], M1)) (fun M1 => ?_)
      refine (evn_adv 2 (q' := (69, [some (.ref 26), some (.int l1), some (.int l2), u3, some (.int l4)], [.int (jn 0), .ref 26], M1)) rfl).trans ?_
      refine (evn_adv 1 (q' := (72, [some (.ref 26), some (.int l1), some (.int l2), u3, some (.int l4)], [], (sI M1 26 (va_up (M1.1 26) 4 (jn 0))))) rfl).trans ?_
      refine wr_in (f := fun M2 => E_189 d (72, [some (.ref 26), some (.int l1), some (.int l2), u3, some (.int l4)], [], M2)) (fun M2 => ?_)
      exact evn_end 1 rfl
    · exact evn_end 1 rfl
/-- TermStrategies$Matching.mayTurn(I)Z -/
noncomputable abbrev E_190 (d : Nat) : PQ → PO := evn (rnn k_190 lay none (pcl GG lay d) 2)
theorem q_190 (d : Nat) (l1 : Int32) (M : PM) : pcl GG lay (d + 1) 190 [.ref 26, .int l1] M = (if l1 < (jn 105) then (rZ (jn 0) M) else (if (jn 108) < l1 then (rZ (jn 0) M) else (if (((M.1 26 3) >>> ((l1 - (jn 105)) &&& 31)) &&& (jn 1)) = jn 0 then (rZ (jn 0) M) else (rZ (jn 1) M)))) := by
  refine (pcl_un (mt := t_190) (by decide) rfl (Nat.le_of_ble_eq_true rfl)).trans ?_
  show E_190 d (0, [some (.ref 26), some (.int l1)], [], M) = _
  refine (evn_adv 2 (q' := (3, [some (.ref 26), some (.int l1)], [.int (jn 105), .int l1], M)) rfl).trans ?_
  refine (e_ic_lt (hf := rfl)).trans ?_
  refine ite_in ?_ ?_
  · refine (evn_adv 1 (q' := (31, [some (.ref 26), some (.int l1)], [.int (jn 0)], M)) rfl).trans ?_
    exact e_iretz (hf := rfl)
  · refine (evn_adv 2 (q' := (9, [some (.ref 26), some (.int l1)], [.int (jn 108), .int l1], M)) rfl).trans ?_
    refine (e_ic_gt (hf := rfl)).trans ?_
    refine ite_in ?_ ?_
    · refine (evn_adv 1 (q' := (31, [some (.ref 26), some (.int l1)], [.int (jn 0)], M)) rfl).trans ?_
      exact e_iretz (hf := rfl)
    · refine (evn_adv 8 (q' := (23, [some (.ref 26), some (.int l1)], [.int (((M.1 26 3) >>> ((l1 - (jn 105)) &&& 31)) &&& (jn 1))], M)) rfl).trans ?_
      refine (e_if_eq (hf := rfl)).trans ?_
      refine ite_in ?_ ?_
      · refine (evn_adv 1 (q' := (31, [some (.ref 26), some (.int l1)], [.int (jn 0)], M)) rfl).trans ?_
        exact e_iretz (hf := rfl)
      · refine (evn_adv 2 (q' := (31, [some (.ref 26), some (.int l1)], [.int (jn 1)], M)) rfl).trans ?_
        exact e_iretz (hf := rfl)
/-- TermStrategies$Matching.attempt(IIII)Z -/
noncomputable abbrev E_191 (d : Nat) : PQ → PO := evn (rnn k_191 lay none (pcl GG lay d) 2)
theorem q_191 (d : Nat) (l1 : Int32) (l2 : Int32) (l3 : Int32) (l4 : Int32) (M : PM) : pcl GG lay (d + 1) 191 [.ref 26, .int l1, .int l2, .int l3, .int l4] M = (wr (sI M 26 (va_up (M.1 26) 5 (jn 0))) fun M1 => (kV (pcl GG lay d 274 [.ref 27, .int (jz 1)] M1) fun M2 => (kV (pcl GG lay d 66 [.ref 28, .int (jn 0), .int l3] M2) fun M3 => E_191 d (25, [some (.ref 26), some (.int l1), some (.int l2), some (.int l3), some (.int l4), some (.int (jn 0)), none, none], [], M3)))) := by
  refine (pcl_un (mt := t_191) (by decide) rfl (Nat.le_of_ble_eq_true rfl)).trans ?_
  show E_191 d (0, [some (.ref 26), some (.int l1), some (.int l2), some (.int l3), some (.int l4), none, none, none], [], M) = _
  refine (evn_adv 2 (q' := (2, [some (.ref 26), some (.int l1), some (.int l2), some (.int l3), some (.int l4), none, none, none], [.int (jn 0), .ref 26], M)) rfl).trans ?_
  refine (evn_adv 1 (q' := (5, [some (.ref 26), some (.int l1), some (.int l2), some (.int l3), some (.int l4), none, none, none], [], (sI M 26 (va_up (M.1 26) 5 (jn 0))))) rfl).trans ?_
  refine wr_in (f := fun M1 => E_191 d (5, [some (.ref 26), some (.int l1), some (.int l2), some (.int l3), some (.int l4), none, none, none], [], M1)) (fun M1 => ?_)
  refine (evn_adv 3 (q' := (10, [some (.ref 26), some (.int l1), some (.int l2), some (.int l3), some (.int l4), none, none, none], [.int (jz 1), .ref 27], M1)) rfl).trans ?_
  refine (e_kV (q := (10, [some (.ref 26), some (.int l1), some (.int l2), some (.int l3), some (.int l4), none, none, none], [.int (jz 1), .ref 27])) (q2 := (13, [some (.ref 26), some (.int l1), some (.int l2), some (.int l3), some (.int l4), none, none, none], [])) (M := M1) (o := (pcl GG lay d 274 [.ref 27, .int (jz 1)] M1)) (hf := rfl) rfl rfl).trans ?_
  refine kV_in (fun M2 => ?_)
  refine (evn_adv 4 (q' := (19, [some (.ref 26), some (.int l1), some (.int l2), some (.int l3), some (.int l4), none, none, none], [.int l3, .int (jn 0), .ref 28], M2)) rfl).trans ?_
  refine (e_kV (q := (19, [some (.ref 26), some (.int l1), some (.int l2), some (.int l3), some (.int l4), none, none, none], [.int l3, .int (jn 0), .ref 28])) (q2 := (22, [some (.ref 26), some (.int l1), some (.int l2), some (.int l3), some (.int l4), none, none, none], [])) (M := M2) (o := (pcl GG lay d 66 [.ref 28, .int (jn 0), .int l3] M2)) (hf := rfl) rfl rfl).trans ?_
  refine kV_in (fun M3 => ?_)
  refine (evn_adv 2 (q' := (25, [some (.ref 26), some (.int l1), some (.int l2), some (.int l3), some (.int l4), some (.int (jn 0)), none, none], [], M3)) rfl).trans ?_
  rfl
theorem h_191_25 (d : Nat) (l1 : Int32) (l2 : Int32) (u3 : Option Value) (l4 : Int32) (l5 : Int32) (u6 : Option Value) (u7 : Option Value) (M : PM) : E_191 d (25, [some (.ref 26), some (.int l1), some (.int l2), u3, some (.int l4), some (.int l5), u6, u7], [], M) = (if l5 < l2 then (kI (pcl GG lay d 231 [.ref 6, .int (l1 + l5)] M) fun r1 M1 => (kI (pcl GG lay d 65 [.ref 28, .int l5] M1) fun r2 M2 => (kI (pcl GG lay d 62 [.int r1] M2) fun r3 M3 => (if r3 = jn 0 then (kI (pcl GG lay d 231 [.ref 6, .int r2] M3) fun r4 M4 => (if r4 = r1 then (kV (pcl GG lay d 192 [.ref 26, .int l1, .int l5, .int r2, .int l4] M4) fun M5 => E_191 d (25, [some (.ref 26), some (.int l1), some (.int l2), u3, some (.int l4), some (.int (l5 + (jn 1))), some (.int r1), some (.int r2)], [], M5)) else (rZ (jn 0) M4))) else (kI (pcl GG lay d 65 [.ref 27, .int (r1 - (jn 117))] M3) fun r4 M4 => (if r4 = (jz 1) then (kV (pcl GG lay d 66 [.ref 27, .int (r1 - (jn 117)), .int r2] M4) fun M5 => E_191 d (25, [some (.ref 26), some (.int l1), some (.int l2), u3, some (.int l4), some (.int (l5 + (jn 1))), some (.int r1), some (.int r2)], [], M5)) else (kI (pcl GG lay d 65 [.ref 27, .int (r1 - (jn 117))] M4) fun r5 M5 => (kI (pcl GG lay d 235 [.ref 6, .int r5, .int r2] M5) fun r6 M6 => (if r6 = jn 0 then (rZ (jn 0) M6) else E_191 d (25, [some (.ref 26), some (.int l1), some (.int l2), u3, some (.int l4), some (.int (l5 + (jn 1))), some (.int r1), some (.int r2)], [], M6)))))))))) else (rZ (jn 1) M)) := by
  refine (evn_adv 2 (q' := (28, [some (.ref 26), some (.int l1), some (.int l2), u3, some (.int l4), some (.int l5), u6, u7], [.int l2, .int l5], M)) rfl).trans ?_
  refine (e_ic_ge (hf := rfl)).trans ?_
  refine ite_in ?_ ?_
  · refine (evn_adv 5 (q' := (39, [some (.ref 26), some (.int l1), some (.int l2), u3, some (.int l4), some (.int l5), u6, u7], [.int (l1 + l5), .ref 6], M)) rfl).trans ?_
    refine (e_kI (q := (39, [some (.ref 26), some (.int l1), some (.int l2), u3, some (.int l4), some (.int l5), u6, u7], [.int (l1 + l5), .ref 6])) (q2 := (42, [some (.ref 26), some (.int l1), some (.int l2), u3, some (.int l4), some (.int l5), u6, u7], [])) (M := M) (o := (pcl GG lay d 231 [.ref 6, .int (l1 + l5)] M)) (hf := rfl) rfl rfl).trans ?_
    refine kI_in (fun r1 M1 => ?_)
    refine (evn_adv 4 (q' := (50, [some (.ref 26), some (.int l1), some (.int l2), u3, some (.int l4), some (.int l5), some (.int r1), u7], [.int l5, .ref 28], M1)) rfl).trans ?_
    refine (e_kI (q := (50, [some (.ref 26), some (.int l1), some (.int l2), u3, some (.int l4), some (.int l5), some (.int r1), u7], [.int l5, .ref 28])) (q2 := (53, [some (.ref 26), some (.int l1), some (.int l2), u3, some (.int l4), some (.int l5), some (.int r1), u7], [])) (M := M1) (o := (pcl GG lay d 65 [.ref 28, .int l5] M1)) (hf := rfl) rfl rfl).trans ?_
    refine kI_in (fun r2 M2 => ?_)
    refine (evn_adv 2 (q' := (57, [some (.ref 26), some (.int l1), some (.int l2), u3, some (.int l4), some (.int l5), some (.int r1), some (.int r2)], [.int r1], M2)) rfl).trans ?_
    refine (e_kI (q := (57, [some (.ref 26), some (.int l1), some (.int l2), u3, some (.int l4), some (.int l5), some (.int r1), some (.int r2)], [.int r1])) (q2 := (60, [some (.ref 26), some (.int l1), some (.int l2), u3, some (.int l4), some (.int l5), some (.int r1), some (.int r2)], [])) (M := M2) (o := (pcl GG lay d 62 [.int r1] M2)) (hf := rfl) rfl rfl).trans ?_
    refine kI_in (fun r3 M3 => ?_)
    refine (e_if_eq (hf := rfl)).trans ?_
    refine ite_in ?_ ?_
    · refine (evn_adv 3 (q' := (128, [some (.ref 26), some (.int l1), some (.int l2), u3, some (.int l4), some (.int l5), some (.int r1), some (.int r2)], [.int r2, .ref 6], M3)) rfl).trans ?_
      refine (e_kI (q := (128, [some (.ref 26), some (.int l1), some (.int l2), u3, some (.int l4), some (.int l5), some (.int r1), some (.int r2)], [.int r2, .ref 6])) (q2 := (131, [some (.ref 26), some (.int l1), some (.int l2), u3, some (.int l4), some (.int l5), some (.int r1), some (.int r2)], [])) (M := M3) (o := (pcl GG lay d 231 [.ref 6, .int r2] M3)) (hf := rfl) rfl rfl).trans ?_
      refine kI_in (fun r4 M4 => ?_)
      refine (evn_adv 1 (q' := (133, [some (.ref 26), some (.int l1), some (.int l2), u3, some (.int l4), some (.int l5), some (.int r1), some (.int r2)], [.int r1, .int r4], M4)) rfl).trans ?_
      refine (e_ic_eq (hf := rfl)).trans ?_
      refine ite_in ?_ ?_
      · refine (evn_adv 5 (q' := (146, [some (.ref 26), some (.int l1), some (.int l2), u3, some (.int l4), some (.int l5), some (.int r1), some (.int r2)], [.int l4, .int r2, .int l5, .int l1, .ref 26], M4)) rfl).trans ?_
        refine (e_kV (q := (146, [some (.ref 26), some (.int l1), some (.int l2), u3, some (.int l4), some (.int l5), some (.int r1), some (.int r2)], [.int l4, .int r2, .int l5, .int l1, .ref 26])) (q2 := (149, [some (.ref 26), some (.int l1), some (.int l2), u3, some (.int l4), some (.int l5), some (.int r1), some (.int r2)], [])) (M := M4) (o := (pcl GG lay d 192 [.ref 26, .int l1, .int l5, .int r2, .int l4] M4)) (hf := rfl) rfl rfl).trans ?_
        refine kV_in (fun M5 => ?_)
        refine (evn_adv 2 (q' := (25, [some (.ref 26), some (.int l1), some (.int l2), u3, some (.int l4), some (.int (l5 + (jn 1))), some (.int r1), some (.int r2)], [], M5)) rfl).trans ?_
        rfl
      · refine (evn_adv 1 (q' := (137, [some (.ref 26), some (.int l1), some (.int l2), u3, some (.int l4), some (.int l5), some (.int r1), some (.int r2)], [.int (jn 0)], M4)) rfl).trans ?_
        exact e_iretz (hf := rfl)
    · refine (evn_adv 5 (q' := (72, [some (.ref 26), some (.int l1), some (.int l2), u3, some (.int l4), some (.int l5), some (.int r1), some (.int r2)], [.int (r1 - (jn 117)), .ref 27], M3)) rfl).trans ?_
      refine (e_kI (q := (72, [some (.ref 26), some (.int l1), some (.int l2), u3, some (.int l4), some (.int l5), some (.int r1), some (.int r2)], [.int (r1 - (jn 117)), .ref 27])) (q2 := (75, [some (.ref 26), some (.int l1), some (.int l2), u3, some (.int l4), some (.int l5), some (.int r1), some (.int r2)], [])) (M := M3) (o := (pcl GG lay d 65 [.ref 27, .int (r1 - (jn 117))] M3)) (hf := rfl) rfl rfl).trans ?_
      refine kI_in (fun r4 M4 => ?_)
      refine (evn_adv 1 (q' := (76, [some (.ref 26), some (.int l1), some (.int l2), u3, some (.int l4), some (.int l5), some (.int r1), some (.int r2)], [.int (jz 1), .int r4], M4)) rfl).trans ?_
      refine (e_ic_ne (hf := rfl)).trans ?_
      refine ite_in ?_ ?_
      · refine (evn_adv 6 (q' := (90, [some (.ref 26), some (.int l1), some (.int l2), u3, some (.int l4), some (.int l5), some (.int r1), some (.int r2)], [.int r2, .int (r1 - (jn 117)), .ref 27], M4)) rfl).trans ?_
        refine (e_kV (q := (90, [some (.ref 26), some (.int l1), some (.int l2), u3, some (.int l4), some (.int l5), some (.int r1), some (.int r2)], [.int r2, .int (r1 - (jn 117)), .ref 27])) (q2 := (93, [some (.ref 26), some (.int l1), some (.int l2), u3, some (.int l4), some (.int l5), some (.int r1), some (.int r2)], [])) (M := M4) (o := (pcl GG lay d 66 [.ref 27, .int (r1 - (jn 117)), .int r2] M4)) (hf := rfl) rfl rfl).trans ?_
        refine kV_in (fun M5 => ?_)
        refine (evn_adv 3 (q' := (25, [some (.ref 26), some (.int l1), some (.int l2), u3, some (.int l4), some (.int (l5 + (jn 1))), some (.int r1), some (.int r2)], [], M5)) rfl).trans ?_
        rfl
      · refine (evn_adv 7 (q' := (109, [some (.ref 26), some (.int l1), some (.int l2), u3, some (.int l4), some (.int l5), some (.int r1), some (.int r2)], [.int (r1 - (jn 117)), .ref 27, .ref 6], M4)) rfl).trans ?_
        refine (e_kI (q := (109, [some (.ref 26), some (.int l1), some (.int l2), u3, some (.int l4), some (.int l5), some (.int r1), some (.int r2)], [.int (r1 - (jn 117)), .ref 27, .ref 6])) (q2 := (112, [some (.ref 26), some (.int l1), some (.int l2), u3, some (.int l4), some (.int l5), some (.int r1), some (.int r2)], [.ref 6])) (M := M4) (o := (pcl GG lay d 65 [.ref 27, .int (r1 - (jn 117))] M4)) (hf := rfl) rfl rfl).trans ?_
        refine kI_in (fun r5 M5 => ?_)
        refine (evn_adv 1 (q' := (114, [some (.ref 26), some (.int l1), some (.int l2), u3, some (.int l4), some (.int l5), some (.int r1), some (.int r2)], [.int r2, .int r5, .ref 6], M5)) rfl).trans ?_
        refine (e_kI (q := (114, [some (.ref 26), some (.int l1), some (.int l2), u3, some (.int l4), some (.int l5), some (.int r1), some (.int r2)], [.int r2, .int r5, .ref 6])) (q2 := (117, [some (.ref 26), some (.int l1), some (.int l2), u3, some (.int l4), some (.int l5), some (.int r1), some (.int r2)], [])) (M := M5) (o := (pcl GG lay d 235 [.ref 6, .int r5, .int r2] M5)) (hf := rfl) rfl rfl).trans ?_
        refine kI_in (fun r6 M6 => ?_)
        refine (e_if_ne (hf := rfl)).trans ?_
        refine ite_in ?_ ?_
        · refine (evn_adv 1 (q' := (121, [some (.ref 26), some (.int l1), some (.int l2), u3, some (.int l4), some (.int l5), some (.int r1), some (.int r2)], [.int (jn 0)], M6)) rfl).trans ?_
          exact e_iretz (hf := rfl)
        · refine (evn_adv 2 (q' := (25, [some (.ref 26), some (.int l1), some (.int l2), u3, some (.int l4), some (.int (l5 + (jn 1))), some (.int r1), some (.int r2)], [], M6)) rfl).trans ?_
          rfl
  · refine (evn_adv 1 (q' := (156, [some (.ref 26), some (.int l1), some (.int l2), u3, some (.int l4), some (.int l5), u6, u7], [.int (jn 1)], M)) rfl).trans ?_
    exact e_iretz (hf := rfl)
/-- TermStrategies$Matching.faceArguments(IIII)V -/
noncomputable abbrev E_192 (d : Nat) : PQ → PO := evn (rnn k_192 lay none (pcl GG lay d) 0)
theorem q_192 (d : Nat) (l1 : Int32) (l2 : Int32) (l3 : Int32) (l4 : Int32) (M : PM) : pcl GG lay (d + 1) 192 [.ref 26, .int l1, .int l2, .int l3, .int l4] M = (kI (pcl GG lay d 231 [.ref 6, .int (l1 + l2)] M) fun r1 M1 => (kI (pcl GG lay d 63 [.int r1] M1) fun r2 M2 => (if r2 = (jn 1) then (kV (pcl GG lay d 66 [.ref 28, .int (l2 + (jn 1)), .int (l3 + (jn 1))] M2) fun M3 => E_192 d (38, [some (.ref 26), some (.int l1), some (.int l2), some (.int l3), some (.int l4), some (.int r1), some (.int r2), none, none], [], M3)) else E_192 d (38, [some (.ref 26), some (.int l1), some (.int l2), some (.int l3), some (.int l4), some (.int r1), some (.int r2), none, none], [], M2)))) := by
  refine (pcl_un (mt := t_192) (by decide) rfl (Nat.le_of_ble_eq_true rfl)).trans ?_
  show E_192 d (0, [some (.ref 26), some (.int l1), some (.int l2), some (.int l3), some (.int l4), none, none, none, none], [], M) = _
  refine (evn_adv 5 (q' := (7, [some (.ref 26), some (.int l1), some (.int l2), some (.int l3), some (.int l4), none, none, none, none], [.int (l1 + l2), .ref 6], M)) rfl).trans ?_
  refine (e_kI (q := (7, [some (.ref 26), some (.int l1), some (.int l2), some (.int l3), some (.int l4), none, none, none, none], [.int (l1 + l2), .ref 6])) (q2 := (10, [some (.ref 26), some (.int l1), some (.int l2), some (.int l3), some (.int l4), none, none, none, none], [])) (M := M) (o := (pcl GG lay d 231 [.ref 6, .int (l1 + l2)] M)) (hf := rfl) rfl rfl).trans ?_
  refine kI_in (fun r1 M1 => ?_)
  refine (evn_adv 2 (q' := (14, [some (.ref 26), some (.int l1), some (.int l2), some (.int l3), some (.int l4), some (.int r1), none, none, none], [.int r1], M1)) rfl).trans ?_
  refine (e_kI (q := (14, [some (.ref 26), some (.int l1), some (.int l2), some (.int l3), some (.int l4), some (.int r1), none, none, none], [.int r1])) (q2 := (17, [some (.ref 26), some (.int l1), some (.int l2), some (.int l3), some (.int l4), some (.int r1), none, none, none], [])) (M := M1) (o := (pcl GG lay d 63 [.int r1] M1)) (hf := rfl) rfl rfl).trans ?_
  refine kI_in (fun r2 M2 => ?_)
  refine (evn_adv 3 (q' := (22, [some (.ref 26), some (.int l1), some (.int l2), some (.int l3), some (.int l4), some (.int r1), some (.int r2), none, none], [.int (jn 1), .int r2], M2)) rfl).trans ?_
  refine (e_ic_ne (hf := rfl)).trans ?_
  refine ite_in ?_ ?_
  · refine (evn_adv 8 (q' := (35, [some (.ref 26), some (.int l1), some (.int l2), some (.int l3), some (.int l4), some (.int r1), some (.int r2), none, none], [.int (l3 + (jn 1)), .int (l2 + (jn 1)), .ref 28], M2)) rfl).trans ?_
    refine (e_kV (q := (35, [some (.ref 26), some (.int l1), some (.int l2), some (.int l3), some (.int l4), some (.int r1), some (.int r2), none, none], [.int (l3 + (jn 1)), .int (l2 + (jn 1)), .ref 28])) (q2 := (38, [some (.ref 26), some (.int l1), some (.int l2), some (.int l3), some (.int l4), some (.int r1), some (.int r2), none, none], [])) (M := M2) (o := (pcl GG lay d 66 [.ref 28, .int (l2 + (jn 1)), .int (l3 + (jn 1))] M2)) (hf := rfl) rfl rfl).trans ?_
    refine kV_in (fun M3 => ?_)
    rfl
  · rfl
theorem h_192_38 (d : Nat) (l1 : Int32) (l2 : Int32) (l3 : Int32) (l4 : Int32) (l5 : Int32) (l6 : Int32) (u7 : Option Value) (u8 : Option Value) (M : PM) : E_192 d (38, [some (.ref 26), some (.int l1), some (.int l2), some (.int l3), some (.int l4), some (.int l5), some (.int l6), u7, u8], [], M) = (if l6 < (jn 2) then (rV M) else (kI (pcl GG lay d 233 [.ref 6, .int ((l1 + l2) + (jn 1))] M) fun r1 M1 => (kI (pcl GG lay d 190 [.ref 26, .int l5] M1) fun r2 M2 => (if r2 = jn 0 then E_192 d (107, [some (.ref 26), some (.int l1), some (.int l2), some (.int l3), some (.int l4), some (.int l5), some (.int l6), some (.int (r1 - l1)), some (.int (jn 0))], [], M2) else (wr (sI M2 26 (va_up (M2.1 26) 5 ((M2.1 26 5) + (jn 1)))) fun M3 => (if ((l4 >>> (((M3.1 26 4) - (M3.1 26 5)) &&& 31)) &&& (jn 1)) = jn 0 then E_192 d (107, [some (.ref 26), some (.int l1), some (.int l2), some (.int l3), some (.int l4), some (.int l5), some (.int l6), some (.int (r1 - l1)), some (.int (jn 0))], [], M3) else E_192 d (107, [some (.ref 26), some (.int l1), some (.int l2), some (.int l3), some (.int l4), some (.int l5), some (.int l6), some (.int (r1 - l1)), some (.int (jn 1))], [], M3))))))) := by
  refine (evn_adv 2 (q' := (41, [some (.ref 26), some (.int l1), some (.int l2), some (.int l3), some (.int l4), some (.int l5), some (.int l6), u7, u8], [.int (jn 2), .int l6], M)) rfl).trans ?_
  refine (e_ic_ge (hf := rfl)).trans ?_
  refine ite_in ?_ ?_
  · exact evn_end 1 rfl
  · refine (evn_adv 7 (q' := (54, [some (.ref 26), some (.int l1), some (.int l2), some (.int l3), some (.int l4), some (.int l5), some (.int l6), u7, u8], [.int ((l1 + l2) + (jn 1)), .ref 6], M)) rfl).trans ?_
    refine (e_kI (q := (54, [some (.ref 26), some (.int l1), some (.int l2), some (.int l3), some (.int l4), some (.int l5), some (.int l6), u7, u8], [.int ((l1 + l2) + (jn 1)), .ref 6])) (q2 := (57, [some (.ref 26), some (.int l1), some (.int l2), some (.int l3), some (.int l4), some (.int l5), some (.int l6), u7, u8], [])) (M := M) (o := (pcl GG lay d 233 [.ref 6, .int ((l1 + l2) + (jn 1))] M)) (hf := rfl) rfl rfl).trans ?_
    refine kI_in (fun r1 M1 => ?_)
    refine (evn_adv 7 (q' := (67, [some (.ref 26), some (.int l1), some (.int l2), some (.int l3), some (.int l4), some (.int l5), some (.int l6), some (.int (r1 - l1)), some (.int (jn 0))], [.int l5, .ref 26], M1)) rfl).trans ?_
    refine (e_kI (q := (67, [some (.ref 26), some (.int l1), some (.int l2), some (.int l3), some (.int l4), some (.int l5), some (.int l6), some (.int (r1 - l1)), some (.int (jn 0))], [.int l5, .ref 26])) (q2 := (70, [some (.ref 26), some (.int l1), some (.int l2), some (.int l3), some (.int l4), some (.int l5), some (.int l6), some (.int (r1 - l1)), some (.int (jn 0))], [])) (M := M1) (o := (pcl GG lay d 190 [.ref 26, .int l5] M1)) (hf := rfl) rfl rfl).trans ?_
    refine kI_in (fun r2 M2 => ?_)
    refine (e_if_eq (hf := rfl)).trans ?_
    refine ite_in ?_ ?_
    · rfl
    · refine (evn_adv 5 (q' := (80, [some (.ref 26), some (.int l1), some (.int l2), some (.int l3), some (.int l4), some (.int l5), some (.int l6), some (.int (r1 - l1)), some (.int (jn 0))], [.int ((M2.1 26 5) + (jn 1)), .ref 26], M2)) rfl).trans ?_
      refine (evn_adv 1 (q' := (83, [some (.ref 26), some (.int l1), some (.int l2), some (.int l3), some (.int l4), some (.int l5), some (.int l6), some (.int (r1 - l1)), some (.int (jn 0))], [], (sI M2 26 (va_up (M2.1 26) 5 ((M2.1 26 5) + (jn 1)))))) rfl).trans ?_
      refine wr_in (f := fun M3 => E_192 d (83, [some (.ref 26), some (.int l1), some (.int l2), some (.int l3), some (.int l4), some (.int l5), some (.int l6), some (.int (r1 - l1)), some (.int (jn 0))], [], M3)) (fun M3 => ?_)
      refine (evn_adv 9 (q' := (97, [some (.ref 26), some (.int l1), some (.int l2), some (.int l3), some (.int l4), some (.int l5), some (.int l6), some (.int (r1 - l1)), some (.int (jn 0))], [.int ((l4 >>> (((M3.1 26 4) - (M3.1 26 5)) &&& 31)) &&& (jn 1))], M3)) rfl).trans ?_
      refine (e_if_eq (hf := rfl)).trans ?_
      refine ite_in ?_ ?_
      · refine (evn_adv 2 (q' := (107, [some (.ref 26), some (.int l1), some (.int l2), some (.int l3), some (.int l4), some (.int l5), some (.int l6), some (.int (r1 - l1)), some (.int (jn 0))], [], M3)) rfl).trans ?_
        rfl
      · refine (evn_adv 3 (q' := (107, [some (.ref 26), some (.int l1), some (.int l2), some (.int l3), some (.int l4), some (.int l5), some (.int l6), some (.int (r1 - l1)), some (.int (jn 1))], [], M3)) rfl).trans ?_
        rfl
theorem h_192_107 (d : Nat) (u1 : Option Value) (l2 : Int32) (l3 : Int32) (u4 : Option Value) (u5 : Option Value) (u6 : Option Value) (l7 : Int32) (l8 : Int32) (M : PM) : E_192 d (107, [some (.ref 26), u1, some (.int l2), some (.int l3), u4, u5, u6, some (.int l7), some (.int l8)], [], M) = (if l8 = jn 0 then (kV (pcl GG lay d 66 [.ref 28, .int (l2 + (jn 1)), .int (l3 + (jn 1))] M) fun M1 => (if l8 = jn 0 then (kI (pcl GG lay d 233 [.ref 6, .int (l3 + (jn 1))] M1) fun r2 M2 => (kV (pcl GG lay d 66 [.ref 28, .int l7, .int r2] M2) fun M3 => (rV M3))) else (kV (pcl GG lay d 66 [.ref 28, .int l7, .int (l3 + (jn 1))] M1) fun M2 => (rV M2)))) else (kI (pcl GG lay d 233 [.ref 6, .int (l3 + (jn 1))] M) fun r1 M1 => (kV (pcl GG lay d 66 [.ref 28, .int (l2 + (jn 1)), .int r1] M1) fun M2 => (if l8 = jn 0 then (kI (pcl GG lay d 233 [.ref 6, .int (l3 + (jn 1))] M2) fun r3 M3 => (kV (pcl GG lay d 66 [.ref 28, .int l7, .int r3] M3) fun M4 => (rV M4))) else (kV (pcl GG lay d 66 [.ref 28, .int l7, .int (l3 + (jn 1))] M2) fun M3 => (rV M3)))))) := by
  refine (evn_adv 6 (q' := (116, [some (.ref 26), u1, some (.int l2), some (.int l3), u4, u5, u6, some (.int l7), some (.int l8)], [.int l8, .int (l2 + (jn 1)), .ref 28], M)) rfl).trans ?_
  refine (e_if_eq (hf := rfl)).trans ?_
  refine ite_in ?_ ?_
  · refine (evn_adv 3 (q' := (135, [some (.ref 26), u1, some (.int l2), some (.int l3), u4, u5, u6, some (.int l7), some (.int l8)], [.int (l3 + (jn 1)), .int (l2 + (jn 1)), .ref 28], M)) rfl).trans ?_
    refine (e_kV (q := (135, [some (.ref 26), u1, some (.int l2), some (.int l3), u4, u5, u6, some (.int l7), some (.int l8)], [.int (l3 + (jn 1)), .int (l2 + (jn 1)), .ref 28])) (q2 := (138, [some (.ref 26), u1, some (.int l2), some (.int l3), u4, u5, u6, some (.int l7), some (.int l8)], [])) (M := M) (o := (pcl GG lay d 66 [.ref 28, .int (l2 + (jn 1)), .int (l3 + (jn 1))] M)) (hf := rfl) rfl rfl).trans ?_
    refine kV_in (fun M1 => ?_)
    refine (evn_adv 4 (q' := (146, [some (.ref 26), u1, some (.int l2), some (.int l3), u4, u5, u6, some (.int l7), some (.int l8)], [.int l8, .int l7, .ref 28], M1)) rfl).trans ?_
    refine (e_if_eq (hf := rfl)).trans ?_
    refine ite_in ?_ ?_
    · refine (evn_adv 5 (q' := (162, [some (.ref 26), u1, some (.int l2), some (.int l3), u4, u5, u6, some (.int l7), some (.int l8)], [.int (l3 + (jn 1)), .ref 6, .int l7, .ref 28], M1)) rfl).trans ?_
      refine (e_kI (q := (162, [some (.ref 26), u1, some (.int l2), some (.int l3), u4, u5, u6, some (.int l7), some (.int l8)], [.int (l3 + (jn 1)), .ref 6, .int l7, .ref 28])) (q2 := (165, [some (.ref 26), u1, some (.int l2), some (.int l3), u4, u5, u6, some (.int l7), some (.int l8)], [.int l7, .ref 28])) (M := M1) (o := (pcl GG lay d 233 [.ref 6, .int (l3 + (jn 1))] M1)) (hf := rfl) rfl rfl).trans ?_
      refine kI_in (fun r2 M2 => ?_)
      refine (e_kV (q := (165, [some (.ref 26), u1, some (.int l2), some (.int l3), u4, u5, u6, some (.int l7), some (.int l8)], [.int r2, .int l7, .ref 28])) (q2 := (168, [some (.ref 26), u1, some (.int l2), some (.int l3), u4, u5, u6, some (.int l7), some (.int l8)], [])) (M := M2) (o := (pcl GG lay d 66 [.ref 28, .int l7, .int r2] M2)) (hf := rfl) rfl rfl).trans ?_
      refine kV_in (fun M3 => ?_)
      exact evn_end 1 rfl
    · refine (evn_adv 4 (q' := (165, [some (.ref 26), u1, some (.int l2), some (.int l3), u4, u5, u6, some (.int l7), some (.int l8)], [.int (l3 + (jn 1)), .int l7, .ref 28], M1)) rfl).trans ?_
      refine (e_kV (q := (165, [some (.ref 26), u1, some (.int l2), some (.int l3), u4, u5, u6, some (.int l7), some (.int l8)], [.int (l3 + (jn 1)), .int l7, .ref 28])) (q2 := (168, [some (.ref 26), u1, some (.int l2), some (.int l3), u4, u5, u6, some (.int l7), some (.int l8)], [])) (M := M1) (o := (pcl GG lay d 66 [.ref 28, .int l7, .int (l3 + (jn 1))] M1)) (hf := rfl) rfl rfl).trans ?_
      refine kV_in (fun M2 => ?_)
      exact evn_end 1 rfl
  · refine (evn_adv 5 (q' := (126, [some (.ref 26), u1, some (.int l2), some (.int l3), u4, u5, u6, some (.int l7), some (.int l8)], [.int (l3 + (jn 1)), .ref 6, .int (l2 + (jn 1)), .ref 28], M)) rfl).trans ?_
    refine (e_kI (q := (126, [some (.ref 26), u1, some (.int l2), some (.int l3), u4, u5, u6, some (.int l7), some (.int l8)], [.int (l3 + (jn 1)), .ref 6, .int (l2 + (jn 1)), .ref 28])) (q2 := (129, [some (.ref 26), u1, some (.int l2), some (.int l3), u4, u5, u6, some (.int l7), some (.int l8)], [.int (l2 + (jn 1)), .ref 28])) (M := M) (o := (pcl GG lay d 233 [.ref 6, .int (l3 + (jn 1))] M)) (hf := rfl) rfl rfl).trans ?_
    refine kI_in (fun r1 M1 => ?_)
    refine (evn_adv 1 (q' := (135, [some (.ref 26), u1, some (.int l2), some (.int l3), u4, u5, u6, some (.int l7), some (.int l8)], [.int r1, .int (l2 + (jn 1)), .ref 28], M1)) rfl).trans ?_
    refine (e_kV (q := (135, [some (.ref 26), u1, some (.int l2), some (.int l3), u4, u5, u6, some (.int l7), some (.int l8)], [.int r1, .int (l2 + (jn 1)), .ref 28])) (q2 := (138, [some (.ref 26), u1, some (.int l2), some (.int l3), u4, u5, u6, some (.int l7), some (.int l8)], [])) (M := M1) (o := (pcl GG lay d 66 [.ref 28, .int (l2 + (jn 1)), .int r1] M1)) (hf := rfl) rfl rfl).trans ?_
    refine kV_in (fun M2 => ?_)
    refine (evn_adv 4 (q' := (146, [some (.ref 26), u1, some (.int l2), some (.int l3), u4, u5, u6, some (.int l7), some (.int l8)], [.int l8, .int l7, .ref 28], M2)) rfl).trans ?_
    refine (e_if_eq (hf := rfl)).trans ?_
    refine ite_in ?_ ?_
    · refine (evn_adv 5 (q' := (162, [some (.ref 26), u1, some (.int l2), some (.int l3), u4, u5, u6, some (.int l7), some (.int l8)], [.int (l3 + (jn 1)), .ref 6, .int l7, .ref 28], M2)) rfl).trans ?_
      refine (e_kI (q := (162, [some (.ref 26), u1, some (.int l2), some (.int l3), u4, u5, u6, some (.int l7), some (.int l8)], [.int (l3 + (jn 1)), .ref 6, .int l7, .ref 28])) (q2 := (165, [some (.ref 26), u1, some (.int l2), some (.int l3), u4, u5, u6, some (.int l7), some (.int l8)], [.int l7, .ref 28])) (M := M2) (o := (pcl GG lay d 233 [.ref 6, .int (l3 + (jn 1))] M2)) (hf := rfl) rfl rfl).trans ?_
      refine kI_in (fun r3 M3 => ?_)
      refine (e_kV (q := (165, [some (.ref 26), u1, some (.int l2), some (.int l3), u4, u5, u6, some (.int l7), some (.int l8)], [.int r3, .int l7, .ref 28])) (q2 := (168, [some (.ref 26), u1, some (.int l2), some (.int l3), u4, u5, u6, some (.int l7), some (.int l8)], [])) (M := M3) (o := (pcl GG lay d 66 [.ref 28, .int l7, .int r3] M3)) (hf := rfl) rfl rfl).trans ?_
      refine kV_in (fun M4 => ?_)
      exact evn_end 1 rfl
    · refine (evn_adv 4 (q' := (165, [some (.ref 26), u1, some (.int l2), some (.int l3), u4, u5, u6, some (.int l7), some (.int l8)], [.int (l3 + (jn 1)), .int l7, .ref 28], M2)) rfl).trans ?_
      refine (e_kV (q := (165, [some (.ref 26), u1, some (.int l2), some (.int l3), u4, u5, u6, some (.int l7), some (.int l8)], [.int (l3 + (jn 1)), .int l7, .ref 28])) (q2 := (168, [some (.ref 26), u1, some (.int l2), some (.int l3), u4, u5, u6, some (.int l7), some (.int l8)], [])) (M := M2) (o := (pcl GG lay d 66 [.ref 28, .int l7, .int (l3 + (jn 1))] M2)) (hf := rfl) rfl rfl).trans ?_
      refine kV_in (fun M3 => ?_)
      exact evn_end 1 rfl
/-- TermStrategies$Matching.boundTo(I)I -/
noncomputable abbrev E_193 (d : Nat) : PQ → PO := evn (rnn k_193 lay none (pcl GG lay d) 1)
theorem q_193 (d : Nat) (l1 : Int32) (M : PM) : pcl GG lay (d + 1) 193 [.ref 26, .int l1] M = (kI (pcl GG lay d 62 [.int l1] M) fun r1 M1 => (if r1 = jn 0 then (rI (jz 1) M1) else (kI (pcl GG lay d 65 [.ref 27, .int (l1 - (jn 117))] M1) fun r2 M2 => (rI r2 M2)))) := by
  refine (pcl_un (mt := t_193) (by decide) rfl (Nat.le_of_ble_eq_true rfl)).trans ?_
  show E_193 d (0, [some (.ref 26), some (.int l1)], [], M) = _
  refine (evn_adv 1 (q' := (1, [some (.ref 26), some (.int l1)], [.int l1], M)) rfl).trans ?_
  refine (e_kI (q := (1, [some (.ref 26), some (.int l1)], [.int l1])) (q2 := (4, [some (.ref 26), some (.int l1)], [])) (M := M) (o := (pcl GG lay d 62 [.int l1] M)) (hf := rfl) rfl rfl).trans ?_
  refine kI_in (fun r1 M1 => ?_)
  refine (e_if_eq (hf := rfl)).trans ?_
  refine ite_in ?_ ?_
  · refine (evn_adv 1 (q' := (22, [some (.ref 26), some (.int l1)], [.int (jz 1)], M1)) rfl).trans ?_
    exact evn_end 1 rfl
  · refine (evn_adv 5 (q' := (15, [some (.ref 26), some (.int l1)], [.int (l1 - (jn 117)), .ref 27], M1)) rfl).trans ?_
    refine (e_kI (q := (15, [some (.ref 26), some (.int l1)], [.int (l1 - (jn 117)), .ref 27])) (q2 := (18, [some (.ref 26), some (.int l1)], [])) (M := M1) (o := (pcl GG lay d 65 [.ref 27, .int (l1 - (jn 117))] M1)) (hf := rfl) rfl rfl).trans ?_
    refine kI_in (fun r2 M2 => ?_)
    refine (evn_adv 1 (q' := (22, [some (.ref 26), some (.int l1)], [.int r2], M2)) rfl).trans ?_
    exact evn_end 1 rfl
/-- TermStrategies$Matching.sizeOf(I)I -/
noncomputable abbrev E_194 (d : Nat) : PQ → PO := evn (rnn k_194 lay none (pcl GG lay d) 1)
theorem q_194 (d : Nat) (l1 : Int32) (M : PM) : pcl GG lay (d + 1) 194 [.ref 26, .int l1] M = (kI (pcl GG lay d 233 [.ref 6, .int l1] M) fun r1 M1 => E_194 d (14, [some (.ref 26), some (.int l1), some (.int r1), some (.int (jn 0)), some (.int l1), none], [], M1)) := by
  refine (pcl_un (mt := t_194) (by decide) rfl (Nat.le_of_ble_eq_true rfl)).trans ?_
  show E_194 d (0, [some (.ref 26), some (.int l1), none, none, none, none], [], M) = _
  refine (evn_adv 3 (q' := (5, [some (.ref 26), some (.int l1), none, none, none, none], [.int l1, .ref 6], M)) rfl).trans ?_
  refine (e_kI (q := (5, [some (.ref 26), some (.int l1), none, none, none, none], [.int l1, .ref 6])) (q2 := (8, [some (.ref 26), some (.int l1), none, none, none, none], [])) (M := M) (o := (pcl GG lay d 233 [.ref 6, .int l1] M)) (hf := rfl) rfl rfl).trans ?_
  refine kI_in (fun r1 M1 => ?_)
  refine (evn_adv 5 (q' := (14, [some (.ref 26), some (.int l1), some (.int r1), some (.int (jn 0)), some (.int l1), none], [], M1)) rfl).trans ?_
  rfl
theorem h_194_14 (d : Nat) (u1 : Option Value) (l2 : Int32) (l3 : Int32) (l4 : Int32) (u5 : Option Value) (M : PM) : E_194 d (14, [some (.ref 26), u1, some (.int l2), some (.int l3), some (.int l4), u5], [], M) = (if l4 < l2 then (kI (pcl GG lay d 231 [.ref 6, .int l4] M) fun r1 M1 => (kI (pcl GG lay d 193 [.ref 26, .int r1] M1) fun r2 M2 => (if r2 = (jz 1) then E_194 d (14, [some (.ref 26), u1, some (.int l2), some (.int (l3 + (jn 1))), some (.int (l4 + (jn 1))), some (.int r2)], [], M2) else (kI (pcl GG lay d 234 [.ref 6, .int r2] M2) fun r3 M3 => E_194 d (14, [some (.ref 26), u1, some (.int l2), some (.int (l3 + r3)), some (.int (l4 + (jn 1))), some (.int r2)], [], M3))))) else (rI l3 M)) := by
  refine (evn_adv 2 (q' := (17, [some (.ref 26), u1, some (.int l2), some (.int l3), some (.int l4), u5], [.int l2, .int l4], M)) rfl).trans ?_
  refine (e_ic_ge (hf := rfl)).trans ?_
  refine ite_in ?_ ?_
  · refine (evn_adv 4 (q' := (27, [some (.ref 26), u1, some (.int l2), some (.int l3), some (.int l4), u5], [.int l4, .ref 6, .ref 26], M)) rfl).trans ?_
    refine (e_kI (q := (27, [some (.ref 26), u1, some (.int l2), some (.int l3), some (.int l4), u5], [.int l4, .ref 6, .ref 26])) (q2 := (30, [some (.ref 26), u1, some (.int l2), some (.int l3), some (.int l4), u5], [.ref 26])) (M := M) (o := (pcl GG lay d 231 [.ref 6, .int l4] M)) (hf := rfl) rfl rfl).trans ?_
    refine kI_in (fun r1 M1 => ?_)
    refine (e_kI (q := (30, [some (.ref 26), u1, some (.int l2), some (.int l3), some (.int l4), u5], [.int r1, .ref 26])) (q2 := (33, [some (.ref 26), u1, some (.int l2), some (.int l3), some (.int l4), u5], [])) (M := M1) (o := (pcl GG lay d 193 [.ref 26, .int r1] M1)) (hf := rfl) rfl rfl).trans ?_
    refine kI_in (fun r2 M2 => ?_)
    refine (evn_adv 4 (q' := (39, [some (.ref 26), u1, some (.int l2), some (.int l3), some (.int l4), some (.int r2)], [.int (jz 1), .int r2, .int l3], M2)) rfl).trans ?_
    refine (e_ic_ne (hf := rfl)).trans ?_
    refine ite_in ?_ ?_
    · refine (evn_adv 6 (q' := (14, [some (.ref 26), u1, some (.int l2), some (.int (l3 + (jn 1))), some (.int (l4 + (jn 1))), some (.int r2)], [], M2)) rfl).trans ?_
      rfl
    · refine (evn_adv 3 (q' := (52, [some (.ref 26), u1, some (.int l2), some (.int l3), some (.int l4), some (.int r2)], [.int r2, .ref 6, .int l3], M2)) rfl).trans ?_
      refine (e_kI (q := (52, [some (.ref 26), u1, some (.int l2), some (.int l3), some (.int l4), some (.int r2)], [.int r2, .ref 6, .int l3])) (q2 := (55, [some (.ref 26), u1, some (.int l2), some (.int l3), some (.int l4), some (.int r2)], [.int l3])) (M := M2) (o := (pcl GG lay d 234 [.ref 6, .int r2] M2)) (hf := rfl) rfl rfl).trans ?_
      refine kI_in (fun r3 M3 => ?_)
      refine (evn_adv 4 (q' := (14, [some (.ref 26), u1, some (.int l2), some (.int (l3 + r3)), some (.int (l4 + (jn 1))), some (.int r2)], [], M3)) rfl).trans ?_
      rfl
  · refine (evn_adv 1 (q' := (64, [some (.ref 26), u1, some (.int l2), some (.int l3), some (.int l4), u5], [.int l3], M)) rfl).trans ?_
    exact evn_end 1 rfl
/-- TermStrategies$Matching.append(II)I -/
noncomputable abbrev E_195 (d : Nat) : PQ → PO := evn (rnn k_195 lay none (pcl GG lay d) 1)
theorem q_195 (d : Nat) (l1 : Int32) (l2 : Int32) (M : PM) : pcl GG lay (d + 1) 195 [.ref 26, .int l1, .int l2] M = (kI (pcl GG lay d 233 [.ref 6, .int l1] M) fun r1 M1 => E_195 d (15, [some (.ref 26), some (.int l1), some (.int l2), some (.int r1), some (.int l2), some (.int l1), none], [], M1)) := by
  refine (pcl_un (mt := t_195) (by decide) rfl (Nat.le_of_ble_eq_true rfl)).trans ?_
  show E_195 d (0, [some (.ref 26), some (.int l1), some (.int l2), none, none, none, none], [], M) = _
  refine (evn_adv 3 (q' := (5, [some (.ref 26), some (.int l1), some (.int l2), none, none, none, none], [.int l1, .ref 6], M)) rfl).trans ?_
  refine (e_kI (q := (5, [some (.ref 26), some (.int l1), some (.int l2), none, none, none, none], [.int l1, .ref 6])) (q2 := (8, [some (.ref 26), some (.int l1), some (.int l2), none, none, none, none], [])) (M := M) (o := (pcl GG lay d 233 [.ref 6, .int l1] M)) (hf := rfl) rfl rfl).trans ?_
  refine kI_in (fun r1 M1 => ?_)
  refine (evn_adv 5 (q' := (15, [some (.ref 26), some (.int l1), some (.int l2), some (.int r1), some (.int l2), some (.int l1), none], [], M1)) rfl).trans ?_
  rfl
theorem h_195_15 (d : Nat) (u1 : Option Value) (u2 : Option Value) (l3 : Int32) (l4 : Int32) (l5 : Int32) (u6 : Option Value) (M : PM) : E_195 d (15, [some (.ref 26), u1, u2, some (.int l3), some (.int l4), some (.int l5), u6], [], M) = (if l5 < l3 then (kI (pcl GG lay d 231 [.ref 6, .int l5] M) fun r1 M1 => (kI (pcl GG lay d 193 [.ref 26, .int r1] M1) fun r2 M2 => (if r2 = (jz 1) then (kI (pcl GG lay d 231 [.ref 6, .int l5] M2) fun r3 M3 => (kV (pcl GG lay d 232 [.ref 6, .int l4, .int r3] M3) fun M4 => E_195 d (15, [some (.ref 26), u1, u2, some (.int l3), some (.int (l4 + (jn 1))), some (.int (l5 + (jn 1))), some (.int r2)], [], M4))) else (kI (pcl GG lay d 237 [.ref 6, .int r2, .int l4] M2) fun r3 M3 => E_195 d (15, [some (.ref 26), u1, u2, some (.int l3), some (.int r3), some (.int (l5 + (jn 1))), some (.int r2)], [], M3))))) else (rI l4 M)) := by
  refine (evn_adv 2 (q' := (18, [some (.ref 26), u1, u2, some (.int l3), some (.int l4), some (.int l5), u6], [.int l3, .int l5], M)) rfl).trans ?_
  refine (e_ic_ge (hf := rfl)).trans ?_
  refine ite_in ?_ ?_
  · refine (evn_adv 4 (q' := (28, [some (.ref 26), u1, u2, some (.int l3), some (.int l4), some (.int l5), u6], [.int l5, .ref 6, .ref 26], M)) rfl).trans ?_
    refine (e_kI (q := (28, [some (.ref 26), u1, u2, some (.int l3), some (.int l4), some (.int l5), u6], [.int l5, .ref 6, .ref 26])) (q2 := (31, [some (.ref 26), u1, u2, some (.int l3), some (.int l4), some (.int l5), u6], [.ref 26])) (M := M) (o := (pcl GG lay d 231 [.ref 6, .int l5] M)) (hf := rfl) rfl rfl).trans ?_
    refine kI_in (fun r1 M1 => ?_)
    refine (e_kI (q := (31, [some (.ref 26), u1, u2, some (.int l3), some (.int l4), some (.int l5), u6], [.int r1, .ref 26])) (q2 := (34, [some (.ref 26), u1, u2, some (.int l3), some (.int l4), some (.int l5), u6], [])) (M := M1) (o := (pcl GG lay d 193 [.ref 26, .int r1] M1)) (hf := rfl) rfl rfl).trans ?_
    refine kI_in (fun r2 M2 => ?_)
    refine (evn_adv 3 (q' := (39, [some (.ref 26), u1, u2, some (.int l3), some (.int l4), some (.int l5), some (.int r2)], [.int (jz 1), .int r2], M2)) rfl).trans ?_
    refine (e_ic_ne (hf := rfl)).trans ?_
    refine ite_in ?_ ?_
    · refine (evn_adv 6 (q' := (54, [some (.ref 26), u1, u2, some (.int l3), some (.int l4), some (.int l5), some (.int r2)], [.int l5, .ref 6, .int l4, .ref 6], M2)) rfl).trans ?_
      refine (e_kI (q := (54, [some (.ref 26), u1, u2, some (.int l3), some (.int l4), some (.int l5), some (.int r2)], [.int l5, .ref 6, .int l4, .ref 6])) (q2 := (57, [some (.ref 26), u1, u2, some (.int l3), some (.int l4), some (.int l5), some (.int r2)], [.int l4, .ref 6])) (M := M2) (o := (pcl GG lay d 231 [.ref 6, .int l5] M2)) (hf := rfl) rfl rfl).trans ?_
      refine kI_in (fun r3 M3 => ?_)
      refine (e_kV (q := (57, [some (.ref 26), u1, u2, some (.int l3), some (.int l4), some (.int l5), some (.int r2)], [.int r3, .int l4, .ref 6])) (q2 := (60, [some (.ref 26), u1, u2, some (.int l3), some (.int l4), some (.int l5), some (.int r2)], [])) (M := M3) (o := (pcl GG lay d 232 [.ref 6, .int l4, .int r3] M3)) (hf := rfl) rfl rfl).trans ?_
      refine kV_in (fun M4 => ?_)
      refine (evn_adv 4 (q' := (15, [some (.ref 26), u1, u2, some (.int l3), some (.int (l4 + (jn 1))), some (.int (l5 + (jn 1))), some (.int r2)], [], M4)) rfl).trans ?_
      rfl
    · refine (evn_adv 4 (q' := (74, [some (.ref 26), u1, u2, some (.int l3), some (.int l4), some (.int l5), some (.int r2)], [.int l4, .int r2, .ref 6], M2)) rfl).trans ?_
      refine (e_kI (q := (74, [some (.ref 26), u1, u2, some (.int l3), some (.int l4), some (.int l5), some (.int r2)], [.int l4, .int r2, .ref 6])) (q2 := (77, [some (.ref 26), u1, u2, some (.int l3), some (.int l4), some (.int l5), some (.int r2)], [])) (M := M2) (o := (pcl GG lay d 237 [.ref 6, .int r2, .int l4] M2)) (hf := rfl) rfl rfl).trans ?_
      refine kI_in (fun r3 M3 => ?_)
      refine (evn_adv 3 (q' := (15, [some (.ref 26), u1, u2, some (.int l3), some (.int r3), some (.int (l5 + (jn 1))), some (.int r2)], [], M3)) rfl).trans ?_
      rfl
  · refine (evn_adv 1 (q' := (87, [some (.ref 26), u1, u2, some (.int l3), some (.int l4), some (.int l5), u6], [.int l4], M)) rfl).trans ?_
    exact evn_end 1 rfl
/-- TermStrategies$Reader.readInto(II)I -/
noncomputable abbrev E_196 (d : Nat) : PQ → PO := evn (rnn k_196 lay none (pcl GG lay d) 1)
theorem q_196 (d : Nat) (l1 : Int32) (l2 : Int32) (M : PM) : pcl GG lay (d + 1) 196 [.ref 19, .int l1, .int l2] M = (kI (pcl GG lay d 222 [.ref 15, .int l1] M) fun r1 M1 => (wr (sI M1 19 (va_up (M1.1 19) 3 (jn 0))) fun M2 => (wr (sI M2 19 (va_up (M2.1 19) 4 (jn 0))) fun M3 => E_196 d (25, [some (.ref 19), some (.int l1), some (.int l2), some (.int r1), some (.int (jn 0)), some (.int (jn 0))], [], M3)))) := by
  refine (pcl_un (mt := t_196) (by decide) rfl (Nat.le_of_ble_eq_true rfl)).trans ?_
  show E_196 d (0, [some (.ref 19), some (.int l1), some (.int l2), none, none, none], [], M) = _
  refine (evn_adv 3 (q' := (5, [some (.ref 19), some (.int l1), some (.int l2), none, none, none], [.int l1, .ref 15], M)) rfl).trans ?_
  refine (e_kI (q := (5, [some (.ref 19), some (.int l1), some (.int l2), none, none, none], [.int l1, .ref 15])) (q2 := (8, [some (.ref 19), some (.int l1), some (.int l2), none, none, none], [])) (M := M) (o := (pcl GG lay d 222 [.ref 15, .int l1] M)) (hf := rfl) rfl rfl).trans ?_
  refine kI_in (fun r1 M1 => ?_)
  refine (evn_adv 5 (q' := (14, [some (.ref 19), some (.int l1), some (.int l2), some (.int r1), some (.int (jn 0)), none], [.int (jn 0), .ref 19], M1)) rfl).trans ?_
  refine (evn_adv 1 (q' := (17, [some (.ref 19), some (.int l1), some (.int l2), some (.int r1), some (.int (jn 0)), none], [], (sI M1 19 (va_up (M1.1 19) 3 (jn 0))))) rfl).trans ?_
  refine wr_in (f := fun M2 => E_196 d (17, [some (.ref 19), some (.int l1), some (.int l2), some (.int r1), some (.int (jn 0)), none], [], M2)) (fun M2 => ?_)
  refine (evn_adv 2 (q' := (19, [some (.ref 19), some (.int l1), some (.int l2), some (.int r1), some (.int (jn 0)), none], [.int (jn 0), .ref 19], M2)) rfl).trans ?_
  refine (evn_adv 1 (q' := (22, [some (.ref 19), some (.int l1), some (.int l2), some (.int r1), some (.int (jn 0)), none], [], (sI M2 19 (va_up (M2.1 19) 4 (jn 0))))) rfl).trans ?_
  refine wr_in (f := fun M3 => E_196 d (22, [some (.ref 19), some (.int l1), some (.int l2), some (.int r1), some (.int (jn 0)), none], [], M3)) (fun M3 => ?_)
  refine (evn_adv 2 (q' := (25, [some (.ref 19), some (.int l1), some (.int l2), some (.int r1), some (.int (jn 0)), some (.int (jn 0))], [], M3)) rfl).trans ?_
  rfl
theorem h_196_25 (d : Nat) (l1 : Int32) (l2 : Int32) (l3 : Int32) (l4 : Int32) (l5 : Int32) (M : PM) : E_196 d (25, [some (.ref 19), some (.int l1), some (.int l2), some (.int l3), some (.int l4), some (.int l5)], [], M) = (if l5 < l3 then (kI (pcl GG lay d 226 [.ref 15, .int l1, .int l5] M) fun r1 M1 => (kI (pcl GG lay d 197 [.ref 19, .int l4, .int r1, .int l2] M1) fun r2 M2 => (if r2 = (jz 1) then (rI l5 M2) else E_196 d (25, [some (.ref 19), some (.int l1), some (.int l2), some (.int l3), some (.int r2), some (.int (l5 + (jn 1)))], [], M2)))) else (if l4 = (jn 2) then (if (M.1 19 3) = jn 0 then (rI (jz 1) M) else (rI l3 M)) else (rI l3 M))) := by
  refine (evn_adv 2 (q' := (28, [some (.ref 19), some (.int l1), some (.int l2), some (.int l3), some (.int l4), some (.int l5)], [.int l3, .int l5], M)) rfl).trans ?_
  refine (e_ic_ge (hf := rfl)).trans ?_
  refine ite_in ?_ ?_
  · refine (evn_adv 6 (q' := (41, [some (.ref 19), some (.int l1), some (.int l2), some (.int l3), some (.int l4), some (.int l5)], [.int l5, .int l1, .ref 15, .int l4, .ref 19], M)) rfl).trans ?_
    refine (e_kI (q := (41, [some (.ref 19), some (.int l1), some (.int l2), some (.int l3), some (.int l4), some (.int l5)], [.int l5, .int l1, .ref 15, .int l4, .ref 19])) (q2 := (44, [some (.ref 19), some (.int l1), some (.int l2), some (.int l3), some (.int l4), some (.int l5)], [.int l4, .ref 19])) (M := M) (o := (pcl GG lay d 226 [.ref 15, .int l1, .int l5] M)) (hf := rfl) rfl rfl).trans ?_
    refine kI_in (fun r1 M1 => ?_)
    refine (evn_adv 1 (q' := (45, [some (.ref 19), some (.int l1), some (.int l2), some (.int l3), some (.int l4), some (.int l5)], [.int l2, .int r1, .int l4, .ref 19], M1)) rfl).trans ?_
    refine (e_kI (q := (45, [some (.ref 19), some (.int l1), some (.int l2), some (.int l3), some (.int l4), some (.int l5)], [.int l2, .int r1, .int l4, .ref 19])) (q2 := (48, [some (.ref 19), some (.int l1), some (.int l2), some (.int l3), some (.int l4), some (.int l5)], [])) (M := M1) (o := (pcl GG lay d 197 [.ref 19, .int l4, .int r1, .int l2] M1)) (hf := rfl) rfl rfl).trans ?_
    refine kI_in (fun r2 M2 => ?_)
    refine (evn_adv 3 (q' := (53, [some (.ref 19), some (.int l1), some (.int l2), some (.int l3), some (.int r2), some (.int l5)], [.int (jz 1), .int r2], M2)) rfl).trans ?_
    refine (e_ic_ne (hf := rfl)).trans ?_
    refine ite_in ?_ ?_
    · refine (evn_adv 1 (q' := (58, [some (.ref 19), some (.int l1), some (.int l2), some (.int l3), some (.int r2), some (.int l5)], [.int l5], M2)) rfl).trans ?_
      exact evn_end 1 rfl
    · refine (evn_adv 2 (q' := (25, [some (.ref 19), some (.int l1), some (.int l2), some (.int l3), some (.int r2), some (.int (l5 + (jn 1)))], [], M2)) rfl).trans ?_
      rfl
  · refine (evn_adv 2 (q' := (68, [some (.ref 19), some (.int l1), some (.int l2), some (.int l3), some (.int l4), some (.int l5)], [.int (jn 2), .int l4], M)) rfl).trans ?_
    refine (e_ic_ne (hf := rfl)).trans ?_
    refine ite_in ?_ ?_
    · refine (evn_adv 2 (q' := (75, [some (.ref 19), some (.int l1), some (.int l2), some (.int l3), some (.int l4), some (.int l5)], [.int (M.1 19 3)], M)) rfl).trans ?_
      refine (e_if_ne (hf := rfl)).trans ?_
      refine ite_in ?_ ?_
      · refine (evn_adv 2 (q' := (83, [some (.ref 19), some (.int l1), some (.int l2), some (.int l3), some (.int l4), some (.int l5)], [.int (jz 1)], M)) rfl).trans ?_
        exact evn_end 1 rfl
      · refine (evn_adv 1 (q' := (83, [some (.ref 19), some (.int l1), some (.int l2), some (.int l3), some (.int l4), some (.int l5)], [.int l3], M)) rfl).trans ?_
        exact evn_end 1 rfl
    · refine (evn_adv 1 (q' := (83, [some (.ref 19), some (.int l1), some (.int l2), some (.int l3), some (.int l4), some (.int l5)], [.int l3], M)) rfl).trans ?_
      exact evn_end 1 rfl
/-- TermStrategies$Reader.next(III)I -/
noncomputable abbrev E_197 (d : Nat) : PQ → PO := evn (rnn k_197 lay none (pcl GG lay d) 1)
theorem q_197 (d : Nat) (l1 : Int32) (l2 : Int32) (l3 : Int32) (M : PM) : pcl GG lay (d + 1) 197 [.ref 19, .int l1, .int l2, .int l3] M = (if l1 = jn 0 then (kI (pcl GG lay d 198 [.ref 19, .int l2, .int l3] M) fun r1 M1 => (rI r1 M1)) else (if l1 = (jn 1) then (if l2 = (jn 40) then (rI (jn 0) M) else (rI (jz 1) M)) else (if (M.1 19 3) = jn 0 then (rI (jz 1) M) else (kI (pcl GG lay d 65 [.ref 20, .int ((M.1 19 3) - (jn 1))] M) fun r1 M1 => (if r1 = (jn 2) then (kV (pcl GG lay d 66 [.ref 20, .int ((M1.1 19 3) - (jn 1)), .int (jn 1)] M1) fun M2 => (if l2 = (jn 44) then (rI (jn 0) M2) else (rI (jz 1) M2))) else (wr (sI M1 19 (va_up (M1.1 19) 3 ((M1.1 19 3) - (jn 1)))) fun M2 => (if l2 = (jn 41) then (rI (jn 2) M2) else (rI (jz 1) M2)))))))) := by
  refine (pcl_un (mt := t_197) (by decide) rfl (Nat.le_of_ble_eq_true rfl)).trans ?_
  show E_197 d (0, [some (.ref 19), some (.int l1), some (.int l2), some (.int l3)], [], M) = _
  refine (evn_adv 1 (q' := (1, [some (.ref 19), some (.int l1), some (.int l2), some (.int l3)], [.int l1], M)) rfl).trans ?_
  refine (e_if_ne (hf := rfl)).trans ?_
  refine ite_in ?_ ?_
  · refine (evn_adv 3 (q' := (7, [some (.ref 19), some (.int l1), some (.int l2), some (.int l3)], [.int l3, .int l2, .ref 19], M)) rfl).trans ?_
    refine (e_kI (q := (7, [some (.ref 19), some (.int l1), some (.int l2), some (.int l3)], [.int l3, .int l2, .ref 19])) (q2 := (10, [some (.ref 19), some (.int l1), some (.int l2), some (.int l3)], [])) (M := M) (o := (pcl GG lay d 198 [.ref 19, .int l2, .int l3] M)) (hf := rfl) rfl rfl).trans ?_
    refine kI_in (fun r1 M1 => ?_)
    exact evn_end 1 rfl
  · refine (evn_adv 2 (q' := (13, [some (.ref 19), some (.int l1), some (.int l2), some (.int l3)], [.int (jn 1), .int l1], M)) rfl).trans ?_
    refine (e_ic_ne (hf := rfl)).trans ?_
    refine ite_in ?_ ?_
    · refine (evn_adv 2 (q' := (19, [some (.ref 19), some (.int l1), some (.int l2), some (.int l3)], [.int (jn 40), .int l2], M)) rfl).trans ?_
      refine (e_ic_ne (hf := rfl)).trans ?_
      refine ite_in ?_ ?_
      · refine (evn_adv 2 (q' := (27, [some (.ref 19), some (.int l1), some (.int l2), some (.int l3)], [.int (jn 0)], M)) rfl).trans ?_
        exact evn_end 1 rfl
      · refine (evn_adv 1 (q' := (27, [some (.ref 19), some (.int l1), some (.int l2), some (.int l3)], [.int (jz 1)], M)) rfl).trans ?_
        exact evn_end 1 rfl
    · refine (evn_adv 2 (q' := (32, [some (.ref 19), some (.int l1), some (.int l2), some (.int l3)], [.int (M.1 19 3)], M)) rfl).trans ?_
      refine (e_if_ne (hf := rfl)).trans ?_
      refine ite_in ?_ ?_
      · refine (evn_adv 1 (q' := (36, [some (.ref 19), some (.int l1), some (.int l2), some (.int l3)], [.int (jz 1)], M)) rfl).trans ?_
        exact evn_end 1 rfl
      · refine (evn_adv 6 (q' := (47, [some (.ref 19), some (.int l1), some (.int l2), some (.int l3)], [.int ((M.1 19 3) - (jn 1)), .ref 20], M)) rfl).trans ?_
        refine (e_kI (q := (47, [some (.ref 19), some (.int l1), some (.int l2), some (.int l3)], [.int ((M.1 19 3) - (jn 1)), .ref 20])) (q2 := (50, [some (.ref 19), some (.int l1), some (.int l2), some (.int l3)], [])) (M := M) (o := (pcl GG lay d 65 [.ref 20, .int ((M.1 19 3) - (jn 1))] M)) (hf := rfl) rfl rfl).trans ?_
        refine kI_in (fun r1 M1 => ?_)
        refine (evn_adv 1 (q' := (51, [some (.ref 19), some (.int l1), some (.int l2), some (.int l3)], [.int (jn 2), .int r1], M1)) rfl).trans ?_
        refine (e_ic_ne (hf := rfl)).trans ?_
        refine ite_in ?_ ?_
        · refine (evn_adv 7 (q' := (65, [some (.ref 19), some (.int l1), some (.int l2), some (.int l3)], [.int (jn 1), .int ((M1.1 19 3) - (jn 1)), .ref 20], M1)) rfl).trans ?_
          refine (e_kV (q := (65, [some (.ref 19), some (.int l1), some (.int l2), some (.int l3)], [.int (jn 1), .int ((M1.1 19 3) - (jn 1)), .ref 20])) (q2 := (68, [some (.ref 19), some (.int l1), some (.int l2), some (.int l3)], [])) (M := M1) (o := (pcl GG lay d 66 [.ref 20, .int ((M1.1 19 3) - (jn 1)), .int (jn 1)] M1)) (hf := rfl) rfl rfl).trans ?_
          refine kV_in (fun M2 => ?_)
          refine (evn_adv 2 (q' := (71, [some (.ref 19), some (.int l1), some (.int l2), some (.int l3)], [.int (jn 44), .int l2], M2)) rfl).trans ?_
          refine (e_ic_ne (hf := rfl)).trans ?_
          refine ite_in ?_ ?_
          · refine (evn_adv 2 (q' := (79, [some (.ref 19), some (.int l1), some (.int l2), some (.int l3)], [.int (jn 0)], M2)) rfl).trans ?_
            exact evn_end 1 rfl
          · refine (evn_adv 1 (q' := (79, [some (.ref 19), some (.int l1), some (.int l2), some (.int l3)], [.int (jz 1)], M2)) rfl).trans ?_
            exact evn_end 1 rfl
        · refine (evn_adv 5 (q' := (87, [some (.ref 19), some (.int l1), some (.int l2), some (.int l3)], [.int ((M1.1 19 3) - (jn 1)), .ref 19], M1)) rfl).trans ?_
          refine (evn_adv 1 (q' := (90, [some (.ref 19), some (.int l1), some (.int l2), some (.int l3)], [], (sI M1 19 (va_up (M1.1 19) 3 ((M1.1 19 3) - (jn 1)))))) rfl).trans ?_
          refine wr_in (f := fun M2 => E_197 d (90, [some (.ref 19), some (.int l1), some (.int l2), some (.int l3)], [], M2)) (fun M2 => ?_)
          refine (evn_adv 2 (q' := (93, [some (.ref 19), some (.int l1), some (.int l2), some (.int l3)], [.int (jn 41), .int l2], M2)) rfl).trans ?_
          refine (e_ic_ne (hf := rfl)).trans ?_
          refine ite_in ?_ ?_
          · refine (evn_adv 2 (q' := (101, [some (.ref 19), some (.int l1), some (.int l2), some (.int l3)], [.int (jn 2)], M2)) rfl).trans ?_
            exact evn_end 1 rfl
          · refine (evn_adv 1 (q' := (101, [some (.ref 19), some (.int l1), some (.int l2), some (.int l3)], [.int (jz 1)], M2)) rfl).trans ?_
            exact evn_end 1 rfl
/-- TermStrategies$Reader.nextToSign(II)I -/
noncomputable abbrev E_198 (d : Nat) : PQ → PO := evn (rnn k_198 lay none (pcl GG lay d) 1)
theorem q_198 (d : Nat) (l1 : Int32) (l2 : Int32) (M : PM) : pcl GG lay (d + 1) 198 [.ref 19, .int l1, .int l2] M = (kI (pcl GG lay d 63 [.int l1] M) fun r1 M1 => (if r1 = (jz 1) then (rI (jz 1) M1) else (if (M1.1 19 4) < (jn 40) then (kV (pcl GG lay d 232 [.ref 6, .int (l2 + (M1.1 19 4)), .int l1] M1) fun M2 => (wr (sI M2 19 (va_up (M2.1 19) 4 ((M2.1 19 4) + (jn 1)))) fun M3 => (if r1 = jn 0 then (rI (jn 2) M3) else (kV (pcl GG lay d 66 [.ref 20, .int (M3.1 19 3), .int r1] M3) fun M4 => (wr (sI M4 19 (va_up (M4.1 19) 3 ((M4.1 19 3) + (jn 1)))) fun M5 => (rI (jn 1) M5)))))) else (rI (jz 1) M1)))) := by
  refine (pcl_un (mt := t_198) (by decide) rfl (Nat.le_of_ble_eq_true rfl)).trans ?_
  show E_198 d (0, [some (.ref 19), some (.int l1), some (.int l2), none], [], M) = _
  refine (evn_adv 1 (q' := (1, [some (.ref 19), some (.int l1), some (.int l2), none], [.int l1], M)) rfl).trans ?_
  refine (e_kI (q := (1, [some (.ref 19), some (.int l1), some (.int l2), none], [.int l1])) (q2 := (4, [some (.ref 19), some (.int l1), some (.int l2), none], [])) (M := M) (o := (pcl GG lay d 63 [.int l1] M)) (hf := rfl) rfl rfl).trans ?_
  refine kI_in (fun r1 M1 => ?_)
  refine (evn_adv 3 (q' := (7, [some (.ref 19), some (.int l1), some (.int l2), some (.int r1)], [.int (jz 1), .int r1], M1)) rfl).trans ?_
  refine (e_ic_eq (hf := rfl)).trans ?_
  refine ite_in ?_ ?_
  · refine (evn_adv 1 (q' := (20, [some (.ref 19), some (.int l1), some (.int l2), some (.int r1)], [.int (jz 1)], M1)) rfl).trans ?_
    exact evn_end 1 rfl
  · refine (evn_adv 3 (q' := (16, [some (.ref 19), some (.int l1), some (.int l2), some (.int r1)], [.int (jn 40), .int (M1.1 19 4)], M1)) rfl).trans ?_
    refine (e_ic_lt (hf := rfl)).trans ?_
    refine ite_in ?_ ?_
    · refine (evn_adv 7 (q' := (32, [some (.ref 19), some (.int l1), some (.int l2), some (.int r1)], [.int l1, .int (l2 + (M1.1 19 4)), .ref 6], M1)) rfl).trans ?_
      refine (e_kV (q := (32, [some (.ref 19), some (.int l1), some (.int l2), some (.int r1)], [.int l1, .int (l2 + (M1.1 19 4)), .ref 6])) (q2 := (35, [some (.ref 19), some (.int l1), some (.int l2), some (.int r1)], [])) (M := M1) (o := (pcl GG lay d 232 [.ref 6, .int (l2 + (M1.1 19 4)), .int l1] M1)) (hf := rfl) rfl rfl).trans ?_
      refine kV_in (fun M2 => ?_)
      refine (evn_adv 5 (q' := (42, [some (.ref 19), some (.int l1), some (.int l2), some (.int r1)], [.int ((M2.1 19 4) + (jn 1)), .ref 19], M2)) rfl).trans ?_
      refine (evn_adv 1 (q' := (45, [some (.ref 19), some (.int l1), some (.int l2), some (.int r1)], [], (sI M2 19 (va_up (M2.1 19) 4 ((M2.1 19 4) + (jn 1)))))) rfl).trans ?_
      refine wr_in (f := fun M3 => E_198 d (45, [some (.ref 19), some (.int l1), some (.int l2), some (.int r1)], [], M3)) (fun M3 => ?_)
      refine (evn_adv 1 (q' := (46, [some (.ref 19), some (.int l1), some (.int l2), some (.int r1)], [.int r1], M3)) rfl).trans ?_
      refine (e_if_ne (hf := rfl)).trans ?_
      refine ite_in ?_ ?_
      · refine (evn_adv 1 (q' := (50, [some (.ref 19), some (.int l1), some (.int l2), some (.int r1)], [.int (jn 2)], M3)) rfl).trans ?_
        exact evn_end 1 rfl
      · refine (evn_adv 5 (q' := (60, [some (.ref 19), some (.int l1), some (.int l2), some (.int r1)], [.int r1, .int (M3.1 19 3), .ref 20], M3)) rfl).trans ?_
        refine (e_kV (q := (60, [some (.ref 19), some (.int l1), some (.int l2), some (.int r1)], [.int r1, .int (M3.1 19 3), .ref 20])) (q2 := (63, [some (.ref 19), some (.int l1), some (.int l2), some (.int r1)], [])) (M := M3) (o := (pcl GG lay d 66 [.ref 20, .int (M3.1 19 3), .int r1] M3)) (hf := rfl) rfl rfl).trans ?_
        refine kV_in (fun M4 => ?_)
        refine (evn_adv 5 (q' := (70, [some (.ref 19), some (.int l1), some (.int l2), some (.int r1)], [.int ((M4.1 19 3) + (jn 1)), .ref 19], M4)) rfl).trans ?_
        refine (evn_adv 1 (q' := (73, [some (.ref 19), some (.int l1), some (.int l2), some (.int r1)], [], (sI M4 19 (va_up (M4.1 19) 3 ((M4.1 19 3) + (jn 1)))))) rfl).trans ?_
        refine wr_in (f := fun M5 => E_198 d (73, [some (.ref 19), some (.int l1), some (.int l2), some (.int r1)], [], M5)) (fun M5 => ?_)
        refine (evn_adv 1 (q' := (74, [some (.ref 19), some (.int l1), some (.int l2), some (.int r1)], [.int (jn 1)], M5)) rfl).trans ?_
        exact evn_end 1 rfl
    · refine (evn_adv 1 (q' := (20, [some (.ref 19), some (.int l1), some (.int l2), some (.int r1)], [.int (jz 1)], M1)) rfl).trans ?_
      exact evn_end 1 rfl
/-- TermStrategies$Runner.forgetCounts()V -/
noncomputable abbrev E_199 (d : Nat) : PQ → PO := evn (rnn k_199 lay none (pcl GG lay d) 0)
theorem q_199 (d : Nat)  (M : PM) : pcl GG lay (d + 1) 199 [.ref 29] M = (wr (sI M 29 (va_up (M.1 29) 12 (jn 0))) fun M1 => (wr (sI M1 29 (va_up (M1.1 29) 13 (jn 0))) fun M2 => (rV M2))) := by
  refine (pcl_un (mt := t_199) (by decide) rfl (Nat.le_of_ble_eq_true rfl)).trans ?_
  show E_199 d (0, [some (.ref 29)], [], M) = _
  refine (evn_adv 2 (q' := (2, [some (.ref 29)], [.int (jn 0), .ref 29], M)) rfl).trans ?_
  refine (evn_adv 1 (q' := (5, [some (.ref 29)], [], (sI M 29 (va_up (M.1 29) 12 (jn 0))))) rfl).trans ?_
  refine wr_in (f := fun M1 => E_199 d (5, [some (.ref 29)], [], M1)) (fun M1 => ?_)
  refine (evn_adv 2 (q' := (7, [some (.ref 29)], [.int (jn 0), .ref 29], M1)) rfl).trans ?_
  refine (evn_adv 1 (q' := (10, [some (.ref 29)], [], (sI M1 29 (va_up (M1.1 29) 13 (jn 0))))) rfl).trans ?_
  refine wr_in (f := fun M2 => E_199 d (10, [some (.ref 29)], [], M2)) (fun M2 => ?_)
  exact evn_end 1 rfl
/-- TermStrategies$Runner.go(II)I -/
noncomputable abbrev E_200 (d : Nat) : PQ → PO := evn (rnn k_200 lay none (pcl GG lay d) 1)
theorem q_200 (d : Nat) (l1 : Int32) (l2 : Int32) (M : PM) : pcl GG lay (d + 1) 200 [.ref 29, .int l1, .int l2] M = (wr (sI M 29 (va_up (M.1 29) 11 (jn 0))) fun M1 => (wr (sI M1 29 (va_up (M1.1 29) 14 (jn 2120))) fun M2 => (wr (sI M2 29 (va_up (M2.1 29) 16 (jn 0))) fun M3 => (kV (pcl GG lay d 255 [.ref 30, .int (jn 0)] M3) fun M4 => (kV (pcl GG lay d 201 [.ref 29, .int (jz 1), .int (jn 0), .int l1, .int l2, .long (Int64.ofNat 0)] M4) fun M5 => E_200 d (36, [some (.ref 29), some (.int l1), some (.int l2), some (.int (jn 0)), none], [], M5)))))) := by
  refine (pcl_un (mt := t_200) (by decide) rfl (Nat.le_of_ble_eq_true rfl)).trans ?_
  show E_200 d (0, [some (.ref 29), some (.int l1), some (.int l2), none, none], [], M) = _
  refine (evn_adv 2 (q' := (2, [some (.ref 29), some (.int l1), some (.int l2), none, none], [.int (jn 0), .ref 29], M)) rfl).trans ?_
  refine (evn_adv 1 (q' := (5, [some (.ref 29), some (.int l1), some (.int l2), none, none], [], (sI M 29 (va_up (M.1 29) 11 (jn 0))))) rfl).trans ?_
  refine wr_in (f := fun M1 => E_200 d (5, [some (.ref 29), some (.int l1), some (.int l2), none, none], [], M1)) (fun M1 => ?_)
  refine (evn_adv 2 (q' := (9, [some (.ref 29), some (.int l1), some (.int l2), none, none], [.int (jn 2120), .ref 29], M1)) rfl).trans ?_
  refine (evn_adv 1 (q' := (12, [some (.ref 29), some (.int l1), some (.int l2), none, none], [], (sI M1 29 (va_up (M1.1 29) 14 (jn 2120))))) rfl).trans ?_
  refine wr_in (f := fun M2 => E_200 d (12, [some (.ref 29), some (.int l1), some (.int l2), none, none], [], M2)) (fun M2 => ?_)
  refine (evn_adv 2 (q' := (14, [some (.ref 29), some (.int l1), some (.int l2), none, none], [.int (jn 0), .ref 29], M2)) rfl).trans ?_
  refine (e_putz (q2 := (17, [some (.ref 29), some (.int l1), some (.int l2), none, none], [])) (k := 29) (j := 16) rfl rfl).trans ?_
  refine (if_pos (Or.inl rfl)).trans ?_
  refine wr_in (f := fun M3 => E_200 d (17, [some (.ref 29), some (.int l1), some (.int l2), none, none], [], M3)) (fun M3 => ?_)
  refine (evn_adv 3 (q' := (22, [some (.ref 29), some (.int l1), some (.int l2), none, none], [.int (jn 0), .ref 30], M3)) rfl).trans ?_
  refine (e_kV (q := (22, [some (.ref 29), some (.int l1), some (.int l2), none, none], [.int (jn 0), .ref 30])) (q2 := (25, [some (.ref 29), some (.int l1), some (.int l2), none, none], [])) (M := M3) (o := (pcl GG lay d 255 [.ref 30, .int (jn 0)] M3)) (hf := rfl) rfl rfl).trans ?_
  refine kV_in (fun M4 => ?_)
  refine (evn_adv 6 (q' := (31, [some (.ref 29), some (.int l1), some (.int l2), none, none], [.long (Int64.ofNat 0), .int l2, .int l1, .int (jn 0), .int (jz 1), .ref 29], M4)) rfl).trans ?_
  refine (e_kV (q := (31, [some (.ref 29), some (.int l1), some (.int l2), none, none], [.long (Int64.ofNat 0), .int l2, .int l1, .int (jn 0), .int (jz 1), .ref 29])) (q2 := (34, [some (.ref 29), some (.int l1), some (.int l2), none, none], [])) (M := M4) (o := (pcl GG lay d 201 [.ref 29, .int (jz 1), .int (jn 0), .int l1, .int l2, .long (Int64.ofNat 0)] M4)) (hf := rfl) rfl rfl).trans ?_
  refine kV_in (fun M5 => ?_)
  refine (evn_adv 2 (q' := (36, [some (.ref 29), some (.int l1), some (.int l2), some (.int (jn 0)), none], [], M5)) rfl).trans ?_
  rfl
theorem h_200_36 (d : Nat) (u1 : Option Value) (u2 : Option Value) (l3 : Int32) (u4 : Option Value) (M : PM) : E_200 d (36, [some (.ref 29), u1, u2, some (.int l3), u4], [], M) = (if l3 < (jn 1800) then (if jn 0 < (M.1 29 11) then (if (M.1 29 16) = jn 0 then (kI (pcl GG lay d 65 [.ref 36, .int ((M.1 29 11) - (jn 1))] M) fun r1 M1 => (if r1 = (jn 0) then (kV (pcl GG lay d 206 [.ref 29, .int ((M.1 29 11) - (jn 1))] M1) fun M2 => E_200 d (36, [some (.ref 29), u1, u2, some (.int (l3 + (jn 1))), some (.int ((M.1 29 11) - (jn 1)))], [], M2)) else (if r1 = (jn 1) then (kV (pcl GG lay d 208 [.ref 29, .int ((M.1 29 11) - (jn 1))] M1) fun M2 => E_200 d (36, [some (.ref 29), u1, u2, some (.int (l3 + (jn 1))), some (.int ((M.1 29 11) - (jn 1)))], [], M2)) else (if r1 = (jn 2) then (kV (pcl GG lay d 213 [.ref 29, .int ((M.1 29 11) - (jn 1))] M1) fun M2 => E_200 d (36, [some (.ref 29), u1, u2, some (.int (l3 + (jn 1))), some (.int ((M.1 29 11) - (jn 1)))], [], M2)) else (if r1 = (jn 3) then (kV (pcl GG lay d 214 [.ref 29, .int ((M.1 29 11) - (jn 1))] M1) fun M2 => E_200 d (36, [some (.ref 29), u1, u2, some (.int (l3 + (jn 1))), some (.int ((M.1 29 11) - (jn 1)))], [], M2)) else (if r1 = (jn 4) then (kV (pcl GG lay d 216 [.ref 29, .int ((M.1 29 11) - (jn 1))] M1) fun M2 => E_200 d (36, [some (.ref 29), u1, u2, some (.int (l3 + (jn 1))), some (.int ((M.1 29 11) - (jn 1)))], [], M2)) else (kV (pcl GG lay d 205 [.ref 29, .int ((M.1 29 11) - (jn 1)), .int (M1.1 29 15)] M1) fun M2 => E_200 d (36, [some (.ref 29), u1, u2, some (.int (l3 + (jn 1))), some (.int ((M.1 29 11) - (jn 1)))], [], M2)))))))) else (if (M.1 29 16) = jn 0 then (if jn 0 < (M.1 29 11) then (rI (jz 2) M) else (rI (M.1 29 15) M)) else (rI (jz 2) M))) else (if (M.1 29 16) = jn 0 then (if jn 0 < (M.1 29 11) then (rI (jz 2) M) else (rI (M.1 29 15) M)) else (rI (jz 2) M))) else (if (M.1 29 16) = jn 0 then (if jn 0 < (M.1 29 11) then (rI (jz 2) M) else (rI (M.1 29 15) M)) else (rI (jz 2) M))) := by
  refine (evn_adv 2 (q' := (40, [some (.ref 29), u1, u2, some (.int l3), u4], [.int (jn 1800), .int l3], M)) rfl).trans ?_
  refine (e_ic_ge (hf := rfl)).trans ?_
  refine ite_in ?_ ?_
  · refine (evn_adv 2 (q' := (47, [some (.ref 29), u1, u2, some (.int l3), u4], [.int (M.1 29 11)], M)) rfl).trans ?_
    refine (e_if_le (hf := rfl)).trans ?_
    refine ite_in ?_ ?_
    · refine (evn_adv 2 (q' := (54, [some (.ref 29), u1, u2, some (.int l3), u4], [.int (M.1 29 16)], M)) rfl).trans ?_
      refine (e_if_ne (hf := rfl)).trans ?_
      refine ite_in ?_ ?_
      · refine (evn_adv 8 (q' := (71, [some (.ref 29), u1, u2, some (.int l3), some (.int ((M.1 29 11) - (jn 1)))], [.int ((M.1 29 11) - (jn 1)), .ref 36], M)) rfl).trans ?_
        refine (e_kI (q := (71, [some (.ref 29), u1, u2, some (.int l3), some (.int ((M.1 29 11) - (jn 1)))], [.int ((M.1 29 11) - (jn 1)), .ref 36])) (q2 := (74, [some (.ref 29), u1, u2, some (.int l3), some (.int ((M.1 29 11) - (jn 1)))], [])) (M := M) (o := (pcl GG lay d 65 [.ref 36, .int ((M.1 29 11) - (jn 1))] M)) (hf := rfl) rfl rfl).trans ?_
        refine kI_in (fun r1 M1 => ?_)
        refine (e_sw0 (dflt := 153) (lo := ((0 : Nat) : Int)) (ts := [108, 117, 126, 135, 144]) (hf := rfl) rfl).trans ?_
        refine sw_cons (lo := 0) (F := fun pc => E_200 d (pc, [some (.ref 29), u1, u2, some (.int l3), some (.int ((M.1 29 11) - (jn 1)))], [], M1)) (by decide) ?_ ?_
        · refine (evn_adv 2 (q' := (111, [some (.ref 29), u1, u2, some (.int l3), some (.int ((M.1 29 11) - (jn 1)))], [.int ((M.1 29 11) - (jn 1)), .ref 29], M1)) rfl).trans ?_
          refine (e_kV (q := (111, [some (.ref 29), u1, u2, some (.int l3), some (.int ((M.1 29 11) - (jn 1)))], [.int ((M.1 29 11) - (jn 1)), .ref 29])) (q2 := (114, [some (.ref 29), u1, u2, some (.int l3), some (.int ((M.1 29 11) - (jn 1)))], [])) (M := M1) (o := (pcl GG lay d 206 [.ref 29, .int ((M.1 29 11) - (jn 1))] M1)) (hf := rfl) rfl rfl).trans ?_
          refine kV_in (fun M2 => ?_)
          refine (evn_adv 3 (q' := (36, [some (.ref 29), u1, u2, some (.int (l3 + (jn 1))), some (.int ((M.1 29 11) - (jn 1)))], [], M2)) rfl).trans ?_
          rfl
        refine sw_cons (lo := 1) (F := fun pc => E_200 d (pc, [some (.ref 29), u1, u2, some (.int l3), some (.int ((M.1 29 11) - (jn 1)))], [], M1)) (by decide) ?_ ?_
        · refine (evn_adv 2 (q' := (120, [some (.ref 29), u1, u2, some (.int l3), some (.int ((M.1 29 11) - (jn 1)))], [.int ((M.1 29 11) - (jn 1)), .ref 29], M1)) rfl).trans ?_
          refine (e_kV (q := (120, [some (.ref 29), u1, u2, some (.int l3), some (.int ((M.1 29 11) - (jn 1)))], [.int ((M.1 29 11) - (jn 1)), .ref 29])) (q2 := (123, [some (.ref 29), u1, u2, some (.int l3), some (.int ((M.1 29 11) - (jn 1)))], [])) (M := M1) (o := (pcl GG lay d 208 [.ref 29, .int ((M.1 29 11) - (jn 1))] M1)) (hf := rfl) rfl rfl).trans ?_
          refine kV_in (fun M2 => ?_)
          refine (evn_adv 3 (q' := (36, [some (.ref 29), u1, u2, some (.int (l3 + (jn 1))), some (.int ((M.1 29 11) - (jn 1)))], [], M2)) rfl).trans ?_
          rfl
        refine sw_cons (lo := 2) (F := fun pc => E_200 d (pc, [some (.ref 29), u1, u2, some (.int l3), some (.int ((M.1 29 11) - (jn 1)))], [], M1)) (by decide) ?_ ?_
        · refine (evn_adv 2 (q' := (129, [some (.ref 29), u1, u2, some (.int l3), some (.int ((M.1 29 11) - (jn 1)))], [.int ((M.1 29 11) - (jn 1)), .ref 29], M1)) rfl).trans ?_
          refine (e_kV (q := (129, [some (.ref 29), u1, u2, some (.int l3), some (.int ((M.1 29 11) - (jn 1)))], [.int ((M.1 29 11) - (jn 1)), .ref 29])) (q2 := (132, [some (.ref 29), u1, u2, some (.int l3), some (.int ((M.1 29 11) - (jn 1)))], [])) (M := M1) (o := (pcl GG lay d 213 [.ref 29, .int ((M.1 29 11) - (jn 1))] M1)) (hf := rfl) rfl rfl).trans ?_
          refine kV_in (fun M2 => ?_)
          refine (evn_adv 3 (q' := (36, [some (.ref 29), u1, u2, some (.int (l3 + (jn 1))), some (.int ((M.1 29 11) - (jn 1)))], [], M2)) rfl).trans ?_
          rfl
        refine sw_cons (lo := 3) (F := fun pc => E_200 d (pc, [some (.ref 29), u1, u2, some (.int l3), some (.int ((M.1 29 11) - (jn 1)))], [], M1)) (by decide) ?_ ?_
        · refine (evn_adv 2 (q' := (138, [some (.ref 29), u1, u2, some (.int l3), some (.int ((M.1 29 11) - (jn 1)))], [.int ((M.1 29 11) - (jn 1)), .ref 29], M1)) rfl).trans ?_
          refine (e_kV (q := (138, [some (.ref 29), u1, u2, some (.int l3), some (.int ((M.1 29 11) - (jn 1)))], [.int ((M.1 29 11) - (jn 1)), .ref 29])) (q2 := (141, [some (.ref 29), u1, u2, some (.int l3), some (.int ((M.1 29 11) - (jn 1)))], [])) (M := M1) (o := (pcl GG lay d 214 [.ref 29, .int ((M.1 29 11) - (jn 1))] M1)) (hf := rfl) rfl rfl).trans ?_
          refine kV_in (fun M2 => ?_)
          refine (evn_adv 3 (q' := (36, [some (.ref 29), u1, u2, some (.int (l3 + (jn 1))), some (.int ((M.1 29 11) - (jn 1)))], [], M2)) rfl).trans ?_
          rfl
        refine sw_cons (lo := 4) (F := fun pc => E_200 d (pc, [some (.ref 29), u1, u2, some (.int l3), some (.int ((M.1 29 11) - (jn 1)))], [], M1)) (by decide) ?_ ?_
        · refine (evn_adv 2 (q' := (147, [some (.ref 29), u1, u2, some (.int l3), some (.int ((M.1 29 11) - (jn 1)))], [.int ((M.1 29 11) - (jn 1)), .ref 29], M1)) rfl).trans ?_
          refine (e_kV (q := (147, [some (.ref 29), u1, u2, some (.int l3), some (.int ((M.1 29 11) - (jn 1)))], [.int ((M.1 29 11) - (jn 1)), .ref 29])) (q2 := (150, [some (.ref 29), u1, u2, some (.int l3), some (.int ((M.1 29 11) - (jn 1)))], [])) (M := M1) (o := (pcl GG lay d 216 [.ref 29, .int ((M.1 29 11) - (jn 1))] M1)) (hf := rfl) rfl rfl).trans ?_
          refine kV_in (fun M2 => ?_)
          refine (evn_adv 3 (q' := (36, [some (.ref 29), u1, u2, some (.int (l3 + (jn 1))), some (.int ((M.1 29 11) - (jn 1)))], [], M2)) rfl).trans ?_
          rfl
        show E_200 d (153, [some (.ref 29), u1, u2, some (.int l3), some (.int ((M.1 29 11) - (jn 1)))], [], M1) = _
        refine (evn_adv 4 (q' := (160, [some (.ref 29), u1, u2, some (.int l3), some (.int ((M.1 29 11) - (jn 1)))], [.int (M1.1 29 15), .int ((M.1 29 11) - (jn 1)), .ref 29], M1)) rfl).trans ?_
        refine (e_kV (q := (160, [some (.ref 29), u1, u2, some (.int l3), some (.int ((M.1 29 11) - (jn 1)))], [.int (M1.1 29 15), .int ((M.1 29 11) - (jn 1)), .ref 29])) (q2 := (163, [some (.ref 29), u1, u2, some (.int l3), some (.int ((M.1 29 11) - (jn 1)))], [])) (M := M1) (o := (pcl GG lay d 205 [.ref 29, .int ((M.1 29 11) - (jn 1)), .int (M1.1 29 15)] M1)) (hf := rfl) rfl rfl).trans ?_
        refine kV_in (fun M2 => ?_)
        refine (evn_adv 2 (q' := (36, [some (.ref 29), u1, u2, some (.int (l3 + (jn 1))), some (.int ((M.1 29 11) - (jn 1)))], [], M2)) rfl).trans ?_
        rfl
      · refine (evn_adv 2 (q' := (173, [some (.ref 29), u1, u2, some (.int l3), u4], [.int (M.1 29 16)], M)) rfl).trans ?_
        refine (e_if_ne (hf := rfl)).trans ?_
        refine ite_in ?_ ?_
        · refine (evn_adv 2 (q' := (180, [some (.ref 29), u1, u2, some (.int l3), u4], [.int (M.1 29 11)], M)) rfl).trans ?_
          refine (e_if_le (hf := rfl)).trans ?_
          refine ite_in ?_ ?_
          · refine (evn_adv 2 (q' := (192, [some (.ref 29), u1, u2, some (.int l3), u4], [.int (jz 2)], M)) rfl).trans ?_
            exact evn_end 1 rfl
          · refine (evn_adv 2 (q' := (192, [some (.ref 29), u1, u2, some (.int l3), u4], [.int (M.1 29 15)], M)) rfl).trans ?_
            exact evn_end 1 rfl
        · refine (evn_adv 2 (q' := (192, [some (.ref 29), u1, u2, some (.int l3), u4], [.int (jz 2)], M)) rfl).trans ?_
          exact evn_end 1 rfl
    · refine (evn_adv 2 (q' := (173, [some (.ref 29), u1, u2, some (.int l3), u4], [.int (M.1 29 16)], M)) rfl).trans ?_
      refine (e_if_ne (hf := rfl)).trans ?_
      refine ite_in ?_ ?_
      · refine (evn_adv 2 (q' := (180, [some (.ref 29), u1, u2, some (.int l3), u4], [.int (M.1 29 11)], M)) rfl).trans ?_
        refine (e_if_le (hf := rfl)).trans ?_
        refine ite_in ?_ ?_
        · refine (evn_adv 2 (q' := (192, [some (.ref 29), u1, u2, some (.int l3), u4], [.int (jz 2)], M)) rfl).trans ?_
          exact evn_end 1 rfl
        · refine (evn_adv 2 (q' := (192, [some (.ref 29), u1, u2, some (.int l3), u4], [.int (M.1 29 15)], M)) rfl).trans ?_
          exact evn_end 1 rfl
      · refine (evn_adv 2 (q' := (192, [some (.ref 29), u1, u2, some (.int l3), u4], [.int (jz 2)], M)) rfl).trans ?_
        exact evn_end 1 rfl
  · refine (evn_adv 2 (q' := (173, [some (.ref 29), u1, u2, some (.int l3), u4], [.int (M.1 29 16)], M)) rfl).trans ?_
    refine (e_if_ne (hf := rfl)).trans ?_
    refine ite_in ?_ ?_
    · refine (evn_adv 2 (q' := (180, [some (.ref 29), u1, u2, some (.int l3), u4], [.int (M.1 29 11)], M)) rfl).trans ?_
      refine (e_if_le (hf := rfl)).trans ?_
      refine ite_in ?_ ?_
      · refine (evn_adv 2 (q' := (192, [some (.ref 29), u1, u2, some (.int l3), u4], [.int (jz 2)], M)) rfl).trans ?_
        exact evn_end 1 rfl
      · refine (evn_adv 2 (q' := (192, [some (.ref 29), u1, u2, some (.int l3), u4], [.int (M.1 29 15)], M)) rfl).trans ?_
        exact evn_end 1 rfl
    · refine (evn_adv 2 (q' := (192, [some (.ref 29), u1, u2, some (.int l3), u4], [.int (jz 2)], M)) rfl).trans ?_
      exact evn_end 1 rfl
/-- TermStrategies$Runner.ask(IIIIJ)V -/
noncomputable abbrev E_201 (d : Nat) : PQ → PO := evn (rnn k_201 lay none (pcl GG lay d) 0)
theorem q_201 (d : Nat) (l1 : Int32) (l2 : Int32) (l3 : Int32) (l4 : Int32) (l5 : Int64) (M : PM) : pcl GG lay (d + 1) 201 [.ref 29, .int l1, .int l2, .int l3, .int l4, .long l5] M = (kV (pcl GG lay d 66 [.ref 36, .int l1, .int l2] M) fun M1 => (kI (pcl GG lay d 202 [.ref 29] M1) fun r2 M2 => (if r2 = jn 0 then (rV M2) else (kV (pcl GG lay d 66 [.ref 33, .int (M2.1 29 11), .int l3] M2) fun M3 => (kV (pcl GG lay d 66 [.ref 34, .int (M3.1 29 11), .int l4] M3) fun M4 => (kV (pcl GG lay d 68 [.ref 35, .int (M4.1 29 11), .long l5] M4) fun M5 => (kV (pcl GG lay d 66 [.ref 36, .int (M5.1 29 11), .int (jn 0)] M5) fun M6 => (kV (pcl GG lay d 66 [.ref 38, .int (M6.1 29 11), .int (M6.1 30 2)] M6) fun M7 => (kV (pcl GG lay d 66 [.ref 39, .int (M7.1 29 11), .int (M7.1 29 14)] M7) fun M8 => (wr (sI M8 29 (va_up (M8.1 29) 11 ((M8.1 29 11) + (jn 1)))) fun M9 => (rV M9))))))))))) := by
  refine (pcl_un (mt := t_201) (by decide) rfl (Nat.le_of_ble_eq_true rfl)).trans ?_
  show E_201 d (0, [some (.ref 29), some (.int l1), some (.int l2), some (.int l3), some (.int l4), some (.long l5), none], [], M) = _
  refine (evn_adv 4 (q' := (6, [some (.ref 29), some (.int l1), some (.int l2), some (.int l3), some (.int l4), some (.long l5), none], [.int l2, .int l1, .ref 36], M)) rfl).trans ?_
  refine (e_kV (q := (6, [some (.ref 29), some (.int l1), some (.int l2), some (.int l3), some (.int l4), some (.long l5), none], [.int l2, .int l1, .ref 36])) (q2 := (9, [some (.ref 29), some (.int l1), some (.int l2), some (.int l3), some (.int l4), some (.long l5), none], [])) (M := M) (o := (pcl GG lay d 66 [.ref 36, .int l1, .int l2] M)) (hf := rfl) rfl rfl).trans ?_
  refine kV_in (fun M1 => ?_)
  refine (evn_adv 1 (q' := (10, [some (.ref 29), some (.int l1), some (.int l2), some (.int l3), some (.int l4), some (.long l5), none], [.ref 29], M1)) rfl).trans ?_
  refine (e_kI (q := (10, [some (.ref 29), some (.int l1), some (.int l2), some (.int l3), some (.int l4), some (.long l5), none], [.ref 29])) (q2 := (13, [some (.ref 29), some (.int l1), some (.int l2), some (.int l3), some (.int l4), some (.long l5), none], [])) (M := M1) (o := (pcl GG lay d 202 [.ref 29] M1)) (hf := rfl) rfl rfl).trans ?_
  refine kI_in (fun r2 M2 => ?_)
  refine (e_if_ne (hf := rfl)).trans ?_
  refine ite_in ?_ ?_
  · exact evn_end 1 rfl
  · refine (evn_adv 5 (q' := (26, [some (.ref 29), some (.int l1), some (.int l2), some (.int l3), some (.int l4), some (.long l5), none], [.int l3, .int (M2.1 29 11), .ref 33], M2)) rfl).trans ?_
    refine (e_kV (q := (26, [some (.ref 29), some (.int l1), some (.int l2), some (.int l3), some (.int l4), some (.long l5), none], [.int l3, .int (M2.1 29 11), .ref 33])) (q2 := (29, [some (.ref 29), some (.int l1), some (.int l2), some (.int l3), some (.int l4), some (.long l5), none], [])) (M := M2) (o := (pcl GG lay d 66 [.ref 33, .int (M2.1 29 11), .int l3] M2)) (hf := rfl) rfl rfl).trans ?_
    refine kV_in (fun M3 => ?_)
    refine (evn_adv 5 (q' := (39, [some (.ref 29), some (.int l1), some (.int l2), some (.int l3), some (.int l4), some (.long l5), none], [.int l4, .int (M3.1 29 11), .ref 34], M3)) rfl).trans ?_
    refine (e_kV (q := (39, [some (.ref 29), some (.int l1), some (.int l2), some (.int l3), some (.int l4), some (.long l5), none], [.int l4, .int (M3.1 29 11), .ref 34])) (q2 := (42, [some (.ref 29), some (.int l1), some (.int l2), some (.int l3), some (.int l4), some (.long l5), none], [])) (M := M3) (o := (pcl GG lay d 66 [.ref 34, .int (M3.1 29 11), .int l4] M3)) (hf := rfl) rfl rfl).trans ?_
    refine kV_in (fun M4 => ?_)
    refine (evn_adv 5 (q' := (52, [some (.ref 29), some (.int l1), some (.int l2), some (.int l3), some (.int l4), some (.long l5), none], [.long l5, .int (M4.1 29 11), .ref 35], M4)) rfl).trans ?_
    refine (e_kV (q := (52, [some (.ref 29), some (.int l1), some (.int l2), some (.int l3), some (.int l4), some (.long l5), none], [.long l5, .int (M4.1 29 11), .ref 35])) (q2 := (55, [some (.ref 29), some (.int l1), some (.int l2), some (.int l3), some (.int l4), some (.long l5), none], [])) (M := M4) (o := (pcl GG lay d 68 [.ref 35, .int (M4.1 29 11), .long l5] M4)) (hf := rfl) rfl rfl).trans ?_
    refine kV_in (fun M5 => ?_)
    refine (evn_adv 5 (q' := (64, [some (.ref 29), some (.int l1), some (.int l2), some (.int l3), some (.int l4), some (.long l5), none], [.int (jn 0), .int (M5.1 29 11), .ref 36], M5)) rfl).trans ?_
    refine (e_kV (q := (64, [some (.ref 29), some (.int l1), some (.int l2), some (.int l3), some (.int l4), some (.long l5), none], [.int (jn 0), .int (M5.1 29 11), .ref 36])) (q2 := (67, [some (.ref 29), some (.int l1), some (.int l2), some (.int l3), some (.int l4), some (.long l5), none], [])) (M := M5) (o := (pcl GG lay d 66 [.ref 36, .int (M5.1 29 11), .int (jn 0)] M5)) (hf := rfl) rfl rfl).trans ?_
    refine kV_in (fun M6 => ?_)
    refine (evn_adv 7 (q' := (82, [some (.ref 29), some (.int l1), some (.int l2), some (.int l3), some (.int l4), some (.long l5), none], [.int (M6.1 30 2), .int (M6.1 29 11), .ref 38], M6)) rfl).trans ?_
    refine (e_kV (q := (82, [some (.ref 29), some (.int l1), some (.int l2), some (.int l3), some (.int l4), some (.long l5), none], [.int (M6.1 30 2), .int (M6.1 29 11), .ref 38])) (q2 := (85, [some (.ref 29), some (.int l1), some (.int l2), some (.int l3), some (.int l4), some (.long l5), none], [])) (M := M6) (o := (pcl GG lay d 66 [.ref 38, .int (M6.1 29 11), .int (M6.1 30 2)] M6)) (hf := rfl) rfl rfl).trans ?_
    refine kV_in (fun M7 => ?_)
    refine (evn_adv 6 (q' := (97, [some (.ref 29), some (.int l1), some (.int l2), some (.int l3), some (.int l4), some (.long l5), none], [.int (M7.1 29 14), .int (M7.1 29 11), .ref 39], M7)) rfl).trans ?_
    refine (e_kV (q := (97, [some (.ref 29), some (.int l1), some (.int l2), some (.int l3), some (.int l4), some (.long l5), none], [.int (M7.1 29 14), .int (M7.1 29 11), .ref 39])) (q2 := (100, [some (.ref 29), some (.int l1), some (.int l2), some (.int l3), some (.int l4), some (.long l5), none], [])) (M := M7) (o := (pcl GG lay d 66 [.ref 39, .int (M7.1 29 11), .int (M7.1 29 14)] M7)) (hf := rfl) rfl rfl).trans ?_
    refine kV_in (fun M8 => ?_)
    refine (evn_adv 5 (q' := (107, [some (.ref 29), some (.int l1), some (.int l2), some (.int l3), some (.int l4), some (.long l5), none], [.int ((M8.1 29 11) + (jn 1)), .ref 29], M8)) rfl).trans ?_
    refine (evn_adv 1 (q' := (110, [some (.ref 29), some (.int l1), some (.int l2), some (.int l3), some (.int l4), some (.long l5), none], [], (sI M8 29 (va_up (M8.1 29) 11 ((M8.1 29 11) + (jn 1)))))) rfl).trans ?_
    refine wr_in (f := fun M9 => E_201 d (110, [some (.ref 29), some (.int l1), some (.int l2), some (.int l3), some (.int l4), some (.long l5), none], [], M9)) (fun M9 => ?_)
    exact evn_end 1 rfl
/-- TermStrategies$Runner.countBegun()Z -/
noncomputable abbrev E_202 (d : Nat) : PQ → PO := evn (rnn k_202 lay none (pcl GG lay d) 2)
theorem q_202 (d : Nat)  (M : PM) : pcl GG lay (d + 1) 202 [.ref 29] M = (if (M.1 29 12) < (jn 600) then (wr (sI M 29 (va_up (M.1 29) 12 ((M.1 29 12) + (jn 1)))) fun M1 => (rZ (jn 1) M1)) else (wr (sI M 29 (va_up (M.1 29) 16 (jn 1))) fun M1 => (rZ (jn 0) M1))) := by
  refine (pcl_un (mt := t_202) (by decide) rfl (Nat.le_of_ble_eq_true rfl)).trans ?_
  show E_202 d (0, [some (.ref 29)], [], M) = _
  refine (evn_adv 3 (q' := (7, [some (.ref 29)], [.int (jn 600), .int (M.1 29 12)], M)) rfl).trans ?_
  refine (e_ic_lt (hf := rfl)).trans ?_
  refine ite_in ?_ ?_
  · refine (evn_adv 5 (q' := (24, [some (.ref 29)], [.int ((M.1 29 12) + (jn 1)), .ref 29], M)) rfl).trans ?_
    refine (evn_adv 1 (q' := (27, [some (.ref 29)], [], (sI M 29 (va_up (M.1 29) 12 ((M.1 29 12) + (jn 1)))))) rfl).trans ?_
    refine wr_in (f := fun M1 => E_202 d (27, [some (.ref 29)], [], M1)) (fun M1 => ?_)
    refine (evn_adv 1 (q' := (28, [some (.ref 29)], [.int (jn 1)], M1)) rfl).trans ?_
    exact e_iretz (hf := rfl)
  · refine (evn_adv 2 (q' := (12, [some (.ref 29)], [.int (jn 1), .ref 29], M)) rfl).trans ?_
    refine (e_putz (q2 := (15, [some (.ref 29)], [])) (k := 29) (j := 16) rfl rfl).trans ?_
    refine (if_pos (Or.inr rfl)).trans ?_
    refine wr_in (f := fun M1 => E_202 d (15, [some (.ref 29)], [], M1)) (fun M1 => ?_)
    refine (evn_adv 1 (q' := (16, [some (.ref 29)], [.int (jn 0)], M1)) rfl).trans ?_
    exact e_iretz (hf := rfl)
/-- TermStrategies$Runner.goOnWith(II)V -/
noncomputable abbrev E_203 (d : Nat) : PQ → PO := evn (rnn k_203 lay none (pcl GG lay d) 0)
theorem q_203 (d : Nat) (l1 : Int32) (l2 : Int32) (M : PM) : pcl GG lay (d + 1) 203 [.ref 29, .int l1, .int l2] M = (kI (pcl GG lay d 65 [.ref 39, .int l1] M) fun r1 M1 => (wr (sI M1 29 (va_up (M1.1 29) 14 r1)) fun M2 => (kV (pcl GG lay d 66 [.ref 34, .int l1, .int l2] M2) fun M3 => (if l2 < (M3.1 29 14) then (rV M3) else (kV (pcl GG lay d 66 [.ref 34, .int l1, .int (M3.1 29 14)] M3) fun M4 => (kI (pcl GG lay d 237 [.ref 6, .int l2, .int (M4.1 29 14)] M4) fun r5 M5 => (wr (sI M5 29 (va_up (M5.1 29) 14 r5)) fun M6 => (rV M6)))))))) := by
  refine (pcl_un (mt := t_203) (by decide) rfl (Nat.le_of_ble_eq_true rfl)).trans ?_
  show E_203 d (0, [some (.ref 29), some (.int l1), some (.int l2)], [], M) = _
  refine (evn_adv 4 (q' := (6, [some (.ref 29), some (.int l1), some (.int l2)], [.int l1, .ref 39, .ref 29], M)) rfl).trans ?_
  refine (e_kI (q := (6, [some (.ref 29), some (.int l1), some (.int l2)], [.int l1, .ref 39, .ref 29])) (q2 := (9, [some (.ref 29), some (.int l1), some (.int l2)], [.ref 29])) (M := M) (o := (pcl GG lay d 65 [.ref 39, .int l1] M)) (hf := rfl) rfl rfl).trans ?_
  refine kI_in (fun r1 M1 => ?_)
  refine (evn_adv 1 (q' := (12, [some (.ref 29), some (.int l1), some (.int l2)], [], (sI M1 29 (va_up (M1.1 29) 14 r1)))) rfl).trans ?_
  refine wr_in (f := fun M2 => E_203 d (12, [some (.ref 29), some (.int l1), some (.int l2)], [], M2)) (fun M2 => ?_)
  refine (evn_adv 4 (q' := (18, [some (.ref 29), some (.int l1), some (.int l2)], [.int l2, .int l1, .ref 34], M2)) rfl).trans ?_
  refine (e_kV (q := (18, [some (.ref 29), some (.int l1), some (.int l2)], [.int l2, .int l1, .ref 34])) (q2 := (21, [some (.ref 29), some (.int l1), some (.int l2)], [])) (M := M2) (o := (pcl GG lay d 66 [.ref 34, .int l1, .int l2] M2)) (hf := rfl) rfl rfl).trans ?_
  refine kV_in (fun M3 => ?_)
  refine (evn_adv 3 (q' := (26, [some (.ref 29), some (.int l1), some (.int l2)], [.int (M3.1 29 14), .int l2], M3)) rfl).trans ?_
  refine (e_ic_lt (hf := rfl)).trans ?_
  refine ite_in ?_ ?_
  · exact evn_end 1 rfl
  · refine (evn_adv 5 (q' := (38, [some (.ref 29), some (.int l1), some (.int l2)], [.int (M3.1 29 14), .int l1, .ref 34], M3)) rfl).trans ?_
    refine (e_kV (q := (38, [some (.ref 29), some (.int l1), some (.int l2)], [.int (M3.1 29 14), .int l1, .ref 34])) (q2 := (41, [some (.ref 29), some (.int l1), some (.int l2)], [])) (M := M3) (o := (pcl GG lay d 66 [.ref 34, .int l1, .int (M3.1 29 14)] M3)) (hf := rfl) rfl rfl).trans ?_
    refine kV_in (fun M4 => ?_)
    refine (evn_adv 6 (q' := (51, [some (.ref 29), some (.int l1), some (.int l2)], [.int (M4.1 29 14), .int l2, .ref 6, .ref 29], M4)) rfl).trans ?_
    refine (e_kI (q := (51, [some (.ref 29), some (.int l1), some (.int l2)], [.int (M4.1 29 14), .int l2, .ref 6, .ref 29])) (q2 := (54, [some (.ref 29), some (.int l1), some (.int l2)], [.ref 29])) (M := M4) (o := (pcl GG lay d 237 [.ref 6, .int l2, .int (M4.1 29 14)] M4)) (hf := rfl) rfl rfl).trans ?_
    refine kI_in (fun r5 M5 => ?_)
    refine (evn_adv 1 (q' := (57, [some (.ref 29), some (.int l1), some (.int l2)], [], (sI M5 29 (va_up (M5.1 29) 14 r5)))) rfl).trans ?_
    refine wr_in (f := fun M6 => E_203 d (57, [some (.ref 29), some (.int l1), some (.int l2)], [], M6)) (fun M6 => ?_)
    exact evn_end 1 rfl
/-- TermStrategies$Runner.askWhole(IIII)V -/
noncomputable abbrev E_204 (d : Nat) : PQ → PO := evn (rnn k_204 lay none (pcl GG lay d) 0)
theorem q_204 (d : Nat) (l1 : Int32) (l2 : Int32) (l3 : Int32) (l4 : Int32) (M : PM) : pcl GG lay (d + 1) 204 [.ref 29, .int l1, .int l2, .int l3, .int l4] M = (kV (pcl GG lay d 203 [.ref 29, .int l1, .int l4] M) fun M1 => (kI (pcl GG lay d 65 [.ref 34, .int l1] M1) fun r2 M2 => (kL (pcl GG lay d 67 [.ref 35, .int l1] M2) fun r3 M3 => (kV (pcl GG lay d 201 [.ref 29, .int l1, .int l2, .int l3, .int r2, .long r3] M3) fun M4 => (rV M4))))) := by
  refine (pcl_un (mt := t_204) (by decide) rfl (Nat.le_of_ble_eq_true rfl)).trans ?_
  show E_204 d (0, [some (.ref 29), some (.int l1), some (.int l2), some (.int l3), some (.int l4)], [], M) = _
  refine (evn_adv 3 (q' := (4, [some (.ref 29), some (.int l1), some (.int l2), some (.int l3), some (.int l4)], [.int l4, .int l1, .ref 29], M)) rfl).trans ?_
  refine (e_kV (q := (4, [some (.ref 29), some (.int l1), some (.int l2), some (.int l3), some (.int l4)], [.int l4, .int l1, .ref 29])) (q2 := (7, [some (.ref 29), some (.int l1), some (.int l2), some (.int l3), some (.int l4)], [])) (M := M) (o := (pcl GG lay d 203 [.ref 29, .int l1, .int l4] M)) (hf := rfl) rfl rfl).trans ?_
  refine kV_in (fun M1 => ?_)
  refine (evn_adv 7 (q' := (16, [some (.ref 29), some (.int l1), some (.int l2), some (.int l3), some (.int l4)], [.int l1, .ref 34, .int l3, .int l2, .int l1, .ref 29], M1)) rfl).trans ?_
  refine (e_kI (q := (16, [some (.ref 29), some (.int l1), some (.int l2), some (.int l3), some (.int l4)], [.int l1, .ref 34, .int l3, .int l2, .int l1, .ref 29])) (q2 := (19, [some (.ref 29), some (.int l1), some (.int l2), some (.int l3), some (.int l4)], [.int l3, .int l2, .int l1, .ref 29])) (M := M1) (o := (pcl GG lay d 65 [.ref 34, .int l1] M1)) (hf := rfl) rfl rfl).trans ?_
  refine kI_in (fun r2 M2 => ?_)
  refine (evn_adv 3 (q' := (24, [some (.ref 29), some (.int l1), some (.int l2), some (.int l3), some (.int l4)], [.int l1, .ref 35, .int r2, .int l3, .int l2, .int l1, .ref 29], M2)) rfl).trans ?_
  refine (e_kL (q := (24, [some (.ref 29), some (.int l1), some (.int l2), some (.int l3), some (.int l4)], [.int l1, .ref 35, .int r2, .int l3, .int l2, .int l1, .ref 29])) (q2 := (27, [some (.ref 29), some (.int l1), some (.int l2), some (.int l3), some (.int l4)], [.int r2, .int l3, .int l2, .int l1, .ref 29])) (M := M2) (o := (pcl GG lay d 67 [.ref 35, .int l1] M2)) (hf := rfl) rfl rfl).trans ?_
  refine kL_in (fun r3 M3 => ?_)
  refine (e_kV (q := (27, [some (.ref 29), some (.int l1), some (.int l2), some (.int l3), some (.int l4)], [.long r3, .int r2, .int l3, .int l2, .int l1, .ref 29])) (q2 := (30, [some (.ref 29), some (.int l1), some (.int l2), some (.int l3), some (.int l4)], [])) (M := M3) (o := (pcl GG lay d 201 [.ref 29, .int l1, .int l2, .int l3, .int r2, .long r3] M3)) (hf := rfl) rfl rfl).trans ?_
  refine kV_in (fun M4 => ?_)
  exact evn_end 1 rfl
/-- TermStrategies$Runner.finish(II)V -/
noncomputable abbrev E_205 (d : Nat) : PQ → PO := evn (rnn k_205 lay none (pcl GG lay d) 0)
theorem q_205 (d : Nat) (l1 : Int32) (l2 : Int32) (M : PM) : pcl GG lay (d + 1) 205 [.ref 29, .int l1, .int l2] M = (if l2 = (jz 1) then (kI (pcl GG lay d 65 [.ref 38, .int l1] M) fun r1 M1 => (kV (pcl GG lay d 255 [.ref 30, .int r1] M1) fun M2 => (kV (pcl GG lay d 203 [.ref 29, .int l1, .int l2] M2) fun M3 => (kI (pcl GG lay d 65 [.ref 34, .int l1] M3) fun r4 M4 => (wr (sI M4 29 (va_up (M4.1 29) 15 r4)) fun M5 => (wr (sI M5 29 (va_up (M5.1 29) 11 l1)) fun M6 => (rV M6))))))) else (kV (pcl GG lay d 203 [.ref 29, .int l1, .int l2] M) fun M1 => (kI (pcl GG lay d 65 [.ref 34, .int l1] M1) fun r2 M2 => (wr (sI M2 29 (va_up (M2.1 29) 15 r2)) fun M3 => (wr (sI M3 29 (va_up (M3.1 29) 11 l1)) fun M4 => (rV M4)))))) := by
  refine (pcl_un (mt := t_205) (by decide) rfl (Nat.le_of_ble_eq_true rfl)).trans ?_
  show E_205 d (0, [some (.ref 29), some (.int l1), some (.int l2)], [], M) = _
  refine (evn_adv 2 (q' := (2, [some (.ref 29), some (.int l1), some (.int l2)], [.int (jz 1), .int l2], M)) rfl).trans ?_
  refine (e_ic_ne (hf := rfl)).trans ?_
  refine ite_in ?_ ?_
  · refine (evn_adv 5 (q' := (14, [some (.ref 29), some (.int l1), some (.int l2)], [.int l1, .ref 38, .ref 30], M)) rfl).trans ?_
    refine (e_kI (q := (14, [some (.ref 29), some (.int l1), some (.int l2)], [.int l1, .ref 38, .ref 30])) (q2 := (17, [some (.ref 29), some (.int l1), some (.int l2)], [.ref 30])) (M := M) (o := (pcl GG lay d 65 [.ref 38, .int l1] M)) (hf := rfl) rfl rfl).trans ?_
    refine kI_in (fun r1 M1 => ?_)
    refine (e_kV (q := (17, [some (.ref 29), some (.int l1), some (.int l2)], [.int r1, .ref 30])) (q2 := (20, [some (.ref 29), some (.int l1), some (.int l2)], [])) (M := M1) (o := (pcl GG lay d 255 [.ref 30, .int r1] M1)) (hf := rfl) rfl rfl).trans ?_
    refine kV_in (fun M2 => ?_)
    refine (evn_adv 3 (q' := (23, [some (.ref 29), some (.int l1), some (.int l2)], [.int l2, .int l1, .ref 29], M2)) rfl).trans ?_
    refine (e_kV (q := (23, [some (.ref 29), some (.int l1), some (.int l2)], [.int l2, .int l1, .ref 29])) (q2 := (26, [some (.ref 29), some (.int l1), some (.int l2)], [])) (M := M2) (o := (pcl GG lay d 203 [.ref 29, .int l1, .int l2] M2)) (hf := rfl) rfl rfl).trans ?_
    refine kV_in (fun M3 => ?_)
    refine (evn_adv 4 (q' := (32, [some (.ref 29), some (.int l1), some (.int l2)], [.int l1, .ref 34, .ref 29], M3)) rfl).trans ?_
    refine (e_kI (q := (32, [some (.ref 29), some (.int l1), some (.int l2)], [.int l1, .ref 34, .ref 29])) (q2 := (35, [some (.ref 29), some (.int l1), some (.int l2)], [.ref 29])) (M := M3) (o := (pcl GG lay d 65 [.ref 34, .int l1] M3)) (hf := rfl) rfl rfl).trans ?_
    refine kI_in (fun r4 M4 => ?_)
    refine (evn_adv 1 (q' := (38, [some (.ref 29), some (.int l1), some (.int l2)], [], (sI M4 29 (va_up (M4.1 29) 15 r4)))) rfl).trans ?_
    refine wr_in (f := fun M5 => E_205 d (38, [some (.ref 29), some (.int l1), some (.int l2)], [], M5)) (fun M5 => ?_)
    refine (evn_adv 2 (q' := (40, [some (.ref 29), some (.int l1), some (.int l2)], [.int l1, .ref 29], M5)) rfl).trans ?_
    refine (evn_adv 1 (q' := (43, [some (.ref 29), some (.int l1), some (.int l2)], [], (sI M5 29 (va_up (M5.1 29) 11 l1)))) rfl).trans ?_
    refine wr_in (f := fun M6 => E_205 d (43, [some (.ref 29), some (.int l1), some (.int l2)], [], M6)) (fun M6 => ?_)
    exact evn_end 1 rfl
  · refine (evn_adv 3 (q' := (23, [some (.ref 29), some (.int l1), some (.int l2)], [.int l2, .int l1, .ref 29], M)) rfl).trans ?_
    refine (e_kV (q := (23, [some (.ref 29), some (.int l1), some (.int l2)], [.int l2, .int l1, .ref 29])) (q2 := (26, [some (.ref 29), some (.int l1), some (.int l2)], [])) (M := M) (o := (pcl GG lay d 203 [.ref 29, .int l1, .int l2] M)) (hf := rfl) rfl rfl).trans ?_
    refine kV_in (fun M1 => ?_)
    refine (evn_adv 4 (q' := (32, [some (.ref 29), some (.int l1), some (.int l2)], [.int l1, .ref 34, .ref 29], M1)) rfl).trans ?_
    refine (e_kI (q := (32, [some (.ref 29), some (.int l1), some (.int l2)], [.int l1, .ref 34, .ref 29])) (q2 := (35, [some (.ref 29), some (.int l1), some (.int l2)], [.ref 29])) (M := M1) (o := (pcl GG lay d 65 [.ref 34, .int l1] M1)) (hf := rfl) rfl rfl).trans ?_
    refine kI_in (fun r2 M2 => ?_)
    refine (evn_adv 1 (q' := (38, [some (.ref 29), some (.int l1), some (.int l2)], [], (sI M2 29 (va_up (M2.1 29) 15 r2)))) rfl).trans ?_
    refine wr_in (f := fun M3 => E_205 d (38, [some (.ref 29), some (.int l1), some (.int l2)], [], M3)) (fun M3 => ?_)
    refine (evn_adv 2 (q' := (40, [some (.ref 29), some (.int l1), some (.int l2)], [.int l1, .ref 29], M3)) rfl).trans ?_
    refine (evn_adv 1 (q' := (43, [some (.ref 29), some (.int l1), some (.int l2)], [], (sI M3 29 (va_up (M3.1 29) 11 l1)))) rfl).trans ?_
    refine wr_in (f := fun M4 => E_205 d (43, [some (.ref 29), some (.int l1), some (.int l2)], [], M4)) (fun M4 => ?_)
    exact evn_end 1 rfl
