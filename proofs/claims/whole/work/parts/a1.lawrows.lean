/-! the law's own loop: its equations (laid by program) -/
noncomputable abbrev E_276 (nS : Nat) (xs : Nat → Int32) (d : Nat) : PQ → PO := evn (rnn k_276 lay (some (nS, xs)) (pcl GG lay d) 2)
set_option maxRecDepth 100000 in
theorem h_276_18 (nS : Nat) (xs : Nat → Int32) (d : Nat) (l3 : Int32) (M : PM) : E_276 nS xs d (18, [some (.ref (88)), some (.ref 0), some (.ref 52), some (.int l3)], [], M) = (oB (alen lay (some (nS, xs)) (88)) fun v1 => (if (v1 - (jn 6)) < l3 then (rZ (jn 1) M) else (oB (aldI lay (some (nS, xs)) M (88) l3) fun v2 => (if (v2 &&& (jn 63)) = (jn 0) then E_276 nS xs d (200, [some (.ref (88)), some (.ref 0), some (.ref 52), some (.int l3)], [], M) else (if (v2 &&& (jn 63)) = (jn 1) then E_276 nS xs d (243, [some (.ref (88)), some (.ref 0), some (.ref 52), some (.int l3)], [], M) else (if (v2 &&& (jn 63)) = (jn 2) then E_276 nS xs d (316, [some (.ref (88)), some (.ref 0), some (.ref 52), some (.int l3)], [], M) else (if (v2 &&& (jn 63)) = (jn 3) then E_276 nS xs d (379, [some (.ref (88)), some (.ref 0), some (.ref 52), some (.int l3)], [], M) else (if (v2 &&& (jn 63)) = (jn 4) then E_276 nS xs d (413, [some (.ref (88)), some (.ref 0), some (.ref 52), some (.int l3)], [], M) else (if (v2 &&& (jn 63)) = (jn 5) then E_276 nS xs d (446, [some (.ref (88)), some (.ref 0), some (.ref 52), some (.int l3)], [], M) else (if (v2 &&& (jn 63)) = (jn 6) then E_276 nS xs d (469, [some (.ref (88)), some (.ref 0), some (.ref 52), some (.int l3)], [], M) else (if (v2 &&& (jn 63)) = (jn 7) then E_276 nS xs d (502, [some (.ref (88)), some (.ref 0), some (.ref 52), some (.int l3)], [], M) else (if (v2 &&& (jn 63)) = (jn 8) then E_276 nS xs d (525, [some (.ref (88)), some (.ref 0), some (.ref 52), some (.int l3)], [], M) else (if (v2 &&& (jn 63)) = (jn 9) then E_276 nS xs d (538, [some (.ref (88)), some (.ref 0), some (.ref 52), some (.int l3)], [], M) else (if (v2 &&& (jn 63)) = (jn 10) then E_276 nS xs d (551, [some (.ref (88)), some (.ref 0), some (.ref 52), some (.int l3)], [], M) else (if (v2 &&& (jn 63)) = (jn 11) then E_276 nS xs d (600, [some (.ref (88)), some (.ref 0), some (.ref 52), some (.int l3)], [], M) else (if (v2 &&& (jn 63)) = (jn 12) then E_276 nS xs d (633, [some (.ref (88)), some (.ref 0), some (.ref 52), some (.int l3)], [], M) else (if (v2 &&& (jn 63)) = (jn 13) then E_276 nS xs d (666, [some (.ref (88)), some (.ref 0), some (.ref 52), some (.int l3)], [], M) else (if (v2 &&& (jn 63)) = (jn 14) then E_276 nS xs d (700, [some (.ref (88)), some (.ref 0), some (.ref 52), some (.int l3)], [], M) else (if (v2 &&& (jn 63)) = (jn 15) then E_276 nS xs d (733, [some (.ref (88)), some (.ref 0), some (.ref 52), some (.int l3)], [], M) else (if (v2 &&& (jn 63)) = (jn 16) then E_276 nS xs d (766, [some (.ref (88)), some (.ref 0), some (.ref 52), some (.int l3)], [], M) else (if (v2 &&& (jn 63)) = (jn 17) then E_276 nS xs d (825, [some (.ref (88)), some (.ref 0), some (.ref 52), some (.int l3)], [], M) else (if (v2 &&& (jn 63)) = (jn 18) then E_276 nS xs d (878, [some (.ref (88)), some (.ref 0), some (.ref 52), some (.int l3)], [], M) else (if (v2 &&& (jn 63)) = (jn 19) then E_276 nS xs d (921, [some (.ref (88)), some (.ref 0), some (.ref 52), some (.int l3)], [], M) else (if (v2 &&& (jn 63)) = (jn 20) then E_276 nS xs d (945, [some (.ref (88)), some (.ref 0), some (.ref 52), some (.int l3)], [], M) else (if (v2 &&& (jn 63)) = (jn 21) then E_276 nS xs d (988, [some (.ref (88)), some (.ref 0), some (.ref 52), some (.int l3)], [], M) else (if (v2 &&& (jn 63)) = (jn 22) then E_276 nS xs d (1031, [some (.ref (88)), some (.ref 0), some (.ref 52), some (.int l3)], [], M) else (if (v2 &&& (jn 63)) = (jn 23) then E_276 nS xs d (1064, [some (.ref (88)), some (.ref 0), some (.ref 52), some (.int l3)], [], M) else (if (v2 &&& (jn 63)) = (jn 24) then E_276 nS xs d (1097, [some (.ref (88)), some (.ref 0), some (.ref 52), some (.int l3)], [], M) else (if (v2 &&& (jn 63)) = (jn 25) then E_276 nS xs d (1140, [some (.ref (88)), some (.ref 0), some (.ref 52), some (.int l3)], [], M) else (if (v2 &&& (jn 63)) = (jn 26) then E_276 nS xs d (1163, [some (.ref (88)), some (.ref 0), some (.ref 52), some (.int l3)], [], M) else (if (v2 &&& (jn 63)) = (jn 27) then E_276 nS xs d (1187, [some (.ref (88)), some (.ref 0), some (.ref 52), some (.int l3)], [], M) else (if (v2 &&& (jn 63)) = (jn 28) then E_276 nS xs d (1220, [some (.ref (88)), some (.ref 0), some (.ref 52), some (.int l3)], [], M) else (if (v2 &&& (jn 63)) = (jn 29) then E_276 nS xs d (1253, [some (.ref (88)), some (.ref 0), some (.ref 52), some (.int l3)], [], M) else (if (v2 &&& (jn 63)) = (jn 30) then E_276 nS xs d (1286, [some (.ref (88)), some (.ref 0), some (.ref 52), some (.int l3)], [], M) else (if (v2 &&& (jn 63)) = (jn 31) then E_276 nS xs d (1339, [some (.ref (88)), some (.ref 0), some (.ref 52), some (.int l3)], [], M) else (if (v2 &&& (jn 63)) = (jn 32) then E_276 nS xs d (1382, [some (.ref (88)), some (.ref 0), some (.ref 52), some (.int l3)], [], M) else (if (v2 &&& (jn 63)) = (jn 33) then E_276 nS xs d (1425, [some (.ref (88)), some (.ref 0), some (.ref 52), some (.int l3)], [], M) else (if (v2 &&& (jn 63)) = (jn 34) then E_276 nS xs d (1448, [some (.ref (88)), some (.ref 0), some (.ref 52), some (.int l3)], [], M) else (if (v2 &&& (jn 63)) = (jn 35) then E_276 nS xs d (1471, [some (.ref (88)), some (.ref 0), some (.ref 52), some (.int l3)], [], M) else (if (v2 &&& (jn 63)) = (jn 36) then E_276 nS xs d (1484, [some (.ref (88)), some (.ref 0), some (.ref 52), some (.int l3)], [], M) else (if (v2 &&& (jn 63)) = (jn 37) then E_276 nS xs d (1497, [some (.ref (88)), some (.ref 0), some (.ref 52), some (.int l3)], [], M) else E_276 nS xs d (1520, [some (.ref (88)), some (.ref 0), some (.ref 52), some (.int l3)], [], M)))))))))))))))))))))))))))))))))))))))))) := by
  refine (evn_adv 2 (q' := (20, [some (.ref (88)), some (.ref 0), some (.ref 52), some (.int l3)], [.ref (88), .int l3], M)) rfl).trans ?_
  refine (e_oB (q := (20, [some (.ref (88)), some (.ref 0), some (.ref 52), some (.int l3)], [.ref (88), .int l3], M)) (o := (alen lay (some (nS, xs)) (88))) (f := fun v1 => (21, [some (.ref (88)), some (.ref 0), some (.ref 52), some (.int l3)], [.int v1, .int l3], M)) (hf := rfl) rfl).trans ?_
  refine oB_in (fun v1 => ?_)
  refine (evn_adv 2 (q' := (24, [some (.ref (88)), some (.ref 0), some (.ref 52), some (.int l3)], [.int (v1 - (jn 6)), .int l3], M)) rfl).trans ?_
  refine (e_ic_gt (hf := rfl)).trans ?_
  refine ite_in ?_ ?_
  · refine (evn_adv 1 (q' := (1527, [some (.ref (88)), some (.ref 0), some (.ref 52), some (.int l3)], [.int (jn 1)], M)) rfl).trans ?_
    exact e_iretz (hf := rfl)
  · refine (evn_adv 2 (q' := (29, [some (.ref (88)), some (.ref 0), some (.ref 52), some (.int l3)], [.int l3, .ref (88)], M)) rfl).trans ?_
    refine (e_oB (q := (29, [some (.ref (88)), some (.ref 0), some (.ref 52), some (.int l3)], [.int l3, .ref (88)], M)) (o := (aldI lay (some (nS, xs)) M (88) l3)) (f := fun v2 => (30, [some (.ref (88)), some (.ref 0), some (.ref 52), some (.int l3)], [.int v2], M)) (hf := rfl) rfl).trans ?_
    refine oB_in (fun v2 => ?_)
    refine (evn_adv 2 (q' := (33, [some (.ref (88)), some (.ref 0), some (.ref 52), some (.int l3)], [.int (v2 &&& (jn 63))], M)) rfl).trans ?_
    refine (e_sw0 (dflt := 1520) (lo := ((0 : Nat) : Int)) (ts := [200, 243, 316, 379, 413, 446, 469, 502, 525, 538, 551, 600, 633, 666, 700, 733, 766, 825, 878, 921, 945, 988, 1031, 1064, 1097, 1140, 1163, 1187, 1220, 1253, 1286, 1339, 1382, 1425, 1448, 1471, 1484, 1497]) (hf := rfl) rfl).trans ?_
    refine sw_cons (lo := 0) (F := fun pc => E_276 nS xs d (pc, [some (.ref (88)), some (.ref 0), some (.ref 52), some (.int l3)], [], M)) (by decide) ?_ ?_
    · rfl
    refine sw_cons (lo := 1) (F := fun pc => E_276 nS xs d (pc, [some (.ref (88)), some (.ref 0), some (.ref 52), some (.int l3)], [], M)) (by decide) ?_ ?_
    · rfl
    refine sw_cons (lo := 2) (F := fun pc => E_276 nS xs d (pc, [some (.ref (88)), some (.ref 0), some (.ref 52), some (.int l3)], [], M)) (by decide) ?_ ?_
    · rfl
    refine sw_cons (lo := 3) (F := fun pc => E_276 nS xs d (pc, [some (.ref (88)), some (.ref 0), some (.ref 52), some (.int l3)], [], M)) (by decide) ?_ ?_
    · rfl
    refine sw_cons (lo := 4) (F := fun pc => E_276 nS xs d (pc, [some (.ref (88)), some (.ref 0), some (.ref 52), some (.int l3)], [], M)) (by decide) ?_ ?_
    · rfl
    refine sw_cons (lo := 5) (F := fun pc => E_276 nS xs d (pc, [some (.ref (88)), some (.ref 0), some (.ref 52), some (.int l3)], [], M)) (by decide) ?_ ?_
    · rfl
    refine sw_cons (lo := 6) (F := fun pc => E_276 nS xs d (pc, [some (.ref (88)), some (.ref 0), some (.ref 52), some (.int l3)], [], M)) (by decide) ?_ ?_
    · rfl
    refine sw_cons (lo := 7) (F := fun pc => E_276 nS xs d (pc, [some (.ref (88)), some (.ref 0), some (.ref 52), some (.int l3)], [], M)) (by decide) ?_ ?_
    · rfl
    refine sw_cons (lo := 8) (F := fun pc => E_276 nS xs d (pc, [some (.ref (88)), some (.ref 0), some (.ref 52), some (.int l3)], [], M)) (by decide) ?_ ?_
    · rfl
    refine sw_cons (lo := 9) (F := fun pc => E_276 nS xs d (pc, [some (.ref (88)), some (.ref 0), some (.ref 52), some (.int l3)], [], M)) (by decide) ?_ ?_
    · rfl
    refine sw_cons (lo := 10) (F := fun pc => E_276 nS xs d (pc, [some (.ref (88)), some (.ref 0), some (.ref 52), some (.int l3)], [], M)) (by decide) ?_ ?_
    · rfl
    refine sw_cons (lo := 11) (F := fun pc => E_276 nS xs d (pc, [some (.ref (88)), some (.ref 0), some (.ref 52), some (.int l3)], [], M)) (by decide) ?_ ?_
    · rfl
    refine sw_cons (lo := 12) (F := fun pc => E_276 nS xs d (pc, [some (.ref (88)), some (.ref 0), some (.ref 52), some (.int l3)], [], M)) (by decide) ?_ ?_
    · rfl
    refine sw_cons (lo := 13) (F := fun pc => E_276 nS xs d (pc, [some (.ref (88)), some (.ref 0), some (.ref 52), some (.int l3)], [], M)) (by decide) ?_ ?_
    · rfl
    refine sw_cons (lo := 14) (F := fun pc => E_276 nS xs d (pc, [some (.ref (88)), some (.ref 0), some (.ref 52), some (.int l3)], [], M)) (by decide) ?_ ?_
    · rfl
    refine sw_cons (lo := 15) (F := fun pc => E_276 nS xs d (pc, [some (.ref (88)), some (.ref 0), some (.ref 52), some (.int l3)], [], M)) (by decide) ?_ ?_
    · rfl
    refine sw_cons (lo := 16) (F := fun pc => E_276 nS xs d (pc, [some (.ref (88)), some (.ref 0), some (.ref 52), some (.int l3)], [], M)) (by decide) ?_ ?_
    · rfl
    refine sw_cons (lo := 17) (F := fun pc => E_276 nS xs d (pc, [some (.ref (88)), some (.ref 0), some (.ref 52), some (.int l3)], [], M)) (by decide) ?_ ?_
    · rfl
    refine sw_cons (lo := 18) (F := fun pc => E_276 nS xs d (pc, [some (.ref (88)), some (.ref 0), some (.ref 52), some (.int l3)], [], M)) (by decide) ?_ ?_
    · rfl
    refine sw_cons (lo := 19) (F := fun pc => E_276 nS xs d (pc, [some (.ref (88)), some (.ref 0), some (.ref 52), some (.int l3)], [], M)) (by decide) ?_ ?_
    · rfl
    refine sw_cons (lo := 20) (F := fun pc => E_276 nS xs d (pc, [some (.ref (88)), some (.ref 0), some (.ref 52), some (.int l3)], [], M)) (by decide) ?_ ?_
    · rfl
    refine sw_cons (lo := 21) (F := fun pc => E_276 nS xs d (pc, [some (.ref (88)), some (.ref 0), some (.ref 52), some (.int l3)], [], M)) (by decide) ?_ ?_
    · rfl
    refine sw_cons (lo := 22) (F := fun pc => E_276 nS xs d (pc, [some (.ref (88)), some (.ref 0), some (.ref 52), some (.int l3)], [], M)) (by decide) ?_ ?_
    · rfl
    refine sw_cons (lo := 23) (F := fun pc => E_276 nS xs d (pc, [some (.ref (88)), some (.ref 0), some (.ref 52), some (.int l3)], [], M)) (by decide) ?_ ?_
    · rfl
    refine sw_cons (lo := 24) (F := fun pc => E_276 nS xs d (pc, [some (.ref (88)), some (.ref 0), some (.ref 52), some (.int l3)], [], M)) (by decide) ?_ ?_
    · rfl
    refine sw_cons (lo := 25) (F := fun pc => E_276 nS xs d (pc, [some (.ref (88)), some (.ref 0), some (.ref 52), some (.int l3)], [], M)) (by decide) ?_ ?_
    · rfl
    refine sw_cons (lo := 26) (F := fun pc => E_276 nS xs d (pc, [some (.ref (88)), some (.ref 0), some (.ref 52), some (.int l3)], [], M)) (by decide) ?_ ?_
    · rfl
    refine sw_cons (lo := 27) (F := fun pc => E_276 nS xs d (pc, [some (.ref (88)), some (.ref 0), some (.ref 52), some (.int l3)], [], M)) (by decide) ?_ ?_
    · rfl
    refine sw_cons (lo := 28) (F := fun pc => E_276 nS xs d (pc, [some (.ref (88)), some (.ref 0), some (.ref 52), some (.int l3)], [], M)) (by decide) ?_ ?_
    · rfl
    refine sw_cons (lo := 29) (F := fun pc => E_276 nS xs d (pc, [some (.ref (88)), some (.ref 0), some (.ref 52), some (.int l3)], [], M)) (by decide) ?_ ?_
    · rfl
    refine sw_cons (lo := 30) (F := fun pc => E_276 nS xs d (pc, [some (.ref (88)), some (.ref 0), some (.ref 52), some (.int l3)], [], M)) (by decide) ?_ ?_
    · rfl
    refine sw_cons (lo := 31) (F := fun pc => E_276 nS xs d (pc, [some (.ref (88)), some (.ref 0), some (.ref 52), some (.int l3)], [], M)) (by decide) ?_ ?_
    · rfl
    refine sw_cons (lo := 32) (F := fun pc => E_276 nS xs d (pc, [some (.ref (88)), some (.ref 0), some (.ref 52), some (.int l3)], [], M)) (by decide) ?_ ?_
    · rfl
    refine sw_cons (lo := 33) (F := fun pc => E_276 nS xs d (pc, [some (.ref (88)), some (.ref 0), some (.ref 52), some (.int l3)], [], M)) (by decide) ?_ ?_
    · rfl
    refine sw_cons (lo := 34) (F := fun pc => E_276 nS xs d (pc, [some (.ref (88)), some (.ref 0), some (.ref 52), some (.int l3)], [], M)) (by decide) ?_ ?_
    · rfl
    refine sw_cons (lo := 35) (F := fun pc => E_276 nS xs d (pc, [some (.ref (88)), some (.ref 0), some (.ref 52), some (.int l3)], [], M)) (by decide) ?_ ?_
    · rfl
    refine sw_cons (lo := 36) (F := fun pc => E_276 nS xs d (pc, [some (.ref (88)), some (.ref 0), some (.ref 52), some (.int l3)], [], M)) (by decide) ?_ ?_
    · rfl
    refine sw_cons (lo := 37) (F := fun pc => E_276 nS xs d (pc, [some (.ref (88)), some (.ref 0), some (.ref 52), some (.int l3)], [], M)) (by decide) ?_ ?_
    · rfl
    show E_276 nS xs d (1520, [some (.ref (88)), some (.ref 0), some (.ref 52), some (.int l3)], [], M) = _
    rfl
set_option maxRecDepth 100000 in
theorem h_276_200 (nS : Nat) (xs : Nat → Int32) (d : Nat) (l3 : Int32) (M : PM) : E_276 nS xs d (200, [some (.ref (88)), some (.ref 0), some (.ref 52), some (.int l3)], [], M) = (oB (aldI lay (some (nS, xs)) M (88) (l3 + (jn 1))) fun v1 => (oB (aldI lay (some (nS, xs)) M (88) (l3 + (jn 2))) fun v2 => (oB (aldI lay (some (nS, xs)) M (88) (l3 + (jn 3))) fun v3 => (kI (pcl GG lay d 3 [.ref 0, .int v1, .int v2, .int v3] M) fun r4 M4 => (oB (aldI lay (some (nS, xs)) M4 (88) (l3 + (jn 1))) fun v5 => (oB (aldI lay (some (nS, xs)) M4 (88) (l3 + (jn 2))) fun v6 => (oB (aldI lay (some (nS, xs)) M4 (88) (l3 + (jn 3))) fun v7 => (kI (pcl GG lay d 80 [.ref 52, .int v5, .int v6, .int v7] M4) fun r8 M8 => (if r4 = r8 then E_276 nS xs d (1520, [some (.ref (88)), some (.ref 0), some (.ref 52), some (.int l3)], [], M8) else (rZ (jn 0) M8)))))))))) := by
  refine (evn_adv 5 (q' := (205, [some (.ref (88)), some (.ref 0), some (.ref 52), some (.int l3)], [.int (l3 + (jn 1)), .ref (88), .ref 0], M)) rfl).trans ?_
  refine (e_oB (q := (205, [some (.ref (88)), some (.ref 0), some (.ref 52), some (.int l3)], [.int (l3 + (jn 1)), .ref (88), .ref 0], M)) (o := (aldI lay (some (nS, xs)) M (88) (l3 + (jn 1)))) (f := fun v1 => (206, [some (.ref (88)), some (.ref 0), some (.ref 52), some (.int l3)], [.int v1, .ref 0], M)) (hf := rfl) rfl).trans ?_
  refine oB_in (fun v1 => ?_)
  refine (evn_adv 4 (q' := (210, [some (.ref (88)), some (.ref 0), some (.ref 52), some (.int l3)], [.int (l3 + (jn 2)), .ref (88), .int v1, .ref 0], M)) rfl).trans ?_
  refine (e_oB (q := (210, [some (.ref (88)), some (.ref 0), some (.ref 52), some (.int l3)], [.int (l3 + (jn 2)), .ref (88), .int v1, .ref 0], M)) (o := (aldI lay (some (nS, xs)) M (88) (l3 + (jn 2)))) (f := fun v2 => (211, [some (.ref (88)), some (.ref 0), some (.ref 52), some (.int l3)], [.int v2, .int v1, .ref 0], M)) (hf := rfl) rfl).trans ?_
  refine oB_in (fun v2 => ?_)
  refine (evn_adv 4 (q' := (215, [some (.ref (88)), some (.ref 0), some (.ref 52), some (.int l3)], [.int (l3 + (jn 3)), .ref (88), .int v2, .int v1, .ref 0], M)) rfl).trans ?_
  refine (e_oB (q := (215, [some (.ref (88)), some (.ref 0), some (.ref 52), some (.int l3)], [.int (l3 + (jn 3)), .ref (88), .int v2, .int v1, .ref 0], M)) (o := (aldI lay (some (nS, xs)) M (88) (l3 + (jn 3)))) (f := fun v3 => (216, [some (.ref (88)), some (.ref 0), some (.ref 52), some (.int l3)], [.int v3, .int v2, .int v1, .ref 0], M)) (hf := rfl) rfl).trans ?_
  refine oB_in (fun v3 => ?_)
  refine (e_kI (q := (216, [some (.ref (88)), some (.ref 0), some (.ref 52), some (.int l3)], [.int v3, .int v2, .int v1, .ref 0])) (q2 := (219, [some (.ref (88)), some (.ref 0), some (.ref 52), some (.int l3)], [])) (M := M) (o := (pcl GG lay d 3 [.ref 0, .int v1, .int v2, .int v3] M)) (hf := rfl) rfl rfl).trans ?_
  refine kI_in (fun r4 M4 => ?_)
  refine (evn_adv 5 (q' := (224, [some (.ref (88)), some (.ref 0), some (.ref 52), some (.int l3)], [.int (l3 + (jn 1)), .ref (88), .ref 52, .int r4], M4)) rfl).trans ?_
  refine (e_oB (q := (224, [some (.ref (88)), some (.ref 0), some (.ref 52), some (.int l3)], [.int (l3 + (jn 1)), .ref (88), .ref 52, .int r4], M4)) (o := (aldI lay (some (nS, xs)) M4 (88) (l3 + (jn 1)))) (f := fun v5 => (225, [some (.ref (88)), some (.ref 0), some (.ref 52), some (.int l3)], [.int v5, .ref 52, .int r4], M4)) (hf := rfl) rfl).trans ?_
  refine oB_in (fun v5 => ?_)
  refine (evn_adv 4 (q' := (229, [some (.ref (88)), some (.ref 0), some (.ref 52), some (.int l3)], [.int (l3 + (jn 2)), .ref (88), .int v5, .ref 52, .int r4], M4)) rfl).trans ?_
  refine (e_oB (q := (229, [some (.ref (88)), some (.ref 0), some (.ref 52), some (.int l3)], [.int (l3 + (jn 2)), .ref (88), .int v5, .ref 52, .int r4], M4)) (o := (aldI lay (some (nS, xs)) M4 (88) (l3 + (jn 2)))) (f := fun v6 => (230, [some (.ref (88)), some (.ref 0), some (.ref 52), some (.int l3)], [.int v6, .int v5, .ref 52, .int r4], M4)) (hf := rfl) rfl).trans ?_
  refine oB_in (fun v6 => ?_)
  refine (evn_adv 4 (q' := (234, [some (.ref (88)), some (.ref 0), some (.ref 52), some (.int l3)], [.int (l3 + (jn 3)), .ref (88), .int v6, .int v5, .ref 52, .int r4], M4)) rfl).trans ?_
  refine (e_oB (q := (234, [some (.ref (88)), some (.ref 0), some (.ref 52), some (.int l3)], [.int (l3 + (jn 3)), .ref (88), .int v6, .int v5, .ref 52, .int r4], M4)) (o := (aldI lay (some (nS, xs)) M4 (88) (l3 + (jn 3)))) (f := fun v7 => (235, [some (.ref (88)), some (.ref 0), some (.ref 52), some (.int l3)], [.int v7, .int v6, .int v5, .ref 52, .int r4], M4)) (hf := rfl) rfl).trans ?_
  refine oB_in (fun v7 => ?_)
  refine (e_kI (q := (235, [some (.ref (88)), some (.ref 0), some (.ref 52), some (.int l3)], [.int v7, .int v6, .int v5, .ref 52, .int r4])) (q2 := (238, [some (.ref (88)), some (.ref 0), some (.ref 52), some (.int l3)], [.int r4])) (M := M4) (o := (pcl GG lay d 80 [.ref 52, .int v5, .int v6, .int v7] M4)) (hf := rfl) rfl rfl).trans ?_
  refine kI_in (fun r8 M8 => ?_)
  refine (e_ic_eq (hf := rfl)).trans ?_
  refine ite_in ?_ ?_
  · rfl
  · refine (evn_adv 1 (q' := (242, [some (.ref (88)), some (.ref 0), some (.ref 52), some (.int l3)], [.int (jn 0)], M8)) rfl).trans ?_
    exact e_iretz (hf := rfl)
set_option maxRecDepth 100000 in
theorem h_276_243 (nS : Nat) (xs : Nat → Int32) (d : Nat) (l3 : Int32) (M : PM) : E_276 nS xs d (243, [some (.ref (88)), some (.ref 0), some (.ref 52), some (.int l3)], [], M) = (oB (aldI lay (some (nS, xs)) M (88) (l3 + (jn 1))) fun v1 => (oB (aldI lay (some (nS, xs)) M (88) (l3 + (jn 2))) fun v2 => (oB (aldI lay (some (nS, xs)) M (88) (l3 + (jn 3))) fun v3 => (oB (aldI lay (some (nS, xs)) M (88) (l3 + (jn 4))) fun v4 => (kI (pcl GG lay d 4 [.ref 0, .int v1, .int v2, .long (((v3.toInt64) <<< ((jn 32).toInt64 &&& 63)) ||| ((v4.toInt64) &&& (Int64.ofInt 4294967295)))] M) fun r5 M5 => (oB (aldI lay (some (nS, xs)) M5 (88) (l3 + (jn 1))) fun v6 => (oB (aldI lay (some (nS, xs)) M5 (88) (l3 + (jn 2))) fun v7 => (oB (aldI lay (some (nS, xs)) M5 (88) (l3 + (jn 3))) fun v8 => (oB (aldI lay (some (nS, xs)) M5 (88) (l3 + (jn 4))) fun v9 => (kI (pcl GG lay d 82 [.ref 52, .int v6, .int v7, .long (((v8.toInt64) <<< ((jn 32).toInt64 &&& 63)) ||| ((v9.toInt64) &&& (Int64.ofInt 4294967295)))] M5) fun r10 M10 => (if r5 = r10 then E_276 nS xs d (1520, [some (.ref (88)), some (.ref 0), some (.ref 52), some (.int l3)], [], M10) else (rZ (jn 0) M10)))))))))))) := by
  refine (evn_adv 5 (q' := (248, [some (.ref (88)), some (.ref 0), some (.ref 52), some (.int l3)], [.int (l3 + (jn 1)), .ref (88), .ref 0], M)) rfl).trans ?_
  refine (e_oB (q := (248, [some (.ref (88)), some (.ref 0), some (.ref 52), some (.int l3)], [.int (l3 + (jn 1)), .ref (88), .ref 0], M)) (o := (aldI lay (some (nS, xs)) M (88) (l3 + (jn 1)))) (f := fun v1 => (249, [some (.ref (88)), some (.ref 0), some (.ref 52), some (.int l3)], [.int v1, .ref 0], M)) (hf := rfl) rfl).trans ?_
  refine oB_in (fun v1 => ?_)
  refine (evn_adv 4 (q' := (253, [some (.ref (88)), some (.ref 0), some (.ref 52), some (.int l3)], [.int (l3 + (jn 2)), .ref (88), .int v1, .ref 0], M)) rfl).trans ?_
  refine (e_oB (q := (253, [some (.ref (88)), some (.ref 0), some (.ref 52), some (.int l3)], [.int (l3 + (jn 2)), .ref (88), .int v1, .ref 0], M)) (o := (aldI lay (some (nS, xs)) M (88) (l3 + (jn 2)))) (f := fun v2 => (254, [some (.ref (88)), some (.ref 0), some (.ref 52), some (.int l3)], [.int v2, .int v1, .ref 0], M)) (hf := rfl) rfl).trans ?_
  refine oB_in (fun v2 => ?_)
  refine (evn_adv 4 (q' := (258, [some (.ref (88)), some (.ref 0), some (.ref 52), some (.int l3)], [.int (l3 + (jn 3)), .ref (88), .int v2, .int v1, .ref 0], M)) rfl).trans ?_
  refine (e_oB (q := (258, [some (.ref (88)), some (.ref 0), some (.ref 52), some (.int l3)], [.int (l3 + (jn 3)), .ref (88), .int v2, .int v1, .ref 0], M)) (o := (aldI lay (some (nS, xs)) M (88) (l3 + (jn 3)))) (f := fun v3 => (259, [some (.ref (88)), some (.ref 0), some (.ref 52), some (.int l3)], [.int v3, .int v2, .int v1, .ref 0], M)) (hf := rfl) rfl).trans ?_
  refine oB_in (fun v3 => ?_)
  refine (evn_adv 7 (q' := (267, [some (.ref (88)), some (.ref 0), some (.ref 52), some (.int l3)], [.int (l3 + (jn 4)), .ref (88), .long ((v3.toInt64) <<< ((jn 32).toInt64 &&& 63)), .int v2, .int v1, .ref 0], M)) rfl).trans ?_
  refine (e_oB (q := (267, [some (.ref (88)), some (.ref 0), some (.ref 52), some (.int l3)], [.int (l3 + (jn 4)), .ref (88), .long ((v3.toInt64) <<< ((jn 32).toInt64 &&& 63)), .int v2, .int v1, .ref 0], M)) (o := (aldI lay (some (nS, xs)) M (88) (l3 + (jn 4)))) (f := fun v4 => (268, [some (.ref (88)), some (.ref 0), some (.ref 52), some (.int l3)], [.int v4, .long ((v3.toInt64) <<< ((jn 32).toInt64 &&& 63)), .int v2, .int v1, .ref 0], M)) (hf := rfl) rfl).trans ?_
  refine oB_in (fun v4 => ?_)
  refine (evn_adv 4 (q' := (274, [some (.ref (88)), some (.ref 0), some (.ref 52), some (.int l3)], [.long (((v3.toInt64) <<< ((jn 32).toInt64 &&& 63)) ||| ((v4.toInt64) &&& (Int64.ofInt 4294967295))), .int v2, .int v1, .ref 0], M)) rfl).trans ?_
  refine (e_kI (q := (274, [some (.ref (88)), some (.ref 0), some (.ref 52), some (.int l3)], [.long (((v3.toInt64) <<< ((jn 32).toInt64 &&& 63)) ||| ((v4.toInt64) &&& (Int64.ofInt 4294967295))), .int v2, .int v1, .ref 0])) (q2 := (277, [some (.ref (88)), some (.ref 0), some (.ref 52), some (.int l3)], [])) (M := M) (o := (pcl GG lay d 4 [.ref 0, .int v1, .int v2, .long (((v3.toInt64) <<< ((jn 32).toInt64 &&& 63)) ||| ((v4.toInt64) &&& (Int64.ofInt 4294967295)))] M)) (hf := rfl) rfl rfl).trans ?_
  refine kI_in (fun r5 M5 => ?_)
  refine (evn_adv 5 (q' := (282, [some (.ref (88)), some (.ref 0), some (.ref 52), some (.int l3)], [.int (l3 + (jn 1)), .ref (88), .ref 52, .int r5], M5)) rfl).trans ?_
  refine (e_oB (q := (282, [some (.ref (88)), some (.ref 0), some (.ref 52), some (.int l3)], [.int (l3 + (jn 1)), .ref (88), .ref 52, .int r5], M5)) (o := (aldI lay (some (nS, xs)) M5 (88) (l3 + (jn 1)))) (f := fun v6 => (283, [some (.ref (88)), some (.ref 0), some (.ref 52), some (.int l3)], [.int v6, .ref 52, .int r5], M5)) (hf := rfl) rfl).trans ?_
  refine oB_in (fun v6 => ?_)
  refine (evn_adv 4 (q' := (287, [some (.ref (88)), some (.ref 0), some (.ref 52), some (.int l3)], [.int (l3 + (jn 2)), .ref (88), .int v6, .ref 52, .int r5], M5)) rfl).trans ?_
  refine (e_oB (q := (287, [some (.ref (88)), some (.ref 0), some (.ref 52), some (.int l3)], [.int (l3 + (jn 2)), .ref (88), .int v6, .ref 52, .int r5], M5)) (o := (aldI lay (some (nS, xs)) M5 (88) (l3 + (jn 2)))) (f := fun v7 => (288, [some (.ref (88)), some (.ref 0), some (.ref 52), some (.int l3)], [.int v7, .int v6, .ref 52, .int r5], M5)) (hf := rfl) rfl).trans ?_
  refine oB_in (fun v7 => ?_)
  refine (evn_adv 4 (q' := (292, [some (.ref (88)), some (.ref 0), some (.ref 52), some (.int l3)], [.int (l3 + (jn 3)), .ref (88), .int v7, .int v6, .ref 52, .int r5], M5)) rfl).trans ?_
  refine (e_oB (q := (292, [some (.ref (88)), some (.ref 0), some (.ref 52), some (.int l3)], [.int (l3 + (jn 3)), .ref (88), .int v7, .int v6, .ref 52, .int r5], M5)) (o := (aldI lay (some (nS, xs)) M5 (88) (l3 + (jn 3)))) (f := fun v8 => (293, [some (.ref (88)), some (.ref 0), some (.ref 52), some (.int l3)], [.int v8, .int v7, .int v6, .ref 52, .int r5], M5)) (hf := rfl) rfl).trans ?_
  refine oB_in (fun v8 => ?_)
  refine (evn_adv 7 (q' := (301, [some (.ref (88)), some (.ref 0), some (.ref 52), some (.int l3)], [.int (l3 + (jn 4)), .ref (88), .long ((v8.toInt64) <<< ((jn 32).toInt64 &&& 63)), .int v7, .int v6, .ref 52, .int r5], M5)) rfl).trans ?_
  refine (e_oB (q := (301, [some (.ref (88)), some (.ref 0), some (.ref 52), some (.int l3)], [.int (l3 + (jn 4)), .ref (88), .long ((v8.toInt64) <<< ((jn 32).toInt64 &&& 63)), .int v7, .int v6, .ref 52, .int r5], M5)) (o := (aldI lay (some (nS, xs)) M5 (88) (l3 + (jn 4)))) (f := fun v9 => (302, [some (.ref (88)), some (.ref 0), some (.ref 52), some (.int l3)], [.int v9, .long ((v8.toInt64) <<< ((jn 32).toInt64 &&& 63)), .int v7, .int v6, .ref 52, .int r5], M5)) (hf := rfl) rfl).trans ?_
  refine oB_in (fun v9 => ?_)
  refine (evn_adv 4 (q' := (308, [some (.ref (88)), some (.ref 0), some (.ref 52), some (.int l3)], [.long (((v8.toInt64) <<< ((jn 32).toInt64 &&& 63)) ||| ((v9.toInt64) &&& (Int64.ofInt 4294967295))), .int v7, .int v6, .ref 52, .int r5], M5)) rfl).trans ?_
  refine (e_kI (q := (308, [some (.ref (88)), some (.ref 0), some (.ref 52), some (.int l3)], [.long (((v8.toInt64) <<< ((jn 32).toInt64 &&& 63)) ||| ((v9.toInt64) &&& (Int64.ofInt 4294967295))), .int v7, .int v6, .ref 52, .int r5])) (q2 := (311, [some (.ref (88)), some (.ref 0), some (.ref 52), some (.int l3)], [.int r5])) (M := M5) (o := (pcl GG lay d 82 [.ref 52, .int v6, .int v7, .long (((v8.toInt64) <<< ((jn 32).toInt64 &&& 63)) ||| ((v9.toInt64) &&& (Int64.ofInt 4294967295)))] M5)) (hf := rfl) rfl rfl).trans ?_
  refine kI_in (fun r10 M10 => ?_)
  refine (e_ic_eq (hf := rfl)).trans ?_
  refine ite_in ?_ ?_
  · rfl
  · refine (evn_adv 1 (q' := (315, [some (.ref (88)), some (.ref 0), some (.ref 52), some (.int l3)], [.int (jn 0)], M10)) rfl).trans ?_
    exact e_iretz (hf := rfl)
set_option maxRecDepth 100000 in
theorem h_276_316 (nS : Nat) (xs : Nat → Int32) (d : Nat) (l3 : Int32) (M : PM) : E_276 nS xs d (316, [some (.ref (88)), some (.ref 0), some (.ref 52), some (.int l3)], [], M) = (oB (aldI lay (some (nS, xs)) M (88) (l3 + (jn 1))) fun v1 => (oB (aldI lay (some (nS, xs)) M (88) (l3 + (jn 2))) fun v2 => (oB (aldI lay (some (nS, xs)) M (88) (l3 + (jn 3))) fun v3 => (oB (aldI lay (some (nS, xs)) M (88) (l3 + (jn 4))) fun v4 => (oB (aldI lay (some (nS, xs)) M (88) (l3 + (jn 5))) fun v5 => (kI (pcl GG lay d 5 [.ref 0, .int v1, .int v2, .int v3, .int v4, .int v5] M) fun r6 M6 => (oB (aldI lay (some (nS, xs)) M6 (88) (l3 + (jn 1))) fun v7 => (oB (aldI lay (some (nS, xs)) M6 (88) (l3 + (jn 2))) fun v8 => (oB (aldI lay (some (nS, xs)) M6 (88) (l3 + (jn 3))) fun v9 => (oB (aldI lay (some (nS, xs)) M6 (88) (l3 + (jn 4))) fun v10 => (oB (aldI lay (some (nS, xs)) M6 (88) (l3 + (jn 5))) fun v11 => (kI (pcl GG lay d 83 [.ref 52, .int v7, .int v8, .int v9, .int v10, .int v11] M6) fun r12 M12 => (if r6 = r12 then E_276 nS xs d (1520, [some (.ref (88)), some (.ref 0), some (.ref 52), some (.int l3)], [], M12) else (rZ (jn 0) M12)))))))))))))) := by
  refine (evn_adv 5 (q' := (321, [some (.ref (88)), some (.ref 0), some (.ref 52), some (.int l3)], [.int (l3 + (jn 1)), .ref (88), .ref 0], M)) rfl).trans ?_
  refine (e_oB (q := (321, [some (.ref (88)), some (.ref 0), some (.ref 52), some (.int l3)], [.int (l3 + (jn 1)), .ref (88), .ref 0], M)) (o := (aldI lay (some (nS, xs)) M (88) (l3 + (jn 1)))) (f := fun v1 => (322, [some (.ref (88)), some (.ref 0), some (.ref 52), some (.int l3)], [.int v1, .ref 0], M)) (hf := rfl) rfl).trans ?_
  refine oB_in (fun v1 => ?_)
  refine (evn_adv 4 (q' := (326, [some (.ref (88)), some (.ref 0), some (.ref 52), some (.int l3)], [.int (l3 + (jn 2)), .ref (88), .int v1, .ref 0], M)) rfl).trans ?_
  refine (e_oB (q := (326, [some (.ref (88)), some (.ref 0), some (.ref 52), some (.int l3)], [.int (l3 + (jn 2)), .ref (88), .int v1, .ref 0], M)) (o := (aldI lay (some (nS, xs)) M (88) (l3 + (jn 2)))) (f := fun v2 => (327, [some (.ref (88)), some (.ref 0), some (.ref 52), some (.int l3)], [.int v2, .int v1, .ref 0], M)) (hf := rfl) rfl).trans ?_
  refine oB_in (fun v2 => ?_)
  refine (evn_adv 4 (q' := (331, [some (.ref (88)), some (.ref 0), some (.ref 52), some (.int l3)], [.int (l3 + (jn 3)), .ref (88), .int v2, .int v1, .ref 0], M)) rfl).trans ?_
  refine (e_oB (q := (331, [some (.ref (88)), some (.ref 0), some (.ref 52), some (.int l3)], [.int (l3 + (jn 3)), .ref (88), .int v2, .int v1, .ref 0], M)) (o := (aldI lay (some (nS, xs)) M (88) (l3 + (jn 3)))) (f := fun v3 => (332, [some (.ref (88)), some (.ref 0), some (.ref 52), some (.int l3)], [.int v3, .int v2, .int v1, .ref 0], M)) (hf := rfl) rfl).trans ?_
  refine oB_in (fun v3 => ?_)
  refine (evn_adv 4 (q' := (336, [some (.ref (88)), some (.ref 0), some (.ref 52), some (.int l3)], [.int (l3 + (jn 4)), .ref (88), .int v3, .int v2, .int v1, .ref 0], M)) rfl).trans ?_
  refine (e_oB (q := (336, [some (.ref (88)), some (.ref 0), some (.ref 52), some (.int l3)], [.int (l3 + (jn 4)), .ref (88), .int v3, .int v2, .int v1, .ref 0], M)) (o := (aldI lay (some (nS, xs)) M (88) (l3 + (jn 4)))) (f := fun v4 => (337, [some (.ref (88)), some (.ref 0), some (.ref 52), some (.int l3)], [.int v4, .int v3, .int v2, .int v1, .ref 0], M)) (hf := rfl) rfl).trans ?_
  refine oB_in (fun v4 => ?_)
  refine (evn_adv 4 (q' := (341, [some (.ref (88)), some (.ref 0), some (.ref 52), some (.int l3)], [.int (l3 + (jn 5)), .ref (88), .int v4, .int v3, .int v2, .int v1, .ref 0], M)) rfl).trans ?_
  refine (e_oB (q := (341, [some (.ref (88)), some (.ref 0), some (.ref 52), some (.int l3)], [.int (l3 + (jn 5)), .ref (88), .int v4, .int v3, .int v2, .int v1, .ref 0], M)) (o := (aldI lay (some (nS, xs)) M (88) (l3 + (jn 5)))) (f := fun v5 => (342, [some (.ref (88)), some (.ref 0), some (.ref 52), some (.int l3)], [.int v5, .int v4, .int v3, .int v2, .int v1, .ref 0], M)) (hf := rfl) rfl).trans ?_
  refine oB_in (fun v5 => ?_)
  refine (e_kI (q := (342, [some (.ref (88)), some (.ref 0), some (.ref 52), some (.int l3)], [.int v5, .int v4, .int v3, .int v2, .int v1, .ref 0])) (q2 := (345, [some (.ref (88)), some (.ref 0), some (.ref 52), some (.int l3)], [])) (M := M) (o := (pcl GG lay d 5 [.ref 0, .int v1, .int v2, .int v3, .int v4, .int v5] M)) (hf := rfl) rfl rfl).trans ?_
  refine kI_in (fun r6 M6 => ?_)
  refine (evn_adv 5 (q' := (350, [some (.ref (88)), some (.ref 0), some (.ref 52), some (.int l3)], [.int (l3 + (jn 1)), .ref (88), .ref 52, .int r6], M6)) rfl).trans ?_
  refine (e_oB (q := (350, [some (.ref (88)), some (.ref 0), some (.ref 52), some (.int l3)], [.int (l3 + (jn 1)), .ref (88), .ref 52, .int r6], M6)) (o := (aldI lay (some (nS, xs)) M6 (88) (l3 + (jn 1)))) (f := fun v7 => (351, [some (.ref (88)), some (.ref 0), some (.ref 52), some (.int l3)], [.int v7, .ref 52, .int r6], M6)) (hf := rfl) rfl).trans ?_
  refine oB_in (fun v7 => ?_)
  refine (evn_adv 4 (q' := (355, [some (.ref (88)), some (.ref 0), some (.ref 52), some (.int l3)], [.int (l3 + (jn 2)), .ref (88), .int v7, .ref 52, .int r6], M6)) rfl).trans ?_
  refine (e_oB (q := (355, [some (.ref (88)), some (.ref 0), some (.ref 52), some (.int l3)], [.int (l3 + (jn 2)), .ref (88), .int v7, .ref 52, .int r6], M6)) (o := (aldI lay (some (nS, xs)) M6 (88) (l3 + (jn 2)))) (f := fun v8 => (356, [some (.ref (88)), some (.ref 0), some (.ref 52), some (.int l3)], [.int v8, .int v7, .ref 52, .int r6], M6)) (hf := rfl) rfl).trans ?_
  refine oB_in (fun v8 => ?_)
  refine (evn_adv 4 (q' := (360, [some (.ref (88)), some (.ref 0), some (.ref 52), some (.int l3)], [.int (l3 + (jn 3)), .ref (88), .int v8, .int v7, .ref 52, .int r6], M6)) rfl).trans ?_
  refine (e_oB (q := (360, [some (.ref (88)), some (.ref 0), some (.ref 52), some (.int l3)], [.int (l3 + (jn 3)), .ref (88), .int v8, .int v7, .ref 52, .int r6], M6)) (o := (aldI lay (some (nS, xs)) M6 (88) (l3 + (jn 3)))) (f := fun v9 => (361, [some (.ref (88)), some (.ref 0), some (.ref 52), some (.int l3)], [.int v9, .int v8, .int v7, .ref 52, .int r6], M6)) (hf := rfl) rfl).trans ?_
  refine oB_in (fun v9 => ?_)
  refine (evn_adv 4 (q' := (365, [some (.ref (88)), some (.ref 0), some (.ref 52), some (.int l3)], [.int (l3 + (jn 4)), .ref (88), .int v9, .int v8, .int v7, .ref 52, .int r6], M6)) rfl).trans ?_
  refine (e_oB (q := (365, [some (.ref (88)), some (.ref 0), some (.ref 52), some (.int l3)], [.int (l3 + (jn 4)), .ref (88), .int v9, .int v8, .int v7, .ref 52, .int r6], M6)) (o := (aldI lay (some (nS, xs)) M6 (88) (l3 + (jn 4)))) (f := fun v10 => (366, [some (.ref (88)), some (.ref 0), some (.ref 52), some (.int l3)], [.int v10, .int v9, .int v8, .int v7, .ref 52, .int r6], M6)) (hf := rfl) rfl).trans ?_
  refine oB_in (fun v10 => ?_)
  refine (evn_adv 4 (q' := (370, [some (.ref (88)), some (.ref 0), some (.ref 52), some (.int l3)], [.int (l3 + (jn 5)), .ref (88), .int v10, .int v9, .int v8, .int v7, .ref 52, .int r6], M6)) rfl).trans ?_
  refine (e_oB (q := (370, [some (.ref (88)), some (.ref 0), some (.ref 52), some (.int l3)], [.int (l3 + (jn 5)), .ref (88), .int v10, .int v9, .int v8, .int v7, .ref 52, .int r6], M6)) (o := (aldI lay (some (nS, xs)) M6 (88) (l3 + (jn 5)))) (f := fun v11 => (371, [some (.ref (88)), some (.ref 0), some (.ref 52), some (.int l3)], [.int v11, .int v10, .int v9, .int v8, .int v7, .ref 52, .int r6], M6)) (hf := rfl) rfl).trans ?_
  refine oB_in (fun v11 => ?_)
  refine (e_kI (q := (371, [some (.ref (88)), some (.ref 0), some (.ref 52), some (.int l3)], [.int v11, .int v10, .int v9, .int v8, .int v7, .ref 52, .int r6])) (q2 := (374, [some (.ref (88)), some (.ref 0), some (.ref 52), some (.int l3)], [.int r6])) (M := M6) (o := (pcl GG lay d 83 [.ref 52, .int v7, .int v8, .int v9, .int v10, .int v11] M6)) (hf := rfl) rfl rfl).trans ?_
  refine kI_in (fun r12 M12 => ?_)
  refine (e_ic_eq (hf := rfl)).trans ?_
  refine ite_in ?_ ?_
  · rfl
  · refine (evn_adv 1 (q' := (378, [some (.ref (88)), some (.ref 0), some (.ref 52), some (.int l3)], [.int (jn 0)], M12)) rfl).trans ?_
    exact e_iretz (hf := rfl)
set_option maxRecDepth 100000 in
theorem h_276_379 (nS : Nat) (xs : Nat → Int32) (d : Nat) (l3 : Int32) (M : PM) : E_276 nS xs d (379, [some (.ref (88)), some (.ref 0), some (.ref 52), some (.int l3)], [], M) = (oB (aldI lay (some (nS, xs)) M (88) (l3 + (jn 1))) fun v1 => (oB (aldI lay (some (nS, xs)) M (88) (l3 + (jn 2))) fun v2 => (kL (pcl GG lay d 7 [.ref 0, .int v1, .int v2] M) fun r3 M3 => (oB (aldI lay (some (nS, xs)) M3 (88) (l3 + (jn 1))) fun v4 => (oB (aldI lay (some (nS, xs)) M3 (88) (l3 + (jn 2))) fun v5 => (kL (pcl GG lay d 84 [.ref 52, .int v4, .int v5] M3) fun r6 M6 => (if (lg_cmp r3 r6) = jn 0 then E_276 nS xs d (1520, [some (.ref (88)), some (.ref 0), some (.ref 52), some (.int l3)], [], M6) else (rZ (jn 0) M6)))))))) := by
  refine (evn_adv 5 (q' := (384, [some (.ref (88)), some (.ref 0), some (.ref 52), some (.int l3)], [.int (l3 + (jn 1)), .ref (88), .ref 0], M)) rfl).trans ?_
  refine (e_oB (q := (384, [some (.ref (88)), some (.ref 0), some (.ref 52), some (.int l3)], [.int (l3 + (jn 1)), .ref (88), .ref 0], M)) (o := (aldI lay (some (nS, xs)) M (88) (l3 + (jn 1)))) (f := fun v1 => (385, [some (.ref (88)), some (.ref 0), some (.ref 52), some (.int l3)], [.int v1, .ref 0], M)) (hf := rfl) rfl).trans ?_
  refine oB_in (fun v1 => ?_)
  refine (evn_adv 4 (q' := (389, [some (.ref (88)), some (.ref 0), some (.ref 52), some (.int l3)], [.int (l3 + (jn 2)), .ref (88), .int v1, .ref 0], M)) rfl).trans ?_
  refine (e_oB (q := (389, [some (.ref (88)), some (.ref 0), some (.ref 52), some (.int l3)], [.int (l3 + (jn 2)), .ref (88), .int v1, .ref 0], M)) (o := (aldI lay (some (nS, xs)) M (88) (l3 + (jn 2)))) (f := fun v2 => (390, [some (.ref (88)), some (.ref 0), some (.ref 52), some (.int l3)], [.int v2, .int v1, .ref 0], M)) (hf := rfl) rfl).trans ?_
  refine oB_in (fun v2 => ?_)
  refine (e_kL (q := (390, [some (.ref (88)), some (.ref 0), some (.ref 52), some (.int l3)], [.int v2, .int v1, .ref 0])) (q2 := (393, [some (.ref (88)), some (.ref 0), some (.ref 52), some (.int l3)], [])) (M := M) (o := (pcl GG lay d 7 [.ref 0, .int v1, .int v2] M)) (hf := rfl) rfl rfl).trans ?_
  refine kL_in (fun r3 M3 => ?_)
  refine (evn_adv 5 (q' := (398, [some (.ref (88)), some (.ref 0), some (.ref 52), some (.int l3)], [.int (l3 + (jn 1)), .ref (88), .ref 52, .long r3], M3)) rfl).trans ?_
  refine (e_oB (q := (398, [some (.ref (88)), some (.ref 0), some (.ref 52), some (.int l3)], [.int (l3 + (jn 1)), .ref (88), .ref 52, .long r3], M3)) (o := (aldI lay (some (nS, xs)) M3 (88) (l3 + (jn 1)))) (f := fun v4 => (399, [some (.ref (88)), some (.ref 0), some (.ref 52), some (.int l3)], [.int v4, .ref 52, .long r3], M3)) (hf := rfl) rfl).trans ?_
  refine oB_in (fun v4 => ?_)
  refine (evn_adv 4 (q' := (403, [some (.ref (88)), some (.ref 0), some (.ref 52), some (.int l3)], [.int (l3 + (jn 2)), .ref (88), .int v4, .ref 52, .long r3], M3)) rfl).trans ?_
  refine (e_oB (q := (403, [some (.ref (88)), some (.ref 0), some (.ref 52), some (.int l3)], [.int (l3 + (jn 2)), .ref (88), .int v4, .ref 52, .long r3], M3)) (o := (aldI lay (some (nS, xs)) M3 (88) (l3 + (jn 2)))) (f := fun v5 => (404, [some (.ref (88)), some (.ref 0), some (.ref 52), some (.int l3)], [.int v5, .int v4, .ref 52, .long r3], M3)) (hf := rfl) rfl).trans ?_
  refine oB_in (fun v5 => ?_)
  refine (e_kL (q := (404, [some (.ref (88)), some (.ref 0), some (.ref 52), some (.int l3)], [.int v5, .int v4, .ref 52, .long r3])) (q2 := (407, [some (.ref (88)), some (.ref 0), some (.ref 52), some (.int l3)], [.long r3])) (M := M3) (o := (pcl GG lay d 84 [.ref 52, .int v4, .int v5] M3)) (hf := rfl) rfl rfl).trans ?_
  refine kL_in (fun r6 M6 => ?_)
  refine (evn_adv 1 (q' := (408, [some (.ref (88)), some (.ref 0), some (.ref 52), some (.int l3)], [.int (lg_cmp r3 r6)], M6)) rfl).trans ?_
  refine (e_if_eq (hf := rfl)).trans ?_
  refine ite_in ?_ ?_
  · rfl
  · refine (evn_adv 1 (q' := (412, [some (.ref (88)), some (.ref 0), some (.ref 52), some (.int l3)], [.int (jn 0)], M6)) rfl).trans ?_
    exact e_iretz (hf := rfl)
set_option maxRecDepth 100000 in
theorem h_276_413 (nS : Nat) (xs : Nat → Int32) (d : Nat) (l3 : Int32) (M : PM) : E_276 nS xs d (413, [some (.ref (88)), some (.ref 0), some (.ref 52), some (.int l3)], [], M) = (oB (aldI lay (some (nS, xs)) M (88) (l3 + (jn 1))) fun v1 => (oB (aldI lay (some (nS, xs)) M (88) (l3 + (jn 2))) fun v2 => (kI (pcl GG lay d 8 [.ref 0, .int v1, .int v2] M) fun r3 M3 => (oB (aldI lay (some (nS, xs)) M3 (88) (l3 + (jn 1))) fun v4 => (oB (aldI lay (some (nS, xs)) M3 (88) (l3 + (jn 2))) fun v5 => (kI (pcl GG lay d 85 [.ref 52, .int v4, .int v5] M3) fun r6 M6 => (if r3 = r6 then E_276 nS xs d (1520, [some (.ref (88)), some (.ref 0), some (.ref 52), some (.int l3)], [], M6) else (rZ (jn 0) M6)))))))) := by
  refine (evn_adv 5 (q' := (418, [some (.ref (88)), some (.ref 0), some (.ref 52), some (.int l3)], [.int (l3 + (jn 1)), .ref (88), .ref 0], M)) rfl).trans ?_
  refine (e_oB (q := (418, [some (.ref (88)), some (.ref 0), some (.ref 52), some (.int l3)], [.int (l3 + (jn 1)), .ref (88), .ref 0], M)) (o := (aldI lay (some (nS, xs)) M (88) (l3 + (jn 1)))) (f := fun v1 => (419, [some (.ref (88)), some (.ref 0), some (.ref 52), some (.int l3)], [.int v1, .ref 0], M)) (hf := rfl) rfl).trans ?_
  refine oB_in (fun v1 => ?_)
  refine (evn_adv 4 (q' := (423, [some (.ref (88)), some (.ref 0), some (.ref 52), some (.int l3)], [.int (l3 + (jn 2)), .ref (88), .int v1, .ref 0], M)) rfl).trans ?_
  refine (e_oB (q := (423, [some (.ref (88)), some (.ref 0), some (.ref 52), some (.int l3)], [.int (l3 + (jn 2)), .ref (88), .int v1, .ref 0], M)) (o := (aldI lay (some (nS, xs)) M (88) (l3 + (jn 2)))) (f := fun v2 => (424, [some (.ref (88)), some (.ref 0), some (.ref 52), some (.int l3)], [.int v2, .int v1, .ref 0], M)) (hf := rfl) rfl).trans ?_
  refine oB_in (fun v2 => ?_)
  refine (e_kI (q := (424, [some (.ref (88)), some (.ref 0), some (.ref 52), some (.int l3)], [.int v2, .int v1, .ref 0])) (q2 := (427, [some (.ref (88)), some (.ref 0), some (.ref 52), some (.int l3)], [])) (M := M) (o := (pcl GG lay d 8 [.ref 0, .int v1, .int v2] M)) (hf := rfl) rfl rfl).trans ?_
  refine kI_in (fun r3 M3 => ?_)
  refine (evn_adv 5 (q' := (432, [some (.ref (88)), some (.ref 0), some (.ref 52), some (.int l3)], [.int (l3 + (jn 1)), .ref (88), .ref 52, .int r3], M3)) rfl).trans ?_
  refine (e_oB (q := (432, [some (.ref (88)), some (.ref 0), some (.ref 52), some (.int l3)], [.int (l3 + (jn 1)), .ref (88), .ref 52, .int r3], M3)) (o := (aldI lay (some (nS, xs)) M3 (88) (l3 + (jn 1)))) (f := fun v4 => (433, [some (.ref (88)), some (.ref 0), some (.ref 52), some (.int l3)], [.int v4, .ref 52, .int r3], M3)) (hf := rfl) rfl).trans ?_
  refine oB_in (fun v4 => ?_)
  refine (evn_adv 4 (q' := (437, [some (.ref (88)), some (.ref 0), some (.ref 52), some (.int l3)], [.int (l3 + (jn 2)), .ref (88), .int v4, .ref 52, .int r3], M3)) rfl).trans ?_
  refine (e_oB (q := (437, [some (.ref (88)), some (.ref 0), some (.ref 52), some (.int l3)], [.int (l3 + (jn 2)), .ref (88), .int v4, .ref 52, .int r3], M3)) (o := (aldI lay (some (nS, xs)) M3 (88) (l3 + (jn 2)))) (f := fun v5 => (438, [some (.ref (88)), some (.ref 0), some (.ref 52), some (.int l3)], [.int v5, .int v4, .ref 52, .int r3], M3)) (hf := rfl) rfl).trans ?_
  refine oB_in (fun v5 => ?_)
  refine (e_kI (q := (438, [some (.ref (88)), some (.ref 0), some (.ref 52), some (.int l3)], [.int v5, .int v4, .ref 52, .int r3])) (q2 := (441, [some (.ref (88)), some (.ref 0), some (.ref 52), some (.int l3)], [.int r3])) (M := M3) (o := (pcl GG lay d 85 [.ref 52, .int v4, .int v5] M3)) (hf := rfl) rfl rfl).trans ?_
  refine kI_in (fun r6 M6 => ?_)
  refine (e_ic_eq (hf := rfl)).trans ?_
  refine ite_in ?_ ?_
  · rfl
  · refine (evn_adv 1 (q' := (445, [some (.ref (88)), some (.ref 0), some (.ref 52), some (.int l3)], [.int (jn 0)], M6)) rfl).trans ?_
    exact e_iretz (hf := rfl)
set_option maxRecDepth 100000 in
theorem h_276_446 (nS : Nat) (xs : Nat → Int32) (d : Nat) (l3 : Int32) (M : PM) : E_276 nS xs d (446, [some (.ref (88)), some (.ref 0), some (.ref 52), some (.int l3)], [], M) = (oB (aldI lay (some (nS, xs)) M (88) (l3 + (jn 1))) fun v1 => (kI (pcl GG lay d 9 [.ref 0, .int v1] M) fun r2 M2 => (oB (aldI lay (some (nS, xs)) M2 (88) (l3 + (jn 1))) fun v3 => (kI (pcl GG lay d 86 [.ref 52, .int v3] M2) fun r4 M4 => (if r2 = r4 then E_276 nS xs d (1520, [some (.ref (88)), some (.ref 0), some (.ref 52), some (.int l3)], [], M4) else (rZ (jn 0) M4)))))) := by
  refine (evn_adv 5 (q' := (451, [some (.ref (88)), some (.ref 0), some (.ref 52), some (.int l3)], [.int (l3 + (jn 1)), .ref (88), .ref 0], M)) rfl).trans ?_
  refine (e_oB (q := (451, [some (.ref (88)), some (.ref 0), some (.ref 52), some (.int l3)], [.int (l3 + (jn 1)), .ref (88), .ref 0], M)) (o := (aldI lay (some (nS, xs)) M (88) (l3 + (jn 1)))) (f := fun v1 => (452, [some (.ref (88)), some (.ref 0), some (.ref 52), some (.int l3)], [.int v1, .ref 0], M)) (hf := rfl) rfl).trans ?_
  refine oB_in (fun v1 => ?_)
  refine (e_kI (q := (452, [some (.ref (88)), some (.ref 0), some (.ref 52), some (.int l3)], [.int v1, .ref 0])) (q2 := (455, [some (.ref (88)), some (.ref 0), some (.ref 52), some (.int l3)], [])) (M := M) (o := (pcl GG lay d 9 [.ref 0, .int v1] M)) (hf := rfl) rfl rfl).trans ?_
  refine kI_in (fun r2 M2 => ?_)
  refine (evn_adv 5 (q' := (460, [some (.ref (88)), some (.ref 0), some (.ref 52), some (.int l3)], [.int (l3 + (jn 1)), .ref (88), .ref 52, .int r2], M2)) rfl).trans ?_
  refine (e_oB (q := (460, [some (.ref (88)), some (.ref 0), some (.ref 52), some (.int l3)], [.int (l3 + (jn 1)), .ref (88), .ref 52, .int r2], M2)) (o := (aldI lay (some (nS, xs)) M2 (88) (l3 + (jn 1)))) (f := fun v3 => (461, [some (.ref (88)), some (.ref 0), some (.ref 52), some (.int l3)], [.int v3, .ref 52, .int r2], M2)) (hf := rfl) rfl).trans ?_
  refine oB_in (fun v3 => ?_)
  refine (e_kI (q := (461, [some (.ref (88)), some (.ref 0), some (.ref 52), some (.int l3)], [.int v3, .ref 52, .int r2])) (q2 := (464, [some (.ref (88)), some (.ref 0), some (.ref 52), some (.int l3)], [.int r2])) (M := M2) (o := (pcl GG lay d 86 [.ref 52, .int v3] M2)) (hf := rfl) rfl rfl).trans ?_
  refine kI_in (fun r4 M4 => ?_)
  refine (e_ic_eq (hf := rfl)).trans ?_
  refine ite_in ?_ ?_
  · rfl
  · refine (evn_adv 1 (q' := (468, [some (.ref (88)), some (.ref 0), some (.ref 52), some (.int l3)], [.int (jn 0)], M4)) rfl).trans ?_
    exact e_iretz (hf := rfl)
set_option maxRecDepth 100000 in
theorem h_276_469 (nS : Nat) (xs : Nat → Int32) (d : Nat) (l3 : Int32) (M : PM) : E_276 nS xs d (469, [some (.ref (88)), some (.ref 0), some (.ref 52), some (.int l3)], [], M) = (oB (aldI lay (some (nS, xs)) M (88) (l3 + (jn 1))) fun v1 => (oB (aldI lay (some (nS, xs)) M (88) (l3 + (jn 2))) fun v2 => (kI (pcl GG lay d 10 [.ref 0, .int v1, .int v2] M) fun r3 M3 => (oB (aldI lay (some (nS, xs)) M3 (88) (l3 + (jn 1))) fun v4 => (oB (aldI lay (some (nS, xs)) M3 (88) (l3 + (jn 2))) fun v5 => (kI (pcl GG lay d 89 [.ref 52, .int v4, .int v5] M3) fun r6 M6 => (if r3 = r6 then E_276 nS xs d (1520, [some (.ref (88)), some (.ref 0), some (.ref 52), some (.int l3)], [], M6) else (rZ (jn 0) M6)))))))) := by
  refine (evn_adv 5 (q' := (474, [some (.ref (88)), some (.ref 0), some (.ref 52), some (.int l3)], [.int (l3 + (jn 1)), .ref (88), .ref 0], M)) rfl).trans ?_
  refine (e_oB (q := (474, [some (.ref (88)), some (.ref 0), some (.ref 52), some (.int l3)], [.int (l3 + (jn 1)), .ref (88), .ref 0], M)) (o := (aldI lay (some (nS, xs)) M (88) (l3 + (jn 1)))) (f := fun v1 => (475, [some (.ref (88)), some (.ref 0), some (.ref 52), some (.int l3)], [.int v1, .ref 0], M)) (hf := rfl) rfl).trans ?_
  refine oB_in (fun v1 => ?_)
  refine (evn_adv 4 (q' := (479, [some (.ref (88)), some (.ref 0), some (.ref 52), some (.int l3)], [.int (l3 + (jn 2)), .ref (88), .int v1, .ref 0], M)) rfl).trans ?_
  refine (e_oB (q := (479, [some (.ref (88)), some (.ref 0), some (.ref 52), some (.int l3)], [.int (l3 + (jn 2)), .ref (88), .int v1, .ref 0], M)) (o := (aldI lay (some (nS, xs)) M (88) (l3 + (jn 2)))) (f := fun v2 => (480, [some (.ref (88)), some (.ref 0), some (.ref 52), some (.int l3)], [.int v2, .int v1, .ref 0], M)) (hf := rfl) rfl).trans ?_
  refine oB_in (fun v2 => ?_)
  refine (e_kI (q := (480, [some (.ref (88)), some (.ref 0), some (.ref 52), some (.int l3)], [.int v2, .int v1, .ref 0])) (q2 := (483, [some (.ref (88)), some (.ref 0), some (.ref 52), some (.int l3)], [])) (M := M) (o := (pcl GG lay d 10 [.ref 0, .int v1, .int v2] M)) (hf := rfl) rfl rfl).trans ?_
  refine kI_in (fun r3 M3 => ?_)
  refine (evn_adv 5 (q' := (488, [some (.ref (88)), some (.ref 0), some (.ref 52), some (.int l3)], [.int (l3 + (jn 1)), .ref (88), .ref 52, .int r3], M3)) rfl).trans ?_
  refine (e_oB (q := (488, [some (.ref (88)), some (.ref 0), some (.ref 52), some (.int l3)], [.int (l3 + (jn 1)), .ref (88), .ref 52, .int r3], M3)) (o := (aldI lay (some (nS, xs)) M3 (88) (l3 + (jn 1)))) (f := fun v4 => (489, [some (.ref (88)), some (.ref 0), some (.ref 52), some (.int l3)], [.int v4, .ref 52, .int r3], M3)) (hf := rfl) rfl).trans ?_
  refine oB_in (fun v4 => ?_)
  refine (evn_adv 4 (q' := (493, [some (.ref (88)), some (.ref 0), some (.ref 52), some (.int l3)], [.int (l3 + (jn 2)), .ref (88), .int v4, .ref 52, .int r3], M3)) rfl).trans ?_
  refine (e_oB (q := (493, [some (.ref (88)), some (.ref 0), some (.ref 52), some (.int l3)], [.int (l3 + (jn 2)), .ref (88), .int v4, .ref 52, .int r3], M3)) (o := (aldI lay (some (nS, xs)) M3 (88) (l3 + (jn 2)))) (f := fun v5 => (494, [some (.ref (88)), some (.ref 0), some (.ref 52), some (.int l3)], [.int v5, .int v4, .ref 52, .int r3], M3)) (hf := rfl) rfl).trans ?_
  refine oB_in (fun v5 => ?_)
  refine (e_kI (q := (494, [some (.ref (88)), some (.ref 0), some (.ref 52), some (.int l3)], [.int v5, .int v4, .ref 52, .int r3])) (q2 := (497, [some (.ref (88)), some (.ref 0), some (.ref 52), some (.int l3)], [.int r3])) (M := M3) (o := (pcl GG lay d 89 [.ref 52, .int v4, .int v5] M3)) (hf := rfl) rfl rfl).trans ?_
  refine kI_in (fun r6 M6 => ?_)
  refine (e_ic_eq (hf := rfl)).trans ?_
  refine ite_in ?_ ?_
  · rfl
  · refine (evn_adv 1 (q' := (501, [some (.ref (88)), some (.ref 0), some (.ref 52), some (.int l3)], [.int (jn 0)], M6)) rfl).trans ?_
    exact e_iretz (hf := rfl)
set_option maxRecDepth 100000 in
theorem h_276_502 (nS : Nat) (xs : Nat → Int32) (d : Nat) (l3 : Int32) (M : PM) : E_276 nS xs d (502, [some (.ref (88)), some (.ref 0), some (.ref 52), some (.int l3)], [], M) = (oB (aldI lay (some (nS, xs)) M (88) (l3 + (jn 1))) fun v1 => (kI (pcl GG lay d 12 [.ref 0, .int v1] M) fun r2 M2 => (oB (aldI lay (some (nS, xs)) M2 (88) (l3 + (jn 1))) fun v3 => (kI (pcl GG lay d 93 [.ref 52, .int v3] M2) fun r4 M4 => (if r2 = r4 then E_276 nS xs d (1520, [some (.ref (88)), some (.ref 0), some (.ref 52), some (.int l3)], [], M4) else (rZ (jn 0) M4)))))) := by
  refine (evn_adv 5 (q' := (507, [some (.ref (88)), some (.ref 0), some (.ref 52), some (.int l3)], [.int (l3 + (jn 1)), .ref (88), .ref 0], M)) rfl).trans ?_
  refine (e_oB (q := (507, [some (.ref (88)), some (.ref 0), some (.ref 52), some (.int l3)], [.int (l3 + (jn 1)), .ref (88), .ref 0], M)) (o := (aldI lay (some (nS, xs)) M (88) (l3 + (jn 1)))) (f := fun v1 => (508, [some (.ref (88)), some (.ref 0), some (.ref 52), some (.int l3)], [.int v1, .ref 0], M)) (hf := rfl) rfl).trans ?_
  refine oB_in (fun v1 => ?_)
  refine (e_kI (q := (508, [some (.ref (88)), some (.ref 0), some (.ref 52), some (.int l3)], [.int v1, .ref 0])) (q2 := (511, [some (.ref (88)), some (.ref 0), some (.ref 52), some (.int l3)], [])) (M := M) (o := (pcl GG lay d 12 [.ref 0, .int v1] M)) (hf := rfl) rfl rfl).trans ?_
  refine kI_in (fun r2 M2 => ?_)
  refine (evn_adv 5 (q' := (516, [some (.ref (88)), some (.ref 0), some (.ref 52), some (.int l3)], [.int (l3 + (jn 1)), .ref (88), .ref 52, .int r2], M2)) rfl).trans ?_
  refine (e_oB (q := (516, [some (.ref (88)), some (.ref 0), some (.ref 52), some (.int l3)], [.int (l3 + (jn 1)), .ref (88), .ref 52, .int r2], M2)) (o := (aldI lay (some (nS, xs)) M2 (88) (l3 + (jn 1)))) (f := fun v3 => (517, [some (.ref (88)), some (.ref 0), some (.ref 52), some (.int l3)], [.int v3, .ref 52, .int r2], M2)) (hf := rfl) rfl).trans ?_
  refine oB_in (fun v3 => ?_)
  refine (e_kI (q := (517, [some (.ref (88)), some (.ref 0), some (.ref 52), some (.int l3)], [.int v3, .ref 52, .int r2])) (q2 := (520, [some (.ref (88)), some (.ref 0), some (.ref 52), some (.int l3)], [.int r2])) (M := M2) (o := (pcl GG lay d 93 [.ref 52, .int v3] M2)) (hf := rfl) rfl rfl).trans ?_
  refine kI_in (fun r4 M4 => ?_)
  refine (e_ic_eq (hf := rfl)).trans ?_
  refine ite_in ?_ ?_
  · rfl
  · refine (evn_adv 1 (q' := (524, [some (.ref (88)), some (.ref 0), some (.ref 52), some (.int l3)], [.int (jn 0)], M4)) rfl).trans ?_
    exact e_iretz (hf := rfl)
set_option maxRecDepth 100000 in
theorem h_276_525 (nS : Nat) (xs : Nat → Int32) (d : Nat) (l3 : Int32) (M : PM) : E_276 nS xs d (525, [some (.ref (88)), some (.ref 0), some (.ref 52), some (.int l3)], [], M) = (kI (pcl GG lay d 13 [.ref 0] M) fun r1 M1 => (kI (pcl GG lay d 94 [.ref 52] M1) fun r2 M2 => (if r1 = r2 then E_276 nS xs d (1520, [some (.ref (88)), some (.ref 0), some (.ref 52), some (.int l3)], [], M2) else (rZ (jn 0) M2)))) := by
  refine (evn_adv 1 (q' := (526, [some (.ref (88)), some (.ref 0), some (.ref 52), some (.int l3)], [.ref 0], M)) rfl).trans ?_
  refine (e_kI (q := (526, [some (.ref (88)), some (.ref 0), some (.ref 52), some (.int l3)], [.ref 0])) (q2 := (529, [some (.ref (88)), some (.ref 0), some (.ref 52), some (.int l3)], [])) (M := M) (o := (pcl GG lay d 13 [.ref 0] M)) (hf := rfl) rfl rfl).trans ?_
  refine kI_in (fun r1 M1 => ?_)
  refine (evn_adv 1 (q' := (530, [some (.ref (88)), some (.ref 0), some (.ref 52), some (.int l3)], [.ref 52, .int r1], M1)) rfl).trans ?_
  refine (e_kI (q := (530, [some (.ref (88)), some (.ref 0), some (.ref 52), some (.int l3)], [.ref 52, .int r1])) (q2 := (533, [some (.ref (88)), some (.ref 0), some (.ref 52), some (.int l3)], [.int r1])) (M := M1) (o := (pcl GG lay d 94 [.ref 52] M1)) (hf := rfl) rfl rfl).trans ?_
  refine kI_in (fun r2 M2 => ?_)
  refine (e_ic_eq (hf := rfl)).trans ?_
  refine ite_in ?_ ?_
  · rfl
  · refine (evn_adv 1 (q' := (537, [some (.ref (88)), some (.ref 0), some (.ref 52), some (.int l3)], [.int (jn 0)], M2)) rfl).trans ?_
    exact e_iretz (hf := rfl)
set_option maxRecDepth 100000 in
theorem h_276_538 (nS : Nat) (xs : Nat → Int32) (d : Nat) (l3 : Int32) (M : PM) : E_276 nS xs d (538, [some (.ref (88)), some (.ref 0), some (.ref 52), some (.int l3)], [], M) = (kI (pcl GG lay d 14 [.ref 0] M) fun r1 M1 => (kI (pcl GG lay d 95 [.ref 52] M1) fun r2 M2 => (if r1 = r2 then E_276 nS xs d (1520, [some (.ref (88)), some (.ref 0), some (.ref 52), some (.int l3)], [], M2) else (rZ (jn 0) M2)))) := by
  refine (evn_adv 1 (q' := (539, [some (.ref (88)), some (.ref 0), some (.ref 52), some (.int l3)], [.ref 0], M)) rfl).trans ?_
  refine (e_kI (q := (539, [some (.ref (88)), some (.ref 0), some (.ref 52), some (.int l3)], [.ref 0])) (q2 := (542, [some (.ref (88)), some (.ref 0), some (.ref 52), some (.int l3)], [])) (M := M) (o := (pcl GG lay d 14 [.ref 0] M)) (hf := rfl) rfl rfl).trans ?_
  refine kI_in (fun r1 M1 => ?_)
  refine (evn_adv 1 (q' := (543, [some (.ref (88)), some (.ref 0), some (.ref 52), some (.int l3)], [.ref 52, .int r1], M1)) rfl).trans ?_
  refine (e_kI (q := (543, [some (.ref (88)), some (.ref 0), some (.ref 52), some (.int l3)], [.ref 52, .int r1])) (q2 := (546, [some (.ref (88)), some (.ref 0), some (.ref 52), some (.int l3)], [.int r1])) (M := M1) (o := (pcl GG lay d 95 [.ref 52] M1)) (hf := rfl) rfl rfl).trans ?_
  refine kI_in (fun r2 M2 => ?_)
  refine (e_ic_eq (hf := rfl)).trans ?_
  refine ite_in ?_ ?_
  · rfl
  · refine (evn_adv 1 (q' := (550, [some (.ref (88)), some (.ref 0), some (.ref 52), some (.int l3)], [.int (jn 0)], M2)) rfl).trans ?_
    exact e_iretz (hf := rfl)
set_option maxRecDepth 100000 in
theorem h_276_551 (nS : Nat) (xs : Nat → Int32) (d : Nat) (l3 : Int32) (M : PM) : E_276 nS xs d (551, [some (.ref (88)), some (.ref 0), some (.ref 52), some (.int l3)], [], M) = (oB (aldI lay (some (nS, xs)) M (88) (l3 + (jn 1))) fun v1 => (oB (aldI lay (some (nS, xs)) M (88) (l3 + (jn 2))) fun v2 => (if v2 = jn 0 then (kI (pcl GG lay d 15 [.ref 0, .int v1, .int (jn 0)] M) fun r3 M3 => (oB (aldI lay (some (nS, xs)) M3 (88) (l3 + (jn 1))) fun v4 => (oB (aldI lay (some (nS, xs)) M3 (88) (l3 + (jn 2))) fun v5 => (if v5 = jn 0 then (kI (pcl GG lay d 96 [.ref 52, .int v4, .int (jn 0)] M3) fun r6 M6 => (if r3 = r6 then E_276 nS xs d (1520, [some (.ref (88)), some (.ref 0), some (.ref 52), some (.int l3)], [], M6) else (rZ (jn 0) M6))) else (kI (pcl GG lay d 96 [.ref 52, .int v4, .int (jn 1)] M3) fun r6 M6 => (if r3 = r6 then E_276 nS xs d (1520, [some (.ref (88)), some (.ref 0), some (.ref 52), some (.int l3)], [], M6) else (rZ (jn 0) M6))))))) else (kI (pcl GG lay d 15 [.ref 0, .int v1, .int (jn 1)] M) fun r3 M3 => (oB (aldI lay (some (nS, xs)) M3 (88) (l3 + (jn 1))) fun v4 => (oB (aldI lay (some (nS, xs)) M3 (88) (l3 + (jn 2))) fun v5 => (if v5 = jn 0 then (kI (pcl GG lay d 96 [.ref 52, .int v4, .int (jn 0)] M3) fun r6 M6 => (if r3 = r6 then E_276 nS xs d (1520, [some (.ref (88)), some (.ref 0), some (.ref 52), some (.int l3)], [], M6) else (rZ (jn 0) M6))) else (kI (pcl GG lay d 96 [.ref 52, .int v4, .int (jn 1)] M3) fun r6 M6 => (if r3 = r6 then E_276 nS xs d (1520, [some (.ref (88)), some (.ref 0), some (.ref 52), some (.int l3)], [], M6) else (rZ (jn 0) M6)))))))))) := by
  refine (evn_adv 5 (q' := (556, [some (.ref (88)), some (.ref 0), some (.ref 52), some (.int l3)], [.int (l3 + (jn 1)), .ref (88), .ref 0], M)) rfl).trans ?_
  refine (e_oB (q := (556, [some (.ref (88)), some (.ref 0), some (.ref 52), some (.int l3)], [.int (l3 + (jn 1)), .ref (88), .ref 0], M)) (o := (aldI lay (some (nS, xs)) M (88) (l3 + (jn 1)))) (f := fun v1 => (557, [some (.ref (88)), some (.ref 0), some (.ref 52), some (.int l3)], [.int v1, .ref 0], M)) (hf := rfl) rfl).trans ?_
  refine oB_in (fun v1 => ?_)
  refine (evn_adv 4 (q' := (561, [some (.ref (88)), some (.ref 0), some (.ref 52), some (.int l3)], [.int (l3 + (jn 2)), .ref (88), .int v1, .ref 0], M)) rfl).trans ?_
  refine (e_oB (q := (561, [some (.ref (88)), some (.ref 0), some (.ref 52), some (.int l3)], [.int (l3 + (jn 2)), .ref (88), .int v1, .ref 0], M)) (o := (aldI lay (some (nS, xs)) M (88) (l3 + (jn 2)))) (f := fun v2 => (562, [some (.ref (88)), some (.ref 0), some (.ref 52), some (.int l3)], [.int v2, .int v1, .ref 0], M)) (hf := rfl) rfl).trans ?_
  refine oB_in (fun v2 => ?_)
  refine (e_if_eq (hf := rfl)).trans ?_
  refine ite_in ?_ ?_
  · refine (evn_adv 1 (q' := (570, [some (.ref (88)), some (.ref 0), some (.ref 52), some (.int l3)], [.int (jn 0), .int v1, .ref 0], M)) rfl).trans ?_
    refine (e_kI (q := (570, [some (.ref (88)), some (.ref 0), some (.ref 52), some (.int l3)], [.int (jn 0), .int v1, .ref 0])) (q2 := (573, [some (.ref (88)), some (.ref 0), some (.ref 52), some (.int l3)], [])) (M := M) (o := (pcl GG lay d 15 [.ref 0, .int v1, .int (jn 0)] M)) (hf := rfl) rfl rfl).trans ?_
    refine kI_in (fun r3 M3 => ?_)
    refine (evn_adv 5 (q' := (578, [some (.ref (88)), some (.ref 0), some (.ref 52), some (.int l3)], [.int (l3 + (jn 1)), .ref (88), .ref 52, .int r3], M3)) rfl).trans ?_
    refine (e_oB (q := (578, [some (.ref (88)), some (.ref 0), some (.ref 52), some (.int l3)], [.int (l3 + (jn 1)), .ref (88), .ref 52, .int r3], M3)) (o := (aldI lay (some (nS, xs)) M3 (88) (l3 + (jn 1)))) (f := fun v4 => (579, [some (.ref (88)), some (.ref 0), some (.ref 52), some (.int l3)], [.int v4, .ref 52, .int r3], M3)) (hf := rfl) rfl).trans ?_
    refine oB_in (fun v4 => ?_)
    refine (evn_adv 4 (q' := (583, [some (.ref (88)), some (.ref 0), some (.ref 52), some (.int l3)], [.int (l3 + (jn 2)), .ref (88), .int v4, .ref 52, .int r3], M3)) rfl).trans ?_
    refine (e_oB (q := (583, [some (.ref (88)), some (.ref 0), some (.ref 52), some (.int l3)], [.int (l3 + (jn 2)), .ref (88), .int v4, .ref 52, .int r3], M3)) (o := (aldI lay (some (nS, xs)) M3 (88) (l3 + (jn 2)))) (f := fun v5 => (584, [some (.ref (88)), some (.ref 0), some (.ref 52), some (.int l3)], [.int v5, .int v4, .ref 52, .int r3], M3)) (hf := rfl) rfl).trans ?_
    refine oB_in (fun v5 => ?_)
    refine (e_if_eq (hf := rfl)).trans ?_
    refine ite_in ?_ ?_
    · refine (evn_adv 1 (q' := (592, [some (.ref (88)), some (.ref 0), some (.ref 52), some (.int l3)], [.int (jn 0), .int v4, .ref 52, .int r3], M3)) rfl).trans ?_
      refine (e_kI (q := (592, [some (.ref (88)), some (.ref 0), some (.ref 52), some (.int l3)], [.int (jn 0), .int v4, .ref 52, .int r3])) (q2 := (595, [some (.ref (88)), some (.ref 0), some (.ref 52), some (.int l3)], [.int r3])) (M := M3) (o := (pcl GG lay d 96 [.ref 52, .int v4, .int (jn 0)] M3)) (hf := rfl) rfl rfl).trans ?_
      refine kI_in (fun r6 M6 => ?_)
      refine (e_ic_eq (hf := rfl)).trans ?_
      refine ite_in ?_ ?_
      · rfl
      · refine (evn_adv 1 (q' := (599, [some (.ref (88)), some (.ref 0), some (.ref 52), some (.int l3)], [.int (jn 0)], M6)) rfl).trans ?_
        exact e_iretz (hf := rfl)
    · refine (evn_adv 2 (q' := (592, [some (.ref (88)), some (.ref 0), some (.ref 52), some (.int l3)], [.int (jn 1), .int v4, .ref 52, .int r3], M3)) rfl).trans ?_
      refine (e_kI (q := (592, [some (.ref (88)), some (.ref 0), some (.ref 52), some (.int l3)], [.int (jn 1), .int v4, .ref 52, .int r3])) (q2 := (595, [some (.ref (88)), some (.ref 0), some (.ref 52), some (.int l3)], [.int r3])) (M := M3) (o := (pcl GG lay d 96 [.ref 52, .int v4, .int (jn 1)] M3)) (hf := rfl) rfl rfl).trans ?_
      refine kI_in (fun r6 M6 => ?_)
      refine (e_ic_eq (hf := rfl)).trans ?_
      refine ite_in ?_ ?_
      · rfl
      · refine (evn_adv 1 (q' := (599, [some (.ref (88)), some (.ref 0), some (.ref 52), some (.int l3)], [.int (jn 0)], M6)) rfl).trans ?_
        exact e_iretz (hf := rfl)
  · refine (evn_adv 2 (q' := (570, [some (.ref (88)), some (.ref 0), some (.ref 52), some (.int l3)], [.int (jn 1), .int v1, .ref 0], M)) rfl).trans ?_
    refine (e_kI (q := (570, [some (.ref (88)), some (.ref 0), some (.ref 52), some (.int l3)], [.int (jn 1), .int v1, .ref 0])) (q2 := (573, [some (.ref (88)), some (.ref 0), some (.ref 52), some (.int l3)], [])) (M := M) (o := (pcl GG lay d 15 [.ref 0, .int v1, .int (jn 1)] M)) (hf := rfl) rfl rfl).trans ?_
    refine kI_in (fun r3 M3 => ?_)
    refine (evn_adv 5 (q' := (578, [some (.ref (88)), some (.ref 0), some (.ref 52), some (.int l3)], [.int (l3 + (jn 1)), .ref (88), .ref 52, .int r3], M3)) rfl).trans ?_
    refine (e_oB (q := (578, [some (.ref (88)), some (.ref 0), some (.ref 52), some (.int l3)], [.int (l3 + (jn 1)), .ref (88), .ref 52, .int r3], M3)) (o := (aldI lay (some (nS, xs)) M3 (88) (l3 + (jn 1)))) (f := fun v4 => (579, [some (.ref (88)), some (.ref 0), some (.ref 52), some (.int l3)], [.int v4, .ref 52, .int r3], M3)) (hf := rfl) rfl).trans ?_
    refine oB_in (fun v4 => ?_)
    refine (evn_adv 4 (q' := (583, [some (.ref (88)), some (.ref 0), some (.ref 52), some (.int l3)], [.int (l3 + (jn 2)), .ref (88), .int v4, .ref 52, .int r3], M3)) rfl).trans ?_
    refine (e_oB (q := (583, [some (.ref (88)), some (.ref 0), some (.ref 52), some (.int l3)], [.int (l3 + (jn 2)), .ref (88), .int v4, .ref 52, .int r3], M3)) (o := (aldI lay (some (nS, xs)) M3 (88) (l3 + (jn 2)))) (f := fun v5 => (584, [some (.ref (88)), some (.ref 0), some (.ref 52), some (.int l3)], [.int v5, .int v4, .ref 52, .int r3], M3)) (hf := rfl) rfl).trans ?_
    refine oB_in (fun v5 => ?_)
    refine (e_if_eq (hf := rfl)).trans ?_
    refine ite_in ?_ ?_
    · refine (evn_adv 1 (q' := (592, [some (.ref (88)), some (.ref 0), some (.ref 52), some (.int l3)], [.int (jn 0), .int v4, .ref 52, .int r3], M3)) rfl).trans ?_
      refine (e_kI (q := (592, [some (.ref (88)), some (.ref 0), some (.ref 52), some (.int l3)], [.int (jn 0), .int v4, .ref 52, .int r3])) (q2 := (595, [some (.ref (88)), some (.ref 0), some (.ref 52), some (.int l3)], [.int r3])) (M := M3) (o := (pcl GG lay d 96 [.ref 52, .int v4, .int (jn 0)] M3)) (hf := rfl) rfl rfl).trans ?_
      refine kI_in (fun r6 M6 => ?_)
      refine (e_ic_eq (hf := rfl)).trans ?_
      refine ite_in ?_ ?_
      · rfl
      · refine (evn_adv 1 (q' := (599, [some (.ref (88)), some (.ref 0), some (.ref 52), some (.int l3)], [.int (jn 0)], M6)) rfl).trans ?_
        exact e_iretz (hf := rfl)
    · refine (evn_adv 2 (q' := (592, [some (.ref (88)), some (.ref 0), some (.ref 52), some (.int l3)], [.int (jn 1), .int v4, .ref 52, .int r3], M3)) rfl).trans ?_
      refine (e_kI (q := (592, [some (.ref (88)), some (.ref 0), some (.ref 52), some (.int l3)], [.int (jn 1), .int v4, .ref 52, .int r3])) (q2 := (595, [some (.ref (88)), some (.ref 0), some (.ref 52), some (.int l3)], [.int r3])) (M := M3) (o := (pcl GG lay d 96 [.ref 52, .int v4, .int (jn 1)] M3)) (hf := rfl) rfl rfl).trans ?_
      refine kI_in (fun r6 M6 => ?_)
      refine (e_ic_eq (hf := rfl)).trans ?_
      refine ite_in ?_ ?_
      · rfl
      · refine (evn_adv 1 (q' := (599, [some (.ref (88)), some (.ref 0), some (.ref 52), some (.int l3)], [.int (jn 0)], M6)) rfl).trans ?_
        exact e_iretz (hf := rfl)
set_option maxRecDepth 100000 in
theorem h_276_600 (nS : Nat) (xs : Nat → Int32) (d : Nat) (l3 : Int32) (M : PM) : E_276 nS xs d (600, [some (.ref (88)), some (.ref 0), some (.ref 52), some (.int l3)], [], M) = (oB (aldI lay (some (nS, xs)) M (88) (l3 + (jn 1))) fun v1 => (oB (aldI lay (some (nS, xs)) M (88) (l3 + (jn 2))) fun v2 => (kI (pcl GG lay d 16 [.ref 0, .int v1, .int v2] M) fun r3 M3 => (oB (aldI lay (some (nS, xs)) M3 (88) (l3 + (jn 1))) fun v4 => (oB (aldI lay (some (nS, xs)) M3 (88) (l3 + (jn 2))) fun v5 => (kI (pcl GG lay d 98 [.ref 52, .int v4, .int v5] M3) fun r6 M6 => (if r3 = r6 then E_276 nS xs d (1520, [some (.ref (88)), some (.ref 0), some (.ref 52), some (.int l3)], [], M6) else (rZ (jn 0) M6)))))))) := by
  refine (evn_adv 5 (q' := (605, [some (.ref (88)), some (.ref 0), some (.ref 52), some (.int l3)], [.int (l3 + (jn 1)), .ref (88), .ref 0], M)) rfl).trans ?_
  refine (e_oB (q := (605, [some (.ref (88)), some (.ref 0), some (.ref 52), some (.int l3)], [.int (l3 + (jn 1)), .ref (88), .ref 0], M)) (o := (aldI lay (some (nS, xs)) M (88) (l3 + (jn 1)))) (f := fun v1 => (606, [some (.ref (88)), some (.ref 0), some (.ref 52), some (.int l3)], [.int v1, .ref 0], M)) (hf := rfl) rfl).trans ?_
  refine oB_in (fun v1 => ?_)
  refine (evn_adv 4 (q' := (610, [some (.ref (88)), some (.ref 0), some (.ref 52), some (.int l3)], [.int (l3 + (jn 2)), .ref (88), .int v1, .ref 0], M)) rfl).trans ?_
  refine (e_oB (q := (610, [some (.ref (88)), some (.ref 0), some (.ref 52), some (.int l3)], [.int (l3 + (jn 2)), .ref (88), .int v1, .ref 0], M)) (o := (aldI lay (some (nS, xs)) M (88) (l3 + (jn 2)))) (f := fun v2 => (611, [some (.ref (88)), some (.ref 0), some (.ref 52), some (.int l3)], [.int v2, .int v1, .ref 0], M)) (hf := rfl) rfl).trans ?_
  refine oB_in (fun v2 => ?_)
  refine (e_kI (q := (611, [some (.ref (88)), some (.ref 0), some (.ref 52), some (.int l3)], [.int v2, .int v1, .ref 0])) (q2 := (614, [some (.ref (88)), some (.ref 0), some (.ref 52), some (.int l3)], [])) (M := M) (o := (pcl GG lay d 16 [.ref 0, .int v1, .int v2] M)) (hf := rfl) rfl rfl).trans ?_
  refine kI_in (fun r3 M3 => ?_)
  refine (evn_adv 5 (q' := (619, [some (.ref (88)), some (.ref 0), some (.ref 52), some (.int l3)], [.int (l3 + (jn 1)), .ref (88), .ref 52, .int r3], M3)) rfl).trans ?_
  refine (e_oB (q := (619, [some (.ref (88)), some (.ref 0), some (.ref 52), some (.int l3)], [.int (l3 + (jn 1)), .ref (88), .ref 52, .int r3], M3)) (o := (aldI lay (some (nS, xs)) M3 (88) (l3 + (jn 1)))) (f := fun v4 => (620, [some (.ref (88)), some (.ref 0), some (.ref 52), some (.int l3)], [.int v4, .ref 52, .int r3], M3)) (hf := rfl) rfl).trans ?_
  refine oB_in (fun v4 => ?_)
  refine (evn_adv 4 (q' := (624, [some (.ref (88)), some (.ref 0), some (.ref 52), some (.int l3)], [.int (l3 + (jn 2)), .ref (88), .int v4, .ref 52, .int r3], M3)) rfl).trans ?_
  refine (e_oB (q := (624, [some (.ref (88)), some (.ref 0), some (.ref 52), some (.int l3)], [.int (l3 + (jn 2)), .ref (88), .int v4, .ref 52, .int r3], M3)) (o := (aldI lay (some (nS, xs)) M3 (88) (l3 + (jn 2)))) (f := fun v5 => (625, [some (.ref (88)), some (.ref 0), some (.ref 52), some (.int l3)], [.int v5, .int v4, .ref 52, .int r3], M3)) (hf := rfl) rfl).trans ?_
  refine oB_in (fun v5 => ?_)
  refine (e_kI (q := (625, [some (.ref (88)), some (.ref 0), some (.ref 52), some (.int l3)], [.int v5, .int v4, .ref 52, .int r3])) (q2 := (628, [some (.ref (88)), some (.ref 0), some (.ref 52), some (.int l3)], [.int r3])) (M := M3) (o := (pcl GG lay d 98 [.ref 52, .int v4, .int v5] M3)) (hf := rfl) rfl rfl).trans ?_
  refine kI_in (fun r6 M6 => ?_)
  refine (e_ic_eq (hf := rfl)).trans ?_
  refine ite_in ?_ ?_
  · rfl
  · refine (evn_adv 1 (q' := (632, [some (.ref (88)), some (.ref 0), some (.ref 52), some (.int l3)], [.int (jn 0)], M6)) rfl).trans ?_
    exact e_iretz (hf := rfl)
set_option maxRecDepth 100000 in
theorem h_276_633 (nS : Nat) (xs : Nat → Int32) (d : Nat) (l3 : Int32) (M : PM) : E_276 nS xs d (633, [some (.ref (88)), some (.ref 0), some (.ref 52), some (.int l3)], [], M) = (oB (aldI lay (some (nS, xs)) M (88) (l3 + (jn 1))) fun v1 => (oB (aldI lay (some (nS, xs)) M (88) (l3 + (jn 2))) fun v2 => (kI (pcl GG lay d 17 [.ref 0, .int v1, .int v2] M) fun r3 M3 => (oB (aldI lay (some (nS, xs)) M3 (88) (l3 + (jn 1))) fun v4 => (oB (aldI lay (some (nS, xs)) M3 (88) (l3 + (jn 2))) fun v5 => (kI (pcl GG lay d 101 [.ref 52, .int v4, .int v5] M3) fun r6 M6 => (if r3 = r6 then E_276 nS xs d (1520, [some (.ref (88)), some (.ref 0), some (.ref 52), some (.int l3)], [], M6) else (rZ (jn 0) M6)))))))) := by
  refine (evn_adv 5 (q' := (638, [some (.ref (88)), some (.ref 0), some (.ref 52), some (.int l3)], [.int (l3 + (jn 1)), .ref (88), .ref 0], M)) rfl).trans ?_
  refine (e_oB (q := (638, [some (.ref (88)), some (.ref 0), some (.ref 52), some (.int l3)], [.int (l3 + (jn 1)), .ref (88), .ref 0], M)) (o := (aldI lay (some (nS, xs)) M (88) (l3 + (jn 1)))) (f := fun v1 => (639, [some (.ref (88)), some (.ref 0), some (.ref 52), some (.int l3)], [.int v1, .ref 0], M)) (hf := rfl) rfl).trans ?_
  refine oB_in (fun v1 => ?_)
  refine (evn_adv 4 (q' := (643, [some (.ref (88)), some (.ref 0), some (.ref 52), some (.int l3)], [.int (l3 + (jn 2)), .ref (88), .int v1, .ref 0], M)) rfl).trans ?_
  refine (e_oB (q := (643, [some (.ref (88)), some (.ref 0), some (.ref 52), some (.int l3)], [.int (l3 + (jn 2)), .ref (88), .int v1, .ref 0], M)) (o := (aldI lay (some (nS, xs)) M (88) (l3 + (jn 2)))) (f := fun v2 => (644, [some (.ref (88)), some (.ref 0), some (.ref 52), some (.int l3)], [.int v2, .int v1, .ref 0], M)) (hf := rfl) rfl).trans ?_
  refine oB_in (fun v2 => ?_)
  refine (e_kI (q := (644, [some (.ref (88)), some (.ref 0), some (.ref 52), some (.int l3)], [.int v2, .int v1, .ref 0])) (q2 := (647, [some (.ref (88)), some (.ref 0), some (.ref 52), some (.int l3)], [])) (M := M) (o := (pcl GG lay d 17 [.ref 0, .int v1, .int v2] M)) (hf := rfl) rfl rfl).trans ?_
  refine kI_in (fun r3 M3 => ?_)
  refine (evn_adv 5 (q' := (652, [some (.ref (88)), some (.ref 0), some (.ref 52), some (.int l3)], [.int (l3 + (jn 1)), .ref (88), .ref 52, .int r3], M3)) rfl).trans ?_
  refine (e_oB (q := (652, [some (.ref (88)), some (.ref 0), some (.ref 52), some (.int l3)], [.int (l3 + (jn 1)), .ref (88), .ref 52, .int r3], M3)) (o := (aldI lay (some (nS, xs)) M3 (88) (l3 + (jn 1)))) (f := fun v4 => (653, [some (.ref (88)), some (.ref 0), some (.ref 52), some (.int l3)], [.int v4, .ref 52, .int r3], M3)) (hf := rfl) rfl).trans ?_
  refine oB_in (fun v4 => ?_)
  refine (evn_adv 4 (q' := (657, [some (.ref (88)), some (.ref 0), some (.ref 52), some (.int l3)], [.int (l3 + (jn 2)), .ref (88), .int v4, .ref 52, .int r3], M3)) rfl).trans ?_
  refine (e_oB (q := (657, [some (.ref (88)), some (.ref 0), some (.ref 52), some (.int l3)], [.int (l3 + (jn 2)), .ref (88), .int v4, .ref 52, .int r3], M3)) (o := (aldI lay (some (nS, xs)) M3 (88) (l3 + (jn 2)))) (f := fun v5 => (658, [some (.ref (88)), some (.ref 0), some (.ref 52), some (.int l3)], [.int v5, .int v4, .ref 52, .int r3], M3)) (hf := rfl) rfl).trans ?_
  refine oB_in (fun v5 => ?_)
  refine (e_kI (q := (658, [some (.ref (88)), some (.ref 0), some (.ref 52), some (.int l3)], [.int v5, .int v4, .ref 52, .int r3])) (q2 := (661, [some (.ref (88)), some (.ref 0), some (.ref 52), some (.int l3)], [.int r3])) (M := M3) (o := (pcl GG lay d 101 [.ref 52, .int v4, .int v5] M3)) (hf := rfl) rfl rfl).trans ?_
  refine kI_in (fun r6 M6 => ?_)
  refine (e_ic_eq (hf := rfl)).trans ?_
  refine ite_in ?_ ?_
  · rfl
  · refine (evn_adv 1 (q' := (665, [some (.ref (88)), some (.ref 0), some (.ref 52), some (.int l3)], [.int (jn 0)], M6)) rfl).trans ?_
    exact e_iretz (hf := rfl)
set_option maxRecDepth 100000 in
theorem h_276_666 (nS : Nat) (xs : Nat → Int32) (d : Nat) (l3 : Int32) (M : PM) : E_276 nS xs d (666, [some (.ref (88)), some (.ref 0), some (.ref 52), some (.int l3)], [], M) = (oB (aldI lay (some (nS, xs)) M (88) (l3 + (jn 1))) fun v1 => (oB (aldI lay (some (nS, xs)) M (88) (l3 + (jn 2))) fun v2 => (kL (pcl GG lay d 18 [.ref 0, .int v1, .int v2] M) fun r3 M3 => (oB (aldI lay (some (nS, xs)) M3 (88) (l3 + (jn 1))) fun v4 => (oB (aldI lay (some (nS, xs)) M3 (88) (l3 + (jn 2))) fun v5 => (kL (pcl GG lay d 103 [.ref 52, .int v4, .int v5] M3) fun r6 M6 => (if (lg_cmp r3 r6) = jn 0 then E_276 nS xs d (1520, [some (.ref (88)), some (.ref 0), some (.ref 52), some (.int l3)], [], M6) else (rZ (jn 0) M6)))))))) := by
  refine (evn_adv 5 (q' := (671, [some (.ref (88)), some (.ref 0), some (.ref 52), some (.int l3)], [.int (l3 + (jn 1)), .ref (88), .ref 0], M)) rfl).trans ?_
  refine (e_oB (q := (671, [some (.ref (88)), some (.ref 0), some (.ref 52), some (.int l3)], [.int (l3 + (jn 1)), .ref (88), .ref 0], M)) (o := (aldI lay (some (nS, xs)) M (88) (l3 + (jn 1)))) (f := fun v1 => (672, [some (.ref (88)), some (.ref 0), some (.ref 52), some (.int l3)], [.int v1, .ref 0], M)) (hf := rfl) rfl).trans ?_
  refine oB_in (fun v1 => ?_)
  refine (evn_adv 4 (q' := (676, [some (.ref (88)), some (.ref 0), some (.ref 52), some (.int l3)], [.int (l3 + (jn 2)), .ref (88), .int v1, .ref 0], M)) rfl).trans ?_
  refine (e_oB (q := (676, [some (.ref (88)), some (.ref 0), some (.ref 52), some (.int l3)], [.int (l3 + (jn 2)), .ref (88), .int v1, .ref 0], M)) (o := (aldI lay (some (nS, xs)) M (88) (l3 + (jn 2)))) (f := fun v2 => (677, [some (.ref (88)), some (.ref 0), some (.ref 52), some (.int l3)], [.int v2, .int v1, .ref 0], M)) (hf := rfl) rfl).trans ?_
  refine oB_in (fun v2 => ?_)
  refine (e_kL (q := (677, [some (.ref (88)), some (.ref 0), some (.ref 52), some (.int l3)], [.int v2, .int v1, .ref 0])) (q2 := (680, [some (.ref (88)), some (.ref 0), some (.ref 52), some (.int l3)], [])) (M := M) (o := (pcl GG lay d 18 [.ref 0, .int v1, .int v2] M)) (hf := rfl) rfl rfl).trans ?_
  refine kL_in (fun r3 M3 => ?_)
  refine (evn_adv 5 (q' := (685, [some (.ref (88)), some (.ref 0), some (.ref 52), some (.int l3)], [.int (l3 + (jn 1)), .ref (88), .ref 52, .long r3], M3)) rfl).trans ?_
  refine (e_oB (q := (685, [some (.ref (88)), some (.ref 0), some (.ref 52), some (.int l3)], [.int (l3 + (jn 1)), .ref (88), .ref 52, .long r3], M3)) (o := (aldI lay (some (nS, xs)) M3 (88) (l3 + (jn 1)))) (f := fun v4 => (686, [some (.ref (88)), some (.ref 0), some (.ref 52), some (.int l3)], [.int v4, .ref 52, .long r3], M3)) (hf := rfl) rfl).trans ?_
  refine oB_in (fun v4 => ?_)
  refine (evn_adv 4 (q' := (690, [some (.ref (88)), some (.ref 0), some (.ref 52), some (.int l3)], [.int (l3 + (jn 2)), .ref (88), .int v4, .ref 52, .long r3], M3)) rfl).trans ?_
  refine (e_oB (q := (690, [some (.ref (88)), some (.ref 0), some (.ref 52), some (.int l3)], [.int (l3 + (jn 2)), .ref (88), .int v4, .ref 52, .long r3], M3)) (o := (aldI lay (some (nS, xs)) M3 (88) (l3 + (jn 2)))) (f := fun v5 => (691, [some (.ref (88)), some (.ref 0), some (.ref 52), some (.int l3)], [.int v5, .int v4, .ref 52, .long r3], M3)) (hf := rfl) rfl).trans ?_
  refine oB_in (fun v5 => ?_)
  refine (e_kL (q := (691, [some (.ref (88)), some (.ref 0), some (.ref 52), some (.int l3)], [.int v5, .int v4, .ref 52, .long r3])) (q2 := (694, [some (.ref (88)), some (.ref 0), some (.ref 52), some (.int l3)], [.long r3])) (M := M3) (o := (pcl GG lay d 103 [.ref 52, .int v4, .int v5] M3)) (hf := rfl) rfl rfl).trans ?_
  refine kL_in (fun r6 M6 => ?_)
  refine (evn_adv 1 (q' := (695, [some (.ref (88)), some (.ref 0), some (.ref 52), some (.int l3)], [.int (lg_cmp r3 r6)], M6)) rfl).trans ?_
  refine (e_if_eq (hf := rfl)).trans ?_
  refine ite_in ?_ ?_
  · rfl
  · refine (evn_adv 1 (q' := (699, [some (.ref (88)), some (.ref 0), some (.ref 52), some (.int l3)], [.int (jn 0)], M6)) rfl).trans ?_
    exact e_iretz (hf := rfl)
set_option maxRecDepth 100000 in
theorem h_276_700 (nS : Nat) (xs : Nat → Int32) (d : Nat) (l3 : Int32) (M : PM) : E_276 nS xs d (700, [some (.ref (88)), some (.ref 0), some (.ref 52), some (.int l3)], [], M) = (oB (aldI lay (some (nS, xs)) M (88) (l3 + (jn 1))) fun v1 => (oB (aldI lay (some (nS, xs)) M (88) (l3 + (jn 2))) fun v2 => (kI (pcl GG lay d 19 [.ref 0, .int v1, .int v2] M) fun r3 M3 => (oB (aldI lay (some (nS, xs)) M3 (88) (l3 + (jn 1))) fun v4 => (oB (aldI lay (some (nS, xs)) M3 (88) (l3 + (jn 2))) fun v5 => (kI (pcl GG lay d 106 [.ref 52, .int v4, .int v5] M3) fun r6 M6 => (if r3 = r6 then E_276 nS xs d (1520, [some (.ref (88)), some (.ref 0), some (.ref 52), some (.int l3)], [], M6) else (rZ (jn 0) M6)))))))) := by
  refine (evn_adv 5 (q' := (705, [some (.ref (88)), some (.ref 0), some (.ref 52), some (.int l3)], [.int (l3 + (jn 1)), .ref (88), .ref 0], M)) rfl).trans ?_
  refine (e_oB (q := (705, [some (.ref (88)), some (.ref 0), some (.ref 52), some (.int l3)], [.int (l3 + (jn 1)), .ref (88), .ref 0], M)) (o := (aldI lay (some (nS, xs)) M (88) (l3 + (jn 1)))) (f := fun v1 => (706, [some (.ref (88)), some (.ref 0), some (.ref 52), some (.int l3)], [.int v1, .ref 0], M)) (hf := rfl) rfl).trans ?_
  refine oB_in (fun v1 => ?_)
  refine (evn_adv 4 (q' := (710, [some (.ref (88)), some (.ref 0), some (.ref 52), some (.int l3)], [.int (l3 + (jn 2)), .ref (88), .int v1, .ref 0], M)) rfl).trans ?_
  refine (e_oB (q := (710, [some (.ref (88)), some (.ref 0), some (.ref 52), some (.int l3)], [.int (l3 + (jn 2)), .ref (88), .int v1, .ref 0], M)) (o := (aldI lay (some (nS, xs)) M (88) (l3 + (jn 2)))) (f := fun v2 => (711, [some (.ref (88)), some (.ref 0), some (.ref 52), some (.int l3)], [.int v2, .int v1, .ref 0], M)) (hf := rfl) rfl).trans ?_
  refine oB_in (fun v2 => ?_)
  refine (e_kI (q := (711, [some (.ref (88)), some (.ref 0), some (.ref 52), some (.int l3)], [.int v2, .int v1, .ref 0])) (q2 := (714, [some (.ref (88)), some (.ref 0), some (.ref 52), some (.int l3)], [])) (M := M) (o := (pcl GG lay d 19 [.ref 0, .int v1, .int v2] M)) (hf := rfl) rfl rfl).trans ?_
  refine kI_in (fun r3 M3 => ?_)
  refine (evn_adv 5 (q' := (719, [some (.ref (88)), some (.ref 0), some (.ref 52), some (.int l3)], [.int (l3 + (jn 1)), .ref (88), .ref 52, .int r3], M3)) rfl).trans ?_
  refine (e_oB (q := (719, [some (.ref (88)), some (.ref 0), some (.ref 52), some (.int l3)], [.int (l3 + (jn 1)), .ref (88), .ref 52, .int r3], M3)) (o := (aldI lay (some (nS, xs)) M3 (88) (l3 + (jn 1)))) (f := fun v4 => (720, [some (.ref (88)), some (.ref 0), some (.ref 52), some (.int l3)], [.int v4, .ref 52, .int r3], M3)) (hf := rfl) rfl).trans ?_
  refine oB_in (fun v4 => ?_)
  refine (evn_adv 4 (q' := (724, [some (.ref (88)), some (.ref 0), some (.ref 52), some (.int l3)], [.int (l3 + (jn 2)), .ref (88), .int v4, .ref 52, .int r3], M3)) rfl).trans ?_
  refine (e_oB (q := (724, [some (.ref (88)), some (.ref 0), some (.ref 52), some (.int l3)], [.int (l3 + (jn 2)), .ref (88), .int v4, .ref 52, .int r3], M3)) (o := (aldI lay (some (nS, xs)) M3 (88) (l3 + (jn 2)))) (f := fun v5 => (725, [some (.ref (88)), some (.ref 0), some (.ref 52), some (.int l3)], [.int v5, .int v4, .ref 52, .int r3], M3)) (hf := rfl) rfl).trans ?_
  refine oB_in (fun v5 => ?_)
  refine (e_kI (q := (725, [some (.ref (88)), some (.ref 0), some (.ref 52), some (.int l3)], [.int v5, .int v4, .ref 52, .int r3])) (q2 := (728, [some (.ref (88)), some (.ref 0), some (.ref 52), some (.int l3)], [.int r3])) (M := M3) (o := (pcl GG lay d 106 [.ref 52, .int v4, .int v5] M3)) (hf := rfl) rfl rfl).trans ?_
  refine kI_in (fun r6 M6 => ?_)
  refine (e_ic_eq (hf := rfl)).trans ?_
  refine ite_in ?_ ?_
  · rfl
  · refine (evn_adv 1 (q' := (732, [some (.ref (88)), some (.ref 0), some (.ref 52), some (.int l3)], [.int (jn 0)], M6)) rfl).trans ?_
    exact e_iretz (hf := rfl)
set_option maxRecDepth 100000 in
theorem h_276_733 (nS : Nat) (xs : Nat → Int32) (d : Nat) (l3 : Int32) (M : PM) : E_276 nS xs d (733, [some (.ref (88)), some (.ref 0), some (.ref 52), some (.int l3)], [], M) = (oB (aldI lay (some (nS, xs)) M (88) (l3 + (jn 1))) fun v1 => (oB (aldI lay (some (nS, xs)) M (88) (l3 + (jn 2))) fun v2 => (kI (pcl GG lay d 20 [.ref 0, .int v1, .int v2] M) fun r3 M3 => (oB (aldI lay (some (nS, xs)) M3 (88) (l3 + (jn 1))) fun v4 => (oB (aldI lay (some (nS, xs)) M3 (88) (l3 + (jn 2))) fun v5 => (kI (pcl GG lay d 107 [.ref 52, .int v4, .int v5] M3) fun r6 M6 => (if r3 = r6 then E_276 nS xs d (1520, [some (.ref (88)), some (.ref 0), some (.ref 52), some (.int l3)], [], M6) else (rZ (jn 0) M6)))))))) := by
  refine (evn_adv 5 (q' := (738, [some (.ref (88)), some (.ref 0), some (.ref 52), some (.int l3)], [.int (l3 + (jn 1)), .ref (88), .ref 0], M)) rfl).trans ?_
  refine (e_oB (q := (738, [some (.ref (88)), some (.ref 0), some (.ref 52), some (.int l3)], [.int (l3 + (jn 1)), .ref (88), .ref 0], M)) (o := (aldI lay (some (nS, xs)) M (88) (l3 + (jn 1)))) (f := fun v1 => (739, [some (.ref (88)), some (.ref 0), some (.ref 52), some (.int l3)], [.int v1, .ref 0], M)) (hf := rfl) rfl).trans ?_
  refine oB_in (fun v1 => ?_)
  refine (evn_adv 4 (q' := (743, [some (.ref (88)), some (.ref 0), some (.ref 52), some (.int l3)], [.int (l3 + (jn 2)), .ref (88), .int v1, .ref 0], M)) rfl).trans ?_
  refine (e_oB (q := (743, [some (.ref (88)), some (.ref 0), some (.ref 52), some (.int l3)], [.int (l3 + (jn 2)), .ref (88), .int v1, .ref 0], M)) (o := (aldI lay (some (nS, xs)) M (88) (l3 + (jn 2)))) (f := fun v2 => (744, [some (.ref (88)), some (.ref 0), some (.ref 52), some (.int l3)], [.int v2, .int v1, .ref 0], M)) (hf := rfl) rfl).trans ?_
  refine oB_in (fun v2 => ?_)
  refine (e_kI (q := (744, [some (.ref (88)), some (.ref 0), some (.ref 52), some (.int l3)], [.int v2, .int v1, .ref 0])) (q2 := (747, [some (.ref (88)), some (.ref 0), some (.ref 52), some (.int l3)], [])) (M := M) (o := (pcl GG lay d 20 [.ref 0, .int v1, .int v2] M)) (hf := rfl) rfl rfl).trans ?_
  refine kI_in (fun r3 M3 => ?_)
  refine (evn_adv 5 (q' := (752, [some (.ref (88)), some (.ref 0), some (.ref 52), some (.int l3)], [.int (l3 + (jn 1)), .ref (88), .ref 52, .int r3], M3)) rfl).trans ?_
  refine (e_oB (q := (752, [some (.ref (88)), some (.ref 0), some (.ref 52), some (.int l3)], [.int (l3 + (jn 1)), .ref (88), .ref 52, .int r3], M3)) (o := (aldI lay (some (nS, xs)) M3 (88) (l3 + (jn 1)))) (f := fun v4 => (753, [some (.ref (88)), some (.ref 0), some (.ref 52), some (.int l3)], [.int v4, .ref 52, .int r3], M3)) (hf := rfl) rfl).trans ?_
  refine oB_in (fun v4 => ?_)
  refine (evn_adv 4 (q' := (757, [some (.ref (88)), some (.ref 0), some (.ref 52), some (.int l3)], [.int (l3 + (jn 2)), .ref (88), .int v4, .ref 52, .int r3], M3)) rfl).trans ?_
  refine (e_oB (q := (757, [some (.ref (88)), some (.ref 0), some (.ref 52), some (.int l3)], [.int (l3 + (jn 2)), .ref (88), .int v4, .ref 52, .int r3], M3)) (o := (aldI lay (some (nS, xs)) M3 (88) (l3 + (jn 2)))) (f := fun v5 => (758, [some (.ref (88)), some (.ref 0), some (.ref 52), some (.int l3)], [.int v5, .int v4, .ref 52, .int r3], M3)) (hf := rfl) rfl).trans ?_
  refine oB_in (fun v5 => ?_)
  refine (e_kI (q := (758, [some (.ref (88)), some (.ref 0), some (.ref 52), some (.int l3)], [.int v5, .int v4, .ref 52, .int r3])) (q2 := (761, [some (.ref (88)), some (.ref 0), some (.ref 52), some (.int l3)], [.int r3])) (M := M3) (o := (pcl GG lay d 107 [.ref 52, .int v4, .int v5] M3)) (hf := rfl) rfl rfl).trans ?_
  refine kI_in (fun r6 M6 => ?_)
  refine (e_ic_eq (hf := rfl)).trans ?_
  refine ite_in ?_ ?_
  · rfl
  · refine (evn_adv 1 (q' := (765, [some (.ref (88)), some (.ref 0), some (.ref 52), some (.int l3)], [.int (jn 0)], M6)) rfl).trans ?_
    exact e_iretz (hf := rfl)
set_option maxRecDepth 100000 in
theorem h_276_766 (nS : Nat) (xs : Nat → Int32) (d : Nat) (l3 : Int32) (M : PM) : E_276 nS xs d (766, [some (.ref (88)), some (.ref 0), some (.ref 52), some (.int l3)], [], M) = (oB (aldI lay (some (nS, xs)) M (88) (l3 + (jn 1))) fun v1 => (oB (aldI lay (some (nS, xs)) M (88) (l3 + (jn 2))) fun v2 => (if v2 = jn 0 then (oB (aldI lay (some (nS, xs)) M (88) (l3 + (jn 3))) fun v3 => (kI (pcl GG lay d 21 [.ref 0, .int v1, .int (jn 0), .int v3] M) fun r4 M4 => (oB (aldI lay (some (nS, xs)) M4 (88) (l3 + (jn 1))) fun v5 => (oB (aldI lay (some (nS, xs)) M4 (88) (l3 + (jn 2))) fun v6 => (if v6 = jn 0 then (oB (aldI lay (some (nS, xs)) M4 (88) (l3 + (jn 3))) fun v7 => (kI (pcl GG lay d 108 [.ref 52, .int v5, .int (jn 0), .int v7] M4) fun r8 M8 => (if r4 = r8 then E_276 nS xs d (1520, [some (.ref (88)), some (.ref 0), some (.ref 52), some (.int l3)], [], M8) else (rZ (jn 0) M8)))) else (oB (aldI lay (some (nS, xs)) M4 (88) (l3 + (jn 3))) fun v7 => (kI (pcl GG lay d 108 [.ref 52, .int v5, .int (jn 1), .int v7] M4) fun r8 M8 => (if r4 = r8 then E_276 nS xs d (1520, [some (.ref (88)), some (.ref 0), some (.ref 52), some (.int l3)], [], M8) else (rZ (jn 0) M8))))))))) else (oB (aldI lay (some (nS, xs)) M (88) (l3 + (jn 3))) fun v3 => (kI (pcl GG lay d 21 [.ref 0, .int v1, .int (jn 1), .int v3] M) fun r4 M4 => (oB (aldI lay (some (nS, xs)) M4 (88) (l3 + (jn 1))) fun v5 => (oB (aldI lay (some (nS, xs)) M4 (88) (l3 + (jn 2))) fun v6 => (if v6 = jn 0 then (oB (aldI lay (some (nS, xs)) M4 (88) (l3 + (jn 3))) fun v7 => (kI (pcl GG lay d 108 [.ref 52, .int v5, .int (jn 0), .int v7] M4) fun r8 M8 => (if r4 = r8 then E_276 nS xs d (1520, [some (.ref (88)), some (.ref 0), some (.ref 52), some (.int l3)], [], M8) else (rZ (jn 0) M8)))) else (oB (aldI lay (some (nS, xs)) M4 (88) (l3 + (jn 3))) fun v7 => (kI (pcl GG lay d 108 [.ref 52, .int v5, .int (jn 1), .int v7] M4) fun r8 M8 => (if r4 = r8 then E_276 nS xs d (1520, [some (.ref (88)), some (.ref 0), some (.ref 52), some (.int l3)], [], M8) else (rZ (jn 0) M8)))))))))))) := by
  refine (evn_adv 5 (q' := (771, [some (.ref (88)), some (.ref 0), some (.ref 52), some (.int l3)], [.int (l3 + (jn 1)), .ref (88), .ref 0], M)) rfl).trans ?_
  refine (e_oB (q := (771, [some (.ref (88)), some (.ref 0), some (.ref 52), some (.int l3)], [.int (l3 + (jn 1)), .ref (88), .ref 0], M)) (o := (aldI lay (some (nS, xs)) M (88) (l3 + (jn 1)))) (f := fun v1 => (772, [some (.ref (88)), some (.ref 0), some (.ref 52), some (.int l3)], [.int v1, .ref 0], M)) (hf := rfl) rfl).trans ?_
  refine oB_in (fun v1 => ?_)
  refine (evn_adv 4 (q' := (776, [some (.ref (88)), some (.ref 0), some (.ref 52), some (.int l3)], [.int (l3 + (jn 2)), .ref (88), .int v1, .ref 0], M)) rfl).trans ?_
  refine (e_oB (q := (776, [some (.ref (88)), some (.ref 0), some (.ref 52), some (.int l3)], [.int (l3 + (jn 2)), .ref (88), .int v1, .ref 0], M)) (o := (aldI lay (some (nS, xs)) M (88) (l3 + (jn 2)))) (f := fun v2 => (777, [some (.ref (88)), some (.ref 0), some (.ref 52), some (.int l3)], [.int v2, .int v1, .ref 0], M)) (hf := rfl) rfl).trans ?_
  refine oB_in (fun v2 => ?_)
  refine (e_if_eq (hf := rfl)).trans ?_
  refine ite_in ?_ ?_
  · refine (evn_adv 5 (q' := (789, [some (.ref (88)), some (.ref 0), some (.ref 52), some (.int l3)], [.int (l3 + (jn 3)), .ref (88), .int (jn 0), .int v1, .ref 0], M)) rfl).trans ?_
    refine (e_oB (q := (789, [some (.ref (88)), some (.ref 0), some (.ref 52), some (.int l3)], [.int (l3 + (jn 3)), .ref (88), .int (jn 0), .int v1, .ref 0], M)) (o := (aldI lay (some (nS, xs)) M (88) (l3 + (jn 3)))) (f := fun v3 => (790, [some (.ref (88)), some (.ref 0), some (.ref 52), some (.int l3)], [.int v3, .int (jn 0), .int v1, .ref 0], M)) (hf := rfl) rfl).trans ?_
    refine oB_in (fun v3 => ?_)
    refine (e_kI (q := (790, [some (.ref (88)), some (.ref 0), some (.ref 52), some (.int l3)], [.int v3, .int (jn 0), .int v1, .ref 0])) (q2 := (793, [some (.ref (88)), some (.ref 0), some (.ref 52), some (.int l3)], [])) (M := M) (o := (pcl GG lay d 21 [.ref 0, .int v1, .int (jn 0), .int v3] M)) (hf := rfl) rfl rfl).trans ?_
    refine kI_in (fun r4 M4 => ?_)
    refine (evn_adv 5 (q' := (798, [some (.ref (88)), some (.ref 0), some (.ref 52), some (.int l3)], [.int (l3 + (jn 1)), .ref (88), .ref 52, .int r4], M4)) rfl).trans ?_
    refine (e_oB (q := (798, [some (.ref (88)), some (.ref 0), some (.ref 52), some (.int l3)], [.int (l3 + (jn 1)), .ref (88), .ref 52, .int r4], M4)) (o := (aldI lay (some (nS, xs)) M4 (88) (l3 + (jn 1)))) (f := fun v5 => (799, [some (.ref (88)), some (.ref 0), some (.ref 52), some (.int l3)], [.int v5, .ref 52, .int r4], M4)) (hf := rfl) rfl).trans ?_
    refine oB_in (fun v5 => ?_)
    refine (evn_adv 4 (q' := (803, [some (.ref (88)), some (.ref 0), some (.ref 52), some (.int l3)], [.int (l3 + (jn 2)), .ref (88), .int v5, .ref 52, .int r4], M4)) rfl).trans ?_
    refine (e_oB (q := (803, [some (.ref (88)), some (.ref 0), some (.ref 52), some (.int l3)], [.int (l3 + (jn 2)), .ref (88), .int v5, .ref 52, .int r4], M4)) (o := (aldI lay (some (nS, xs)) M4 (88) (l3 + (jn 2)))) (f := fun v6 => (804, [some (.ref (88)), some (.ref 0), some (.ref 52), some (.int l3)], [.int v6, .int v5, .ref 52, .int r4], M4)) (hf := rfl) rfl).trans ?_
    refine oB_in (fun v6 => ?_)
    refine (e_if_eq (hf := rfl)).trans ?_
    refine ite_in ?_ ?_
    · refine (evn_adv 5 (q' := (816, [some (.ref (88)), some (.ref 0), some (.ref 52), some (.int l3)], [.int (l3 + (jn 3)), .ref (88), .int (jn 0), .int v5, .ref 52, .int r4], M4)) rfl).trans ?_
      refine (e_oB (q := (816, [some (.ref (88)), some (.ref 0), some (.ref 52), some (.int l3)], [.int (l3 + (jn 3)), .ref (88), .int (jn 0), .int v5, .ref 52, .int r4], M4)) (o := (aldI lay (some (nS, xs)) M4 (88) (l3 + (jn 3)))) (f := fun v7 => (817, [some (.ref (88)), some (.ref 0), some (.ref 52), some (.int l3)], [.int v7, .int (jn 0), .int v5, .ref 52, .int r4], M4)) (hf := rfl) rfl).trans ?_
      refine oB_in (fun v7 => ?_)
      refine (e_kI (q := (817, [some (.ref (88)), some (.ref 0), some (.ref 52), some (.int l3)], [.int v7, .int (jn 0), .int v5, .ref 52, .int r4])) (q2 := (820, [some (.ref (88)), some (.ref 0), some (.ref 52), some (.int l3)], [.int r4])) (M := M4) (o := (pcl GG lay d 108 [.ref 52, .int v5, .int (jn 0), .int v7] M4)) (hf := rfl) rfl rfl).trans ?_
      refine kI_in (fun r8 M8 => ?_)
      refine (e_ic_eq (hf := rfl)).trans ?_
      refine ite_in ?_ ?_
      · rfl
      · refine (evn_adv 1 (q' := (824, [some (.ref (88)), some (.ref 0), some (.ref 52), some (.int l3)], [.int (jn 0)], M8)) rfl).trans ?_
        exact e_iretz (hf := rfl)
    · refine (evn_adv 6 (q' := (816, [some (.ref (88)), some (.ref 0), some (.ref 52), some (.int l3)], [.int (l3 + (jn 3)), .ref (88), .int (jn 1), .int v5, .ref 52, .int r4], M4)) rfl).trans ?_
      refine (e_oB (q := (816, [some (.ref (88)), some (.ref 0), some (.ref 52), some (.int l3)], [.int (l3 + (jn 3)), .ref (88), .int (jn 1), .int v5, .ref 52, .int r4], M4)) (o := (aldI lay (some (nS, xs)) M4 (88) (l3 + (jn 3)))) (f := fun v7 => (817, [some (.ref (88)), some (.ref 0), some (.ref 52), some (.int l3)], [.int v7, .int (jn 1), .int v5, .ref 52, .int r4], M4)) (hf := rfl) rfl).trans ?_
      refine oB_in (fun v7 => ?_)
      refine (e_kI (q := (817, [some (.ref (88)), some (.ref 0), some (.ref 52), some (.int l3)], [.int v7, .int (jn 1), .int v5, .ref 52, .int r4])) (q2 := (820, [some (.ref (88)), some (.ref 0), some (.ref 52), some (.int l3)], [.int r4])) (M := M4) (o := (pcl GG lay d 108 [.ref 52, .int v5, .int (jn 1), .int v7] M4)) (hf := rfl) rfl rfl).trans ?_
      refine kI_in (fun r8 M8 => ?_)
      refine (e_ic_eq (hf := rfl)).trans ?_
      refine ite_in ?_ ?_
      · rfl
      · refine (evn_adv 1 (q' := (824, [some (.ref (88)), some (.ref 0), some (.ref 52), some (.int l3)], [.int (jn 0)], M8)) rfl).trans ?_
        exact e_iretz (hf := rfl)
  · refine (evn_adv 6 (q' := (789, [some (.ref (88)), some (.ref 0), some (.ref 52), some (.int l3)], [.int (l3 + (jn 3)), .ref (88), .int (jn 1), .int v1, .ref 0], M)) rfl).trans ?_
    refine (e_oB (q := (789, [some (.ref (88)), some (.ref 0), some (.ref 52), some (.int l3)], [.int (l3 + (jn 3)), .ref (88), .int (jn 1), .int v1, .ref 0], M)) (o := (aldI lay (some (nS, xs)) M (88) (l3 + (jn 3)))) (f := fun v3 => (790, [some (.ref (88)), some (.ref 0), some (.ref 52), some (.int l3)], [.int v3, .int (jn 1), .int v1, .ref 0], M)) (hf := rfl) rfl).trans ?_
    refine oB_in (fun v3 => ?_)
    refine (e_kI (q := (790, [some (.ref (88)), some (.ref 0), some (.ref 52), some (.int l3)], [.int v3, .int (jn 1), .int v1, .ref 0])) (q2 := (793, [some (.ref (88)), some (.ref 0), some (.ref 52), some (.int l3)], [])) (M := M) (o := (pcl GG lay d 21 [.ref 0, .int v1, .int (jn 1), .int v3] M)) (hf := rfl) rfl rfl).trans ?_
    refine kI_in (fun r4 M4 => ?_)
    refine (evn_adv 5 (q' := (798, [some (.ref (88)), some (.ref 0), some (.ref 52), some (.int l3)], [.int (l3 + (jn 1)), .ref (88), .ref 52, .int r4], M4)) rfl).trans ?_
    refine (e_oB (q := (798, [some (.ref (88)), some (.ref 0), some (.ref 52), some (.int l3)], [.int (l3 + (jn 1)), .ref (88), .ref 52, .int r4], M4)) (o := (aldI lay (some (nS, xs)) M4 (88) (l3 + (jn 1)))) (f := fun v5 => (799, [some (.ref (88)), some (.ref 0), some (.ref 52), some (.int l3)], [.int v5, .ref 52, .int r4], M4)) (hf := rfl) rfl).trans ?_
    refine oB_in (fun v5 => ?_)
    refine (evn_adv 4 (q' := (803, [some (.ref (88)), some (.ref 0), some (.ref 52), some (.int l3)], [.int (l3 + (jn 2)), .ref (88), .int v5, .ref 52, .int r4], M4)) rfl).trans ?_
    refine (e_oB (q := (803, [some (.ref (88)), some (.ref 0), some (.ref 52), some (.int l3)], [.int (l3 + (jn 2)), .ref (88), .int v5, .ref 52, .int r4], M4)) (o := (aldI lay (some (nS, xs)) M4 (88) (l3 + (jn 2)))) (f := fun v6 => (804, [some (.ref (88)), some (.ref 0), some (.ref 52), some (.int l3)], [.int v6, .int v5, .ref 52, .int r4], M4)) (hf := rfl) rfl).trans ?_
    refine oB_in (fun v6 => ?_)
    refine (e_if_eq (hf := rfl)).trans ?_
    refine ite_in ?_ ?_
    · refine (evn_adv 5 (q' := (816, [some (.ref (88)), some (.ref 0), some (.ref 52), some (.int l3)], [.int (l3 + (jn 3)), .ref (88), .int (jn 0), .int v5, .ref 52, .int r4], M4)) rfl).trans ?_
      refine (e_oB (q := (816, [some (.ref (88)), some (.ref 0), some (.ref 52), some (.int l3)], [.int (l3 + (jn 3)), .ref (88), .int (jn 0), .int v5, .ref 52, .int r4], M4)) (o := (aldI lay (some (nS, xs)) M4 (88) (l3 + (jn 3)))) (f := fun v7 => (817, [some (.ref (88)), some (.ref 0), some (.ref 52), some (.int l3)], [.int v7, .int (jn 0), .int v5, .ref 52, .int r4], M4)) (hf := rfl) rfl).trans ?_
      refine oB_in (fun v7 => ?_)
      refine (e_kI (q := (817, [some (.ref (88)), some (.ref 0), some (.ref 52), some (.int l3)], [.int v7, .int (jn 0), .int v5, .ref 52, .int r4])) (q2 := (820, [some (.ref (88)), some (.ref 0), some (.ref 52), some (.int l3)], [.int r4])) (M := M4) (o := (pcl GG lay d 108 [.ref 52, .int v5, .int (jn 0), .int v7] M4)) (hf := rfl) rfl rfl).trans ?_
      refine kI_in (fun r8 M8 => ?_)
      refine (e_ic_eq (hf := rfl)).trans ?_
      refine ite_in ?_ ?_
      · rfl
      · refine (evn_adv 1 (q' := (824, [some (.ref (88)), some (.ref 0), some (.ref 52), some (.int l3)], [.int (jn 0)], M8)) rfl).trans ?_
        exact e_iretz (hf := rfl)
    · refine (evn_adv 6 (q' := (816, [some (.ref (88)), some (.ref 0), some (.ref 52), some (.int l3)], [.int (l3 + (jn 3)), .ref (88), .int (jn 1), .int v5, .ref 52, .int r4], M4)) rfl).trans ?_
      refine (e_oB (q := (816, [some (.ref (88)), some (.ref 0), some (.ref 52), some (.int l3)], [.int (l3 + (jn 3)), .ref (88), .int (jn 1), .int v5, .ref 52, .int r4], M4)) (o := (aldI lay (some (nS, xs)) M4 (88) (l3 + (jn 3)))) (f := fun v7 => (817, [some (.ref (88)), some (.ref 0), some (.ref 52), some (.int l3)], [.int v7, .int (jn 1), .int v5, .ref 52, .int r4], M4)) (hf := rfl) rfl).trans ?_
      refine oB_in (fun v7 => ?_)
      refine (e_kI (q := (817, [some (.ref (88)), some (.ref 0), some (.ref 52), some (.int l3)], [.int v7, .int (jn 1), .int v5, .ref 52, .int r4])) (q2 := (820, [some (.ref (88)), some (.ref 0), some (.ref 52), some (.int l3)], [.int r4])) (M := M4) (o := (pcl GG lay d 108 [.ref 52, .int v5, .int (jn 1), .int v7] M4)) (hf := rfl) rfl rfl).trans ?_
      refine kI_in (fun r8 M8 => ?_)
      refine (e_ic_eq (hf := rfl)).trans ?_
      refine ite_in ?_ ?_
      · rfl
      · refine (evn_adv 1 (q' := (824, [some (.ref (88)), some (.ref 0), some (.ref 52), some (.int l3)], [.int (jn 0)], M8)) rfl).trans ?_
        exact e_iretz (hf := rfl)
set_option maxRecDepth 100000 in
theorem h_276_825 (nS : Nat) (xs : Nat → Int32) (d : Nat) (l3 : Int32) (M : PM) : E_276 nS xs d (825, [some (.ref (88)), some (.ref 0), some (.ref 52), some (.int l3)], [], M) = (oB (aldI lay (some (nS, xs)) M (88) (l3 + (jn 1))) fun v1 => (oB (aldI lay (some (nS, xs)) M (88) (l3 + (jn 2))) fun v2 => (oB (aldI lay (some (nS, xs)) M (88) (l3 + (jn 3))) fun v3 => (oB (aldI lay (some (nS, xs)) M (88) (l3 + (jn 4))) fun v4 => (kI (pcl GG lay d 22 [.ref 0, .int v1, .int v2, .int v3, .int v4] M) fun r5 M5 => (oB (aldI lay (some (nS, xs)) M5 (88) (l3 + (jn 1))) fun v6 => (oB (aldI lay (some (nS, xs)) M5 (88) (l3 + (jn 2))) fun v7 => (oB (aldI lay (some (nS, xs)) M5 (88) (l3 + (jn 3))) fun v8 => (oB (aldI lay (some (nS, xs)) M5 (88) (l3 + (jn 4))) fun v9 => (kI (pcl GG lay d 116 [.ref 52, .int v6, .int v7, .int v8, .int v9] M5) fun r10 M10 => (if r5 = r10 then E_276 nS xs d (1520, [some (.ref (88)), some (.ref 0), some (.ref 52), some (.int l3)], [], M10) else (rZ (jn 0) M10)))))))))))) := by
  refine (evn_adv 5 (q' := (830, [some (.ref (88)), some (.ref 0), some (.ref 52), some (.int l3)], [.int (l3 + (jn 1)), .ref (88), .ref 0], M)) rfl).trans ?_
  refine (e_oB (q := (830, [some (.ref (88)), some (.ref 0), some (.ref 52), some (.int l3)], [.int (l3 + (jn 1)), .ref (88), .ref 0], M)) (o := (aldI lay (some (nS, xs)) M (88) (l3 + (jn 1)))) (f := fun v1 => (831, [some (.ref (88)), some (.ref 0), some (.ref 52), some (.int l3)], [.int v1, .ref 0], M)) (hf := rfl) rfl).trans ?_
  refine oB_in (fun v1 => ?_)
  refine (evn_adv 4 (q' := (835, [some (.ref (88)), some (.ref 0), some (.ref 52), some (.int l3)], [.int (l3 + (jn 2)), .ref (88), .int v1, .ref 0], M)) rfl).trans ?_
  refine (e_oB (q := (835, [some (.ref (88)), some (.ref 0), some (.ref 52), some (.int l3)], [.int (l3 + (jn 2)), .ref (88), .int v1, .ref 0], M)) (o := (aldI lay (some (nS, xs)) M (88) (l3 + (jn 2)))) (f := fun v2 => (836, [some (.ref (88)), some (.ref 0), some (.ref 52), some (.int l3)], [.int v2, .int v1, .ref 0], M)) (hf := rfl) rfl).trans ?_
  refine oB_in (fun v2 => ?_)
  refine (evn_adv 4 (q' := (840, [some (.ref (88)), some (.ref 0), some (.ref 52), some (.int l3)], [.int (l3 + (jn 3)), .ref (88), .int v2, .int v1, .ref 0], M)) rfl).trans ?_
  refine (e_oB (q := (840, [some (.ref (88)), some (.ref 0), some (.ref 52), some (.int l3)], [.int (l3 + (jn 3)), .ref (88), .int v2, .int v1, .ref 0], M)) (o := (aldI lay (some (nS, xs)) M (88) (l3 + (jn 3)))) (f := fun v3 => (841, [some (.ref (88)), some (.ref 0), some (.ref 52), some (.int l3)], [.int v3, .int v2, .int v1, .ref 0], M)) (hf := rfl) rfl).trans ?_
  refine oB_in (fun v3 => ?_)
  refine (evn_adv 4 (q' := (845, [some (.ref (88)), some (.ref 0), some (.ref 52), some (.int l3)], [.int (l3 + (jn 4)), .ref (88), .int v3, .int v2, .int v1, .ref 0], M)) rfl).trans ?_
  refine (e_oB (q := (845, [some (.ref (88)), some (.ref 0), some (.ref 52), some (.int l3)], [.int (l3 + (jn 4)), .ref (88), .int v3, .int v2, .int v1, .ref 0], M)) (o := (aldI lay (some (nS, xs)) M (88) (l3 + (jn 4)))) (f := fun v4 => (846, [some (.ref (88)), some (.ref 0), some (.ref 52), some (.int l3)], [.int v4, .int v3, .int v2, .int v1, .ref 0], M)) (hf := rfl) rfl).trans ?_
  refine oB_in (fun v4 => ?_)
  refine (e_kI (q := (846, [some (.ref (88)), some (.ref 0), some (.ref 52), some (.int l3)], [.int v4, .int v3, .int v2, .int v1, .ref 0])) (q2 := (849, [some (.ref (88)), some (.ref 0), some (.ref 52), some (.int l3)], [])) (M := M) (o := (pcl GG lay d 22 [.ref 0, .int v1, .int v2, .int v3, .int v4] M)) (hf := rfl) rfl rfl).trans ?_
  refine kI_in (fun r5 M5 => ?_)
  refine (evn_adv 5 (q' := (854, [some (.ref (88)), some (.ref 0), some (.ref 52), some (.int l3)], [.int (l3 + (jn 1)), .ref (88), .ref 52, .int r5], M5)) rfl).trans ?_
  refine (e_oB (q := (854, [some (.ref (88)), some (.ref 0), some (.ref 52), some (.int l3)], [.int (l3 + (jn 1)), .ref (88), .ref 52, .int r5], M5)) (o := (aldI lay (some (nS, xs)) M5 (88) (l3 + (jn 1)))) (f := fun v6 => (855, [some (.ref (88)), some (.ref 0), some (.ref 52), some (.int l3)], [.int v6, .ref 52, .int r5], M5)) (hf := rfl) rfl).trans ?_
  refine oB_in (fun v6 => ?_)
  refine (evn_adv 4 (q' := (859, [some (.ref (88)), some (.ref 0), some (.ref 52), some (.int l3)], [.int (l3 + (jn 2)), .ref (88), .int v6, .ref 52, .int r5], M5)) rfl).trans ?_
  refine (e_oB (q := (859, [some (.ref (88)), some (.ref 0), some (.ref 52), some (.int l3)], [.int (l3 + (jn 2)), .ref (88), .int v6, .ref 52, .int r5], M5)) (o := (aldI lay (some (nS, xs)) M5 (88) (l3 + (jn 2)))) (f := fun v7 => (860, [some (.ref (88)), some (.ref 0), some (.ref 52), some (.int l3)], [.int v7, .int v6, .ref 52, .int r5], M5)) (hf := rfl) rfl).trans ?_
  refine oB_in (fun v7 => ?_)
  refine (evn_adv 4 (q' := (864, [some (.ref (88)), some (.ref 0), some (.ref 52), some (.int l3)], [.int (l3 + (jn 3)), .ref (88), .int v7, .int v6, .ref 52, .int r5], M5)) rfl).trans ?_
  refine (e_oB (q := (864, [some (.ref (88)), some (.ref 0), some (.ref 52), some (.int l3)], [.int (l3 + (jn 3)), .ref (88), .int v7, .int v6, .ref 52, .int r5], M5)) (o := (aldI lay (some (nS, xs)) M5 (88) (l3 + (jn 3)))) (f := fun v8 => (865, [some (.ref (88)), some (.ref 0), some (.ref 52), some (.int l3)], [.int v8, .int v7, .int v6, .ref 52, .int r5], M5)) (hf := rfl) rfl).trans ?_
  refine oB_in (fun v8 => ?_)
  refine (evn_adv 4 (q' := (869, [some (.ref (88)), some (.ref 0), some (.ref 52), some (.int l3)], [.int (l3 + (jn 4)), .ref (88), .int v8, .int v7, .int v6, .ref 52, .int r5], M5)) rfl).trans ?_
  refine (e_oB (q := (869, [some (.ref (88)), some (.ref 0), some (.ref 52), some (.int l3)], [.int (l3 + (jn 4)), .ref (88), .int v8, .int v7, .int v6, .ref 52, .int r5], M5)) (o := (aldI lay (some (nS, xs)) M5 (88) (l3 + (jn 4)))) (f := fun v9 => (870, [some (.ref (88)), some (.ref 0), some (.ref 52), some (.int l3)], [.int v9, .int v8, .int v7, .int v6, .ref 52, .int r5], M5)) (hf := rfl) rfl).trans ?_
  refine oB_in (fun v9 => ?_)
  refine (e_kI (q := (870, [some (.ref (88)), some (.ref 0), some (.ref 52), some (.int l3)], [.int v9, .int v8, .int v7, .int v6, .ref 52, .int r5])) (q2 := (873, [some (.ref (88)), some (.ref 0), some (.ref 52), some (.int l3)], [.int r5])) (M := M5) (o := (pcl GG lay d 116 [.ref 52, .int v6, .int v7, .int v8, .int v9] M5)) (hf := rfl) rfl rfl).trans ?_
  refine kI_in (fun r10 M10 => ?_)
  refine (e_ic_eq (hf := rfl)).trans ?_
  refine ite_in ?_ ?_
  · rfl
  · refine (evn_adv 1 (q' := (877, [some (.ref (88)), some (.ref 0), some (.ref 52), some (.int l3)], [.int (jn 0)], M10)) rfl).trans ?_
    exact e_iretz (hf := rfl)
set_option maxRecDepth 100000 in
theorem h_276_878 (nS : Nat) (xs : Nat → Int32) (d : Nat) (l3 : Int32) (M : PM) : E_276 nS xs d (878, [some (.ref (88)), some (.ref 0), some (.ref 52), some (.int l3)], [], M) = (oB (aldI lay (some (nS, xs)) M (88) (l3 + (jn 1))) fun v1 => (oB (aldI lay (some (nS, xs)) M (88) (l3 + (jn 2))) fun v2 => (oB (aldI lay (some (nS, xs)) M (88) (l3 + (jn 3))) fun v3 => (kI (pcl GG lay d 23 [.ref 0, .int v1, .int v2, .int v3] M) fun r4 M4 => (oB (aldI lay (some (nS, xs)) M4 (88) (l3 + (jn 1))) fun v5 => (oB (aldI lay (some (nS, xs)) M4 (88) (l3 + (jn 2))) fun v6 => (oB (aldI lay (some (nS, xs)) M4 (88) (l3 + (jn 3))) fun v7 => (kI (pcl GG lay d 117 [.ref 52, .int v5, .int v6, .int v7] M4) fun r8 M8 => (if r4 = r8 then E_276 nS xs d (1520, [some (.ref (88)), some (.ref 0), some (.ref 52), some (.int l3)], [], M8) else (rZ (jn 0) M8)))))))))) := by
  refine (evn_adv 5 (q' := (883, [some (.ref (88)), some (.ref 0), some (.ref 52), some (.int l3)], [.int (l3 + (jn 1)), .ref (88), .ref 0], M)) rfl).trans ?_
  refine (e_oB (q := (883, [some (.ref (88)), some (.ref 0), some (.ref 52), some (.int l3)], [.int (l3 + (jn 1)), .ref (88), .ref 0], M)) (o := (aldI lay (some (nS, xs)) M (88) (l3 + (jn 1)))) (f := fun v1 => (884, [some (.ref (88)), some (.ref 0), some (.ref 52), some (.int l3)], [.int v1, .ref 0], M)) (hf := rfl) rfl).trans ?_
  refine oB_in (fun v1 => ?_)
  refine (evn_adv 4 (q' := (888, [some (.ref (88)), some (.ref 0), some (.ref 52), some (.int l3)], [.int (l3 + (jn 2)), .ref (88), .int v1, .ref 0], M)) rfl).trans ?_
  refine (e_oB (q := (888, [some (.ref (88)), some (.ref 0), some (.ref 52), some (.int l3)], [.int (l3 + (jn 2)), .ref (88), .int v1, .ref 0], M)) (o := (aldI lay (some (nS, xs)) M (88) (l3 + (jn 2)))) (f := fun v2 => (889, [some (.ref (88)), some (.ref 0), some (.ref 52), some (.int l3)], [.int v2, .int v1, .ref 0], M)) (hf := rfl) rfl).trans ?_
  refine oB_in (fun v2 => ?_)
  refine (evn_adv 4 (q' := (893, [some (.ref (88)), some (.ref 0), some (.ref 52), some (.int l3)], [.int (l3 + (jn 3)), .ref (88), .int v2, .int v1, .ref 0], M)) rfl).trans ?_
  refine (e_oB (q := (893, [some (.ref (88)), some (.ref 0), some (.ref 52), some (.int l3)], [.int (l3 + (jn 3)), .ref (88), .int v2, .int v1, .ref 0], M)) (o := (aldI lay (some (nS, xs)) M (88) (l3 + (jn 3)))) (f := fun v3 => (894, [some (.ref (88)), some (.ref 0), some (.ref 52), some (.int l3)], [.int v3, .int v2, .int v1, .ref 0], M)) (hf := rfl) rfl).trans ?_
  refine oB_in (fun v3 => ?_)
  refine (e_kI (q := (894, [some (.ref (88)), some (.ref 0), some (.ref 52), some (.int l3)], [.int v3, .int v2, .int v1, .ref 0])) (q2 := (897, [some (.ref (88)), some (.ref 0), some (.ref 52), some (.int l3)], [])) (M := M) (o := (pcl GG lay d 23 [.ref 0, .int v1, .int v2, .int v3] M)) (hf := rfl) rfl rfl).trans ?_
  refine kI_in (fun r4 M4 => ?_)
  refine (evn_adv 5 (q' := (902, [some (.ref (88)), some (.ref 0), some (.ref 52), some (.int l3)], [.int (l3 + (jn 1)), .ref (88), .ref 52, .int r4], M4)) rfl).trans ?_
  refine (e_oB (q := (902, [some (.ref (88)), some (.ref 0), some (.ref 52), some (.int l3)], [.int (l3 + (jn 1)), .ref (88), .ref 52, .int r4], M4)) (o := (aldI lay (some (nS, xs)) M4 (88) (l3 + (jn 1)))) (f := fun v5 => (903, [some (.ref (88)), some (.ref 0), some (.ref 52), some (.int l3)], [.int v5, .ref 52, .int r4], M4)) (hf := rfl) rfl).trans ?_
  refine oB_in (fun v5 => ?_)
  refine (evn_adv 4 (q' := (907, [some (.ref (88)), some (.ref 0), some (.ref 52), some (.int l3)], [.int (l3 + (jn 2)), .ref (88), .int v5, .ref 52, .int r4], M4)) rfl).trans ?_
  refine (e_oB (q := (907, [some (.ref (88)), some (.ref 0), some (.ref 52), some (.int l3)], [.int (l3 + (jn 2)), .ref (88), .int v5, .ref 52, .int r4], M4)) (o := (aldI lay (some (nS, xs)) M4 (88) (l3 + (jn 2)))) (f := fun v6 => (908, [some (.ref (88)), some (.ref 0), some (.ref 52), some (.int l3)], [.int v6, .int v5, .ref 52, .int r4], M4)) (hf := rfl) rfl).trans ?_
  refine oB_in (fun v6 => ?_)
  refine (evn_adv 4 (q' := (912, [some (.ref (88)), some (.ref 0), some (.ref 52), some (.int l3)], [.int (l3 + (jn 3)), .ref (88), .int v6, .int v5, .ref 52, .int r4], M4)) rfl).trans ?_
  refine (e_oB (q := (912, [some (.ref (88)), some (.ref 0), some (.ref 52), some (.int l3)], [.int (l3 + (jn 3)), .ref (88), .int v6, .int v5, .ref 52, .int r4], M4)) (o := (aldI lay (some (nS, xs)) M4 (88) (l3 + (jn 3)))) (f := fun v7 => (913, [some (.ref (88)), some (.ref 0), some (.ref 52), some (.int l3)], [.int v7, .int v6, .int v5, .ref 52, .int r4], M4)) (hf := rfl) rfl).trans ?_
  refine oB_in (fun v7 => ?_)
  refine (e_kI (q := (913, [some (.ref (88)), some (.ref 0), some (.ref 52), some (.int l3)], [.int v7, .int v6, .int v5, .ref 52, .int r4])) (q2 := (916, [some (.ref (88)), some (.ref 0), some (.ref 52), some (.int l3)], [.int r4])) (M := M4) (o := (pcl GG lay d 117 [.ref 52, .int v5, .int v6, .int v7] M4)) (hf := rfl) rfl rfl).trans ?_
  refine kI_in (fun r8 M8 => ?_)
  refine (e_ic_eq (hf := rfl)).trans ?_
  refine ite_in ?_ ?_
  · rfl
  · refine (evn_adv 1 (q' := (920, [some (.ref (88)), some (.ref 0), some (.ref 52), some (.int l3)], [.int (jn 0)], M8)) rfl).trans ?_
    exact e_iretz (hf := rfl)
set_option maxRecDepth 100000 in
theorem h_276_921 (nS : Nat) (xs : Nat → Int32) (d : Nat) (l3 : Int32) (M : PM) : E_276 nS xs d (921, [some (.ref (88)), some (.ref 0), some (.ref 52), some (.int l3)], [], M) = (oB (aldI lay (some (nS, xs)) M (88) (l3 + (jn 1))) fun v1 => (kL (pcl GG lay d 26 [.ref 0, .int v1] M) fun r2 M2 => (oB (aldI lay (some (nS, xs)) M2 (88) (l3 + (jn 1))) fun v3 => (kL (pcl GG lay d 119 [.ref 52, .int v3] M2) fun r4 M4 => (if (lg_cmp r2 r4) = jn 0 then E_276 nS xs d (1520, [some (.ref (88)), some (.ref 0), some (.ref 52), some (.int l3)], [], M4) else (rZ (jn 0) M4)))))) := by
  refine (evn_adv 5 (q' := (926, [some (.ref (88)), some (.ref 0), some (.ref 52), some (.int l3)], [.int (l3 + (jn 1)), .ref (88), .ref 0], M)) rfl).trans ?_
  refine (e_oB (q := (926, [some (.ref (88)), some (.ref 0), some (.ref 52), some (.int l3)], [.int (l3 + (jn 1)), .ref (88), .ref 0], M)) (o := (aldI lay (some (nS, xs)) M (88) (l3 + (jn 1)))) (f := fun v1 => (927, [some (.ref (88)), some (.ref 0), some (.ref 52), some (.int l3)], [.int v1, .ref 0], M)) (hf := rfl) rfl).trans ?_
  refine oB_in (fun v1 => ?_)
  refine (e_kL (q := (927, [some (.ref (88)), some (.ref 0), some (.ref 52), some (.int l3)], [.int v1, .ref 0])) (q2 := (930, [some (.ref (88)), some (.ref 0), some (.ref 52), some (.int l3)], [])) (M := M) (o := (pcl GG lay d 26 [.ref 0, .int v1] M)) (hf := rfl) rfl rfl).trans ?_
  refine kL_in (fun r2 M2 => ?_)
  refine (evn_adv 5 (q' := (935, [some (.ref (88)), some (.ref 0), some (.ref 52), some (.int l3)], [.int (l3 + (jn 1)), .ref (88), .ref 52, .long r2], M2)) rfl).trans ?_
  refine (e_oB (q := (935, [some (.ref (88)), some (.ref 0), some (.ref 52), some (.int l3)], [.int (l3 + (jn 1)), .ref (88), .ref 52, .long r2], M2)) (o := (aldI lay (some (nS, xs)) M2 (88) (l3 + (jn 1)))) (f := fun v3 => (936, [some (.ref (88)), some (.ref 0), some (.ref 52), some (.int l3)], [.int v3, .ref 52, .long r2], M2)) (hf := rfl) rfl).trans ?_
  refine oB_in (fun v3 => ?_)
  refine (e_kL (q := (936, [some (.ref (88)), some (.ref 0), some (.ref 52), some (.int l3)], [.int v3, .ref 52, .long r2])) (q2 := (939, [some (.ref (88)), some (.ref 0), some (.ref 52), some (.int l3)], [.long r2])) (M := M2) (o := (pcl GG lay d 119 [.ref 52, .int v3] M2)) (hf := rfl) rfl rfl).trans ?_
  refine kL_in (fun r4 M4 => ?_)
  refine (evn_adv 1 (q' := (940, [some (.ref (88)), some (.ref 0), some (.ref 52), some (.int l3)], [.int (lg_cmp r2 r4)], M4)) rfl).trans ?_
  refine (e_if_eq (hf := rfl)).trans ?_
  refine ite_in ?_ ?_
  · rfl
  · refine (evn_adv 1 (q' := (944, [some (.ref (88)), some (.ref 0), some (.ref 52), some (.int l3)], [.int (jn 0)], M4)) rfl).trans ?_
    exact e_iretz (hf := rfl)
set_option maxRecDepth 100000 in
theorem h_276_945 (nS : Nat) (xs : Nat → Int32) (d : Nat) (l3 : Int32) (M : PM) : E_276 nS xs d (945, [some (.ref (88)), some (.ref 0), some (.ref 52), some (.int l3)], [], M) = (oB (aldI lay (some (nS, xs)) M (88) (l3 + (jn 1))) fun v1 => (oB (aldI lay (some (nS, xs)) M (88) (l3 + (jn 2))) fun v2 => (oB (aldI lay (some (nS, xs)) M (88) (l3 + (jn 3))) fun v3 => (kI (pcl GG lay d 29 [.ref 0, .int v1, .int v2, .int v3] M) fun r4 M4 => (oB (aldI lay (some (nS, xs)) M4 (88) (l3 + (jn 1))) fun v5 => (oB (aldI lay (some (nS, xs)) M4 (88) (l3 + (jn 2))) fun v6 => (oB (aldI lay (some (nS, xs)) M4 (88) (l3 + (jn 3))) fun v7 => (kI (pcl GG lay d 122 [.ref 52, .int v5, .int v6, .int v7] M4) fun r8 M8 => (if r4 = r8 then E_276 nS xs d (1520, [some (.ref (88)), some (.ref 0), some (.ref 52), some (.int l3)], [], M8) else (rZ (jn 0) M8)))))))))) := by
  refine (evn_adv 5 (q' := (950, [some (.ref (88)), some (.ref 0), some (.ref 52), some (.int l3)], [.int (l3 + (jn 1)), .ref (88), .ref 0], M)) rfl).trans ?_
  refine (e_oB (q := (950, [some (.ref (88)), some (.ref 0), some (.ref 52), some (.int l3)], [.int (l3 + (jn 1)), .ref (88), .ref 0], M)) (o := (aldI lay (some (nS, xs)) M (88) (l3 + (jn 1)))) (f := fun v1 => (951, [some (.ref (88)), some (.ref 0), some (.ref 52), some (.int l3)], [.int v1, .ref 0], M)) (hf := rfl) rfl).trans ?_
  refine oB_in (fun v1 => ?_)
  refine (evn_adv 4 (q' := (955, [some (.ref (88)), some (.ref 0), some (.ref 52), some (.int l3)], [.int (l3 + (jn 2)), .ref (88), .int v1, .ref 0], M)) rfl).trans ?_
  refine (e_oB (q := (955, [some (.ref (88)), some (.ref 0), some (.ref 52), some (.int l3)], [.int (l3 + (jn 2)), .ref (88), .int v1, .ref 0], M)) (o := (aldI lay (some (nS, xs)) M (88) (l3 + (jn 2)))) (f := fun v2 => (956, [some (.ref (88)), some (.ref 0), some (.ref 52), some (.int l3)], [.int v2, .int v1, .ref 0], M)) (hf := rfl) rfl).trans ?_
  refine oB_in (fun v2 => ?_)
  refine (evn_adv 4 (q' := (960, [some (.ref (88)), some (.ref 0), some (.ref 52), some (.int l3)], [.int (l3 + (jn 3)), .ref (88), .int v2, .int v1, .ref 0], M)) rfl).trans ?_
  refine (e_oB (q := (960, [some (.ref (88)), some (.ref 0), some (.ref 52), some (.int l3)], [.int (l3 + (jn 3)), .ref (88), .int v2, .int v1, .ref 0], M)) (o := (aldI lay (some (nS, xs)) M (88) (l3 + (jn 3)))) (f := fun v3 => (961, [some (.ref (88)), some (.ref 0), some (.ref 52), some (.int l3)], [.int v3, .int v2, .int v1, .ref 0], M)) (hf := rfl) rfl).trans ?_
  refine oB_in (fun v3 => ?_)
  refine (e_kI (q := (961, [some (.ref (88)), some (.ref 0), some (.ref 52), some (.int l3)], [.int v3, .int v2, .int v1, .ref 0])) (q2 := (964, [some (.ref (88)), some (.ref 0), some (.ref 52), some (.int l3)], [])) (M := M) (o := (pcl GG lay d 29 [.ref 0, .int v1, .int v2, .int v3] M)) (hf := rfl) rfl rfl).trans ?_
  refine kI_in (fun r4 M4 => ?_)
  refine (evn_adv 5 (q' := (969, [some (.ref (88)), some (.ref 0), some (.ref 52), some (.int l3)], [.int (l3 + (jn 1)), .ref (88), .ref 52, .int r4], M4)) rfl).trans ?_
  refine (e_oB (q := (969, [some (.ref (88)), some (.ref 0), some (.ref 52), some (.int l3)], [.int (l3 + (jn 1)), .ref (88), .ref 52, .int r4], M4)) (o := (aldI lay (some (nS, xs)) M4 (88) (l3 + (jn 1)))) (f := fun v5 => (970, [some (.ref (88)), some (.ref 0), some (.ref 52), some (.int l3)], [.int v5, .ref 52, .int r4], M4)) (hf := rfl) rfl).trans ?_
  refine oB_in (fun v5 => ?_)
  refine (evn_adv 4 (q' := (974, [some (.ref (88)), some (.ref 0), some (.ref 52), some (.int l3)], [.int (l3 + (jn 2)), .ref (88), .int v5, .ref 52, .int r4], M4)) rfl).trans ?_
  refine (e_oB (q := (974, [some (.ref (88)), some (.ref 0), some (.ref 52), some (.int l3)], [.int (l3 + (jn 2)), .ref (88), .int v5, .ref 52, .int r4], M4)) (o := (aldI lay (some (nS, xs)) M4 (88) (l3 + (jn 2)))) (f := fun v6 => (975, [some (.ref (88)), some (.ref 0), some (.ref 52), some (.int l3)], [.int v6, .int v5, .ref 52, .int r4], M4)) (hf := rfl) rfl).trans ?_
  refine oB_in (fun v6 => ?_)
  refine (evn_adv 4 (q' := (979, [some (.ref (88)), some (.ref 0), some (.ref 52), some (.int l3)], [.int (l3 + (jn 3)), .ref (88), .int v6, .int v5, .ref 52, .int r4], M4)) rfl).trans ?_
  refine (e_oB (q := (979, [some (.ref (88)), some (.ref 0), some (.ref 52), some (.int l3)], [.int (l3 + (jn 3)), .ref (88), .int v6, .int v5, .ref 52, .int r4], M4)) (o := (aldI lay (some (nS, xs)) M4 (88) (l3 + (jn 3)))) (f := fun v7 => (980, [some (.ref (88)), some (.ref 0), some (.ref 52), some (.int l3)], [.int v7, .int v6, .int v5, .ref 52, .int r4], M4)) (hf := rfl) rfl).trans ?_
  refine oB_in (fun v7 => ?_)
  refine (e_kI (q := (980, [some (.ref (88)), some (.ref 0), some (.ref 52), some (.int l3)], [.int v7, .int v6, .int v5, .ref 52, .int r4])) (q2 := (983, [some (.ref (88)), some (.ref 0), some (.ref 52), some (.int l3)], [.int r4])) (M := M4) (o := (pcl GG lay d 122 [.ref 52, .int v5, .int v6, .int v7] M4)) (hf := rfl) rfl rfl).trans ?_
  refine kI_in (fun r8 M8 => ?_)
  refine (e_ic_eq (hf := rfl)).trans ?_
  refine ite_in ?_ ?_
  · rfl
  · refine (evn_adv 1 (q' := (987, [some (.ref (88)), some (.ref 0), some (.ref 52), some (.int l3)], [.int (jn 0)], M8)) rfl).trans ?_
    exact e_iretz (hf := rfl)
set_option maxRecDepth 100000 in
theorem h_276_988 (nS : Nat) (xs : Nat → Int32) (d : Nat) (l3 : Int32) (M : PM) : E_276 nS xs d (988, [some (.ref (88)), some (.ref 0), some (.ref 52), some (.int l3)], [], M) = (oB (aldI lay (some (nS, xs)) M (88) (l3 + (jn 1))) fun v1 => (oB (aldI lay (some (nS, xs)) M (88) (l3 + (jn 2))) fun v2 => (oB (aldI lay (some (nS, xs)) M (88) (l3 + (jn 3))) fun v3 => (kI (pcl GG lay d 31 [.ref 0, .int v1, .int v2, .int v3] M) fun r4 M4 => (oB (aldI lay (some (nS, xs)) M4 (88) (l3 + (jn 1))) fun v5 => (oB (aldI lay (some (nS, xs)) M4 (88) (l3 + (jn 2))) fun v6 => (oB (aldI lay (some (nS, xs)) M4 (88) (l3 + (jn 3))) fun v7 => (kI (pcl GG lay d 123 [.ref 52, .int v5, .int v6, .int v7] M4) fun r8 M8 => (if r4 = r8 then E_276 nS xs d (1520, [some (.ref (88)), some (.ref 0), some (.ref 52), some (.int l3)], [], M8) else (rZ (jn 0) M8)))))))))) := by
  refine (evn_adv 5 (q' := (993, [some (.ref (88)), some (.ref 0), some (.ref 52), some (.int l3)], [.int (l3 + (jn 1)), .ref (88), .ref 0], M)) rfl).trans ?_
  refine (e_oB (q := (993, [some (.ref (88)), some (.ref 0), some (.ref 52), some (.int l3)], [.int (l3 + (jn 1)), .ref (88), .ref 0], M)) (o := (aldI lay (some (nS, xs)) M (88) (l3 + (jn 1)))) (f := fun v1 => (994, [some (.ref (88)), some (.ref 0), some (.ref 52), some (.int l3)], [.int v1, .ref 0], M)) (hf := rfl) rfl).trans ?_
  refine oB_in (fun v1 => ?_)
  refine (evn_adv 4 (q' := (998, [some (.ref (88)), some (.ref 0), some (.ref 52), some (.int l3)], [.int (l3 + (jn 2)), .ref (88), .int v1, .ref 0], M)) rfl).trans ?_
  refine (e_oB (q := (998, [some (.ref (88)), some (.ref 0), some (.ref 52), some (.int l3)], [.int (l3 + (jn 2)), .ref (88), .int v1, .ref 0], M)) (o := (aldI lay (some (nS, xs)) M (88) (l3 + (jn 2)))) (f := fun v2 => (999, [some (.ref (88)), some (.ref 0), some (.ref 52), some (.int l3)], [.int v2, .int v1, .ref 0], M)) (hf := rfl) rfl).trans ?_
  refine oB_in (fun v2 => ?_)
  refine (evn_adv 4 (q' := (1003, [some (.ref (88)), some (.ref 0), some (.ref 52), some (.int l3)], [.int (l3 + (jn 3)), .ref (88), .int v2, .int v1, .ref 0], M)) rfl).trans ?_
  refine (e_oB (q := (1003, [some (.ref (88)), some (.ref 0), some (.ref 52), some (.int l3)], [.int (l3 + (jn 3)), .ref (88), .int v2, .int v1, .ref 0], M)) (o := (aldI lay (some (nS, xs)) M (88) (l3 + (jn 3)))) (f := fun v3 => (1004, [some (.ref (88)), some (.ref 0), some (.ref 52), some (.int l3)], [.int v3, .int v2, .int v1, .ref 0], M)) (hf := rfl) rfl).trans ?_
  refine oB_in (fun v3 => ?_)
  refine (e_kI (q := (1004, [some (.ref (88)), some (.ref 0), some (.ref 52), some (.int l3)], [.int v3, .int v2, .int v1, .ref 0])) (q2 := (1007, [some (.ref (88)), some (.ref 0), some (.ref 52), some (.int l3)], [])) (M := M) (o := (pcl GG lay d 31 [.ref 0, .int v1, .int v2, .int v3] M)) (hf := rfl) rfl rfl).trans ?_
  refine kI_in (fun r4 M4 => ?_)
  refine (evn_adv 5 (q' := (1012, [some (.ref (88)), some (.ref 0), some (.ref 52), some (.int l3)], [.int (l3 + (jn 1)), .ref (88), .ref 52, .int r4], M4)) rfl).trans ?_
  refine (e_oB (q := (1012, [some (.ref (88)), some (.ref 0), some (.ref 52), some (.int l3)], [.int (l3 + (jn 1)), .ref (88), .ref 52, .int r4], M4)) (o := (aldI lay (some (nS, xs)) M4 (88) (l3 + (jn 1)))) (f := fun v5 => (1013, [some (.ref (88)), some (.ref 0), some (.ref 52), some (.int l3)], [.int v5, .ref 52, .int r4], M4)) (hf := rfl) rfl).trans ?_
  refine oB_in (fun v5 => ?_)
  refine (evn_adv 4 (q' := (1017, [some (.ref (88)), some (.ref 0), some (.ref 52), some (.int l3)], [.int (l3 + (jn 2)), .ref (88), .int v5, .ref 52, .int r4], M4)) rfl).trans ?_
  refine (e_oB (q := (1017, [some (.ref (88)), some (.ref 0), some (.ref 52), some (.int l3)], [.int (l3 + (jn 2)), .ref (88), .int v5, .ref 52, .int r4], M4)) (o := (aldI lay (some (nS, xs)) M4 (88) (l3 + (jn 2)))) (f := fun v6 => (1018, [some (.ref (88)), some (.ref 0), some (.ref 52), some (.int l3)], [.int v6, .int v5, .ref 52, .int r4], M4)) (hf := rfl) rfl).trans ?_
  refine oB_in (fun v6 => ?_)
  refine (evn_adv 4 (q' := (1022, [some (.ref (88)), some (.ref 0), some (.ref 52), some (.int l3)], [.int (l3 + (jn 3)), .ref (88), .int v6, .int v5, .ref 52, .int r4], M4)) rfl).trans ?_
  refine (e_oB (q := (1022, [some (.ref (88)), some (.ref 0), some (.ref 52), some (.int l3)], [.int (l3 + (jn 3)), .ref (88), .int v6, .int v5, .ref 52, .int r4], M4)) (o := (aldI lay (some (nS, xs)) M4 (88) (l3 + (jn 3)))) (f := fun v7 => (1023, [some (.ref (88)), some (.ref 0), some (.ref 52), some (.int l3)], [.int v7, .int v6, .int v5, .ref 52, .int r4], M4)) (hf := rfl) rfl).trans ?_
  refine oB_in (fun v7 => ?_)
  refine (e_kI (q := (1023, [some (.ref (88)), some (.ref 0), some (.ref 52), some (.int l3)], [.int v7, .int v6, .int v5, .ref 52, .int r4])) (q2 := (1026, [some (.ref (88)), some (.ref 0), some (.ref 52), some (.int l3)], [.int r4])) (M := M4) (o := (pcl GG lay d 123 [.ref 52, .int v5, .int v6, .int v7] M4)) (hf := rfl) rfl rfl).trans ?_
  refine kI_in (fun r8 M8 => ?_)
  refine (e_ic_eq (hf := rfl)).trans ?_
  refine ite_in ?_ ?_
  · rfl
  · refine (evn_adv 1 (q' := (1030, [some (.ref (88)), some (.ref 0), some (.ref 52), some (.int l3)], [.int (jn 0)], M8)) rfl).trans ?_
    exact e_iretz (hf := rfl)
set_option maxRecDepth 100000 in
theorem h_276_1031 (nS : Nat) (xs : Nat → Int32) (d : Nat) (l3 : Int32) (M : PM) : E_276 nS xs d (1031, [some (.ref (88)), some (.ref 0), some (.ref 52), some (.int l3)], [], M) = (oB (aldI lay (some (nS, xs)) M (88) (l3 + (jn 1))) fun v1 => (oB (aldI lay (some (nS, xs)) M (88) (l3 + (jn 2))) fun v2 => (kI (pcl GG lay d 33 [.ref 0, .int v1, .int v2] M) fun r3 M3 => (oB (aldI lay (some (nS, xs)) M3 (88) (l3 + (jn 1))) fun v4 => (oB (aldI lay (some (nS, xs)) M3 (88) (l3 + (jn 2))) fun v5 => (kI (pcl GG lay d 124 [.ref 52, .int v4, .int v5] M3) fun r6 M6 => (if r3 = r6 then E_276 nS xs d (1520, [some (.ref (88)), some (.ref 0), some (.ref 52), some (.int l3)], [], M6) else (rZ (jn 0) M6)))))))) := by
  refine (evn_adv 5 (q' := (1036, [some (.ref (88)), some (.ref 0), some (.ref 52), some (.int l3)], [.int (l3 + (jn 1)), .ref (88), .ref 0], M)) rfl).trans ?_
  refine (e_oB (q := (1036, [some (.ref (88)), some (.ref 0), some (.ref 52), some (.int l3)], [.int (l3 + (jn 1)), .ref (88), .ref 0], M)) (o := (aldI lay (some (nS, xs)) M (88) (l3 + (jn 1)))) (f := fun v1 => (1037, [some (.ref (88)), some (.ref 0), some (.ref 52), some (.int l3)], [.int v1, .ref 0], M)) (hf := rfl) rfl).trans ?_
  refine oB_in (fun v1 => ?_)
  refine (evn_adv 4 (q' := (1041, [some (.ref (88)), some (.ref 0), some (.ref 52), some (.int l3)], [.int (l3 + (jn 2)), .ref (88), .int v1, .ref 0], M)) rfl).trans ?_
  refine (e_oB (q := (1041, [some (.ref (88)), some (.ref 0), some (.ref 52), some (.int l3)], [.int (l3 + (jn 2)), .ref (88), .int v1, .ref 0], M)) (o := (aldI lay (some (nS, xs)) M (88) (l3 + (jn 2)))) (f := fun v2 => (1042, [some (.ref (88)), some (.ref 0), some (.ref 52), some (.int l3)], [.int v2, .int v1, .ref 0], M)) (hf := rfl) rfl).trans ?_
  refine oB_in (fun v2 => ?_)
  refine (e_kI (q := (1042, [some (.ref (88)), some (.ref 0), some (.ref 52), some (.int l3)], [.int v2, .int v1, .ref 0])) (q2 := (1045, [some (.ref (88)), some (.ref 0), some (.ref 52), some (.int l3)], [])) (M := M) (o := (pcl GG lay d 33 [.ref 0, .int v1, .int v2] M)) (hf := rfl) rfl rfl).trans ?_
  refine kI_in (fun r3 M3 => ?_)
  refine (evn_adv 5 (q' := (1050, [some (.ref (88)), some (.ref 0), some (.ref 52), some (.int l3)], [.int (l3 + (jn 1)), .ref (88), .ref 52, .int r3], M3)) rfl).trans ?_
  refine (e_oB (q := (1050, [some (.ref (88)), some (.ref 0), some (.ref 52), some (.int l3)], [.int (l3 + (jn 1)), .ref (88), .ref 52, .int r3], M3)) (o := (aldI lay (some (nS, xs)) M3 (88) (l3 + (jn 1)))) (f := fun v4 => (1051, [some (.ref (88)), some (.ref 0), some (.ref 52), some (.int l3)], [.int v4, .ref 52, .int r3], M3)) (hf := rfl) rfl).trans ?_
  refine oB_in (fun v4 => ?_)
  refine (evn_adv 4 (q' := (1055, [some (.ref (88)), some (.ref 0), some (.ref 52), some (.int l3)], [.int (l3 + (jn 2)), .ref (88), .int v4, .ref 52, .int r3], M3)) rfl).trans ?_
  refine (e_oB (q := (1055, [some (.ref (88)), some (.ref 0), some (.ref 52), some (.int l3)], [.int (l3 + (jn 2)), .ref (88), .int v4, .ref 52, .int r3], M3)) (o := (aldI lay (some (nS, xs)) M3 (88) (l3 + (jn 2)))) (f := fun v5 => (1056, [some (.ref (88)), some (.ref 0), some (.ref 52), some (.int l3)], [.int v5, .int v4, .ref 52, .int r3], M3)) (hf := rfl) rfl).trans ?_
  refine oB_in (fun v5 => ?_)
  refine (e_kI (q := (1056, [some (.ref (88)), some (.ref 0), some (.ref 52), some (.int l3)], [.int v5, .int v4, .ref 52, .int r3])) (q2 := (1059, [some (.ref (88)), some (.ref 0), some (.ref 52), some (.int l3)], [.int r3])) (M := M3) (o := (pcl GG lay d 124 [.ref 52, .int v4, .int v5] M3)) (hf := rfl) rfl rfl).trans ?_
  refine kI_in (fun r6 M6 => ?_)
  refine (e_ic_eq (hf := rfl)).trans ?_
  refine ite_in ?_ ?_
  · rfl
  · refine (evn_adv 1 (q' := (1063, [some (.ref (88)), some (.ref 0), some (.ref 52), some (.int l3)], [.int (jn 0)], M6)) rfl).trans ?_
    exact e_iretz (hf := rfl)
set_option maxRecDepth 100000 in
theorem h_276_1064 (nS : Nat) (xs : Nat → Int32) (d : Nat) (l3 : Int32) (M : PM) : E_276 nS xs d (1064, [some (.ref (88)), some (.ref 0), some (.ref 52), some (.int l3)], [], M) = (oB (aldI lay (some (nS, xs)) M (88) (l3 + (jn 1))) fun v1 => (oB (aldI lay (some (nS, xs)) M (88) (l3 + (jn 2))) fun v2 => (kI (pcl GG lay d 34 [.ref 0, .int v1, .int v2] M) fun r3 M3 => (oB (aldI lay (some (nS, xs)) M3 (88) (l3 + (jn 1))) fun v4 => (oB (aldI lay (some (nS, xs)) M3 (88) (l3 + (jn 2))) fun v5 => (kI (pcl GG lay d 143 [.ref 52, .int v4, .int v5] M3) fun r6 M6 => (if r3 = r6 then E_276 nS xs d (1520, [some (.ref (88)), some (.ref 0), some (.ref 52), some (.int l3)], [], M6) else (rZ (jn 0) M6)))))))) := by
  refine (evn_adv 5 (q' := (1069, [some (.ref (88)), some (.ref 0), some (.ref 52), some (.int l3)], [.int (l3 + (jn 1)), .ref (88), .ref 0], M)) rfl).trans ?_
  refine (e_oB (q := (1069, [some (.ref (88)), some (.ref 0), some (.ref 52), some (.int l3)], [.int (l3 + (jn 1)), .ref (88), .ref 0], M)) (o := (aldI lay (some (nS, xs)) M (88) (l3 + (jn 1)))) (f := fun v1 => (1070, [some (.ref (88)), some (.ref 0), some (.ref 52), some (.int l3)], [.int v1, .ref 0], M)) (hf := rfl) rfl).trans ?_
  refine oB_in (fun v1 => ?_)
  refine (evn_adv 4 (q' := (1074, [some (.ref (88)), some (.ref 0), some (.ref 52), some (.int l3)], [.int (l3 + (jn 2)), .ref (88), .int v1, .ref 0], M)) rfl).trans ?_
  refine (e_oB (q := (1074, [some (.ref (88)), some (.ref 0), some (.ref 52), some (.int l3)], [.int (l3 + (jn 2)), .ref (88), .int v1, .ref 0], M)) (o := (aldI lay (some (nS, xs)) M (88) (l3 + (jn 2)))) (f := fun v2 => (1075, [some (.ref (88)), some (.ref 0), some (.ref 52), some (.int l3)], [.int v2, .int v1, .ref 0], M)) (hf := rfl) rfl).trans ?_
  refine oB_in (fun v2 => ?_)
  refine (e_kI (q := (1075, [some (.ref (88)), some (.ref 0), some (.ref 52), some (.int l3)], [.int v2, .int v1, .ref 0])) (q2 := (1078, [some (.ref (88)), some (.ref 0), some (.ref 52), some (.int l3)], [])) (M := M) (o := (pcl GG lay d 34 [.ref 0, .int v1, .int v2] M)) (hf := rfl) rfl rfl).trans ?_
  refine kI_in (fun r3 M3 => ?_)
  refine (evn_adv 5 (q' := (1083, [some (.ref (88)), some (.ref 0), some (.ref 52), some (.int l3)], [.int (l3 + (jn 1)), .ref (88), .ref 52, .int r3], M3)) rfl).trans ?_
  refine (e_oB (q := (1083, [some (.ref (88)), some (.ref 0), some (.ref 52), some (.int l3)], [.int (l3 + (jn 1)), .ref (88), .ref 52, .int r3], M3)) (o := (aldI lay (some (nS, xs)) M3 (88) (l3 + (jn 1)))) (f := fun v4 => (1084, [some (.ref (88)), some (.ref 0), some (.ref 52), some (.int l3)], [.int v4, .ref 52, .int r3], M3)) (hf := rfl) rfl).trans ?_
  refine oB_in (fun v4 => ?_)
  refine (evn_adv 4 (q' := (1088, [some (.ref (88)), some (.ref 0), some (.ref 52), some (.int l3)], [.int (l3 + (jn 2)), .ref (88), .int v4, .ref 52, .int r3], M3)) rfl).trans ?_
  refine (e_oB (q := (1088, [some (.ref (88)), some (.ref 0), some (.ref 52), some (.int l3)], [.int (l3 + (jn 2)), .ref (88), .int v4, .ref 52, .int r3], M3)) (o := (aldI lay (some (nS, xs)) M3 (88) (l3 + (jn 2)))) (f := fun v5 => (1089, [some (.ref (88)), some (.ref 0), some (.ref 52), some (.int l3)], [.int v5, .int v4, .ref 52, .int r3], M3)) (hf := rfl) rfl).trans ?_
  refine oB_in (fun v5 => ?_)
  refine (e_kI (q := (1089, [some (.ref (88)), some (.ref 0), some (.ref 52), some (.int l3)], [.int v5, .int v4, .ref 52, .int r3])) (q2 := (1092, [some (.ref (88)), some (.ref 0), some (.ref 52), some (.int l3)], [.int r3])) (M := M3) (o := (pcl GG lay d 143 [.ref 52, .int v4, .int v5] M3)) (hf := rfl) rfl rfl).trans ?_
  refine kI_in (fun r6 M6 => ?_)
  refine (e_ic_eq (hf := rfl)).trans ?_
  refine ite_in ?_ ?_
  · rfl
  · refine (evn_adv 1 (q' := (1096, [some (.ref (88)), some (.ref 0), some (.ref 52), some (.int l3)], [.int (jn 0)], M6)) rfl).trans ?_
    exact e_iretz (hf := rfl)
set_option maxRecDepth 100000 in
theorem h_276_1097 (nS : Nat) (xs : Nat → Int32) (d : Nat) (l3 : Int32) (M : PM) : E_276 nS xs d (1097, [some (.ref (88)), some (.ref 0), some (.ref 52), some (.int l3)], [], M) = (oB (aldI lay (some (nS, xs)) M (88) (l3 + (jn 1))) fun v1 => (oB (aldI lay (some (nS, xs)) M (88) (l3 + (jn 2))) fun v2 => (oB (aldI lay (some (nS, xs)) M (88) (l3 + (jn 3))) fun v3 => (kI (pcl GG lay d 35 [.ref 0, .int v1, .int v2, .int v3] M) fun r4 M4 => (oB (aldI lay (some (nS, xs)) M4 (88) (l3 + (jn 1))) fun v5 => (oB (aldI lay (some (nS, xs)) M4 (88) (l3 + (jn 2))) fun v6 => (oB (aldI lay (some (nS, xs)) M4 (88) (l3 + (jn 3))) fun v7 => (kI (pcl GG lay d 144 [.ref 52, .int v5, .int v6, .int v7] M4) fun r8 M8 => (if r4 = r8 then E_276 nS xs d (1520, [some (.ref (88)), some (.ref 0), some (.ref 52), some (.int l3)], [], M8) else (rZ (jn 0) M8)))))))))) := by
  refine (evn_adv 5 (q' := (1102, [some (.ref (88)), some (.ref 0), some (.ref 52), some (.int l3)], [.int (l3 + (jn 1)), .ref (88), .ref 0], M)) rfl).trans ?_
  refine (e_oB (q := (1102, [some (.ref (88)), some (.ref 0), some (.ref 52), some (.int l3)], [.int (l3 + (jn 1)), .ref (88), .ref 0], M)) (o := (aldI lay (some (nS, xs)) M (88) (l3 + (jn 1)))) (f := fun v1 => (1103, [some (.ref (88)), some (.ref 0), some (.ref 52), some (.int l3)], [.int v1, .ref 0], M)) (hf := rfl) rfl).trans ?_
  refine oB_in (fun v1 => ?_)
  refine (evn_adv 4 (q' := (1107, [some (.ref (88)), some (.ref 0), some (.ref 52), some (.int l3)], [.int (l3 + (jn 2)), .ref (88), .int v1, .ref 0], M)) rfl).trans ?_
  refine (e_oB (q := (1107, [some (.ref (88)), some (.ref 0), some (.ref 52), some (.int l3)], [.int (l3 + (jn 2)), .ref (88), .int v1, .ref 0], M)) (o := (aldI lay (some (nS, xs)) M (88) (l3 + (jn 2)))) (f := fun v2 => (1108, [some (.ref (88)), some (.ref 0), some (.ref 52), some (.int l3)], [.int v2, .int v1, .ref 0], M)) (hf := rfl) rfl).trans ?_
  refine oB_in (fun v2 => ?_)
  refine (evn_adv 4 (q' := (1112, [some (.ref (88)), some (.ref 0), some (.ref 52), some (.int l3)], [.int (l3 + (jn 3)), .ref (88), .int v2, .int v1, .ref 0], M)) rfl).trans ?_
  refine (e_oB (q := (1112, [some (.ref (88)), some (.ref 0), some (.ref 52), some (.int l3)], [.int (l3 + (jn 3)), .ref (88), .int v2, .int v1, .ref 0], M)) (o := (aldI lay (some (nS, xs)) M (88) (l3 + (jn 3)))) (f := fun v3 => (1113, [some (.ref (88)), some (.ref 0), some (.ref 52), some (.int l3)], [.int v3, .int v2, .int v1, .ref 0], M)) (hf := rfl) rfl).trans ?_
  refine oB_in (fun v3 => ?_)
  refine (e_kI (q := (1113, [some (.ref (88)), some (.ref 0), some (.ref 52), some (.int l3)], [.int v3, .int v2, .int v1, .ref 0])) (q2 := (1116, [some (.ref (88)), some (.ref 0), some (.ref 52), some (.int l3)], [])) (M := M) (o := (pcl GG lay d 35 [.ref 0, .int v1, .int v2, .int v3] M)) (hf := rfl) rfl rfl).trans ?_
  refine kI_in (fun r4 M4 => ?_)
  refine (evn_adv 5 (q' := (1121, [some (.ref (88)), some (.ref 0), some (.ref 52), some (.int l3)], [.int (l3 + (jn 1)), .ref (88), .ref 52, .int r4], M4)) rfl).trans ?_
  refine (e_oB (q := (1121, [some (.ref (88)), some (.ref 0), some (.ref 52), some (.int l3)], [.int (l3 + (jn 1)), .ref (88), .ref 52, .int r4], M4)) (o := (aldI lay (some (nS, xs)) M4 (88) (l3 + (jn 1)))) (f := fun v5 => (1122, [some (.ref (88)), some (.ref 0), some (.ref 52), some (.int l3)], [.int v5, .ref 52, .int r4], M4)) (hf := rfl) rfl).trans ?_
  refine oB_in (fun v5 => ?_)
  refine (evn_adv 4 (q' := (1126, [some (.ref (88)), some (.ref 0), some (.ref 52), some (.int l3)], [.int (l3 + (jn 2)), .ref (88), .int v5, .ref 52, .int r4], M4)) rfl).trans ?_
  refine (e_oB (q := (1126, [some (.ref (88)), some (.ref 0), some (.ref 52), some (.int l3)], [.int (l3 + (jn 2)), .ref (88), .int v5, .ref 52, .int r4], M4)) (o := (aldI lay (some (nS, xs)) M4 (88) (l3 + (jn 2)))) (f := fun v6 => (1127, [some (.ref (88)), some (.ref 0), some (.ref 52), some (.int l3)], [.int v6, .int v5, .ref 52, .int r4], M4)) (hf := rfl) rfl).trans ?_
  refine oB_in (fun v6 => ?_)
  refine (evn_adv 4 (q' := (1131, [some (.ref (88)), some (.ref 0), some (.ref 52), some (.int l3)], [.int (l3 + (jn 3)), .ref (88), .int v6, .int v5, .ref 52, .int r4], M4)) rfl).trans ?_
  refine (e_oB (q := (1131, [some (.ref (88)), some (.ref 0), some (.ref 52), some (.int l3)], [.int (l3 + (jn 3)), .ref (88), .int v6, .int v5, .ref 52, .int r4], M4)) (o := (aldI lay (some (nS, xs)) M4 (88) (l3 + (jn 3)))) (f := fun v7 => (1132, [some (.ref (88)), some (.ref 0), some (.ref 52), some (.int l3)], [.int v7, .int v6, .int v5, .ref 52, .int r4], M4)) (hf := rfl) rfl).trans ?_
  refine oB_in (fun v7 => ?_)
  refine (e_kI (q := (1132, [some (.ref (88)), some (.ref 0), some (.ref 52), some (.int l3)], [.int v7, .int v6, .int v5, .ref 52, .int r4])) (q2 := (1135, [some (.ref (88)), some (.ref 0), some (.ref 52), some (.int l3)], [.int r4])) (M := M4) (o := (pcl GG lay d 144 [.ref 52, .int v5, .int v6, .int v7] M4)) (hf := rfl) rfl rfl).trans ?_
  refine kI_in (fun r8 M8 => ?_)
  refine (e_ic_eq (hf := rfl)).trans ?_
  refine ite_in ?_ ?_
  · rfl
  · refine (evn_adv 1 (q' := (1139, [some (.ref (88)), some (.ref 0), some (.ref 52), some (.int l3)], [.int (jn 0)], M8)) rfl).trans ?_
    exact e_iretz (hf := rfl)
set_option maxRecDepth 100000 in
theorem h_276_1140 (nS : Nat) (xs : Nat → Int32) (d : Nat) (l3 : Int32) (M : PM) : E_276 nS xs d (1140, [some (.ref (88)), some (.ref 0), some (.ref 52), some (.int l3)], [], M) = (oB (aldI lay (some (nS, xs)) M (88) (l3 + (jn 1))) fun v1 => (kI (pcl GG lay d 36 [.ref 0, .int v1] M) fun r2 M2 => (oB (aldI lay (some (nS, xs)) M2 (88) (l3 + (jn 1))) fun v3 => (kI (pcl GG lay d 145 [.ref 52, .int v3] M2) fun r4 M4 => (if r2 = r4 then E_276 nS xs d (1520, [some (.ref (88)), some (.ref 0), some (.ref 52), some (.int l3)], [], M4) else (rZ (jn 0) M4)))))) := by
  refine (evn_adv 5 (q' := (1145, [some (.ref (88)), some (.ref 0), some (.ref 52), some (.int l3)], [.int (l3 + (jn 1)), .ref (88), .ref 0], M)) rfl).trans ?_
  refine (e_oB (q := (1145, [some (.ref (88)), some (.ref 0), some (.ref 52), some (.int l3)], [.int (l3 + (jn 1)), .ref (88), .ref 0], M)) (o := (aldI lay (some (nS, xs)) M (88) (l3 + (jn 1)))) (f := fun v1 => (1146, [some (.ref (88)), some (.ref 0), some (.ref 52), some (.int l3)], [.int v1, .ref 0], M)) (hf := rfl) rfl).trans ?_
  refine oB_in (fun v1 => ?_)
  refine (e_kI (q := (1146, [some (.ref (88)), some (.ref 0), some (.ref 52), some (.int l3)], [.int v1, .ref 0])) (q2 := (1149, [some (.ref (88)), some (.ref 0), some (.ref 52), some (.int l3)], [])) (M := M) (o := (pcl GG lay d 36 [.ref 0, .int v1] M)) (hf := rfl) rfl rfl).trans ?_
  refine kI_in (fun r2 M2 => ?_)
  refine (evn_adv 5 (q' := (1154, [some (.ref (88)), some (.ref 0), some (.ref 52), some (.int l3)], [.int (l3 + (jn 1)), .ref (88), .ref 52, .int r2], M2)) rfl).trans ?_
  refine (e_oB (q := (1154, [some (.ref (88)), some (.ref 0), some (.ref 52), some (.int l3)], [.int (l3 + (jn 1)), .ref (88), .ref 52, .int r2], M2)) (o := (aldI lay (some (nS, xs)) M2 (88) (l3 + (jn 1)))) (f := fun v3 => (1155, [some (.ref (88)), some (.ref 0), some (.ref 52), some (.int l3)], [.int v3, .ref 52, .int r2], M2)) (hf := rfl) rfl).trans ?_
  refine oB_in (fun v3 => ?_)
  refine (e_kI (q := (1155, [some (.ref (88)), some (.ref 0), some (.ref 52), some (.int l3)], [.int v3, .ref 52, .int r2])) (q2 := (1158, [some (.ref (88)), some (.ref 0), some (.ref 52), some (.int l3)], [.int r2])) (M := M2) (o := (pcl GG lay d 145 [.ref 52, .int v3] M2)) (hf := rfl) rfl rfl).trans ?_
  refine kI_in (fun r4 M4 => ?_)
  refine (e_ic_eq (hf := rfl)).trans ?_
  refine ite_in ?_ ?_
  · rfl
  · refine (evn_adv 1 (q' := (1162, [some (.ref (88)), some (.ref 0), some (.ref 52), some (.int l3)], [.int (jn 0)], M4)) rfl).trans ?_
    exact e_iretz (hf := rfl)
set_option maxRecDepth 100000 in
theorem h_276_1163 (nS : Nat) (xs : Nat → Int32) (d : Nat) (l3 : Int32) (M : PM) : E_276 nS xs d (1163, [some (.ref (88)), some (.ref 0), some (.ref 52), some (.int l3)], [], M) = (oB (aldI lay (some (nS, xs)) M (88) (l3 + (jn 1))) fun v1 => (kL (pcl GG lay d 37 [.ref 0, .int v1] M) fun r2 M2 => (oB (aldI lay (some (nS, xs)) M2 (88) (l3 + (jn 1))) fun v3 => (kL (pcl GG lay d 146 [.ref 52, .int v3] M2) fun r4 M4 => (if (lg_cmp r2 r4) = jn 0 then E_276 nS xs d (1520, [some (.ref (88)), some (.ref 0), some (.ref 52), some (.int l3)], [], M4) else (rZ (jn 0) M4)))))) := by
  refine (evn_adv 5 (q' := (1168, [some (.ref (88)), some (.ref 0), some (.ref 52), some (.int l3)], [.int (l3 + (jn 1)), .ref (88), .ref 0], M)) rfl).trans ?_
  refine (e_oB (q := (1168, [some (.ref (88)), some (.ref 0), some (.ref 52), some (.int l3)], [.int (l3 + (jn 1)), .ref (88), .ref 0], M)) (o := (aldI lay (some (nS, xs)) M (88) (l3 + (jn 1)))) (f := fun v1 => (1169, [some (.ref (88)), some (.ref 0), some (.ref 52), some (.int l3)], [.int v1, .ref 0], M)) (hf := rfl) rfl).trans ?_
  refine oB_in (fun v1 => ?_)
  refine (e_kL (q := (1169, [some (.ref (88)), some (.ref 0), some (.ref 52), some (.int l3)], [.int v1, .ref 0])) (q2 := (1172, [some (.ref (88)), some (.ref 0), some (.ref 52), some (.int l3)], [])) (M := M) (o := (pcl GG lay d 37 [.ref 0, .int v1] M)) (hf := rfl) rfl rfl).trans ?_
  refine kL_in (fun r2 M2 => ?_)
  refine (evn_adv 5 (q' := (1177, [some (.ref (88)), some (.ref 0), some (.ref 52), some (.int l3)], [.int (l3 + (jn 1)), .ref (88), .ref 52, .long r2], M2)) rfl).trans ?_
  refine (e_oB (q := (1177, [some (.ref (88)), some (.ref 0), some (.ref 52), some (.int l3)], [.int (l3 + (jn 1)), .ref (88), .ref 52, .long r2], M2)) (o := (aldI lay (some (nS, xs)) M2 (88) (l3 + (jn 1)))) (f := fun v3 => (1178, [some (.ref (88)), some (.ref 0), some (.ref 52), some (.int l3)], [.int v3, .ref 52, .long r2], M2)) (hf := rfl) rfl).trans ?_
  refine oB_in (fun v3 => ?_)
  refine (e_kL (q := (1178, [some (.ref (88)), some (.ref 0), some (.ref 52), some (.int l3)], [.int v3, .ref 52, .long r2])) (q2 := (1181, [some (.ref (88)), some (.ref 0), some (.ref 52), some (.int l3)], [.long r2])) (M := M2) (o := (pcl GG lay d 146 [.ref 52, .int v3] M2)) (hf := rfl) rfl rfl).trans ?_
  refine kL_in (fun r4 M4 => ?_)
  refine (evn_adv 1 (q' := (1182, [some (.ref (88)), some (.ref 0), some (.ref 52), some (.int l3)], [.int (lg_cmp r2 r4)], M4)) rfl).trans ?_
  refine (e_if_eq (hf := rfl)).trans ?_
  refine ite_in ?_ ?_
  · rfl
  · refine (evn_adv 1 (q' := (1186, [some (.ref (88)), some (.ref 0), some (.ref 52), some (.int l3)], [.int (jn 0)], M4)) rfl).trans ?_
    exact e_iretz (hf := rfl)
set_option maxRecDepth 100000 in
theorem h_276_1187 (nS : Nat) (xs : Nat → Int32) (d : Nat) (l3 : Int32) (M : PM) : E_276 nS xs d (1187, [some (.ref (88)), some (.ref 0), some (.ref 52), some (.int l3)], [], M) = (oB (aldI lay (some (nS, xs)) M (88) (l3 + (jn 1))) fun v1 => (oB (aldI lay (some (nS, xs)) M (88) (l3 + (jn 2))) fun v2 => (kI (pcl GG lay d 38 [.ref 0, .int v1, .int v2] M) fun r3 M3 => (oB (aldI lay (some (nS, xs)) M3 (88) (l3 + (jn 1))) fun v4 => (oB (aldI lay (some (nS, xs)) M3 (88) (l3 + (jn 2))) fun v5 => (kI (pcl GG lay d 148 [.ref 52, .int v4, .int v5] M3) fun r6 M6 => (if r3 = r6 then E_276 nS xs d (1520, [some (.ref (88)), some (.ref 0), some (.ref 52), some (.int l3)], [], M6) else (rZ (jn 0) M6)))))))) := by
  refine (evn_adv 5 (q' := (1192, [some (.ref (88)), some (.ref 0), some (.ref 52), some (.int l3)], [.int (l3 + (jn 1)), .ref (88), .ref 0], M)) rfl).trans ?_
  refine (e_oB (q := (1192, [some (.ref (88)), some (.ref 0), some (.ref 52), some (.int l3)], [.int (l3 + (jn 1)), .ref (88), .ref 0], M)) (o := (aldI lay (some (nS, xs)) M (88) (l3 + (jn 1)))) (f := fun v1 => (1193, [some (.ref (88)), some (.ref 0), some (.ref 52), some (.int l3)], [.int v1, .ref 0], M)) (hf := rfl) rfl).trans ?_
  refine oB_in (fun v1 => ?_)
  refine (evn_adv 4 (q' := (1197, [some (.ref (88)), some (.ref 0), some (.ref 52), some (.int l3)], [.int (l3 + (jn 2)), .ref (88), .int v1, .ref 0], M)) rfl).trans ?_
  refine (e_oB (q := (1197, [some (.ref (88)), some (.ref 0), some (.ref 52), some (.int l3)], [.int (l3 + (jn 2)), .ref (88), .int v1, .ref 0], M)) (o := (aldI lay (some (nS, xs)) M (88) (l3 + (jn 2)))) (f := fun v2 => (1198, [some (.ref (88)), some (.ref 0), some (.ref 52), some (.int l3)], [.int v2, .int v1, .ref 0], M)) (hf := rfl) rfl).trans ?_
  refine oB_in (fun v2 => ?_)
  refine (e_kI (q := (1198, [some (.ref (88)), some (.ref 0), some (.ref 52), some (.int l3)], [.int v2, .int v1, .ref 0])) (q2 := (1201, [some (.ref (88)), some (.ref 0), some (.ref 52), some (.int l3)], [])) (M := M) (o := (pcl GG lay d 38 [.ref 0, .int v1, .int v2] M)) (hf := rfl) rfl rfl).trans ?_
  refine kI_in (fun r3 M3 => ?_)
  refine (evn_adv 5 (q' := (1206, [some (.ref (88)), some (.ref 0), some (.ref 52), some (.int l3)], [.int (l3 + (jn 1)), .ref (88), .ref 52, .int r3], M3)) rfl).trans ?_
  refine (e_oB (q := (1206, [some (.ref (88)), some (.ref 0), some (.ref 52), some (.int l3)], [.int (l3 + (jn 1)), .ref (88), .ref 52, .int r3], M3)) (o := (aldI lay (some (nS, xs)) M3 (88) (l3 + (jn 1)))) (f := fun v4 => (1207, [some (.ref (88)), some (.ref 0), some (.ref 52), some (.int l3)], [.int v4, .ref 52, .int r3], M3)) (hf := rfl) rfl).trans ?_
  refine oB_in (fun v4 => ?_)
  refine (evn_adv 4 (q' := (1211, [some (.ref (88)), some (.ref 0), some (.ref 52), some (.int l3)], [.int (l3 + (jn 2)), .ref (88), .int v4, .ref 52, .int r3], M3)) rfl).trans ?_
  refine (e_oB (q := (1211, [some (.ref (88)), some (.ref 0), some (.ref 52), some (.int l3)], [.int (l3 + (jn 2)), .ref (88), .int v4, .ref 52, .int r3], M3)) (o := (aldI lay (some (nS, xs)) M3 (88) (l3 + (jn 2)))) (f := fun v5 => (1212, [some (.ref (88)), some (.ref 0), some (.ref 52), some (.int l3)], [.int v5, .int v4, .ref 52, .int r3], M3)) (hf := rfl) rfl).trans ?_
  refine oB_in (fun v5 => ?_)
  refine (e_kI (q := (1212, [some (.ref (88)), some (.ref 0), some (.ref 52), some (.int l3)], [.int v5, .int v4, .ref 52, .int r3])) (q2 := (1215, [some (.ref (88)), some (.ref 0), some (.ref 52), some (.int l3)], [.int r3])) (M := M3) (o := (pcl GG lay d 148 [.ref 52, .int v4, .int v5] M3)) (hf := rfl) rfl rfl).trans ?_
  refine kI_in (fun r6 M6 => ?_)
  refine (e_ic_eq (hf := rfl)).trans ?_
  refine ite_in ?_ ?_
  · rfl
  · refine (evn_adv 1 (q' := (1219, [some (.ref (88)), some (.ref 0), some (.ref 52), some (.int l3)], [.int (jn 0)], M6)) rfl).trans ?_
    exact e_iretz (hf := rfl)
set_option maxRecDepth 100000 in
theorem h_276_1220 (nS : Nat) (xs : Nat → Int32) (d : Nat) (l3 : Int32) (M : PM) : E_276 nS xs d (1220, [some (.ref (88)), some (.ref 0), some (.ref 52), some (.int l3)], [], M) = (oB (aldI lay (some (nS, xs)) M (88) (l3 + (jn 1))) fun v1 => (oB (aldI lay (some (nS, xs)) M (88) (l3 + (jn 2))) fun v2 => (kI (pcl GG lay d 40 [.ref 0, .int v1, .int v2] M) fun r3 M3 => (oB (aldI lay (some (nS, xs)) M3 (88) (l3 + (jn 1))) fun v4 => (oB (aldI lay (some (nS, xs)) M3 (88) (l3 + (jn 2))) fun v5 => (kI (pcl GG lay d 160 [.ref 52, .int v4, .int v5] M3) fun r6 M6 => (if r3 = r6 then E_276 nS xs d (1520, [some (.ref (88)), some (.ref 0), some (.ref 52), some (.int l3)], [], M6) else (rZ (jn 0) M6)))))))) := by
  refine (evn_adv 5 (q' := (1225, [some (.ref (88)), some (.ref 0), some (.ref 52), some (.int l3)], [.int (l3 + (jn 1)), .ref (88), .ref 0], M)) rfl).trans ?_
  refine (e_oB (q := (1225, [some (.ref (88)), some (.ref 0), some (.ref 52), some (.int l3)], [.int (l3 + (jn 1)), .ref (88), .ref 0], M)) (o := (aldI lay (some (nS, xs)) M (88) (l3 + (jn 1)))) (f := fun v1 => (1226, [some (.ref (88)), some (.ref 0), some (.ref 52), some (.int l3)], [.int v1, .ref 0], M)) (hf := rfl) rfl).trans ?_
  refine oB_in (fun v1 => ?_)
  refine (evn_adv 4 (q' := (1230, [some (.ref (88)), some (.ref 0), some (.ref 52), some (.int l3)], [.int (l3 + (jn 2)), .ref (88), .int v1, .ref 0], M)) rfl).trans ?_
  refine (e_oB (q := (1230, [some (.ref (88)), some (.ref 0), some (.ref 52), some (.int l3)], [.int (l3 + (jn 2)), .ref (88), .int v1, .ref 0], M)) (o := (aldI lay (some (nS, xs)) M (88) (l3 + (jn 2)))) (f := fun v2 => (1231, [some (.ref (88)), some (.ref 0), some (.ref 52), some (.int l3)], [.int v2, .int v1, .ref 0], M)) (hf := rfl) rfl).trans ?_
  refine oB_in (fun v2 => ?_)
  refine (e_kI (q := (1231, [some (.ref (88)), some (.ref 0), some (.ref 52), some (.int l3)], [.int v2, .int v1, .ref 0])) (q2 := (1234, [some (.ref (88)), some (.ref 0), some (.ref 52), some (.int l3)], [])) (M := M) (o := (pcl GG lay d 40 [.ref 0, .int v1, .int v2] M)) (hf := rfl) rfl rfl).trans ?_
  refine kI_in (fun r3 M3 => ?_)
  refine (evn_adv 5 (q' := (1239, [some (.ref (88)), some (.ref 0), some (.ref 52), some (.int l3)], [.int (l3 + (jn 1)), .ref (88), .ref 52, .int r3], M3)) rfl).trans ?_
  refine (e_oB (q := (1239, [some (.ref (88)), some (.ref 0), some (.ref 52), some (.int l3)], [.int (l3 + (jn 1)), .ref (88), .ref 52, .int r3], M3)) (o := (aldI lay (some (nS, xs)) M3 (88) (l3 + (jn 1)))) (f := fun v4 => (1240, [some (.ref (88)), some (.ref 0), some (.ref 52), some (.int l3)], [.int v4, .ref 52, .int r3], M3)) (hf := rfl) rfl).trans ?_
  refine oB_in (fun v4 => ?_)
  refine (evn_adv 4 (q' := (1244, [some (.ref (88)), some (.ref 0), some (.ref 52), some (.int l3)], [.int (l3 + (jn 2)), .ref (88), .int v4, .ref 52, .int r3], M3)) rfl).trans ?_
  refine (e_oB (q := (1244, [some (.ref (88)), some (.ref 0), some (.ref 52), some (.int l3)], [.int (l3 + (jn 2)), .ref (88), .int v4, .ref 52, .int r3], M3)) (o := (aldI lay (some (nS, xs)) M3 (88) (l3 + (jn 2)))) (f := fun v5 => (1245, [some (.ref (88)), some (.ref 0), some (.ref 52), some (.int l3)], [.int v5, .int v4, .ref 52, .int r3], M3)) (hf := rfl) rfl).trans ?_
  refine oB_in (fun v5 => ?_)
  refine (e_kI (q := (1245, [some (.ref (88)), some (.ref 0), some (.ref 52), some (.int l3)], [.int v5, .int v4, .ref 52, .int r3])) (q2 := (1248, [some (.ref (88)), some (.ref 0), some (.ref 52), some (.int l3)], [.int r3])) (M := M3) (o := (pcl GG lay d 160 [.ref 52, .int v4, .int v5] M3)) (hf := rfl) rfl rfl).trans ?_
  refine kI_in (fun r6 M6 => ?_)
  refine (e_ic_eq (hf := rfl)).trans ?_
  refine ite_in ?_ ?_
  · rfl
  · refine (evn_adv 1 (q' := (1252, [some (.ref (88)), some (.ref 0), some (.ref 52), some (.int l3)], [.int (jn 0)], M6)) rfl).trans ?_
    exact e_iretz (hf := rfl)
set_option maxRecDepth 100000 in
theorem h_276_1253 (nS : Nat) (xs : Nat → Int32) (d : Nat) (l3 : Int32) (M : PM) : E_276 nS xs d (1253, [some (.ref (88)), some (.ref 0), some (.ref 52), some (.int l3)], [], M) = (oB (aldI lay (some (nS, xs)) M (88) (l3 + (jn 1))) fun v1 => (oB (aldI lay (some (nS, xs)) M (88) (l3 + (jn 2))) fun v2 => (kI (pcl GG lay d 42 [.ref 0, .int v1, .int v2] M) fun r3 M3 => (oB (aldI lay (some (nS, xs)) M3 (88) (l3 + (jn 1))) fun v4 => (oB (aldI lay (some (nS, xs)) M3 (88) (l3 + (jn 2))) fun v5 => (kI (pcl GG lay d 165 [.ref 52, .int v4, .int v5] M3) fun r6 M6 => (if r3 = r6 then E_276 nS xs d (1520, [some (.ref (88)), some (.ref 0), some (.ref 52), some (.int l3)], [], M6) else (rZ (jn 0) M6)))))))) := by
  refine (evn_adv 5 (q' := (1258, [some (.ref (88)), some (.ref 0), some (.ref 52), some (.int l3)], [.int (l3 + (jn 1)), .ref (88), .ref 0], M)) rfl).trans ?_
  refine (e_oB (q := (1258, [some (.ref (88)), some (.ref 0), some (.ref 52), some (.int l3)], [.int (l3 + (jn 1)), .ref (88), .ref 0], M)) (o := (aldI lay (some (nS, xs)) M (88) (l3 + (jn 1)))) (f := fun v1 => (1259, [some (.ref (88)), some (.ref 0), some (.ref 52), some (.int l3)], [.int v1, .ref 0], M)) (hf := rfl) rfl).trans ?_
  refine oB_in (fun v1 => ?_)
  refine (evn_adv 4 (q' := (1263, [some (.ref (88)), some (.ref 0), some (.ref 52), some (.int l3)], [.int (l3 + (jn 2)), .ref (88), .int v1, .ref 0], M)) rfl).trans ?_
  refine (e_oB (q := (1263, [some (.ref (88)), some (.ref 0), some (.ref 52), some (.int l3)], [.int (l3 + (jn 2)), .ref (88), .int v1, .ref 0], M)) (o := (aldI lay (some (nS, xs)) M (88) (l3 + (jn 2)))) (f := fun v2 => (1264, [some (.ref (88)), some (.ref 0), some (.ref 52), some (.int l3)], [.int v2, .int v1, .ref 0], M)) (hf := rfl) rfl).trans ?_
  refine oB_in (fun v2 => ?_)
  refine (e_kI (q := (1264, [some (.ref (88)), some (.ref 0), some (.ref 52), some (.int l3)], [.int v2, .int v1, .ref 0])) (q2 := (1267, [some (.ref (88)), some (.ref 0), some (.ref 52), some (.int l3)], [])) (M := M) (o := (pcl GG lay d 42 [.ref 0, .int v1, .int v2] M)) (hf := rfl) rfl rfl).trans ?_
  refine kI_in (fun r3 M3 => ?_)
  refine (evn_adv 5 (q' := (1272, [some (.ref (88)), some (.ref 0), some (.ref 52), some (.int l3)], [.int (l3 + (jn 1)), .ref (88), .ref 52, .int r3], M3)) rfl).trans ?_
  refine (e_oB (q := (1272, [some (.ref (88)), some (.ref 0), some (.ref 52), some (.int l3)], [.int (l3 + (jn 1)), .ref (88), .ref 52, .int r3], M3)) (o := (aldI lay (some (nS, xs)) M3 (88) (l3 + (jn 1)))) (f := fun v4 => (1273, [some (.ref (88)), some (.ref 0), some (.ref 52), some (.int l3)], [.int v4, .ref 52, .int r3], M3)) (hf := rfl) rfl).trans ?_
  refine oB_in (fun v4 => ?_)
  refine (evn_adv 4 (q' := (1277, [some (.ref (88)), some (.ref 0), some (.ref 52), some (.int l3)], [.int (l3 + (jn 2)), .ref (88), .int v4, .ref 52, .int r3], M3)) rfl).trans ?_
  refine (e_oB (q := (1277, [some (.ref (88)), some (.ref 0), some (.ref 52), some (.int l3)], [.int (l3 + (jn 2)), .ref (88), .int v4, .ref 52, .int r3], M3)) (o := (aldI lay (some (nS, xs)) M3 (88) (l3 + (jn 2)))) (f := fun v5 => (1278, [some (.ref (88)), some (.ref 0), some (.ref 52), some (.int l3)], [.int v5, .int v4, .ref 52, .int r3], M3)) (hf := rfl) rfl).trans ?_
  refine oB_in (fun v5 => ?_)
  refine (e_kI (q := (1278, [some (.ref (88)), some (.ref 0), some (.ref 52), some (.int l3)], [.int v5, .int v4, .ref 52, .int r3])) (q2 := (1281, [some (.ref (88)), some (.ref 0), some (.ref 52), some (.int l3)], [.int r3])) (M := M3) (o := (pcl GG lay d 165 [.ref 52, .int v4, .int v5] M3)) (hf := rfl) rfl rfl).trans ?_
  refine kI_in (fun r6 M6 => ?_)
  refine (e_ic_eq (hf := rfl)).trans ?_
  refine ite_in ?_ ?_
  · rfl
  · refine (evn_adv 1 (q' := (1285, [some (.ref (88)), some (.ref 0), some (.ref 52), some (.int l3)], [.int (jn 0)], M6)) rfl).trans ?_
    exact e_iretz (hf := rfl)
set_option maxRecDepth 100000 in
theorem h_276_1286 (nS : Nat) (xs : Nat → Int32) (d : Nat) (l3 : Int32) (M : PM) : E_276 nS xs d (1286, [some (.ref (88)), some (.ref 0), some (.ref 52), some (.int l3)], [], M) = (oB (aldI lay (some (nS, xs)) M (88) (l3 + (jn 1))) fun v1 => (oB (aldI lay (some (nS, xs)) M (88) (l3 + (jn 2))) fun v2 => (oB (aldI lay (some (nS, xs)) M (88) (l3 + (jn 3))) fun v3 => (oB (aldI lay (some (nS, xs)) M (88) (l3 + (jn 4))) fun v4 => (kI (pcl GG lay d 43 [.ref 0, .int v1, .int v2, .int v3, .int v4] M) fun r5 M5 => (oB (aldI lay (some (nS, xs)) M5 (88) (l3 + (jn 1))) fun v6 => (oB (aldI lay (some (nS, xs)) M5 (88) (l3 + (jn 2))) fun v7 => (oB (aldI lay (some (nS, xs)) M5 (88) (l3 + (jn 3))) fun v8 => (oB (aldI lay (some (nS, xs)) M5 (88) (l3 + (jn 4))) fun v9 => (kI (pcl GG lay d 167 [.ref 52, .int v6, .int v7, .int v8, .int v9] M5) fun r10 M10 => (if r5 = r10 then E_276 nS xs d (1520, [some (.ref (88)), some (.ref 0), some (.ref 52), some (.int l3)], [], M10) else (rZ (jn 0) M10)))))))))))) := by
  refine (evn_adv 5 (q' := (1291, [some (.ref (88)), some (.ref 0), some (.ref 52), some (.int l3)], [.int (l3 + (jn 1)), .ref (88), .ref 0], M)) rfl).trans ?_
  refine (e_oB (q := (1291, [some (.ref (88)), some (.ref 0), some (.ref 52), some (.int l3)], [.int (l3 + (jn 1)), .ref (88), .ref 0], M)) (o := (aldI lay (some (nS, xs)) M (88) (l3 + (jn 1)))) (f := fun v1 => (1292, [some (.ref (88)), some (.ref 0), some (.ref 52), some (.int l3)], [.int v1, .ref 0], M)) (hf := rfl) rfl).trans ?_
  refine oB_in (fun v1 => ?_)
  refine (evn_adv 4 (q' := (1296, [some (.ref (88)), some (.ref 0), some (.ref 52), some (.int l3)], [.int (l3 + (jn 2)), .ref (88), .int v1, .ref 0], M)) rfl).trans ?_
  refine (e_oB (q := (1296, [some (.ref (88)), some (.ref 0), some (.ref 52), some (.int l3)], [.int (l3 + (jn 2)), .ref (88), .int v1, .ref 0], M)) (o := (aldI lay (some (nS, xs)) M (88) (l3 + (jn 2)))) (f := fun v2 => (1297, [some (.ref (88)), some (.ref 0), some (.ref 52), some (.int l3)], [.int v2, .int v1, .ref 0], M)) (hf := rfl) rfl).trans ?_
  refine oB_in (fun v2 => ?_)
  refine (evn_adv 4 (q' := (1301, [some (.ref (88)), some (.ref 0), some (.ref 52), some (.int l3)], [.int (l3 + (jn 3)), .ref (88), .int v2, .int v1, .ref 0], M)) rfl).trans ?_
  refine (e_oB (q := (1301, [some (.ref (88)), some (.ref 0), some (.ref 52), some (.int l3)], [.int (l3 + (jn 3)), .ref (88), .int v2, .int v1, .ref 0], M)) (o := (aldI lay (some (nS, xs)) M (88) (l3 + (jn 3)))) (f := fun v3 => (1302, [some (.ref (88)), some (.ref 0), some (.ref 52), some (.int l3)], [.int v3, .int v2, .int v1, .ref 0], M)) (hf := rfl) rfl).trans ?_
  refine oB_in (fun v3 => ?_)
  refine (evn_adv 4 (q' := (1306, [some (.ref (88)), some (.ref 0), some (.ref 52), some (.int l3)], [.int (l3 + (jn 4)), .ref (88), .int v3, .int v2, .int v1, .ref 0], M)) rfl).trans ?_
  refine (e_oB (q := (1306, [some (.ref (88)), some (.ref 0), some (.ref 52), some (.int l3)], [.int (l3 + (jn 4)), .ref (88), .int v3, .int v2, .int v1, .ref 0], M)) (o := (aldI lay (some (nS, xs)) M (88) (l3 + (jn 4)))) (f := fun v4 => (1307, [some (.ref (88)), some (.ref 0), some (.ref 52), some (.int l3)], [.int v4, .int v3, .int v2, .int v1, .ref 0], M)) (hf := rfl) rfl).trans ?_
  refine oB_in (fun v4 => ?_)
  refine (e_kI (q := (1307, [some (.ref (88)), some (.ref 0), some (.ref 52), some (.int l3)], [.int v4, .int v3, .int v2, .int v1, .ref 0])) (q2 := (1310, [some (.ref (88)), some (.ref 0), some (.ref 52), some (.int l3)], [])) (M := M) (o := (pcl GG lay d 43 [.ref 0, .int v1, .int v2, .int v3, .int v4] M)) (hf := rfl) rfl rfl).trans ?_
  refine kI_in (fun r5 M5 => ?_)
  refine (evn_adv 5 (q' := (1315, [some (.ref (88)), some (.ref 0), some (.ref 52), some (.int l3)], [.int (l3 + (jn 1)), .ref (88), .ref 52, .int r5], M5)) rfl).trans ?_
  refine (e_oB (q := (1315, [some (.ref (88)), some (.ref 0), some (.ref 52), some (.int l3)], [.int (l3 + (jn 1)), .ref (88), .ref 52, .int r5], M5)) (o := (aldI lay (some (nS, xs)) M5 (88) (l3 + (jn 1)))) (f := fun v6 => (1316, [some (.ref (88)), some (.ref 0), some (.ref 52), some (.int l3)], [.int v6, .ref 52, .int r5], M5)) (hf := rfl) rfl).trans ?_
  refine oB_in (fun v6 => ?_)
  refine (evn_adv 4 (q' := (1320, [some (.ref (88)), some (.ref 0), some (.ref 52), some (.int l3)], [.int (l3 + (jn 2)), .ref (88), .int v6, .ref 52, .int r5], M5)) rfl).trans ?_
  refine (e_oB (q := (1320, [some (.ref (88)), some (.ref 0), some (.ref 52), some (.int l3)], [.int (l3 + (jn 2)), .ref (88), .int v6, .ref 52, .int r5], M5)) (o := (aldI lay (some (nS, xs)) M5 (88) (l3 + (jn 2)))) (f := fun v7 => (1321, [some (.ref (88)), some (.ref 0), some (.ref 52), some (.int l3)], [.int v7, .int v6, .ref 52, .int r5], M5)) (hf := rfl) rfl).trans ?_
  refine oB_in (fun v7 => ?_)
  refine (evn_adv 4 (q' := (1325, [some (.ref (88)), some (.ref 0), some (.ref 52), some (.int l3)], [.int (l3 + (jn 3)), .ref (88), .int v7, .int v6, .ref 52, .int r5], M5)) rfl).trans ?_
  refine (e_oB (q := (1325, [some (.ref (88)), some (.ref 0), some (.ref 52), some (.int l3)], [.int (l3 + (jn 3)), .ref (88), .int v7, .int v6, .ref 52, .int r5], M5)) (o := (aldI lay (some (nS, xs)) M5 (88) (l3 + (jn 3)))) (f := fun v8 => (1326, [some (.ref (88)), some (.ref 0), some (.ref 52), some (.int l3)], [.int v8, .int v7, .int v6, .ref 52, .int r5], M5)) (hf := rfl) rfl).trans ?_
  refine oB_in (fun v8 => ?_)
  refine (evn_adv 4 (q' := (1330, [some (.ref (88)), some (.ref 0), some (.ref 52), some (.int l3)], [.int (l3 + (jn 4)), .ref (88), .int v8, .int v7, .int v6, .ref 52, .int r5], M5)) rfl).trans ?_
  refine (e_oB (q := (1330, [some (.ref (88)), some (.ref 0), some (.ref 52), some (.int l3)], [.int (l3 + (jn 4)), .ref (88), .int v8, .int v7, .int v6, .ref 52, .int r5], M5)) (o := (aldI lay (some (nS, xs)) M5 (88) (l3 + (jn 4)))) (f := fun v9 => (1331, [some (.ref (88)), some (.ref 0), some (.ref 52), some (.int l3)], [.int v9, .int v8, .int v7, .int v6, .ref 52, .int r5], M5)) (hf := rfl) rfl).trans ?_
  refine oB_in (fun v9 => ?_)
  refine (e_kI (q := (1331, [some (.ref (88)), some (.ref 0), some (.ref 52), some (.int l3)], [.int v9, .int v8, .int v7, .int v6, .ref 52, .int r5])) (q2 := (1334, [some (.ref (88)), some (.ref 0), some (.ref 52), some (.int l3)], [.int r5])) (M := M5) (o := (pcl GG lay d 167 [.ref 52, .int v6, .int v7, .int v8, .int v9] M5)) (hf := rfl) rfl rfl).trans ?_
  refine kI_in (fun r10 M10 => ?_)
  refine (e_ic_eq (hf := rfl)).trans ?_
  refine ite_in ?_ ?_
  · rfl
  · refine (evn_adv 1 (q' := (1338, [some (.ref (88)), some (.ref 0), some (.ref 52), some (.int l3)], [.int (jn 0)], M10)) rfl).trans ?_
    exact e_iretz (hf := rfl)
set_option maxRecDepth 100000 in
theorem h_276_1339 (nS : Nat) (xs : Nat → Int32) (d : Nat) (l3 : Int32) (M : PM) : E_276 nS xs d (1339, [some (.ref (88)), some (.ref 0), some (.ref 52), some (.int l3)], [], M) = (oB (aldI lay (some (nS, xs)) M (88) (l3 + (jn 1))) fun v1 => (oB (aldI lay (some (nS, xs)) M (88) (l3 + (jn 2))) fun v2 => (oB (aldI lay (some (nS, xs)) M (88) (l3 + (jn 3))) fun v3 => (kI (pcl GG lay d 44 [.ref 0, .int v1, .int v2, .int v3] M) fun r4 M4 => (oB (aldI lay (some (nS, xs)) M4 (88) (l3 + (jn 1))) fun v5 => (oB (aldI lay (some (nS, xs)) M4 (88) (l3 + (jn 2))) fun v6 => (oB (aldI lay (some (nS, xs)) M4 (88) (l3 + (jn 3))) fun v7 => (kI (pcl GG lay d 169 [.ref 52, .int v5, .int v6, .int v7] M4) fun r8 M8 => (if r4 = r8 then E_276 nS xs d (1520, [some (.ref (88)), some (.ref 0), some (.ref 52), some (.int l3)], [], M8) else (rZ (jn 0) M8)))))))))) := by
  refine (evn_adv 5 (q' := (1344, [some (.ref (88)), some (.ref 0), some (.ref 52), some (.int l3)], [.int (l3 + (jn 1)), .ref (88), .ref 0], M)) rfl).trans ?_
  refine (e_oB (q := (1344, [some (.ref (88)), some (.ref 0), some (.ref 52), some (.int l3)], [.int (l3 + (jn 1)), .ref (88), .ref 0], M)) (o := (aldI lay (some (nS, xs)) M (88) (l3 + (jn 1)))) (f := fun v1 => (1345, [some (.ref (88)), some (.ref 0), some (.ref 52), some (.int l3)], [.int v1, .ref 0], M)) (hf := rfl) rfl).trans ?_
  refine oB_in (fun v1 => ?_)
  refine (evn_adv 4 (q' := (1349, [some (.ref (88)), some (.ref 0), some (.ref 52), some (.int l3)], [.int (l3 + (jn 2)), .ref (88), .int v1, .ref 0], M)) rfl).trans ?_
  refine (e_oB (q := (1349, [some (.ref (88)), some (.ref 0), some (.ref 52), some (.int l3)], [.int (l3 + (jn 2)), .ref (88), .int v1, .ref 0], M)) (o := (aldI lay (some (nS, xs)) M (88) (l3 + (jn 2)))) (f := fun v2 => (1350, [some (.ref (88)), some (.ref 0), some (.ref 52), some (.int l3)], [.int v2, .int v1, .ref 0], M)) (hf := rfl) rfl).trans ?_
  refine oB_in (fun v2 => ?_)
  refine (evn_adv 4 (q' := (1354, [some (.ref (88)), some (.ref 0), some (.ref 52), some (.int l3)], [.int (l3 + (jn 3)), .ref (88), .int v2, .int v1, .ref 0], M)) rfl).trans ?_
  refine (e_oB (q := (1354, [some (.ref (88)), some (.ref 0), some (.ref 52), some (.int l3)], [.int (l3 + (jn 3)), .ref (88), .int v2, .int v1, .ref 0], M)) (o := (aldI lay (some (nS, xs)) M (88) (l3 + (jn 3)))) (f := fun v3 => (1355, [some (.ref (88)), some (.ref 0), some (.ref 52), some (.int l3)], [.int v3, .int v2, .int v1, .ref 0], M)) (hf := rfl) rfl).trans ?_
  refine oB_in (fun v3 => ?_)
  refine (e_kI (q := (1355, [some (.ref (88)), some (.ref 0), some (.ref 52), some (.int l3)], [.int v3, .int v2, .int v1, .ref 0])) (q2 := (1358, [some (.ref (88)), some (.ref 0), some (.ref 52), some (.int l3)], [])) (M := M) (o := (pcl GG lay d 44 [.ref 0, .int v1, .int v2, .int v3] M)) (hf := rfl) rfl rfl).trans ?_
  refine kI_in (fun r4 M4 => ?_)
  refine (evn_adv 5 (q' := (1363, [some (.ref (88)), some (.ref 0), some (.ref 52), some (.int l3)], [.int (l3 + (jn 1)), .ref (88), .ref 52, .int r4], M4)) rfl).trans ?_
  refine (e_oB (q := (1363, [some (.ref (88)), some (.ref 0), some (.ref 52), some (.int l3)], [.int (l3 + (jn 1)), .ref (88), .ref 52, .int r4], M4)) (o := (aldI lay (some (nS, xs)) M4 (88) (l3 + (jn 1)))) (f := fun v5 => (1364, [some (.ref (88)), some (.ref 0), some (.ref 52), some (.int l3)], [.int v5, .ref 52, .int r4], M4)) (hf := rfl) rfl).trans ?_
  refine oB_in (fun v5 => ?_)
  refine (evn_adv 4 (q' := (1368, [some (.ref (88)), some (.ref 0), some (.ref 52), some (.int l3)], [.int (l3 + (jn 2)), .ref (88), .int v5, .ref 52, .int r4], M4)) rfl).trans ?_
  refine (e_oB (q := (1368, [some (.ref (88)), some (.ref 0), some (.ref 52), some (.int l3)], [.int (l3 + (jn 2)), .ref (88), .int v5, .ref 52, .int r4], M4)) (o := (aldI lay (some (nS, xs)) M4 (88) (l3 + (jn 2)))) (f := fun v6 => (1369, [some (.ref (88)), some (.ref 0), some (.ref 52), some (.int l3)], [.int v6, .int v5, .ref 52, .int r4], M4)) (hf := rfl) rfl).trans ?_
  refine oB_in (fun v6 => ?_)
  refine (evn_adv 4 (q' := (1373, [some (.ref (88)), some (.ref 0), some (.ref 52), some (.int l3)], [.int (l3 + (jn 3)), .ref (88), .int v6, .int v5, .ref 52, .int r4], M4)) rfl).trans ?_
  refine (e_oB (q := (1373, [some (.ref (88)), some (.ref 0), some (.ref 52), some (.int l3)], [.int (l3 + (jn 3)), .ref (88), .int v6, .int v5, .ref 52, .int r4], M4)) (o := (aldI lay (some (nS, xs)) M4 (88) (l3 + (jn 3)))) (f := fun v7 => (1374, [some (.ref (88)), some (.ref 0), some (.ref 52), some (.int l3)], [.int v7, .int v6, .int v5, .ref 52, .int r4], M4)) (hf := rfl) rfl).trans ?_
  refine oB_in (fun v7 => ?_)
  refine (e_kI (q := (1374, [some (.ref (88)), some (.ref 0), some (.ref 52), some (.int l3)], [.int v7, .int v6, .int v5, .ref 52, .int r4])) (q2 := (1377, [some (.ref (88)), some (.ref 0), some (.ref 52), some (.int l3)], [.int r4])) (M := M4) (o := (pcl GG lay d 169 [.ref 52, .int v5, .int v6, .int v7] M4)) (hf := rfl) rfl rfl).trans ?_
  refine kI_in (fun r8 M8 => ?_)
  refine (e_ic_eq (hf := rfl)).trans ?_
  refine ite_in ?_ ?_
  · rfl
  · refine (evn_adv 1 (q' := (1381, [some (.ref (88)), some (.ref 0), some (.ref 52), some (.int l3)], [.int (jn 0)], M8)) rfl).trans ?_
    exact e_iretz (hf := rfl)
set_option maxRecDepth 100000 in
theorem h_276_1382 (nS : Nat) (xs : Nat → Int32) (d : Nat) (l3 : Int32) (M : PM) : E_276 nS xs d (1382, [some (.ref (88)), some (.ref 0), some (.ref 52), some (.int l3)], [], M) = (oB (aldI lay (some (nS, xs)) M (88) (l3 + (jn 1))) fun v1 => (oB (aldI lay (some (nS, xs)) M (88) (l3 + (jn 2))) fun v2 => (oB (aldI lay (some (nS, xs)) M (88) (l3 + (jn 3))) fun v3 => (kI (pcl GG lay d 47 [.ref 0, .int v1, .int v2, .int v3] M) fun r4 M4 => (oB (aldI lay (some (nS, xs)) M4 (88) (l3 + (jn 1))) fun v5 => (oB (aldI lay (some (nS, xs)) M4 (88) (l3 + (jn 2))) fun v6 => (oB (aldI lay (some (nS, xs)) M4 (88) (l3 + (jn 3))) fun v7 => (kI (pcl GG lay d 171 [.ref 52, .int v5, .int v6, .int v7] M4) fun r8 M8 => (if r4 = r8 then E_276 nS xs d (1520, [some (.ref (88)), some (.ref 0), some (.ref 52), some (.int l3)], [], M8) else (rZ (jn 0) M8)))))))))) := by
  refine (evn_adv 5 (q' := (1387, [some (.ref (88)), some (.ref 0), some (.ref 52), some (.int l3)], [.int (l3 + (jn 1)), .ref (88), .ref 0], M)) rfl).trans ?_
  refine (e_oB (q := (1387, [some (.ref (88)), some (.ref 0), some (.ref 52), some (.int l3)], [.int (l3 + (jn 1)), .ref (88), .ref 0], M)) (o := (aldI lay (some (nS, xs)) M (88) (l3 + (jn 1)))) (f := fun v1 => (1388, [some (.ref (88)), some (.ref 0), some (.ref 52), some (.int l3)], [.int v1, .ref 0], M)) (hf := rfl) rfl).trans ?_
  refine oB_in (fun v1 => ?_)
  refine (evn_adv 4 (q' := (1392, [some (.ref (88)), some (.ref 0), some (.ref 52), some (.int l3)], [.int (l3 + (jn 2)), .ref (88), .int v1, .ref 0], M)) rfl).trans ?_
  refine (e_oB (q := (1392, [some (.ref (88)), some (.ref 0), some (.ref 52), some (.int l3)], [.int (l3 + (jn 2)), .ref (88), .int v1, .ref 0], M)) (o := (aldI lay (some (nS, xs)) M (88) (l3 + (jn 2)))) (f := fun v2 => (1393, [some (.ref (88)), some (.ref 0), some (.ref 52), some (.int l3)], [.int v2, .int v1, .ref 0], M)) (hf := rfl) rfl).trans ?_
  refine oB_in (fun v2 => ?_)
  refine (evn_adv 4 (q' := (1397, [some (.ref (88)), some (.ref 0), some (.ref 52), some (.int l3)], [.int (l3 + (jn 3)), .ref (88), .int v2, .int v1, .ref 0], M)) rfl).trans ?_
  refine (e_oB (q := (1397, [some (.ref (88)), some (.ref 0), some (.ref 52), some (.int l3)], [.int (l3 + (jn 3)), .ref (88), .int v2, .int v1, .ref 0], M)) (o := (aldI lay (some (nS, xs)) M (88) (l3 + (jn 3)))) (f := fun v3 => (1398, [some (.ref (88)), some (.ref 0), some (.ref 52), some (.int l3)], [.int v3, .int v2, .int v1, .ref 0], M)) (hf := rfl) rfl).trans ?_
  refine oB_in (fun v3 => ?_)
  refine (e_kI (q := (1398, [some (.ref (88)), some (.ref 0), some (.ref 52), some (.int l3)], [.int v3, .int v2, .int v1, .ref 0])) (q2 := (1401, [some (.ref (88)), some (.ref 0), some (.ref 52), some (.int l3)], [])) (M := M) (o := (pcl GG lay d 47 [.ref 0, .int v1, .int v2, .int v3] M)) (hf := rfl) rfl rfl).trans ?_
  refine kI_in (fun r4 M4 => ?_)
  refine (evn_adv 5 (q' := (1406, [some (.ref (88)), some (.ref 0), some (.ref 52), some (.int l3)], [.int (l3 + (jn 1)), .ref (88), .ref 52, .int r4], M4)) rfl).trans ?_
  refine (e_oB (q := (1406, [some (.ref (88)), some (.ref 0), some (.ref 52), some (.int l3)], [.int (l3 + (jn 1)), .ref (88), .ref 52, .int r4], M4)) (o := (aldI lay (some (nS, xs)) M4 (88) (l3 + (jn 1)))) (f := fun v5 => (1407, [some (.ref (88)), some (.ref 0), some (.ref 52), some (.int l3)], [.int v5, .ref 52, .int r4], M4)) (hf := rfl) rfl).trans ?_
  refine oB_in (fun v5 => ?_)
  refine (evn_adv 4 (q' := (1411, [some (.ref (88)), some (.ref 0), some (.ref 52), some (.int l3)], [.int (l3 + (jn 2)), .ref (88), .int v5, .ref 52, .int r4], M4)) rfl).trans ?_
  refine (e_oB (q := (1411, [some (.ref (88)), some (.ref 0), some (.ref 52), some (.int l3)], [.int (l3 + (jn 2)), .ref (88), .int v5, .ref 52, .int r4], M4)) (o := (aldI lay (some (nS, xs)) M4 (88) (l3 + (jn 2)))) (f := fun v6 => (1412, [some (.ref (88)), some (.ref 0), some (.ref 52), some (.int l3)], [.int v6, .int v5, .ref 52, .int r4], M4)) (hf := rfl) rfl).trans ?_
  refine oB_in (fun v6 => ?_)
  refine (evn_adv 4 (q' := (1416, [some (.ref (88)), some (.ref 0), some (.ref 52), some (.int l3)], [.int (l3 + (jn 3)), .ref (88), .int v6, .int v5, .ref 52, .int r4], M4)) rfl).trans ?_
  refine (e_oB (q := (1416, [some (.ref (88)), some (.ref 0), some (.ref 52), some (.int l3)], [.int (l3 + (jn 3)), .ref (88), .int v6, .int v5, .ref 52, .int r4], M4)) (o := (aldI lay (some (nS, xs)) M4 (88) (l3 + (jn 3)))) (f := fun v7 => (1417, [some (.ref (88)), some (.ref 0), some (.ref 52), some (.int l3)], [.int v7, .int v6, .int v5, .ref 52, .int r4], M4)) (hf := rfl) rfl).trans ?_
  refine oB_in (fun v7 => ?_)
  refine (e_kI (q := (1417, [some (.ref (88)), some (.ref 0), some (.ref 52), some (.int l3)], [.int v7, .int v6, .int v5, .ref 52, .int r4])) (q2 := (1420, [some (.ref (88)), some (.ref 0), some (.ref 52), some (.int l3)], [.int r4])) (M := M4) (o := (pcl GG lay d 171 [.ref 52, .int v5, .int v6, .int v7] M4)) (hf := rfl) rfl rfl).trans ?_
  refine kI_in (fun r8 M8 => ?_)
  refine (e_ic_eq (hf := rfl)).trans ?_
  refine ite_in ?_ ?_
  · rfl
  · refine (evn_adv 1 (q' := (1424, [some (.ref (88)), some (.ref 0), some (.ref 52), some (.int l3)], [.int (jn 0)], M8)) rfl).trans ?_
    exact e_iretz (hf := rfl)
set_option maxRecDepth 100000 in
theorem h_276_1425 (nS : Nat) (xs : Nat → Int32) (d : Nat) (l3 : Int32) (M : PM) : E_276 nS xs d (1425, [some (.ref (88)), some (.ref 0), some (.ref 52), some (.int l3)], [], M) = (oB (aldI lay (some (nS, xs)) M (88) (l3 + (jn 1))) fun v1 => (kI (pcl GG lay d 49 [.ref 0, .int v1] M) fun r2 M2 => (oB (aldI lay (some (nS, xs)) M2 (88) (l3 + (jn 1))) fun v3 => (kI (pcl GG lay d 174 [.ref 52, .int v3] M2) fun r4 M4 => (if r2 = r4 then E_276 nS xs d (1520, [some (.ref (88)), some (.ref 0), some (.ref 52), some (.int l3)], [], M4) else (rZ (jn 0) M4)))))) := by
  refine (evn_adv 5 (q' := (1430, [some (.ref (88)), some (.ref 0), some (.ref 52), some (.int l3)], [.int (l3 + (jn 1)), .ref (88), .ref 0], M)) rfl).trans ?_
  refine (e_oB (q := (1430, [some (.ref (88)), some (.ref 0), some (.ref 52), some (.int l3)], [.int (l3 + (jn 1)), .ref (88), .ref 0], M)) (o := (aldI lay (some (nS, xs)) M (88) (l3 + (jn 1)))) (f := fun v1 => (1431, [some (.ref (88)), some (.ref 0), some (.ref 52), some (.int l3)], [.int v1, .ref 0], M)) (hf := rfl) rfl).trans ?_
  refine oB_in (fun v1 => ?_)
  refine (e_kI (q := (1431, [some (.ref (88)), some (.ref 0), some (.ref 52), some (.int l3)], [.int v1, .ref 0])) (q2 := (1434, [some (.ref (88)), some (.ref 0), some (.ref 52), some (.int l3)], [])) (M := M) (o := (pcl GG lay d 49 [.ref 0, .int v1] M)) (hf := rfl) rfl rfl).trans ?_
  refine kI_in (fun r2 M2 => ?_)
  refine (evn_adv 5 (q' := (1439, [some (.ref (88)), some (.ref 0), some (.ref 52), some (.int l3)], [.int (l3 + (jn 1)), .ref (88), .ref 52, .int r2], M2)) rfl).trans ?_
  refine (e_oB (q := (1439, [some (.ref (88)), some (.ref 0), some (.ref 52), some (.int l3)], [.int (l3 + (jn 1)), .ref (88), .ref 52, .int r2], M2)) (o := (aldI lay (some (nS, xs)) M2 (88) (l3 + (jn 1)))) (f := fun v3 => (1440, [some (.ref (88)), some (.ref 0), some (.ref 52), some (.int l3)], [.int v3, .ref 52, .int r2], M2)) (hf := rfl) rfl).trans ?_
  refine oB_in (fun v3 => ?_)
  refine (e_kI (q := (1440, [some (.ref (88)), some (.ref 0), some (.ref 52), some (.int l3)], [.int v3, .ref 52, .int r2])) (q2 := (1443, [some (.ref (88)), some (.ref 0), some (.ref 52), some (.int l3)], [.int r2])) (M := M2) (o := (pcl GG lay d 174 [.ref 52, .int v3] M2)) (hf := rfl) rfl rfl).trans ?_
  refine kI_in (fun r4 M4 => ?_)
  refine (e_ic_eq (hf := rfl)).trans ?_
  refine ite_in ?_ ?_
  · rfl
  · refine (evn_adv 1 (q' := (1447, [some (.ref (88)), some (.ref 0), some (.ref 52), some (.int l3)], [.int (jn 0)], M4)) rfl).trans ?_
    exact e_iretz (hf := rfl)
set_option maxRecDepth 100000 in
theorem h_276_1448 (nS : Nat) (xs : Nat → Int32) (d : Nat) (l3 : Int32) (M : PM) : E_276 nS xs d (1448, [some (.ref (88)), some (.ref 0), some (.ref 52), some (.int l3)], [], M) = (oB (aldI lay (some (nS, xs)) M (88) (l3 + (jn 1))) fun v1 => (kI (pcl GG lay d 51 [.ref 0, .int v1] M) fun r2 M2 => (oB (aldI lay (some (nS, xs)) M2 (88) (l3 + (jn 1))) fun v3 => (kI (pcl GG lay d 175 [.ref 52, .int v3] M2) fun r4 M4 => (if r2 = r4 then E_276 nS xs d (1520, [some (.ref (88)), some (.ref 0), some (.ref 52), some (.int l3)], [], M4) else (rZ (jn 0) M4)))))) := by
  refine (evn_adv 5 (q' := (1453, [some (.ref (88)), some (.ref 0), some (.ref 52), some (.int l3)], [.int (l3 + (jn 1)), .ref (88), .ref 0], M)) rfl).trans ?_
  refine (e_oB (q := (1453, [some (.ref (88)), some (.ref 0), some (.ref 52), some (.int l3)], [.int (l3 + (jn 1)), .ref (88), .ref 0], M)) (o := (aldI lay (some (nS, xs)) M (88) (l3 + (jn 1)))) (f := fun v1 => (1454, [some (.ref (88)), some (.ref 0), some (.ref 52), some (.int l3)], [.int v1, .ref 0], M)) (hf := rfl) rfl).trans ?_
  refine oB_in (fun v1 => ?_)
  refine (e_kI (q := (1454, [some (.ref (88)), some (.ref 0), some (.ref 52), some (.int l3)], [.int v1, .ref 0])) (q2 := (1457, [some (.ref (88)), some (.ref 0), some (.ref 52), some (.int l3)], [])) (M := M) (o := (pcl GG lay d 51 [.ref 0, .int v1] M)) (hf := rfl) rfl rfl).trans ?_
  refine kI_in (fun r2 M2 => ?_)
  refine (evn_adv 5 (q' := (1462, [some (.ref (88)), some (.ref 0), some (.ref 52), some (.int l3)], [.int (l3 + (jn 1)), .ref (88), .ref 52, .int r2], M2)) rfl).trans ?_
  refine (e_oB (q := (1462, [some (.ref (88)), some (.ref 0), some (.ref 52), some (.int l3)], [.int (l3 + (jn 1)), .ref (88), .ref 52, .int r2], M2)) (o := (aldI lay (some (nS, xs)) M2 (88) (l3 + (jn 1)))) (f := fun v3 => (1463, [some (.ref (88)), some (.ref 0), some (.ref 52), some (.int l3)], [.int v3, .ref 52, .int r2], M2)) (hf := rfl) rfl).trans ?_
  refine oB_in (fun v3 => ?_)
  refine (e_kI (q := (1463, [some (.ref (88)), some (.ref 0), some (.ref 52), some (.int l3)], [.int v3, .ref 52, .int r2])) (q2 := (1466, [some (.ref (88)), some (.ref 0), some (.ref 52), some (.int l3)], [.int r2])) (M := M2) (o := (pcl GG lay d 175 [.ref 52, .int v3] M2)) (hf := rfl) rfl rfl).trans ?_
  refine kI_in (fun r4 M4 => ?_)
  refine (e_ic_eq (hf := rfl)).trans ?_
  refine ite_in ?_ ?_
  · rfl
  · refine (evn_adv 1 (q' := (1470, [some (.ref (88)), some (.ref 0), some (.ref 52), some (.int l3)], [.int (jn 0)], M4)) rfl).trans ?_
    exact e_iretz (hf := rfl)
set_option maxRecDepth 100000 in
theorem h_276_1471 (nS : Nat) (xs : Nat → Int32) (d : Nat) (l3 : Int32) (M : PM) : E_276 nS xs d (1471, [some (.ref (88)), some (.ref 0), some (.ref 52), some (.int l3)], [], M) = (kI (pcl GG lay d 52 [.ref 0] M) fun r1 M1 => (kI (pcl GG lay d 176 [.ref 52] M1) fun r2 M2 => (if r1 = r2 then E_276 nS xs d (1520, [some (.ref (88)), some (.ref 0), some (.ref 52), some (.int l3)], [], M2) else (rZ (jn 0) M2)))) := by
  refine (evn_adv 1 (q' := (1472, [some (.ref (88)), some (.ref 0), some (.ref 52), some (.int l3)], [.ref 0], M)) rfl).trans ?_
  refine (e_kI (q := (1472, [some (.ref (88)), some (.ref 0), some (.ref 52), some (.int l3)], [.ref 0])) (q2 := (1475, [some (.ref (88)), some (.ref 0), some (.ref 52), some (.int l3)], [])) (M := M) (o := (pcl GG lay d 52 [.ref 0] M)) (hf := rfl) rfl rfl).trans ?_
  refine kI_in (fun r1 M1 => ?_)
  refine (evn_adv 1 (q' := (1476, [some (.ref (88)), some (.ref 0), some (.ref 52), some (.int l3)], [.ref 52, .int r1], M1)) rfl).trans ?_
  refine (e_kI (q := (1476, [some (.ref (88)), some (.ref 0), some (.ref 52), some (.int l3)], [.ref 52, .int r1])) (q2 := (1479, [some (.ref (88)), some (.ref 0), some (.ref 52), some (.int l3)], [.int r1])) (M := M1) (o := (pcl GG lay d 176 [.ref 52] M1)) (hf := rfl) rfl rfl).trans ?_
  refine kI_in (fun r2 M2 => ?_)
  refine (e_ic_eq (hf := rfl)).trans ?_
  refine ite_in ?_ ?_
  · rfl
  · refine (evn_adv 1 (q' := (1483, [some (.ref (88)), some (.ref 0), some (.ref 52), some (.int l3)], [.int (jn 0)], M2)) rfl).trans ?_
    exact e_iretz (hf := rfl)
set_option maxRecDepth 100000 in
theorem h_276_1484 (nS : Nat) (xs : Nat → Int32) (d : Nat) (l3 : Int32) (M : PM) : E_276 nS xs d (1484, [some (.ref (88)), some (.ref 0), some (.ref 52), some (.int l3)], [], M) = (kI (pcl GG lay d 53 [.ref 0] M) fun r1 M1 => (kI (pcl GG lay d 177 [.ref 52] M1) fun r2 M2 => (if r1 = r2 then E_276 nS xs d (1520, [some (.ref (88)), some (.ref 0), some (.ref 52), some (.int l3)], [], M2) else (rZ (jn 0) M2)))) := by
  refine (evn_adv 1 (q' := (1485, [some (.ref (88)), some (.ref 0), some (.ref 52), some (.int l3)], [.ref 0], M)) rfl).trans ?_
  refine (e_kI (q := (1485, [some (.ref (88)), some (.ref 0), some (.ref 52), some (.int l3)], [.ref 0])) (q2 := (1488, [some (.ref (88)), some (.ref 0), some (.ref 52), some (.int l3)], [])) (M := M) (o := (pcl GG lay d 53 [.ref 0] M)) (hf := rfl) rfl rfl).trans ?_
  refine kI_in (fun r1 M1 => ?_)
  refine (evn_adv 1 (q' := (1489, [some (.ref (88)), some (.ref 0), some (.ref 52), some (.int l3)], [.ref 52, .int r1], M1)) rfl).trans ?_
  refine (e_kI (q := (1489, [some (.ref (88)), some (.ref 0), some (.ref 52), some (.int l3)], [.ref 52, .int r1])) (q2 := (1492, [some (.ref (88)), some (.ref 0), some (.ref 52), some (.int l3)], [.int r1])) (M := M1) (o := (pcl GG lay d 177 [.ref 52] M1)) (hf := rfl) rfl rfl).trans ?_
  refine kI_in (fun r2 M2 => ?_)
  refine (e_ic_eq (hf := rfl)).trans ?_
  refine ite_in ?_ ?_
  · rfl
  · refine (evn_adv 1 (q' := (1496, [some (.ref (88)), some (.ref 0), some (.ref 52), some (.int l3)], [.int (jn 0)], M2)) rfl).trans ?_
    exact e_iretz (hf := rfl)
set_option maxRecDepth 100000 in
theorem h_276_1497 (nS : Nat) (xs : Nat → Int32) (d : Nat) (l3 : Int32) (M : PM) : E_276 nS xs d (1497, [some (.ref (88)), some (.ref 0), some (.ref 52), some (.int l3)], [], M) = (oB (aldI lay (some (nS, xs)) M (88) (l3 + (jn 1))) fun v1 => (kI (pcl GG lay d 54 [.ref 0, .int v1] M) fun r2 M2 => (oB (aldI lay (some (nS, xs)) M2 (88) (l3 + (jn 1))) fun v3 => (kI (pcl GG lay d 179 [.ref 52, .int v3] M2) fun r4 M4 => (if r2 = r4 then E_276 nS xs d (1520, [some (.ref (88)), some (.ref 0), some (.ref 52), some (.int l3)], [], M4) else (rZ (jn 0) M4)))))) := by
  refine (evn_adv 5 (q' := (1502, [some (.ref (88)), some (.ref 0), some (.ref 52), some (.int l3)], [.int (l3 + (jn 1)), .ref (88), .ref 0], M)) rfl).trans ?_
  refine (e_oB (q := (1502, [some (.ref (88)), some (.ref 0), some (.ref 52), some (.int l3)], [.int (l3 + (jn 1)), .ref (88), .ref 0], M)) (o := (aldI lay (some (nS, xs)) M (88) (l3 + (jn 1)))) (f := fun v1 => (1503, [some (.ref (88)), some (.ref 0), some (.ref 52), some (.int l3)], [.int v1, .ref 0], M)) (hf := rfl) rfl).trans ?_
  refine oB_in (fun v1 => ?_)
  refine (e_kI (q := (1503, [some (.ref (88)), some (.ref 0), some (.ref 52), some (.int l3)], [.int v1, .ref 0])) (q2 := (1506, [some (.ref (88)), some (.ref 0), some (.ref 52), some (.int l3)], [])) (M := M) (o := (pcl GG lay d 54 [.ref 0, .int v1] M)) (hf := rfl) rfl rfl).trans ?_
  refine kI_in (fun r2 M2 => ?_)
  refine (evn_adv 5 (q' := (1511, [some (.ref (88)), some (.ref 0), some (.ref 52), some (.int l3)], [.int (l3 + (jn 1)), .ref (88), .ref 52, .int r2], M2)) rfl).trans ?_
  refine (e_oB (q := (1511, [some (.ref (88)), some (.ref 0), some (.ref 52), some (.int l3)], [.int (l3 + (jn 1)), .ref (88), .ref 52, .int r2], M2)) (o := (aldI lay (some (nS, xs)) M2 (88) (l3 + (jn 1)))) (f := fun v3 => (1512, [some (.ref (88)), some (.ref 0), some (.ref 52), some (.int l3)], [.int v3, .ref 52, .int r2], M2)) (hf := rfl) rfl).trans ?_
  refine oB_in (fun v3 => ?_)
  refine (e_kI (q := (1512, [some (.ref (88)), some (.ref 0), some (.ref 52), some (.int l3)], [.int v3, .ref 52, .int r2])) (q2 := (1515, [some (.ref (88)), some (.ref 0), some (.ref 52), some (.int l3)], [.int r2])) (M := M2) (o := (pcl GG lay d 179 [.ref 52, .int v3] M2)) (hf := rfl) rfl rfl).trans ?_
  refine kI_in (fun r4 M4 => ?_)
  refine (e_ic_eq (hf := rfl)).trans ?_
  refine ite_in ?_ ?_
  · rfl
  · refine (evn_adv 1 (q' := (1519, [some (.ref (88)), some (.ref 0), some (.ref 52), some (.int l3)], [.int (jn 0)], M4)) rfl).trans ?_
    exact e_iretz (hf := rfl)
set_option maxRecDepth 100000 in
theorem h_276_1520 (nS : Nat) (xs : Nat → Int32) (d : Nat) (l3 : Int32) (M : PM) : E_276 nS xs d (1520, [some (.ref (88)), some (.ref 0), some (.ref 52), some (.int l3)], [], M) = E_276 nS xs d (18, [some (.ref (88)), some (.ref 0), some (.ref 52), some (.int (l3 + (jn 6)))], [], M) := by
  refine (evn_adv 2 (q' := (18, [some (.ref (88)), some (.ref 0), some (.ref 52), some (.int (l3 + (jn 6)))], [], M)) rfl).trans ?_
  rfl
set_option maxRecDepth 100000 in
theorem h_276_1526 (nS : Nat) (xs : Nat → Int32) (d : Nat) (l3 : Int32) (M : PM) : E_276 nS xs d (1526, [some (.ref (88)), some (.ref 0), some (.ref 52), some (.int l3)], [], M) = (rZ (jn 1) M) := by
  refine (evn_adv 1 (q' := (1527, [some (.ref (88)), some (.ref 0), some (.ref 52), some (.int l3)], [.int (jn 1)], M)) rfl).trans ?_
  exact e_iretz (hf := rfl)
