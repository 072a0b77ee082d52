/-! the law's own methods: equations (laid by program) -/
theorem pcl_unz {id d : Nat} {mt : MT} {vs : List Value} {M : PM} (h3 : 3 ≤ id) (hG : GG id = some mt) (hl : (entl vs).length ≤ mt.2.2.2.1) : pcl GG laz (d + 1) id vs M = evn (rnn mt.2.2.2.2.2.2.2 laz none (pcl GG laz d) mt.2.2.2.2.1) (0, ent mt.2.2.2.1 vs, [], M) := by
  rw [pcl, if_neg (Nat.not_lt.mpr h3), hG]
  simp only
  rw [if_neg (Nat.not_lt.mpr hl)]
/-- TermStrategiesLaw.arity(C)I -/
noncomputable abbrev E_69 (d : Nat) : PQ → PO := evn (rnn k_69 laz none (pcl GG laz d) 1)
theorem q_69 (d : Nat) (l0 : Int32) (M : PM) : pcl GG laz (d + 1) 69 [.int l0] M = (if l0 < (jn 105) then (if l0 < (jn 101) then (if l0 < (jn 97) then (if l0 < (jn 117) then (rI (jz 1) M) else (if (jn 122) < l0 then (rI (jz 1) M) else (rI (jn 0) M))) else (if (jn 100) < l0 then (if l0 < (jn 117) then (rI (jz 1) M) else (if (jn 122) < l0 then (rI (jz 1) M) else (rI (jn 0) M))) else (rI (jn 0) M))) else (if (jn 104) < l0 then (if l0 < (jn 97) then (if l0 < (jn 117) then (rI (jz 1) M) else (if (jn 122) < l0 then (rI (jz 1) M) else (rI (jn 0) M))) else (if (jn 100) < l0 then (if l0 < (jn 117) then (rI (jz 1) M) else (if (jn 122) < l0 then (rI (jz 1) M) else (rI (jn 0) M))) else (rI (jn 0) M))) else (rI (jn 1) M))) else (if (jn 108) < l0 then (if l0 < (jn 101) then (if l0 < (jn 97) then (if l0 < (jn 117) then (rI (jz 1) M) else (if (jn 122) < l0 then (rI (jz 1) M) else (rI (jn 0) M))) else (if (jn 100) < l0 then (if l0 < (jn 117) then (rI (jz 1) M) else (if (jn 122) < l0 then (rI (jz 1) M) else (rI (jn 0) M))) else (rI (jn 0) M))) else (if (jn 104) < l0 then (if l0 < (jn 97) then (if l0 < (jn 117) then (rI (jz 1) M) else (if (jn 122) < l0 then (rI (jz 1) M) else (rI (jn 0) M))) else (if (jn 100) < l0 then (if l0 < (jn 117) then (rI (jz 1) M) else (if (jn 122) < l0 then (rI (jz 1) M) else (rI (jn 0) M))) else (rI (jn 0) M))) else (rI (jn 1) M))) else (rI (jn 2) M))) := by
  refine (pcl_unz (mt := t_69) (by decide) rfl (Nat.le_of_ble_eq_true rfl)).trans ?_
  show E_69 d (0, [some (.int l0)], [], M) = _
  refine (evn_adv 2 (q' := (3, [some (.int l0)], [.int (jn 105), .int l0], M)) rfl).trans ?_
  refine (e_ic_lt (hf := rfl)).trans ?_
  refine ite_in ?_ ?_
  · refine (evn_adv 2 (q' := (19, [some (.int l0)], [.int (jn 101), .int l0], M)) rfl).trans ?_
    refine (e_ic_lt (hf := rfl)).trans ?_
    refine ite_in ?_ ?_
    · refine (evn_adv 2 (q' := (35, [some (.int l0)], [.int (jn 97), .int l0], M)) rfl).trans ?_
      refine (e_ic_lt (hf := rfl)).trans ?_
      refine ite_in ?_ ?_
      · refine (evn_adv 2 (q' := (47, [some (.int l0)], [.int (jn 117), .int l0], M)) rfl).trans ?_
        refine (e_ic_lt (hf := rfl)).trans ?_
        refine ite_in ?_ ?_
        · refine (evn_adv 1 (q' := (61, [some (.int l0)], [.int (jz 1)], M)) rfl).trans ?_
          exact evn_end 1 rfl
        · refine (evn_adv 2 (q' := (53, [some (.int l0)], [.int (jn 122), .int l0], M)) rfl).trans ?_
          refine (e_ic_gt (hf := rfl)).trans ?_
          refine ite_in ?_ ?_
          · refine (evn_adv 1 (q' := (61, [some (.int l0)], [.int (jz 1)], M)) rfl).trans ?_
            exact evn_end 1 rfl
          · refine (evn_adv 2 (q' := (61, [some (.int l0)], [.int (jn 0)], M)) rfl).trans ?_
            exact evn_end 1 rfl
      · refine (evn_adv 2 (q' := (41, [some (.int l0)], [.int (jn 100), .int l0], M)) rfl).trans ?_
        refine (e_ic_le (hf := rfl)).trans ?_
        refine ite_in ?_ ?_
        · refine (evn_adv 2 (q' := (47, [some (.int l0)], [.int (jn 117), .int l0], M)) rfl).trans ?_
          refine (e_ic_lt (hf := rfl)).trans ?_
          refine ite_in ?_ ?_
          · refine (evn_adv 1 (q' := (61, [some (.int l0)], [.int (jz 1)], M)) rfl).trans ?_
            exact evn_end 1 rfl
          · refine (evn_adv 2 (q' := (53, [some (.int l0)], [.int (jn 122), .int l0], M)) rfl).trans ?_
            refine (e_ic_gt (hf := rfl)).trans ?_
            refine ite_in ?_ ?_
            · refine (evn_adv 1 (q' := (61, [some (.int l0)], [.int (jz 1)], M)) rfl).trans ?_
              exact evn_end 1 rfl
            · refine (evn_adv 2 (q' := (61, [some (.int l0)], [.int (jn 0)], M)) rfl).trans ?_
              exact evn_end 1 rfl
        · refine (evn_adv 2 (q' := (61, [some (.int l0)], [.int (jn 0)], M)) rfl).trans ?_
          exact evn_end 1 rfl
    · refine (evn_adv 2 (q' := (25, [some (.int l0)], [.int (jn 104), .int l0], M)) rfl).trans ?_
      refine (e_ic_gt (hf := rfl)).trans ?_
      refine ite_in ?_ ?_
      · refine (evn_adv 2 (q' := (35, [some (.int l0)], [.int (jn 97), .int l0], M)) rfl).trans ?_
        refine (e_ic_lt (hf := rfl)).trans ?_
        refine ite_in ?_ ?_
        · refine (evn_adv 2 (q' := (47, [some (.int l0)], [.int (jn 117), .int l0], M)) rfl).trans ?_
          refine (e_ic_lt (hf := rfl)).trans ?_
          refine ite_in ?_ ?_
          · refine (evn_adv 1 (q' := (61, [some (.int l0)], [.int (jz 1)], M)) rfl).trans ?_
            exact evn_end 1 rfl
          · refine (evn_adv 2 (q' := (53, [some (.int l0)], [.int (jn 122), .int l0], M)) rfl).trans ?_
            refine (e_ic_gt (hf := rfl)).trans ?_
            refine ite_in ?_ ?_
            · refine (evn_adv 1 (q' := (61, [some (.int l0)], [.int (jz 1)], M)) rfl).trans ?_
              exact evn_end 1 rfl
            · refine (evn_adv 2 (q' := (61, [some (.int l0)], [.int (jn 0)], M)) rfl).trans ?_
              exact evn_end 1 rfl
        · refine (evn_adv 2 (q' := (41, [some (.int l0)], [.int (jn 100), .int l0], M)) rfl).trans ?_
          refine (e_ic_le (hf := rfl)).trans ?_
          refine ite_in ?_ ?_
          · refine (evn_adv 2 (q' := (47, [some (.int l0)], [.int (jn 117), .int l0], M)) rfl).trans ?_
            refine (e_ic_lt (hf := rfl)).trans ?_
            refine ite_in ?_ ?_
            · refine (evn_adv 1 (q' := (61, [some (.int l0)], [.int (jz 1)], M)) rfl).trans ?_
              exact evn_end 1 rfl
            · refine (evn_adv 2 (q' := (53, [some (.int l0)], [.int (jn 122), .int l0], M)) rfl).trans ?_
              refine (e_ic_gt (hf := rfl)).trans ?_
              refine ite_in ?_ ?_
              · refine (evn_adv 1 (q' := (61, [some (.int l0)], [.int (jz 1)], M)) rfl).trans ?_
                exact evn_end 1 rfl
              · refine (evn_adv 2 (q' := (61, [some (.int l0)], [.int (jn 0)], M)) rfl).trans ?_
                exact evn_end 1 rfl
          · refine (evn_adv 2 (q' := (61, [some (.int l0)], [.int (jn 0)], M)) rfl).trans ?_
            exact evn_end 1 rfl
      · refine (evn_adv 2 (q' := (61, [some (.int l0)], [.int (jn 1)], M)) rfl).trans ?_
        exact evn_end 1 rfl
  · refine (evn_adv 2 (q' := (9, [some (.int l0)], [.int (jn 108), .int l0], M)) rfl).trans ?_
    refine (e_ic_gt (hf := rfl)).trans ?_
    refine ite_in ?_ ?_
    · refine (evn_adv 2 (q' := (19, [some (.int l0)], [.int (jn 101), .int l0], M)) rfl).trans ?_
      refine (e_ic_lt (hf := rfl)).trans ?_
      refine ite_in ?_ ?_
      · refine (evn_adv 2 (q' := (35, [some (.int l0)], [.int (jn 97), .int l0], M)) rfl).trans ?_
        refine (e_ic_lt (hf := rfl)).trans ?_
        refine ite_in ?_ ?_
        · refine (evn_adv 2 (q' := (47, [some (.int l0)], [.int (jn 117), .int l0], M)) rfl).trans ?_
          refine (e_ic_lt (hf := rfl)).trans ?_
          refine ite_in ?_ ?_
          · refine (evn_adv 1 (q' := (61, [some (.int l0)], [.int (jz 1)], M)) rfl).trans ?_
            exact evn_end 1 rfl
          · refine (evn_adv 2 (q' := (53, [some (.int l0)], [.int (jn 122), .int l0], M)) rfl).trans ?_
            refine (e_ic_gt (hf := rfl)).trans ?_
            refine ite_in ?_ ?_
            · refine (evn_adv 1 (q' := (61, [some (.int l0)], [.int (jz 1)], M)) rfl).trans ?_
              exact evn_end 1 rfl
            · refine (evn_adv 2 (q' := (61, [some (.int l0)], [.int (jn 0)], M)) rfl).trans ?_
              exact evn_end 1 rfl
        · refine (evn_adv 2 (q' := (41, [some (.int l0)], [.int (jn 100), .int l0], M)) rfl).trans ?_
          refine (e_ic_le (hf := rfl)).trans ?_
          refine ite_in ?_ ?_
          · refine (evn_adv 2 (q' := (47, [some (.int l0)], [.int (jn 117), .int l0], M)) rfl).trans ?_
            refine (e_ic_lt (hf := rfl)).trans ?_
            refine ite_in ?_ ?_
            · refine (evn_adv 1 (q' := (61, [some (.int l0)], [.int (jz 1)], M)) rfl).trans ?_
              exact evn_end 1 rfl
            · refine (evn_adv 2 (q' := (53, [some (.int l0)], [.int (jn 122), .int l0], M)) rfl).trans ?_
              refine (e_ic_gt (hf := rfl)).trans ?_
              refine ite_in ?_ ?_
              · refine (evn_adv 1 (q' := (61, [some (.int l0)], [.int (jz 1)], M)) rfl).trans ?_
                exact evn_end 1 rfl
              · refine (evn_adv 2 (q' := (61, [some (.int l0)], [.int (jn 0)], M)) rfl).trans ?_
                exact evn_end 1 rfl
          · refine (evn_adv 2 (q' := (61, [some (.int l0)], [.int (jn 0)], M)) rfl).trans ?_
            exact evn_end 1 rfl
      · refine (evn_adv 2 (q' := (25, [some (.int l0)], [.int (jn 104), .int l0], M)) rfl).trans ?_
        refine (e_ic_gt (hf := rfl)).trans ?_
        refine ite_in ?_ ?_
        · refine (evn_adv 2 (q' := (35, [some (.int l0)], [.int (jn 97), .int l0], M)) rfl).trans ?_
          refine (e_ic_lt (hf := rfl)).trans ?_
          refine ite_in ?_ ?_
          · refine (evn_adv 2 (q' := (47, [some (.int l0)], [.int (jn 117), .int l0], M)) rfl).trans ?_
            refine (e_ic_lt (hf := rfl)).trans ?_
            refine ite_in ?_ ?_
            · refine (evn_adv 1 (q' := (61, [some (.int l0)], [.int (jz 1)], M)) rfl).trans ?_
              exact evn_end 1 rfl
            · refine (evn_adv 2 (q' := (53, [some (.int l0)], [.int (jn 122), .int l0], M)) rfl).trans ?_
              refine (e_ic_gt (hf := rfl)).trans ?_
              refine ite_in ?_ ?_
              · refine (evn_adv 1 (q' := (61, [some (.int l0)], [.int (jz 1)], M)) rfl).trans ?_
                exact evn_end 1 rfl
              · refine (evn_adv 2 (q' := (61, [some (.int l0)], [.int (jn 0)], M)) rfl).trans ?_
                exact evn_end 1 rfl
          · refine (evn_adv 2 (q' := (41, [some (.int l0)], [.int (jn 100), .int l0], M)) rfl).trans ?_
            refine (e_ic_le (hf := rfl)).trans ?_
            refine ite_in ?_ ?_
            · refine (evn_adv 2 (q' := (47, [some (.int l0)], [.int (jn 117), .int l0], M)) rfl).trans ?_
              refine (e_ic_lt (hf := rfl)).trans ?_
              refine ite_in ?_ ?_
              · refine (evn_adv 1 (q' := (61, [some (.int l0)], [.int (jz 1)], M)) rfl).trans ?_
                exact evn_end 1 rfl
              · refine (evn_adv 2 (q' := (53, [some (.int l0)], [.int (jn 122), .int l0], M)) rfl).trans ?_
                refine (e_ic_gt (hf := rfl)).trans ?_
                refine ite_in ?_ ?_
                · refine (evn_adv 1 (q' := (61, [some (.int l0)], [.int (jz 1)], M)) rfl).trans ?_
                  exact evn_end 1 rfl
                · refine (evn_adv 2 (q' := (61, [some (.int l0)], [.int (jn 0)], M)) rfl).trans ?_
                  exact evn_end 1 rfl
            · refine (evn_adv 2 (q' := (61, [some (.int l0)], [.int (jn 0)], M)) rfl).trans ?_
              exact evn_end 1 rfl
        · refine (evn_adv 2 (q' := (61, [some (.int l0)], [.int (jn 1)], M)) rfl).trans ?_
          exact evn_end 1 rfl
    · refine (evn_adv 2 (q' := (61, [some (.int l0)], [.int (jn 2)], M)) rfl).trans ?_
      exact evn_end 1 rfl
/-- TermStrategiesLaw.variable(C)Z -/
noncomputable abbrev E_70 (d : Nat) : PQ → PO := evn (rnn k_70 laz none (pcl GG laz d) 2)
theorem q_70 (d : Nat) (l0 : Int32) (M : PM) : pcl GG laz (d + 1) 70 [.int l0] M = (if l0 < (jn 117) then (rZ (jn 0) M) else (if (jn 122) < l0 then (rZ (jn 0) M) else (rZ (jn 1) M))) := by
  refine (pcl_unz (mt := t_70) (by decide) rfl (Nat.le_of_ble_eq_true rfl)).trans ?_
  show E_70 d (0, [some (.int l0)], [], M) = _
  refine (evn_adv 2 (q' := (3, [some (.int l0)], [.int (jn 117), .int l0], M)) rfl).trans ?_
  refine (e_ic_lt (hf := rfl)).trans ?_
  refine ite_in ?_ ?_
  · refine (evn_adv 1 (q' := (17, [some (.int l0)], [.int (jn 0)], M)) rfl).trans ?_
    exact e_iretz (hf := rfl)
  · refine (evn_adv 2 (q' := (9, [some (.int l0)], [.int (jn 122), .int l0], M)) rfl).trans ?_
    refine (e_ic_gt (hf := rfl)).trans ?_
    refine ite_in ?_ ?_
    · refine (evn_adv 1 (q' := (17, [some (.int l0)], [.int (jn 0)], M)) rfl).trans ?_
      exact e_iretz (hf := rfl)
    · refine (evn_adv 2 (q' := (17, [some (.int l0)], [.int (jn 1)], M)) rfl).trans ?_
      exact e_iretz (hf := rfl)
/-- TermStrategiesLaw.some(II)I -/
noncomputable abbrev E_71 (d : Nat) : PQ → PO := evn (rnn k_71 laz none (pcl GG laz d) 1)
theorem q_71 (d : Nat) (l0 : Int32) (l1 : Int32) (M : PM) : pcl GG laz (d + 1) 71 [.int l0, .int l1] M = (if l1 = jn 0 then none else (if (l0 - l0 / l1 * l1) < jn 0 then (rI ((l0 - l0 / l1 * l1) + l1) M) else (rI (l0 - l0 / l1 * l1) M))) := by
  refine (pcl_unz (mt := t_71) (by decide) rfl (Nat.le_of_ble_eq_true rfl)).trans ?_
  show E_71 d (0, [some (.int l0), some (.int l1), none], [], M) = _
  refine (evn_adv 2 (q' := (2, [some (.int l0), some (.int l1), none], [.int l1, .int l0], M)) rfl).trans ?_
  refine (e_irem (hf := rfl)).trans ?_
  refine ite_in rfl ?_
  refine (evn_adv 2 (q' := (5, [some (.int l0), some (.int l1), some (.int (l0 - l0 / l1 * l1))], [.int (l0 - l0 / l1 * l1)], M)) rfl).trans ?_
  refine (e_if_ge (hf := rfl)).trans ?_
  refine ite_in ?_ ?_
  · refine (evn_adv 4 (q' := (15, [some (.int l0), some (.int l1), some (.int (l0 - l0 / l1 * l1))], [.int ((l0 - l0 / l1 * l1) + l1)], M)) rfl).trans ?_
    exact evn_end 1 rfl
  · refine (evn_adv 1 (q' := (15, [some (.int l0), some (.int l1), some (.int (l0 - l0 / l1 * l1))], [.int (l0 - l0 / l1 * l1)], M)) rfl).trans ?_
    exact evn_end 1 rfl
/-- TermStrategiesLaw.adds(LTermStrategies;[IIII)Z -/
noncomputable abbrev E_72 (d : Nat) : PQ → PO := evn (rnn k_72 laz none (pcl GG laz d) 2)
theorem q_72 (d : Nat) (l2 : Int32) (l3 : Int32) (l4 : Int32) (M : PM) : pcl GG laz (d + 1) 72 [.ref 0, .ref 52, .int l2, .int l3, .int l4] M = (oB (aldI laz none M 52 (jn 0)) fun v1 => (oB (astI laz M 52 (jn 0) (v1 + (jn 1))) fun M2 => (oB (astI laz M2 52 ((jn 5) + v1) l2) fun M3 => (if l2 = (jn 1) then (oB (astI laz M3 52 ((jn 29) + v1) (jz 1)) fun M4 => (if l2 = (jn 3) then (oB (astI laz M4 52 ((jn 53) + v1) l4) fun M5 => (kI (pcl GG laz d 31 [.ref 0, .int l2, .int l3, .int l4] M5) fun r6 M6 => (if r6 = v1 then (rZ (jn 1) M6) else (rZ (jn 0) M6)))) else (if l2 = (jn 4) then (oB (astI laz M4 52 ((jn 53) + v1) l4) fun M5 => (kI (pcl GG laz d 31 [.ref 0, .int l2, .int l3, .int l4] M5) fun r6 M6 => (if r6 = v1 then (rZ (jn 1) M6) else (rZ (jn 0) M6)))) else (oB (astI laz M4 52 ((jn 53) + v1) (jz 1)) fun M5 => (kI (pcl GG laz d 31 [.ref 0, .int l2, .int l3, .int l4] M5) fun r6 M6 => (if r6 = v1 then (rZ (jn 1) M6) else (rZ (jn 0) M6))))))) else (if l2 = (jn 2) then (oB (astI laz M3 52 ((jn 29) + v1) (jz 1)) fun M4 => (if l2 = (jn 3) then (oB (astI laz M4 52 ((jn 53) + v1) l4) fun M5 => (kI (pcl GG laz d 31 [.ref 0, .int l2, .int l3, .int l4] M5) fun r6 M6 => (if r6 = v1 then (rZ (jn 1) M6) else (rZ (jn 0) M6)))) else (if l2 = (jn 4) then (oB (astI laz M4 52 ((jn 53) + v1) l4) fun M5 => (kI (pcl GG laz d 31 [.ref 0, .int l2, .int l3, .int l4] M5) fun r6 M6 => (if r6 = v1 then (rZ (jn 1) M6) else (rZ (jn 0) M6)))) else (oB (astI laz M4 52 ((jn 53) + v1) (jz 1)) fun M5 => (kI (pcl GG laz d 31 [.ref 0, .int l2, .int l3, .int l4] M5) fun r6 M6 => (if r6 = v1 then (rZ (jn 1) M6) else (rZ (jn 0) M6))))))) else (oB (astI laz M3 52 ((jn 29) + v1) l3) fun M4 => (if l2 = (jn 3) then (oB (astI laz M4 52 ((jn 53) + v1) l4) fun M5 => (kI (pcl GG laz d 31 [.ref 0, .int l2, .int l3, .int l4] M5) fun r6 M6 => (if r6 = v1 then (rZ (jn 1) M6) else (rZ (jn 0) M6)))) else (if l2 = (jn 4) then (oB (astI laz M4 52 ((jn 53) + v1) l4) fun M5 => (kI (pcl GG laz d 31 [.ref 0, .int l2, .int l3, .int l4] M5) fun r6 M6 => (if r6 = v1 then (rZ (jn 1) M6) else (rZ (jn 0) M6)))) else (oB (astI laz M4 52 ((jn 53) + v1) (jz 1)) fun M5 => (kI (pcl GG laz d 31 [.ref 0, .int l2, .int l3, .int l4] M5) fun r6 M6 => (if r6 = v1 then (rZ (jn 1) M6) else (rZ (jn 0) M6)))))))))))) := by
  refine (pcl_unz (mt := t_72) (by decide) rfl (Nat.le_of_ble_eq_true rfl)).trans ?_
  show E_72 d (0, [some (.ref 0), some (.ref 52), some (.int l2), some (.int l3), some (.int l4), none], [], M) = _
  refine (evn_adv 3 (q' := (3, [some (.ref 0), some (.ref 52), some (.int l2), some (.int l3), some (.int l4), none], [.int (jn 0), .ref 52, .int (jn 0), .ref 52], M)) rfl).trans ?_
  refine (e_oB (q := (3, [some (.ref 0), some (.ref 52), some (.int l2), some (.int l3), some (.int l4), none], [.int (jn 0), .ref 52, .int (jn 0), .ref 52], M)) (o := (aldI laz none M 52 (jn 0))) (f := fun v1 => (4, [some (.ref 0), some (.ref 52), some (.int l2), some (.int l3), some (.int l4), none], [.int v1, .int (jn 0), .ref 52], M)) (hf := rfl) rfl).trans ?_
  refine oB_in (fun v1 => ?_)
  refine (evn_adv 3 (q' := (7, [some (.ref 0), some (.ref 52), some (.int l2), some (.int l3), some (.int l4), none], [.int (v1 + (jn 1)), .int (jn 0), .ref 52, .int v1], M)) rfl).trans ?_
  refine (e_oB (q := (7, [some (.ref 0), some (.ref 52), some (.int l2), some (.int l3), some (.int l4), none], [.int (v1 + (jn 1)), .int (jn 0), .ref 52, .int v1], M)) (o := (astI laz M 52 (jn 0) (v1 + (jn 1)))) (f := fun M2 => (8, [some (.ref 0), some (.ref 52), some (.int l2), some (.int l3), some (.int l4), none], [.int v1], M2)) (hf := rfl) rfl).trans ?_
  refine oB_in (fun M2 => ?_)
  refine (evn_adv 6 (q' := (16, [some (.ref 0), some (.ref 52), some (.int l2), some (.int l3), some (.int l4), some (.int v1)], [.int l2, .int ((jn 5) + v1), .ref 52], M2)) rfl).trans ?_
  refine (e_oB (q := (16, [some (.ref 0), some (.ref 52), some (.int l2), some (.int l3), some (.int l4), some (.int v1)], [.int l2, .int ((jn 5) + v1), .ref 52], M2)) (o := (astI laz M2 52 ((jn 5) + v1) l2)) (f := fun M3 => (17, [some (.ref 0), some (.ref 52), some (.int l2), some (.int l3), some (.int l4), some (.int v1)], [], M3)) (hf := rfl) rfl).trans ?_
  refine oB_in (fun M3 => ?_)
  refine (evn_adv 6 (q' := (25, [some (.ref 0), some (.ref 52), some (.int l2), some (.int l3), some (.int l4), some (.int v1)], [.int (jn 1), .int l2, .int ((jn 29) + v1), .ref 52], M3)) rfl).trans ?_
  refine (e_ic_eq (hf := rfl)).trans ?_
  refine ite_in ?_ ?_
  · refine (evn_adv 2 (q' := (38, [some (.ref 0), some (.ref 52), some (.int l2), some (.int l3), some (.int l4), some (.int v1)], [.int (jz 1), .int ((jn 29) + v1), .ref 52], M3)) rfl).trans ?_
    refine (e_oB (q := (38, [some (.ref 0), some (.ref 52), some (.int l2), some (.int l3), some (.int l4), some (.int v1)], [.int (jz 1), .int ((jn 29) + v1), .ref 52], M3)) (o := (astI laz M3 52 ((jn 29) + v1) (jz 1))) (f := fun M4 => (39, [some (.ref 0), some (.ref 52), some (.int l2), some (.int l3), some (.int l4), some (.int v1)], [], M4)) (hf := rfl) rfl).trans ?_
    refine oB_in (fun M4 => ?_)
    refine (evn_adv 6 (q' := (47, [some (.ref 0), some (.ref 52), some (.int l2), some (.int l3), some (.int l4), some (.int v1)], [.int (jn 3), .int l2, .int ((jn 53) + v1), .ref 52], M4)) rfl).trans ?_
    refine (e_ic_eq (hf := rfl)).trans ?_
    refine ite_in ?_ ?_
    · refine (evn_adv 2 (q' := (61, [some (.ref 0), some (.ref 52), some (.int l2), some (.int l3), some (.int l4), some (.int v1)], [.int l4, .int ((jn 53) + v1), .ref 52], M4)) rfl).trans ?_
      refine (e_oB (q := (61, [some (.ref 0), some (.ref 52), some (.int l2), some (.int l3), some (.int l4), some (.int v1)], [.int l4, .int ((jn 53) + v1), .ref 52], M4)) (o := (astI laz M4 52 ((jn 53) + v1) l4)) (f := fun M5 => (62, [some (.ref 0), some (.ref 52), some (.int l2), some (.int l3), some (.int l4), some (.int v1)], [], M5)) (hf := rfl) rfl).trans ?_
      refine oB_in (fun M5 => ?_)
      refine (evn_adv 4 (q' := (67, [some (.ref 0), some (.ref 52), some (.int l2), some (.int l3), some (.int l4), some (.int v1)], [.int l4, .int l3, .int l2, .ref 0], M5)) rfl).trans ?_
      refine (e_kI (q := (67, [some (.ref 0), some (.ref 52), some (.int l2), some (.int l3), some (.int l4), some (.int v1)], [.int l4, .int l3, .int l2, .ref 0])) (q2 := (70, [some (.ref 0), some (.ref 52), some (.int l2), some (.int l3), some (.int l4), some (.int v1)], [])) (M := M5) (o := (pcl GG laz d 31 [.ref 0, .int l2, .int l3, .int l4] M5)) (hf := rfl) rfl rfl).trans ?_
      refine kI_in (fun r6 M6 => ?_)
      refine (evn_adv 1 (q' := (72, [some (.ref 0), some (.ref 52), some (.int l2), some (.int l3), some (.int l4), some (.int v1)], [.int v1, .int r6], M6)) rfl).trans ?_
      refine (e_ic_ne (hf := rfl)).trans ?_
      refine ite_in ?_ ?_
      · refine (evn_adv 2 (q' := (80, [some (.ref 0), some (.ref 52), some (.int l2), some (.int l3), some (.int l4), some (.int v1)], [.int (jn 1)], M6)) rfl).trans ?_
        exact e_iretz (hf := rfl)
      · refine (evn_adv 1 (q' := (80, [some (.ref 0), some (.ref 52), some (.int l2), some (.int l3), some (.int l4), some (.int v1)], [.int (jn 0)], M6)) rfl).trans ?_
        exact e_iretz (hf := rfl)
    · refine (evn_adv 2 (q' := (52, [some (.ref 0), some (.ref 52), some (.int l2), some (.int l3), some (.int l4), some (.int v1)], [.int (jn 4), .int l2, .int ((jn 53) + v1), .ref 52], M4)) rfl).trans ?_
      refine (e_ic_ne (hf := rfl)).trans ?_
      refine ite_in ?_ ?_
      · refine (evn_adv 2 (q' := (61, [some (.ref 0), some (.ref 52), some (.int l2), some (.int l3), some (.int l4), some (.int v1)], [.int l4, .int ((jn 53) + v1), .ref 52], M4)) rfl).trans ?_
        refine (e_oB (q := (61, [some (.ref 0), some (.ref 52), some (.int l2), some (.int l3), some (.int l4), some (.int v1)], [.int l4, .int ((jn 53) + v1), .ref 52], M4)) (o := (astI laz M4 52 ((jn 53) + v1) l4)) (f := fun M5 => (62, [some (.ref 0), some (.ref 52), some (.int l2), some (.int l3), some (.int l4), some (.int v1)], [], M5)) (hf := rfl) rfl).trans ?_
        refine oB_in (fun M5 => ?_)
        refine (evn_adv 4 (q' := (67, [some (.ref 0), some (.ref 52), some (.int l2), some (.int l3), some (.int l4), some (.int v1)], [.int l4, .int l3, .int l2, .ref 0], M5)) rfl).trans ?_
        refine (e_kI (q := (67, [some (.ref 0), some (.ref 52), some (.int l2), some (.int l3), some (.int l4), some (.int v1)], [.int l4, .int l3, .int l2, .ref 0])) (q2 := (70, [some (.ref 0), some (.ref 52), some (.int l2), some (.int l3), some (.int l4), some (.int v1)], [])) (M := M5) (o := (pcl GG laz d 31 [.ref 0, .int l2, .int l3, .int l4] M5)) (hf := rfl) rfl rfl).trans ?_
        refine kI_in (fun r6 M6 => ?_)
        refine (evn_adv 1 (q' := (72, [some (.ref 0), some (.ref 52), some (.int l2), some (.int l3), some (.int l4), some (.int v1)], [.int v1, .int r6], M6)) rfl).trans ?_
        refine (e_ic_ne (hf := rfl)).trans ?_
        refine ite_in ?_ ?_
        · refine (evn_adv 2 (q' := (80, [some (.ref 0), some (.ref 52), some (.int l2), some (.int l3), some (.int l4), some (.int v1)], [.int (jn 1)], M6)) rfl).trans ?_
          exact e_iretz (hf := rfl)
        · refine (evn_adv 1 (q' := (80, [some (.ref 0), some (.ref 52), some (.int l2), some (.int l3), some (.int l4), some (.int v1)], [.int (jn 0)], M6)) rfl).trans ?_
          exact e_iretz (hf := rfl)
      · refine (evn_adv 1 (q' := (61, [some (.ref 0), some (.ref 52), some (.int l2), some (.int l3), some (.int l4), some (.int v1)], [.int (jz 1), .int ((jn 53) + v1), .ref 52], M4)) rfl).trans ?_
        refine (e_oB (q := (61, [some (.ref 0), some (.ref 52), some (.int l2), some (.int l3), some (.int l4), some (.int v1)], [.int (jz 1), .int ((jn 53) + v1), .ref 52], M4)) (o := (astI laz M4 52 ((jn 53) + v1) (jz 1))) (f := fun M5 => (62, [some (.ref 0), some (.ref 52), some (.int l2), some (.int l3), some (.int l4), some (.int v1)], [], M5)) (hf := rfl) rfl).trans ?_
        refine oB_in (fun M5 => ?_)
        refine (evn_adv 4 (q' := (67, [some (.ref 0), some (.ref 52), some (.int l2), some (.int l3), some (.int l4), some (.int v1)], [.int l4, .int l3, .int l2, .ref 0], M5)) rfl).trans ?_
        refine (e_kI (q := (67, [some (.ref 0), some (.ref 52), some (.int l2), some (.int l3), some (.int l4), some (.int v1)], [.int l4, .int l3, .int l2, .ref 0])) (q2 := (70, [some (.ref 0), some (.ref 52), some (.int l2), some (.int l3), some (.int l4), some (.int v1)], [])) (M := M5) (o := (pcl GG laz d 31 [.ref 0, .int l2, .int l3, .int l4] M5)) (hf := rfl) rfl rfl).trans ?_
        refine kI_in (fun r6 M6 => ?_)
        refine (evn_adv 1 (q' := (72, [some (.ref 0), some (.ref 52), some (.int l2), some (.int l3), some (.int l4), some (.int v1)], [.int v1, .int r6], M6)) rfl).trans ?_
        refine (e_ic_ne (hf := rfl)).trans ?_
        refine ite_in ?_ ?_
        · refine (evn_adv 2 (q' := (80, [some (.ref 0), some (.ref 52), some (.int l2), some (.int l3), some (.int l4), some (.int v1)], [.int (jn 1)], M6)) rfl).trans ?_
          exact e_iretz (hf := rfl)
        · refine (evn_adv 1 (q' := (80, [some (.ref 0), some (.ref 52), some (.int l2), some (.int l3), some (.int l4), some (.int v1)], [.int (jn 0)], M6)) rfl).trans ?_
          exact e_iretz (hf := rfl)
  · refine (evn_adv 2 (q' := (30, [some (.ref 0), some (.ref 52), some (.int l2), some (.int l3), some (.int l4), some (.int v1)], [.int (jn 2), .int l2, .int ((jn 29) + v1), .ref 52], M3)) rfl).trans ?_
    refine (e_ic_ne (hf := rfl)).trans ?_
    refine ite_in ?_ ?_
    · refine (evn_adv 2 (q' := (38, [some (.ref 0), some (.ref 52), some (.int l2), some (.int l3), some (.int l4), some (.int v1)], [.int (jz 1), .int ((jn 29) + v1), .ref 52], M3)) rfl).trans ?_
      refine (e_oB (q := (38, [some (.ref 0), some (.ref 52), some (.int l2), some (.int l3), some (.int l4), some (.int v1)], [.int (jz 1), .int ((jn 29) + v1), .ref 52], M3)) (o := (astI laz M3 52 ((jn 29) + v1) (jz 1))) (f := fun M4 => (39, [some (.ref 0), some (.ref 52), some (.int l2), some (.int l3), some (.int l4), some (.int v1)], [], M4)) (hf := rfl) rfl).trans ?_
      refine oB_in (fun M4 => ?_)
      refine (evn_adv 6 (q' := (47, [some (.ref 0), some (.ref 52), some (.int l2), some (.int l3), some (.int l4), some (.int v1)], [.int (jn 3), .int l2, .int ((jn 53) + v1), .ref 52], M4)) rfl).trans ?_
      refine (e_ic_eq (hf := rfl)).trans ?_
      refine ite_in ?_ ?_
      · refine (evn_adv 2 (q' := (61, [some (.ref 0), some (.ref 52), some (.int l2), some (.int l3), some (.int l4), some (.int v1)], [.int l4, .int ((jn 53) + v1), .ref 52], M4)) rfl).trans ?_
        refine (e_oB (q := (61, [some (.ref 0), some (.ref 52), some (.int l2), some (.int l3), some (.int l4), some (.int v1)], [.int l4, .int ((jn 53) + v1), .ref 52], M4)) (o := (astI laz M4 52 ((jn 53) + v1) l4)) (f := fun M5 => (62, [some (.ref 0), some (.ref 52), some (.int l2), some (.int l3), some (.int l4), some (.int v1)], [], M5)) (hf := rfl) rfl).trans ?_
        refine oB_in (fun M5 => ?_)
        refine (evn_adv 4 (q' := (67, [some (.ref 0), some (.ref 52), some (.int l2), some (.int l3), some (.int l4), some (.int v1)], [.int l4, .int l3, .int l2, .ref 0], M5)) rfl).trans ?_
        refine (e_kI (q := (67, [some (.ref 0), some (.ref 52), some (.int l2), some (.int l3), some (.int l4), some (.int v1)], [.int l4, .int l3, .int l2, .ref 0])) (q2 := (70, [some (.ref 0), some (.ref 52), some (.int l2), some (.int l3), some (.int l4), some (.int v1)], [])) (M := M5) (o := (pcl GG laz d 31 [.ref 0, .int l2, .int l3, .int l4] M5)) (hf := rfl) rfl rfl).trans ?_
        refine kI_in (fun r6 M6 => ?_)
        refine (evn_adv 1 (q' := (72, [some (.ref 0), some (.ref 52), some (.int l2), some (.int l3), some (.int l4), some (.int v1)], [.int v1, .int r6], M6)) rfl).trans ?_
        refine (e_ic_ne (hf := rfl)).trans ?_
        refine ite_in ?_ ?_
        · refine (evn_adv 2 (q' := (80, [some (.ref 0), some (.ref 52), some (.int l2), some (.int l3), some (.int l4), some (.int v1)], [.int (jn 1)], M6)) rfl).trans ?_
          exact e_iretz (hf := rfl)
        · refine (evn_adv 1 (q' := (80, [some (.ref 0), some (.ref 52), some (.int l2), some (.int l3), some (.int l4), some (.int v1)], [.int (jn 0)], M6)) rfl).trans ?_
          exact e_iretz (hf := rfl)
      · refine (evn_adv 2 (q' := (52, [some (.ref 0), some (.ref 52), some (.int l2), some (.int l3), some (.int l4), some (.int v1)], [.int (jn 4), .int l2, .int ((jn 53) + v1), .ref 52], M4)) rfl).trans ?_
        refine (e_ic_ne (hf := rfl)).trans ?_
        refine ite_in ?_ ?_
        · refine (evn_adv 2 (q' := (61, [some (.ref 0), some (.ref 52), some (.int l2), some (.int l3), some (.int l4), some (.int v1)], [.int l4, .int ((jn 53) + v1), .ref 52], M4)) rfl).trans ?_
          refine (e_oB (q := (61, [some (.ref 0), some (.ref 52), some (.int l2), some (.int l3), some (.int l4), some (.int v1)], [.int l4, .int ((jn 53) + v1), .ref 52], M4)) (o := (astI laz M4 52 ((jn 53) + v1) l4)) (f := fun M5 => (62, [some (.ref 0), some (.ref 52), some (.int l2), some (.int l3), some (.int l4), some (.int v1)], [], M5)) (hf := rfl) rfl).trans ?_
          refine oB_in (fun M5 => ?_)
          refine (evn_adv 4 (q' := (67, [some (.ref 0), some (.ref 52), some (.int l2), some (.int l3), some (.int l4), some (.int v1)], [.int l4, .int l3, .int l2, .ref 0], M5)) rfl).trans ?_
          refine (e_kI (q := (67, [some (.ref 0), some (.ref 52), some (.int l2), some (.int l3), some (.int l4), some (.int v1)], [.int l4, .int l3, .int l2, .ref 0])) (q2 := (70, [some (.ref 0), some (.ref 52), some (.int l2), some (.int l3), some (.int l4), some (.int v1)], [])) (M := M5) (o := (pcl GG laz d 31 [.ref 0, .int l2, .int l3, .int l4] M5)) (hf := rfl) rfl rfl).trans ?_
          refine kI_in (fun r6 M6 => ?_)
          refine (evn_adv 1 (q' := (72, [some (.ref 0), some (.ref 52), some (.int l2), some (.int l3), some (.int l4), some (.int v1)], [.int v1, .int r6], M6)) rfl).trans ?_
          refine (e_ic_ne (hf := rfl)).trans ?_
          refine ite_in ?_ ?_
          · refine (evn_adv 2 (q' := (80, [some (.ref 0), some (.ref 52), some (.int l2), some (.int l3), some (.int l4), some (.int v1)], [.int (jn 1)], M6)) rfl).trans ?_
            exact e_iretz (hf := rfl)
          · refine (evn_adv 1 (q' := (80, [some (.ref 0), some (.ref 52), some (.int l2), some (.int l3), some (.int l4), some (.int v1)], [.int (jn 0)], M6)) rfl).trans ?_
            exact e_iretz (hf := rfl)
        · refine (evn_adv 1 (q' := (61, [some (.ref 0), some (.ref 52), some (.int l2), some (.int l3), some (.int l4), some (.int v1)], [.int (jz 1), .int ((jn 53) + v1), .ref 52], M4)) rfl).trans ?_
          refine (e_oB (q := (61, [some (.ref 0), some (.ref 52), some (.int l2), some (.int l3), some (.int l4), some (.int v1)], [.int (jz 1), .int ((jn 53) + v1), .ref 52], M4)) (o := (astI laz M4 52 ((jn 53) + v1) (jz 1))) (f := fun M5 => (62, [some (.ref 0), some (.ref 52), some (.int l2), some (.int l3), some (.int l4), some (.int v1)], [], M5)) (hf := rfl) rfl).trans ?_
          refine oB_in (fun M5 => ?_)
          refine (evn_adv 4 (q' := (67, [some (.ref 0), some (.ref 52), some (.int l2), some (.int l3), some (.int l4), some (.int v1)], [.int l4, .int l3, .int l2, .ref 0], M5)) rfl).trans ?_
          refine (e_kI (q := (67, [some (.ref 0), some (.ref 52), some (.int l2), some (.int l3), some (.int l4), some (.int v1)], [.int l4, .int l3, .int l2, .ref 0])) (q2 := (70, [some (.ref 0), some (.ref 52), some (.int l2), some (.int l3), some (.int l4), some (.int v1)], [])) (M := M5) (o := (pcl GG laz d 31 [.ref 0, .int l2, .int l3, .int l4] M5)) (hf := rfl) rfl rfl).trans ?_
          refine kI_in (fun r6 M6 => ?_)
          refine (evn_adv 1 (q' := (72, [some (.ref 0), some (.ref 52), some (.int l2), some (.int l3), some (.int l4), some (.int v1)], [.int v1, .int r6], M6)) rfl).trans ?_
          refine (e_ic_ne (hf := rfl)).trans ?_
          refine ite_in ?_ ?_
          · refine (evn_adv 2 (q' := (80, [some (.ref 0), some (.ref 52), some (.int l2), some (.int l3), some (.int l4), some (.int v1)], [.int (jn 1)], M6)) rfl).trans ?_
            exact e_iretz (hf := rfl)
          · refine (evn_adv 1 (q' := (80, [some (.ref 0), some (.ref 52), some (.int l2), some (.int l3), some (.int l4), some (.int v1)], [.int (jn 0)], M6)) rfl).trans ?_
            exact e_iretz (hf := rfl)
    · refine (evn_adv 1 (q' := (38, [some (.ref 0), some (.ref 52), some (.int l2), some (.int l3), some (.int l4), some (.int v1)], [.int l3, .int ((jn 29) + v1), .ref 52], M3)) rfl).trans ?_
      refine (e_oB (q := (38, [some (.ref 0), some (.ref 52), some (.int l2), some (.int l3), some (.int l4), some (.int v1)], [.int l3, .int ((jn 29) + v1), .ref 52], M3)) (o := (astI laz M3 52 ((jn 29) + v1) l3)) (f := fun M4 => (39, [some (.ref 0), some (.ref 52), some (.int l2), some (.int l3), some (.int l4), some (.int v1)], [], M4)) (hf := rfl) rfl).trans ?_
      refine oB_in (fun M4 => ?_)
      refine (evn_adv 6 (q' := (47, [some (.ref 0), some (.ref 52), some (.int l2), some (.int l3), some (.int l4), some (.int v1)], [.int (jn 3), .int l2, .int ((jn 53) + v1), .ref 52], M4)) rfl).trans ?_
      refine (e_ic_eq (hf := rfl)).trans ?_
      refine ite_in ?_ ?_
      · refine (evn_adv 2 (q' := (61, [some (.ref 0), some (.ref 52), some (.int l2), some (.int l3), some (.int l4), some (.int v1)], [.int l4, .int ((jn 53) + v1), .ref 52], M4)) rfl).trans ?_
        refine (e_oB (q := (61, [some (.ref 0), some (.ref 52), some (.int l2), some (.int l3), some (.int l4), some (.int v1)], [.int l4, .int ((jn 53) + v1), .ref 52], M4)) (o := (astI laz M4 52 ((jn 53) + v1) l4)) (f := fun M5 => (62, [some (.ref 0), some (.ref 52), some (.int l2), some (.int l3), some (.int l4), some (.int v1)], [], M5)) (hf := rfl) rfl).trans ?_
        refine oB_in (fun M5 => ?_)
        refine (evn_adv 4 (q' := (67, [some (.ref 0), some (.ref 52), some (.int l2), some (.int l3), some (.int l4), some (.int v1)], [.int l4, .int l3, .int l2, .ref 0], M5)) rfl).trans ?_
        refine (e_kI (q := (67, [some (.ref 0), some (.ref 52), some (.int l2), some (.int l3), some (.int l4), some (.int v1)], [.int l4, .int l3, .int l2, .ref 0])) (q2 := (70, [some (.ref 0), some (.ref 52), some (.int l2), some (.int l3), some (.int l4), some (.int v1)], [])) (M := M5) (o := (pcl GG laz d 31 [.ref 0, .int l2, .int l3, .int l4] M5)) (hf := rfl) rfl rfl).trans ?_
        refine kI_in (fun r6 M6 => ?_)
        refine (evn_adv 1 (q' := (72, [some (.ref 0), some (.ref 52), some (.int l2), some (.int l3), some (.int l4), some (.int v1)], [.int v1, .int r6], M6)) rfl).trans ?_
        refine (e_ic_ne (hf := rfl)).trans ?_
        refine ite_in ?_ ?_
        · refine (evn_adv 2 (q' := (80, [some (.ref 0), some (.ref 52), some (.int l2), some (.int l3), some (.int l4), some (.int v1)], [.int (jn 1)], M6)) rfl).trans ?_
          exact e_iretz (hf := rfl)
        · refine (evn_adv 1 (q' := (80, [some (.ref 0), some (.ref 52), some (.int l2), some (.int l3), some (.int l4), some (.int v1)], [.int (jn 0)], M6)) rfl).trans ?_
          exact e_iretz (hf := rfl)
      · refine (evn_adv 2 (q' := (52, [some (.ref 0), some (.ref 52), some (.int l2), some (.int l3), some (.int l4), some (.int v1)], [.int (jn 4), .int l2, .int ((jn 53) + v1), .ref 52], M4)) rfl).trans ?_
        refine (e_ic_ne (hf := rfl)).trans ?_
        refine ite_in ?_ ?_
        · refine (evn_adv 2 (q' := (61, [some (.ref 0), some (.ref 52), some (.int l2), some (.int l3), some (.int l4), some (.int v1)], [.int l4, .int ((jn 53) + v1), .ref 52], M4)) rfl).trans ?_
          refine (e_oB (q := (61, [some (.ref 0), some (.ref 52), some (.int l2), some (.int l3), some (.int l4), some (.int v1)], [.int l4, .int ((jn 53) + v1), .ref 52], M4)) (o := (astI laz M4 52 ((jn 53) + v1) l4)) (f := fun M5 => (62, [some (.ref 0), some (.ref 52), some (.int l2), some (.int l3), some (.int l4), some (.int v1)], [], M5)) (hf := rfl) rfl).trans ?_
          refine oB_in (fun M5 => ?_)
          refine (evn_adv 4 (q' := (67, [some (.ref 0), some (.ref 52), some (.int l2), some (.int l3), some (.int l4), some (.int v1)], [.int l4, .int l3, .int l2, .ref 0], M5)) rfl).trans ?_
          refine (e_kI (q := (67, [some (.ref 0), some (.ref 52), some (.int l2), some (.int l3), some (.int l4), some (.int v1)], [.int l4, .int l3, .int l2, .ref 0])) (q2 := (70, [some (.ref 0), some (.ref 52), some (.int l2), some (.int l3), some (.int l4), some (.int v1)], [])) (M := M5) (o := (pcl GG laz d 31 [.ref 0, .int l2, .int l3, .int l4] M5)) (hf := rfl) rfl rfl).trans ?_
          refine kI_in (fun r6 M6 => ?_)
          refine (evn_adv 1 (q' := (72, [some (.ref 0), some (.ref 52), some (.int l2), some (.int l3), some (.int l4), some (.int v1)], [.int v1, .int r6], M6)) rfl).trans ?_
          refine (e_ic_ne (hf := rfl)).trans ?_
          refine ite_in ?_ ?_
          · refine (evn_adv 2 (q' := (80, [some (.ref 0), some (.ref 52), some (.int l2), some (.int l3), some (.int l4), some (.int v1)], [.int (jn 1)], M6)) rfl).trans ?_
            exact e_iretz (hf := rfl)
          · refine (evn_adv 1 (q' := (80, [some (.ref 0), some (.ref 52), some (.int l2), some (.int l3), some (.int l4), some (.int v1)], [.int (jn 0)], M6)) rfl).trans ?_
            exact e_iretz (hf := rfl)
        · refine (evn_adv 1 (q' := (61, [some (.ref 0), some (.ref 52), some (.int l2), some (.int l3), some (.int l4), some (.int v1)], [.int (jz 1), .int ((jn 53) + v1), .ref 52], M4)) rfl).trans ?_
          refine (e_oB (q := (61, [some (.ref 0), some (.ref 52), some (.int l2), some (.int l3), some (.int l4), some (.int v1)], [.int (jz 1), .int ((jn 53) + v1), .ref 52], M4)) (o := (astI laz M4 52 ((jn 53) + v1) (jz 1))) (f := fun M5 => (62, [some (.ref 0), some (.ref 52), some (.int l2), some (.int l3), some (.int l4), some (.int v1)], [], M5)) (hf := rfl) rfl).trans ?_
          refine oB_in (fun M5 => ?_)
          refine (evn_adv 4 (q' := (67, [some (.ref 0), some (.ref 52), some (.int l2), some (.int l3), some (.int l4), some (.int v1)], [.int l4, .int l3, .int l2, .ref 0], M5)) rfl).trans ?_
          refine (e_kI (q := (67, [some (.ref 0), some (.ref 52), some (.int l2), some (.int l3), some (.int l4), some (.int v1)], [.int l4, .int l3, .int l2, .ref 0])) (q2 := (70, [some (.ref 0), some (.ref 52), some (.int l2), some (.int l3), some (.int l4), some (.int v1)], [])) (M := M5) (o := (pcl GG laz d 31 [.ref 0, .int l2, .int l3, .int l4] M5)) (hf := rfl) rfl rfl).trans ?_
          refine kI_in (fun r6 M6 => ?_)
          refine (evn_adv 1 (q' := (72, [some (.ref 0), some (.ref 52), some (.int l2), some (.int l3), some (.int l4), some (.int v1)], [.int v1, .int r6], M6)) rfl).trans ?_
          refine (e_ic_ne (hf := rfl)).trans ?_
          refine ite_in ?_ ?_
          · refine (evn_adv 2 (q' := (80, [some (.ref 0), some (.ref 52), some (.int l2), some (.int l3), some (.int l4), some (.int v1)], [.int (jn 1)], M6)) rfl).trans ?_
            exact e_iretz (hf := rfl)
          · refine (evn_adv 1 (q' := (80, [some (.ref 0), some (.ref 52), some (.int l2), some (.int l3), some (.int l4), some (.int v1)], [.int (jn 0)], M6)) rfl).trans ?_
            exact e_iretz (hf := rfl)
/-- TermStrategiesLaw.told(LTermStrategies;[I)J -/
noncomputable abbrev E_73 (d : Nat) : PQ → PO := evn (rnn k_73 laz none (pcl GG laz d) 3)
theorem q_73 (d : Nat)  (M : PM) : pcl GG laz (d + 1) 73 [.ref 0, .ref 52] M = E_73 d (7, [some (.ref 0), some (.ref 52), some (.long (Int64.ofInt 7)), none, some (.int (jn 0)), none], [], M) := by
  refine (pcl_unz (mt := t_73) (by decide) rfl (Nat.le_of_ble_eq_true rfl)).trans ?_
  show E_73 d (0, [some (.ref 0), some (.ref 52), none, none, none, none], [], M) = _
  refine (evn_adv 4 (q' := (7, [some (.ref 0), some (.ref 52), some (.long (Int64.ofInt 7)), none, some (.int (jn 0)), none], [], M)) rfl).trans ?_
  rfl
theorem h_73_7 (d : Nat) (l2 : Int64) (l4 : Int32) (u5 : Option Value) (M : PM) : E_73 d (7, [some (.ref 0), some (.ref 52), some (.long l2), none, some (.int l4), u5], [], M) = (oB (aldI laz none M 52 (jn 3)) fun v1 => (if l4 < v1 then E_73 d (18, [some (.ref 0), some (.ref 52), some (.long l2), none, some (.int l4), some (.int (jn 0))], [], M) else E_73 d (198, [some (.ref 0), some (.ref 52), some (.long l2), none, some (.int (jn 0)), u5], [], M))) := by
  refine (evn_adv 3 (q' := (11, [some (.ref 0), some (.ref 52), some (.long l2), none, some (.int l4), u5], [.int (jn 3), .ref 52, .int l4], M)) rfl).trans ?_
  refine (e_oB (q := (11, [some (.ref 0), some (.ref 52), some (.long l2), none, some (.int l4), u5], [.int (jn 3), .ref 52, .int l4], M)) (o := (aldI laz none M 52 (jn 3))) (f := fun v1 => (12, [some (.ref 0), some (.ref 52), some (.long l2), none, some (.int l4), u5], [.int v1, .int l4], M)) (hf := rfl) rfl).trans ?_
  refine oB_in (fun v1 => ?_)
  refine (e_ic_ge (hf := rfl)).trans ?_
  refine ite_in ?_ ?_
  · refine (evn_adv 2 (q' := (18, [some (.ref 0), some (.ref 52), some (.long l2), none, some (.int l4), some (.int (jn 0))], [], M)) rfl).trans ?_
    rfl
  · refine (evn_adv 2 (q' := (198, [some (.ref 0), some (.ref 52), some (.long l2), none, some (.int (jn 0)), u5], [], M)) rfl).trans ?_
    rfl
theorem h_73_18 (d : Nat) (l2 : Int64) (l4 : Int32) (l5 : Int32) (M : PM) : E_73 d (18, [some (.ref 0), some (.ref 52), some (.long l2), none, some (.int l4), some (.int l5)], [], M) = (if l5 < (jn 4) then (kI (pcl GG laz d 17 [.ref 0, .int l4, .int l5] M) fun r1 M1 => E_73 d (18, [some (.ref 0), some (.ref 52), some (.long (((Int64.ofInt 31) * l2) + (r1.toInt64))), none, some (.int l4), some (.int (l5 + (jn 1)))], [], M1)) else E_73 d (49, [some (.ref 0), some (.ref 52), some (.long l2), none, some (.int l4), some (.int (jn 0))], [], M)) := by
  refine (evn_adv 2 (q' := (21, [some (.ref 0), some (.ref 52), some (.long l2), none, some (.int l4), some (.int l5)], [.int (jn 4), .int l5], M)) rfl).trans ?_
  refine (e_ic_ge (hf := rfl)).trans ?_
  refine ite_in ?_ ?_
  · refine (evn_adv 6 (q' := (34, [some (.ref 0), some (.ref 52), some (.long l2), none, some (.int l4), some (.int l5)], [.int l5, .int l4, .ref 0, .long ((Int64.ofInt 31) * l2)], M)) rfl).trans ?_
    refine (e_kI (q := (34, [some (.ref 0), some (.ref 52), some (.long l2), none, some (.int l4), some (.int l5)], [.int l5, .int l4, .ref 0, .long ((Int64.ofInt 31) * l2)])) (q2 := (37, [some (.ref 0), some (.ref 52), some (.long l2), none, some (.int l4), some (.int l5)], [.long ((Int64.ofInt 31) * l2)])) (M := M) (o := (pcl GG laz d 17 [.ref 0, .int l4, .int l5] M)) (hf := rfl) rfl rfl).trans ?_
    refine kI_in (fun r1 M1 => ?_)
    refine (evn_adv 5 (q' := (18, [some (.ref 0), some (.ref 52), some (.long (((Int64.ofInt 31) * l2) + (r1.toInt64))), none, some (.int l4), some (.int (l5 + (jn 1)))], [], M1)) rfl).trans ?_
    rfl
  · refine (evn_adv 2 (q' := (49, [some (.ref 0), some (.ref 52), some (.long l2), none, some (.int l4), some (.int (jn 0))], [], M)) rfl).trans ?_
    rfl
theorem h_73_198 (d : Nat) (l2 : Int64) (l4 : Int32) (u5 : Option Value) (M : PM) : E_73 d (198, [some (.ref 0), some (.ref 52), some (.long l2), none, some (.int l4), u5], [], M) = (oB (aldI laz none M 52 (jn 0)) fun v1 => (if l4 < v1 then E_73 d (209, [some (.ref 0), some (.ref 52), some (.long l2), none, some (.int l4), some (.int (jn 0))], [], M) else E_73 d (274, [some (.ref 0), some (.ref 52), some (.long l2), none, some (.int (jn 0)), u5], [], M))) := by
  refine (evn_adv 3 (q' := (202, [some (.ref 0), some (.ref 52), some (.long l2), none, some (.int l4), u5], [.int (jn 0), .ref 52, .int l4], M)) rfl).trans ?_
  refine (e_oB (q := (202, [some (.ref 0), some (.ref 52), some (.long l2), none, some (.int l4), u5], [.int (jn 0), .ref 52, .int l4], M)) (o := (aldI laz none M 52 (jn 0))) (f := fun v1 => (203, [some (.ref 0), some (.ref 52), some (.long l2), none, some (.int l4), u5], [.int v1, .int l4], M)) (hf := rfl) rfl).trans ?_
  refine oB_in (fun v1 => ?_)
  refine (e_ic_ge (hf := rfl)).trans ?_
  refine ite_in ?_ ?_
  · refine (evn_adv 2 (q' := (209, [some (.ref 0), some (.ref 52), some (.long l2), none, some (.int l4), some (.int (jn 0))], [], M)) rfl).trans ?_
    rfl
  · refine (evn_adv 2 (q' := (274, [some (.ref 0), some (.ref 52), some (.long l2), none, some (.int (jn 0)), u5], [], M)) rfl).trans ?_
    rfl
theorem h_73_49 (d : Nat) (l2 : Int64) (l4 : Int32) (l5 : Int32) (M : PM) : E_73 d (49, [some (.ref 0), some (.ref 52), some (.long l2), none, some (.int l4), some (.int l5)], [], M) = (kI (pcl GG laz d 17 [.ref 0, .int l4, .int (jn 0)] M) fun r1 M1 => (if l5 < r1 then (kI (pcl GG laz d 16 [.ref 0, .int l4, .int l5] M1) fun r2 M2 => (kL (pcl GG laz d 18 [.ref 0, .int l4, .int l5] M2) fun r3 M3 => E_73 d (49, [some (.ref 0), some (.ref 52), some (.long ((((Int64.ofInt 31) * l2) + (r2.toInt64)) + ((Int64.ofInt 3) * r3))), none, some (.int l4), some (.int (l5 + (jn 1)))], [], M3))) else E_73 d (99, [some (.ref 0), some (.ref 52), some (.long l2), none, some (.int l4), some (.int (jn 0))], [], M1))) := by
  refine (evn_adv 4 (q' := (55, [some (.ref 0), some (.ref 52), some (.long l2), none, some (.int l4), some (.int l5)], [.int (jn 0), .int l4, .ref 0, .int l5], M)) rfl).trans ?_
  refine (e_kI (q := (55, [some (.ref 0), some (.ref 52), some (.long l2), none, some (.int l4), some (.int l5)], [.int (jn 0), .int l4, .ref 0, .int l5])) (q2 := (58, [some (.ref 0), some (.ref 52), some (.long l2), none, some (.int l4), some (.int l5)], [.int l5])) (M := M) (o := (pcl GG laz d 17 [.ref 0, .int l4, .int (jn 0)] M)) (hf := rfl) rfl rfl).trans ?_
  refine kI_in (fun r1 M1 => ?_)
  refine (e_ic_ge (hf := rfl)).trans ?_
  refine ite_in ?_ ?_
  · refine (evn_adv 6 (q' := (71, [some (.ref 0), some (.ref 52), some (.long l2), none, some (.int l4), some (.int l5)], [.int l5, .int l4, .ref 0, .long ((Int64.ofInt 31) * l2)], M1)) rfl).trans ?_
    refine (e_kI (q := (71, [some (.ref 0), some (.ref 52), some (.long l2), none, some (.int l4), some (.int l5)], [.int l5, .int l4, .ref 0, .long ((Int64.ofInt 31) * l2)])) (q2 := (74, [some (.ref 0), some (.ref 52), some (.long l2), none, some (.int l4), some (.int l5)], [.long ((Int64.ofInt 31) * l2)])) (M := M1) (o := (pcl GG laz d 16 [.ref 0, .int l4, .int l5] M1)) (hf := rfl) rfl rfl).trans ?_
    refine kI_in (fun r2 M2 => ?_)
    refine (evn_adv 6 (q' := (84, [some (.ref 0), some (.ref 52), some (.long l2), none, some (.int l4), some (.int l5)], [.int l5, .int l4, .ref 0, .long (Int64.ofInt 3), .long (((Int64.ofInt 31) * l2) + (r2.toInt64))], M2)) rfl).trans ?_
    refine (e_kL (q := (84, [some (.ref 0), some (.ref 52), some (.long l2), none, some (.int l4), some (.int l5)], [.int l5, .int l4, .ref 0, .long (Int64.ofInt 3), .long (((Int64.ofInt 31) * l2) + (r2.toInt64))])) (q2 := (87, [some (.ref 0), some (.ref 52), some (.long l2), none, some (.int l4), some (.int l5)], [.long (Int64.ofInt 3), .long (((Int64.ofInt 31) * l2) + (r2.toInt64))])) (M := M2) (o := (pcl GG laz d 18 [.ref 0, .int l4, .int l5] M2)) (hf := rfl) rfl rfl).trans ?_
    refine kL_in (fun r3 M3 => ?_)
    refine (evn_adv 5 (q' := (49, [some (.ref 0), some (.ref 52), some (.long ((((Int64.ofInt 31) * l2) + (r2.toInt64)) + ((Int64.ofInt 3) * r3))), none, some (.int l4), some (.int (l5 + (jn 1)))], [], M3)) rfl).trans ?_
    rfl
  · refine (evn_adv 2 (q' := (99, [some (.ref 0), some (.ref 52), some (.long l2), none, some (.int l4), some (.int (jn 0))], [], M1)) rfl).trans ?_
    rfl
theorem h_73_209 (d : Nat) (l2 : Int64) (l4 : Int32) (l5 : Int32) (M : PM) : E_73 d (209, [some (.ref 0), some (.ref 52), some (.long l2), none, some (.int l4), some (.int l5)], [], M) = (if l5 < (jn 3) then (kI (pcl GG laz d 33 [.ref 0, .int l4, .int l5] M) fun r1 M1 => E_73 d (209, [some (.ref 0), some (.ref 52), some (.long (((Int64.ofInt 31) * l2) + (r1.toInt64))), none, some (.int l4), some (.int (l5 + (jn 1)))], [], M1)) else (if (jn 3) = jn 0 then none else (if (l4 - l4 / (jn 3) * (jn 3)) = jn 0 then (oB (aldI laz none M 52 (jn 3)) fun v1 => (if v1 = jn 0 then none else (kI (pcl GG laz d 35 [.ref 0, .int l4, .int (l4 - l4 / v1 * v1), .int (jn 1)] M) fun r2 M2 => E_73 d (198, [some (.ref 0), some (.ref 52), some (.long (((Int64.ofInt 31) * l2) + (r2.toInt64))), none, some (.int (l4 + (jn 1))), some (.int l5)], [], M2)))) else E_73 d (198, [some (.ref 0), some (.ref 52), some (.long l2), none, some (.int (l4 + (jn 1))), some (.int l5)], [], M)))) := by
  refine (evn_adv 2 (q' := (212, [some (.ref 0), some (.ref 52), some (.long l2), none, some (.int l4), some (.int l5)], [.int (jn 3), .int l5], M)) rfl).trans ?_
  refine (e_ic_ge (hf := rfl)).trans ?_
  refine ite_in ?_ ?_
  · refine (evn_adv 6 (q' := (225, [some (.ref 0), some (.ref 52), some (.long l2), none, some (.int l4), some (.int l5)], [.int l5, .int l4, .ref 0, .long ((Int64.ofInt 31) * l2)], M)) rfl).trans ?_
    refine (e_kI (q := (225, [some (.ref 0), some (.ref 52), some (.long l2), none, some (.int l4), some (.int l5)], [.int l5, .int l4, .ref 0, .long ((Int64.ofInt 31) * l2)])) (q2 := (228, [some (.ref 0), some (.ref 52), some (.long l2), none, some (.int l4), some (.int l5)], [.long ((Int64.ofInt 31) * l2)])) (M := M) (o := (pcl GG laz d 33 [.ref 0, .int l4, .int l5] M)) (hf := rfl) rfl rfl).trans ?_
    refine kI_in (fun r1 M1 => ?_)
    refine (evn_adv 5 (q' := (209, [some (.ref 0), some (.ref 52), some (.long (((Int64.ofInt 31) * l2) + (r1.toInt64))), none, some (.int l4), some (.int (l5 + (jn 1)))], [], M1)) rfl).trans ?_
    rfl
  · refine (evn_adv 2 (q' := (240, [some (.ref 0), some (.ref 52), some (.long l2), none, some (.int l4), some (.int l5)], [.int (jn 3), .int l4], M)) rfl).trans ?_
    refine (e_irem (hf := rfl)).trans ?_
    refine ite_in rfl ?_
    refine (e_if_ne (hf := rfl)).trans ?_
    refine ite_in ?_ ?_
    · refine (evn_adv 8 (q' := (256, [some (.ref 0), some (.ref 52), some (.long l2), none, some (.int l4), some (.int l5)], [.int (jn 3), .ref 52, .int l4, .int l4, .ref 0, .long ((Int64.ofInt 31) * l2)], M)) rfl).trans ?_
      refine (e_oB (q := (256, [some (.ref 0), some (.ref 52), some (.long l2), none, some (.int l4), some (.int l5)], [.int (jn 3), .ref 52, .int l4, .int l4, .ref 0, .long ((Int64.ofInt 31) * l2)], M)) (o := (aldI laz none M 52 (jn 3))) (f := fun v1 => (257, [some (.ref 0), some (.ref 52), some (.long l2), none, some (.int l4), some (.int l5)], [.int v1, .int l4, .int l4, .ref 0, .long ((Int64.ofInt 31) * l2)], M)) (hf := rfl) rfl).trans ?_
      refine oB_in (fun v1 => ?_)
      refine (e_irem (hf := rfl)).trans ?_
      refine ite_in rfl ?_
      refine (evn_adv 1 (q' := (259, [some (.ref 0), some (.ref 52), some (.long l2), none, some (.int l4), some (.int l5)], [.int (jn 1), .int (l4 - l4 / v1 * v1), .int l4, .ref 0, .long ((Int64.ofInt 31) * l2)], M)) rfl).trans ?_
      refine (e_kI (q := (259, [some (.ref 0), some (.ref 52), some (.long l2), none, some (.int l4), some (.int l5)], [.int (jn 1), .int (l4 - l4 / v1 * v1), .int l4, .ref 0, .long ((Int64.ofInt 31) * l2)])) (q2 := (262, [some (.ref 0), some (.ref 52), some (.long l2), none, some (.int l4), some (.int l5)], [.long ((Int64.ofInt 31) * l2)])) (M := M) (o := (pcl GG laz d 35 [.ref 0, .int l4, .int (l4 - l4 / v1 * v1), .int (jn 1)] M)) (hf := rfl) rfl rfl).trans ?_
      refine kI_in (fun r2 M2 => ?_)
      refine (evn_adv 5 (q' := (198, [some (.ref 0), some (.ref 52), some (.long (((Int64.ofInt 31) * l2) + (r2.toInt64))), none, some (.int (l4 + (jn 1))), some (.int l5)], [], M2)) rfl).trans ?_
      rfl
    · refine (evn_adv 2 (q' := (198, [some (.ref 0), some (.ref 52), some (.long l2), none, some (.int (l4 + (jn 1))), some (.int l5)], [], M)) rfl).trans ?_
      rfl
theorem h_73_274 (d : Nat) (l2 : Int64) (l4 : Int32) (u5 : Option Value) (M : PM) : E_73 d (274, [some (.ref 0), some (.ref 52), some (.long l2), none, some (.int l4), u5], [], M) = (oB (aldI laz none M 52 (jn 4)) fun v1 => (if l4 < v1 then E_73 d (285, [some (.ref 0), some (.ref 52), some (.long l2), none, some (.int l4), some (.int (jn 0))], [], M) else E_73 d (324, [some (.ref 0), some (.ref 52), some (.long l2), none, some (.int (jn 0)), u5], [], M))) := by
  refine (evn_adv 3 (q' := (278, [some (.ref 0), some (.ref 52), some (.long l2), none, some (.int l4), u5], [.int (jn 4), .ref 52, .int l4], M)) rfl).trans ?_
  refine (e_oB (q := (278, [some (.ref 0), some (.ref 52), some (.long l2), none, some (.int l4), u5], [.int (jn 4), .ref 52, .int l4], M)) (o := (aldI laz none M 52 (jn 4))) (f := fun v1 => (279, [some (.ref 0), some (.ref 52), some (.long l2), none, some (.int l4), u5], [.int v1, .int l4], M)) (hf := rfl) rfl).trans ?_
  refine oB_in (fun v1 => ?_)
  refine (e_ic_ge (hf := rfl)).trans ?_
  refine ite_in ?_ ?_
  · refine (evn_adv 2 (q' := (285, [some (.ref 0), some (.ref 52), some (.long l2), none, some (.int l4), some (.int (jn 0))], [], M)) rfl).trans ?_
    rfl
  · refine (evn_adv 2 (q' := (324, [some (.ref 0), some (.ref 52), some (.long l2), none, some (.int (jn 0)), u5], [], M)) rfl).trans ?_
    rfl
theorem h_73_99 (d : Nat) (l2 : Int64) (l4 : Int32) (l5 : Int32) (M : PM) : E_73 d (99, [some (.ref 0), some (.ref 52), some (.long l2), none, some (.int l4), some (.int l5)], [], M) = (oB (aldI laz none M 52 (jn 4)) fun v1 => (if l5 < v1 then (kI (pcl GG laz d 23 [.ref 0, .int l5, .int l4, .int (jz 1)] M) fun r2 M2 => (kI (pcl GG laz d 23 [.ref 0, .int l5, .int l4, .int (jn 0)] M2) fun r3 M3 => E_73 d (99, [some (.ref 0), some (.ref 52), some (.long ((((Int64.ofInt 31) * l2) + (r2.toInt64)) + (((jn 3) * r3).toInt64))), none, some (.int l4), some (.int (l5 + (jn 1)))], [], M3))) else E_73 d (146, [some (.ref 0), some (.ref 52), some (.long l2), none, some (.int l4), some (.int (jn 0))], [], M))) := by
  refine (evn_adv 3 (q' := (103, [some (.ref 0), some (.ref 52), some (.long l2), none, some (.int l4), some (.int l5)], [.int (jn 4), .ref 52, .int l5], M)) rfl).trans ?_
  refine (e_oB (q := (103, [some (.ref 0), some (.ref 52), some (.long l2), none, some (.int l4), some (.int l5)], [.int (jn 4), .ref 52, .int l5], M)) (o := (aldI laz none M 52 (jn 4))) (f := fun v1 => (104, [some (.ref 0), some (.ref 52), some (.long l2), none, some (.int l4), some (.int l5)], [.int v1, .int l5], M)) (hf := rfl) rfl).trans ?_
  refine oB_in (fun v1 => ?_)
  refine (e_ic_ge (hf := rfl)).trans ?_
  refine ite_in ?_ ?_
  · refine (evn_adv 7 (q' := (118, [some (.ref 0), some (.ref 52), some (.long l2), none, some (.int l4), some (.int l5)], [.int (jz 1), .int l4, .int l5, .ref 0, .long ((Int64.ofInt 31) * l2)], M)) rfl).trans ?_
    refine (e_kI (q := (118, [some (.ref 0), some (.ref 52), some (.long l2), none, some (.int l4), some (.int l5)], [.int (jz 1), .int l4, .int l5, .ref 0, .long ((Int64.ofInt 31) * l2)])) (q2 := (121, [some (.ref 0), some (.ref 52), some (.long l2), none, some (.int l4), some (.int l5)], [.long ((Int64.ofInt 31) * l2)])) (M := M) (o := (pcl GG laz d 23 [.ref 0, .int l5, .int l4, .int (jz 1)] M)) (hf := rfl) rfl rfl).trans ?_
    refine kI_in (fun r2 M2 => ?_)
    refine (evn_adv 7 (q' := (130, [some (.ref 0), some (.ref 52), some (.long l2), none, some (.int l4), some (.int l5)], [.int (jn 0), .int l4, .int l5, .ref 0, .int (jn 3), .long (((Int64.ofInt 31) * l2) + (r2.toInt64))], M2)) rfl).trans ?_
    refine (e_kI (q := (130, [some (.ref 0), some (.ref 52), some (.long l2), none, some (.int l4), some (.int l5)], [.int (jn 0), .int l4, .int l5, .ref 0, .int (jn 3), .long (((Int64.ofInt 31) * l2) + (r2.toInt64))])) (q2 := (133, [some (.ref 0), some (.ref 52), some (.long l2), none, some (.int l4), some (.int l5)], [.int (jn 3), .long (((Int64.ofInt 31) * l2) + (r2.toInt64))])) (M := M2) (o := (pcl GG laz d 23 [.ref 0, .int l5, .int l4, .int (jn 0)] M2)) (hf := rfl) rfl rfl).trans ?_
    refine kI_in (fun r3 M3 => ?_)
    refine (evn_adv 6 (q' := (99, [some (.ref 0), some (.ref 52), some (.long ((((Int64.ofInt 31) * l2) + (r2.toInt64)) + (((jn 3) * r3).toInt64))), none, some (.int l4), some (.int (l5 + (jn 1)))], [], M3)) rfl).trans ?_
    rfl
  · refine (evn_adv 2 (q' := (146, [some (.ref 0), some (.ref 52), some (.long l2), none, some (.int l4), some (.int (jn 0))], [], M)) rfl).trans ?_
    rfl
theorem h_73_285 (d : Nat) (l2 : Int64) (l4 : Int32) (l5 : Int32) (M : PM) : E_73 d (285, [some (.ref 0), some (.ref 52), some (.long l2), none, some (.int l4), some (.int l5)], [], M) = (oB (aldI laz none M 52 (jn 4)) fun v1 => (if l5 < v1 then (kI (pcl GG laz d 42 [.ref 0, .int l4, .int l5] M) fun r2 M2 => E_73 d (285, [some (.ref 0), some (.ref 52), some (.long (((Int64.ofInt 31) * l2) + (r2.toInt64))), none, some (.int l4), some (.int (l5 + (jn 1)))], [], M2)) else E_73 d (274, [some (.ref 0), some (.ref 52), some (.long l2), none, some (.int (l4 + (jn 1))), some (.int l5)], [], M))) := by
  refine (evn_adv 3 (q' := (289, [some (.ref 0), some (.ref 52), some (.long l2), none, some (.int l4), some (.int l5)], [.int (jn 4), .ref 52, .int l5], M)) rfl).trans ?_
  refine (e_oB (q := (289, [some (.ref 0), some (.ref 52), some (.long l2), none, some (.int l4), some (.int l5)], [.int (jn 4), .ref 52, .int l5], M)) (o := (aldI laz none M 52 (jn 4))) (f := fun v1 => (290, [some (.ref 0), some (.ref 52), some (.long l2), none, some (.int l4), some (.int l5)], [.int v1, .int l5], M)) (hf := rfl) rfl).trans ?_
  refine oB_in (fun v1 => ?_)
  refine (e_ic_ge (hf := rfl)).trans ?_
  refine ite_in ?_ ?_
  · refine (evn_adv 6 (q' := (303, [some (.ref 0), some (.ref 52), some (.long l2), none, some (.int l4), some (.int l5)], [.int l5, .int l4, .ref 0, .long ((Int64.ofInt 31) * l2)], M)) rfl).trans ?_
    refine (e_kI (q := (303, [some (.ref 0), some (.ref 52), some (.long l2), none, some (.int l4), some (.int l5)], [.int l5, .int l4, .ref 0, .long ((Int64.ofInt 31) * l2)])) (q2 := (306, [some (.ref 0), some (.ref 52), some (.long l2), none, some (.int l4), some (.int l5)], [.long ((Int64.ofInt 31) * l2)])) (M := M) (o := (pcl GG laz d 42 [.ref 0, .int l4, .int l5] M)) (hf := rfl) rfl rfl).trans ?_
    refine kI_in (fun r2 M2 => ?_)
    refine (evn_adv 5 (q' := (285, [some (.ref 0), some (.ref 52), some (.long (((Int64.ofInt 31) * l2) + (r2.toInt64))), none, some (.int l4), some (.int (l5 + (jn 1)))], [], M2)) rfl).trans ?_
    rfl
  · refine (evn_adv 2 (q' := (274, [some (.ref 0), some (.ref 52), some (.long l2), none, some (.int (l4 + (jn 1))), some (.int l5)], [], M)) rfl).trans ?_
    rfl
theorem h_73_324 (d : Nat) (u1 : Option Value) (l2 : Int64) (l4 : Int32) (u5 : Option Value) (M : PM) : E_73 d (324, [some (.ref 0), u1, some (.long l2), none, some (.int l4), u5], [], M) = (if l4 < (jn 6) then (kI (pcl GG laz d 54 [.ref 0, .int l4] M) fun r1 M1 => E_73 d (324, [some (.ref 0), u1, some (.long (((Int64.ofInt 31) * l2) + (r1.toInt64))), none, some (.int (l4 + (jn 1))), u5], [], M1)) else (rL l2 M)) := by
  refine (evn_adv 2 (q' := (328, [some (.ref 0), u1, some (.long l2), none, some (.int l4), u5], [.int (jn 6), .int l4], M)) rfl).trans ?_
  refine (e_ic_ge (hf := rfl)).trans ?_
  refine ite_in ?_ ?_
  · refine (evn_adv 5 (q' := (339, [some (.ref 0), u1, some (.long l2), none, some (.int l4), u5], [.int l4, .ref 0, .long ((Int64.ofInt 31) * l2)], M)) rfl).trans ?_
    refine (e_kI (q := (339, [some (.ref 0), u1, some (.long l2), none, some (.int l4), u5], [.int l4, .ref 0, .long ((Int64.ofInt 31) * l2)])) (q2 := (342, [some (.ref 0), u1, some (.long l2), none, some (.int l4), u5], [.long ((Int64.ofInt 31) * l2)])) (M := M) (o := (pcl GG laz d 54 [.ref 0, .int l4] M)) (hf := rfl) rfl rfl).trans ?_
    refine kI_in (fun r1 M1 => ?_)
    refine (evn_adv 5 (q' := (324, [some (.ref 0), u1, some (.long (((Int64.ofInt 31) * l2) + (r1.toInt64))), none, some (.int (l4 + (jn 1))), u5], [], M1)) rfl).trans ?_
    rfl
  · refine (evn_adv 1 (q' := (352, [some (.ref 0), u1, some (.long l2), none, some (.int l4), u5], [.long l2], M)) rfl).trans ?_
    exact evn_end 1 rfl
theorem h_73_146 (d : Nat) (l2 : Int64) (l4 : Int32) (l5 : Int32) (M : PM) : E_73 d (146, [some (.ref 0), some (.ref 52), some (.long l2), none, some (.int l4), some (.int l5)], [], M) = (oB (aldI laz none M 52 (jn 3)) fun v1 => (if l5 < v1 then (kI (pcl GG laz d 19 [.ref 0, .int l4, .int l5] M) fun r2 M2 => E_73 d (146, [some (.ref 0), some (.ref 52), some (.long (((Int64.ofInt 31) * l2) + (r2.toInt64))), none, some (.int l4), some (.int (l5 + (jn 1)))], [], M2)) else (kL (pcl GG laz d 26 [.ref 0, .int l4] M) fun r2 M2 => E_73 d (7, [some (.ref 0), some (.ref 52), some (.long (((Int64.ofInt 31) * l2) + r2)), none, some (.int (l4 + (jn 1))), some (.int l5)], [], M2)))) := by
  refine (evn_adv 3 (q' := (150, [some (.ref 0), some (.ref 52), some (.long l2), none, some (.int l4), some (.int l5)], [.int (jn 3), .ref 52, .int l5], M)) rfl).trans ?_
  refine (e_oB (q := (150, [some (.ref 0), some (.ref 52), some (.long l2), none, some (.int l4), some (.int l5)], [.int (jn 3), .ref 52, .int l5], M)) (o := (aldI laz none M 52 (jn 3))) (f := fun v1 => (151, [some (.ref 0), some (.ref 52), some (.long l2), none, some (.int l4), some (.int l5)], [.int v1, .int l5], M)) (hf := rfl) rfl).trans ?_
  refine oB_in (fun v1 => ?_)
  refine (e_ic_ge (hf := rfl)).trans ?_
  refine ite_in ?_ ?_
  · refine (evn_adv 6 (q' := (164, [some (.ref 0), some (.ref 52), some (.long l2), none, some (.int l4), some (.int l5)], [.int l5, .int l4, .ref 0, .long ((Int64.ofInt 31) * l2)], M)) rfl).trans ?_
    refine (e_kI (q := (164, [some (.ref 0), some (.ref 52), some (.long l2), none, some (.int l4), some (.int l5)], [.int l5, .int l4, .ref 0, .long ((Int64.ofInt 31) * l2)])) (q2 := (167, [some (.ref 0), some (.ref 52), some (.long l2), none, some (.int l4), some (.int l5)], [.long ((Int64.ofInt 31) * l2)])) (M := M) (o := (pcl GG laz d 19 [.ref 0, .int l4, .int l5] M)) (hf := rfl) rfl rfl).trans ?_
    refine kI_in (fun r2 M2 => ?_)
    refine (evn_adv 5 (q' := (146, [some (.ref 0), some (.ref 52), some (.long (((Int64.ofInt 31) * l2) + (r2.toInt64))), none, some (.int l4), some (.int (l5 + (jn 1)))], [], M2)) rfl).trans ?_
    rfl
  · refine (evn_adv 5 (q' := (184, [some (.ref 0), some (.ref 52), some (.long l2), none, some (.int l4), some (.int l5)], [.int l4, .ref 0, .long ((Int64.ofInt 31) * l2)], M)) rfl).trans ?_
    refine (e_kL (q := (184, [some (.ref 0), some (.ref 52), some (.long l2), none, some (.int l4), some (.int l5)], [.int l4, .ref 0, .long ((Int64.ofInt 31) * l2)])) (q2 := (187, [some (.ref 0), some (.ref 52), some (.long l2), none, some (.int l4), some (.int l5)], [.long ((Int64.ofInt 31) * l2)])) (M := M) (o := (pcl GG laz d 26 [.ref 0, .int l4] M)) (hf := rfl) rfl rfl).trans ?_
    refine kL_in (fun r2 M2 => ?_)
    refine (evn_adv 4 (q' := (7, [some (.ref 0), some (.ref 52), some (.long (((Int64.ofInt 31) * l2) + r2)), none, some (.int (l4 + (jn 1))), some (.int l5)], [], M2)) rfl).trans ?_
    rfl
/-- TermStrategiesLaw.ran(LTermStrategies;III)Z -/
noncomputable abbrev E_74 (d : Nat) : PQ → PO := evn (rnn k_74 laz none (pcl GG laz d) 2)
theorem q_74 (d : Nat) (l1 : Int32) (l2 : Int32) (l3 : Int32) (M : PM) : pcl GG laz (d + 1) 74 [.ref 0, .int l1, .int l2, .int l3] M = (kI (pcl GG laz d 35 [.ref 0, .int l1, .int l2, .int (jn 0)] M) fun r1 M1 => (kI (pcl GG laz d 34 [.ref 0, .int l1, .int l2] M1) fun r2 M2 => (if r1 = jn 0 then (if r2 = l3 then (if jn 0 < r1 then (kI (pcl GG laz d 35 [.ref 0, .int l1, .int l2, .int (jn 1)] M2) fun r3 M3 => (if r3 = jn 0 then (kI (pcl GG laz d 35 [.ref 0, .int l1, .int l2, .int (jn 2)] M3) fun r4 M4 => (if r4 = jn 0 then (rZ (jn 1) M4) else E_74 d (75, [some (.ref 0), some (.int l1), some (.int l2), some (.int l3), some (.int r1), some (.int r2), none, none, none, none, none], [], M4))) else E_74 d (75, [some (.ref 0), some (.int l1), some (.int l2), some (.int l3), some (.int r1), some (.int r2), none, none, none, none, none], [], M3))) else (kI (pcl GG laz d 17 [.ref 0, .int l3, .int (jn 0)] M2) fun r3 M3 => (kI (pcl GG laz d 35 [.ref 0, .int l1, .int l2, .int (jn 1)] M3) fun r4 M4 => (if r3 = r4 then (kI (pcl GG laz d 54 [.ref 0, .int (jn 6)] M4) fun r5 M5 => (kI (pcl GG laz d 35 [.ref 0, .int l1, .int l2, .int (jn 2)] M5) fun r6 M6 => (if r5 = r6 then (kI (pcl GG laz d 17 [.ref 0, .int l3, .int (jn 0)] M6) fun r7 M7 => (if (jn 40) < r7 then E_74 d (120, [some (.ref 0), some (.int l1), some (.int l2), some (.int l3), some (.int r1), some (.int r2), none, none, none, none, none], [], M7) else (kI (pcl GG laz d 54 [.ref 0, .int (jn 6)] M7) fun r8 M8 => (kI (pcl GG laz d 38 [.ref 0, .int l2, .int r8] M8) fun r9 M9 => (if r9 = (jz 7) then E_74 d (177, [some (.ref 0), some (.int l1), some (.int l2), some (.int l3), some (.int r1), some (.int r2), some (.int r8), some (.int r9), none, none, none], [], M9) else (if r9 = (l3 + (jn 1)) then (kI (pcl GG laz d 19 [.ref 0, .int l3, .int (l3 + (jn 1))] M9) fun r10 M10 => (if r10 = jn 0 then (kI (pcl GG laz d 14 [.ref 0] M10) fun r11 M11 => (if r11 = (l3 + (jn 1)) then E_74 d (177, [some (.ref 0), some (.int l1), some (.int l2), some (.int l3), some (.int r1), some (.int r2), some (.int r8), some (.int r9), none, none, none], [], M11) else E_74 d (175, [some (.ref 0), some (.int l1), some (.int l2), some (.int l3), some (.int r1), some (.int r2), some (.int r8), some (.int r9), none, none, none], [], M11))) else E_74 d (175, [some (.ref 0), some (.int l1), some (.int l2), some (.int l3), some (.int r1), some (.int r2), some (.int r8), some (.int r9), none, none, none], [], M10))) else E_74 d (175, [some (.ref 0), some (.int l1), some (.int l2), some (.int l3), some (.int r1), some (.int r2), some (.int r8), some (.int r9), none, none, none], [], M9))))))) else E_74 d (120, [some (.ref 0), some (.int l1), some (.int l2), some (.int l3), some (.int r1), some (.int r2), none, none, none, none, none], [], M6)))) else E_74 d (120, [some (.ref 0), some (.int l1), some (.int l2), some (.int l3), some (.int r1), some (.int r2), none, none, none, none, none], [], M4))))) else (rZ (jn 0) M2)) else (if r1 = (jn 1) then (if r2 = (jz 6) then (if jn 0 < r1 then (kI (pcl GG laz d 35 [.ref 0, .int l1, .int l2, .int (jn 1)] M2) fun r3 M3 => (if r3 = jn 0 then (kI (pcl GG laz d 35 [.ref 0, .int l1, .int l2, .int (jn 2)] M3) fun r4 M4 => (if r4 = jn 0 then (rZ (jn 1) M4) else E_74 d (75, [some (.ref 0), some (.int l1), some (.int l2), some (.int l3), some (.int r1), some (.int r2), none, none, none, none, none], [], M4))) else E_74 d (75, [some (.ref 0), some (.int l1), some (.int l2), some (.int l3), some (.int r1), some (.int r2), none, none, none, none, none], [], M3))) else (kI (pcl GG laz d 17 [.ref 0, .int l3, .int (jn 0)] M2) fun r3 M3 => (kI (pcl GG laz d 35 [.ref 0, .int l1, .int l2, .int (jn 1)] M3) fun r4 M4 => (if r3 = r4 then (kI (pcl GG laz d 54 [.ref 0, .int (jn 6)] M4) fun r5 M5 => (kI (pcl GG laz d 35 [.ref 0, .int l1, .int l2, .int (jn 2)] M5) fun r6 M6 => (if r5 = r6 then (kI (pcl GG laz d 17 [.ref 0, .int l3, .int (jn 0)] M6) fun r7 M7 => (if (jn 40) < r7 then E_74 d (120, [some (.ref 0), some (.int l1), some (.int l2), some (.int l3), some (.int r1), some (.int r2), none, none, none, none, none], [], M7) else (kI (pcl GG laz d 54 [.ref 0, .int (jn 6)] M7) fun r8 M8 => (kI (pcl GG laz d 38 [.ref 0, .int l2, .int r8] M8) fun r9 M9 => (if r9 = (jz 7) then E_74 d (177, [some (.ref 0), some (.int l1), some (.int l2), some (.int l3), some (.int r1), some (.int r2), some (.int r8), some (.int r9), none, none, none], [], M9) else (if r9 = (l3 + (jn 1)) then (kI (pcl GG laz d 19 [.ref 0, .int l3, .int (l3 + (jn 1))] M9) fun r10 M10 => (if r10 = jn 0 then (kI (pcl GG laz d 14 [.ref 0] M10) fun r11 M11 => (if r11 = (l3 + (jn 1)) then E_74 d (177, [some (.ref 0), some (.int l1), some (.int l2), some (.int l3), some (.int r1), some (.int r2), some (.int r8), some (.int r9), none, none, none], [], M11) else E_74 d (175, [some (.ref 0), some (.int l1), some (.int l2), some (.int l3), some (.int r1), some (.int r2), some (.int r8), some (.int r9), none, none, none], [], M11))) else E_74 d (175, [some (.ref 0), some (.int l1), some (.int l2), some (.int l3), some (.int r1), some (.int r2), some (.int r8), some (.int r9), none, none, none], [], M10))) else E_74 d (175, [some (.ref 0), some (.int l1), some (.int l2), some (.int l3), some (.int r1), some (.int r2), some (.int r8), some (.int r9), none, none, none], [], M9))))))) else E_74 d (120, [some (.ref 0), some (.int l1), some (.int l2), some (.int l3), some (.int r1), some (.int r2), none, none, none, none, none], [], M6)))) else E_74 d (120, [some (.ref 0), some (.int l1), some (.int l2), some (.int l3), some (.int r1), some (.int r2), none, none, none, none, none], [], M4))))) else (rZ (jn 0) M2)) else (if r2 = (jz 7) then (if jn 0 < r1 then (kI (pcl GG laz d 35 [.ref 0, .int l1, .int l2, .int (jn 1)] M2) fun r3 M3 => (if r3 = jn 0 then (kI (pcl GG laz d 35 [.ref 0, .int l1, .int l2, .int (jn 2)] M3) fun r4 M4 => (if r4 = jn 0 then (rZ (jn 1) M4) else E_74 d (75, [some (.ref 0), some (.int l1), some (.int l2), some (.int l3), some (.int r1), some (.int r2), none, none, none, none, none], [], M4))) else E_74 d (75, [some (.ref 0), some (.int l1), some (.int l2), some (.int l3), some (.int r1), some (.int r2), none, none, none, none, none], [], M3))) else (kI (pcl GG laz d 17 [.ref 0, .int l3, .int (jn 0)] M2) fun r3 M3 => (kI (pcl GG laz d 35 [.ref 0, .int l1, .int l2, .int (jn 1)] M3) fun r4 M4 => (if r3 = r4 then (kI (pcl GG laz d 54 [.ref 0, .int (jn 6)] M4) fun r5 M5 => (kI (pcl GG laz d 35 [.ref 0, .int l1, .int l2, .int (jn 2)] M5) fun r6 M6 => (if r5 = r6 then (kI (pcl GG laz d 17 [.ref 0, .int l3, .int (jn 0)] M6) fun r7 M7 => (if (jn 40) < r7 then E_74 d (120, [some (.ref 0), some (.int l1), some (.int l2), some (.int l3), some (.int r1), some (.int r2), none, none, none, none, none], [], M7) else (kI (pcl GG laz d 54 [.ref 0, .int (jn 6)] M7) fun r8 M8 => (kI (pcl GG laz d 38 [.ref 0, .int l2, .int r8] M8) fun r9 M9 => (if r9 = (jz 7) then E_74 d (177, [some (.ref 0), some (.int l1), some (.int l2), some (.int l3), some (.int r1), some (.int r2), some (.int r8), some (.int r9), none, none, none], [], M9) else (if r9 = (l3 + (jn 1)) then (kI (pcl GG laz d 19 [.ref 0, .int l3, .int (l3 + (jn 1))] M9) fun r10 M10 => (if r10 = jn 0 then (kI (pcl GG laz d 14 [.ref 0] M10) fun r11 M11 => (if r11 = (l3 + (jn 1)) then E_74 d (177, [some (.ref 0), some (.int l1), some (.int l2), some (.int l3), some (.int r1), some (.int r2), some (.int r8), some (.int r9), none, none, none], [], M11) else E_74 d (175, [some (.ref 0), some (.int l1), some (.int l2), some (.int l3), some (.int r1), some (.int r2), some (.int r8), some (.int r9), none, none, none], [], M11))) else E_74 d (175, [some (.ref 0), some (.int l1), some (.int l2), some (.int l3), some (.int r1), some (.int r2), some (.int r8), some (.int r9), none, none, none], [], M10))) else E_74 d (175, [some (.ref 0), some (.int l1), some (.int l2), some (.int l3), some (.int r1), some (.int r2), some (.int r8), some (.int r9), none, none, none], [], M9))))))) else E_74 d (120, [some (.ref 0), some (.int l1), some (.int l2), some (.int l3), some (.int r1), some (.int r2), none, none, none, none, none], [], M6)))) else E_74 d (120, [some (.ref 0), some (.int l1), some (.int l2), some (.int l3), some (.int r1), some (.int r2), none, none, none, none, none], [], M4))))) else (rZ (jn 0) M2)))))) := by
  refine (pcl_unz (mt := t_74) (by decide) rfl (Nat.le_of_ble_eq_true rfl)).trans ?_
  show E_74 d (0, [some (.ref 0), some (.int l1), some (.int l2), some (.int l3), none, none, none, none, none, none, none], [], M) = _
  refine (evn_adv 4 (q' := (4, [some (.ref 0), some (.int l1), some (.int l2), some (.int l3), none, none, none, none, none, none, none], [.int (jn 0), .int l2, .int l1, .ref 0], M)) rfl).trans ?_
  refine (e_kI (q := (4, [some (.ref 0), some (.int l1), some (.int l2), some (.int l3), none, none, none, none, none, none, none], [.int (jn 0), .int l2, .int l1, .ref 0])) (q2 := (7, [some (.ref 0), some (.int l1), some (.int l2), some (.int l3), none, none, none, none, none, none, none], [])) (M := M) (o := (pcl GG laz d 35 [.ref 0, .int l1, .int l2, .int (jn 0)] M)) (hf := rfl) rfl rfl).trans ?_
  refine kI_in (fun r1 M1 => ?_)
  refine (evn_adv 4 (q' := (12, [some (.ref 0), some (.int l1), some (.int l2), some (.int l3), some (.int r1), none, none, none, none, none, none], [.int l2, .int l1, .ref 0], M1)) rfl).trans ?_
  refine (e_kI (q := (12, [some (.ref 0), some (.int l1), some (.int l2), some (.int l3), some (.int r1), none, none, none, none, none, none], [.int l2, .int l1, .ref 0])) (q2 := (15, [some (.ref 0), some (.int l1), some (.int l2), some (.int l3), some (.int r1), none, none, none, none, none, none], [])) (M := M1) (o := (pcl GG laz d 34 [.ref 0, .int l1, .int l2] M1)) (hf := rfl) rfl rfl).trans ?_
  refine kI_in (fun r2 M2 => ?_)
  refine (evn_adv 3 (q' := (21, [some (.ref 0), some (.int l1), some (.int l2), some (.int l3), some (.int r1), some (.int r2), none, none, none, none, none], [.int r1, .int r2], M2)) rfl).trans ?_
  refine (e_if_ne (hf := rfl)).trans ?_
  refine ite_in ?_ ?_
  · refine (evn_adv 2 (q' := (41, [some (.ref 0), some (.int l1), some (.int l2), some (.int l3), some (.int r1), some (.int r2), none, none, none, none, none], [.int l3, .int r2], M2)) rfl).trans ?_
    refine (e_ic_eq (hf := rfl)).trans ?_
    refine ite_in ?_ ?_
    · refine (evn_adv 1 (q' := (48, [some (.ref 0), some (.int l1), some (.int l2), some (.int l3), some (.int r1), some (.int r2), none, none, none, none, none], [.int r1], M2)) rfl).trans ?_
      refine (e_if_le (hf := rfl)).trans ?_
      refine ite_in ?_ ?_
      · refine (evn_adv 4 (q' := (55, [some (.ref 0), some (.int l1), some (.int l2), some (.int l3), some (.int r1), some (.int r2), none, none, none, none, none], [.int (jn 1), .int l2, .int l1, .ref 0], M2)) rfl).trans ?_
        refine (e_kI (q := (55, [some (.ref 0), some (.int l1), some (.int l2), some (.int l3), some (.int r1), some (.int r2), none, none, none, none, none], [.int (jn 1), .int l2, .int l1, .ref 0])) (q2 := (58, [some (.ref 0), some (.int l1), some (.int l2), some (.int l3), some (.int r1), some (.int r2), none, none, none, none, none], [])) (M := M2) (o := (pcl GG laz d 35 [.ref 0, .int l1, .int l2, .int (jn 1)] M2)) (hf := rfl) rfl rfl).trans ?_
        refine kI_in (fun r3 M3 => ?_)
        refine (e_if_ne (hf := rfl)).trans ?_
        refine ite_in ?_ ?_
        · refine (evn_adv 4 (q' := (65, [some (.ref 0), some (.int l1), some (.int l2), some (.int l3), some (.int r1), some (.int r2), none, none, none, none, none], [.int (jn 2), .int l2, .int l1, .ref 0], M3)) rfl).trans ?_
          refine (e_kI (q := (65, [some (.ref 0), some (.int l1), some (.int l2), some (.int l3), some (.int r1), some (.int r2), none, none, none, none, none], [.int (jn 2), .int l2, .int l1, .ref 0])) (q2 := (68, [some (.ref 0), some (.int l1), some (.int l2), some (.int l3), some (.int r1), some (.int r2), none, none, none, none, none], [])) (M := M3) (o := (pcl GG laz d 35 [.ref 0, .int l1, .int l2, .int (jn 2)] M3)) (hf := rfl) rfl rfl).trans ?_
          refine kI_in (fun r4 M4 => ?_)
          refine (e_if_ne (hf := rfl)).trans ?_
          refine ite_in ?_ ?_
          · refine (evn_adv 2 (q' := (76, [some (.ref 0), some (.int l1), some (.int l2), some (.int l3), some (.int r1), some (.int r2), none, none, none, none, none], [.int (jn 1)], M4)) rfl).trans ?_
            exact e_iretz (hf := rfl)
          · rfl
        · rfl
      · refine (evn_adv 3 (q' := (80, [some (.ref 0), some (.int l1), some (.int l2), some (.int l3), some (.int r1), some (.int r2), none, none, none, none, none], [.int (jn 0), .int l3, .ref 0], M2)) rfl).trans ?_
        refine (e_kI (q := (80, [some (.ref 0), some (.int l1), some (.int l2), some (.int l3), some (.int r1), some (.int r2), none, none, none, none, none], [.int (jn 0), .int l3, .ref 0])) (q2 := (83, [some (.ref 0), some (.int l1), some (.int l2), some (.int l3), some (.int r1), some (.int r2), none, none, none, none, none], [])) (M := M2) (o := (pcl GG laz d 17 [.ref 0, .int l3, .int (jn 0)] M2)) (hf := rfl) rfl rfl).trans ?_
        refine kI_in (fun r3 M3 => ?_)
        refine (evn_adv 4 (q' := (87, [some (.ref 0), some (.int l1), some (.int l2), some (.int l3), some (.int r1), some (.int r2), none, none, none, none, none], [.int (jn 1), .int l2, .int l1, .ref 0, .int r3], M3)) rfl).trans ?_
        refine (e_kI (q := (87, [some (.ref 0), some (.int l1), some (.int l2), some (.int l3), some (.int r1), some (.int r2), none, none, none, none, none], [.int (jn 1), .int l2, .int l1, .ref 0, .int r3])) (q2 := (90, [some (.ref 0), some (.int l1), some (.int l2), some (.int l3), some (.int r1), some (.int r2), none, none, none, none, none], [.int r3])) (M := M3) (o := (pcl GG laz d 35 [.ref 0, .int l1, .int l2, .int (jn 1)] M3)) (hf := rfl) rfl rfl).trans ?_
        refine kI_in (fun r4 M4 => ?_)
        refine (e_ic_ne (hf := rfl)).trans ?_
        refine ite_in ?_ ?_
        · refine (evn_adv 2 (q' := (96, [some (.ref 0), some (.int l1), some (.int l2), some (.int l3), some (.int r1), some (.int r2), none, none, none, none, none], [.int (jn 6), .ref 0], M4)) rfl).trans ?_
          refine (e_kI (q := (96, [some (.ref 0), some (.int l1), some (.int l2), some (.int l3), some (.int r1), some (.int r2), none, none, none, none, none], [.int (jn 6), .ref 0])) (q2 := (99, [some (.ref 0), some (.int l1), some (.int l2), some (.int l3), some (.int r1), some (.int r2), none, none, none, none, none], [])) (M := M4) (o := (pcl GG laz d 54 [.ref 0, .int (jn 6)] M4)) (hf := rfl) rfl rfl).trans ?_
          refine kI_in (fun r5 M5 => ?_)
          refine (evn_adv 4 (q' := (103, [some (.ref 0), some (.int l1), some (.int l2), some (.int l3), some (.int r1), some (.int r2), none, none, none, none, none], [.int (jn 2), .int l2, .int l1, .ref 0, .int r5], M5)) rfl).trans ?_
          refine (e_kI (q := (103, [some (.ref 0), some (.int l1), some (.int l2), some (.int l3), some (.int r1), some (.int r2), none, none, none, none, none], [.int (jn 2), .int l2, .int l1, .ref 0, .int r5])) (q2 := (106, [some (.ref 0), some (.int l1), some (.int l2), some (.int l3), some (.int r1), some (.int r2), none, none, none, none, none], [.int r5])) (M := M5) (o := (pcl GG laz d 35 [.ref 0, .int l1, .int l2, .int (jn 2)] M5)) (hf := rfl) rfl rfl).trans ?_
          refine kI_in (fun r6 M6 => ?_)
          refine (e_ic_ne (hf := rfl)).trans ?_
          refine ite_in ?_ ?_
          · refine (evn_adv 3 (q' := (112, [some (.ref 0), some (.int l1), some (.int l2), some (.int l3), some (.int r1), some (.int r2), none, none, none, none, none], [.int (jn 0), .int l3, .ref 0], M6)) rfl).trans ?_
            refine (e_kI (q := (112, [some (.ref 0), some (.int l1), some (.int l2), some (.int l3), some (.int r1), some (.int r2), none, none, none, none, none], [.int (jn 0), .int l3, .ref 0])) (q2 := (115, [some (.ref 0), some (.int l1), some (.int l2), some (.int l3), some (.int r1), some (.int r2), none, none, none, none, none], [])) (M := M6) (o := (pcl GG laz d 17 [.ref 0, .int l3, .int (jn 0)] M6)) (hf := rfl) rfl rfl).trans ?_
            refine kI_in (fun r7 M7 => ?_)
            refine (evn_adv 1 (q' := (117, [some (.ref 0), some (.int l1), some (.int l2), some (.int l3), some (.int r1), some (.int r2), none, none, none, none, none], [.int (jn 40), .int r7], M7)) rfl).trans ?_
            refine (e_ic_le (hf := rfl)).trans ?_
            refine ite_in ?_ ?_
            · rfl
            · refine (evn_adv 2 (q' := (125, [some (.ref 0), some (.int l1), some (.int l2), some (.int l3), some (.int r1), some (.int r2), none, none, none, none, none], [.int (jn 6), .ref 0], M7)) rfl).trans ?_
              refine (e_kI (q := (125, [some (.ref 0), some (.int l1), some (.int l2), some (.int l3), some (.int r1), some (.int r2), none, none, none, none, none], [.int (jn 6), .ref 0])) (q2 := (128, [some (.ref 0), some (.int l1), some (.int l2), some (.int l3), some (.int r1), some (.int r2), none, none, none, none, none], [])) (M := M7) (o := (pcl GG laz d 54 [.ref 0, .int (jn 6)] M7)) (hf := rfl) rfl rfl).trans ?_
              refine kI_in (fun r8 M8 => ?_)
              refine (evn_adv 4 (q' := (134, [some (.ref 0), some (.int l1), some (.int l2), some (.int l3), some (.int r1), some (.int r2), some (.int r8), none, none, none, none], [.int r8, .int l2, .ref 0], M8)) rfl).trans ?_
              refine (e_kI (q := (134, [some (.ref 0), some (.int l1), some (.int l2), some (.int l3), some (.int r1), some (.int r2), some (.int r8), none, none, none, none], [.int r8, .int l2, .ref 0])) (q2 := (137, [some (.ref 0), some (.int l1), some (.int l2), some (.int l3), some (.int r1), some (.int r2), some (.int r8), none, none, none, none], [])) (M := M8) (o := (pcl GG laz d 38 [.ref 0, .int l2, .int r8] M8)) (hf := rfl) rfl rfl).trans ?_
              refine kI_in (fun r9 M9 => ?_)
              refine (evn_adv 3 (q' := (143, [some (.ref 0), some (.int l1), some (.int l2), some (.int l3), some (.int r1), some (.int r2), some (.int r8), some (.int r9), none, none, none], [.int (jz 7), .int r9], M9)) rfl).trans ?_
              refine (e_ic_eq (hf := rfl)).trans ?_
              refine ite_in ?_ ?_
              · rfl
              · refine (evn_adv 4 (q' := (151, [some (.ref 0), some (.int l1), some (.int l2), some (.int l3), some (.int r1), some (.int r2), some (.int r8), some (.int r9), none, none, none], [.int (l3 + (jn 1)), .int r9], M9)) rfl).trans ?_
                refine (e_ic_ne (hf := rfl)).trans ?_
                refine ite_in ?_ ?_
                · refine (evn_adv 5 (q' := (159, [some (.ref 0), some (.int l1), some (.int l2), some (.int l3), some (.int r1), some (.int r2), some (.int r8), some (.int r9), none, none, none], [.int (l3 + (jn 1)), .int l3, .ref 0], M9)) rfl).trans ?_
                  refine (e_kI (q := (159, [some (.ref 0), some (.int l1), some (.int l2), some (.int l3), some (.int r1), some (.int r2), some (.int r8), some (.int r9), none, none, none], [.int (l3 + (jn 1)), .int l3, .ref 0])) (q2 := (162, [some (.ref 0), some (.int l1), some (.int l2), some (.int l3), some (.int r1), some (.int r2), some (.int r8), some (.int r9), none, none, none], [])) (M := M9) (o := (pcl GG laz d 19 [.ref 0, .int l3, .int (l3 + (jn 1))] M9)) (hf := rfl) rfl rfl).trans ?_
                  refine kI_in (fun r10 M10 => ?_)
                  refine (e_if_ne (hf := rfl)).trans ?_
                  refine ite_in ?_ ?_
                  · refine (evn_adv 1 (q' := (166, [some (.ref 0), some (.int l1), some (.int l2), some (.int l3), some (.int r1), some (.int r2), some (.int r8), some (.int r9), none, none, none], [.ref 0], M10)) rfl).trans ?_
                    refine (e_kI (q := (166, [some (.ref 0), some (.int l1), some (.int l2), some (.int l3), some (.int r1), some (.int r2), some (.int r8), some (.int r9), none, none, none], [.ref 0])) (q2 := (169, [some (.ref 0), some (.int l1), some (.int l2), some (.int l3), some (.int r1), some (.int r2), some (.int r8), some (.int r9), none, none, none], [])) (M := M10) (o := (pcl GG laz d 14 [.ref 0] M10)) (hf := rfl) rfl rfl).trans ?_
                    refine kI_in (fun r11 M11 => ?_)
                    refine (evn_adv 3 (q' := (172, [some (.ref 0), some (.int l1), some (.int l2), some (.int l3), some (.int r1), some (.int r2), some (.int r8), some (.int r9), none, none, none], [.int (l3 + (jn 1)), .int r11], M11)) rfl).trans ?_
                    refine (e_ic_eq (hf := rfl)).trans ?_
                    refine ite_in ?_ ?_
                    · rfl
                    · rfl
                  · rfl
                · rfl
          · rfl
        · rfl
    · refine (evn_adv 1 (q' := (45, [some (.ref 0), some (.int l1), some (.int l2), some (.int l3), some (.int r1), some (.int r2), none, none, none, none, none], [.int (jn 0)], M2)) rfl).trans ?_
      exact e_iretz (hf := rfl)
  · refine (evn_adv 2 (q' := (31, [some (.ref 0), some (.int l1), some (.int l2), some (.int l3), some (.int r1), some (.int r2), none, none, none, none, none], [.int (jn 1), .int r1, .int r2], M2)) rfl).trans ?_
    refine (e_ic_ne (hf := rfl)).trans ?_
    refine ite_in ?_ ?_
    · refine (evn_adv 2 (q' := (41, [some (.ref 0), some (.int l1), some (.int l2), some (.int l3), some (.int r1), some (.int r2), none, none, none, none, none], [.int (jz 6), .int r2], M2)) rfl).trans ?_
      refine (e_ic_eq (hf := rfl)).trans ?_
      refine ite_in ?_ ?_
      · refine (evn_adv 1 (q' := (48, [some (.ref 0), some (.int l1), some (.int l2), some (.int l3), some (.int r1), some (.int r2), none, none, none, none, none], [.int r1], M2)) rfl).trans ?_
        refine (e_if_le (hf := rfl)).trans ?_
        refine ite_in ?_ ?_
        · refine (evn_adv 4 (q' := (55, [some (.ref 0), some (.int l1), some (.int l2), some (.int l3), some (.int r1), some (.int r2), none, none, none, none, none], [.int (jn 1), .int l2, .int l1, .ref 0], M2)) rfl).trans ?_
          refine (e_kI (q := (55, [some (.ref 0), some (.int l1), some (.int l2), some (.int l3), some (.int r1), some (.int r2), none, none, none, none, none], [.int (jn 1), .int l2, .int l1, .ref 0])) (q2 := (58, [some (.ref 0), some (.int l1), some (.int l2), some (.int l3), some (.int r1), some (.int r2), none, none, none, none, none], [])) (M := M2) (o := (pcl GG laz d 35 [.ref 0, .int l1, .int l2, .int (jn 1)] M2)) (hf := rfl) rfl rfl).trans ?_
          refine kI_in (fun r3 M3 => ?_)
          refine (e_if_ne (hf := rfl)).trans ?_
          refine ite_in ?_ ?_
          · refine (evn_adv 4 (q' := (65, [some (.ref 0), some (.int l1), some (.int l2), some (.int l3), some (.int r1), some (.int r2), none, none, none, none, none], [.int (jn 2), .int l2, .int l1, .ref 0], M3)) rfl).trans ?_
            refine (e_kI (q := (65, [some (.ref 0), some (.int l1), some (.int l2), some (.int l3), some (.int r1), some (.int r2), none, none, none, none, none], [.int (jn 2), .int l2, .int l1, .ref 0])) (q2 := (68, [some (.ref 0), some (.int l1), some (.int l2), some (.int l3), some (.int r1), some (.int r2), none, none, none, none, none], [])) (M := M3) (o := (pcl GG laz d 35 [.ref 0, .int l1, .int l2, .int (jn 2)] M3)) (hf := rfl) rfl rfl).trans ?_
            refine kI_in (fun r4 M4 => ?_)
            refine (e_if_ne (hf := rfl)).trans ?_
            refine ite_in ?_ ?_
            · refine (evn_adv 2 (q' := (76, [some (.ref 0), some (.int l1), some (.int l2), some (.int l3), some (.int r1), some (.int r2), none, none, none, none, none], [.int (jn 1)], M4)) rfl).trans ?_
              exact e_iretz (hf := rfl)
            · rfl
          · rfl
        · refine (evn_adv 3 (q' := (80, [some (.ref 0), some (.int l1), some (.int l2), some (.int l3), some (.int r1), some (.int r2), none, none, none, none, none], [.int (jn 0), .int l3, .ref 0], M2)) rfl).trans ?_
          refine (e_kI (q := (80, [some (.ref 0), some (.int l1), some (.int l2), some (.int l3), some (.int r1), some (.int r2), none, none, none, none, none], [.int (jn 0), .int l3, .ref 0])) (q2 := (83, [some (.ref 0), some (.int l1), some (.int l2), some (.int l3), some (.int r1), some (.int r2), none, none, none, none, none], [])) (M := M2) (o := (pcl GG laz d 17 [.ref 0, .int l3, .int (jn 0)] M2)) (hf := rfl) rfl rfl).trans ?_
          refine kI_in (fun r3 M3 => ?_)
          refine (evn_adv 4 (q' := (87, [some (.ref 0), some (.int l1), some (.int l2), some (.int l3), some (.int r1), some (.int r2), none, none, none, none, none], [.int (jn 1), .int l2, .int l1, .ref 0, .int r3], M3)) rfl).trans ?_
          refine (e_kI (q := (87, [some (.ref 0), some (.int l1), some (.int l2), some (.int l3), some (.int r1), some (.int r2), none, none, none, none, none], [.int (jn 1), .int l2, .int l1, .ref 0, .int r3])) (q2 := (90, [some (.ref 0), some (.int l1), some (.int l2), some (.int l3), some (.int r1), some (.int r2), none, none, none, none, none], [.int r3])) (M := M3) (o := (pcl GG laz d 35 [.ref 0, .int l1, .int l2, .int (jn 1)] M3)) (hf := rfl) rfl rfl).trans ?_
          refine kI_in (fun r4 M4 => ?_)
          refine (e_ic_ne (hf := rfl)).trans ?_
          refine ite_in ?_ ?_
          · refine (evn_adv 2 (q' := (96, [some (.ref 0), some (.int l1), some (.int l2), some (.int l3), some (.int r1), some (.int r2), none, none, none, none, none], [.int (jn 6), .ref 0], M4)) rfl).trans ?_
            refine (e_kI (q := (96, [some (.ref 0), some (.int l1), some (.int l2), some (.int l3), some (.int r1), some (.int r2), none, none, none, none, none], [.int (jn 6), .ref 0])) (q2 := (99, [some (.ref 0), some (.int l1), some (.int l2), some (.int l3), some (.int r1), some (.int r2), none, none, none, none, none], [])) (M := M4) (o := (pcl GG laz d 54 [.ref 0, .int (jn 6)] M4)) (hf := rfl) rfl rfl).trans ?_
            refine kI_in (fun r5 M5 => ?_)
            refine (evn_adv 4 (q' := (103, [some (.ref 0), some (.int l1), some (.int l2), some (.int l3), some (.int r1), some (.int r2), none, none, none, none, none], [.int (jn 2), .int l2, .int l1, .ref 0, .int r5], M5)) rfl).trans ?_
            refine (e_kI (q := (103, [some (.ref 0), some (.int l1), some (.int l2), some (.int l3), some (.int r1), some (.int r2), none, none, none, none, none], [.int (jn 2), .int l2, .int l1, .ref 0, .int r5])) (q2 := (106, [some (.ref 0), some (.int l1), some (.int l2), some (.int l3), some (.int r1), some (.int r2), none, none, none, none, none], [.int r5])) (M := M5) (o := (pcl GG laz d 35 [.ref 0, .int l1, .int l2, .int (jn 2)] M5)) (hf := rfl) rfl rfl).trans ?_
            refine kI_in (fun r6 M6 => ?_)
            refine (e_ic_ne (hf := rfl)).trans ?_
            refine ite_in ?_ ?_
            · refine (evn_adv 3 (q' := (112, [some (.ref 0), some (.int l1), some (.int l2), some (.int l3), some (.int r1), some (.int r2), none, none, none, none, none], [.int (jn 0), .int l3, .ref 0], M6)) rfl).trans ?_
              refine (e_kI (q := (112, [some (.ref 0), some (.int l1), some (.int l2), some (.int l3), some (.int r1), some (.int r2), none, none, none, none, none], [.int (jn 0), .int l3, .ref 0])) (q2 := (115, [some (.ref 0), some (.int l1), some (.int l2), some (.int l3), some (.int r1), some (.int r2), none, none, none, none, none], [])) (M := M6) (o := (pcl GG laz d 17 [.ref 0, .int l3, .int (jn 0)] M6)) (hf := rfl) rfl rfl).trans ?_
              refine kI_in (fun r7 M7 => ?_)
              refine (evn_adv 1 (q' := (117, [some (.ref 0), some (.int l1), some (.int l2), some (.int l3), some (.int r1), some (.int r2), none, none, none, none, none], [.int (jn 40), .int r7], M7)) rfl).trans ?_
              refine (e_ic_le (hf := rfl)).trans ?_
              refine ite_in ?_ ?_
              · rfl
              · refine (evn_adv 2 (q' := (125, [some (.ref 0), some (.int l1), some (.int l2), some (.int l3), some (.int r1), some (.int r2), none, none, none, none, none], [.int (jn 6), .ref 0], M7)) rfl).trans ?_
                refine (e_kI (q := (125, [some (.ref 0), some (.int l1), some (.int l2), some (.int l3), some (.int r1), some (.int r2), none, none, none, none, none], [.int (jn 6), .ref 0])) (q2 := (128, [some (.ref 0), some (.int l1), some (.int l2), some (.int l3), some (.int r1), some (.int r2), none, none, none, none, none], [])) (M := M7) (o := (pcl GG laz d 54 [.ref 0, .int (jn 6)] M7)) (hf := rfl) rfl rfl).trans ?_
                refine kI_in (fun r8 M8 => ?_)
                refine (evn_adv 4 (q' := (134, [some (.ref 0), some (.int l1), some (.int l2), some (.int l3), some (.int r1), some (.int r2), some (.int r8), none, none, none, none], [.int r8, .int l2, .ref 0], M8)) rfl).trans ?_
                refine (e_kI (q := (134, [some (.ref 0), some (.int l1), some (.int l2), some (.int l3), some (.int r1), some (.int r2), some (.int r8), none, none, none, none], [.int r8, .int l2, .ref 0])) (q2 := (137, [some (.ref 0), some (.int l1), some (.int l2), some (.int l3), some (.int r1), some (.int r2), some (.int r8), none, none, none, none], [])) (M := M8) (o := (pcl GG laz d 38 [.ref 0, .int l2, .int r8] M8)) (hf := rfl) rfl rfl).trans ?_
                refine kI_in (fun r9 M9 => ?_)
                refine (evn_adv 3 (q' := (143, [some (.ref 0), some (.int l1), some (.int l2), some (.int l3), some (.int r1), some (.int r2), some (.int r8), some (.int r9), none, none, none], [.int (jz 7), .int r9], M9)) rfl).trans ?_
                refine (e_ic_eq (hf := rfl)).trans ?_
                refine ite_in ?_ ?_
                · rfl
                · refine (evn_adv 4 (q' := (151, [some (.ref 0), some (.int l1), some (.int l2), some (.int l3), some (.int r1), some (.int r2), some (.int r8), some (.int r9), none, none, none], [.int (l3 + (jn 1)), .int r9], M9)) rfl).trans ?_
                  refine (e_ic_ne (hf := rfl)).trans ?_
                  refine ite_in ?_ ?_
                  · refine (evn_adv 5 (q' := (159, [some (.ref 0), some (.int l1), some (.int l2), some (.int l3), some (.int r1), some (.int r2), some (.int r8), some (.int r9), none, none, none], [.int (l3 + (jn 1)), .int l3, .ref 0], M9)) rfl).trans ?_
                    refine (e_kI (q := (159, [some (.ref 0), some (.int l1), some (.int l2), some (.int l3), some (.int r1), some (.int r2), some (.int r8), some (.int r9), none, none, none], [.int (l3 + (jn 1)), .int l3, .ref 0])) (q2 := (162, [some (.ref 0), some (.int l1), some (.int l2), some (.int l3), some (.int r1), some (.int r2), some (.int r8), some (.int r9), none, none, none], [])) (M := M9) (o := (pcl GG laz d 19 [.ref 0, .int l3, .int (l3 + (jn 1))] M9)) (hf := rfl) rfl rfl).trans ?_
                    refine kI_in (fun r10 M10 => ?_)
                    refine (e_if_ne (hf := rfl)).trans ?_
                    refine ite_in ?_ ?_
                    · refine (evn_adv 1 (q' := (166, [some (.ref 0), some (.int l1), some (.int l2), some (.int l3), some (.int r1), some (.int r2), some (.int r8), some (.int r9), none, none, none], [.ref 0], M10)) rfl).trans ?_
                      refine (e_kI (q := (166, [some (.ref 0), some (.int l1), some (.int l2), some (.int l3), some (.int r1), some (.int r2), some (.int r8), some (.int r9), none, none, none], [.ref 0])) (q2 := (169, [some (.ref 0), some (.int l1), some (.int l2), some (.int l3), some (.int r1), some (.int r2), some (.int r8), some (.int r9), none, none, none], [])) (M := M10) (o := (pcl GG laz d 14 [.ref 0] M10)) (hf := rfl) rfl rfl).trans ?_
                      refine kI_in (fun r11 M11 => ?_)
                      refine (evn_adv 3 (q' := (172, [some (.ref 0), some (.int l1), some (.int l2), some (.int l3), some (.int r1), some (.int r2), some (.int r8), some (.int r9), none, none, none], [.int (l3 + (jn 1)), .int r11], M11)) rfl).trans ?_
                      refine (e_ic_eq (hf := rfl)).trans ?_
                      refine ite_in ?_ ?_
                      · rfl
                      · rfl
                    · rfl
                  · rfl
            · rfl
          · rfl
      · refine (evn_adv 1 (q' := (45, [some (.ref 0), some (.int l1), some (.int l2), some (.int l3), some (.int r1), some (.int r2), none, none, none, none, none], [.int (jn 0)], M2)) rfl).trans ?_
        exact e_iretz (hf := rfl)
    · refine (evn_adv 1 (q' := (41, [some (.ref 0), some (.int l1), some (.int l2), some (.int l3), some (.int r1), some (.int r2), none, none, none, none, none], [.int (jz 7), .int r2], M2)) rfl).trans ?_
      refine (e_ic_eq (hf := rfl)).trans ?_
      refine ite_in ?_ ?_
      · refine (evn_adv 1 (q' := (48, [some (.ref 0), some (.int l1), some (.int l2), some (.int l3), some (.int r1), some (.int r2), none, none, none, none, none], [.int r1], M2)) rfl).trans ?_
        refine (e_if_le (hf := rfl)).trans ?_
        refine ite_in ?_ ?_
        · refine (evn_adv 4 (q' := (55, [some (.ref 0), some (.int l1), some (.int l2), some (.int l3), some (.int r1), some (.int r2), none, none, none, none, none], [.int (jn 1), .int l2, .int l1, .ref 0], M2)) rfl).trans ?_
          refine (e_kI (q := (55, [some (.ref 0), some (.int l1), some (.int l2), some (.int l3), some (.int r1), some (.int r2), none, none, none, none, none], [.int (jn 1), .int l2, .int l1, .ref 0])) (q2 := (58, [some (.ref 0), some (.int l1), some (.int l2), some (.int l3), some (.int r1), some (.int r2), none, none, none, none, none], [])) (M := M2) (o := (pcl GG laz d 35 [.ref 0, .int l1, .int l2, .int (jn 1)] M2)) (hf := rfl) rfl rfl).trans ?_
          refine kI_in (fun r3 M3 => ?_)
          refine (e_if_ne (hf := rfl)).trans ?_
          refine ite_in ?_ ?_
          · refine (evn_adv 4 (q' := (65, [some (.ref 0), some (.int l1), some (.int l2), some (.int l3), some (.int r1), some (.int r2), none, none, none, none, none], [.int (jn 2), .int l2, .int l1, .ref 0], M3)) rfl).trans ?_
            refine (e_kI (q := (65, [some (.ref 0), some (.int l1), some (.int l2), some (.int l3), some (.int r1), some (.int r2), none, none, none, none, none], [.int (jn 2), .int l2, .int l1, .ref 0])) (q2 := (68, [some (.ref 0), some (.int l1), some (.int l2), some (.int l3), some (.int r1), some (.int r2), none, none, none, none, none], [])) (M := M3) (o := (pcl GG laz d 35 [.ref 0, .int l1, .int l2, .int (jn 2)] M3)) (hf := rfl) rfl rfl).trans ?_
            refine kI_in (fun r4 M4 => ?_)
            refine (e_if_ne (hf := rfl)).trans ?_
            refine ite_in ?_ ?_
            · refine (evn_adv 2 (q' := (76, [some (.ref 0), some (.int l1), some (.int l2), some (.int l3), some (.int r1), some (.int r2), none, none, none, none, none], [.int (jn 1)], M4)) rfl).trans ?_
              exact e_iretz (hf := rfl)
            · rfl
          · rfl
        · refine (evn_adv 3 (q' := (80, [some (.ref 0), some (.int l1), some (.int l2), some (.int l3), some (.int r1), some (.int r2), none, none, none, none, none], [.int (jn 0), .int l3, .ref 0], M2)) rfl).trans ?_
          refine (e_kI (q := (80, [some (.ref 0), some (.int l1), some (.int l2), some (.int l3), some (.int r1), some (.int r2), none, none, none, none, none], [.int (jn 0), .int l3, .ref 0])) (q2 := (83, [some (.ref 0), some (.int l1), some (.int l2), some (.int l3), some (.int r1), some (.int r2), none, none, none, none, none], [])) (M := M2) (o := (pcl GG laz d 17 [.ref 0, .int l3, .int (jn 0)] M2)) (hf := rfl) rfl rfl).trans ?_
          refine kI_in (fun r3 M3 => ?_)
          refine (evn_adv 4 (q' := (87, [some (.ref 0), some (.int l1), some (.int l2), some (.int l3), some (.int r1), some (.int r2), none, none, none, none, none], [.int (jn 1), .int l2, .int l1, .ref 0, .int r3], M3)) rfl).trans ?_
          refine (e_kI (q := (87, [some (.ref 0), some (.int l1), some (.int l2), some (.int l3), some (.int r1), some (.int r2), none, none, none, none, none], [.int (jn 1), .int l2, .int l1, .ref 0, .int r3])) (q2 := (90, [some (.ref 0), some (.int l1), some (.int l2), some (.int l3), some (.int r1), some (.int r2), none, none, none, none, none], [.int r3])) (M := M3) (o := (pcl GG laz d 35 [.ref 0, .int l1, .int l2, .int (jn 1)] M3)) (hf := rfl) rfl rfl).trans ?_
          refine kI_in (fun r4 M4 => ?_)
          refine (e_ic_ne (hf := rfl)).trans ?_
          refine ite_in ?_ ?_
          · refine (evn_adv 2 (q' := (96, [some (.ref 0), some (.int l1), some (.int l2), some (.int l3), some (.int r1), some (.int r2), none, none, none, none, none], [.int (jn 6), .ref 0], M4)) rfl).trans ?_
            refine (e_kI (q := (96, [some (.ref 0), some (.int l1), some (.int l2), some (.int l3), some (.int r1), some (.int r2), none, none, none, none, none], [.int (jn 6), .ref 0])) (q2 := (99, [some (.ref 0), some (.int l1), some (.int l2), some (.int l3), some (.int r1), some (.int r2), none, none, none, none, none], [])) (M := M4) (o := (pcl GG laz d 54 [.ref 0, .int (jn 6)] M4)) (hf := rfl) rfl rfl).trans ?_
            refine kI_in (fun r5 M5 => ?_)
            refine (evn_adv 4 (q' := (103, [some (.ref 0), some (.int l1), some (.int l2), some (.int l3), some (.int r1), some (.int r2), none, none, none, none, none], [.int (jn 2), .int l2, .int l1, .ref 0, .int r5], M5)) rfl).trans ?_
            refine (e_kI (q := (103, [some (.ref 0), some (.int l1), some (.int l2), some (.int l3), some (.int r1), some (.int r2), none, none, none, none, none], [.int (jn 2), .int l2, .int l1, .ref 0, .int r5])) (q2 := (106, [some (.ref 0), some (.int l1), some (.int l2), some (.int l3), some (.int r1), some (.int r2), none, none, none, none, none], [.int r5])) (M := M5) (o := (pcl GG laz d 35 [.ref 0, .int l1, .int l2, .int (jn 2)] M5)) (hf := rfl) rfl rfl).trans ?_
            refine kI_in (fun r6 M6 => ?_)
            refine (e_ic_ne (hf := rfl)).trans ?_
            refine ite_in ?_ ?_
            · refine (evn_adv 3 (q' := (112, [some (.ref 0), some (.int l1), some (.int l2), some (.int l3), some (.int r1), some (.int r2), none, none, none, none, none], [.int (jn 0), .int l3, .ref 0], M6)) rfl).trans ?_
              refine (e_kI (q := (112, [some (.ref 0), some (.int l1), some (.int l2), some (.int l3), some (.int r1), some (.int r2), none, none, none, none, none], [.int (jn 0), .int l3, .ref 0])) (q2 := (115, [some (.ref 0), some (.int l1), some (.int l2), some (.int l3), some (.int r1), some (.int r2), none, none, none, none, none], [])) (M := M6) (o := (pcl GG laz d 17 [.ref 0, .int l3, .int (jn 0)] M6)) (hf := rfl) rfl rfl).trans ?_
              refine kI_in (fun r7 M7 => ?_)
              refine (evn_adv 1 (q' := (117, [some (.ref 0), some (.int l1), some (.int l2), some (.int l3), some (.int r1), some (.int r2), none, none, none, none, none], [.int (jn 40), .int r7], M7)) rfl).trans ?_
              refine (e_ic_le (hf := rfl)).trans ?_
              refine ite_in ?_ ?_
              · rfl
              · refine (evn_adv 2 (q' := (125, [some (.ref 0), some (.int l1), some (.int l2), some (.int l3), some (.int r1), some (.int r2), none, none, none, none, none], [.int (jn 6), .ref 0], M7)) rfl).trans ?_
                refine (e_kI (q := (125, [some (.ref 0), some (.int l1), some (.int l2), some (.int l3), some (.int r1), some (.int r2), none, none, none, none, none], [.int (jn 6), .ref 0])) (q2 := (128, [some (.ref 0), some (.int l1), some (.int l2), some (.int l3), some (.int r1), some (.int r2), none, none, none, none, none], [])) (M := M7) (o := (pcl GG laz d 54 [.ref 0, .int (jn 6)] M7)) (hf := rfl) rfl rfl).trans ?_
                refine kI_in (fun r8 M8 => ?_)
                refine (evn_adv 4 (q' := (134, [some (.ref 0), some (.int l1), some (.int l2), some (.int l3), some (.int r1), some (.int r2), some (.int r8), none, none, none, none], [.int r8, .int l2, .ref 0], M8)) rfl).trans ?_
                refine (e_kI (q := (134, [some (.ref 0), some (.int l1), some (.int l2), some (.int l3), some (.int r1), some (.int r2), some (.int r8), none, none, none, none], [.int r8, .int l2, .ref 0])) (q2 := (137, [some (.ref 0), some (.int l1), some (.int l2), some (.int l3), some (.int r1), some (.int r2), some (.int r8), none, none, none, none], [])) (M := M8) (o := (pcl GG laz d 38 [.ref 0, .int l2, .int r8] M8)) (hf := rfl) rfl rfl).trans ?_
                refine kI_in (fun r9 M9 => ?_)
                refine (evn_adv 3 (q' := (143, [some (.ref 0), some (.int l1), some (.int l2), some (.int l3), some (.int r1), some (.int r2), some (.int r8), some (.int r9), none, none, none], [.int (jz 7), .int r9], M9)) rfl).trans ?_
                refine (e_ic_eq (hf := rfl)).trans ?_
                refine ite_in ?_ ?_
                · rfl
                · refine (evn_adv 4 (q' := (151, [some (.ref 0), some (.int l1), some (.int l2), some (.int l3), some (.int r1), some (.int r2), some (.int r8), some (.int r9), none, none, none], [.int (l3 + (jn 1)), .int r9], M9)) rfl).trans ?_
                  refine (e_ic_ne (hf := rfl)).trans ?_
                  refine ite_in ?_ ?_
                  · refine (evn_adv 5 (q' := (159, [some (.ref 0), some (.int l1), some (.int l2), some (.int l3), some (.int r1), some (.int r2), some (.int r8), some (.int r9), none, none, none], [.int (l3 + (jn 1)), .int l3, .ref 0], M9)) rfl).trans ?_
                    refine (e_kI (q := (159, [some (.ref 0), some (.int l1), some (.int l2), some (.int l3), some (.int r1), some (.int r2), some (.int r8), some (.int r9), none, none, none], [.int (l3 + (jn 1)), .int l3, .ref 0])) (q2 := (162, [some (.ref 0), some (.int l1), some (.int l2), some (.int l3), some (.int r1), some (.int r2), some (.int r8), some (.int r9), none, none, none], [])) (M := M9) (o := (pcl GG laz d 19 [.ref 0, .int l3, .int (l3 + (jn 1))] M9)) (hf := rfl) rfl rfl).trans ?_
                    refine kI_in (fun r10 M10 => ?_)
                    refine (e_if_ne (hf := rfl)).trans ?_
                    refine ite_in ?_ ?_
                    · refine (evn_adv 1 (q' := (166, [some (.ref 0), some (.int l1), some (.int l2), some (.int l3), some (.int r1), some (.int r2), some (.int r8), some (.int r9), none, none, none], [.ref 0], M10)) rfl).trans ?_
                      refine (e_kI (q := (166, [some (.ref 0), some (.int l1), some (.int l2), some (.int l3), some (.int r1), some (.int r2), some (.int r8), some (.int r9), none, none, none], [.ref 0])) (q2 := (169, [some (.ref 0), some (.int l1), some (.int l2), some (.int l3), some (.int r1), some (.int r2), some (.int r8), some (.int r9), none, none, none], [])) (M := M10) (o := (pcl GG laz d 14 [.ref 0] M10)) (hf := rfl) rfl rfl).trans ?_
                      refine kI_in (fun r11 M11 => ?_)
                      refine (evn_adv 3 (q' := (172, [some (.ref 0), some (.int l1), some (.int l2), some (.int l3), some (.int r1), some (.int r2), some (.int r8), some (.int r9), none, none, none], [.int (l3 + (jn 1)), .int r11], M11)) rfl).trans ?_
                      refine (e_ic_eq (hf := rfl)).trans ?_
                      refine ite_in ?_ ?_
                      · rfl
                      · rfl
                    · rfl
                  · rfl
            · rfl
          · rfl
      · refine (evn_adv 1 (q' := (45, [some (.ref 0), some (.int l1), some (.int l2), some (.int l3), some (.int r1), some (.int r2), none, none, none, none, none], [.int (jn 0)], M2)) rfl).trans ?_
        exact e_iretz (hf := rfl)
theorem h_74_75 (d : Nat) (u0 : Option Value) (u1 : Option Value) (u2 : Option Value) (u3 : Option Value) (u4 : Option Value) (u5 : Option Value) (u6 : Option Value) (u7 : Option Value) (u8 : Option Value) (u9 : Option Value) (u10 : Option Value) (M : PM) : E_74 d (75, [u0, u1, u2, u3, u4, u5, u6, u7, u8, u9, u10], [], M) = (rZ (jn 0) M) := by
  refine (evn_adv 1 (q' := (76, [u0, u1, u2, u3, u4, u5, u6, u7, u8, u9, u10], [.int (jn 0)], M)) rfl).trans ?_
  exact e_iretz (hf := rfl)
theorem h_74_120 (d : Nat) (u0 : Option Value) (u1 : Option Value) (u2 : Option Value) (u3 : Option Value) (u4 : Option Value) (u5 : Option Value) (u6 : Option Value) (u7 : Option Value) (u8 : Option Value) (u9 : Option Value) (u10 : Option Value) (M : PM) : E_74 d (120, [u0, u1, u2, u3, u4, u5, u6, u7, u8, u9, u10], [], M) = (rZ (jn 0) M) := by
  refine (evn_adv 1 (q' := (121, [u0, u1, u2, u3, u4, u5, u6, u7, u8, u9, u10], [.int (jn 0)], M)) rfl).trans ?_
  exact e_iretz (hf := rfl)
theorem h_74_177 (d : Nat) (u1 : Option Value) (l2 : Int32) (l3 : Int32) (u4 : Option Value) (u5 : Option Value) (l6 : Int32) (l7 : Int32) (u8 : Option Value) (u9 : Option Value) (u10 : Option Value) (M : PM) : E_74 d (177, [some (.ref 0), u1, some (.int l2), some (.int l3), u4, u5, some (.int l6), some (.int l7), u8, u9, u10], [], M) = (if l6 = jn 0 then (kI (pcl GG laz d 19 [.ref 0, .int l2, .int l3] M) fun r1 M1 => (if r1 = jn 0 then E_74 d (193, [some (.ref 0), u1, some (.int l2), some (.int l3), u4, u5, some (.int l6), some (.int l7), u8, u9, u10], [], M1) else (rZ (jn 0) M1))) else E_74 d (193, [some (.ref 0), u1, some (.int l2), some (.int l3), u4, u5, some (.int l6), some (.int l7), u8, u9, u10], [], M)) := by
  refine (evn_adv 1 (q' := (179, [some (.ref 0), u1, some (.int l2), some (.int l3), u4, u5, some (.int l6), some (.int l7), u8, u9, u10], [.int l6], M)) rfl).trans ?_
  refine (e_if_ne (hf := rfl)).trans ?_
  refine ite_in ?_ ?_
  · refine (evn_adv 3 (q' := (185, [some (.ref 0), u1, some (.int l2), some (.int l3), u4, u5, some (.int l6), some (.int l7), u8, u9, u10], [.int l3, .int l2, .ref 0], M)) rfl).trans ?_
    refine (e_kI (q := (185, [some (.ref 0), u1, some (.int l2), some (.int l3), u4, u5, some (.int l6), some (.int l7), u8, u9, u10], [.int l3, .int l2, .ref 0])) (q2 := (188, [some (.ref 0), u1, some (.int l2), some (.int l3), u4, u5, some (.int l6), some (.int l7), u8, u9, u10], [])) (M := M) (o := (pcl GG laz d 19 [.ref 0, .int l2, .int l3] M)) (hf := rfl) rfl rfl).trans ?_
    refine kI_in (fun r1 M1 => ?_)
    refine (e_if_eq (hf := rfl)).trans ?_
    refine ite_in ?_ ?_
    · rfl
    · refine (evn_adv 1 (q' := (192, [some (.ref 0), u1, some (.int l2), some (.int l3), u4, u5, some (.int l6), some (.int l7), u8, u9, u10], [.int (jn 0)], M1)) rfl).trans ?_
      exact e_iretz (hf := rfl)
  · rfl
theorem h_74_175 (d : Nat) (u0 : Option Value) (u1 : Option Value) (u2 : Option Value) (u3 : Option Value) (u4 : Option Value) (u5 : Option Value) (u6 : Option Value) (u7 : Option Value) (u8 : Option Value) (u9 : Option Value) (u10 : Option Value) (M : PM) : E_74 d (175, [u0, u1, u2, u3, u4, u5, u6, u7, u8, u9, u10], [], M) = (rZ (jn 0) M) := by
  refine (evn_adv 1 (q' := (176, [u0, u1, u2, u3, u4, u5, u6, u7, u8, u9, u10], [.int (jn 0)], M)) rfl).trans ?_
  exact e_iretz (hf := rfl)
theorem h_74_193 (d : Nat) (u1 : Option Value) (l2 : Int32) (l3 : Int32) (u4 : Option Value) (u5 : Option Value) (l6 : Int32) (l7 : Int32) (u8 : Option Value) (u9 : Option Value) (u10 : Option Value) (M : PM) : E_74 d (193, [some (.ref 0), u1, some (.int l2), some (.int l3), u4, u5, some (.int l6), some (.int l7), u8, u9, u10], [], M) = E_74 d (196, [some (.ref 0), u1, some (.int l2), some (.int l3), u4, u5, some (.int l6), some (.int l7), some (.int (jn 0)), u9, u10], [], M) := by
  refine (evn_adv 2 (q' := (196, [some (.ref 0), u1, some (.int l2), some (.int l3), u4, u5, some (.int l6), some (.int l7), some (.int (jn 0)), u9, u10], [], M)) rfl).trans ?_
  rfl
theorem h_74_196 (d : Nat) (u1 : Option Value) (l2 : Int32) (l3 : Int32) (u4 : Option Value) (u5 : Option Value) (l6 : Int32) (l7 : Int32) (l8 : Int32) (u9 : Option Value) (u10 : Option Value) (M : PM) : E_74 d (196, [some (.ref 0), u1, some (.int l2), some (.int l3), u4, u5, some (.int l6), some (.int l7), some (.int l8), u9, u10], [], M) = (if l8 < l6 then (if l8 < (jn 3) then (if l7 = (jz 7) then E_74 d (368, [some (.ref 0), u1, some (.int l2), some (.int l3), u4, u5, some (.int l6), some (.int l7), some (.int l8), u9, u10], [], M) else (kI (pcl GG laz d 38 [.ref 0, .int l2, .int l8] M) fun r1 M1 => (if r1 = (l3 + (jn 1)) then (kI (pcl GG laz d 38 [.ref 0, .int l2, .int (l8 + (jn 1))] M1) fun r2 M2 => (if r2 = (l3 + (jn 2)) then E_74 d (252, [some (.ref 0), u1, some (.int l2), some (.int l3), u4, u5, some (.int l6), some (.int l7), some (.int l8), some (.int (jz 1)), some (.int (jn 0))], [], M2) else E_74 d (244, [some (.ref 0), u1, some (.int l2), some (.int l3), u4, u5, some (.int l6), some (.int l7), some (.int l8), u9, u10], [], M2))) else E_74 d (244, [some (.ref 0), u1, some (.int l2), some (.int l3), u4, u5, some (.int l6), some (.int l7), some (.int l8), u9, u10], [], M1)))) else E_74 d (368, [some (.ref 0), u1, some (.int l2), some (.int l3), u4, u5, some (.int l6), some (.int l7), some (.int l8), u9, u10], [], M)) else E_74 d (368, [some (.ref 0), u1, some (.int l2), some (.int l3), u4, u5, some (.int l6), some (.int l7), some (.int l8), u9, u10], [], M)) := by
  refine (evn_adv 2 (q' := (200, [some (.ref 0), u1, some (.int l2), some (.int l3), u4, u5, some (.int l6), some (.int l7), some (.int l8), u9, u10], [.int l6, .int l8], M)) rfl).trans ?_
  refine (e_ic_ge (hf := rfl)).trans ?_
  refine ite_in ?_ ?_
  · refine (evn_adv 2 (q' := (206, [some (.ref 0), u1, some (.int l2), some (.int l3), u4, u5, some (.int l6), some (.int l7), some (.int l8), u9, u10], [.int (jn 3), .int l8], M)) rfl).trans ?_
    refine (e_ic_ge (hf := rfl)).trans ?_
    refine ite_in ?_ ?_
    · refine (evn_adv 2 (q' := (213, [some (.ref 0), u1, some (.int l2), some (.int l3), u4, u5, some (.int l6), some (.int l7), some (.int l8), u9, u10], [.int (jz 7), .int l7], M)) rfl).trans ?_
      refine (e_ic_eq (hf := rfl)).trans ?_
      refine ite_in ?_ ?_
      · rfl
      · refine (evn_adv 3 (q' := (220, [some (.ref 0), u1, some (.int l2), some (.int l3), u4, u5, some (.int l6), some (.int l7), some (.int l8), u9, u10], [.int l8, .int l2, .ref 0], M)) rfl).trans ?_
        refine (e_kI (q := (220, [some (.ref 0), u1, some (.int l2), some (.int l3), u4, u5, some (.int l6), some (.int l7), some (.int l8), u9, u10], [.int l8, .int l2, .ref 0])) (q2 := (223, [some (.ref 0), u1, some (.int l2), some (.int l3), u4, u5, some (.int l6), some (.int l7), some (.int l8), u9, u10], [])) (M := M) (o := (pcl GG laz d 38 [.ref 0, .int l2, .int l8] M)) (hf := rfl) rfl rfl).trans ?_
        refine kI_in (fun r1 M1 => ?_)
        refine (evn_adv 3 (q' := (226, [some (.ref 0), u1, some (.int l2), some (.int l3), u4, u5, some (.int l6), some (.int l7), some (.int l8), u9, u10], [.int (l3 + (jn 1)), .int r1], M1)) rfl).trans ?_
        refine (e_ic_ne (hf := rfl)).trans ?_
        refine ite_in ?_ ?_
        · refine (evn_adv 5 (q' := (235, [some (.ref 0), u1, some (.int l2), some (.int l3), u4, u5, some (.int l6), some (.int l7), some (.int l8), u9, u10], [.int (l8 + (jn 1)), .int l2, .ref 0], M1)) rfl).trans ?_
          refine (e_kI (q := (235, [some (.ref 0), u1, some (.int l2), some (.int l3), u4, u5, some (.int l6), some (.int l7), some (.int l8), u9, u10], [.int (l8 + (jn 1)), .int l2, .ref 0])) (q2 := (238, [some (.ref 0), u1, some (.int l2), some (.int l3), u4, u5, some (.int l6), some (.int l7), some (.int l8), u9, u10], [])) (M := M1) (o := (pcl GG laz d 38 [.ref 0, .int l2, .int (l8 + (jn 1))] M1)) (hf := rfl) rfl rfl).trans ?_
          refine kI_in (fun r2 M2 => ?_)
          refine (evn_adv 3 (q' := (241, [some (.ref 0), u1, some (.int l2), some (.int l3), u4, u5, some (.int l6), some (.int l7), some (.int l8), u9, u10], [.int (l3 + (jn 2)), .int r2], M2)) rfl).trans ?_
          refine (e_ic_eq (hf := rfl)).trans ?_
          refine ite_in ?_ ?_
          · refine (evn_adv 4 (q' := (252, [some (.ref 0), u1, some (.int l2), some (.int l3), u4, u5, some (.int l6), some (.int l7), some (.int l8), some (.int (jz 1)), some (.int (jn 0))], [], M2)) rfl).trans ?_
            rfl
          · rfl
        · rfl
    · rfl
  · rfl
theorem h_74_368 (d : Nat) (u1 : Option Value) (u2 : Option Value) (l3 : Int32) (u4 : Option Value) (u5 : Option Value) (u6 : Option Value) (u7 : Option Value) (u8 : Option Value) (u9 : Option Value) (u10 : Option Value) (M : PM) : E_74 d (368, [some (.ref 0), u1, u2, some (.int l3), u4, u5, u6, u7, u8, u9, u10], [], M) = (kI (pcl GG laz d 14 [.ref 0] M) fun r1 M1 => (if r1 = l3 then (rZ (jn 1) M1) else (rZ (jn 0) M1))) := by
  refine (evn_adv 1 (q' := (369, [some (.ref 0), u1, u2, some (.int l3), u4, u5, u6, u7, u8, u9, u10], [.ref 0], M)) rfl).trans ?_
  refine (e_kI (q := (369, [some (.ref 0), u1, u2, some (.int l3), u4, u5, u6, u7, u8, u9, u10], [.ref 0])) (q2 := (372, [some (.ref 0), u1, u2, some (.int l3), u4, u5, u6, u7, u8, u9, u10], [])) (M := M) (o := (pcl GG laz d 14 [.ref 0] M)) (hf := rfl) rfl rfl).trans ?_
  refine kI_in (fun r1 M1 => ?_)
  refine (evn_adv 1 (q' := (373, [some (.ref 0), u1, u2, some (.int l3), u4, u5, u6, u7, u8, u9, u10], [.int l3, .int r1], M1)) rfl).trans ?_
  refine (e_ic_ne (hf := rfl)).trans ?_
  refine ite_in ?_ ?_
  · refine (evn_adv 2 (q' := (381, [some (.ref 0), u1, u2, some (.int l3), u4, u5, u6, u7, u8, u9, u10], [.int (jn 1)], M1)) rfl).trans ?_
    exact e_iretz (hf := rfl)
  · refine (evn_adv 1 (q' := (381, [some (.ref 0), u1, u2, some (.int l3), u4, u5, u6, u7, u8, u9, u10], [.int (jn 0)], M1)) rfl).trans ?_
    exact e_iretz (hf := rfl)
theorem h_74_252 (d : Nat) (u1 : Option Value) (l2 : Int32) (l3 : Int32) (u4 : Option Value) (u5 : Option Value) (l6 : Int32) (l7 : Int32) (l8 : Int32) (l9 : Int32) (l10 : Int32) (M : PM) : E_74 d (252, [some (.ref 0), u1, some (.int l2), some (.int l3), u4, u5, some (.int l6), some (.int l7), some (.int l8), some (.int l9), some (.int l10)], [], M) = (kI (pcl GG laz d 17 [.ref 0, .int (l3 + (jn 1)), .int (jn 0)] M) fun r1 M1 => (if l10 < r1 then (kL (pcl GG laz d 18 [.ref 0, .int (l3 + (jn 1)), .int l10] M1) fun r2 M2 => (kL (pcl GG laz d 37 [.ref 0, .int l8] M2) fun r3 M3 => (if (lg_cmp r2 r3) = jn 0 then E_74 d (288, [some (.ref 0), u1, some (.int l2), some (.int l3), u4, u5, some (.int l6), some (.int l7), some (.int l8), some (.int l10), some (.int l10)], [], M3) else E_74 d (288, [some (.ref 0), u1, some (.int l2), some (.int l3), u4, u5, some (.int l6), some (.int l7), some (.int l8), some (.int l9), some (.int l10)], [], M3)))) else (if l9 < jn 0 then E_74 d (333, [some (.ref 0), u1, some (.int l2), some (.int l3), u4, u5, some (.int l6), some (.int l7), some (.int l8), some (.int l9), some (.int l10)], [], M1) else (kI (pcl GG laz d 36 [.ref 0, .int l8] M1) fun r2 M2 => (kI (pcl GG laz d 29 [.ref 0, .int r2, .int (l3 + (jn 1)), .int l9] M2) fun r3 M3 => (if r3 = (l3 + (jn 3)) then (kI (pcl GG laz d 19 [.ref 0, .int (l3 + (jn 2)), .int (l3 + (jn 3))] M3) fun r4 M4 => (if r4 = jn 0 then E_74 d (338, [some (.ref 0), u1, some (.int l2), some (.int l3), u4, u5, some (.int l6), some (.int l7), some (.int l8), some (.int l9), some (.int (jn 3))], [], M4) else E_74 d (333, [some (.ref 0), u1, some (.int l2), some (.int l3), u4, u5, some (.int l6), some (.int l7), some (.int l8), some (.int l9), some (.int l10)], [], M4))) else E_74 d (333, [some (.ref 0), u1, some (.int l2), some (.int l3), u4, u5, some (.int l6), some (.int l7), some (.int l8), some (.int l9), some (.int l10)], [], M3))))))) := by
  refine (evn_adv 6 (q' := (259, [some (.ref 0), u1, some (.int l2), some (.int l3), u4, u5, some (.int l6), some (.int l7), some (.int l8), some (.int l9), some (.int l10)], [.int (jn 0), .int (l3 + (jn 1)), .ref 0, .int l10], M)) rfl).trans ?_
  refine (e_kI (q := (259, [some (.ref 0), u1, some (.int l2), some (.int l3), u4, u5, some (.int l6), some (.int l7), some (.int l8), some (.int l9), some (.int l10)], [.int (jn 0), .int (l3 + (jn 1)), .ref 0, .int l10])) (q2 := (262, [some (.ref 0), u1, some (.int l2), some (.int l3), u4, u5, some (.int l6), some (.int l7), some (.int l8), some (.int l9), some (.int l10)], [.int l10])) (M := M) (o := (pcl GG laz d 17 [.ref 0, .int (l3 + (jn 1)), .int (jn 0)] M)) (hf := rfl) rfl rfl).trans ?_
  refine kI_in (fun r1 M1 => ?_)
  refine (e_ic_ge (hf := rfl)).trans ?_
  refine ite_in ?_ ?_
  · refine (evn_adv 5 (q' := (271, [some (.ref 0), u1, some (.int l2), some (.int l3), u4, u5, some (.int l6), some (.int l7), some (.int l8), some (.int l9), some (.int l10)], [.int l10, .int (l3 + (jn 1)), .ref 0], M1)) rfl).trans ?_
    refine (e_kL (q := (271, [some (.ref 0), u1, some (.int l2), some (.int l3), u4, u5, some (.int l6), some (.int l7), some (.int l8), some (.int l9), some (.int l10)], [.int l10, .int (l3 + (jn 1)), .ref 0])) (q2 := (274, [some (.ref 0), u1, some (.int l2), some (.int l3), u4, u5, some (.int l6), some (.int l7), some (.int l8), some (.int l9), some (.int l10)], [])) (M := M1) (o := (pcl GG laz d 18 [.ref 0, .int (l3 + (jn 1)), .int l10] M1)) (hf := rfl) rfl rfl).trans ?_
    refine kL_in (fun r2 M2 => ?_)
    refine (evn_adv 2 (q' := (277, [some (.ref 0), u1, some (.int l2), some (.int l3), u4, u5, some (.int l6), some (.int l7), some (.int l8), some (.int l9), some (.int l10)], [.int l8, .ref 0, .long r2], M2)) rfl).trans ?_
    refine (e_kL (q := (277, [some (.ref 0), u1, some (.int l2), some (.int l3), u4, u5, some (.int l6), some (.int l7), some (.int l8), some (.int l9), some (.int l10)], [.int l8, .ref 0, .long r2])) (q2 := (280, [some (.ref 0), u1, some (.int l2), some (.int l3), u4, u5, some (.int l6), some (.int l7), some (.int l8), some (.int l9), some (.int l10)], [.long r2])) (M := M2) (o := (pcl GG laz d 37 [.ref 0, .int l8] M2)) (hf := rfl) rfl rfl).trans ?_
    refine kL_in (fun r3 M3 => ?_)
    refine (evn_adv 1 (q' := (281, [some (.ref 0), u1, some (.int l2), some (.int l3), u4, u5, some (.int l6), some (.int l7), some (.int l8), some (.int l9), some (.int l10)], [.int (lg_cmp r2 r3)], M3)) rfl).trans ?_
    refine (e_if_ne (hf := rfl)).trans ?_
    refine ite_in ?_ ?_
    · refine (evn_adv 2 (q' := (288, [some (.ref 0), u1, some (.int l2), some (.int l3), u4, u5, some (.int l6), some (.int l7), some (.int l8), some (.int l10), some (.int l10)], [], M3)) rfl).trans ?_
      rfl
    · rfl
  · refine (evn_adv 1 (q' := (296, [some (.ref 0), u1, some (.int l2), some (.int l3), u4, u5, some (.int l6), some (.int l7), some (.int l8), some (.int l9), some (.int l10)], [.int l9], M1)) rfl).trans ?_
    refine (e_if_lt (hf := rfl)).trans ?_
    refine ite_in ?_ ?_
    · rfl
    · refine (evn_adv 3 (q' := (303, [some (.ref 0), u1, some (.int l2), some (.int l3), u4, u5, some (.int l6), some (.int l7), some (.int l8), some (.int l9), some (.int l10)], [.int l8, .ref 0, .ref 0], M1)) rfl).trans ?_
      refine (e_kI (q := (303, [some (.ref 0), u1, some (.int l2), some (.int l3), u4, u5, some (.int l6), some (.int l7), some (.int l8), some (.int l9), some (.int l10)], [.int l8, .ref 0, .ref 0])) (q2 := (306, [some (.ref 0), u1, some (.int l2), some (.int l3), u4, u5, some (.int l6), some (.int l7), some (.int l8), some (.int l9), some (.int l10)], [.ref 0])) (M := M1) (o := (pcl GG laz d 36 [.ref 0, .int l8] M1)) (hf := rfl) rfl rfl).trans ?_
      refine kI_in (fun r2 M2 => ?_)
      refine (evn_adv 4 (q' := (311, [some (.ref 0), u1, some (.int l2), some (.int l3), u4, u5, some (.int l6), some (.int l7), some (.int l8), some (.int l9), some (.int l10)], [.int l9, .int (l3 + (jn 1)), .int r2, .ref 0], M2)) rfl).trans ?_
      refine (e_kI (q := (311, [some (.ref 0), u1, some (.int l2), some (.int l3), u4, u5, some (.int l6), some (.int l7), some (.int l8), some (.int l9), some (.int l10)], [.int l9, .int (l3 + (jn 1)), .int r2, .ref 0])) (q2 := (314, [some (.ref 0), u1, some (.int l2), some (.int l3), u4, u5, some (.int l6), some (.int l7), some (.int l8), some (.int l9), some (.int l10)], [])) (M := M2) (o := (pcl GG laz d 29 [.ref 0, .int r2, .int (l3 + (jn 1)), .int l9] M2)) (hf := rfl) rfl rfl).trans ?_
      refine kI_in (fun r3 M3 => ?_)
      refine (evn_adv 3 (q' := (317, [some (.ref 0), u1, some (.int l2), some (.int l3), u4, u5, some (.int l6), some (.int l7), some (.int l8), some (.int l9), some (.int l10)], [.int (l3 + (jn 3)), .int r3], M3)) rfl).trans ?_
      refine (e_ic_ne (hf := rfl)).trans ?_
      refine ite_in ?_ ?_
      · refine (evn_adv 7 (q' := (327, [some (.ref 0), u1, some (.int l2), some (.int l3), u4, u5, some (.int l6), some (.int l7), some (.int l8), some (.int l9), some (.int l10)], [.int (l3 + (jn 3)), .int (l3 + (jn 2)), .ref 0], M3)) rfl).trans ?_
        refine (e_kI (q := (327, [some (.ref 0), u1, some (.int l2), some (.int l3), u4, u5, some (.int l6), some (.int l7), some (.int l8), some (.int l9), some (.int l10)], [.int (l3 + (jn 3)), .int (l3 + (jn 2)), .ref 0])) (q2 := (330, [some (.ref 0), u1, some (.int l2), some (.int l3), u4, u5, some (.int l6), some (.int l7), some (.int l8), some (.int l9), some (.int l10)], [])) (M := M3) (o := (pcl GG laz d 19 [.ref 0, .int (l3 + (jn 2)), .int (l3 + (jn 3))] M3)) (hf := rfl) rfl rfl).trans ?_
        refine kI_in (fun r4 M4 => ?_)
        refine (e_if_eq (hf := rfl)).trans ?_
        refine ite_in ?_ ?_
        · refine (evn_adv 2 (q' := (338, [some (.ref 0), u1, some (.int l2), some (.int l3), u4, u5, some (.int l6), some (.int l7), some (.int l8), some (.int l9), some (.int (jn 3))], [], M4)) rfl).trans ?_
          rfl
        · rfl
      · rfl
theorem h_74_244 (d : Nat) (u0 : Option Value) (u1 : Option Value) (u2 : Option Value) (u3 : Option Value) (u4 : Option Value) (u5 : Option Value) (u6 : Option Value) (u7 : Option Value) (u8 : Option Value) (u9 : Option Value) (u10 : Option Value) (M : PM) : E_74 d (244, [u0, u1, u2, u3, u4, u5, u6, u7, u8, u9, u10], [], M) = (rZ (jn 0) M) := by
  refine (evn_adv 1 (q' := (245, [u0, u1, u2, u3, u4, u5, u6, u7, u8, u9, u10], [.int (jn 0)], M)) rfl).trans ?_
  exact e_iretz (hf := rfl)
theorem h_74_288 (d : Nat) (u1 : Option Value) (l2 : Int32) (l3 : Int32) (u4 : Option Value) (u5 : Option Value) (l6 : Int32) (l7 : Int32) (l8 : Int32) (l9 : Int32) (l10 : Int32) (M : PM) : E_74 d (288, [some (.ref 0), u1, some (.int l2), some (.int l3), u4, u5, some (.int l6), some (.int l7), some (.int l8), some (.int l9), some (.int l10)], [], M) = E_74 d (252, [some (.ref 0), u1, some (.int l2), some (.int l3), u4, u5, some (.int l6), some (.int l7), some (.int l8), some (.int l9), some (.int (l10 + (jn 1)))], [], M) := by
  refine (evn_adv 2 (q' := (252, [some (.ref 0), u1, some (.int l2), some (.int l3), u4, u5, some (.int l6), some (.int l7), some (.int l8), some (.int l9), some (.int (l10 + (jn 1)))], [], M)) rfl).trans ?_
  rfl
theorem h_74_333 (d : Nat) (u0 : Option Value) (u1 : Option Value) (u2 : Option Value) (u3 : Option Value) (u4 : Option Value) (u5 : Option Value) (u6 : Option Value) (u7 : Option Value) (u8 : Option Value) (u9 : Option Value) (u10 : Option Value) (M : PM) : E_74 d (333, [u0, u1, u2, u3, u4, u5, u6, u7, u8, u9, u10], [], M) = (rZ (jn 0) M) := by
  refine (evn_adv 1 (q' := (334, [u0, u1, u2, u3, u4, u5, u6, u7, u8, u9, u10], [.int (jn 0)], M)) rfl).trans ?_
  exact e_iretz (hf := rfl)
theorem h_74_338 (d : Nat) (u1 : Option Value) (l2 : Int32) (l3 : Int32) (u4 : Option Value) (u5 : Option Value) (l6 : Int32) (l7 : Int32) (l8 : Int32) (u9 : Option Value) (l10 : Int32) (M : PM) : E_74 d (338, [some (.ref 0), u1, some (.int l2), some (.int l3), u4, u5, some (.int l6), some (.int l7), some (.int l8), u9, some (.int l10)], [], M) = (if jn 0 < l10 then (kI (pcl GG laz d 14 [.ref 0] M) fun r1 M1 => (if r1 = (l3 + l10) then E_74 d (338, [some (.ref 0), u1, some (.int l2), some (.int l3), u4, u5, some (.int l6), some (.int l7), some (.int l8), u9, some (.int (l10 + (jz 1)))], [], M1) else (rZ (jn 0) M1))) else E_74 d (196, [some (.ref 0), u1, some (.int l2), some (.int l3), u4, u5, some (.int l6), some (.int l7), some (.int (l8 + (jn 1))), u9, some (.int l10)], [], M)) := by
  refine (evn_adv 1 (q' := (340, [some (.ref 0), u1, some (.int l2), some (.int l3), u4, u5, some (.int l6), some (.int l7), some (.int l8), u9, some (.int l10)], [.int l10], M)) rfl).trans ?_
  refine (e_if_le (hf := rfl)).trans ?_
  refine ite_in ?_ ?_
  · refine (evn_adv 1 (q' := (344, [some (.ref 0), u1, some (.int l2), some (.int l3), u4, u5, some (.int l6), some (.int l7), some (.int l8), u9, some (.int l10)], [.ref 0], M)) rfl).trans ?_
    refine (e_kI (q := (344, [some (.ref 0), u1, some (.int l2), some (.int l3), u4, u5, some (.int l6), some (.int l7), some (.int l8), u9, some (.int l10)], [.ref 0])) (q2 := (347, [some (.ref 0), u1, some (.int l2), some (.int l3), u4, u5, some (.int l6), some (.int l7), some (.int l8), u9, some (.int l10)], [])) (M := M) (o := (pcl GG laz d 14 [.ref 0] M)) (hf := rfl) rfl rfl).trans ?_
    refine kI_in (fun r1 M1 => ?_)
    refine (evn_adv 3 (q' := (351, [some (.ref 0), u1, some (.int l2), some (.int l3), u4, u5, some (.int l6), some (.int l7), some (.int l8), u9, some (.int l10)], [.int (l3 + l10), .int r1], M1)) rfl).trans ?_
    refine (e_ic_eq (hf := rfl)).trans ?_
    refine ite_in ?_ ?_
    · refine (evn_adv 2 (q' := (338, [some (.ref 0), u1, some (.int l2), some (.int l3), u4, u5, some (.int l6), some (.int l7), some (.int l8), u9, some (.int (l10 + (jz 1)))], [], M1)) rfl).trans ?_
      rfl
    · refine (evn_adv 1 (q' := (355, [some (.ref 0), u1, some (.int l2), some (.int l3), u4, u5, some (.int l6), some (.int l7), some (.int l8), u9, some (.int l10)], [.int (jn 0)], M1)) rfl).trans ?_
      exact e_iretz (hf := rfl)
  · refine (evn_adv 2 (q' := (196, [some (.ref 0), u1, some (.int l2), some (.int l3), u4, u5, some (.int l6), some (.int l7), some (.int (l8 + (jn 1))), u9, some (.int l10)], [], M)) rfl).trans ?_
    rfl
/-- TermStrategiesLaw.laws(LTermStrategies;II)Z -/
noncomputable abbrev E_75 (d : Nat) : PQ → PO := evn (rnn k_75 laz none (pcl GG laz d) 2)
theorem q_75 (d : Nat) (l1 : Int32) (l2 : Int32) (M : PM) : pcl GG laz (d + 1) 75 [.ref 0, .int l1, .int l2] M = (kI (pcl GG laz d 35 [.ref 0, .int l1, .int l2, .int (jn 0)] M) fun r1 M1 => (kI (pcl GG laz d 35 [.ref 0, .int (l1 + (jn 1)), .int l2, .int (jn 0)] M1) fun r2 M2 => (if r2 = jn 0 then (kI (pcl GG laz d 35 [.ref 0, .int (l1 + (jn 1)), .int l2, .int (jn 1)] M2) fun r3 M3 => (kI (pcl GG laz d 17 [.ref 0, .int l2, .int (jn 0)] M3) fun r4 M4 => (if r3 = r4 then (kI (pcl GG laz d 35 [.ref 0, .int (l1 + (jn 2)), .int l2, .int (jn 0)] M4) fun r5 M5 => (if r5 = (jn 1) then (kI (pcl GG laz d 35 [.ref 0, .int (l1 + (jn 3)), .int l2, .int (jn 0)] M5) fun r6 M6 => (kI (pcl GG laz d 35 [.ref 0, .int (l1 + (jn 4)), .int l2, .int (jn 0)] M6) fun r7 M7 => (kI (pcl GG laz d 35 [.ref 0, .int (l1 + (jn 5)), .int l2, .int (jn 0)] M7) fun r8 M8 => (if r1 = (jn 2) then (if r6 = (jn 2) then (if r7 = (jn 2) then (if r8 = (jn 2) then (rZ (jn 1) M8) else E_75 d (113, [some (.ref 0), some (.int l1), some (.int l2), some (.int r1), some (.int r6), some (.int r7), some (.int r8), none], [], M8)) else E_75 d (113, [some (.ref 0), some (.int l1), some (.int l2), some (.int r1), some (.int r6), some (.int r7), some (.int r8), none], [], M8)) else E_75 d (113, [some (.ref 0), some (.int l1), some (.int l2), some (.int r1), some (.int r6), some (.int r7), some (.int r8), none], [], M8)) else (if r6 = (jn 1) then E_75 d (132, [some (.ref 0), some (.int l1), some (.int l2), some (.int r1), some (.int r6), some (.int r7), some (.int r8), none], [], M8) else (if r7 = (jn 1) then E_75 d (132, [some (.ref 0), some (.int l1), some (.int l2), some (.int r1), some (.int r6), some (.int r7), some (.int r8), none], [], M8) else (if r8 = jn 0 then E_75 d (132, [some (.ref 0), some (.int l1), some (.int l2), some (.int r1), some (.int r6), some (.int r7), some (.int r8), none], [], M8) else (if r6 = jn 0 then (kI (pcl GG laz d 35 [.ref 0, .int (l1 + (jn 3)), .int l2, .int (jn 1)] M8) fun r9 M9 => (if r1 = jn 0 then (kI (pcl GG laz d 35 [.ref 0, .int l1, .int l2, .int (jn 1)] M9) fun r10 M10 => (if r9 = r10 then E_75 d (173, [some (.ref 0), some (.int l1), some (.int l2), some (.int r1), some (.int r6), some (.int r7), some (.int r8), none], [], M10) else (rZ (jn 0) M10))) else (kI (pcl GG laz d 17 [.ref 0, .int l2, .int (jn 0)] M9) fun r10 M10 => (if r9 = r10 then E_75 d (173, [some (.ref 0), some (.int l1), some (.int l2), some (.int r1), some (.int r6), some (.int r7), some (.int r8), none], [], M10) else (rZ (jn 0) M10))))) else E_75 d (173, [some (.ref 0), some (.int l1), some (.int l2), some (.int r1), some (.int r6), some (.int r7), some (.int r8), none], [], M8))))))))) else E_75 d (51, [some (.ref 0), some (.int l1), some (.int l2), some (.int r1), none, none, none, none], [], M5))) else E_75 d (51, [some (.ref 0), some (.int l1), some (.int l2), some (.int r1), none, none, none, none], [], M4)))) else E_75 d (51, [some (.ref 0), some (.int l1), some (.int l2), some (.int r1), none, none, none, none], [], M2)))) := by
  refine (pcl_unz (mt := t_75) (by decide) rfl (Nat.le_of_ble_eq_true rfl)).trans ?_
  show E_75 d (0, [some (.ref 0), some (.int l1), some (.int l2), none, none, none, none, none], [], M) = _
  refine (evn_adv 4 (q' := (4, [some (.ref 0), some (.int l1), some (.int l2), none, none, none, none, none], [.int (jn 0), .int l2, .int l1, .ref 0], M)) rfl).trans ?_
  refine (e_kI (q := (4, [some (.ref 0), some (.int l1), some (.int l2), none, none, none, none, none], [.int (jn 0), .int l2, .int l1, .ref 0])) (q2 := (7, [some (.ref 0), some (.int l1), some (.int l2), none, none, none, none, none], [])) (M := M) (o := (pcl GG laz d 35 [.ref 0, .int l1, .int l2, .int (jn 0)] M)) (hf := rfl) rfl rfl).trans ?_
  refine kI_in (fun r1 M1 => ?_)
  refine (evn_adv 7 (q' := (14, [some (.ref 0), some (.int l1), some (.int l2), some (.int r1), none, none, none, none], [.int (jn 0), .int l2, .int (l1 + (jn 1)), .ref 0], M1)) rfl).trans ?_
  refine (e_kI (q := (14, [some (.ref 0), some (.int l1), some (.int l2), some (.int r1), none, none, none, none], [.int (jn 0), .int l2, .int (l1 + (jn 1)), .ref 0])) (q2 := (17, [some (.ref 0), some (.int l1), some (.int l2), some (.int r1), none, none, none, none], [])) (M := M1) (o := (pcl GG laz d 35 [.ref 0, .int (l1 + (jn 1)), .int l2, .int (jn 0)] M1)) (hf := rfl) rfl rfl).trans ?_
  refine kI_in (fun r2 M2 => ?_)
  refine (e_if_ne (hf := rfl)).trans ?_
  refine ite_in ?_ ?_
  · refine (evn_adv 6 (q' := (26, [some (.ref 0), some (.int l1), some (.int l2), some (.int r1), none, none, none, none], [.int (jn 1), .int l2, .int (l1 + (jn 1)), .ref 0], M2)) rfl).trans ?_
    refine (e_kI (q := (26, [some (.ref 0), some (.int l1), some (.int l2), some (.int r1), none, none, none, none], [.int (jn 1), .int l2, .int (l1 + (jn 1)), .ref 0])) (q2 := (29, [some (.ref 0), some (.int l1), some (.int l2), some (.int r1), none, none, none, none], [])) (M := M2) (o := (pcl GG laz d 35 [.ref 0, .int (l1 + (jn 1)), .int l2, .int (jn 1)] M2)) (hf := rfl) rfl rfl).trans ?_
    refine kI_in (fun r3 M3 => ?_)
    refine (evn_adv 3 (q' := (32, [some (.ref 0), some (.int l1), some (.int l2), some (.int r1), none, none, none, none], [.int (jn 0), .int l2, .ref 0, .int r3], M3)) rfl).trans ?_
    refine (e_kI (q := (32, [some (.ref 0), some (.int l1), some (.int l2), some (.int r1), none, none, none, none], [.int (jn 0), .int l2, .ref 0, .int r3])) (q2 := (35, [some (.ref 0), some (.int l1), some (.int l2), some (.int r1), none, none, none, none], [.int r3])) (M := M3) (o := (pcl GG laz d 17 [.ref 0, .int l2, .int (jn 0)] M3)) (hf := rfl) rfl rfl).trans ?_
    refine kI_in (fun r4 M4 => ?_)
    refine (e_ic_ne (hf := rfl)).trans ?_
    refine ite_in ?_ ?_
    · refine (evn_adv 6 (q' := (44, [some (.ref 0), some (.int l1), some (.int l2), some (.int r1), none, none, none, none], [.int (jn 0), .int l2, .int (l1 + (jn 2)), .ref 0], M4)) rfl).trans ?_
      refine (e_kI (q := (44, [some (.ref 0), some (.int l1), some (.int l2), some (.int r1), none, none, none, none], [.int (jn 0), .int l2, .int (l1 + (jn 2)), .ref 0])) (q2 := (47, [some (.ref 0), some (.int l1), some (.int l2), some (.int r1), none, none, none, none], [])) (M := M4) (o := (pcl GG laz d 35 [.ref 0, .int (l1 + (jn 2)), .int l2, .int (jn 0)] M4)) (hf := rfl) rfl rfl).trans ?_
      refine kI_in (fun r5 M5 => ?_)
      refine (evn_adv 1 (q' := (48, [some (.ref 0), some (.int l1), some (.int l2), some (.int r1), none, none, none, none], [.int (jn 1), .int r5], M5)) rfl).trans ?_
      refine (e_ic_eq (hf := rfl)).trans ?_
      refine ite_in ?_ ?_
      · refine (evn_adv 6 (q' := (59, [some (.ref 0), some (.int l1), some (.int l2), some (.int r1), none, none, none, none], [.int (jn 0), .int l2, .int (l1 + (jn 3)), .ref 0], M5)) rfl).trans ?_
        refine (e_kI (q := (59, [some (.ref 0), some (.int l1), some (.int l2), some (.int r1), none, none, none, none], [.int (jn 0), .int l2, .int (l1 + (jn 3)), .ref 0])) (q2 := (62, [some (.ref 0), some (.int l1), some (.int l2), some (.int r1), none, none, none, none], [])) (M := M5) (o := (pcl GG laz d 35 [.ref 0, .int (l1 + (jn 3)), .int l2, .int (jn 0)] M5)) (hf := rfl) rfl rfl).trans ?_
        refine kI_in (fun r6 M6 => ?_)
        refine (evn_adv 7 (q' := (70, [some (.ref 0), some (.int l1), some (.int l2), some (.int r1), some (.int r6), none, none, none], [.int (jn 0), .int l2, .int (l1 + (jn 4)), .ref 0], M6)) rfl).trans ?_
        refine (e_kI (q := (70, [some (.ref 0), some (.int l1), some (.int l2), some (.int r1), some (.int r6), none, none, none], [.int (jn 0), .int l2, .int (l1 + (jn 4)), .ref 0])) (q2 := (73, [some (.ref 0), some (.int l1), some (.int l2), some (.int r1), some (.int r6), none, none, none], [])) (M := M6) (o := (pcl GG laz d 35 [.ref 0, .int (l1 + (jn 4)), .int l2, .int (jn 0)] M6)) (hf := rfl) rfl rfl).trans ?_
        refine kI_in (fun r7 M7 => ?_)
        refine (evn_adv 7 (q' := (81, [some (.ref 0), some (.int l1), some (.int l2), some (.int r1), some (.int r6), some (.int r7), none, none], [.int (jn 0), .int l2, .int (l1 + (jn 5)), .ref 0], M7)) rfl).trans ?_
        refine (e_kI (q := (81, [some (.ref 0), some (.int l1), some (.int l2), some (.int r1), some (.int r6), some (.int r7), none, none], [.int (jn 0), .int l2, .int (l1 + (jn 5)), .ref 0])) (q2 := (84, [some (.ref 0), some (.int l1), some (.int l2), some (.int r1), some (.int r6), some (.int r7), none, none], [])) (M := M7) (o := (pcl GG laz d 35 [.ref 0, .int (l1 + (jn 5)), .int l2, .int (jn 0)] M7)) (hf := rfl) rfl rfl).trans ?_
        refine kI_in (fun r8 M8 => ?_)
        refine (evn_adv 3 (q' := (88, [some (.ref 0), some (.int l1), some (.int l2), some (.int r1), some (.int r6), some (.int r7), some (.int r8), none], [.int (jn 2), .int r1], M8)) rfl).trans ?_
        refine (e_ic_ne (hf := rfl)).trans ?_
        refine ite_in ?_ ?_
        · refine (evn_adv 2 (q' := (94, [some (.ref 0), some (.int l1), some (.int l2), some (.int r1), some (.int r6), some (.int r7), some (.int r8), none], [.int (jn 2), .int r6], M8)) rfl).trans ?_
          refine (e_ic_ne (hf := rfl)).trans ?_
          refine ite_in ?_ ?_
          · refine (evn_adv 2 (q' := (100, [some (.ref 0), some (.int l1), some (.int l2), some (.int r1), some (.int r6), some (.int r7), some (.int r8), none], [.int (jn 2), .int r7], M8)) rfl).trans ?_
            refine (e_ic_ne (hf := rfl)).trans ?_
            refine ite_in ?_ ?_
            · refine (evn_adv 2 (q' := (106, [some (.ref 0), some (.int l1), some (.int l2), some (.int r1), some (.int r6), some (.int r7), some (.int r8), none], [.int (jn 2), .int r8], M8)) rfl).trans ?_
              refine (e_ic_ne (hf := rfl)).trans ?_
              refine ite_in ?_ ?_
              · refine (evn_adv 2 (q' := (114, [some (.ref 0), some (.int l1), some (.int l2), some (.int r1), some (.int r6), some (.int r7), some (.int r8), none], [.int (jn 1)], M8)) rfl).trans ?_
                exact e_iretz (hf := rfl)
              · rfl
            · rfl
          · rfl
        · refine (evn_adv 2 (q' := (118, [some (.ref 0), some (.int l1), some (.int l2), some (.int r1), some (.int r6), some (.int r7), some (.int r8), none], [.int (jn 1), .int r6], M8)) rfl).trans ?_
          refine (e_ic_eq (hf := rfl)).trans ?_
          refine ite_in ?_ ?_
          · rfl
          · refine (evn_adv 2 (q' := (124, [some (.ref 0), some (.int l1), some (.int l2), some (.int r1), some (.int r6), some (.int r7), some (.int r8), none], [.int (jn 1), .int r7], M8)) rfl).trans ?_
            refine (e_ic_eq (hf := rfl)).trans ?_
            refine ite_in ?_ ?_
            · rfl
            · refine (evn_adv 1 (q' := (129, [some (.ref 0), some (.int l1), some (.int l2), some (.int r1), some (.int r6), some (.int r7), some (.int r8), none], [.int r8], M8)) rfl).trans ?_
              refine (e_if_ne (hf := rfl)).trans ?_
              refine ite_in ?_ ?_
              · rfl
              · refine (evn_adv 1 (q' := (136, [some (.ref 0), some (.int l1), some (.int l2), some (.int r1), some (.int r6), some (.int r7), some (.int r8), none], [.int r6], M8)) rfl).trans ?_
                refine (e_if_ne (hf := rfl)).trans ?_
                refine ite_in ?_ ?_
                · refine (evn_adv 6 (q' := (145, [some (.ref 0), some (.int l1), some (.int l2), some (.int r1), some (.int r6), some (.int r7), some (.int r8), none], [.int (jn 1), .int l2, .int (l1 + (jn 3)), .ref 0], M8)) rfl).trans ?_
                  refine (e_kI (q := (145, [some (.ref 0), some (.int l1), some (.int l2), some (.int r1), some (.int r6), some (.int r7), some (.int r8), none], [.int (jn 1), .int l2, .int (l1 + (jn 3)), .ref 0])) (q2 := (148, [some (.ref 0), some (.int l1), some (.int l2), some (.int r1), some (.int r6), some (.int r7), some (.int r8), none], [])) (M := M8) (o := (pcl GG laz d 35 [.ref 0, .int (l1 + (jn 3)), .int l2, .int (jn 1)] M8)) (hf := rfl) rfl rfl).trans ?_
                  refine kI_in (fun r9 M9 => ?_)
                  refine (evn_adv 1 (q' := (149, [some (.ref 0), some (.int l1), some (.int l2), some (.int r1), some (.int r6), some (.int r7), some (.int r8), none], [.int r1, .int r9], M9)) rfl).trans ?_
                  refine (e_if_ne (hf := rfl)).trans ?_
                  refine ite_in ?_ ?_
                  · refine (evn_adv 4 (q' := (156, [some (.ref 0), some (.int l1), some (.int l2), some (.int r1), some (.int r6), some (.int r7), some (.int r8), none], [.int (jn 1), .int l2, .int l1, .ref 0, .int r9], M9)) rfl).trans ?_
                    refine (e_kI (q := (156, [some (.ref 0), some (.int l1), some (.int l2), some (.int r1), some (.int r6), some (.int r7), some (.int r8), none], [.int (jn 1), .int l2, .int l1, .ref 0, .int r9])) (q2 := (159, [some (.ref 0), some (.int l1), some (.int l2), some (.int r1), some (.int r6), some (.int r7), some (.int r8), none], [.int r9])) (M := M9) (o := (pcl GG laz d 35 [.ref 0, .int l1, .int l2, .int (jn 1)] M9)) (hf := rfl) rfl rfl).trans ?_
                    refine kI_in (fun r10 M10 => ?_)
                    refine (evn_adv 1 (q' := (168, [some (.ref 0), some (.int l1), some (.int l2), some (.int r1), some (.int r6), some (.int r7), some (.int r8), none], [.int r10, .int r9], M10)) rfl).trans ?_
                    refine (e_ic_eq (hf := rfl)).trans ?_
                    refine ite_in ?_ ?_
                    · rfl
                    · refine (evn_adv 1 (q' := (172, [some (.ref 0), some (.int l1), some (.int l2), some (.int r1), some (.int r6), some (.int r7), some (.int r8), none], [.int (jn 0)], M10)) rfl).trans ?_
                      exact e_iretz (hf := rfl)
                  · refine (evn_adv 3 (q' := (165, [some (.ref 0), some (.int l1), some (.int l2), some (.int r1), some (.int r6), some (.int r7), some (.int r8), none], [.int (jn 0), .int l2, .ref 0, .int r9], M9)) rfl).trans ?_
                    refine (e_kI (q := (165, [some (.ref 0), some (.int l1), some (.int l2), some (.int r1), some (.int r6), some (.int r7), some (.int r8), none], [.int (jn 0), .int l2, .ref 0, .int r9])) (q2 := (168, [some (.ref 0), some (.int l1), some (.int l2), some (.int r1), some (.int r6), some (.int r7), some (.int r8), none], [.int r9])) (M := M9) (o := (pcl GG laz d 17 [.ref 0, .int l2, .int (jn 0)] M9)) (hf := rfl) rfl rfl).trans ?_
                    refine kI_in (fun r10 M10 => ?_)
                    refine (e_ic_eq (hf := rfl)).trans ?_
                    refine ite_in ?_ ?_
                    · rfl
                    · refine (evn_adv 1 (q' := (172, [some (.ref 0), some (.int l1), some (.int l2), some (.int r1), some (.int r6), some (.int r7), some (.int r8), none], [.int (jn 0)], M10)) rfl).trans ?_
                      exact e_iretz (hf := rfl)
                · rfl
      · rfl
    · rfl
  · rfl
theorem h_75_113 (d : Nat) (u0 : Option Value) (u1 : Option Value) (u2 : Option Value) (u3 : Option Value) (u4 : Option Value) (u5 : Option Value) (u6 : Option Value) (u7 : Option Value) (M : PM) : E_75 d (113, [u0, u1, u2, u3, u4, u5, u6, u7], [], M) = (rZ (jn 0) M) := by
  refine (evn_adv 1 (q' := (114, [u0, u1, u2, u3, u4, u5, u6, u7], [.int (jn 0)], M)) rfl).trans ?_
  exact e_iretz (hf := rfl)
theorem h_75_132 (d : Nat) (u0 : Option Value) (u1 : Option Value) (u2 : Option Value) (u3 : Option Value) (u4 : Option Value) (u5 : Option Value) (u6 : Option Value) (u7 : Option Value) (M : PM) : E_75 d (132, [u0, u1, u2, u3, u4, u5, u6, u7], [], M) = (rZ (jn 0) M) := by
  refine (evn_adv 1 (q' := (133, [u0, u1, u2, u3, u4, u5, u6, u7], [.int (jn 0)], M)) rfl).trans ?_
  exact e_iretz (hf := rfl)
theorem h_75_173 (d : Nat) (l1 : Int32) (l2 : Int32) (l3 : Int32) (l4 : Int32) (l5 : Int32) (u6 : Option Value) (u7 : Option Value) (M : PM) : E_75 d (173, [some (.ref 0), some (.int l1), some (.int l2), some (.int l3), some (.int l4), some (.int l5), u6, u7], [], M) = (if l4 = jn 0 then (if l5 = jn 0 then (kI (pcl GG laz d 35 [.ref 0, .int (l1 + (jn 4)), .int l2, .int (jn 1)] M) fun r1 M1 => (kI (pcl GG laz d 35 [.ref 0, .int (l1 + (jn 3)), .int l2, .int (jn 1)] M1) fun r2 M2 => (if r1 = r2 then (kI (pcl GG laz d 35 [.ref 0, .int (l1 + (jn 4)), .int l2, .int (jn 2)] M2) fun r3 M3 => (kI (pcl GG laz d 35 [.ref 0, .int (l1 + (jn 3)), .int l2, .int (jn 2)] M3) fun r4 M4 => (if r3 = r4 then E_75 d (227, [some (.ref 0), some (.int l1), some (.int l2), some (.int l3), some (.int l4), some (.int l5), u6, u7], [], M4) else E_75 d (225, [some (.ref 0), some (.int l1), some (.int l2), some (.int l3), some (.int l4), some (.int l5), u6, u7], [], M4)))) else E_75 d (225, [some (.ref 0), some (.int l1), some (.int l2), some (.int l3), some (.int l4), some (.int l5), u6, u7], [], M2)))) else E_75 d (227, [some (.ref 0), some (.int l1), some (.int l2), some (.int l3), some (.int l4), some (.int l5), u6, u7], [], M)) else E_75 d (227, [some (.ref 0), some (.int l1), some (.int l2), some (.int l3), some (.int l4), some (.int l5), u6, u7], [], M)) := by
  refine (evn_adv 1 (q' := (175, [some (.ref 0), some (.int l1), some (.int l2), some (.int l3), some (.int l4), some (.int l5), u6, u7], [.int l4], M)) rfl).trans ?_
  refine (e_if_ne (hf := rfl)).trans ?_
  refine ite_in ?_ ?_
  · refine (evn_adv 1 (q' := (180, [some (.ref 0), some (.int l1), some (.int l2), some (.int l3), some (.int l4), some (.int l5), u6, u7], [.int l5], M)) rfl).trans ?_
    refine (e_if_ne (hf := rfl)).trans ?_
    refine ite_in ?_ ?_
    · refine (evn_adv 6 (q' := (189, [some (.ref 0), some (.int l1), some (.int l2), some (.int l3), some (.int l4), some (.int l5), u6, u7], [.int (jn 1), .int l2, .int (l1 + (jn 4)), .ref 0], M)) rfl).trans ?_
      refine (e_kI (q := (189, [some (.ref 0), some (.int l1), some (.int l2), some (.int l3), some (.int l4), some (.int l5), u6, u7], [.int (jn 1), .int l2, .int (l1 + (jn 4)), .ref 0])) (q2 := (192, [some (.ref 0), some (.int l1), some (.int l2), some (.int l3), some (.int l4), some (.int l5), u6, u7], [])) (M := M) (o := (pcl GG laz d 35 [.ref 0, .int (l1 + (jn 4)), .int l2, .int (jn 1)] M)) (hf := rfl) rfl rfl).trans ?_
      refine kI_in (fun r1 M1 => ?_)
      refine (evn_adv 6 (q' := (198, [some (.ref 0), some (.int l1), some (.int l2), some (.int l3), some (.int l4), some (.int l5), u6, u7], [.int (jn 1), .int l2, .int (l1 + (jn 3)), .ref 0, .int r1], M1)) rfl).trans ?_
      refine (e_kI (q := (198, [some (.ref 0), some (.int l1), some (.int l2), some (.int l3), some (.int l4), some (.int l5), u6, u7], [.int (jn 1), .int l2, .int (l1 + (jn 3)), .ref 0, .int r1])) (q2 := (201, [some (.ref 0), some (.int l1), some (.int l2), some (.int l3), some (.int l4), some (.int l5), u6, u7], [.int r1])) (M := M1) (o := (pcl GG laz d 35 [.ref 0, .int (l1 + (jn 3)), .int l2, .int (jn 1)] M1)) (hf := rfl) rfl rfl).trans ?_
      refine kI_in (fun r2 M2 => ?_)
      refine (e_ic_ne (hf := rfl)).trans ?_
      refine ite_in ?_ ?_
      · refine (evn_adv 6 (q' := (210, [some (.ref 0), some (.int l1), some (.int l2), some (.int l3), some (.int l4), some (.int l5), u6, u7], [.int (jn 2), .int l2, .int (l1 + (jn 4)), .ref 0], M2)) rfl).trans ?_
        refine (e_kI (q := (210, [some (.ref 0), some (.int l1), some (.int l2), some (.int l3), some (.int l4), some (.int l5), u6, u7], [.int (jn 2), .int l2, .int (l1 + (jn 4)), .ref 0])) (q2 := (213, [some (.ref 0), some (.int l1), some (.int l2), some (.int l3), some (.int l4), some (.int l5), u6, u7], [])) (M := M2) (o := (pcl GG laz d 35 [.ref 0, .int (l1 + (jn 4)), .int l2, .int (jn 2)] M2)) (hf := rfl) rfl rfl).trans ?_
        refine kI_in (fun r3 M3 => ?_)
        refine (evn_adv 6 (q' := (219, [some (.ref 0), some (.int l1), some (.int l2), some (.int l3), some (.int l4), some (.int l5), u6, u7], [.int (jn 2), .int l2, .int (l1 + (jn 3)), .ref 0, .int r3], M3)) rfl).trans ?_
        refine (e_kI (q := (219, [some (.ref 0), some (.int l1), some (.int l2), some (.int l3), some (.int l4), some (.int l5), u6, u7], [.int (jn 2), .int l2, .int (l1 + (jn 3)), .ref 0, .int r3])) (q2 := (222, [some (.ref 0), some (.int l1), some (.int l2), some (.int l3), some (.int l4), some (.int l5), u6, u7], [.int r3])) (M := M3) (o := (pcl GG laz d 35 [.ref 0, .int (l1 + (jn 3)), .int l2, .int (jn 2)] M3)) (hf := rfl) rfl rfl).trans ?_
        refine kI_in (fun r4 M4 => ?_)
        refine (e_ic_eq (hf := rfl)).trans ?_
        refine ite_in ?_ ?_
        · rfl
        · rfl
      · rfl
    · rfl
  · rfl
theorem h_75_51 (d : Nat) (u0 : Option Value) (u1 : Option Value) (u2 : Option Value) (u3 : Option Value) (u4 : Option Value) (u5 : Option Value) (u6 : Option Value) (u7 : Option Value) (M : PM) : E_75 d (51, [u0, u1, u2, u3, u4, u5, u6, u7], [], M) = (rZ (jn 0) M) := by
  refine (evn_adv 1 (q' := (52, [u0, u1, u2, u3, u4, u5, u6, u7], [.int (jn 0)], M)) rfl).trans ?_
  exact e_iretz (hf := rfl)
theorem h_75_227 (d : Nat) (l1 : Int32) (l2 : Int32) (l3 : Int32) (u4 : Option Value) (u5 : Option Value) (u6 : Option Value) (u7 : Option Value) (M : PM) : E_75 d (227, [some (.ref 0), some (.int l1), some (.int l2), some (.int l3), u4, u5, u6, u7], [], M) = (kI (pcl GG laz d 35 [.ref 0, .int (l1 + (jn 6)), .int l2, .int (jn 0)] M) fun r1 M1 => (if r1 = (jn 1) then E_75 d (290, [some (.ref 0), some (.int l1), some (.int l2), some (.int l3), u4, u5, u6, some (.int r1)], [], M1) else (if r1 = jn 0 then (if l3 = jn 0 then E_75 d (286, [some (.ref 0), some (.int l1), some (.int l2), some (.int l3), u4, u5, u6, some (.int r1)], [], M1) else (kI (pcl GG laz d 35 [.ref 0, .int (l1 + (jn 6)), .int l2, .int (jn 2)] M1) fun r2 M2 => (if r2 = jn 0 then (kI (pcl GG laz d 35 [.ref 0, .int (l1 + (jn 6)), .int l2, .int (jn 1)] M2) fun r3 M3 => (kI (pcl GG laz d 17 [.ref 0, .int l2, .int (jn 0)] M3) fun r4 M4 => (if r3 = r4 then E_75 d (286, [some (.ref 0), some (.int l1), some (.int l2), some (.int l3), u4, u5, u6, some (.int r1)], [], M4) else E_75 d (290, [some (.ref 0), some (.int l1), some (.int l2), some (.int l3), u4, u5, u6, some (.int r1)], [], M4)))) else E_75 d (290, [some (.ref 0), some (.int l1), some (.int l2), some (.int l3), u4, u5, u6, some (.int r1)], [], M2)))) else E_75 d (286, [some (.ref 0), some (.int l1), some (.int l2), some (.int l3), u4, u5, u6, some (.int r1)], [], M1)))) := by
  refine (evn_adv 6 (q' := (234, [some (.ref 0), some (.int l1), some (.int l2), some (.int l3), u4, u5, u6, u7], [.int (jn 0), .int l2, .int (l1 + (jn 6)), .ref 0], M)) rfl).trans ?_
  refine (e_kI (q := (234, [some (.ref 0), some (.int l1), some (.int l2), some (.int l3), u4, u5, u6, u7], [.int (jn 0), .int l2, .int (l1 + (jn 6)), .ref 0])) (q2 := (237, [some (.ref 0), some (.int l1), some (.int l2), some (.int l3), u4, u5, u6, u7], [])) (M := M) (o := (pcl GG laz d 35 [.ref 0, .int (l1 + (jn 6)), .int l2, .int (jn 0)] M)) (hf := rfl) rfl rfl).trans ?_
  refine kI_in (fun r1 M1 => ?_)
  refine (evn_adv 3 (q' := (242, [some (.ref 0), some (.int l1), some (.int l2), some (.int l3), u4, u5, u6, some (.int r1)], [.int (jn 1), .int r1], M1)) rfl).trans ?_
  refine (e_ic_eq (hf := rfl)).trans ?_
  refine ite_in ?_ ?_
  · rfl
  · refine (evn_adv 1 (q' := (247, [some (.ref 0), some (.int l1), some (.int l2), some (.int l3), u4, u5, u6, some (.int r1)], [.int r1], M1)) rfl).trans ?_
    refine (e_if_ne (hf := rfl)).trans ?_
    refine ite_in ?_ ?_
    · refine (evn_adv 1 (q' := (251, [some (.ref 0), some (.int l1), some (.int l2), some (.int l3), u4, u5, u6, some (.int r1)], [.int l3], M1)) rfl).trans ?_
      refine (e_if_eq (hf := rfl)).trans ?_
      refine ite_in ?_ ?_
      · rfl
      · refine (evn_adv 6 (q' := (261, [some (.ref 0), some (.int l1), some (.int l2), some (.int l3), u4, u5, u6, some (.int r1)], [.int (jn 2), .int l2, .int (l1 + (jn 6)), .ref 0], M1)) rfl).trans ?_
        refine (e_kI (q := (261, [some (.ref 0), some (.int l1), some (.int l2), some (.int l3), u4, u5, u6, some (.int r1)], [.int (jn 2), .int l2, .int (l1 + (jn 6)), .ref 0])) (q2 := (264, [some (.ref 0), some (.int l1), some (.int l2), some (.int l3), u4, u5, u6, some (.int r1)], [])) (M := M1) (o := (pcl GG laz d 35 [.ref 0, .int (l1 + (jn 6)), .int l2, .int (jn 2)] M1)) (hf := rfl) rfl rfl).trans ?_
        refine kI_in (fun r2 M2 => ?_)
        refine (e_if_ne (hf := rfl)).trans ?_
        refine ite_in ?_ ?_
        · refine (evn_adv 6 (q' := (274, [some (.ref 0), some (.int l1), some (.int l2), some (.int l3), u4, u5, u6, some (.int r1)], [.int (jn 1), .int l2, .int (l1 + (jn 6)), .ref 0], M2)) rfl).trans ?_
          refine (e_kI (q := (274, [some (.ref 0), some (.int l1), some (.int l2), some (.int l3), u4, u5, u6, some (.int r1)], [.int (jn 1), .int l2, .int (l1 + (jn 6)), .ref 0])) (q2 := (277, [some (.ref 0), some (.int l1), some (.int l2), some (.int l3), u4, u5, u6, some (.int r1)], [])) (M := M2) (o := (pcl GG laz d 35 [.ref 0, .int (l1 + (jn 6)), .int l2, .int (jn 1)] M2)) (hf := rfl) rfl rfl).trans ?_
          refine kI_in (fun r3 M3 => ?_)
          refine (evn_adv 3 (q' := (280, [some (.ref 0), some (.int l1), some (.int l2), some (.int l3), u4, u5, u6, some (.int r1)], [.int (jn 0), .int l2, .ref 0, .int r3], M3)) rfl).trans ?_
          refine (e_kI (q := (280, [some (.ref 0), some (.int l1), some (.int l2), some (.int l3), u4, u5, u6, some (.int r1)], [.int (jn 0), .int l2, .ref 0, .int r3])) (q2 := (283, [some (.ref 0), some (.int l1), some (.int l2), some (.int l3), u4, u5, u6, some (.int r1)], [.int r3])) (M := M3) (o := (pcl GG laz d 17 [.ref 0, .int l2, .int (jn 0)] M3)) (hf := rfl) rfl rfl).trans ?_
          refine kI_in (fun r4 M4 => ?_)
          refine (e_ic_ne (hf := rfl)).trans ?_
          refine ite_in ?_ ?_
          · rfl
          · rfl
        · rfl
    · rfl
theorem h_75_225 (d : Nat) (u0 : Option Value) (u1 : Option Value) (u2 : Option Value) (u3 : Option Value) (u4 : Option Value) (u5 : Option Value) (u6 : Option Value) (u7 : Option Value) (M : PM) : E_75 d (225, [u0, u1, u2, u3, u4, u5, u6, u7], [], M) = (rZ (jn 0) M) := by
  refine (evn_adv 1 (q' := (226, [u0, u1, u2, u3, u4, u5, u6, u7], [.int (jn 0)], M)) rfl).trans ?_
  exact e_iretz (hf := rfl)
theorem h_75_290 (d : Nat) (u0 : Option Value) (u1 : Option Value) (u2 : Option Value) (u3 : Option Value) (u4 : Option Value) (u5 : Option Value) (u6 : Option Value) (u7 : Option Value) (M : PM) : E_75 d (290, [u0, u1, u2, u3, u4, u5, u6, u7], [], M) = (rZ (jn 0) M) := by
  refine (evn_adv 1 (q' := (291, [u0, u1, u2, u3, u4, u5, u6, u7], [.int (jn 0)], M)) rfl).trans ?_
  exact e_iretz (hf := rfl)
theorem h_75_286 (d : Nat) (u0 : Option Value) (u1 : Option Value) (u2 : Option Value) (u3 : Option Value) (u4 : Option Value) (u5 : Option Value) (u6 : Option Value) (u7 : Option Value) (M : PM) : E_75 d (286, [u0, u1, u2, u3, u4, u5, u6, u7], [], M) = (rZ (jn 1) M) := by
  refine (evn_adv 2 (q' := (291, [u0, u1, u2, u3, u4, u5, u6, u7], [.int (jn 1)], M)) rfl).trans ?_
  exact e_iretz (hf := rfl)
/-- TermStrategiesLaw.fitted(LTermStrategies;[II)Z -/
noncomputable abbrev E_76 (d : Nat) : PQ → PO := evn (rnn k_76 laz none (pcl GG laz d) 2)
theorem q_76 (d : Nat) (l2 : Int32) (M : PM) : pcl GG laz (d + 1) 76 [.ref 0, .ref 52, .int l2] M = (kL (pcl GG laz d 26 [.ref 0, .int l2] M) fun r1 M1 => (oB (aldI laz none M1 52 (jn 3)) fun v2 => E_76 d (17, [some (.ref 0), some (.ref 52), some (.int l2), some (.long r1), none, some (.long (Int64.ofNat 0)), none, some (.int v2), some (.int (jn 0)), none, none, none, none, none], [], M1))) := by
  refine (pcl_unz (mt := t_76) (by decide) rfl (Nat.le_of_ble_eq_true rfl)).trans ?_
  show E_76 d (0, [some (.ref 0), some (.ref 52), some (.int l2), none, none, none, none, none, none, none, none, none, none, none], [], M) = _
  refine (evn_adv 2 (q' := (2, [some (.ref 0), some (.ref 52), some (.int l2), none, none, none, none, none, none, none, none, none, none, none], [.int l2, .ref 0], M)) rfl).trans ?_
  refine (e_kL (q := (2, [some (.ref 0), some (.ref 52), some (.int l2), none, none, none, none, none, none, none, none, none, none, none], [.int l2, .ref 0])) (q2 := (5, [some (.ref 0), some (.ref 52), some (.int l2), none, none, none, none, none, none, none, none, none, none, none], [])) (M := M) (o := (pcl GG laz d 26 [.ref 0, .int l2] M)) (hf := rfl) rfl rfl).trans ?_
  refine kL_in (fun r1 M1 => ?_)
  refine (evn_adv 5 (q' := (11, [some (.ref 0), some (.ref 52), some (.int l2), some (.long r1), none, some (.long (Int64.ofNat 0)), none, none, none, none, none, none, none, none], [.int (jn 3), .ref 52], M1)) rfl).trans ?_
  refine (e_oB (q := (11, [some (.ref 0), some (.ref 52), some (.int l2), some (.long r1), none, some (.long (Int64.ofNat 0)), none, none, none, none, none, none, none, none], [.int (jn 3), .ref 52], M1)) (o := (aldI laz none M1 52 (jn 3))) (f := fun v2 => (12, [some (.ref 0), some (.ref 52), some (.int l2), some (.long r1), none, some (.long (Int64.ofNat 0)), none, none, none, none, none, none, none, none], [.int v2], M1)) (hf := rfl) rfl).trans ?_
  refine oB_in (fun v2 => ?_)
  refine (evn_adv 3 (q' := (17, [some (.ref 0), some (.ref 52), some (.int l2), some (.long r1), none, some (.long (Int64.ofNat 0)), none, some (.int v2), some (.int (jn 0)), none, none, none, none, none], [], M1)) rfl).trans ?_
  rfl
theorem h_76_17 (d : Nat) (l2 : Int32) (l3 : Int64) (l5 : Int64) (l7 : Int32) (l8 : Int32) (u9 : Option Value) (u10 : Option Value) (u11 : Option Value) (u12 : Option Value) (u13 : Option Value) (M : PM) : E_76 d (17, [some (.ref 0), some (.ref 52), some (.int l2), some (.long l3), none, some (.long l5), none, some (.int l7), some (.int l8), u9, u10, u11, u12, u13], [], M) = (oB (aldI laz none M 52 (jn 4)) fun v1 => (if l8 < v1 then (kI (pcl GG laz d 23 [.ref 0, .int l8, .int l2, .int (jz 1)] M) fun r2 M2 => E_76 d (41, [some (.ref 0), some (.ref 52), some (.int l2), some (.long l3), none, some (.long l5), none, some (.int l7), some (.int l8), some (.int r2), some (.int (jz 1)), some (.int (jn 0)), u12, u13], [], M2)) else (if (lg_cmp l5 l3) = jn 0 then (kI (pcl GG laz d 17 [.ref 0, .int l2, .int (jn 3)] M) fun r2 M2 => (if (lg_cmp l3 (Int64.ofNat 0)) = jn 0 then (if r2 = (jn 1) then (rZ (jn 1) M2) else E_76 d (257, [some (.ref 0), some (.ref 52), some (.int l2), some (.long l3), none, some (.long l5), none, some (.int l7), some (.int l8), u9, u10, u11, u12, u13], [], M2)) else (if r2 = (jn 0) then (rZ (jn 1) M2) else E_76 d (257, [some (.ref 0), some (.ref 52), some (.int l2), some (.long l3), none, some (.long l5), none, some (.int l7), some (.int l8), u9, u10, u11, u12, u13], [], M2)))) else E_76 d (257, [some (.ref 0), some (.ref 52), some (.int l2), some (.long l3), none, some (.long l5), none, some (.int l7), some (.int l8), u9, u10, u11, u12, u13], [], M)))) := by
  refine (evn_adv 3 (q' := (21, [some (.ref 0), some (.ref 52), some (.int l2), some (.long l3), none, some (.long l5), none, some (.int l7), some (.int l8), u9, u10, u11, u12, u13], [.int (jn 4), .ref 52, .int l8], M)) rfl).trans ?_
  refine (e_oB (q := (21, [some (.ref 0), some (.ref 52), some (.int l2), some (.long l3), none, some (.long l5), none, some (.int l7), some (.int l8), u9, u10, u11, u12, u13], [.int (jn 4), .ref 52, .int l8], M)) (o := (aldI laz none M 52 (jn 4))) (f := fun v1 => (22, [some (.ref 0), some (.ref 52), some (.int l2), some (.long l3), none, some (.long l5), none, some (.int l7), some (.int l8), u9, u10, u11, u12, u13], [.int v1, .int l8], M)) (hf := rfl) rfl).trans ?_
  refine oB_in (fun v1 => ?_)
  refine (e_ic_ge (hf := rfl)).trans ?_
  refine ite_in ?_ ?_
  · refine (evn_adv 4 (q' := (30, [some (.ref 0), some (.ref 52), some (.int l2), some (.long l3), none, some (.long l5), none, some (.int l7), some (.int l8), u9, u10, u11, u12, u13], [.int (jz 1), .int l2, .int l8, .ref 0], M)) rfl).trans ?_
    refine (e_kI (q := (30, [some (.ref 0), some (.ref 52), some (.int l2), some (.long l3), none, some (.long l5), none, some (.int l7), some (.int l8), u9, u10, u11, u12, u13], [.int (jz 1), .int l2, .int l8, .ref 0])) (q2 := (33, [some (.ref 0), some (.ref 52), some (.int l2), some (.long l3), none, some (.long l5), none, some (.int l7), some (.int l8), u9, u10, u11, u12, u13], [])) (M := M) (o := (pcl GG laz d 23 [.ref 0, .int l8, .int l2, .int (jz 1)] M)) (hf := rfl) rfl rfl).trans ?_
    refine kI_in (fun r2 M2 => ?_)
    refine (evn_adv 5 (q' := (41, [some (.ref 0), some (.ref 52), some (.int l2), some (.long l3), none, some (.long l5), none, some (.int l7), some (.int l8), some (.int r2), some (.int (jz 1)), some (.int (jn 0)), u12, u13], [], M2)) rfl).trans ?_
    rfl
  · refine (evn_adv 3 (q' := (230, [some (.ref 0), some (.ref 52), some (.int l2), some (.long l3), none, some (.long l5), none, some (.int l7), some (.int l8), u9, u10, u11, u12, u13], [.int (lg_cmp l5 l3)], M)) rfl).trans ?_
    refine (e_if_ne (hf := rfl)).trans ?_
    refine ite_in ?_ ?_
    · refine (evn_adv 3 (q' := (236, [some (.ref 0), some (.ref 52), some (.int l2), some (.long l3), none, some (.long l5), none, some (.int l7), some (.int l8), u9, u10, u11, u12, u13], [.int (jn 3), .int l2, .ref 0], M)) rfl).trans ?_
      refine (e_kI (q := (236, [some (.ref 0), some (.ref 52), some (.int l2), some (.long l3), none, some (.long l5), none, some (.int l7), some (.int l8), u9, u10, u11, u12, u13], [.int (jn 3), .int l2, .ref 0])) (q2 := (239, [some (.ref 0), some (.ref 52), some (.int l2), some (.long l3), none, some (.long l5), none, some (.int l7), some (.int l8), u9, u10, u11, u12, u13], [])) (M := M) (o := (pcl GG laz d 17 [.ref 0, .int l2, .int (jn 3)] M)) (hf := rfl) rfl rfl).trans ?_
      refine kI_in (fun r2 M2 => ?_)
      refine (evn_adv 3 (q' := (242, [some (.ref 0), some (.ref 52), some (.int l2), some (.long l3), none, some (.long l5), none, some (.int l7), some (.int l8), u9, u10, u11, u12, u13], [.int (lg_cmp l3 (Int64.ofNat 0)), .int r2], M2)) rfl).trans ?_
      refine (e_if_ne (hf := rfl)).trans ?_
      refine ite_in ?_ ?_
      · refine (evn_adv 2 (q' := (250, [some (.ref 0), some (.ref 52), some (.int l2), some (.long l3), none, some (.long l5), none, some (.int l7), some (.int l8), u9, u10, u11, u12, u13], [.int (jn 1), .int r2], M2)) rfl).trans ?_
        refine (e_ic_ne (hf := rfl)).trans ?_
        refine ite_in ?_ ?_
        · refine (evn_adv 2 (q' := (258, [some (.ref 0), some (.ref 52), some (.int l2), some (.long l3), none, some (.long l5), none, some (.int l7), some (.int l8), u9, u10, u11, u12, u13], [.int (jn 1)], M2)) rfl).trans ?_
          exact e_iretz (hf := rfl)
        · rfl
      · refine (evn_adv 1 (q' := (250, [some (.ref 0), some (.ref 52), some (.int l2), some (.long l3), none, some (.long l5), none, some (.int l7), some (.int l8), u9, u10, u11, u12, u13], [.int (jn 0), .int r2], M2)) rfl).trans ?_
        refine (e_ic_ne (hf := rfl)).trans ?_
        refine ite_in ?_ ?_
        · refine (evn_adv 2 (q' := (258, [some (.ref 0), some (.ref 52), some (.int l2), some (.long l3), none, some (.long l5), none, some (.int l7), some (.int l8), u9, u10, u11, u12, u13], [.int (jn 1)], M2)) rfl).trans ?_
          exact e_iretz (hf := rfl)
        · rfl
    · rfl
theorem h_76_41 (d : Nat) (l2 : Int32) (l3 : Int64) (l5 : Int64) (l7 : Int32) (l8 : Int32) (l9 : Int32) (l10 : Int32) (l11 : Int32) (u12 : Option Value) (u13 : Option Value) (M : PM) : E_76 d (41, [some (.ref 0), some (.ref 52), some (.int l2), some (.long l3), none, some (.long l5), none, some (.int l7), some (.int l8), some (.int l9), some (.int l10), some (.int l11), u12, u13], [], M) = (if l11 < l9 then (kI (pcl GG laz d 23 [.ref 0, .int l8, .int l2, .int l11] M) fun r1 M1 => (if l10 < r1 then (kI (pcl GG laz d 17 [.ref 0, .int l2, .int (jn 0)] M1) fun r2 M2 => (if r1 < r2 then (kI (pcl GG laz d 29 [.ref 0, .int l8, .int l2, .int r1] M2) fun r3 M3 => (if r3 = l7 then E_76 d (117, [some (.ref 0), some (.ref 52), some (.int l2), some (.long l3), none, some (.long (l5 ||| ((Int64.ofNat 1) <<< (r1.toInt64 &&& 63)))), none, some (.int l7), some (.int l8), some (.int l9), some (.int r1), some (.int l11), some (.int r1), some (.int r3)], [], M3) else (if r3 = (jz 7) then E_76 d (117, [some (.ref 0), some (.ref 52), some (.int l2), some (.long l3), none, some (.long (l5 ||| ((Int64.ofNat 1) <<< (r1.toInt64 &&& 63)))), none, some (.int l7), some (.int l8), some (.int l9), some (.int r1), some (.int l11), some (.int r1), some (.int r3)], [], M3) else E_76 d (133, [some (.ref 0), some (.ref 52), some (.int l2), some (.long l3), none, some (.long (l5 ||| ((Int64.ofNat 1) <<< (r1.toInt64 &&& 63)))), none, some (.int l7), some (.int l8), some (.int l9), some (.int r1), some (.int l11), some (.int r1), some (.int r3)], [], M3)))) else E_76 d (77, [some (.ref 0), some (.ref 52), some (.int l2), some (.long l3), none, some (.long l5), none, some (.int l7), some (.int l8), some (.int l9), some (.int l10), some (.int l11), some (.int r1), u13], [], M2))) else E_76 d (77, [some (.ref 0), some (.ref 52), some (.int l2), some (.long l3), none, some (.long l5), none, some (.int l7), some (.int l8), some (.int l9), some (.int l10), some (.int l11), some (.int r1), u13], [], M1))) else (if jn 0 < l9 then (kI (pcl GG laz d 23 [.ref 0, .int l8, .int l2, .int (jn 0)] M) fun r1 M1 => (if r1 = jn 0 then (kI (pcl GG laz d 35 [.ref 0, .int l8, .int l2, .int (jn 0)] M1) fun r2 M2 => (if (jn 1) = jn 0 then (if r2 = (jn 1) then E_76 d (185, [some (.ref 0), some (.ref 52), some (.int l2), some (.long l3), none, some (.long l5), none, some (.int l7), some (.int l8), some (.int l9), some (.int l10), some (.int (jn 1)), some (.int r2), u13], [], M2) else E_76 d (218, [some (.ref 0), some (.ref 52), some (.int l2), some (.long l3), none, some (.long l5), none, some (.int l7), some (.int l8), some (.int l9), some (.int l10), some (.int (jn 1)), some (.int r2), u13], [], M2)) else E_76 d (185, [some (.ref 0), some (.ref 52), some (.int l2), some (.long l3), none, some (.long l5), none, some (.int l7), some (.int l8), some (.int l9), some (.int l10), some (.int (jn 1)), some (.int r2), u13], [], M2))) else E_76 d (161, [some (.ref 0), some (.ref 52), some (.int l2), some (.long l3), none, some (.long l5), none, some (.int l7), some (.int l8), some (.int l9), some (.int l10), some (.int l11), u12, u13], [], M1))) else E_76 d (161, [some (.ref 0), some (.ref 52), some (.int l2), some (.long l3), none, some (.long l5), none, some (.int l7), some (.int l8), some (.int l9), some (.int l10), some (.int l11), u12, u13], [], M))) := by
  refine (evn_adv 2 (q' := (45, [some (.ref 0), some (.ref 52), some (.int l2), some (.long l3), none, some (.long l5), none, some (.int l7), some (.int l8), some (.int l9), some (.int l10), some (.int l11), u12, u13], [.int l9, .int l11], M)) rfl).trans ?_
  refine (e_ic_ge (hf := rfl)).trans ?_
  refine ite_in ?_ ?_
  · refine (evn_adv 4 (q' := (54, [some (.ref 0), some (.ref 52), some (.int l2), some (.long l3), none, some (.long l5), none, some (.int l7), some (.int l8), some (.int l9), some (.int l10), some (.int l11), u12, u13], [.int l11, .int l2, .int l8, .ref 0], M)) rfl).trans ?_
    refine (e_kI (q := (54, [some (.ref 0), some (.ref 52), some (.int l2), some (.long l3), none, some (.long l5), none, some (.int l7), some (.int l8), some (.int l9), some (.int l10), some (.int l11), u12, u13], [.int l11, .int l2, .int l8, .ref 0])) (q2 := (57, [some (.ref 0), some (.ref 52), some (.int l2), some (.long l3), none, some (.long l5), none, some (.int l7), some (.int l8), some (.int l9), some (.int l10), some (.int l11), u12, u13], [])) (M := M) (o := (pcl GG laz d 23 [.ref 0, .int l8, .int l2, .int l11] M)) (hf := rfl) rfl rfl).trans ?_
    refine kI_in (fun r1 M1 => ?_)
    refine (evn_adv 3 (q' := (63, [some (.ref 0), some (.ref 52), some (.int l2), some (.long l3), none, some (.long l5), none, some (.int l7), some (.int l8), some (.int l9), some (.int l10), some (.int l11), some (.int r1), u13], [.int l10, .int r1], M1)) rfl).trans ?_
    refine (e_ic_le (hf := rfl)).trans ?_
    refine ite_in ?_ ?_
    · refine (evn_adv 4 (q' := (71, [some (.ref 0), some (.ref 52), some (.int l2), some (.long l3), none, some (.long l5), none, some (.int l7), some (.int l8), some (.int l9), some (.int l10), some (.int l11), some (.int r1), u13], [.int (jn 0), .int l2, .ref 0, .int r1], M1)) rfl).trans ?_
      refine (e_kI (q := (71, [some (.ref 0), some (.ref 52), some (.int l2), some (.long l3), none, some (.long l5), none, some (.int l7), some (.int l8), some (.int l9), some (.int l10), some (.int l11), some (.int r1), u13], [.int (jn 0), .int l2, .ref 0, .int r1])) (q2 := (74, [some (.ref 0), some (.ref 52), some (.int l2), some (.long l3), none, some (.long l5), none, some (.int l7), some (.int l8), some (.int l9), some (.int l10), some (.int l11), some (.int r1), u13], [.int r1])) (M := M1) (o := (pcl GG laz d 17 [.ref 0, .int l2, .int (jn 0)] M1)) (hf := rfl) rfl rfl).trans ?_
      refine kI_in (fun r2 M2 => ?_)
      refine (e_ic_lt (hf := rfl)).trans ?_
      refine ite_in ?_ ?_
      · refine (evn_adv 12 (q' := (98, [some (.ref 0), some (.ref 52), some (.int l2), some (.long l3), none, some (.long (l5 ||| ((Int64.ofNat 1) <<< (r1.toInt64 &&& 63)))), none, some (.int l7), some (.int l8), some (.int l9), some (.int r1), some (.int l11), some (.int r1), u13], [.int r1, .int l2, .int l8, .ref 0], M2)) rfl).trans ?_
        refine (e_kI (q := (98, [some (.ref 0), some (.ref 52), some (.int l2), some (.long l3), none, some (.long (l5 ||| ((Int64.ofNat 1) <<< (r1.toInt64 &&& 63)))), none, some (.int l7), some (.int l8), some (.int l9), some (.int r1), some (.int l11), some (.int r1), u13], [.int r1, .int l2, .int l8, .ref 0])) (q2 := (101, [some (.ref 0), some (.ref 52), some (.int l2), some (.long l3), none, some (.long (l5 ||| ((Int64.ofNat 1) <<< (r1.toInt64 &&& 63)))), none, some (.int l7), some (.int l8), some (.int l9), some (.int r1), some (.int l11), some (.int r1), u13], [])) (M := M2) (o := (pcl GG laz d 29 [.ref 0, .int l8, .int l2, .int r1] M2)) (hf := rfl) rfl rfl).trans ?_
        refine kI_in (fun r3 M3 => ?_)
        refine (evn_adv 3 (q' := (107, [some (.ref 0), some (.ref 52), some (.int l2), some (.long l3), none, some (.long (l5 ||| ((Int64.ofNat 1) <<< (r1.toInt64 &&& 63)))), none, some (.int l7), some (.int l8), some (.int l9), some (.int r1), some (.int l11), some (.int r1), some (.int r3)], [.int l7, .int r3], M3)) rfl).trans ?_
        refine (e_ic_eq (hf := rfl)).trans ?_
        refine ite_in ?_ ?_
        · rfl
        · refine (evn_adv 2 (q' := (114, [some (.ref 0), some (.ref 52), some (.int l2), some (.long l3), none, some (.long (l5 ||| ((Int64.ofNat 1) <<< (r1.toInt64 &&& 63)))), none, some (.int l7), some (.int l8), some (.int l9), some (.int r1), some (.int l11), some (.int r1), some (.int r3)], [.int (jz 7), .int r3], M3)) rfl).trans ?_
          refine (e_ic_ne (hf := rfl)).trans ?_
          refine ite_in ?_ ?_
          · rfl
          · rfl
      · rfl
    · rfl
  · refine (evn_adv 1 (q' := (143, [some (.ref 0), some (.ref 52), some (.int l2), some (.long l3), none, some (.long l5), none, some (.int l7), some (.int l8), some (.int l9), some (.int l10), some (.int l11), u12, u13], [.int l9], M)) rfl).trans ?_
    refine (e_if_le (hf := rfl)).trans ?_
    refine ite_in ?_ ?_
    · refine (evn_adv 4 (q' := (151, [some (.ref 0), some (.ref 52), some (.int l2), some (.long l3), none, some (.long l5), none, some (.int l7), some (.int l8), some (.int l9), some (.int l10), some (.int l11), u12, u13], [.int (jn 0), .int l2, .int l8, .ref 0], M)) rfl).trans ?_
      refine (e_kI (q := (151, [some (.ref 0), some (.ref 52), some (.int l2), some (.long l3), none, some (.long l5), none, some (.int l7), some (.int l8), some (.int l9), some (.int l10), some (.int l11), u12, u13], [.int (jn 0), .int l2, .int l8, .ref 0])) (q2 := (154, [some (.ref 0), some (.ref 52), some (.int l2), some (.long l3), none, some (.long l5), none, some (.int l7), some (.int l8), some (.int l9), some (.int l10), some (.int l11), u12, u13], [])) (M := M) (o := (pcl GG laz d 23 [.ref 0, .int l8, .int l2, .int (jn 0)] M)) (hf := rfl) rfl rfl).trans ?_
      refine kI_in (fun r1 M1 => ?_)
      refine (e_if_ne (hf := rfl)).trans ?_
      refine ite_in ?_ ?_
      · refine (evn_adv 7 (q' := (169, [some (.ref 0), some (.ref 52), some (.int l2), some (.long l3), none, some (.long l5), none, some (.int l7), some (.int l8), some (.int l9), some (.int l10), some (.int (jn 1)), u12, u13], [.int (jn 0), .int l2, .int l8, .ref 0], M1)) rfl).trans ?_
        refine (e_kI (q := (169, [some (.ref 0), some (.ref 52), some (.int l2), some (.long l3), none, some (.long l5), none, some (.int l7), some (.int l8), some (.int l9), some (.int l10), some (.int (jn 1)), u12, u13], [.int (jn 0), .int l2, .int l8, .ref 0])) (q2 := (172, [some (.ref 0), some (.ref 52), some (.int l2), some (.long l3), none, some (.long l5), none, some (.int l7), some (.int l8), some (.int l9), some (.int l10), some (.int (jn 1)), u12, u13], [])) (M := M1) (o := (pcl GG laz d 35 [.ref 0, .int l8, .int l2, .int (jn 0)] M1)) (hf := rfl) rfl rfl).trans ?_
        refine kI_in (fun r2 M2 => ?_)
        refine (evn_adv 2 (q' := (176, [some (.ref 0), some (.ref 52), some (.int l2), some (.long l3), none, some (.long l5), none, some (.int l7), some (.int l8), some (.int l9), some (.int l10), some (.int (jn 1)), some (.int r2), u13], [.int (jn 1)], M2)) rfl).trans ?_
        refine (e_if_ne (hf := rfl)).trans ?_
        refine ite_in ?_ ?_
        · refine (evn_adv 2 (q' := (182, [some (.ref 0), some (.ref 52), some (.int l2), some (.long l3), none, some (.long l5), none, some (.int l7), some (.int l8), some (.int l9), some (.int l10), some (.int (jn 1)), some (.int r2), u13], [.int (jn 1), .int r2], M2)) rfl).trans ?_
          refine (e_ic_ne (hf := rfl)).trans ?_
          refine ite_in ?_ ?_
          · rfl
          · rfl
        · rfl
      · rfl
    · rfl
theorem h_76_257 (d : Nat) (u0 : Option Value) (u1 : Option Value) (u2 : Option Value) (u3 : Option Value) (u4 : Option Value) (u5 : Option Value) (u6 : Option Value) (u7 : Option Value) (u8 : Option Value) (u9 : Option Value) (u10 : Option Value) (u11 : Option Value) (u12 : Option Value) (u13 : Option Value) (M : PM) : E_76 d (257, [u0, u1, u2, u3, u4, u5, u6, u7, u8, u9, u10, u11, u12, u13], [], M) = (rZ (jn 0) M) := by
  refine (evn_adv 1 (q' := (258, [u0, u1, u2, u3, u4, u5, u6, u7, u8, u9, u10, u11, u12, u13], [.int (jn 0)], M)) rfl).trans ?_
  exact e_iretz (hf := rfl)
theorem h_76_117 (d : Nat) (l2 : Int32) (l3 : Int64) (l5 : Int64) (l7 : Int32) (l8 : Int32) (l9 : Int32) (l10 : Int32) (l11 : Int32) (u12 : Option Value) (l13 : Int32) (M : PM) : E_76 d (117, [some (.ref 0), some (.ref 52), some (.int l2), some (.long l3), none, some (.long l5), none, some (.int l7), some (.int l8), some (.int l9), some (.int l10), some (.int l11), u12, some (.int l13)], [], M) = (if l13 = l7 then (kI (pcl GG laz d 14 [.ref 0] M) fun r1 M1 => (if r1 = l7 then E_76 d (135, [some (.ref 0), some (.ref 52), some (.int l2), some (.long l3), none, some (.long l5), none, some (.int l7), some (.int l8), some (.int l9), some (.int l10), some (.int l11), u12, some (.int l13)], [], M1) else E_76 d (133, [some (.ref 0), some (.ref 52), some (.int l2), some (.long l3), none, some (.long l5), none, some (.int l7), some (.int l8), some (.int l9), some (.int l10), some (.int l11), u12, some (.int l13)], [], M1))) else E_76 d (135, [some (.ref 0), some (.ref 52), some (.int l2), some (.long l3), none, some (.long l5), none, some (.int l7), some (.int l8), some (.int l9), some (.int l10), some (.int l11), u12, some (.int l13)], [], M)) := by
  refine (evn_adv 2 (q' := (121, [some (.ref 0), some (.ref 52), some (.int l2), some (.long l3), none, some (.long l5), none, some (.int l7), some (.int l8), some (.int l9), some (.int l10), some (.int l11), u12, some (.int l13)], [.int l7, .int l13], M)) rfl).trans ?_
  refine (e_ic_ne (hf := rfl)).trans ?_
  refine ite_in ?_ ?_
  · refine (evn_adv 1 (q' := (125, [some (.ref 0), some (.ref 52), some (.int l2), some (.long l3), none, some (.long l5), none, some (.int l7), some (.int l8), some (.int l9), some (.int l10), some (.int l11), u12, some (.int l13)], [.ref 0], M)) rfl).trans ?_
    refine (e_kI (q := (125, [some (.ref 0), some (.ref 52), some (.int l2), some (.long l3), none, some (.long l5), none, some (.int l7), some (.int l8), some (.int l9), some (.int l10), some (.int l11), u12, some (.int l13)], [.ref 0])) (q2 := (128, [some (.ref 0), some (.ref 52), some (.int l2), some (.long l3), none, some (.long l5), none, some (.int l7), some (.int l8), some (.int l9), some (.int l10), some (.int l11), u12, some (.int l13)], [])) (M := M) (o := (pcl GG laz d 14 [.ref 0] M)) (hf := rfl) rfl rfl).trans ?_
    refine kI_in (fun r1 M1 => ?_)
    refine (evn_adv 1 (q' := (130, [some (.ref 0), some (.ref 52), some (.int l2), some (.long l3), none, some (.long l5), none, some (.int l7), some (.int l8), some (.int l9), some (.int l10), some (.int l11), u12, some (.int l13)], [.int l7, .int r1], M1)) rfl).trans ?_
    refine (e_ic_eq (hf := rfl)).trans ?_
    refine ite_in ?_ ?_
    · rfl
    · rfl
  · rfl
theorem h_76_133 (d : Nat) (u0 : Option Value) (u1 : Option Value) (u2 : Option Value) (u3 : Option Value) (u4 : Option Value) (u5 : Option Value) (u6 : Option Value) (u7 : Option Value) (u8 : Option Value) (u9 : Option Value) (u10 : Option Value) (u11 : Option Value) (u12 : Option Value) (u13 : Option Value) (M : PM) : E_76 d (133, [u0, u1, u2, u3, u4, u5, u6, u7, u8, u9, u10, u11, u12, u13], [], M) = (rZ (jn 0) M) := by
  refine (evn_adv 1 (q' := (134, [u0, u1, u2, u3, u4, u5, u6, u7, u8, u9, u10, u11, u12, u13], [.int (jn 0)], M)) rfl).trans ?_
  exact e_iretz (hf := rfl)
theorem h_76_77 (d : Nat) (u0 : Option Value) (u1 : Option Value) (u2 : Option Value) (u3 : Option Value) (u4 : Option Value) (u5 : Option Value) (u6 : Option Value) (u7 : Option Value) (u8 : Option Value) (u9 : Option Value) (u10 : Option Value) (u11 : Option Value) (u12 : Option Value) (u13 : Option Value) (M : PM) : E_76 d (77, [u0, u1, u2, u3, u4, u5, u6, u7, u8, u9, u10, u11, u12, u13], [], M) = (rZ (jn 0) M) := by
  refine (evn_adv 1 (q' := (78, [u0, u1, u2, u3, u4, u5, u6, u7, u8, u9, u10, u11, u12, u13], [.int (jn 0)], M)) rfl).trans ?_
  exact e_iretz (hf := rfl)
theorem h_76_185 (d : Nat) (l2 : Int32) (l3 : Int64) (l5 : Int64) (l7 : Int32) (l8 : Int32) (u9 : Option Value) (u10 : Option Value) (l11 : Int32) (l12 : Int32) (u13 : Option Value) (M : PM) : E_76 d (185, [some (.ref 0), some (.ref 52), some (.int l2), some (.long l3), none, some (.long l5), none, some (.int l7), some (.int l8), u9, u10, some (.int l11), some (.int l12), u13], [], M) = (if l11 = jn 0 then E_76 d (196, [some (.ref 0), some (.ref 52), some (.int l2), some (.long l3), none, some (.long l5), none, some (.int l7), some (.int l8), u9, u10, some (.int l11), some (.int l12), u13], [], M) else (if l12 = (jn 1) then E_76 d (218, [some (.ref 0), some (.ref 52), some (.int l2), some (.long l3), none, some (.long l5), none, some (.int l7), some (.int l8), u9, u10, some (.int l11), some (.int l12), u13], [], M) else E_76 d (196, [some (.ref 0), some (.ref 52), some (.int l2), some (.long l3), none, some (.long l5), none, some (.int l7), some (.int l8), u9, u10, some (.int l11), some (.int l12), u13], [], M))) := by
  refine (evn_adv 1 (q' := (187, [some (.ref 0), some (.ref 52), some (.int l2), some (.long l3), none, some (.long l5), none, some (.int l7), some (.int l8), u9, u10, some (.int l11), some (.int l12), u13], [.int l11], M)) rfl).trans ?_
  refine (e_if_eq (hf := rfl)).trans ?_
  refine ite_in ?_ ?_
  · rfl
  · refine (evn_adv 2 (q' := (193, [some (.ref 0), some (.ref 52), some (.int l2), some (.long l3), none, some (.long l5), none, some (.int l7), some (.int l8), u9, u10, some (.int l11), some (.int l12), u13], [.int (jn 1), .int l12], M)) rfl).trans ?_
    refine (e_ic_eq (hf := rfl)).trans ?_
    refine ite_in ?_ ?_
    · rfl
    · rfl
theorem h_76_218 (d : Nat) (u0 : Option Value) (u1 : Option Value) (u2 : Option Value) (u3 : Option Value) (u4 : Option Value) (u5 : Option Value) (u6 : Option Value) (u7 : Option Value) (u8 : Option Value) (u9 : Option Value) (u10 : Option Value) (u11 : Option Value) (u12 : Option Value) (u13 : Option Value) (M : PM) : E_76 d (218, [u0, u1, u2, u3, u4, u5, u6, u7, u8, u9, u10, u11, u12, u13], [], M) = (rZ (jn 0) M) := by
  refine (evn_adv 1 (q' := (219, [u0, u1, u2, u3, u4, u5, u6, u7, u8, u9, u10, u11, u12, u13], [.int (jn 0)], M)) rfl).trans ?_
  exact e_iretz (hf := rfl)
theorem h_76_161 (d : Nat) (l2 : Int32) (l3 : Int64) (l5 : Int64) (l7 : Int32) (l8 : Int32) (u9 : Option Value) (u10 : Option Value) (u11 : Option Value) (u12 : Option Value) (u13 : Option Value) (M : PM) : E_76 d (161, [some (.ref 0), some (.ref 52), some (.int l2), some (.long l3), none, some (.long l5), none, some (.int l7), some (.int l8), u9, u10, u11, u12, u13], [], M) = (kI (pcl GG laz d 35 [.ref 0, .int l8, .int l2, .int (jn 0)] M) fun r1 M1 => (if (jn 0) = jn 0 then (if r1 = (jn 1) then E_76 d (185, [some (.ref 0), some (.ref 52), some (.int l2), some (.long l3), none, some (.long l5), none, some (.int l7), some (.int l8), u9, u10, some (.int (jn 0)), some (.int r1), u13], [], M1) else E_76 d (218, [some (.ref 0), some (.ref 52), some (.int l2), some (.long l3), none, some (.long l5), none, some (.int l7), some (.int l8), u9, u10, some (.int (jn 0)), some (.int r1), u13], [], M1)) else E_76 d (185, [some (.ref 0), some (.ref 52), some (.int l2), some (.long l3), none, some (.long l5), none, some (.int l7), some (.int l8), u9, u10, some (.int (jn 0)), some (.int r1), u13], [], M1))) := by
  refine (evn_adv 6 (q' := (169, [some (.ref 0), some (.ref 52), some (.int l2), some (.long l3), none, some (.long l5), none, some (.int l7), some (.int l8), u9, u10, some (.int (jn 0)), u12, u13], [.int (jn 0), .int l2, .int l8, .ref 0], M)) rfl).trans ?_
  refine (e_kI (q := (169, [some (.ref 0), some (.ref 52), some (.int l2), some (.long l3), none, some (.long l5), none, some (.int l7), some (.int l8), u9, u10, some (.int (jn 0)), u12, u13], [.int (jn 0), .int l2, .int l8, .ref 0])) (q2 := (172, [some (.ref 0), some (.ref 52), some (.int l2), some (.long l3), none, some (.long l5), none, some (.int l7), some (.int l8), u9, u10, some (.int (jn 0)), u12, u13], [])) (M := M) (o := (pcl GG laz d 35 [.ref 0, .int l8, .int l2, .int (jn 0)] M)) (hf := rfl) rfl rfl).trans ?_
  refine kI_in (fun r1 M1 => ?_)
  refine (evn_adv 2 (q' := (176, [some (.ref 0), some (.ref 52), some (.int l2), some (.long l3), none, some (.long l5), none, some (.int l7), some (.int l8), u9, u10, some (.int (jn 0)), some (.int r1), u13], [.int (jn 0)], M1)) rfl).trans ?_
  refine (e_if_ne (hf := rfl)).trans ?_
  refine ite_in ?_ ?_
  · refine (evn_adv 2 (q' := (182, [some (.ref 0), some (.ref 52), some (.int l2), some (.long l3), none, some (.long l5), none, some (.int l7), some (.int l8), u9, u10, some (.int (jn 0)), some (.int r1), u13], [.int (jn 1), .int r1], M1)) rfl).trans ?_
    refine (e_ic_ne (hf := rfl)).trans ?_
    refine ite_in ?_ ?_
    · rfl
    · rfl
  · rfl
theorem h_76_135 (d : Nat) (l2 : Int32) (l3 : Int64) (l5 : Int64) (l7 : Int32) (l8 : Int32) (l9 : Int32) (l10 : Int32) (l11 : Int32) (u12 : Option Value) (u13 : Option Value) (M : PM) : E_76 d (135, [some (.ref 0), some (.ref 52), some (.int l2), some (.long l3), none, some (.long l5), none, some (.int l7), some (.int l8), some (.int l9), some (.int l10), some (.int l11), u12, u13], [], M) = E_76 d (41, [some (.ref 0), some (.ref 52), some (.int l2), some (.long l3), none, some (.long l5), none, some (.int l7), some (.int l8), some (.int l9), some (.int l10), some (.int (l11 + (jn 1))), u12, u13], [], M) := by
  refine (evn_adv 2 (q' := (41, [some (.ref 0), some (.ref 52), some (.int l2), some (.long l3), none, some (.long l5), none, some (.int l7), some (.int l8), some (.int l9), some (.int l10), some (.int (l11 + (jn 1))), u12, u13], [], M)) rfl).trans ?_
  rfl
theorem h_76_196 (d : Nat) (l2 : Int32) (l3 : Int64) (l5 : Int64) (l7 : Int32) (l8 : Int32) (u9 : Option Value) (u10 : Option Value) (l11 : Int32) (l12 : Int32) (u13 : Option Value) (M : PM) : E_76 d (196, [some (.ref 0), some (.ref 52), some (.int l2), some (.long l3), none, some (.long l5), none, some (.int l7), some (.int l8), u9, u10, some (.int l11), some (.int l12), u13], [], M) = (if l11 = jn 0 then E_76 d (220, [some (.ref 0), some (.ref 52), some (.int l2), some (.long l3), none, some (.long l5), none, some (.int l7), some (.int l8), u9, u10, some (.int l11), some (.int l12), u13], [], M) else (if l12 = jn 0 then (kI (pcl GG laz d 35 [.ref 0, .int l8, .int l2, .int (jn 2)] M) fun r1 M1 => (if r1 = (jn 1) then E_76 d (220, [some (.ref 0), some (.ref 52), some (.int l2), some (.long l3), none, some (.long l5), none, some (.int l7), some (.int l8), u9, u10, some (.int l11), some (.int l12), u13], [], M1) else E_76 d (218, [some (.ref 0), some (.ref 52), some (.int l2), some (.long l3), none, some (.long l5), none, some (.int l7), some (.int l8), u9, u10, some (.int l11), some (.int l12), u13], [], M1))) else E_76 d (220, [some (.ref 0), some (.ref 52), some (.int l2), some (.long l3), none, some (.long l5), none, some (.int l7), some (.int l8), u9, u10, some (.int l11), some (.int l12), u13], [], M))) := by
  refine (evn_adv 1 (q' := (198, [some (.ref 0), some (.ref 52), some (.int l2), some (.long l3), none, some (.long l5), none, some (.int l7), some (.int l8), u9, u10, some (.int l11), some (.int l12), u13], [.int l11], M)) rfl).trans ?_
  refine (e_if_eq (hf := rfl)).trans ?_
  refine ite_in ?_ ?_
  · rfl
  · refine (evn_adv 1 (q' := (203, [some (.ref 0), some (.ref 52), some (.int l2), some (.long l3), none, some (.long l5), none, some (.int l7), some (.int l8), u9, u10, some (.int l11), some (.int l12), u13], [.int l12], M)) rfl).trans ?_
    refine (e_if_ne (hf := rfl)).trans ?_
    refine ite_in ?_ ?_
    · refine (evn_adv 4 (q' := (211, [some (.ref 0), some (.ref 52), some (.int l2), some (.long l3), none, some (.long l5), none, some (.int l7), some (.int l8), u9, u10, some (.int l11), some (.int l12), u13], [.int (jn 2), .int l2, .int l8, .ref 0], M)) rfl).trans ?_
      refine (e_kI (q := (211, [some (.ref 0), some (.ref 52), some (.int l2), some (.long l3), none, some (.long l5), none, some (.int l7), some (.int l8), u9, u10, some (.int l11), some (.int l12), u13], [.int (jn 2), .int l2, .int l8, .ref 0])) (q2 := (214, [some (.ref 0), some (.ref 52), some (.int l2), some (.long l3), none, some (.long l5), none, some (.int l7), some (.int l8), u9, u10, some (.int l11), some (.int l12), u13], [])) (M := M) (o := (pcl GG laz d 35 [.ref 0, .int l8, .int l2, .int (jn 2)] M)) (hf := rfl) rfl rfl).trans ?_
      refine kI_in (fun r1 M1 => ?_)
      refine (evn_adv 1 (q' := (215, [some (.ref 0), some (.ref 52), some (.int l2), some (.long l3), none, some (.long l5), none, some (.int l7), some (.int l8), u9, u10, some (.int l11), some (.int l12), u13], [.int (jn 1), .int r1], M1)) rfl).trans ?_
      refine (e_ic_eq (hf := rfl)).trans ?_
      refine ite_in ?_ ?_
      · rfl
      · rfl
    · rfl
theorem h_76_220 (d : Nat) (l2 : Int32) (l3 : Int64) (l5 : Int64) (l7 : Int32) (l8 : Int32) (u9 : Option Value) (u10 : Option Value) (u11 : Option Value) (u12 : Option Value) (u13 : Option Value) (M : PM) : E_76 d (220, [some (.ref 0), some (.ref 52), some (.int l2), some (.long l3), none, some (.long l5), none, some (.int l7), some (.int l8), u9, u10, u11, u12, u13], [], M) = E_76 d (17, [some (.ref 0), some (.ref 52), some (.int l2), some (.long l3), none, some (.long l5), none, some (.int l7), some (.int (l8 + (jn 1))), u9, u10, u11, u12, u13], [], M) := by
  refine (evn_adv 2 (q' := (17, [some (.ref 0), some (.ref 52), some (.int l2), some (.long l3), none, some (.long l5), none, some (.int l7), some (.int (l8 + (jn 1))), u9, u10, u11, u12, u13], [], M)) rfl).trans ?_
  rfl
/-- TermStrategiesLaw.peaks(LTermStrategies;III)Z -/
noncomputable abbrev E_77 (d : Nat) : PQ → PO := evn (rnn k_77 laz none (pcl GG laz d) 2)
theorem q_77 (d : Nat) (l1 : Int32) (l2 : Int32) (l3 : Int32) (M : PM) : pcl GG laz (d + 1) 77 [.ref 0, .int l1, .int l2, .int l3] M = (kI (pcl GG laz d 42 [.ref 0, .int l1, .int l2] M) fun r1 M1 => E_77 d (11, [some (.ref 0), some (.int l1), some (.int l2), some (.int l3), some (.int r1), some (.int (jn 0)), none, none], [], M1)) := by
  refine (pcl_unz (mt := t_77) (by decide) rfl (Nat.le_of_ble_eq_true rfl)).trans ?_
  show E_77 d (0, [some (.ref 0), some (.int l1), some (.int l2), some (.int l3), none, none, none, none], [], M) = _
  refine (evn_adv 3 (q' := (3, [some (.ref 0), some (.int l1), some (.int l2), some (.int l3), none, none, none, none], [.int l2, .int l1, .ref 0], M)) rfl).trans ?_
  refine (e_kI (q := (3, [some (.ref 0), some (.int l1), some (.int l2), some (.int l3), none, none, none, none], [.int l2, .int l1, .ref 0])) (q2 := (6, [some (.ref 0), some (.int l1), some (.int l2), some (.int l3), none, none, none, none], [])) (M := M) (o := (pcl GG laz d 42 [.ref 0, .int l1, .int l2] M)) (hf := rfl) rfl rfl).trans ?_
  refine kI_in (fun r1 M1 => ?_)
  refine (evn_adv 3 (q' := (11, [some (.ref 0), some (.int l1), some (.int l2), some (.int l3), some (.int r1), some (.int (jn 0)), none, none], [], M1)) rfl).trans ?_
  rfl
theorem h_77_11 (d : Nat) (l1 : Int32) (l2 : Int32) (l3 : Int32) (l4 : Int32) (l5 : Int32) (u6 : Option Value) (u7 : Option Value) (M : PM) : E_77 d (11, [some (.ref 0), some (.int l1), some (.int l2), some (.int l3), some (.int l4), some (.int l5), u6, u7], [], M) = (if l5 < l4 then (kI (pcl GG laz d 43 [.ref 0, .int l1, .int l2, .int l5, .int (jn 0)] M) fun r1 M1 => (if r1 = l3 then (kI (pcl GG laz d 43 [.ref 0, .int l1, .int l2, .int l5, .int (jn 1)] M1) fun r2 M2 => (if r2 = (l3 + (jn 1)) then (kI (pcl GG laz d 43 [.ref 0, .int l1, .int l2, .int l5, .int (jn 2)] M2) fun r3 M3 => (if r3 = (l3 + (jn 2)) then (kI (pcl GG laz d 23 [.ref 0, .int l1, .int l3, .int (jn 0)] M3) fun r4 M4 => (if r4 = jn 0 then (kI (pcl GG laz d 23 [.ref 0, .int l2, .int l3, .int (jz 1)] M4) fun r5 M5 => (if r5 < (jn 1) then (rZ (jn 0) M5) else (kI (pcl GG laz d 17 [.ref 0, .int (l3 + (jn 1)), .int (jn 2)] M5) fun r6 M6 => (kI (pcl GG laz d 17 [.ref 0, .int l3, .int (jn 2)] M6) fun r7 M7 => (if (r6 &&& (r7 ^^^ (jz 1))) = jn 0 then (kI (pcl GG laz d 17 [.ref 0, .int (l3 + (jn 2)), .int (jn 2)] M7) fun r8 M8 => (kI (pcl GG laz d 17 [.ref 0, .int l3, .int (jn 2)] M8) fun r9 M9 => (if (r8 &&& (r9 ^^^ (jz 1))) = jn 0 then (kI (pcl GG laz d 44 [.ref 0, .int l1, .int l2, .int l5] M9) fun r10 M10 => (if r10 < jn 0 then (rZ (jn 0) M10) else (if (jn 2) < r10 then (rZ (jn 0) M10) else (if r10 = jn 0 then (kI (pcl GG laz d 19 [.ref 0, .int (l3 + (jn 1)), .int (l3 + (jn 2))] M10) fun r11 M11 => (if r11 = jn 0 then (rZ (jn 0) M11) else E_77 d (172, [some (.ref 0), some (.int l1), some (.int l2), some (.int l3), some (.int l4), some (.int l5), some (.int r10), some (.int (jn 2))], [], M11))) else E_77 d (172, [some (.ref 0), some (.int l1), some (.int l2), some (.int l3), some (.int l4), some (.int l5), some (.int r10), some (.int (jn 2))], [], M10))))) else (rZ (jn 0) M9)))) else (rZ (jn 0) M7)))))) else (rZ (jn 0) M4))) else (rZ (jn 0) M3))) else (rZ (jn 0) M2))) else (rZ (jn 0) M1))) else (kI (pcl GG laz d 43 [.ref 0, .int l1, .int l2, .int l4, .int (jn 0)] M) fun r1 M1 => (if r1 = (jz 5) then (kI (pcl GG laz d 44 [.ref 0, .int l1, .int l2, .int l4] M1) fun r2 M2 => (if r2 = (jz 5) then (rZ (jn 1) M2) else (rZ (jn 0) M2))) else (rZ (jn 0) M1)))) := by
  refine (evn_adv 2 (q' := (15, [some (.ref 0), some (.int l1), some (.int l2), some (.int l3), some (.int l4), some (.int l5), u6, u7], [.int l4, .int l5], M)) rfl).trans ?_
  refine (e_ic_ge (hf := rfl)).trans ?_
  refine ite_in ?_ ?_
  · refine (evn_adv 5 (q' := (24, [some (.ref 0), some (.int l1), some (.int l2), some (.int l3), some (.int l4), some (.int l5), u6, u7], [.int (jn 0), .int l5, .int l2, .int l1, .ref 0], M)) rfl).trans ?_
    refine (e_kI (q := (24, [some (.ref 0), some (.int l1), some (.int l2), some (.int l3), some (.int l4), some (.int l5), u6, u7], [.int (jn 0), .int l5, .int l2, .int l1, .ref 0])) (q2 := (27, [some (.ref 0), some (.int l1), some (.int l2), some (.int l3), some (.int l4), some (.int l5), u6, u7], [])) (M := M) (o := (pcl GG laz d 43 [.ref 0, .int l1, .int l2, .int l5, .int (jn 0)] M)) (hf := rfl) rfl rfl).trans ?_
    refine kI_in (fun r1 M1 => ?_)
    refine (evn_adv 1 (q' := (28, [some (.ref 0), some (.int l1), some (.int l2), some (.int l3), some (.int l4), some (.int l5), u6, u7], [.int l3, .int r1], M1)) rfl).trans ?_
    refine (e_ic_ne (hf := rfl)).trans ?_
    refine ite_in ?_ ?_
    · refine (evn_adv 5 (q' := (37, [some (.ref 0), some (.int l1), some (.int l2), some (.int l3), some (.int l4), some (.int l5), u6, u7], [.int (jn 1), .int l5, .int l2, .int l1, .ref 0], M1)) rfl).trans ?_
      refine (e_kI (q := (37, [some (.ref 0), some (.int l1), some (.int l2), some (.int l3), some (.int l4), some (.int l5), u6, u7], [.int (jn 1), .int l5, .int l2, .int l1, .ref 0])) (q2 := (40, [some (.ref 0), some (.int l1), some (.int l2), some (.int l3), some (.int l4), some (.int l5), u6, u7], [])) (M := M1) (o := (pcl GG laz d 43 [.ref 0, .int l1, .int l2, .int l5, .int (jn 1)] M1)) (hf := rfl) rfl rfl).trans ?_
      refine kI_in (fun r2 M2 => ?_)
      refine (evn_adv 3 (q' := (43, [some (.ref 0), some (.int l1), some (.int l2), some (.int l3), some (.int l4), some (.int l5), u6, u7], [.int (l3 + (jn 1)), .int r2], M2)) rfl).trans ?_
      refine (e_ic_ne (hf := rfl)).trans ?_
      refine ite_in ?_ ?_
      · refine (evn_adv 5 (q' := (52, [some (.ref 0), some (.int l1), some (.int l2), some (.int l3), some (.int l4), some (.int l5), u6, u7], [.int (jn 2), .int l5, .int l2, .int l1, .ref 0], M2)) rfl).trans ?_
        refine (e_kI (q := (52, [some (.ref 0), some (.int l1), some (.int l2), some (.int l3), some (.int l4), some (.int l5), u6, u7], [.int (jn 2), .int l5, .int l2, .int l1, .ref 0])) (q2 := (55, [some (.ref 0), some (.int l1), some (.int l2), some (.int l3), some (.int l4), some (.int l5), u6, u7], [])) (M := M2) (o := (pcl GG laz d 43 [.ref 0, .int l1, .int l2, .int l5, .int (jn 2)] M2)) (hf := rfl) rfl rfl).trans ?_
        refine kI_in (fun r3 M3 => ?_)
        refine (evn_adv 3 (q' := (58, [some (.ref 0), some (.int l1), some (.int l2), some (.int l3), some (.int l4), some (.int l5), u6, u7], [.int (l3 + (jn 2)), .int r3], M3)) rfl).trans ?_
        refine (e_ic_eq (hf := rfl)).trans ?_
        refine ite_in ?_ ?_
        · refine (evn_adv 4 (q' := (67, [some (.ref 0), some (.int l1), some (.int l2), some (.int l3), some (.int l4), some (.int l5), u6, u7], [.int (jn 0), .int l3, .int l1, .ref 0], M3)) rfl).trans ?_
          refine (e_kI (q := (67, [some (.ref 0), some (.int l1), some (.int l2), some (.int l3), some (.int l4), some (.int l5), u6, u7], [.int (jn 0), .int l3, .int l1, .ref 0])) (q2 := (70, [some (.ref 0), some (.int l1), some (.int l2), some (.int l3), some (.int l4), some (.int l5), u6, u7], [])) (M := M3) (o := (pcl GG laz d 23 [.ref 0, .int l1, .int l3, .int (jn 0)] M3)) (hf := rfl) rfl rfl).trans ?_
          refine kI_in (fun r4 M4 => ?_)
          refine (e_if_ne (hf := rfl)).trans ?_
          refine ite_in ?_ ?_
          · refine (evn_adv 4 (q' := (77, [some (.ref 0), some (.int l1), some (.int l2), some (.int l3), some (.int l4), some (.int l5), u6, u7], [.int (jz 1), .int l3, .int l2, .ref 0], M4)) rfl).trans ?_
            refine (e_kI (q := (77, [some (.ref 0), some (.int l1), some (.int l2), some (.int l3), some (.int l4), some (.int l5), u6, u7], [.int (jz 1), .int l3, .int l2, .ref 0])) (q2 := (80, [some (.ref 0), some (.int l1), some (.int l2), some (.int l3), some (.int l4), some (.int l5), u6, u7], [])) (M := M4) (o := (pcl GG laz d 23 [.ref 0, .int l2, .int l3, .int (jz 1)] M4)) (hf := rfl) rfl rfl).trans ?_
            refine kI_in (fun r5 M5 => ?_)
            refine (evn_adv 1 (q' := (81, [some (.ref 0), some (.int l1), some (.int l2), some (.int l3), some (.int l4), some (.int l5), u6, u7], [.int (jn 1), .int r5], M5)) rfl).trans ?_
            refine (e_ic_ge (hf := rfl)).trans ?_
            refine ite_in ?_ ?_
            · refine (evn_adv 1 (q' := (85, [some (.ref 0), some (.int l1), some (.int l2), some (.int l3), some (.int l4), some (.int l5), u6, u7], [.int (jn 0)], M5)) rfl).trans ?_
              exact e_iretz (hf := rfl)
            · refine (evn_adv 5 (q' := (91, [some (.ref 0), some (.int l1), some (.int l2), some (.int l3), some (.int l4), some (.int l5), u6, u7], [.int (jn 2), .int (l3 + (jn 1)), .ref 0], M5)) rfl).trans ?_
              refine (e_kI (q := (91, [some (.ref 0), some (.int l1), some (.int l2), some (.int l3), some (.int l4), some (.int l5), u6, u7], [.int (jn 2), .int (l3 + (jn 1)), .ref 0])) (q2 := (94, [some (.ref 0), some (.int l1), some (.int l2), some (.int l3), some (.int l4), some (.int l5), u6, u7], [])) (M := M5) (o := (pcl GG laz d 17 [.ref 0, .int (l3 + (jn 1)), .int (jn 2)] M5)) (hf := rfl) rfl rfl).trans ?_
              refine kI_in (fun r6 M6 => ?_)
              refine (evn_adv 3 (q' := (97, [some (.ref 0), some (.int l1), some (.int l2), some (.int l3), some (.int l4), some (.int l5), u6, u7], [.int (jn 2), .int l3, .ref 0, .int r6], M6)) rfl).trans ?_
              refine (e_kI (q := (97, [some (.ref 0), some (.int l1), some (.int l2), some (.int l3), some (.int l4), some (.int l5), u6, u7], [.int (jn 2), .int l3, .ref 0, .int r6])) (q2 := (100, [some (.ref 0), some (.int l1), some (.int l2), some (.int l3), some (.int l4), some (.int l5), u6, u7], [.int r6])) (M := M6) (o := (pcl GG laz d 17 [.ref 0, .int l3, .int (jn 2)] M6)) (hf := rfl) rfl rfl).trans ?_
              refine kI_in (fun r7 M7 => ?_)
              refine (evn_adv 3 (q' := (103, [some (.ref 0), some (.int l1), some (.int l2), some (.int l3), some (.int l4), some (.int l5), u6, u7], [.int (r6 &&& (r7 ^^^ (jz 1)))], M7)) rfl).trans ?_
              refine (e_if_ne (hf := rfl)).trans ?_
              refine ite_in ?_ ?_
              · refine (evn_adv 5 (q' := (111, [some (.ref 0), some (.int l1), some (.int l2), some (.int l3), some (.int l4), some (.int l5), u6, u7], [.int (jn 2), .int (l3 + (jn 2)), .ref 0], M7)) rfl).trans ?_
                refine (e_kI (q := (111, [some (.ref 0), some (.int l1), some (.int l2), some (.int l3), some (.int l4), some (.int l5), u6, u7], [.int (jn 2), .int (l3 + (jn 2)), .ref 0])) (q2 := (114, [some (.ref 0), some (.int l1), some (.int l2), some (.int l3), some (.int l4), some (.int l5), u6, u7], [])) (M := M7) (o := (pcl GG laz d 17 [.ref 0, .int (l3 + (jn 2)), .int (jn 2)] M7)) (hf := rfl) rfl rfl).trans ?_
                refine kI_in (fun r8 M8 => ?_)
                refine (evn_adv 3 (q' := (117, [some (.ref 0), some (.int l1), some (.int l2), some (.int l3), some (.int l4), some (.int l5), u6, u7], [.int (jn 2), .int l3, .ref 0, .int r8], M8)) rfl).trans ?_
                refine (e_kI (q := (117, [some (.ref 0), some (.int l1), some (.int l2), some (.int l3), some (.int l4), some (.int l5), u6, u7], [.int (jn 2), .int l3, .ref 0, .int r8])) (q2 := (120, [some (.ref 0), some (.int l1), some (.int l2), some (.int l3), some (.int l4), some (.int l5), u6, u7], [.int r8])) (M := M8) (o := (pcl GG laz d 17 [.ref 0, .int l3, .int (jn 2)] M8)) (hf := rfl) rfl rfl).trans ?_
                refine kI_in (fun r9 M9 => ?_)
                refine (evn_adv 3 (q' := (123, [some (.ref 0), some (.int l1), some (.int l2), some (.int l3), some (.int l4), some (.int l5), u6, u7], [.int (r8 &&& (r9 ^^^ (jz 1)))], M9)) rfl).trans ?_
                refine (e_if_eq (hf := rfl)).trans ?_
                refine ite_in ?_ ?_
                · refine (evn_adv 4 (q' := (133, [some (.ref 0), some (.int l1), some (.int l2), some (.int l3), some (.int l4), some (.int l5), u6, u7], [.int l5, .int l2, .int l1, .ref 0], M9)) rfl).trans ?_
                  refine (e_kI (q := (133, [some (.ref 0), some (.int l1), some (.int l2), some (.int l3), some (.int l4), some (.int l5), u6, u7], [.int l5, .int l2, .int l1, .ref 0])) (q2 := (136, [some (.ref 0), some (.int l1), some (.int l2), some (.int l3), some (.int l4), some (.int l5), u6, u7], [])) (M := M9) (o := (pcl GG laz d 44 [.ref 0, .int l1, .int l2, .int l5] M9)) (hf := rfl) rfl rfl).trans ?_
                  refine kI_in (fun r10 M10 => ?_)
                  refine (evn_adv 2 (q' := (140, [some (.ref 0), some (.int l1), some (.int l2), some (.int l3), some (.int l4), some (.int l5), some (.int r10), u7], [.int r10], M10)) rfl).trans ?_
                  refine (e_if_lt (hf := rfl)).trans ?_
                  refine ite_in ?_ ?_
                  · refine (evn_adv 1 (q' := (168, [some (.ref 0), some (.int l1), some (.int l2), some (.int l3), some (.int l4), some (.int l5), some (.int r10), u7], [.int (jn 0)], M10)) rfl).trans ?_
                    exact e_iretz (hf := rfl)
                  · refine (evn_adv 2 (q' := (146, [some (.ref 0), some (.int l1), some (.int l2), some (.int l3), some (.int l4), some (.int l5), some (.int r10), u7], [.int (jn 2), .int r10], M10)) rfl).trans ?_
                    refine (e_ic_gt (hf := rfl)).trans ?_
                    refine ite_in ?_ ?_
                    · refine (evn_adv 1 (q' := (168, [some (.ref 0), some (.int l1), some (.int l2), some (.int l3), some (.int l4), some (.int l5), some (.int r10), u7], [.int (jn 0)], M10)) rfl).trans ?_
                      exact e_iretz (hf := rfl)
                    · refine (evn_adv 1 (q' := (151, [some (.ref 0), some (.int l1), some (.int l2), some (.int l3), some (.int l4), some (.int l5), some (.int r10), u7], [.int r10], M10)) rfl).trans ?_
                      refine (e_if_ne (hf := rfl)).trans ?_
                      refine ite_in ?_ ?_
                      · refine (evn_adv 7 (q' := (161, [some (.ref 0), some (.int l1), some (.int l2), some (.int l3), some (.int l4), some (.int l5), some (.int r10), u7], [.int (l3 + (jn 2)), .int (l3 + (jn 1)), .ref 0], M10)) rfl).trans ?_
                        refine (e_kI (q := (161, [some (.ref 0), some (.int l1), some (.int l2), some (.int l3), some (.int l4), some (.int l5), some (.int r10), u7], [.int (l3 + (jn 2)), .int (l3 + (jn 1)), .ref 0])) (q2 := (164, [some (.ref 0), some (.int l1), some (.int l2), some (.int l3), some (.int l4), some (.int l5), some (.int r10), u7], [])) (M := M10) (o := (pcl GG laz d 19 [.ref 0, .int (l3 + (jn 1)), .int (l3 + (jn 2))] M10)) (hf := rfl) rfl rfl).trans ?_
                        refine kI_in (fun r11 M11 => ?_)
                        refine (e_if_ne (hf := rfl)).trans ?_
                        refine ite_in ?_ ?_
                        · refine (evn_adv 1 (q' := (168, [some (.ref 0), some (.int l1), some (.int l2), some (.int l3), some (.int l4), some (.int l5), some (.int r10), u7], [.int (jn 0)], M11)) rfl).trans ?_
                          exact e_iretz (hf := rfl)
                        · refine (evn_adv 2 (q' := (172, [some (.ref 0), some (.int l1), some (.int l2), some (.int l3), some (.int l4), some (.int l5), some (.int r10), some (.int (jn 2))], [], M11)) rfl).trans ?_
                          rfl
                      · refine (evn_adv 2 (q' := (172, [some (.ref 0), some (.int l1), some (.int l2), some (.int l3), some (.int l4), some (.int l5), some (.int r10), some (.int (jn 2))], [], M10)) rfl).trans ?_
                        rfl
                · refine (evn_adv 1 (q' := (127, [some (.ref 0), some (.int l1), some (.int l2), some (.int l3), some (.int l4), some (.int l5), u6, u7], [.int (jn 0)], M9)) rfl).trans ?_
                  exact e_iretz (hf := rfl)
              · refine (evn_adv 1 (q' := (127, [some (.ref 0), some (.int l1), some (.int l2), some (.int l3), some (.int l4), some (.int l5), u6, u7], [.int (jn 0)], M7)) rfl).trans ?_
                exact e_iretz (hf := rfl)
          · refine (evn_adv 1 (q' := (85, [some (.ref 0), some (.int l1), some (.int l2), some (.int l3), some (.int l4), some (.int l5), u6, u7], [.int (jn 0)], M4)) rfl).trans ?_
            exact e_iretz (hf := rfl)
        · refine (evn_adv 1 (q' := (62, [some (.ref 0), some (.int l1), some (.int l2), some (.int l3), some (.int l4), some (.int l5), u6, u7], [.int (jn 0)], M3)) rfl).trans ?_
          exact e_iretz (hf := rfl)
      · refine (evn_adv 1 (q' := (62, [some (.ref 0), some (.int l1), some (.int l2), some (.int l3), some (.int l4), some (.int l5), u6, u7], [.int (jn 0)], M2)) rfl).trans ?_
        exact e_iretz (hf := rfl)
    · refine (evn_adv 1 (q' := (62, [some (.ref 0), some (.int l1), some (.int l2), some (.int l3), some (.int l4), some (.int l5), u6, u7], [.int (jn 0)], M1)) rfl).trans ?_
      exact e_iretz (hf := rfl)
  · refine (evn_adv 5 (q' := (208, [some (.ref 0), some (.int l1), some (.int l2), some (.int l3), some (.int l4), some (.int l5), u6, u7], [.int (jn 0), .int l4, .int l2, .int l1, .ref 0], M)) rfl).trans ?_
    refine (e_kI (q := (208, [some (.ref 0), some (.int l1), some (.int l2), some (.int l3), some (.int l4), some (.int l5), u6, u7], [.int (jn 0), .int l4, .int l2, .int l1, .ref 0])) (q2 := (211, [some (.ref 0), some (.int l1), some (.int l2), some (.int l3), some (.int l4), some (.int l5), u6, u7], [])) (M := M) (o := (pcl GG laz d 43 [.ref 0, .int l1, .int l2, .int l4, .int (jn 0)] M)) (hf := rfl) rfl rfl).trans ?_
    refine kI_in (fun r1 M1 => ?_)
    refine (evn_adv 1 (q' := (213, [some (.ref 0), some (.int l1), some (.int l2), some (.int l3), some (.int l4), some (.int l5), u6, u7], [.int (jz 5), .int r1], M1)) rfl).trans ?_
    refine (e_ic_ne (hf := rfl)).trans ?_
    refine ite_in ?_ ?_
    · refine (evn_adv 4 (q' := (221, [some (.ref 0), some (.int l1), some (.int l2), some (.int l3), some (.int l4), some (.int l5), u6, u7], [.int l4, .int l2, .int l1, .ref 0], M1)) rfl).trans ?_
      refine (e_kI (q := (221, [some (.ref 0), some (.int l1), some (.int l2), some (.int l3), some (.int l4), some (.int l5), u6, u7], [.int l4, .int l2, .int l1, .ref 0])) (q2 := (224, [some (.ref 0), some (.int l1), some (.int l2), some (.int l3), some (.int l4), some (.int l5), u6, u7], [])) (M := M1) (o := (pcl GG laz d 44 [.ref 0, .int l1, .int l2, .int l4] M1)) (hf := rfl) rfl rfl).trans ?_
      refine kI_in (fun r2 M2 => ?_)
      refine (evn_adv 1 (q' := (226, [some (.ref 0), some (.int l1), some (.int l2), some (.int l3), some (.int l4), some (.int l5), u6, u7], [.int (jz 5), .int r2], M2)) rfl).trans ?_
      refine (e_ic_ne (hf := rfl)).trans ?_
      refine ite_in ?_ ?_
      · refine (evn_adv 2 (q' := (234, [some (.ref 0), some (.int l1), some (.int l2), some (.int l3), some (.int l4), some (.int l5), u6, u7], [.int (jn 1)], M2)) rfl).trans ?_
        exact e_iretz (hf := rfl)
      · refine (evn_adv 1 (q' := (234, [some (.ref 0), some (.int l1), some (.int l2), some (.int l3), some (.int l4), some (.int l5), u6, u7], [.int (jn 0)], M2)) rfl).trans ?_
        exact e_iretz (hf := rfl)
    · refine (evn_adv 1 (q' := (234, [some (.ref 0), some (.int l1), some (.int l2), some (.int l3), some (.int l4), some (.int l5), u6, u7], [.int (jn 0)], M1)) rfl).trans ?_
      exact e_iretz (hf := rfl)
theorem h_77_172 (d : Nat) (l1 : Int32) (l2 : Int32) (l3 : Int32) (l4 : Int32) (l5 : Int32) (u6 : Option Value) (l7 : Int32) (M : PM) : E_77 d (172, [some (.ref 0), some (.int l1), some (.int l2), some (.int l3), some (.int l4), some (.int l5), u6, some (.int l7)], [], M) = (if l7 < jn 0 then E_77 d (11, [some (.ref 0), some (.int l1), some (.int l2), some (.int l3), some (.int l4), some (.int (l5 + (jn 1))), u6, some (.int l7)], [], M) else (kI (pcl GG laz d 14 [.ref 0] M) fun r1 M1 => (if r1 = (l3 + l7) then E_77 d (172, [some (.ref 0), some (.int l1), some (.int l2), some (.int l3), some (.int l4), some (.int l5), u6, some (.int (l7 + (jz 1)))], [], M1) else (rZ (jn 0) M1)))) := by
  refine (evn_adv 1 (q' := (174, [some (.ref 0), some (.int l1), some (.int l2), some (.int l3), some (.int l4), some (.int l5), u6, some (.int l7)], [.int l7], M)) rfl).trans ?_
  refine (e_if_lt (hf := rfl)).trans ?_
  refine ite_in ?_ ?_
  · refine (evn_adv 2 (q' := (11, [some (.ref 0), some (.int l1), some (.int l2), some (.int l3), some (.int l4), some (.int (l5 + (jn 1))), u6, some (.int l7)], [], M)) rfl).trans ?_
    rfl
  · refine (evn_adv 1 (q' := (178, [some (.ref 0), some (.int l1), some (.int l2), some (.int l3), some (.int l4), some (.int l5), u6, some (.int l7)], [.ref 0], M)) rfl).trans ?_
    refine (e_kI (q := (178, [some (.ref 0), some (.int l1), some (.int l2), some (.int l3), some (.int l4), some (.int l5), u6, some (.int l7)], [.ref 0])) (q2 := (181, [some (.ref 0), some (.int l1), some (.int l2), some (.int l3), some (.int l4), some (.int l5), u6, some (.int l7)], [])) (M := M) (o := (pcl GG laz d 14 [.ref 0] M)) (hf := rfl) rfl rfl).trans ?_
    refine kI_in (fun r1 M1 => ?_)
    refine (evn_adv 3 (q' := (185, [some (.ref 0), some (.int l1), some (.int l2), some (.int l3), some (.int l4), some (.int l5), u6, some (.int l7)], [.int (l3 + l7), .int r1], M1)) rfl).trans ?_
    refine (e_ic_eq (hf := rfl)).trans ?_
    refine ite_in ?_ ?_
    · refine (evn_adv 2 (q' := (172, [some (.ref 0), some (.int l1), some (.int l2), some (.int l3), some (.int l4), some (.int l5), u6, some (.int (l7 + (jz 1)))], [], M1)) rfl).trans ?_
      rfl
    · refine (evn_adv 1 (q' := (189, [some (.ref 0), some (.int l1), some (.int l2), some (.int l3), some (.int l4), some (.int l5), u6, some (.int l7)], [.int (jn 0)], M1)) rfl).trans ?_
      exact e_iretz (hf := rfl)
/-- TermStrategiesLaw.unified(LTermStrategies;III)Z -/
noncomputable abbrev E_78 (d : Nat) : PQ → PO := evn (rnn k_78 laz none (pcl GG laz d) 2)
theorem q_78 (d : Nat) (l1 : Int32) (l2 : Int32) (l3 : Int32) (M : PM) : pcl GG laz (d + 1) 78 [.ref 0, .int l1, .int l2, .int l3] M = (kI (pcl GG laz d 40 [.ref 0, .int l1, .int l2] M) fun r1 M1 => (if r1 < jn 0 then (if (jz 8) < r1 then (kI (pcl GG laz d 40 [.ref 0, .int l2, .int l1] M1) fun r2 M2 => (if r2 = r1 then (rZ (jn 1) M2) else (rZ (jn 0) M2))) else (rZ (jn 0) M1)) else (if r1 = l3 then (kI (pcl GG laz d 22 [.ref 0, .int l1, .int l3, .int (jn 97), .int (jn 0)] M1) fun r2 M2 => (if r2 = (jz 5) then (kI (pcl GG laz d 22 [.ref 0, .int l2, .int l3, .int (jn 97), .int (jn 0)] M2) fun r3 M3 => (if r3 = (jz 5) then (kI (pcl GG laz d 40 [.ref 0, .int l2, .int l1] M3) fun r4 M4 => (if r4 = (l3 + (jn 1)) then (kI (pcl GG laz d 19 [.ref 0, .int l3, .int (l3 + (jn 1))] M4) fun r5 M5 => (if r5 = jn 0 then (kI (pcl GG laz d 14 [.ref 0] M5) fun r6 M6 => (if r6 = (l3 + (jn 1)) then (kI (pcl GG laz d 14 [.ref 0] M6) fun r7 M7 => (if r7 = l3 then (rZ (jn 1) M7) else (rZ (jn 0) M7))) else (rZ (jn 0) M6))) else (rZ (jn 0) M5))) else (rZ (jn 0) M4))) else (rZ (jn 0) M3))) else (rZ (jn 0) M2))) else (rZ (jn 0) M1)))) := by
  refine (pcl_unz (mt := t_78) (by decide) rfl (Nat.le_of_ble_eq_true rfl)).trans ?_
  show E_78 d (0, [some (.ref 0), some (.int l1), some (.int l2), some (.int l3), none], [], M) = _
  refine (evn_adv 3 (q' := (3, [some (.ref 0), some (.int l1), some (.int l2), some (.int l3), none], [.int l2, .int l1, .ref 0], M)) rfl).trans ?_
  refine (e_kI (q := (3, [some (.ref 0), some (.int l1), some (.int l2), some (.int l3), none], [.int l2, .int l1, .ref 0])) (q2 := (6, [some (.ref 0), some (.int l1), some (.int l2), some (.int l3), none], [])) (M := M) (o := (pcl GG laz d 40 [.ref 0, .int l1, .int l2] M)) (hf := rfl) rfl rfl).trans ?_
  refine kI_in (fun r1 M1 => ?_)
  refine (evn_adv 2 (q' := (10, [some (.ref 0), some (.int l1), some (.int l2), some (.int l3), some (.int r1)], [.int r1], M1)) rfl).trans ?_
  refine (e_if_ge (hf := rfl)).trans ?_
  refine ite_in ?_ ?_
  · refine (evn_adv 2 (q' := (17, [some (.ref 0), some (.int l1), some (.int l2), some (.int l3), some (.int r1)], [.int (jz 8), .int r1], M1)) rfl).trans ?_
    refine (e_ic_le (hf := rfl)).trans ?_
    refine ite_in ?_ ?_
    · refine (evn_adv 3 (q' := (23, [some (.ref 0), some (.int l1), some (.int l2), some (.int l3), some (.int r1)], [.int l1, .int l2, .ref 0], M1)) rfl).trans ?_
      refine (e_kI (q := (23, [some (.ref 0), some (.int l1), some (.int l2), some (.int l3), some (.int r1)], [.int l1, .int l2, .ref 0])) (q2 := (26, [some (.ref 0), some (.int l1), some (.int l2), some (.int l3), some (.int r1)], [])) (M := M1) (o := (pcl GG laz d 40 [.ref 0, .int l2, .int l1] M1)) (hf := rfl) rfl rfl).trans ?_
      refine kI_in (fun r2 M2 => ?_)
      refine (evn_adv 1 (q' := (28, [some (.ref 0), some (.int l1), some (.int l2), some (.int l3), some (.int r1)], [.int r1, .int r2], M2)) rfl).trans ?_
      refine (e_ic_ne (hf := rfl)).trans ?_
      refine ite_in ?_ ?_
      · refine (evn_adv 2 (q' := (36, [some (.ref 0), some (.int l1), some (.int l2), some (.int l3), some (.int r1)], [.int (jn 1)], M2)) rfl).trans ?_
        exact e_iretz (hf := rfl)
      · refine (evn_adv 1 (q' := (36, [some (.ref 0), some (.int l1), some (.int l2), some (.int l3), some (.int r1)], [.int (jn 0)], M2)) rfl).trans ?_
        exact e_iretz (hf := rfl)
    · refine (evn_adv 1 (q' := (36, [some (.ref 0), some (.int l1), some (.int l2), some (.int l3), some (.int r1)], [.int (jn 0)], M1)) rfl).trans ?_
      exact e_iretz (hf := rfl)
  · refine (evn_adv 2 (q' := (40, [some (.ref 0), some (.int l1), some (.int l2), some (.int l3), some (.int r1)], [.int l3, .int r1], M1)) rfl).trans ?_
    refine (e_ic_ne (hf := rfl)).trans ?_
    refine ite_in ?_ ?_
    · refine (evn_adv 5 (q' := (49, [some (.ref 0), some (.int l1), some (.int l2), some (.int l3), some (.int r1)], [.int (jn 0), .int (jn 97), .int l3, .int l1, .ref 0], M1)) rfl).trans ?_
      refine (e_kI (q := (49, [some (.ref 0), some (.int l1), some (.int l2), some (.int l3), some (.int r1)], [.int (jn 0), .int (jn 97), .int l3, .int l1, .ref 0])) (q2 := (52, [some (.ref 0), some (.int l1), some (.int l2), some (.int l3), some (.int r1)], [])) (M := M1) (o := (pcl GG laz d 22 [.ref 0, .int l1, .int l3, .int (jn 97), .int (jn 0)] M1)) (hf := rfl) rfl rfl).trans ?_
      refine kI_in (fun r2 M2 => ?_)
      refine (evn_adv 1 (q' := (54, [some (.ref 0), some (.int l1), some (.int l2), some (.int l3), some (.int r1)], [.int (jz 5), .int r2], M2)) rfl).trans ?_
      refine (e_ic_ne (hf := rfl)).trans ?_
      refine ite_in ?_ ?_
      · refine (evn_adv 5 (q' := (63, [some (.ref 0), some (.int l1), some (.int l2), some (.int l3), some (.int r1)], [.int (jn 0), .int (jn 97), .int l3, .int l2, .ref 0], M2)) rfl).trans ?_
        refine (e_kI (q := (63, [some (.ref 0), some (.int l1), some (.int l2), some (.int l3), some (.int r1)], [.int (jn 0), .int (jn 97), .int l3, .int l2, .ref 0])) (q2 := (66, [some (.ref 0), some (.int l1), some (.int l2), some (.int l3), some (.int r1)], [])) (M := M2) (o := (pcl GG laz d 22 [.ref 0, .int l2, .int l3, .int (jn 97), .int (jn 0)] M2)) (hf := rfl) rfl rfl).trans ?_
        refine kI_in (fun r3 M3 => ?_)
        refine (evn_adv 1 (q' := (68, [some (.ref 0), some (.int l1), some (.int l2), some (.int l3), some (.int r1)], [.int (jz 5), .int r3], M3)) rfl).trans ?_
        refine (e_ic_eq (hf := rfl)).trans ?_
        refine ite_in ?_ ?_
        · refine (evn_adv 3 (q' := (76, [some (.ref 0), some (.int l1), some (.int l2), some (.int l3), some (.int r1)], [.int l1, .int l2, .ref 0], M3)) rfl).trans ?_
          refine (e_kI (q := (76, [some (.ref 0), some (.int l1), some (.int l2), some (.int l3), some (.int r1)], [.int l1, .int l2, .ref 0])) (q2 := (79, [some (.ref 0), some (.int l1), some (.int l2), some (.int l3), some (.int r1)], [])) (M := M3) (o := (pcl GG laz d 40 [.ref 0, .int l2, .int l1] M3)) (hf := rfl) rfl rfl).trans ?_
          refine kI_in (fun r4 M4 => ?_)
          refine (evn_adv 3 (q' := (82, [some (.ref 0), some (.int l1), some (.int l2), some (.int l3), some (.int r1)], [.int (l3 + (jn 1)), .int r4], M4)) rfl).trans ?_
          refine (e_ic_ne (hf := rfl)).trans ?_
          refine ite_in ?_ ?_
          · refine (evn_adv 5 (q' := (90, [some (.ref 0), some (.int l1), some (.int l2), some (.int l3), some (.int r1)], [.int (l3 + (jn 1)), .int l3, .ref 0], M4)) rfl).trans ?_
            refine (e_kI (q := (90, [some (.ref 0), some (.int l1), some (.int l2), some (.int l3), some (.int r1)], [.int (l3 + (jn 1)), .int l3, .ref 0])) (q2 := (93, [some (.ref 0), some (.int l1), some (.int l2), some (.int l3), some (.int r1)], [])) (M := M4) (o := (pcl GG laz d 19 [.ref 0, .int l3, .int (l3 + (jn 1))] M4)) (hf := rfl) rfl rfl).trans ?_
            refine kI_in (fun r5 M5 => ?_)
            refine (e_if_eq (hf := rfl)).trans ?_
            refine ite_in ?_ ?_
            · refine (evn_adv 1 (q' := (99, [some (.ref 0), some (.int l1), some (.int l2), some (.int l3), some (.int r1)], [.ref 0], M5)) rfl).trans ?_
              refine (e_kI (q := (99, [some (.ref 0), some (.int l1), some (.int l2), some (.int l3), some (.int r1)], [.ref 0])) (q2 := (102, [some (.ref 0), some (.int l1), some (.int l2), some (.int l3), some (.int r1)], [])) (M := M5) (o := (pcl GG laz d 14 [.ref 0] M5)) (hf := rfl) rfl rfl).trans ?_
              refine kI_in (fun r6 M6 => ?_)
              refine (evn_adv 3 (q' := (105, [some (.ref 0), some (.int l1), some (.int l2), some (.int l3), some (.int r1)], [.int (l3 + (jn 1)), .int r6], M6)) rfl).trans ?_
              refine (e_ic_ne (hf := rfl)).trans ?_
              refine ite_in ?_ ?_
              · refine (evn_adv 1 (q' := (109, [some (.ref 0), some (.int l1), some (.int l2), some (.int l3), some (.int r1)], [.ref 0], M6)) rfl).trans ?_
                refine (e_kI (q := (109, [some (.ref 0), some (.int l1), some (.int l2), some (.int l3), some (.int r1)], [.ref 0])) (q2 := (112, [some (.ref 0), some (.int l1), some (.int l2), some (.int l3), some (.int r1)], [])) (M := M6) (o := (pcl GG laz d 14 [.ref 0] M6)) (hf := rfl) rfl rfl).trans ?_
                refine kI_in (fun r7 M7 => ?_)
                refine (evn_adv 1 (q' := (113, [some (.ref 0), some (.int l1), some (.int l2), some (.int l3), some (.int r1)], [.int l3, .int r7], M7)) rfl).trans ?_
                refine (e_ic_ne (hf := rfl)).trans ?_
                refine ite_in ?_ ?_
                · refine (evn_adv 2 (q' := (121, [some (.ref 0), some (.int l1), some (.int l2), some (.int l3), some (.int r1)], [.int (jn 1)], M7)) rfl).trans ?_
                  exact e_iretz (hf := rfl)
                · refine (evn_adv 1 (q' := (121, [some (.ref 0), some (.int l1), some (.int l2), some (.int l3), some (.int r1)], [.int (jn 0)], M7)) rfl).trans ?_
                  exact e_iretz (hf := rfl)
              · refine (evn_adv 1 (q' := (121, [some (.ref 0), some (.int l1), some (.int l2), some (.int l3), some (.int r1)], [.int (jn 0)], M6)) rfl).trans ?_
                exact e_iretz (hf := rfl)
            · refine (evn_adv 1 (q' := (97, [some (.ref 0), some (.int l1), some (.int l2), some (.int l3), some (.int r1)], [.int (jn 0)], M5)) rfl).trans ?_
              exact e_iretz (hf := rfl)
          · refine (evn_adv 1 (q' := (97, [some (.ref 0), some (.int l1), some (.int l2), some (.int l3), some (.int r1)], [.int (jn 0)], M4)) rfl).trans ?_
            exact e_iretz (hf := rfl)
        · refine (evn_adv 1 (q' := (72, [some (.ref 0), some (.int l1), some (.int l2), some (.int l3), some (.int r1)], [.int (jn 0)], M3)) rfl).trans ?_
          exact e_iretz (hf := rfl)
      · refine (evn_adv 1 (q' := (72, [some (.ref 0), some (.int l1), some (.int l2), some (.int l3), some (.int r1)], [.int (jn 0)], M2)) rfl).trans ?_
        exact e_iretz (hf := rfl)
    · refine (evn_adv 1 (q' := (72, [some (.ref 0), some (.int l1), some (.int l2), some (.int l3), some (.int r1)], [.int (jn 0)], M1)) rfl).trans ?_
      exact e_iretz (hf := rfl)
