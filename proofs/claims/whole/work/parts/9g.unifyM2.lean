/-! the model's unifying of two trees -/
abbrev unbB (be : BT) : Nat := cntP (fun v => (be v).isNone) 12
def UnR (be : BT) (M : PM) (s t : Tm) (x : PO) : Prop := ∃ M', Fr [76] M M' ∧ ((x = rI (jn 1) M' ∧ ∃ be' m' ta', IMx be' m' ta' ∧ BN be' M' ∧ (be' = be ∨ unbB be' < unbB be) ∧ ∀ th, SolB be' th ↔ SolB be th ∧ ap th s = ap th t) ∨ (x = rI (jn 0) M' ∧ ∀ th, SolB be th → ap th s ≠ ap th t))
theorem UnR.z {be : BT} {M : PM} {s t : Tm} {x : PO} (h : UnR be M s t x) : UnR be M s t (kI x fun r M => if r = jn 0 then rZ (jn 0) M else rZ (jn 1) M) := by
  obtain ⟨M', h1, ⟨h2, h3⟩ | ⟨h2, h3⟩⟩ := h
  · exact ⟨M', h1, Or.inl ⟨by rw [h2, kI_r, ieq_neg (by omega) (by omega) (by omega), rZ_1], h3⟩⟩
  · exact ⟨M', h1, Or.inr ⟨by rw [h2, kI_r, ieq_pos rfl, rZ_0], h3⟩⟩
section
variable {d : Nat} {M M' : PM} {be : BT} {m : Nat → Tm} {ta : Nat → Nat} {s t u : Tm} {i j : Nat}
theorem BN.bind {v : Nat} (hB : BN be M) (hv : v < 12) (hp : PT M j u) : BN (va_up be v (some u)) (sI M 76 (va_up (M.1 76) v (jn j))) := by
  intro w hw
  have h := hB w hw
  have e : ∀ w, (sI M 76 (va_up (M.1 76) v (jn j))).1 76 w = if w = v then jn j else M.1 76 w := fun w => by rw [sI_k, up_at]
  have hp' : ∀ k x, PT M k x → PT (sI M 76 (va_up (M.1 76) v (jn j))) k x := fun k x hx => hx
  rw [e, up_at]
  by_cases ew : w = v
  · rw [if_pos ew, if_pos ew]
    exact ⟨j, rfl, hp' _ _ hp⟩
  · rw [if_neg ew, if_neg ew]
    cases hb : be w with
    | none => rw [hb] at h; exact h
    | some x =>
      rw [hb] at h
      obtain ⟨k, h1, h2⟩ := h
      exact ⟨k, h1, hp' _ _ h2⟩
/-- a variable and what it isn't in -/
theorem m_bnd {c : Int32} {x y : Tm} (hd : 530 ≤ d) (hI : IMx be m ta) (hB : BN be M) (hp : PT M i (Nd c x y)) (hq : PT M j u) (hv : vE c) (hvb : be (vn c) = none) (hdn : dnB be u) (hne : u ≠ vr (vn c)) :
    UnR be M (Nd c x y) u (kI (pcl GG lay d 155 [.ref 52, .int (jn (vn c)), .int (jn j)] M) fun r5 M5 => (if r5 = jn 0 then (oB (aldI lay none M5 75 (jn i)) fun v6 => (kI (pcl GG lay d 150 [.int v6] M5) fun r7 M7 => (oB (astI lay M7 76 r7 (jn j)) fun M8 => (rZ (jn 1) M8)))) else (rZ (jn 0) M5))) := by
  have hvl := vn_lt hv
  obtain ⟨s1, s2, s3⟩ := hp.s
  have hdp := dp_521 hI hq.1.1 hq.1.2
  rw [m_isIn hvl hvb hI hB _ u j d (Nat.le_refl _) hq (by omega), kI_r]
  by_cases h : vcd (vn c) ∈ en (ap m u)
  · rw [bI_1 h, ieq_neg (by omega) (by omega) (by omega), rZ_0]
    refine ⟨M, Fr.rf, Or.inr ⟨rfl, fun th hth e => ?_⟩⟩
    rw [ap_v hv, ← hI.aq hth hq.1.1] at e
    have hw := ap_wf hI.2.2.2.1 u hq.1.1
    have h2 := (sol_in hvl _ hw h th).2 (fun z => by
      obtain ⟨c', x', y', rfl, h3⟩ := hdn
      by_cases hv' : vE c'
      · have h4 := h3 hv'
        rw [ap_v hv', hI.2.1 _ (vn_lt hv') h4] at z
        have h5 : vcd (vn c') = vcd (vn c) := by
          have := congrArg en z
          rw [en_0, en_0] at this
          simpa using this
        rw [vcd_vn hv', vcd_vn hv] at h5
        subst h5
        apply hne
        obtain ⟨-, hc | hc | hc⟩ := hq.1.1
        · rw [hc.2.1, hc.2.2]; show Nd c' Lf Lf = Nd (vcd (vn c')) Lf Lf; rw [vcd_vn hv']
        · omega
        · omega
      · rw [ap_n hv'] at z
        have := congrArg en z
        rw [en_n, en_0] at this
        rw [List.cons.injEq] at this
        exact hv' (this.1 ▸ vcd_E hvl))
    rw [e] at h2
    omega
  · obtain ⟨m', ta', b1, b2, b3⟩ := hI.bind hvl hvb hq.1.1 hq.1.2 hdn h
    rw [bI_n h, ieq_pos rfl, ald_n (n := 160) rfl s3 (by omega), oB_s, s1, c_num (by omega) hv, kI_r, ast_n (n := 12) rfl hvl (by omega), oB_s, rZ_1]
    refine ⟨_, Fr.sI (by decide), Or.inl ⟨rfl, _, m', ta', b1, hB.bind hvl hq, Or.inr b3, fun th => ?_⟩⟩
    rw [b2, ap_v hv]
theorem m_uni : ∀ U n s t i j k root d be m ta M, unbB be ≤ U → sz (ap m s) ≤ n → IMx be m ta → BN be M → PT M i s → PT M j t → (wfE root ∧ sz root ≤ 40) → Sb k (ap m root) (ap m s) → 1100 ≤ d + k → UnR be M s t (pcl GG lay d 156 [.ref 52, .int (jn i), .int (jn j)] M) := by
  intro U
  induction U using Nat.strongRecOn with
  | ind U ihU =>
    intro n
    induction n with
    | zero =>
      intro s t i j k root d be m ta M _ hn hI _ hp
      have := szE_pos (ap_wf hI.2.2.2.1 s hp.1.1)
      omega
    | succ n ihn =>
      intro s t i j k root d be m ta M hU hn hI hB hp hq hr hS hd
      have hk := Sb_dp _ _ _ hS
      have h521 := dp_521 hI hr.1 hr.2
      obtain ⟨d, rfl⟩ := ex_add (show 1 ≤ d by omega)
      have hws := ap_wf hI.2.2.2.1 s hp.1.1
      have hds := dp_le (ap m s)
      have hdpos : 0 < dp (ap m s) := by
        obtain ⟨c, x, y, e, -⟩ := wfE_cases hws
        rw [e]; exact Nat.succ_pos _
      obtain ⟨j1, s', e1, p1, ⟨c, x, y, rfl, e2⟩, e3⟩ := m_stand (d := d) (by omega) hI hB hp
      obtain ⟨j2, t', f1, p2, ⟨c', x', y', rfl, f2⟩, f3⟩ := m_stand (d := d) (by omega) hI hB hq
      obtain ⟨s1, s2, s3⟩ := p1.s
      obtain ⟨t1, t2, t3⟩ := p2.s
      have a1 : ∀ M0 : PM, M0.1 75 = M.1 75 → aldI lay none M0 75 (jn j1) = some c := fun M0 h => by rw [ald_n (n := 160) rfl s3 (by omega), h, s1]
      have a2 : ∀ M0 : PM, M0.1 75 = M.1 75 → aldI lay none M0 75 (jn j2) = some c' := fun M0 h => by rw [ald_n (n := 160) rfl t3 (by omega), h, t1]
      -- what is owed of what they stand for
      suffices H : UnR be M (Nd c x y) (Nd c' x' y') (pcl GG lay (d + 1) 156 [.ref 52, .int (jn i), .int (jn j)] M) by
        obtain ⟨M', h1, ⟨h2, be', m', ta', h3, h4, h5, h6⟩ | ⟨h2, h3⟩⟩ := H
        · refine ⟨M', h1, Or.inl ⟨h2, be', m', ta', h3, h4, h5, fun th => ?_⟩⟩
          rw [h6]
          constructor
          · rintro ⟨g1, g2⟩; exact ⟨g1, by rw [← e3 th g1, ← f3 th g1, g2]⟩
          · rintro ⟨g1, g2⟩; exact ⟨g1, by rw [e3 th g1, f3 th g1, g2]⟩
        · exact ⟨M', h1, Or.inr ⟨h2, fun th g1 g2 => h3 th g1 (by rw [e3 th g1, f3 th g1, g2])⟩⟩
      have e5 := e3 m hI.sol
      rw [q_156, e1, kI_r, f1, kI_r, a1 M rfl, oB_s, c_free (by omega) s2, kI_r]
      by_cases hc : vE c
      · rw [bI_1 hc, ieq_neg (by omega) (by omega) (by omega), a2 M rfl, oB_s, c_free (by omega) t2, kI_r]
        have cx : Nd c x y = vr (vn c) := by
          obtain ⟨-, h | h | h⟩ := p1.1.1
          · rw [h.2.1, h.2.2]; show _ = Nd (vcd (vn c)) Lf Lf; rw [vcd_vn hc]
          · omega
          · omega
        have bnd : Nd c' x' y' ≠ vr (vn c) → ∀ (u1 u2 u5 u6 : Option Value), UnR be M (Nd c x y) (Nd c' x' y') (E_156 d (56, [some (.ref 52), u1, u2, some (.int (jn j1)), some (.int (jn j2)), u5, u6], [], M)) := by
          intro hne u1 u2 u5 u6
          rw [h_156_56, a1 M rfl, oB_s, c_free (by omega) s2, kI_r, bI_1 hc, ieq_neg (by omega) (by omega) (by omega), h_156_81, a1 M rfl, oB_s, c_free (by omega) s2, kI_r, bI_1 hc, ieq_neg (by omega) (by omega) (by omega), if_pos rfl, a1 M rfl, oB_s, c_num (by omega) hc, kI_r]
          exact m_bnd (by omega) hI hB p1 p2 hc (e2 hc) ⟨c', x', y', rfl, f2⟩ hne
        by_cases hc' : vE c'
        · have cx' : Nd c' x' y' = vr (vn c') := by
            obtain ⟨-, h | h | h⟩ := p2.1.1
            · rw [h.2.1, h.2.2]; show _ = Nd (vcd (vn c')) Lf Lf; rw [vcd_vn hc']
            · omega
            · omega
          rw [bI_1 hc', ieq_neg (by omega) (by omega) (by omega), a1 M rfl, oB_s, a2 M rfl, oB_s]
          by_cases hcc : c = c'
          · rw [if_pos hcc, rZ_1]
            refine ⟨M, Fr.rf, Or.inl ⟨rfl, be, m, ta, hI, hB, Or.inl rfl, fun th => ?_⟩⟩
            rw [ap_v hc, ap_v hc', hcc]
            exact ⟨fun h => ⟨h, rfl⟩, fun h => h.1⟩
          · rw [if_neg hcc]
            refine bnd (fun z => hcc ?_) _ _ _ _
            rw [← cx] at z
            have := congrArg en z
            rw [en_n, en_n, List.cons.injEq] at this
            exact this.1.symm
        · rw [bI_n hc', ieq_pos rfl]
          refine bnd (fun z => hc' ?_) _ _ _ _
          rw [← cx] at z
          have := congrArg en z
          rw [en_n, en_n, List.cons.injEq] at this
          rw [this.1]; exact hc
      · rw [bI_n hc, ieq_pos rfl, h_156_56, a1 M rfl, oB_s, c_free (by omega) s2, kI_r, bI_n hc, ieq_pos rfl, a2 M rfl, oB_s, c_free (by omega) t2, kI_r]
        by_cases hc' : vE c'
        · have hj : j2 ≠ j1 := fun z => hc (by rw [← s1, ← z, t1]; exact hc')
          have hne : Nd c x y ≠ vr (vn c') := fun z => by
            have := congrArg en z
            rw [en_n, en_0, List.cons.injEq] at this
            exact hc (this.1 ▸ vcd_E (vn_lt hc'))
          rw [bI_1 hc', ieq_neg (by omega) (by omega) (by omega), h_156_81, a1 M rfl, oB_s, c_free (by omega) s2, kI_r, bI_n hc, ieq_pos rfl, ieq_neg hj (by omega) (by omega), a2 M rfl, oB_s, c_num (by omega) hc', kI_r]
          obtain ⟨M', g1, ⟨g2, be', m', ta', g3, g4, g5, g6⟩ | ⟨g2, g3⟩⟩ := m_bnd (d := d) (by omega) hI hB p2 p1 hc' (f2 hc') ⟨c, x, y, rfl, e2⟩ hne
          · refine ⟨M', g1, Or.inl ⟨g2, be', m', ta', g3, g4, g5, fun th => ?_⟩⟩
            rw [g6]
            exact ⟨fun z => ⟨z.1, z.2.symm⟩, fun z => ⟨z.1, z.2.symm⟩⟩
          · exact ⟨M', g1, Or.inr ⟨g2, fun th z1 z2 => g3 th z1 z2.symm⟩⟩
        rw [bI_n hc', ieq_pos rfl, a1 M rfl, oB_s, a2 M rfl, oB_s]
        by_cases hcc : c = c'
        case neg =>
          rw [if_neg hcc, rZ_0]
          refine ⟨M, Fr.rf, Or.inr ⟨rfl, fun th _ z => hcc ?_⟩⟩
          rw [ap_n hc, ap_n hc'] at z
          have := congrArg en z
          rw [en_n, en_n, List.cons.injEq] at this
          exact this.1
        rw [if_pos hcc]
        subst hcc
        rw [ap_n hc] at e5
        have hsz : sz (ap m x) + sz (ap m y) + 1 = sz (ap m s) := by rw [← e5, sz_n]
        rw [← e5] at hS
        obtain ⟨S1, S2⟩ := Sb_in _ _ _ _ _ hS
        obtain ⟨-, hk0 | hk1 | hk2⟩ := p1.1.1
        · obtain ⟨hk0, rfl, rfl⟩ := hk0
          have q0 : x' = Lf ∧ y' = Lf := by
            obtain ⟨-, h | h | h⟩ := p2.1.1
            · exact ⟨h.2.1, h.2.2⟩
            · omega
            · omega
          obtain ⟨rfl, rfl⟩ := q0
          have ea : arN c = 0 := by unfold arN; rw [if_neg (by omega), if_neg (by omega)]
          rw [h_156_176, a1 M rfl, oB_s, c_wide (by omega) s2, kI_r, ea, ilt_neg (by omega) (by omega), rZ_1]
          exact ⟨M, Fr.rf, Or.inl ⟨rfl, be, m, ta, hI, hB, Or.inl rfl, fun th => ⟨fun h => ⟨h, rfl⟩, fun h => h.1⟩⟩⟩
        · obtain ⟨hk1, wx, rfl⟩ := hk1
          have q0 : wfE x' ∧ y' = Lf := by
            obtain ⟨-, h | h | h⟩ := p2.1.1
            · omega
            · exact h.2
            · omega
          obtain ⟨wx', rfl⟩ := q0
          rw [h_156_176, a1 M rfl, oB_s, c_wide (by omega) s2, kI_r, arN_1 hk1, ilt_pos (by omega) (by omega), c_parg0 (by omega), kI_r, c_parg0 (by omega), kI_r]
          obtain ⟨M', g1, ⟨g2, be', m', ta', g3, g4, g5, g6⟩ | ⟨g2, g3⟩⟩ := ihn x x' (j1 + 1) (j2 + 1) (k + 1) root d be m ta M hU (by omega) hI hB (p1.x wx) (p2.x wx') hr S1 (by omega)
          · have h75 : M'.1 75 = M.1 75 := g1.1 75 (by decide)
            rw [g2, kI_r, ieq_neg (by omega) (by omega) (by omega), jn_add, h_156_176, a1 M' h75, oB_s, c_wide (by omega) s2, kI_r, arN_1 hk1, ilt_neg (by omega) (by omega), rZ_1]
            refine ⟨M', g1, Or.inl ⟨rfl, be', m', ta', g3, g4, g5, fun th => ?_⟩⟩
            rw [g6, ap_n hc, ap_n hc]
            constructor
            · rintro ⟨z1, z2⟩; exact ⟨z1, by rw [z2]⟩
            · rintro ⟨z1, z2⟩
              refine ⟨z1, ?_⟩
              injection z2
          · rw [g2, kI_r, ieq_pos rfl, rZ_0]
            refine ⟨M', g1, Or.inr ⟨rfl, fun th z1 z2 => g3 th z1 ?_⟩⟩
            rw [ap_n hc, ap_n hc] at z2
            injection z2
        · obtain ⟨hk2, wx, wy⟩ := hk2
          have q0 : wfE x' ∧ wfE y' := by
            obtain ⟨-, h | h | h⟩ := p2.1.1
            · omega
            · omega
            · exact h.2
          obtain ⟨wx', wy'⟩ := q0
          rw [h_156_176, a1 M rfl, oB_s, c_wide (by omega) s2, kI_r, arN_2 hk2, ilt_pos (by omega) (by omega), c_parg0 (by omega), kI_r, c_parg0 (by omega), kI_r]
          obtain ⟨M', g1, ⟨g2, be', m', ta', g3, g4, g5, g6⟩ | ⟨g2, g3⟩⟩ := ihn x x' (j1 + 1) (j2 + 1) (k + 1) root d be m ta M hU (by omega) hI hB (p1.x wx) (p2.x wx') hr S1 (by omega)
          · have h75 : M'.1 75 = M.1 75 := g1.1 75 (by decide)
            have px := (p1.x wx).eq h75
            have px' := (p2.x wx').eq h75
            have py := (p1.y wy).eq h75
            have py' := (p2.y wy').eq h75
            rw [g2, kI_r, ieq_neg (by omega) (by omega) (by omega), jn_add, show 0 + 1 = 1 from rfl, h_156_176, a1 M' h75, oB_s, c_wide (by omega) s2, kI_r, arN_2 hk2, ilt_pos (by omega) (by omega), c_parg1 (by omega) px, kI_r, c_parg1 (by omega) px', kI_r]
            have second : UnR be' M' y y' (pcl GG lay d 156 [.ref 52, .int (jn (j1 + 1 + sz x)), .int (jn (j2 + 1 + sz x'))] M') := by
              rcases g5 with rfl | g5
              · exact ihn y y' _ _ (k + 1) root d be' m ta M' hU (by omega) hI g4 py py' hr S2 (by omega)
              · have hm' := ((g6 m').mp g3.sol).1
                refine ihU (unbB be') (by omega) _ y y' _ _ (k + 1) root d be' m' ta' M' (Nat.le_refl _) (Nat.le_refl _) g3 g4 py py' hr ?_ (by omega)
                have := Sb_ap (n := m') (k + 1) _ (ap_wf hI.2.2.2.1 root hr.1) _ (ap_wf hI.2.2.2.1 y wy) S2
                rwa [hI.aq hm' hr.1, hI.aq hm' wy] at this
            obtain ⟨M2, i1, ⟨i2, be2, m2, ta2, i3, i4, i5, i6⟩ | ⟨i2, i3⟩⟩ := second
            · have h75' : M2.1 75 = M.1 75 := (i1.1 75 (by decide)).trans h75
              rw [i2, kI_r, ieq_neg (by omega) (by omega) (by omega), jn_add, h_156_176, a1 M2 h75', oB_s, c_wide (by omega) s2, kI_r, arN_2 hk2, ilt_neg (by omega) (by omega), rZ_1]
              refine ⟨M2, g1.trans i1, Or.inl ⟨rfl, be2, m2, ta2, i3, i4, ?_, fun th => ?_⟩⟩
              · rcases i5 with rfl | i5
                · exact g5
                · rcases g5 with rfl | g5
                  · exact Or.inr i5
                  · exact Or.inr (by omega)
              · rw [i6, g6, ap_n hc, ap_n hc]
                constructor
                · rintro ⟨⟨z1, z2⟩, z3⟩; exact ⟨z1, by rw [z2, z3]⟩
                · rintro ⟨z1, z2⟩
                  injection z2 with _ _ _ z3 z4
                  exact ⟨⟨z1, z3⟩, z4⟩
            · rw [i2, kI_r, ieq_pos rfl, rZ_0]
              refine ⟨M2, g1.trans i1, Or.inr ⟨rfl, fun th z1 z2 => ?_⟩⟩
              rw [ap_n hc, ap_n hc] at z2
              injection z2 with _ _ _ z3 z4
              exact i3 th ((g6 th).mpr ⟨z1, z3⟩) z4
          · rw [g2, kI_r, ieq_pos rfl, rZ_0]
            refine ⟨M', g1, Or.inr ⟨rfl, fun th z1 z2 => g3 th z1 ?_⟩⟩
            rw [ap_n hc, ap_n hc] at z2
            injection z2
end
