/-! overlaps: what is asked -/
noncomputable def ovA (r q : Tm × Tm) (node : Nat) : Option (Tm × Tm × Tm) := match mgO (sub r.1 node) (apt q.1) with
  | none => none
  | some m => if 40 < sz (ap m r.1) then none else if 40 < sz (ap m r.2) then none else if 40 < sz (ap m (fB r.1 0 node (apt q.2))) then none else some (treeOf (o1 m r.1).1, treeOf (o2 m r.1 r.2).1, treeOf (o3 m r.1 r.2 (fB r.1 0 node (apt q.2))).1)
noncomputable def ovG (r q : Tm × Tm) : Nat → Nat → List (Tm × Tm × Tm)
  | 0, _ => []
  | m + 1, k => if isV (sgn r.1 k) then ovG r q m (k + 1) else match ovA r q k with
    | none => ovG r q m (k + 1)
    | some o => o :: ovG r q m (k + 1)
noncomputable def ovL (r q : Tm × Tm) (k : Nat) : List (Tm × Tm × Tm) := if nvr (en r.1) ≤ 3 ∧ nvr (en q.1) ≤ 3 then ovG r q (sz r.1 - k) k else []
def ovO (o : Tm × Tm × Tm) : Prop := (wf o.1 ∧ sz o.1 ≤ 40) ∧ (wf o.2.1 ∧ sz o.2.1 ≤ 40) ∧ (wf o.2.2 ∧ sz o.2.2 ≤ 40)
section
variable {r q : Tm × Tm} {node : Nat} {m : Nat → Tm}
theorem fB_0 (t rq : Tm) (h : node < sz t) : fB t 0 node rq = rep t node rq := by
  unfold fB
  rw [if_pos (by omega), Nat.sub_zero]
theorem wfE_ov (hr : rlOk r) (hq : rlOk q) : wfE (fB r.1 0 node (apt q.2)) := fB_wf (apt_wf _ hq.2.1) _ (wfE_of _ hr.1) 0 node
theorem ov_trees (hr : rlOk r) (hq : rlOk q) (h3 : nvr (en r.1) ≤ 3) (h4 : nvr (en q.1) ≤ 3) (hn : node < sz r.1) (hm : Mgu m (sub r.1 node) (apt q.1)) (z1 : sz (ap m r.1) ≤ 40) (z2 : sz (ap m r.2) ≤ 40) (z3 : sz (ap m (fB r.1 0 node (apt q.2))) ≤ 40) :
    (∃ t, wf t ∧ en t = (o1 m r.1).1 ∧ sz t ≤ 40) ∧ (∃ t, wf t ∧ en t = (o2 m r.1 r.2).1 ∧ sz t ≤ 40) ∧ ∃ t, wf t ∧ en t = (o3 m r.1 r.2 (fB r.1 0 node (apt q.2))).1 ∧ sz t ≤ 40 := by
  obtain ⟨hw, -, x, y, hx, he, hrep⟩ := sub_pieces r.1 hr.1 node hn
  have hin : ∀ c ∈ en (sub r.1 node), c ∈ en r.1 := fun c hc => by rw [he]; simp [hc]
  have hv : ∀ t, wf t → ∀ c ∈ en t, vE c → isV c := fun t ht c hc hv => by have := sg_en t ht c hc; omega
  have h6 := names6 (wfE_of _ hw) (apt_wf q.1 hq.1) hm (p := r.1) (q := q.1) hq.1 h3 h4 hin rfl [r.1, r.2, fB r.1 0 node (apt q.2)] (fun u hu => by
    rcases List.mem_cons.mp hu with rfl | hu
    · exact ⟨wfE_of _ hr.1, fun c hc hvc => Or.inl ⟨hc, hv _ hr.1 c hc hvc⟩⟩
    rcases List.mem_cons.mp hu with rfl | hu
    · exact ⟨wfE_of _ hr.2.1, fun c hc hvc => by
        have hi := hv _ hr.2.1 c hc hvc
        exact Or.inl ⟨(hr.2.2.2.2.2 c ⟨hi, hc⟩).2, hi⟩⟩
    · rw [List.mem_singleton] at hu
      subst hu
      refine ⟨wfE_ov hr hq, fun c hc hvc => ?_⟩
      rw [fB_0 _ _ hn, hrep] at hc
      rcases List.mem_append.mp hc with hc | hc
      · have hc : c ∈ en r.1 := by rw [he]; simp [hc]
        exact Or.inl ⟨hc, hv _ hr.1 c hc hvc⟩
      rcases List.mem_append.mp hc with hc | hc
      · rw [apt_en] at hc
        obtain ⟨z, z1, z2⟩ := List.mem_map.mp hc
        by_cases hz : isV z
        · have hzq := (hq.2.2.2.2.2 z ⟨hz, z1⟩).2
          have hI := apc_I hz
          rw [z2] at hI
          exact Or.inr ⟨by rw [apt_en]; exact List.mem_map.mpr ⟨z, hzq, z2⟩, by omega⟩
        · rw [apc_n hz] at z2
          rw [z2] at z1 hz
          exact absurd (hv _ hq.2.1 c z1 hvc) hz
      · have hc : c ∈ en r.1 := by rw [he]; simp [hc]
        exact Or.inl ⟨hc, hv _ hr.1 c hc hvc⟩) (fun c hc hvc => hv _ hw c hc hvc)
  simp only [List.flatMap_cons, List.flatMap_nil, List.append_nil] at h6
  rw [cnS_app, cnS_app] at h6
  have m2 : (o1 m r.1).2.length ≤ (o2 m r.1 r.2).2.length := (cnS_nm _ _ (cnS_nm _ _ (by simp)).1).2.2
  have m3 : (o2 m r.1 r.2).2.length ≤ (o3 m r.1 r.2 (fB r.1 0 node (apt q.2))).2.length := (cnS_nm _ _ (cnS_nm _ _ (cnS_nm _ _ (by simp)).1).1).2.2
  have h6 : (o3 m r.1 r.2 (fB r.1 0 node (apt q.2))).2.length ≤ 6 := h6
  obtain ⟨t1, a1, a2⟩ := named (ap m r.1) (ap_wf hm.1 _ (wfE_of _ hr.1)) [] (Nat.le_trans m2 (Nat.le_trans m3 h6))
  obtain ⟨t2, b1, b2⟩ := named (ap m r.2) (ap_wf hm.1 _ (wfE_of _ hr.2.1)) (o1 m r.1).2 (Nat.le_trans m3 h6)
  obtain ⟨t3, c1, c2⟩ := named (ap m (fB r.1 0 node (apt q.2))) (ap_wf hm.1 _ (wfE_ov hr hq)) (o2 m r.1 r.2).2 h6
  refine ⟨⟨t1, a1, a2, ?_⟩, ⟨t2, b1, b2, ?_⟩, ⟨t3, c1, c2, ?_⟩⟩
  · show (en t1).length ≤ 40
    rw [a2, cnS_len]; exact z1
  · show (en t2).length ≤ 40
    rw [b2, cnS_len]; exact z2
  · show (en t3).length ≤ 40
    rw [c2, cnS_len]; exact z3
/-- any most general one tells it -/
theorem ovA_of (hr : rlOk r) (hq : rlOk q) (hn : node < sz r.1) (hm : Mgu m (sub r.1 node) (apt q.1)) : ovA r q node = if 40 < sz (ap m r.1) then none else if 40 < sz (ap m r.2) then none else if 40 < sz (ap m (fB r.1 0 node (apt q.2))) then none else some (treeOf (o1 m r.1).1, treeOf (o2 m r.1 r.2).1, treeOf (o3 m r.1 r.2 (fB r.1 0 node (apt q.2))).1) := by
  obtain ⟨m0, e, hm0⟩ := mgO_of hm
  have w1 := wfE_of _ hr.1
  have w2 := wfE_of _ hr.2.1
  have w3 : wfE (fB r.1 0 node (apt q.2)) := wfE_ov hr hq
  unfold ovA
  rw [e]
  simp only
  rw [mg_sz hm hm0 w1, mg_sz hm hm0 w2, mg_sz hm hm0 w3, o1_same hm hm0 w1, o2_same hm hm0 w1 w2, o3_same hm hm0 w1 w2 w3]
theorem ovA_no (h : ∀ th, ap th (sub r.1 node) ≠ ap th (apt q.1)) : ovA r q node = none := by
  unfold ovA
  rw [mgO_none h]
theorem ovA_ok {o : Tm × Tm × Tm} (hr : rlOk r) (hq : rlOk q) (h3 : nvr (en r.1) ≤ 3) (h4 : nvr (en q.1) ≤ 3) (hn : node < sz r.1) (h : ovA r q node = some o) : ovO o := by
  cases e : mgO (sub r.1 node) (apt q.1) with
  | none =>
    unfold ovA at h
    rw [e] at h
    cases h
  | some m =>
    have hm := mgO_some e
    rw [ovA_of hr hq hn hm] at h
    split at h
    · cases h
    split at h
    · cases h
    split at h
    · cases h
    cases h
    obtain ⟨a, b, c⟩ := ov_trees hr hq h3 h4 hn hm (by omega) (by omega) (by omega)
    exact ⟨⟨(treeOf_ok a).1, (treeOf_ok a).2.2⟩, ⟨(treeOf_ok b).1, (treeOf_ok b).2.2⟩, ⟨(treeOf_ok c).1, (treeOf_ok c).2.2⟩⟩
theorem ovG_v {m k : Nat} (h : isV (sgn r.1 k)) : ovG r q (m + 1) k = ovG r q m (k + 1) := by rw [ovG, if_pos h]
theorem ovG_n {m k : Nat} (h : ¬ isV (sgn r.1 k)) (h2 : ovA r q k = none) : ovG r q (m + 1) k = ovG r q m (k + 1) := by rw [ovG, if_neg h, h2]
theorem ovG_s {m k : Nat} {o : Tm × Tm × Tm} (h : ¬ isV (sgn r.1 k)) (h2 : ovA r q k = some o) : ovG r q (m + 1) k = o :: ovG r q m (k + 1) := by rw [ovG, if_neg h, h2]
theorem ovG_ok (hr : rlOk r) (hq : rlOk q) (h3 : nvr (en r.1) ≤ 3) (h4 : nvr (en q.1) ≤ 3) : ∀ m k, k + m = sz r.1 → (ovG r q m k).length ≤ m ∧ ∀ o ∈ ovG r q m k, ovO o := by
  intro m
  induction m with
  | zero => intro k _; exact ⟨Nat.le_refl _, fun o ho => by cases ho⟩
  | succ m ih =>
    intro k hk
    obtain ⟨i1, i2⟩ := ih (k + 1) (by omega)
    by_cases h : isV (sgn r.1 k)
    · rw [ovG_v h]; exact ⟨by omega, i2⟩
    cases e : ovA r q k with
    | none => rw [ovG_n h e]; exact ⟨by omega, i2⟩
    | some o =>
      rw [ovG_s h e, List.length_cons]
      refine ⟨by omega, fun o' ho => ?_⟩
      rcases List.mem_cons.mp ho with rfl | ho
      · exact ovA_ok hr hq h3 h4 (by omega) e
      · exact i2 o' ho
theorem ovL_ok (hr : rlOk r) (hq : rlOk q) {k : Nat} (hk : k ≤ sz r.1) : (ovL r q k).length ≤ 40 ∧ ∀ o ∈ ovL r q k, ovO o := by
  unfold ovL
  split
  · rename_i h
    obtain ⟨i1, i2⟩ := ovG_ok hr hq h.1 h.2 (sz r.1 - k) k (by omega)
    have := hr.2.2.1
    exact ⟨by omega, i2⟩
  · exact ⟨Nat.zero_le _, fun o ho => by cases ho⟩
end
/-- how an overlap lies in the model -/
def Hol (o : Tm × Tm × Tm) (M : PM) : Prop := (M.1 52 43 = jn (sz o.1) ∧ At (M.1 78) 0 (en o.1)) ∧ (M.1 52 45 = jn (sz o.2.1) ∧ At (M.1 79) 0 (en o.2.1)) ∧ (M.1 52 47 = jn (sz o.2.2) ∧ At (M.1 80) 0 (en o.2.2))
section
variable {d : Nat} {A : AT} {M M' : PM} {r q : Tm × Tm} {i j node : Nat}
theorem outX_78 : outX 78 := ⟨rfl, by decide, by decide, by decide, by decide⟩
theorem outX_79 : outX 79 := ⟨rfl, by decide, by decide, by decide, by decide⟩
theorem m_ovA (hd : 1120 ≤ d) (hA : AOk A) (h : RM A M) (hr : (rsA A)[i]? = some r) (hq : (rsA A)[j]? = some q) (hn : node < sz r.1) (h3 : nvr (en r.1) ≤ 3) (h4 : nvr (en q.1) ≤ 3) :
    ∃ M', pcl GG lay d 162 [.ref 52, .int (jn i), .int (jn j), .int (jn node)] M = rI (bI ((ovA r q node).isSome = true)) M' ∧ RM A M' ∧ Lo M M' ∧ ∀ o, ovA r q node = some o → Hol o M' := by
  obtain ⟨d, rfl⟩ := ex_add (show 1 ≤ d by omega)
  obtain ⟨r1, hi⟩ := rl_ok hA hr
  obtain ⟨q1, hj⟩ := rl_ok hA hq
  obtain ⟨e1, e2, e3, e4⟩ := h.1.2.2.1 i r hr
  obtain ⟨f1, f2, f3, f4⟩ := h.1.2.2.1 j q hq
  have e1 : M.1 55 (2 * i) = jn (sz r.1) := e1
  have e2 : M.1 55 (2 * i + 1) = jn (sz r.2) := e2
  have e3 : At (M.1 56) (80 * i) (en r.1) := e3
  have e4 : At (M.1 56) (80 * i + 40) (en r.2) := e4
  have f1 : M.1 55 (2 * j) = jn (sz q.1) := f1
  have f2 : M.1 55 (2 * j + 1) = jn (sz q.2) := f2
  have f3 : At (M.1 56) (80 * j) (en q.1) := f3
  have f4 : At (M.1 56) (80 * j + 40) (en q.2) := f4
  have zr1 := r1.2.2.1
  have zr2 := r1.2.2.2.1
  have zq1 := q1.2.2.1
  have zq2 := q1.2.2.2.1
  obtain ⟨M1, a1, a2, a3, a4⟩ := m_unb (d := d) (M := M) (by omega)
  rw [q_162, a1, kV_r, jn_mul, ald_n (n := 24) rfl (by omega) (by omega), oB_s, a2.1 55 (by decide), e1, jn_mul]
  obtain ⟨M2, p1, p2, p3, p4⟩ := m_pool (d := d) (M := M1) (x := 56) (nx := 960) (at0 := 0) (st := 80 * i) (ap0 := false) (t := r.1) (by omega) rfl (by omega) (by omega) (by rw [a2.1 56 (by decide)]; exact e3) (by omega) (by omega)
  have c2 : Fr [52, 75, 76, 77] M M2 := (a2.mono (by decide)).trans (p2.mono (by decide))
  simp only [Bool.false_eq_true, if_false] at p1 p3
  rw [p1, kV_r, jn_mul, ald_n (n := 24) rfl (by omega) (by omega), oB_s, c2.1 55 (by decide), f1, jn_mul]
  obtain ⟨M3, r1', r2', r3', r4'⟩ := m_pool (d := d) (M := M2) (x := 56) (nx := 960) (at0 := 40) (st := 80 * j) (ap0 := true) (t := q.1) (by omega) rfl (by omega) (by omega) (by rw [c2.1 56 (by decide)]; exact f3) (by omega) (by omega)
  have c3 : Fr [52, 75, 76, 77] M M3 := c2.trans (r2'.mono (by decide))
  simp only [if_true] at r1' r3'
  rw [r1', kV_r, jn_add, ald_n (n := 24) rfl (by omega) (by omega), oB_s, c3.1 55 (by decide), e2, jn_add]
  obtain ⟨M4, s1, s2, s3, s4⟩ := m_pool (d := d) (M := M3) (x := 56) (nx := 960) (at0 := 80) (st := 80 * i + 40) (ap0 := false) (t := r.2) (by omega) rfl (by omega) (by omega) (by rw [c3.1 56 (by decide)]; exact e4) (by omega) (by omega)
  have c4 : Fr [52, 75, 76, 77] M M4 := c3.trans (s2.mono (by decide))
  simp only [Bool.false_eq_true, if_false] at s1 s3
  rw [s1, kV_r, jn_add, ald_n (n := 24) rfl (by omega) (by omega), oB_s, c4.1 55 (by decide), f2, jn_add]
  obtain ⟨M5, t1, t2, t3, t4⟩ := m_pool (d := d) (M := M4) (x := 56) (nx := 960) (at0 := 120) (st := 80 * j + 40) (ap0 := true) (t := q.2) (by omega) rfl (by omega) (by omega) (by rw [c4.1 56 (by decide)]; exact f4) (by omega) (by omega)
  have c5 : Fr [52, 75, 76, 77] M M5 := c4.trans (t2.mono (by decide))
  simp only [if_true] at t1 t3
  rw [t1, kV_r]
  have n52 : M5.1 52 = va_up (M.1 52) 41 (jn 0) := by rw [t2.1 52 (by decide), s2.1 52 (by decide), r2'.1 52 (by decide), p2.1 52 (by decide), a4]
  have hR5 : RM A M5 := RM_sc h (c5.mono (by decide)) (fun j hj => by rw [n52, up_at, if_neg (by rintro rfl; revert hj; decide)])
  have lr1 : (en r.1).length = sz r.1 := rfl
  have lr2 : (en r.2).length = sz r.2 := rfl
  have lq1 : (en (apt q.1)).length = sz q.1 := apt_sz q.1
  have lq2 : (en (apt q.2)).length = sz q.2 := apt_sz q.2
  have P1 : PT M5 0 r.1 := ⟨⟨wfE_of _ r1.1, zr1⟩, by omega, At_congr p3 (fun j j1 j2 => by rw [t4 j (by omega), s4 j (by omega), r4' j (by omega)])⟩
  have P2 : PT M5 40 (apt q.1) := ⟨⟨apt_wf _ q1.1, by rw [apt_sz]; exact zq1⟩, by rw [apt_sz]; omega, At_congr r3' (fun j j1 j2 => by rw [t4 j (by omega), s4 j (by omega)])⟩
  have P3 : PT M5 80 r.2 := ⟨⟨wfE_of _ r1.2.1, zr2⟩, by omega, At_congr s3 (fun j j1 j2 => by rw [t4 j (by omega)])⟩
  have P4 : PT M5 120 (apt q.2) := ⟨⟨apt_wf _ q1.2.1, by rw [apt_sz]; exact zq2⟩, by rw [apt_sz]; omega, t3⟩
  obtain ⟨hw, -, -⟩ := sub_pieces r.1 r1.1 node hn
  have hfit := sub_sz r1.1 hn
  have hsat := sub_at r1.1 hn P1.2.2
  rw [Nat.zero_add] at hsat
  have PS : PT M5 node (sub r.1 node) := ⟨⟨wfE_of _ hw, by omega⟩, by omega, hsat⟩
  have hB : BN (fun _ => none) M5 := fun v hv => by show M5.1 76 v = jz 1; rw [t2.1 76 (by decide), s2.1 76 (by decide), r2'.1 76 (by decide), p2.1 76 (by decide)]; exact (a3 v hv).1
  have hN : NM [] M5 := ⟨fun v hv => by rw [if_neg (by simp), t2.1 77 (by decide), s2.1 77 (by decide), r2'.1 77 (by decide), p2.1 77 (by decide)]; exact (a3 v hv).2, by rw [n52, up_at, if_pos rfl]; rfl, by simp, fun c hc => (by cases hc)⟩
  have hL5 : Lo M M5 := Lo.fr c5 (by decide)
  obtain ⟨M6, g1, ⟨g2, be, m, ta, g3, g4, g5, g6⟩ | ⟨g2, g3⟩⟩ := m_uni _ _ (sub r.1 node) (apt q.1) node 40 0 (sub r.1 node) d (fun _ => none) vr (fun _ => 0) M5 (Nat.le_refl _) (Nat.le_refl _) IMx_0 hB PS P2 PS.1 rfl (by omega)
  case inr =>
    have hR6 : RM A M6 := RM_sc hR5 (g1.mono (by decide)) (fun j _ => by rw [g1.1 52 (by decide)])
    have hno : ovA r q node = none := ovA_no (fun th hth => g3 th (fun v u _ hu => by cases hu) hth)
    rw [g2, kI_r, ieq_pos rfl, rZ_0, hno, bI_n (by simp)]
    exact ⟨M6, rfl, hR6, hL5.trans (Lo.fr g1 (by decide)), fun o ho => by cases ho⟩
  have hR6 : RM A M6 := RM_sc hR5 (g1.mono (by decide)) (fun j _ => by rw [g1.1 52 (by decide)])
  have hL6 : Lo M M6 := hL5.trans (Lo.fr g1 (by decide))
  have hsol : ∀ th, SolB be th ↔ ap th (sub r.1 node) = ap th (apt q.1) := fun th => by
    rw [g6]
    exact ⟨fun z => z.2, fun z => ⟨fun v u _ hu => (by cases hu), z⟩⟩
  have hmg : Mgu m (sub r.1 node) (apt q.1) := ⟨g3.2.2.2.1, (hsol m).mp g3.sol, fun th hth => g3.2.2.2.2 th ((hsol th).mpr hth)⟩
  have hov := ovA_of r1 q1 hn hmg
  have g75 : M6.1 75 = M5.1 75 := g1.1 75 (by decide)
  have hN6 : NM [] M6 := ⟨fun v hv => by rw [g1.1 77 (by decide)]; exact hN.1 v hv, by rw [g1.1 52 (by decide)]; exact hN.2.1, hN.2.2⟩
  have hd1 := dp_521 g3 P1.1.1 P1.1.2
  obtain ⟨M7, u1, u2, u3, u4, u5, u6⟩ := m_puts outX_78 g3 _ r.1 0 0 [] M6 d (Nat.le_refl _) (P1.eq g75) g4 hN6 (by omega) (by omega)
  have l1 : (en (ap m r.1)).length = sz (ap m r.1) := rfl
  rw [Nat.zero_add, l1] at u1 u5
  rw [g2, kI_r, ieq_neg (by omega) (by omega) (by omega), u1, kI_r, wr_e]
  generalize hM8 : sI M7 52 (va_up (M7.1 52) 43 (jn (if sz (ap m r.1) ≤ 40 then sz (ap m r.1) else 41))) = M8
  have f8 : Fr [52] M7 M8 := by rw [← hM8]; exact Fr.sI (by decide)
  have a8 : M8.1 52 = va_up (M7.1 52) 43 (jn (if sz (ap m r.1) ≤ 40 then sz (ap m r.1) else 41)) := by rw [← hM8, sI_k]
  clear hM8
  have hR8 : RM A M8 := RM_sc hR6 ((u2.mono (by decide)).trans (f8.mono (by decide))) (fun j hj => by rw [a8, up_at, if_neg (by rintro rfl; revert hj; decide), u3 j (by rintro rfl; revert hj; decide)])
  have hL8 : Lo M M8 := hL6.trans ((Lo.fr u2 (by decide)).trans (Lo.fr f8 (by decide)))
  have e43 : M8.1 52 43 = jn (if sz (ap m r.1) ≤ 40 then sz (ap m r.1) else 41) := by rw [a8, up_at, if_pos rfl]
  rw [e43]
  by_cases h40 : 40 < sz (ap m r.1)
  · rw [if_neg (show ¬ sz (ap m r.1) ≤ 40 by omega), ilt_pos (by omega) (by omega), rZ_0, hov, if_pos h40, bI_n (by simp)]
    exact ⟨M8, rfl, hR8, hL8, fun o ho => by cases ho⟩
  rw [if_pos (show sz (ap m r.1) ≤ 40 by omega), ilt_neg (by omega) (by omega)]
  rw [if_pos (show sz (ap m r.1) ≤ 40 by omega)] at e43
  obtain ⟨v1, v2⟩ := u5 (by omega)
  have k75 : M8.1 75 = M5.1 75 := by rw [f8.1 75 (by decide), u2.1 75 (by decide), g75]
  have k76 : M8.1 76 = M6.1 76 := by rw [f8.1 76 (by decide), u2.1 76 (by decide)]
  have hN8 : NM (o1 m r.1).2 M8 := ⟨fun v hv => by rw [f8.1 77 (by decide)]; exact v2.1 v hv, by rw [a8, up_at, if_neg (by omega)]; exact v2.2.1, v2.2.2⟩
  have hB8 := BN_fr g4 (k75.trans g75.symm) k76
  have hd2 := dp_521 g3 P3.1.1 P3.1.2
  obtain ⟨M9, w1, w2, w3, w4, w5, nm9, w6⟩ := m_puts outX_79 g3 _ r.2 80 0 (o1 m r.1).2 M8 d (Nat.le_refl _) (P3.eq k75) hB8 hN8 (by omega) (by omega)
  have l2 : (en (ap m r.2)).length = sz (ap m r.2) := rfl
  rw [Nat.zero_add, l2] at w1 w5
  rw [w1, kI_r, wr_e]
  generalize hMa : sI M9 52 (va_up (M9.1 52) 45 (jn (if sz (ap m r.2) ≤ 40 then sz (ap m r.2) else 41))) = Ma
  have fa : Fr [52] M9 Ma := by rw [← hMa]; exact Fr.sI (by decide)
  have aa : Ma.1 52 = va_up (M9.1 52) 45 (jn (if sz (ap m r.2) ≤ 40 then sz (ap m r.2) else 41)) := by rw [← hMa, sI_k]
  clear hMa
  have hRa : RM A Ma := RM_sc hR8 ((w2.mono (by decide)).trans (fa.mono (by decide))) (fun j hj => by rw [aa, up_at, if_neg (by rintro rfl; revert hj; decide), w3 j (by rintro rfl; revert hj; decide)])
  have j75 : Ma.1 75 = M5.1 75 := by rw [fa.1 75 (by decide), w2.1 75 (by decide), k75]
  have j76 : Ma.1 76 = M8.1 76 := by rw [fa.1 76 (by decide), w2.1 76 (by decide)]
  have hBa := BN_fr hB8 (j75.trans k75.symm) j76
  have hNa : ∃ nm, NM nm Ma ∧ (sz (ap m r.2) ≤ 40 → nm = (o2 m r.1 r.2).2) := by
    by_cases hz : sz (ap m r.2) ≤ 40
    · obtain ⟨x1, x2⟩ := w5 (by omega)
      exact ⟨_, ⟨fun v hv => by rw [fa.1 77 (by decide)]; exact x2.1 v hv, by rw [aa, up_at, if_neg (by omega)]; exact x2.2.1, x2.2.2⟩, fun _ => rfl⟩
    · exact ⟨_, ⟨fun v hv => by rw [fa.1 77 (by decide)]; exact w6.1 v hv, by rw [aa, up_at, if_neg (by omega)]; exact w6.2.1, w6.2.2⟩, fun z => absurd z hz⟩
  obtain ⟨nma, hNa, hnma⟩ := hNa
  have hdr := dp_le r.1
  obtain ⟨Mb, y1, y2, y3, y4, y5, -⟩ := m_putsB (rq := apt q.2) (node := node) g3 r.1 P1.1.1 0 0 nma Ma d (P1.eq j75) (P4.eq j75) hBa hNa (by omega) (by omega) (by omega)
  have l3 : (en (ap m (fB r.1 0 node (apt q.2)))).length = sz (ap m (fB r.1 0 node (apt q.2))) := rfl
  rw [Nat.zero_add, l3] at y1 y5
  rw [y1, kI_r, wr_e]
  generalize hMc : sI Mb 52 (va_up (Mb.1 52) 47 (jn (if sz (ap m (fB r.1 0 node (apt q.2))) ≤ 40 then sz (ap m (fB r.1 0 node (apt q.2))) else 41))) = Mc
  have fc : Fr [52] Mb Mc := by rw [← hMc]; exact Fr.sI (by decide)
  have ac : Mc.1 52 = va_up (Mb.1 52) 47 (jn (if sz (ap m (fB r.1 0 node (apt q.2))) ≤ 40 then sz (ap m (fB r.1 0 node (apt q.2))) else 41)) := by rw [← hMc, sI_k]
  clear hMc
  have hRc : RM A Mc := RM_sc hRa ((y2.mono (by decide)).trans (fc.mono (by decide))) (fun j hj => by rw [ac, up_at, if_neg (by rintro rfl; revert hj; decide), y3 j (by rintro rfl; revert hj; decide)])
  have hLc : Lo M Mc := hL8.trans ((Lo.fr w2 (by decide)).trans ((Lo.fr fa (by decide)).trans ((Lo.fr y2 (by decide)).trans (Lo.fr fc (by decide)))))
  have e47 : Mc.1 52 47 = jn (if sz (ap m (fB r.1 0 node (apt q.2))) ≤ 40 then sz (ap m (fB r.1 0 node (apt q.2))) else 41) := by rw [ac, up_at, if_pos rfl]
  have e45 : Mc.1 52 45 = jn (if sz (ap m r.2) ≤ 40 then sz (ap m r.2) else 41) := by rw [ac, up_at, if_neg (by omega), y3 45 (by omega), aa, up_at, if_pos rfl]
  have e43' : Mc.1 52 43 = jn (sz (ap m r.1)) := by rw [ac, up_at, if_neg (by omega), y3 43 (by omega), aa, up_at, if_neg (by omega), w3 43 (by omega), e43]
  rw [e45, e47]
  by_cases h41 : 40 < sz (ap m r.2)
  · rw [if_neg (show ¬ sz (ap m r.2) ≤ 40 by omega), ilt_pos (show 40 < 41 by omega) (by omega), rZ_0, hov, if_neg h40, if_pos h41, bI_n (by simp)]
    exact ⟨Mc, rfl, hRc, hLc, fun o ho => by cases ho⟩
  rw [if_pos (show sz (ap m r.2) ≤ 40 by omega), ilt_neg (by omega) (by omega)]
  rw [if_pos (show sz (ap m r.2) ≤ 40 by omega)] at e45
  by_cases h42 : 40 < sz (ap m (fB r.1 0 node (apt q.2)))
  · rw [if_neg (show ¬ sz (ap m (fB r.1 0 node (apt q.2))) ≤ 40 by omega), ilt_pos (show 40 < 41 by omega) (by omega), rZ_0, hov, if_neg h40, if_neg h41, if_pos h42, bI_n (by simp)]
    exact ⟨Mc, rfl, hRc, hLc, fun o ho => by cases ho⟩
  rw [if_pos (show sz (ap m (fB r.1 0 node (apt q.2))) ≤ 40 by omega), ilt_neg (by omega) (by omega), rZ_1, hov, if_neg h40, if_neg h41, if_neg h42, bI_1 (by simp)]
  rw [if_pos (show sz (ap m (fB r.1 0 node (apt q.2))) ≤ 40 by omega)] at e47
  refine ⟨Mc, rfl, hRc, hLc, fun o ho => ?_⟩
  cases ho
  obtain ⟨b1, b2, b3⟩ := ov_trees r1 q1 h3 h4 hn hmg (by omega) (by omega) (by omega)
  obtain ⟨-, t1e, -⟩ := treeOf_ok b1
  obtain ⟨-, t2e, -⟩ := treeOf_ok b2
  obtain ⟨-, t3e, -⟩ := treeOf_ok b3
  have z1 : sz (treeOf (o1 m r.1).1) = sz (ap m r.1) := by
    show (en (treeOf (o1 m r.1).1)).length = _
    rw [t1e, cnS_len]
  have z2 : sz (treeOf (o2 m r.1 r.2).1) = sz (ap m r.2) := by
    show (en (treeOf (o2 m r.1 r.2).1)).length = _
    rw [t2e, cnS_len]
  have z3 : sz (treeOf (o3 m r.1 r.2 (fB r.1 0 node (apt q.2))).1) = sz (ap m (fB r.1 0 node (apt q.2))) := by
    show (en (treeOf (o3 m r.1 r.2 (fB r.1 0 node (apt q.2))).1)).length = _
    rw [t3e, cnS_len]
  refine ⟨⟨by rw [e43', z1], ?_⟩, ⟨by rw [e45, z2], ?_⟩, ⟨by rw [e47, z3], ?_⟩⟩
  · rw [t1e, fc.1 78 (by decide), y2.1 78 (by decide), fa.1 78 (by decide), w2.1 78 (by decide), f8.1 78 (by decide)]; exact v1
  · rw [t2e, fc.1 79 (by decide), y2.1 79 (by decide), fa.1 79 (by decide)]; exact (w5 (by omega)).1
  · rw [t3e, fc.1 80 (by decide)]
    have := (y5 (by omega)).1
    rw [hnma (by omega)] at this
    exact this
end
