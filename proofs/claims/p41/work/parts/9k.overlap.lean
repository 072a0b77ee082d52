/-! overlaps: what is asked -/
noncomputable def ovA (r q : Tm × Tm) (node : Nat) : Option (Tm × Tm × Tm) := match mgO (sub r.1 node) (apt q.1) with
  | none => none
  | some m => if 40 < sz (ap m r.1) then none else if 40 < sz (ap m r.2) then none else if 40 < sz (ap m (fB r.1 0 node (apt q.2))) then none else some (treeOf (o1 m r.1).1, treeOf (o2 m r.1 r.2).1, treeOf (o3 m r.1 r.2 (fB r.1 0 node (apt q.2))).1)
noncomputable def ovG (r q : Tm × Tm) : Nat → Nat → List (Tm × Tm × Tm)
  | 0, _ => []
  | m + 1, k => if isV (sgn r.1 k) then ovG r q m (k + 1) else match ovA r q k with
    | none => ovG r q m (k + 1)
    | some o => o :: ovG r q m (k + 1)
noncomputable def ovL (r q : Tm × Tm) (k : Nat) : List (Tm × Tm × Tm) := if nvr (en r.1) ≤ 3 ∧ nvr (en q.1) ≤ 3 then ovG r q (sz r.1 - k) k else []
def ovO (o : Tm × Tm × Tm) : Prop := (wf o.1 ∧ sz o.1 ≤ 40) ∧ (wf o.2.1 ∧ sz o.2.1 ≤ 40) ∧ (wf o.2.2 ∧ sz o.2.2 ≤ 40)
section
variable {r q : Tm × Tm} {node : Nat} {m : Nat → Tm}
theorem fB_0 (t rq : Tm) (h : node < sz t) : fB t 0 node rq = rep t node rq := by
  unfold fB
  rw [if_pos (by omega), Nat.sub_zero]
theorem wfE_ov (hr : rlOk r) (hq : rlOk q) : wfE (fB r.1 0 node (apt q.2)) := fB_wf (apt_wf _ hq.2.1) _ (wfE_of _ hr.1) 0 node
theorem ov_trees (hr : rlOk r) (hq : rlOk q) (h3 : nvr (en r.1) ≤ 3) (h4 : nvr (en q.1) ≤ 3) (hn : node < sz r.1) (hm : Mgu m (sub r.1 node) (apt q.1)) (z1 : sz (ap m r.1) ≤ 40) (z2 : sz (ap m r.2) ≤ 40) (z3 : sz (ap m (fB r.1 0 node (apt q.2))) ≤ 40) :
    (∃ t, wf t ∧ en t = (o1 m r.1).1 ∧ sz t ≤ 40) ∧ (∃ t, wf t ∧ en t = (o2 m r.1 r.2).1 ∧ sz t ≤ 40) ∧ ∃ t, wf t ∧ en t = (o3 m r.1 r.2 (fB r.1 0 node (apt q.2))).1 ∧ sz t ≤ 40 := by
  obtain ⟨hw, -, x, y, hx, he, hrep⟩ := sub_pieces r.1 hr.1 node hn
  have hin : ∀ c ∈ en (sub r.1 node), c ∈ en r.1 := fun c hc => by rw [he]; simp [hc]
  have hv : ∀ t, wf t → ∀ c ∈ en t, vE c → isV c := fun t ht c hc hv => by have := sg_en t ht c hc; omega
  have h6 := names6 (wfE_of _ hw) (apt_wf q.1 hq.1) hm (p := r.1) (q := q.1) hq.1 h3 h4 hin rfl [r.1, r.2, fB r.1 0 node (apt q.2)] (fun u hu => by
    rcases List.mem_cons.mp hu with rfl | hu
    · exact ⟨wfE_of _ hr.1, fun c hc hvc => Or.inl ⟨hc, hv _ hr.1 c hc hvc⟩⟩
    rcases List.mem_cons.mp hu with rfl | hu
    · exact ⟨wfE_of _ hr.2.1, fun c hc hvc => by
        have hi := hv _ hr.2.1 c hc hvc
        exact Or.inl ⟨(hr.2.2.2.2.2 c ⟨hi, hc⟩).2, hi⟩⟩
    · rw [List.mem_singleton] at hu
      subst hu
      refine ⟨wfE_ov hr hq, fun c hc hvc => ?_⟩
      rw [fB_0 _ _ hn, hrep] at hc
      rcases List.mem_append.mp hc with hc | hc
      · have hc : c ∈ en r.1 := by rw [he]; simp [hc]
        exact Or.inl ⟨hc, hv _ hr.1 c hc hvc⟩
      rcases List.mem_append.mp hc with hc | hc
      · rw [apt_en] at hc
        obtain ⟨z, z1, z2⟩ := List.mem_map.mp hc
        by_cases hz : isV z
        · have hzq := (hq.2.2.2.2.2 z ⟨hz, z1⟩).2
          have hI := apc_I hz
          rw [z2] at hI
          exact Or.inr ⟨by rw [apt_en]; exact List.mem_map.mpr ⟨z, hzq, z2⟩, by omega⟩
        · rw [apc_n hz] at z2
          rw [z2] at z1 hz
          exact absurd (hv _ hq.2.1 c z1 hvc) hz
      · have hc : c ∈ en r.1 := by rw [he]; simp [hc]
        exact Or.inl ⟨hc, hv _ hr.1 c hc hvc⟩) (fun c hc hvc => hv _ hw c hc hvc)
  simp only [List.flatMap_cons, List.flatMap_nil, List.append_nil] at h6
  rw [cnS_app, cnS_app] at h6
  have m2 : (o1 m r.1).2.length ≤ (o2 m r.1 r.2).2.length := (cnS_nm _ _ (cnS_nm _ _ (by simp)).1).2.2
  have m3 : (o2 m r.1 r.2).2.length ≤ (o3 m r.1 r.2 (fB r.1 0 node (apt q.2))).2.length := (cnS_nm _ _ (cnS_nm _ _ (cnS_nm _ _ (by simp)).1).1).2.2
  have h6 : (o3 m r.1 r.2 (fB r.1 0 node (apt q.2))).2.length ≤ 6 := h6
  obtain ⟨t1, a1, a2⟩ := named (ap m r.1) (ap_wf hm.1 _ (wfE_of _ hr.1)) [] (Nat.le_trans m2 (Nat.le_trans m3 h6))
  obtain ⟨t2, b1, b2⟩ := named (ap m r.2) (ap_wf hm.1 _ (wfE_of _ hr.2.1)) (o1 m r.1).2 (Nat.le_trans m3 h6)
  obtain ⟨t3, c1, c2⟩ := named (ap m (fB r.1 0 node (apt q.2))) (ap_wf hm.1 _ (wfE_ov hr hq)) (o2 m r.1 r.2).2 h6
  refine ⟨⟨t1, a1, a2, ?_⟩, ⟨t2, b1, b2, ?_⟩, ⟨t3, c1, c2, ?_⟩⟩
  · show (en t1).length ≤ 40
    rw [a2, cnS_len]; exact z1
  · show (en t2).length ≤ 40
    rw [b2, cnS_len]; exact z2
  · show (en t3).length ≤ 40
    rw [c2, cnS_len]; exact z3
/-- any most general one tells it -/
theorem ovA_of (hr : rlOk r) (hq : rlOk q) (hn : node < sz r.1) (hm : Mgu m (sub r.1 node) (apt q.1)) : ovA r q node = if 40 < sz (ap m r.1) then none else if 40 < sz (ap m r.2) then none else if 40 < sz (ap m (fB r.1 0 node (apt q.2))) then none else some (treeOf (o1 m r.1).1, treeOf (o2 m r.1 r.2).1, treeOf (o3 m r.1 r.2 (fB r.1 0 node (apt q.2))).1) := by
  obtain ⟨m0, e, hm0⟩ := mgO_of hm
  have w1 := wfE_of _ hr.1
  have w2 := wfE_of _ hr.2.1
  have w3 : wfE (fB r.1 0 node (apt q.2)) := wfE_ov hr hq
  unfold ovA
  rw [e]
  simp only
  rw [mg_sz hm hm0 w1, mg_sz hm hm0 w2, mg_sz hm hm0 w3, o1_same hm hm0 w1, o2_same hm hm0 w1 w2, o3_same hm hm0 w1 w2 w3]
theorem ovA_no (h : ∀ th, ap th (sub r.1 node) ≠ ap th (apt q.1)) : ovA r q node = none := by
  unfold ovA
  rw [mgO_none h]
theorem ovA_ok {o : Tm × Tm × Tm} (hr : rlOk r) (hq : rlOk q) (h3 : nvr (en r.1) ≤ 3) (h4 : nvr (en q.1) ≤ 3) (hn : node < sz r.1) (h : ovA r q node = some o) : ovO o := by
  cases e : mgO (sub r.1 node) (apt q.1) with
  | none =>
    unfold ovA at h
    rw [e] at h
    cases h
  | some m =>
    have hm := mgO_some e
    rw [ovA_of hr hq hn hm] at h
    split at h
    · cases h
    split at h
    · cases h
    split at h
    · cases h
    cases h
    obtain ⟨a, b, c⟩ := ov_trees hr hq h3 h4 hn hm (by omega) (by omega) (by omega)
    exact ⟨⟨(treeOf_ok a).1, (treeOf_ok a).2.2⟩, ⟨(treeOf_ok b).1, (treeOf_ok b).2.2⟩, ⟨(treeOf_ok c).1, (treeOf_ok c).2.2⟩⟩
theorem ovG_v {m k : Nat} (h : isV (sgn r.1 k)) : ovG r q (m + 1) k = ovG r q m (k + 1) := by rw [ovG, if_pos h]
theorem ovG_n {m k : Nat} (h : ¬ isV (sgn r.1 k)) (h2 : ovA r q k = none) : ovG r q (m + 1) k = ovG r q m (k + 1) := by rw [ovG, if_neg h, h2]
theorem ovG_s {m k : Nat} {o : Tm × Tm × Tm} (h : ¬ isV (sgn r.1 k)) (h2 : ovA r q k = some o) : ovG r q (m + 1) k = o :: ovG r q m (k + 1) := by rw [ovG, if_neg h, h2]
theorem ovG_ok (hr : rlOk r) (hq : rlOk q) (h3 : nvr (en r.1) ≤ 3) (h4 : nvr (en q.1) ≤ 3) : ∀ m k, k + m = sz r.1 → (ovG r q m k).length ≤ m ∧ ∀ o ∈ ovG r q m k, ovO o := by
  intro m
  induction m with
  | zero => intro k _; exact ⟨Nat.le_refl _, fun o ho => by cases ho⟩
  | succ m ih =>
    intro k hk
    obtain ⟨i1, i2⟩ := ih (k + 1) (by omega)
    by_cases h : isV (sgn r.1 k)
    · rw [ovG_v h]; exact ⟨by omega, i2⟩
    cases e : ovA r q k with
    | none => rw [ovG_n h e]; exact ⟨by omega, i2⟩
    | some o =>
      rw [ovG_s h e, List.length_cons]
      refine ⟨by omega, fun o' ho => ?_⟩
      rcases List.mem_cons.mp ho with rfl | ho
      · exact ovA_ok hr hq h3 h4 (by omega) e
      · exact i2 o' ho
theorem ovL_ok (hr : rlOk r) (hq : rlOk q) {k : Nat} (hk : k ≤ sz r.1) : (ovL r q k).length ≤ 40 ∧ ∀ o ∈ ovL r q k, ovO o := by
  unfold ovL
  split
  · rename_i h
    obtain ⟨i1, i2⟩ := ovG_ok hr hq h.1 h.2 (sz r.1 - k) k (by omega)
    have := hr.2.2.1
    exact ⟨by omega, i2⟩
  · exact ⟨Nat.zero_le _, fun o ho => by cases ho⟩
end
/-- how an overlap lies in the model -/
def Hol (o : Tm × Tm × Tm) (M : PM) : Prop := (M.1 52 43 = jn (sz o.1) ∧ At (M.1 78) 0 (en o.1)) ∧ (M.1 52 45 = jn (sz o.2.1) ∧ At (M.1 79) 0 (en o.2.1)) ∧ (M.1 52 47 = jn (sz o.2.2) ∧ At (M.1 80) 0 (en o.2.2))
section
variable {d : Nat} {A : AT} {M M' : PM} {r q : Tm × Tm} {i j node : Nat}
end
