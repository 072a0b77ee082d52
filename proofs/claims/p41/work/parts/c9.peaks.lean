/-! peaks: what an overlap is made of -/
theorem sub_s1 {c : Int32} {x y : Tm} {k : Nat} (h : k < sz x) : sub (Nd c x y) (k + 1) = sub x k := by
  show (if k + 1 = 0 then Nd c x y else if k + 1 ≤ sz x then sub x (k + 1 - 1) else sub y (k + 1 - 1 - sz x)) = _
  rw [if_neg (by omega), if_pos (by omega), Nat.add_sub_cancel]
theorem sub_s2 {c : Int32} {x y : Tm} {k : Nat} : sub (Nd c x y) (k + 1 + sz x) = sub y k := by
  show (if k + 1 + sz x = 0 then Nd c x y else if k + 1 + sz x ≤ sz x then sub x (k + 1 + sz x - 1) else sub y (k + 1 + sz x - 1 - sz x)) = _
  rw [if_neg (by omega), if_neg (by omega), show k + 1 + sz x - 1 - sz x = k by omega]
theorem sub_ap {m : Nat → Tm} (hm : ∀ v, v < 12 → wfE (m v)) : ∀ t, wf t → ∀ i, i < sz t → ∃ k, k < sz (ap m t) ∧ sub (ap m t) k = ap m (sub t i) := by
  have zero : ∀ t, wf t → ∃ k, k < sz (ap m t) ∧ sub (ap m t) k = ap m (sub t 0) := fun t ht => ⟨0, szE_pos (ap_wf hm t (wfE_of t ht)), by rw [sub_0, sub_0]⟩
  refine wf_ind (fun c hc => ?_) (fun c a hc ha iha => ?_) (fun c a b hc ha hb iha ihb => ?_)
  · intro i hi
    rw [sz_0] at hi
    obtain rfl : i = 0 := by omega
    exact zero _ (wf_0 hc)
  · intro i hi
    cases i with
    | zero => exact zero _ (wf_1 hc ha)
    | succ j =>
      rw [sz_1] at hi
      obtain ⟨k, h1, h2⟩ := iha j (by omega)
      rw [ap_n (by omega)]
      refine ⟨k + 1, ?_, ?_⟩
      · rw [sz_n]; omega
      · rw [sub_s1 h1, h2, sub_s1 (by omega)]
  · intro i hi
    cases i with
    | zero => exact zero _ (wf_2 hc ha hb)
    | succ j =>
      rw [sz_2] at hi
      rw [ap_n (by omega)]
      by_cases hj : j < sz a
      · obtain ⟨k, h1, h2⟩ := iha j hj
        refine ⟨k + 1, ?_, ?_⟩
        · rw [sz_n]; omega
        · rw [sub_s1 h1, h2, sub_s1 hj]
      · obtain ⟨k, h1, h2⟩ := ihb (j - sz a) (by omega)
        refine ⟨k + 1 + sz (ap m a), ?_, ?_⟩
        · rw [sz_n]; omega
        · rw [sub_s2, h2, show j + 1 = (j - sz a) + 1 + sz a by omega, sub_s2]
theorem sub_rn {f : Int32 → Int32} : ∀ t k, sub (rnT f t) k = rnT f (sub t k) := by
  intro t
  induction t with
  | leaf => intro k; rfl
  | inner n c u a b iha ihb =>
    intro k
    show (if k = 0 then .inner n (f c) u (rnT f a) (rnT f b) else if k ≤ sz (rnT f a) then sub (rnT f a) (k - 1) else sub (rnT f b) (k - 1 - sz (rnT f a))) = rnT f (if k = 0 then .inner n c u a b else if k ≤ sz a then sub a (k - 1) else sub b (k - 1 - sz a))
    rw [rnT_sz, iha, ihb]
    split
    · rfl
    · split <;> rfl
theorem cnS_old : ∀ (l nm : List Int32), (∀ c ∈ l, vE c → c ∈ nm) → (cnS nm l).2 = nm := by
  intro l
  induction l with
  | nil => intro nm _; rfl
  | cons c l ih =>
    intro nm h
    by_cases hv : vE c
    · rw [cnS_in hv (h c List.mem_cons_self hv)]
      exact ih nm (fun x hx => h x (List.mem_cons_of_mem _ hx))
    · rw [cnS_non hv]
      exact ih nm (fun x hx => h x (List.mem_cons_of_mem _ hx))
theorem var_ap {m : Nat → Tm} {s t : Tm} (hs : wfE s) (ht : wfE t) (h : ∀ c ∈ en s, vE c → c ∈ en t) : ∀ c ∈ en (ap m s), vE c → c ∈ en (ap m t) := by
  intro c hc hv
  rw [ap_en s hs] at hc
  rw [ap_en t ht]
  obtain ⟨z, z1, z2⟩ := List.mem_flatMap.mp hc
  unfold apC at z2
  by_cases hz : vE z
  · refine List.mem_flatMap.mpr ⟨z, h z z1 hz, ?_⟩
    unfold apC
    exact z2
  · rw [if_neg hz, List.mem_singleton] at z2
    rw [z2] at hv
    exact absurd hv hz
/-- what is named by the peak's names has no other variables -/
theorem way_in {l l' nm : List Int32} {c : Int32} (hnm : nm = (cnS [] l).2) (h : ∀ x ∈ l', vE x → x ∈ l) (hc : c ∈ (cnS nm l').1) (hv : isV c) : c ∈ (cnS [] l).1 := by
  have e2 : (cnS nm l').2 = nm := cnS_old l' nm (fun x hx hvx => by rw [hnm]; exact cnS_has l [] x (h x hx hvx) hvx)
  rw [cnS_map, e2] at hc
  obtain ⟨z, z1, z2⟩ := List.mem_map.mp hc
  rw [cnS_map, ← hnm]
  by_cases hz : vE z
  · exact List.mem_map.mpr ⟨z, h z z1 hz, z2⟩
  · rw [rho_n hz] at z2
    rw [z2] at hz
    exact absurd (Or.inl hv) hz
theorem ovG_from {r q : Tm × Tm} {o : Tm × Tm × Tm} : ∀ m k, k + m = sz r.1 → o ∈ ovG r q m k → ∃ node, node < sz r.1 ∧ ovA r q node = some o := by
  intro m
  induction m with
  | zero => intro k _ h; cases h
  | succ m ih =>
    intro k hk h
    by_cases hv : isV (sgn r.1 k)
    · rw [ovG_v hv] at h
      exact ih _ (by omega) h
    · cases e : ovA r q k with
      | none =>
        rw [ovG_n hv e] at h
        exact ih _ (by omega) h
      | some o' =>
        rw [ovG_s hv e] at h
        rcases List.mem_cons.mp h with h | h
        · exact ⟨k, by omega, by rw [e, h]⟩
        · exact ih _ (by omega) h
theorem ov_facts {r q : Tm × Tm} {o : Tm × Tm × Tm} {k0 : Nat} (hr : rlOk r) (hq : rlOk q) (hk0 : k0 ≤ sz r.1) (ho : o ∈ ovL r q k0) :
    (∃ th, o.1 = ap th r.1) ∧ (∃ k th, k < sz o.1 ∧ sub o.1 k = ap th q.1) ∧ (∀ c, isV c → c ∈ en o.2.1 → c ∈ en o.1) ∧ (∀ c, isV c → c ∈ en o.2.2 → c ∈ en o.1) := by
  unfold ovL at ho
  split at ho
  rotate_left
  · cases ho
  rename_i hnv
  obtain ⟨h3, h4⟩ := hnv
  obtain ⟨node, hn, hA⟩ := ovG_from _ _ (by omega) ho
  have hOk := ovA_ok hr hq h3 h4 hn hA
  cases e : mgO (sub r.1 node) (apt q.1) with
  | none => unfold ovA at hA; rw [e] at hA; cases hA
  | some m =>
    have hm := mgO_some e
    rw [ovA_of hr hq hn hm] at hA
    split at hA
    · cases hA
    split at hA
    · cases hA
    split at hA
    · cases hA
    rename_i z1 z2 z3
    obtain ⟨g1, g2, g3⟩ := ov_trees hr hq h3 h4 hn hm (by omega) (by omega) (by omega)
    obtain ⟨p1, p2, p3⟩ := treeOf_ok g1
    obtain ⟨w1, w2, w3⟩ := treeOf_ok g2
    obtain ⟨v1, v2, v3⟩ := treeOf_ok g3
    cases hA
    obtain ⟨hw, -, x, y, hx, he, hrep⟩ := sub_pieces r.1 hr.1 node hn
    have hin : ∀ c ∈ en (sub r.1 node), c ∈ en r.1 := fun c hc => by rw [he]; simp [hc]
    have hv : ∀ t, wf t → ∀ c ∈ en t, vE c → isV c := fun t ht c hc hv => by have := sg_en t ht c hc; omega
    have h6 := names6 (wfE_of _ hw) (apt_wf q.1 hq.1) hm (p := r.1) (q := q.1) hq.1 h3 h4 hin rfl [r.1] (fun u hu => by
      rw [List.mem_singleton] at hu
      subst hu
      exact ⟨wfE_of _ hr.1, fun c hc hvc => Or.inl ⟨hc, hv _ hr.1 c hc hvc⟩⟩) (fun c hc hvc => hv _ hw c hc hvc)
    simp only [List.flatMap_cons, List.flatMap_nil, List.append_nil] at h6
    have hwE : wfE (ap m r.1) := ap_wf hm.1 _ (wfE_of r.1 hr.1)
    have eP : treeOf (o1 m r.1).1 = rnT (rho (o1 m r.1).2) (ap m r.1) := by
      refine en_inj1 p1 (rnT_wf (fun c => rho_n) _ hwE (fun c hc hvc => rho_V h6 (cnS_has _ _ c hc hvc) hvc)) ?_
      rw [p2, rnT_en]
      exact cnS_map _ _
    have sv1 : ∀ c ∈ en (ap m r.2), vE c → c ∈ en (ap m r.1) := var_ap (wfE_of _ hr.2.1) (wfE_of _ hr.1) (fun c hc hvc => (hr.2.2.2.2.2 c ⟨hv _ hr.2.1 c hc hvc, hc⟩).2)
    have sv0 : ∀ c ∈ en (ap m (apt q.1)), vE c → c ∈ en (ap m r.1) := by
      rw [← hm.2.1]
      exact var_ap (wfE_of _ hw) (wfE_of _ hr.1) (fun c hc _ => hin c hc)
    have sv2 : ∀ c ∈ en (ap m (fB r.1 0 node (apt q.2))), vE c → c ∈ en (ap m r.1) := by
      intro c hc hvc
      rw [ap_en _ (wfE_ov hr hq)] at hc
      obtain ⟨z, k1, k2⟩ := List.mem_flatMap.mp hc
      unfold apC at k2
      by_cases hz : vE z
      rotate_left
      · rw [if_neg hz, List.mem_singleton] at k2
        rw [k2] at hvc
        exact absurd hvc hz
      have k2' : c ∈ apC m z := by unfold apC; exact k2
      rw [fB_0 _ _ hn, hrep] at k1
      rcases List.mem_append.mp k1 with k1 | k1
      · rw [ap_en _ (wfE_of _ hr.1)]
        exact List.mem_flatMap.mpr ⟨z, by rw [he]; simp [k1], k2'⟩
      rcases List.mem_append.mp k1 with k1 | k1
      · refine sv0 c ?_ hvc
        rw [ap_en _ (apt_wf _ hq.1)]
        refine List.mem_flatMap.mpr ⟨z, ?_, k2'⟩
        rw [apt_en] at k1 ⊢
        obtain ⟨y1, j1, j2⟩ := List.mem_map.mp k1
        by_cases hy : isV y1
        · exact List.mem_map.mpr ⟨y1, (hq.2.2.2.2.2 y1 ⟨hy, j1⟩).2, j2⟩
        · rw [apc_n hy] at j2
          rw [j2] at j1 hy
          exact absurd (hv _ hq.2.1 z j1 hz) hy
      · rw [ap_en _ (wfE_of _ hr.1)]
        exact List.mem_flatMap.mpr ⟨z, by rw [he]; simp [k1], k2'⟩
    refine ⟨⟨_, eP.trans (rnT_ap (fun c => rho_n) r.1)⟩, ?_, ?_, ?_⟩
    · obtain ⟨k, hk, ek⟩ := sub_ap hm.1 r.1 hr.1 node hn
      refine ⟨k, fun v => rnT (rho (o1 m r.1).2) (m (swN v)), ?_, ?_⟩
      · show k < sz (treeOf (o1 m r.1).1)
        rw [eP, rnT_sz]
        exact hk
      · show sub (treeOf (o1 m r.1).1) k = _
        rw [eP, sub_rn, ek, hm.2.1, rnT_ap (fun c => rho_n), apt_sw q.1 hq.1, ap_sw]
    · intro c hc hm1
      have hm1 : c ∈ en (treeOf (o2 m r.1 r.2).1) := hm1
      show c ∈ en (treeOf (o1 m r.1).1)
      rw [w2] at hm1
      rw [p2]
      exact way_in rfl sv1 hm1 hc
    · intro c hc hm1
      have hm1 : c ∈ en (treeOf (o3 m r.1 r.2 (fB r.1 0 node (apt q.2))).1) := hm1
      show c ∈ en (treeOf (o1 m r.1).1)
      rw [v2] at hm1
      rw [p2]
      have e2 : (o2 m r.1 r.2).2 = (o1 m r.1).2 := cnS_old _ _ (fun x hx hvx => cnS_has _ _ x (sv1 x hx hvx) hvx)
      exact way_in e2 sv2 hm1 hc
theorem vb_way : ∀ a, a < 64 → ∀ b, b < 64 → (∀ i, i < 6 → a.testBit i = true → b.testBit i = true) → jn a &&& (jn b ^^^ jz 1) = jn 0 := by decide +kernel
theorem vb_in {l l' : List Int32} (h : ∀ c, isV c → c ∈ l → c ∈ l') : vb l &&& (vb l' ^^^ jz 1) = jn 0 := by
  obtain ⟨a, a1, a2, a3⟩ := vb_spec l
  obtain ⟨b, b1, b2, b3⟩ := vb_spec l'
  rw [a2, b2]
  exact vb_way a a1 b b1 (fun i hi h1 => (b3 i hi).mpr (h _ (k_isV hi) ((a3 i hi).mp h1)))
section
variable {d n a b t : Nat} {A : AT} {M : PM} {T : Tm}
theorem rs_at (hA : AOk A) {r : Nat} (hr : r < (rsA A).length) : rlOk ((rsA A).getD r (Lf, Lf)) := by
  refine hA.1.2.1.2 _ ?_
  rw [List.getD_eq_getElem?_getD, List.getElem?_eq_getElem hr]
  exact List.getElem_mem hr
theorem ovN_K {A A' : AT} (h : rsA A' = rsA A) (x y : Int32) : ovN A' x y = ovN A x y := by unfold ovN rlN; rw [h]
theorem F_overlap_at {j e : Nat} {o : Tm × Tm × Tm} (hA : AOk A) (ha : a < (rsA A).length) (hb : b < (rsA A).length) (he : e ≤ 2) (hj : j < 1000) (ho : (ovN A (jn a) (jn b))[j]? = some o) : F_overlap A (jn a) (jn b) (jn j) (jn e) = addT A (ovW o (jn e)) := by
  unfold F_overlap
  rw [if_neg (fun z => z (hsR_at hA ha).1), if_neg (fun z => z (hsR_at hA hb).1), if_neg (fun z => z (by rw [jn_toInt (by omega)]; omega)), if_neg (by rw [jn_toInt (by omega)]; omega), jnN (by omega), ho]
theorem F_overlap_no {j : Nat} (hA : AOk A) (ha : a < (rsA A).length) (hb : b < (rsA A).length) (hj : j < 1000) (ho : (ovN A (jn a) (jn b))[j]? = none) : F_overlap A (jn a) (jn b) (jn j) (jn 0) = rfs A 5 := by
  unfold F_overlap
  rw [if_neg (fun z => z (hsR_at hA ha).1), if_neg (fun z => z (hsR_at hA hb).1), if_neg (fun z => z (by rw [jn_toInt (by omega)]; omega)), if_neg (by rw [jn_toInt (by omega)]; omega), jnN (by omega), ho]
theorem F_meets_at {j : Nat} {o : Tm × Tm × Tm} (hA : AOk A) (ha : a < (rsA A).length) (hb : b < (rsA A).length) (hj : j < 1000) (ho : (ovN A (jn a) (jn b))[j]? = some o) : F_meets A (jn a) (jn b) (jn j) = (metV A o, A) := by
  unfold F_meets
  rw [if_neg (fun z => z (hsR_at hA ha).1), if_neg (fun z => z (hsR_at hA hb).1), if_neg (by rw [jn_toInt (by omega)]; omega), jnN (by omega), ho]
theorem F_meets_no {j : Nat} (hA : AOk A) (ha : a < (rsA A).length) (hb : b < (rsA A).length) (hj : j < 1000) (ho : (ovN A (jn a) (jn b))[j]? = none) : F_meets A (jn a) (jn b) (jn j) = rfs A 5 := by
  unfold F_meets
  rw [if_neg (fun z => z (hsR_at hA ha).1), if_neg (fun z => z (hsR_at hA hb).1), if_neg (by rw [jn_toInt (by omega)]; omega), jnN (by omega), ho]
theorem F_termOf_2 (hA : AOk A) (ht : (tsA A)[t]? = some T) : F_termOf A (jn t) (jn 2) = (vb (en T), A) := by
  obtain ⟨a1, a2, -⟩ := tm_at hA ht
  unfold F_termOf
  rw [if_neg (fun z => z a1), if_neg (show ¬ jn 2 = jn 0 by decide), if_neg (show ¬ jn 2 = jn 1 by decide), if_pos rfl, a2]
theorem metV_le {o : Tm × Tm × Tm} : (metV A o = jn 2 ∨ metV A o = jn 1 ∨ metV A o = jn 0) ∧ (metV A o = jn 0 → o.2.1 ≠ o.2.2) := by
  unfold metV
  cases e1 : rnA A (jn 300) o.2.1 0 0 with
  | mk x q =>
    cases x with
    | none => exact ⟨Or.inl rfl, fun z => absurd (show jn 2 = jn 0 from z) (by decide)⟩
    | some u =>
      simp only
      cases e2 : rnA A (jn 300) o.2.2 0 0 with
      | mk y q2 =>
        cases y with
        | none => exact ⟨Or.inl rfl, fun z => absurd (show jn 2 = jn 0 from z) (by decide)⟩
        | some v =>
          simp only
          unfold bI
          by_cases h : en u = en v
          · rw [if_pos h]
            exact ⟨Or.inr (Or.inl rfl), fun z => absurd z (by decide)⟩
          · rw [if_neg h]
            refine ⟨Or.inr (Or.inr rfl), fun _ z => h ?_⟩
            rw [z, e2] at e1
            cases e1
            rfl
theorem ya_term2 {Q : AT → Prop} {v : Int32} {g : Int32 → PM → PO} (hd : 14 ≤ d) (hA : AOk A) (h : RX A M) (ht : (tsA A)[t]? = some T) (hh : ∀ M1, RX A M1 → Ya M1 Q v (g (vb (en T)) M1)) : Ya M Q v (kI (pcl GG laz d 17 [.ref 0, .int (jn t), .int (jn 2)] M) g) := by
  have x := x_termOf (a := jn t) (b := jn 2) hd hA h
  rw [F_termOf_2 hA ht] at x
  exact ya_I x hh
theorem F_same_ne {U : Tm} (hA : AOk A) (ha : (tsA A)[a]? = some T) (hb : (tsA A)[b]? = some U) (h : T ≠ U) : ∃ x, x ≠ jn 0 ∧ F_same A (jn a) (jn b) = (x, A) := by
  obtain ⟨a1, a2, a3, -⟩ := tm_at hA ha
  obtain ⟨b1, b2, b3, -⟩ := tm_at hA hb
  unfold F_same
  rw [if_neg (fun h => h a1), if_neg (fun h => h b1), a2, b2, if_neg (fun z => h (en_inj1 a3 b3 z))]
  split
  · exact ⟨jn 1, by decide, rfl⟩
  · exact ⟨jn 2, by decide, rfl⟩
theorem l_peaks (hd : 62 ≤ d) (hA : AOk A) (h : RX A M) (hn : (tsA A).length = n) (hn4 : n ≤ 20) (ha : a < (rsA A).length) (hb : b < (rsA A).length) : Ya M (Sm A) (jn 1) (pcl GG laz d 77 [.ref 0, .int (jn a), .int (jn b), .int (jn n)] M) := by
  obtain ⟨d, rfl⟩ := ex_add (show 1 ≤ d by omega)
  have d14 : 14 ≤ d := by omega
  obtain ⟨ra1, ra2⟩ := hsR_at hA ha
  obtain ⟨rb1, rb2⟩ := hsR_at hA hb
  have hLA := rs_at hA ha
  have hLB := rs_at hA hb
  obtain ⟨hL40, hL⟩ := ovN_ok hA ra1 rb1
  rw [q_77]
  have x1 := x_overlaps (d := d) (a := jn a) (b := jn b) (by omega) hA h
  have f1 : F_overlaps A (jn a) (jn b) = (jn (ovN A (jn a) (jn b)).length, A) := by
    unfold F_overlaps
    rw [if_neg (fun z => z ra1), if_neg (fun z => z rb1)]
  rw [f1] at x1
  refine ya_I x1 (fun M1 h1 => ?_)
  have loop : ∀ m j M2 u6 u7, j + m = (ovN A (jn a) (jn b)).length → RX A M2 → Ya M2 (Sm A) (jn 1) (E_77 d (11, [some (.ref 0), some (.int (jn a)), some (.int (jn b)), some (.int (jn n)), some (.int (jn (ovN A (jn a) (jn b)).length)), some (.int (jn j)), u6, u7], [], M2)) := by
    intro m
    induction m with
    | zero =>
      intro j M2 u6 u7 hj h2
      rw [h_77_11]
      refine ya_nlt (by rw [jn_lt (by omega) (by omega)]; omega) ?_
      have x2 := x_overlap (d := d) (a := jn a) (b := jn b) (c := jn (ovN A (jn a) (jn b)).length) (e := jn 0) (by omega) hA h2
      rw [F_overlap_no hA ha hb (by omega) (List.getElem?_eq_none (Nat.le_refl _))] at x2
      refine ya_I x2 (fun M3 h3 => ya_eq rfl ?_)
      have x3 := x_meets (d := d) (a := jn a) (b := jn b) (c := jn (ovN A (jn a) (jn b)).length) (by omega) (ok_rfs hA) h3
      rw [F_meets_no (A := (rfs A 5).2) (j := (ovN A (jn a) (jn b)).length) (ok_rfs hA) ha hb (by omega) (List.getElem?_eq_none (Nat.le_refl (ovN A (jn a) (jn b)).length))] at x3
      exact ya_I x3 (fun M4 h4 => ya_eq rfl (ya_1 h4 (ok_rfs (ok_rfs hA)) (Sm.rfs.tr Sm.rfs)))
    | succ m ih =>
      intro j M2 u6 u7 hj h2
      have hjl : j < (ovN A (jn a) (jn b)).length := by omega
      have ho : (ovN A (jn a) (jn b))[j]? = some (ovN A (jn a) (jn b))[j] := List.getElem?_eq_getElem hjl
      generalize (ovN A (jn a) (jn b))[j] = o at ho
      have hmem := List.mem_of_getElem? ho
      obtain ⟨⟨o1', o2'⟩, ⟨o3', o4'⟩, ⟨o5', o6'⟩⟩ := hL o hmem
      have hfx : (∃ th, o.1 = ap th ((rsA A).getD a (Lf, Lf)).1) ∧ (∃ k th, k < sz o.1 ∧ sub o.1 k = ap th ((rsA A).getD b (Lf, Lf)).1) ∧ (∀ c, isV c → c ∈ en o.2.1 → c ∈ en o.1) ∧ (∀ c, isV c → c ∈ en o.2.2 → c ∈ en o.1) := by
        refine ov_facts (k0 := ovK (jn a) (jn b)) hLA hLB ?_ ?_
        · have := sz_pos _ hLA.1
          unfold ovK
          split <;> omega
        · rw [← ra2, ← rb2]
          exact hmem
      obtain ⟨⟨th, i1⟩, ⟨k, th', i2, i3⟩, i4, i5⟩ := hfx
      rw [h_77_11]
      simp only [jn_add]
      refine ya_lt (by rw [jn_lt (by omega) (by omega)]; omega) ?_
      -- peak and both ways
      have x2 := x_overlap (d := d) (a := jn a) (b := jn b) (c := jn j) (e := jn 0) (by omega) hA h2
      rw [F_overlap_at hA ha hb (by omega) (by omega) ho, show ovW o (jn 0) = o.1 from if_pos rfl, addT_pt (by omega), hn] at x2
      have hA1 : AOk (pt A o.1) := ok_pt hA (by omega) o1' o2'
      refine ya_I x2 (fun M3 h3 => ya_eq rfl ?_)
      have x3 := x_overlap (d := d) (a := jn a) (b := jn b) (c := jn j) (e := jn 1) (by omega) hA1 h3
      rw [F_overlap_at (A := pt A o.1) hA1 ha hb (by omega) (by omega) ho, show ovW o (jn 1) = o.2.1 from (if_neg (by decide)).trans (if_pos rfl), addT_pt (by rw [len_pt]; omega), len_pt, hn] at x3
      have hA2 : AOk (pt (pt A o.1) o.2.1) := ok_pt hA1 (by rw [len_pt]; omega) o3' o4'
      refine ya_I x3 (fun M4 h4 => ya_eq rfl ?_)
      have x4 := x_overlap (d := d) (a := jn a) (b := jn b) (c := jn j) (e := jn 2) (by omega) hA2 h4
      rw [F_overlap_at (A := pt (pt A o.1) o.2.1) hA2 ha hb (by omega) (by omega) ho, show ovW o (jn 2) = o.2.2 from (if_neg (by decide)).trans (if_neg (by decide)), addT_pt (by rw [len_pt, len_pt]; omega), len_pt, len_pt, hn] at x4
      have hA3 : AOk (pt (pt (pt A o.1) o.2.1) o.2.2) := ok_pt hA2 (by rw [len_pt, len_pt]; omega) o5' o6'
      refine ya_I x4 (fun M5 h5 => ya_eq rfl ?_)
      have aP : (tsA (pt (pt (pt A o.1) o.2.1) o.2.2))[n]? = some o.1 := at_pt (at_pt (by have := at_new (A := A) (t := o.1); rw [hn] at this; exact this))
      have aW : (tsA (pt (pt (pt A o.1) o.2.1) o.2.2))[n + 1]? = some o.2.1 := at_pt (by have := at_new (A := pt A o.1) (t := o.2.1); rw [len_pt, hn] at this; exact this)
      have aV : (tsA (pt (pt (pt A o.1) o.2.1) o.2.2))[n + 2]? = some o.2.2 := by have := at_new (A := pt (pt A o.1) o.2.1) (t := o.2.2); rw [len_pt, len_pt, hn] at this; exact this
      have hp0 := sz_pos _ o1'
      -- both fit
      have fa : fR (pt (pt (pt A o.1) o.2.1) o.2.2) o.1 a 0 = true := by
        unfold fR fitB
        rw [sub_0]
        have := mat_inst (cm := cmA A) (th := th) hLA.1
        rw [← i1] at this
        exact this
      have fb : fR (pt (pt (pt A o.1) o.2.1) o.2.2) o.1 b k = true := by
        unfold fR fitB
        rw [i3]
        exact mat_inst (cm := cmA A) (th := th') hLB.1
      have x5 := x_fits (d := d) (a := jn a) (b := jn n) (c := jn 0) (by omega) hA3 h5
      have l0 : (fl (fR (pt (pt (pt A o.1) o.2.1) o.2.2) o.1 a) (sz o.1) 0)[0]? = some 0 := by
        obtain ⟨s, hs⟩ : ∃ s, sz o.1 = s + 1 := ⟨sz o.1 - 1, by omega⟩
        rw [hs]
        exact fl_0.mpr fa
      rw [F_fits_j (j := 0) (x := 0) hA3 ha aP l0] at x5
      refine ya_I x5 (fun M6 h6 => ya_eq rfl ?_)
      have x6 := x_fits (d := d) (a := jn b) (b := jn n) (c := jz 1) (by omega) hA3 h6
      rw [F_fits_m hA3 hb aP] at x6
      refine ya_I x6 (fun M7 h7 => ya_nlt ?_ ?_)
      · have hm := (fl_in (fR (pt (pt (pt A o.1) o.2.1) o.2.2) o.1 b) (sz o.1) 0 k).mpr ⟨by omega, by omega, fb⟩
        have h0 := List.length_pos_of_mem hm
        have hl := fl_len (fR (pt (pt (pt A o.1) o.2.1) o.2.2) o.1 b) (sz o.1) 0
        rw [jn_lt (by omega) (by omega)]
        omega
      -- variables
      refine ya_term2 d14 hA3 h7 aW (fun M8 h8 => ?_)
      refine ya_term2 d14 hA3 h8 aP (fun M9 h9 => ya_eq (vb_in i4) ?_)
      refine ya_term2 d14 hA3 h9 aV (fun M10 h10 => ?_)
      refine ya_term2 d14 hA3 h10 aP (fun M11 h11 => ya_eq (vb_in i5) ?_)
      -- whether they meet
      have x12 := x_meets (d := d) (a := jn a) (b := jn b) (c := jn j) (by omega) hA3 h11
      rw [F_meets_at (A := pt (pt (pt A o.1) o.2.1) o.2.2) (o := o) hA3 ha hb (by omega) ho] at x12
      obtain ⟨m1, m2⟩ := metV_le (A := pt (pt (pt A o.1) o.2.1) o.2.2) (o := o)
      have back : ∀ M13 u6, RX (pt (pt (pt A o.1) o.2.1) o.2.2) M13 → Ya M13 (Sm A) (jn 1) (E_77 d (172, [some (.ref 0), some (.int (jn a)), some (.int (jn b)), some (.int (jn n)), some (.int (jn (ovN A (jn a) (jn b)).length)), some (.int (jn j)), u6, some (.int (jn 2))], [], M13)) := by
        intro M13 u6 h13
        rw [h_77_172]
        refine ya_nlt (by decide) (ya_drop (by omega) hA3 h13 (fun M14 h14 => ya_eq (by rw [len_pt, len_pt, hn, jn_add]) ?_))
        rw [jn_addz (show 1 ≤ 2 by omega), h_77_172]
        refine ya_nlt (by decide) (ya_drop (by omega) hA2 h14 (fun M15 h15 => ya_eq (by rw [len_pt, hn, jn_add]) ?_))
        rw [jn_addz (show 1 ≤ 2 - 1 by omega), h_77_172]
        refine ya_nlt (by decide) (ya_drop (by omega) hA1 h15 (fun M16 h16 => ya_eq (by rw [hn, jn_add]; rfl) ?_))
        rw [h_77_172]
        refine ya_lt (by decide) ?_
        rw [jn_add]
        exact ih (j + 1) M16 _ _ (by omega) h16
      refine ya_I x12 (fun M12 h12 => ?_)
      rcases m1 with z | z | z
      · refine ya_nlt (by simp only [z]; decide) (ya_nlt (by simp only [z]; decide) (ya_ne (by simp only [z]; decide) ?_))
        exact back M12 _ h12
      · refine ya_nlt (by simp only [z]; decide) (ya_nlt (by simp only [z]; decide) (ya_ne (by simp only [z]; decide) ?_))
        exact back M12 _ h12
      · refine ya_nlt (by simp only [z]; decide) (ya_nlt (by simp only [z]; decide) (ya_eq z ?_))
        obtain ⟨x, e1, e2⟩ := F_same_ne (A := pt (pt (pt A o.1) o.2.1) o.2.2) hA3 aW aV (m2 z)
        have x13 := x_same (d := d) (a := jn (n + 1)) (b := jn (n + 2)) (by omega) hA3 h12
        rw [e2] at x13
        refine ya_I x13 (fun M13 h13 => ya_ne e1 ?_)
        exact back M13 _ h13
  exact loop (ovN A (jn a) (jn b)).length 0 M1 _ _ (by omega) h1
end
