/-! INSTANCES: a tree with something put in for variables is matched; other names -/
def Cn (e : EV) (th : Nat → Tm) : Prop := ∀ v x, v < 6 → e v = some x → x = th v
theorem vn_vi {c : Int32} (h : isV c) : vn c = vi c := by unfold vn; rw [if_pos h.1]
theorem ms_inst {cm : Int32 → Bool} {th : Nat → Tm} : ∀ p, wf p → ∀ e, Cn e th → ∃ e', e' ∈ ms cm p (ap th p) e ∧ Cn e' th := by
  refine wf_ind (fun c hc => ?_) (fun c a hc ha iha => ?_) (fun c a b hc ha hb iha ihb => ?_)
  · intro e he
    by_cases hv : isV c
    · have hE : vE c := Or.inl hv
      rw [ap_v hE, ms.eq_def]
      simp only
      rw [if_pos hv]
      cases hk : e (vi c) with
      | none =>
        simp only
        refine ⟨_, List.mem_singleton.mpr rfl, ?_⟩
        intro v x hv6 hx
        unfold va_up at hx
        by_cases h : v = vi c
        · rw [if_pos h] at hx
          cases hx
          rw [vn_vi hv, h]
        · rw [if_neg h] at hx
          exact he v x hv6 hx
      | some u =>
        simp only
        have := he (vi c) u (vi_lt hv) hk
        rw [if_pos (by rw [this, vn_vi hv])]
        exact ⟨e, List.mem_singleton.mpr rfl, he⟩
    · have hE : ¬ vE c := by omega
      rw [ap_n hE, ms, if_neg hv]
      rw [if_neg (fun h => h rfl), if_neg (by omega), if_neg (by omega)]
      exact ⟨e, List.mem_singleton.mpr rfl, he⟩
  · intro e he
    have hE : ¬ vE c := by omega
    rw [ap_n hE, ms, if_neg (by omega)]
    rw [if_neg (fun h => h rfl), if_neg (by omega), if_pos hc]
    exact iha e he
  · intro e he
    have hE : ¬ vE c := by omega
    rw [ap_n hE, ms, if_neg (by omega)]
    rw [if_neg (fun h => h rfl), if_pos hc]
    obtain ⟨e1, h1, h2⟩ := iha e he
    obtain ⟨e2, h3, h4⟩ := ihb e1 h2
    exact ⟨e2, List.mem_append_left _ (List.mem_flatMap.mpr ⟨e1, h1, h3⟩), h4⟩
theorem mat_inst {cm : Nat} {th : Nat → Tm} {p : Tm} (hp : wf p) : (mat cm p (ap th p)).isSome = true := by
  obtain ⟨e, h, -⟩ := ms_inst (cm := cmB (tE cm p)) (th := th) p hp e0 (fun v x _ h => by cases h)
  unfold mat
  cases hl : ms (cmB (tE cm p)) p (ap th p) e0 with
  | nil => rw [hl] at h; cases h
  | cons x l => rfl
/-! other signs -/
def rnT (f : Int32 → Int32) : Tm → Tm
  | .leaf => .leaf
  | .inner n c u a b => .inner n (f c) u (rnT f a) (rnT f b)
theorem rnT_en (f : Int32 → Int32) : ∀ t, en (rnT f t) = (en t).map f := by
  intro t
  induction t with
  | leaf => rfl
  | inner n c u a b iha ihb =>
    show f c :: (en (rnT f a) ++ en (rnT f b)) = (c :: (en a ++ en b)).map f
    rw [iha, ihb, List.map_cons, List.map_append]
theorem rnT_sz (f : Int32 → Int32) (t : Tm) : sz (rnT f t) = sz t := by
  show (en (rnT f t)).length = _
  rw [rnT_en, List.length_map]
theorem rnT_ap {f : Int32 → Int32} {m : Nat → Tm} (hf : ∀ c, ¬ vE c → f c = c) : ∀ t, rnT f (ap m t) = ap (fun v => rnT f (m v)) t := by
  intro t
  induction t with
  | leaf => rfl
  | inner n c u a b iha ihb =>
    show rnT f (if vE c then m (vn c) else .inner n c u (ap m a) (ap m b)) = if vE c then rnT f (m (vn c)) else .inner n c u (ap (fun v => rnT f (m v)) a) (ap (fun v => rnT f (m v)) b)
    by_cases h : vE c
    · rw [if_pos h, if_pos h]
    · rw [if_neg h, if_neg h]
      show Std.DTreeMap.Internal.Impl.inner n (f c) u (rnT f (ap m a)) (rnT f (ap m b)) = _
      rw [hf c h, iha, ihb]
theorem rnT_wf {f : Int32 → Int32} (hf : ∀ c, ¬ vE c → f c = c) : ∀ t, wfE t → (∀ c ∈ en t, vE c → isV (f c)) → wf (rnT f t) := by
  refine wfE_ind (fun c hc => ?_) (fun c a hc ha iha => ?_) (fun c a b hc ha hb iha ihb => ?_)
  · intro h
    show wf (Nd (f c) Lf Lf)
    by_cases hv : vE c
    · have := h c (by rw [en_0]; simp) hv
      exact wf_0 (by omega)
    · rw [hf c hv]
      exact wf_0 (by omega)
  · intro h
    show wf (Nd (f c) (rnT f a) Lf)
    rw [hf c (by omega)]
    exact wf_1 hc (iha (fun x hx => h x (by rw [en_1]; simp [hx])))
  · intro h
    show wf (Nd (f c) (rnT f a) (rnT f b))
    rw [hf c (by omega)]
    exact wf_2 hc (iha (fun x hx => h x (by rw [en_2]; simp [hx]))) (ihb (fun x hx => h x (by rw [en_2]; simp [hx])))
theorem rnT_wfE {f : Int32 → Int32} (hf : ∀ c, ¬ vE c → f c = c) (hv : ∀ c, vE c → vE (f c)) : ∀ t, wfE t → wfE (rnT f t) := by
  refine wfE_ind (fun c hc => ?_) (fun c a hc ha iha => ?_) (fun c a b hc ha hb iha ihb => ?_)
  · show wfE (Nd (f c) Lf Lf)
    by_cases h : vE c
    · have := hv c h
      exact wfE_0 (by omega)
    · rw [hf c h]
      exact wfE_0 hc
  · show wfE (Nd (f c) (rnT f a) Lf)
    rw [hf c (by omega)]
    exact wfE_1 hc iha
  · show wfE (Nd (f c) (rnT f a) (rnT f b))
    rw [hf c (by omega)]
    exact wfE_2 hc iha ihb
/-! names as one map -/
def rho (nm : List Int32) (c : Int32) : Int32 := if vE c then jn (117 + nm.idxOf c) else c
theorem rho_n {nm : List Int32} {c : Int32} (h : ¬ vE c) : rho nm c = c := if_neg h
theorem rho_v {nm : List Int32} {c : Int32} (h : vE c) : rho nm c = jn (117 + nm.idxOf c) := if_pos h
theorem idx_app {c : Int32} : ∀ (l x : List Int32), c ∈ l → (l ++ x).idxOf c = l.idxOf c := by
  intro l
  induction l with
  | nil => intro x h; cases h
  | cons a l ih =>
    intro x h
    rw [List.cons_append, List.idxOf_cons, List.idxOf_cons]
    by_cases e : a = c
    · subst e; simp
    · have b2 : (a == c) = false := by simpa using e
      rw [b2]
      have hm : c ∈ l := by
        rcases List.mem_cons.mp h with h | h
        · exact absurd h.symm e
        · exact h
      rw [ih x hm]
theorem cnS_ext : ∀ (l nm : List Int32), ∃ x, (cnS nm l).2 = nm ++ x := by
  intro l
  induction l with
  | nil => intro nm; exact ⟨[], by simp [cnS]⟩
  | cons c l ih =>
    intro nm
    by_cases hv : vE c
    · by_cases hm : c ∈ nm
      · rw [cnS_in hv hm]; exact ih nm
      · rw [cnS_new hv hm]
        obtain ⟨x, hx⟩ := ih (nm ++ [c])
        exact ⟨[c] ++ x, by show (cnS (nm ++ [c]) l).2 = _; rw [hx, List.append_assoc]⟩
    · rw [cnS_non hv]; exact ih nm
theorem cnS_has : ∀ (l nm : List Int32) (c : Int32), c ∈ l → vE c → c ∈ (cnS nm l).2 := by
  intro l
  induction l with
  | nil => intro nm c h; cases h
  | cons a l ih =>
    intro nm c h hv
    by_cases ha : vE a
    · by_cases hm : a ∈ nm
      · rw [cnS_in ha hm]
        rcases List.mem_cons.mp h with h | h
        · obtain ⟨x, hx⟩ := cnS_ext l nm
          show c ∈ (cnS nm l).2
          rw [hx, h]
          exact List.mem_append_left _ hm
        · exact ih nm c h hv
      · rw [cnS_new ha hm]
        rcases List.mem_cons.mp h with h | h
        · obtain ⟨x, hx⟩ := cnS_ext l (nm ++ [a])
          show c ∈ (cnS (nm ++ [a]) l).2
          rw [hx, h]
          exact List.mem_append_left _ (List.mem_append_right _ (List.mem_singleton.mpr rfl))
        · exact ih (nm ++ [a]) c h hv
    · rw [cnS_non ha]
      rcases List.mem_cons.mp h with h | h
      · rw [h] at hv; exact absurd hv ha
      · exact ih nm c h hv
theorem cnS_map : ∀ (l nm : List Int32), (cnS nm l).1 = l.map (rho (cnS nm l).2) := by
  intro l
  induction l with
  | nil => intro nm; rfl
  | cons c l ih =>
    intro nm
    by_cases hv : vE c
    · by_cases hm : c ∈ nm
      · rw [cnS_in hv hm, List.map_cons]
        obtain ⟨x, hx⟩ := cnS_ext l nm
        show jn (117 + nm.idxOf c) :: (cnS nm l).1 = rho (cnS nm l).2 c :: l.map (rho (cnS nm l).2)
        rw [← ih nm, rho_v hv, hx, idx_app _ _ hm]
      · rw [cnS_new hv hm, List.map_cons]
        obtain ⟨x, hx⟩ := cnS_ext l (nm ++ [c])
        show jn (117 + nm.length) :: (cnS (nm ++ [c]) l).1 = rho (cnS (nm ++ [c]) l).2 c :: l.map (rho (cnS (nm ++ [c]) l).2)
        rw [← ih (nm ++ [c]), rho_v hv, hx, idx_app _ _ (List.mem_append_right _ (List.mem_singleton.mpr rfl)), idx_snoc hm]
    · rw [cnS_non hv, List.map_cons]
      show c :: (cnS nm l).1 = rho (cnS nm l).2 c :: l.map (rho (cnS nm l).2)
      rw [← ih nm, rho_n hv]
theorem idx_lt {c : Int32} : ∀ (l : List Int32), c ∈ l → l.idxOf c < l.length := by
  intro l
  induction l with
  | nil => intro h; cases h
  | cons a l ih =>
    intro h
    rw [List.idxOf_cons, List.length_cons]
    by_cases e : a = c
    · subst e; simp
    · have b2 : (a == c) = false := by simpa using e
      rw [b2]
      rcases List.mem_cons.mp h with h | h
      · exact absurd h.symm e
      · have := ih h
        simp only [cond_false]
        omega
theorem rho_V {nm : List Int32} {c : Int32} (h6 : nm.length ≤ 6) (h : c ∈ nm) (hv : vE c) : isV (rho nm c) := by
  have := idx_lt nm h
  rw [rho_v hv]
  show 117 ≤ (jn (117 + nm.idxOf c)).toInt ∧ (jn (117 + nm.idxOf c)).toInt ≤ 122
  rw [jn_toInt (by omega)]
  omega
/-! the two sides of unifying change places -/
def swC (c : Int32) : Int32 := if isV c then c - jn 32 else if 85 ≤ c.toInt ∧ c.toInt ≤ 90 then c + jn 32 else c
def swN (v : Nat) : Nat := if v < 6 then v + 6 else v - 6
theorem sw_all : ∀ v, v < 12 → vE (swC (vcd v)) ∧ vn (swC (vcd v)) = swN v ∧ swC (swC (vcd v)) = vcd v := by decide +kernel
theorem sw_vE {c : Int32} (h : vE c) : vE (swC c) := by have := (sw_all (vn c) (vn_lt h)).1; rwa [vcd_vn h] at this
theorem sw_vn {c : Int32} (h : vE c) : vn (swC c) = swN (vn c) := by have := (sw_all (vn c) (vn_lt h)).2.1; rwa [vcd_vn h] at this
theorem sw_sw {c : Int32} (h : vE c) : swC (swC c) = c := by have := (sw_all (vn c) (vn_lt h)).2.2; rwa [vcd_vn h] at this
theorem sw_n {c : Int32} (h : ¬ vE c) : swC c = c := by unfold swC; rw [if_neg (by omega), if_neg (by omega)]
theorem swN_lt {v : Nat} (h : v < 12) : swN v < 12 := by unfold swN; split <;> omega
theorem swN_N {v : Nat} (h : v < 12) : swN (swN v) = v := by unfold swN; split <;> split <;> omega
theorem apt_sw : ∀ t, wf t → apt t = rnT swC t := by
  have e : ∀ c, is0 c ∨ is1 c ∨ is2 c → apc c = swC c := by
    intro c h
    by_cases hv : isV c
    · unfold apc swC; rw [if_pos hv, if_pos hv]
    · rw [apc_n hv, sw_n (by omega)]
  refine wf_ind (fun c hc => ?_) (fun c a hc ha iha => ?_) (fun c a b hc ha hb iha ihb => ?_)
  · show Nd (apc c) Lf Lf = Nd (swC c) Lf Lf
    rw [e c (Or.inl hc)]
  · show Nd (apc c) (apt a) Lf = Nd (swC c) (rnT swC a) Lf
    rw [e c (Or.inr (Or.inl hc)), iha]
  · show Nd (apc c) (apt a) (apt b) = Nd (swC c) (rnT swC a) (rnT swC b)
    rw [e c (Or.inr (Or.inr hc)), iha, ihb]
theorem sw_back : ∀ t, rnT swC (rnT swC t) = t := by
  intro t
  induction t with
  | leaf => rfl
  | inner n c u a b iha ihb =>
    show Std.DTreeMap.Internal.Impl.inner n (swC (swC c)) u (rnT swC (rnT swC a)) (rnT swC (rnT swC b)) = _
    rw [iha, ihb]
    by_cases h : vE c
    · rw [sw_sw h]
    · rw [sw_n h, sw_n h]
theorem ap_sw {th : Nat → Tm} : ∀ t, ap th (rnT swC t) = ap (fun v => th (swN v)) t := by
  intro t
  induction t with
  | leaf => rfl
  | inner n c u a b iha ihb =>
    show (if vE (swC c) then th (vn (swC c)) else .inner n (swC c) u (ap th (rnT swC a)) (ap th (rnT swC b))) = if vE c then th (swN (vn c)) else .inner n c u (ap (fun v => th (swN v)) a) (ap (fun v => th (swN v)) b)
    by_cases h : vE c
    · rw [if_pos (sw_vE h), if_pos h, sw_vn h]
    · rw [sw_n h, if_neg h, if_neg h, iha, ihb]
theorem ap_eqv {m m' : Nat → Tm} (h : ∀ v, v < 12 → m v = m' v) : ∀ t, ap m t = ap m' t := by
  intro t
  induction t with
  | leaf => rfl
  | inner n c u a b iha ihb =>
    show (if vE c then m (vn c) else .inner n c u (ap m a) (ap m b)) = if vE c then m' (vn c) else .inner n c u (ap m' a) (ap m' b)
    by_cases hv : vE c
    · rw [if_pos hv, if_pos hv, h _ (vn_lt hv)]
    · rw [if_neg hv, if_neg hv, iha, ihb]
def swmM (m : Nat → Tm) (v : Nat) : Tm := rnT swC (m (swN v))
theorem ap_swM {m : Nat → Tm} (t : Tm) : ap (swmM m) (rnT swC t) = rnT swC (ap m t) := by
  rw [ap_sw, rnT_ap (fun c => sw_n)]
  refine ap_eqv (fun v hv => ?_) t
  show rnT swC (m (swN (swN v))) = rnT swC (m v)
  rw [swN_N hv]
theorem mgu_sw {m : Nat → Tm} {s t : Tm} (h : Mgu m s t) : Mgu (swmM m) (rnT swC t) (rnT swC s) := by
  obtain ⟨h1, h2, h3⟩ := h
  refine ⟨fun v hv => rnT_wfE (fun c => sw_n) (fun c => sw_vE) _ (h1 _ (swN_lt hv)), by rw [ap_swM, ap_swM, h2], fun th ht v hv => ?_⟩
  rw [ap_sw, ap_sw] at ht
  have := h3 _ ht.symm (swN v) (swN_lt hv)
  show th v = ap th (rnT swC (m (swN v)))
  rw [ap_sw, ← this, swN_N hv]
theorem mgu_apt {m : Nat → Tm} {s t : Tm} (hs : wf s) (ht : wf t) (h : Mgu m s (apt t)) : Mgu (swmM m) t (apt s) := by
  have := mgu_sw h
  rw [apt_sw t ht, sw_back] at this
  rw [apt_sw s hs]
  exact this
theorem cnS_sw (l : List Int32) (nm : List Int32) : (cnS (nm.map swC) (l.map swC)).1 = (cnS nm l).1 := by
  have e : ∀ c, rnC swC c = swC c := fun c => by
    by_cases h : vE c
    · exact if_pos h
    · rw [show rnC swC c = c from if_neg h, sw_n h]
  have inj : ∀ x y, vE y → swC x = swC y → x = y := by
    intro x y hy h
    by_cases hx : vE x
    · rw [← sw_sw hx, h, sw_sw hy]
    · rw [sw_n hx] at h
      rw [h] at hx
      exact absurd (sw_vE hy) hx
  have := cnS_ren (f := swC) l nm (fun c _ h => sw_vE h) (fun x _ y _ hy h => inj x y hy h) (fun x _ y _ _ hy h => inj x y hy h)
  rw [show l.map (rnC swC) = l.map swC from List.map_congr_left (fun c _ => e c)] at this
  rw [this]
/-- unifying the other way round: the same, or as little -/
theorem un_none {s t : Tm} (hs : wf s) (ht : wf t) (h : mgO s (apt t) = none) : mgO t (apt s) = none := by
  cases e : mgO t (apt s) with
  | none => rfl
  | some m =>
    obtain ⟨n, h2, -⟩ := mgO_of (mgu_apt ht hs (mgO_some e))
    rw [h] at h2
    cases h2
theorem un_some {s t : Tm} {m : Nat → Tm} (hs : wf s) (ht : wf t) (h : mgO s (apt t) = some m) : ∃ n, mgO t (apt s) = some n ∧ Mgu n t (apt s) ∧ sz (ap n t) = sz (ap m s) ∧ (o1 n t).1 = (o1 m s).1 := by
  have hm := mgO_some h
  have hm' := mgu_apt hs ht hm
  obtain ⟨n, h2, hn⟩ := mgO_of hm'
  have e : ap (swmM m) t = rnT swC (ap m s) := by
    rw [hm.2.1, apt_sw t ht, ← ap_swM, sw_back]
  refine ⟨n, h2, hn, ?_, ?_⟩
  · rw [mg_sz hm' hn (wfE_of t ht), e, rnT_sz]
  · rw [o1_same hm' hn (wfE_of t ht)]
    show (cnS [] (en (ap (swmM m) t))).1 = _
    rw [e, rnT_en]
    exact cnS_sw _ []
/-- what comes of unifying is an instance of both -/
theorem un_inst {s t : Tm} {m : Nat → Tm} (hs : wf s) (ht : wf t) (h3 : nvr (en s) ≤ 3) (h4 : nvr (en t) ≤ 3) (hm : Mgu m s (apt t)) (h40 : sz (ap m s) ≤ 40) : ∃ th th', treeOf (o1 m s).1 = ap th s ∧ treeOf (o1 m s).1 = ap th' t := by
  obtain ⟨k1, k2, k3⟩ := treeOf_ok (un_tree hs ht h3 h4 hm h40)
  have hw : wfE (ap m s) := ap_wf hm.1 _ (wfE_of s hs)
  have hv : ∀ c ∈ en s, vE c → isV c := fun c hc hv => by have := sg_en s hs c hc; omega
  have h6 := names6 (wfE_of s hs) (apt_wf t ht) hm (p := s) (q := t) ht h3 h4 (fun c hc => hc) rfl [s] (fun u hu => by
    rw [List.mem_singleton] at hu
    subst hu
    exact ⟨wfE_of _ hs, fun c hc hvc => Or.inl ⟨hc, hv c hc hvc⟩⟩) hv
  have h6 : (o1 m s).2.length ≤ 6 := by simpa using h6
  have e : treeOf (o1 m s).1 = rnT (rho (o1 m s).2) (ap m s) := by
    refine en_inj1 k1 (rnT_wf (fun c => rho_n) _ hw (fun c hc hvc => rho_V h6 (cnS_has _ _ c hc hvc) hvc)) ?_
    rw [k2, rnT_en]
    exact cnS_map _ _
  refine ⟨fun v => rnT (rho (o1 m s).2) (m v), fun v => rnT (rho (o1 m s).2) (m (swN v)), ?_, ?_⟩
  · rw [e]
    exact rnT_ap (fun c => rho_n) s
  · rw [e, hm.2.1, rnT_ap (fun c => rho_n), apt_sw t ht, ap_sw]
