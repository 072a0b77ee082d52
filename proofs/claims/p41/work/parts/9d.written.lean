/-! what is written of a most general one -/
def apc (c : Int32) : Int32 := if isV c then c - jn 32 else c
def apt : Tm → Tm
  | .leaf => .leaf
  | .inner n c u a b => .inner n (apc c) u (apt a) (apt b)
theorem apc_I {c : Int32} (h : isV c) : (apc c).toInt = c.toInt - 32 := by
  unfold apc
  rw [if_pos h]
  obtain ⟨n, hn, rfl⟩ := inn (a := c) (n := 123) (by omega)
  have h' : 117 ≤ (jn n).toInt ∧ (jn n).toInt ≤ 122 := h
  rw [jn_toInt (by omega)] at h'
  rw [jn_sub (by omega), jn_toInt (by omega), jn_toInt (by omega)]; omega
theorem apc_n {c : Int32} (h : ¬ isV c) : apc c = c := if_neg h
theorem apt_en : ∀ t, en (apt t) = (en t).map apc := by
  intro t
  induction t with
  | leaf => rfl
  | inner n c u a b iha ihb => simp [apt, en, iha, ihb]
theorem apt_sz (t : Tm) : sz (apt t) = sz t := by show (en (apt t)).length = _; rw [apt_en, List.length_map]
theorem apt_wf : ∀ t, wf t → wfE (apt t) := by
  refine wf_ind (fun c hc => ?_) (fun c a hc _ iha => ?_) (fun c a b hc _ _ iha ihb => ?_)
  · refine wfE_0 ?_
    by_cases h : isV c
    · have := apc_I h; omega
    · rw [apc_n h]; omega
  · have : apc c = c := apc_n (by omega)
    show wfE (Nd (apc c) (apt a) Lf)
    rw [this]; exact wfE_1 hc iha
  · have : apc c = c := apc_n (by omega)
    show wfE (Nd (apc c) (apt a) (apt b))
    rw [this]; exact wfE_2 hc iha ihb
/-- a tree whose variables are named -/
theorem named : ∀ u, wfE u → ∀ nm, (cnS nm (en u)).2.length ≤ 6 → ∃ t, wf t ∧ en t = (cnS nm (en u)).1 := by
  refine wfE_ind (fun c hc => ?_) (fun c a hc ha iha => ?_) (fun c a b hc ha hb iha ihb => ?_)
  · intro nm h
    rw [en_0] at h ⊢
    obtain ⟨h1, h2⟩ := cnS_out [c] nm 0 c rfl
    have hl := cnS_len [c] nm
    generalize (cnS nm [c]).1 = o at h1 h2 hl
    match o, hl with
    | [x], _ =>
      by_cases hv : vE c
      · obtain ⟨j, h3, h4⟩ := h1 hv
        rw [List.getElem?_cons_zero, Option.some.injEq] at h4
        exact ⟨Nd x Lf Lf, wf_0 (by rw [h4, is0, jn_toInt (by omega)]; omega), en_0 x⟩
      · have h4 := h2 hv
        rw [List.getElem?_cons_zero, Option.some.injEq] at h4
        have h5 : is0 c := by
          rcases hc with hc | hc | hc
          · exact Or.inl hc
          · exact absurd (Or.inl hc) hv
          · exact absurd (Or.inr hc) hv
        exact ⟨Nd x Lf Lf, wf_0 (h4 ▸ h5), en_0 x⟩
  · intro nm h
    have hv : ¬ vE c := by omega
    rw [en_1, cnS_non hv] at h ⊢
    obtain ⟨t, h1, h2⟩ := iha nm h
    exact ⟨Nd c t Lf, wf_1 hc h1, by rw [en_1, h2]⟩
  · intro nm h
    have hv : ¬ vE c := by omega
    rw [en_2, cnS_non hv, cnS_app] at h ⊢
    have h3 : ∀ (l nm : List Int32), nm.length ≤ (cnS nm l).2.length := by
      intro l
      induction l with
      | nil => intro nm; exact Nat.le_refl _
      | cons c l ih2 =>
        intro nm
        by_cases hv : vE c
        · by_cases hm : c ∈ nm
          · rw [cnS_in hv hm]; exact ih2 nm
          · rw [cnS_new hv hm]
            have := ih2 (nm ++ [c])
            rw [List.length_append] at this
            show nm.length ≤ (cnS (nm ++ [c]) l).2.length
            omega
        · rw [cnS_non hv]; exact ih2 nm
    obtain ⟨t, h1, h2⟩ := iha nm (Nat.le_trans (h3 (en b) _) h)
    obtain ⟨t', h4, h5⟩ := ihb _ h
    exact ⟨Nd c t t', wf_2 hc h1 h4, by rw [en_2, h2, h5]⟩
noncomputable def mgO (s t : Tm) : Option (Nat → Tm) := @dite _ (∃ m, Mgu m s t) (Classical.propDecidable _) (fun h => some (Classical.choose h)) (fun _ => none)
theorem mgO_some {s t : Tm} {m : Nat → Tm} (h : mgO s t = some m) : Mgu m s t := by
  unfold mgO at h
  split at h
  · rename_i hx; cases h; exact Classical.choose_spec hx
  · cases h
theorem mgO_of {s t : Tm} {m : Nat → Tm} (h : Mgu m s t) : ∃ n, mgO s t = some n ∧ Mgu n s t := by
  cases e : mgO s t with
  | some n => exact ⟨n, rfl, mgO_some e⟩
  | none =>
    unfold mgO at e
    split at e
    · cases e
    · rename_i hx; exact absurd ⟨m, h⟩ hx
theorem mgO_none {s t : Tm} (h : ∀ th, ap th s ≠ ap th t) : mgO s t = none := by
  cases e : mgO s t with
  | none => rfl
  | some n => exact absurd (mgO_some e).2.1 (h n)
/-- one, two, three trees that are written behind one another -/
abbrev o1 (m : Nat → Tm) (a : Tm) : List Int32 × List Int32 := cnS [] (en (ap m a))
abbrev o2 (m : Nat → Tm) (a b : Tm) : List Int32 × List Int32 := cnS (o1 m a).2 (en (ap m b))
abbrev o3 (m : Nat → Tm) (a b c : Tm) : List Int32 × List Int32 := cnS (o2 m a b).2 (en (ap m c))
section
variable {m n : Nat → Tm} {s t a b c : Tm}
theorem o1_same (hm : Mgu m s t) (hn : Mgu n s t) (ha : wfE a) : (o1 n a).1 = (o1 m a).1 := by
  have := mg_cn hm hn [a] (fun u hu => by rw [List.mem_singleton] at hu; rw [hu]; exact ha)
  simpa using this
theorem o2_same (hm : Mgu m s t) (hn : Mgu n s t) (ha : wfE a) (hb : wfE b) : (o2 n a b).1 = (o2 m a b).1 := by
  have := mg_cn hm hn [a, b] (fun u hu => by rcases List.mem_cons.mp hu with rfl | hu; exact ha; rw [List.mem_singleton] at hu; rw [hu]; exact hb)
  simp only [List.flatMap_cons, List.flatMap_nil, List.append_nil] at this
  rw [cnS_app, cnS_app] at this
  exact (List.append_inj this (by rw [cnS_len, cnS_len]; exact mg_sz hm hn ha)).2
theorem o3_same (hm : Mgu m s t) (hn : Mgu n s t) (ha : wfE a) (hb : wfE b) (hc : wfE c) : (o3 n a b c).1 = (o3 m a b c).1 := by
  have := mg_cn hm hn [a, b, c] (fun u hu => by rcases List.mem_cons.mp hu with rfl | hu; exact ha; rcases List.mem_cons.mp hu with rfl | hu; exact hb; rw [List.mem_singleton] at hu; rw [hu]; exact hc)
  simp only [List.flatMap_cons, List.flatMap_nil, List.append_nil] at this
  rw [cnS_app, cnS_app, cnS_app, cnS_app] at this
  have h1 := (List.append_inj this (by rw [cnS_len, cnS_len]; exact mg_sz hm hn ha)).2
  exact (List.append_inj h1 (by rw [cnS_len, cnS_len]; exact mg_sz hm hn hb)).2
/-- how many variables -/
def nvr (l : List Int32) : Nat := cntP (fun i => decide (jn (117 + i) ∈ l)) 6
/-- what is named is a variable of the two -/
theorem sg_en : ∀ t, wf t → ∀ c ∈ en t, sg c := by
  refine wf_ind (fun c hc => ?_) (fun c a hc _ iha => ?_) (fun c a b hc _ _ iha ihb => ?_)
  · intro x hx; rw [en_0, List.mem_singleton] at hx; rw [hx]; exact Or.inl hc
  · intro x hx
    rw [en_1] at hx
    rcases List.mem_cons.mp hx with rfl | hx
    · exact Or.inr (Or.inl hc)
    · exact iha x hx
  · intro x hx
    rw [en_2] at hx
    rcases List.mem_cons.mp hx with rfl | hx
    · exact Or.inr (Or.inr hc)
    · rcases List.mem_append.mp hx with hx | hx
      · exact iha x hx
      · exact ihb x hx
theorem names6 (hs : wfE s) (ht : wfE t) (hm : Mgu m s t) {p q : Tm} (hqw : wf q) (hp : nvr (en p) ≤ 3) (hq : nvr (en q) ≤ 3) (h1 : ∀ c ∈ en s, c ∈ en p) (h2 : t = apt q) (us : List Tm) (hu : ∀ u ∈ us, wfE u ∧ ∀ c ∈ en u, vE c → c ∈ en p ∧ isV c ∨ c ∈ en (apt q) ∧ ¬ isV c) (hsv : ∀ c ∈ en s, vE c → isV c) : (cnS [] (us.flatMap fun u => en (ap m u))).2.length ≤ 6 := by
  have hN := cnS_nm (us.flatMap fun u => en (ap m u)) [] (by simp)
  generalize (cnS [] (us.flatMap fun u => en (ap m u))).2 = nm at hN
  have hE : ∀ c ∈ nm, vE c := fun c hc => (hN.2.1 c hc).elim (fun z => by cases z) (fun z => z.2)
  have hlen := nodup_cnt nm hN.1 hE
  -- where a name comes from
  have from1 : ∀ c ∈ nm, c ∈ en p ∧ isV c ∨ c ∈ en (apt q) ∧ ¬ isV c := by
    intro c hc
    obtain ⟨hc1, hv⟩ := (hN.2.1 c hc).resolve_left (fun z => by cases z)
    obtain ⟨u, hu1, hu2⟩ := List.mem_flatMap.mp hc1
    obtain ⟨hwu, huv⟩ := hu u hu1
    rw [ap_en u hwu] at hu2
    obtain ⟨x, hx1, hx2⟩ := List.mem_flatMap.mp hu2
    unfold apC at hx2
    by_cases hvx : vE x
    · rw [if_pos hvx] at hx2
      have hsrc := huv x hx1 hvx
      by_cases e : vn x = vn c
      · rw [← vn_inj hvx hv e]; exact hsrc
      · by_cases i1 : vcd (vn c) ∈ en s
        · rw [vcd_vn hv] at i1
          exact Or.inl ⟨h1 c i1, hsv c i1 hv⟩
        · by_cases i2 : vcd (vn c) ∈ en t
          · rw [vcd_vn hv] at i2
            rw [h2] at i2
            refine Or.inr ⟨i2, fun hi => ?_⟩
            rw [apt_en] at i2
            obtain ⟨y, hy1, hy2⟩ := List.mem_map.mp i2
            by_cases hy : isV y
            · have := apc_I hy
              rw [hy2] at this
              omega
            · rw [apc_n hy] at hy2
              exact hy (hy2 ▸ hi)
          · have := mgu_vars hs ht hm (vn_lt hvx) (vn_lt hv) e i1 i2
            rw [vcd_vn hv] at this
            exact absurd hx2 this
    · rw [if_neg hvx, List.mem_singleton] at hx2
      exact absurd (hx2 ▸ hv) hvx
  have hsplit : cntP (fun v => decide (vcd v ∈ nm)) 12 = cntP (fun v => decide (vcd v ∈ nm)) 6 + cntP (fun i => decide (vcd (6 + i) ∈ nm)) 6 := cntP_add (fun v => decide (vcd v ∈ nm)) 6 6
  have c1 : cntP (fun v => decide (vcd v ∈ nm)) 6 ≤ nvr (en p) := by
    refine cntP_mono 6 (fun i hi z => ?_)
    simp only [decide_eq_true_eq] at z ⊢
    have e : vcd i = jn (117 + i) := if_pos hi
    rw [e] at z
    rcases from1 _ z with z2 | z2
    · exact z2.1
    · exact absurd (by rw [isV, jn_toInt (by omega)]; omega) z2.2
  have c2 : cntP (fun i => decide (vcd (6 + i) ∈ nm)) 6 ≤ nvr (en q) := by
    refine cntP_mono 6 (fun i hi z => ?_)
    simp only [decide_eq_true_eq] at z ⊢
    have e : vcd (6 + i) = jn (79 + (6 + i)) := if_neg (by omega)
    rw [e] at z
    rcases from1 _ z with z2 | z2
    · have := z2.2
      rw [isV, jn_toInt (by omega)] at this
      omega
    · have := z2.1
      rw [apt_en] at this
      obtain ⟨y, hy1, hy2⟩ := List.mem_map.mp this
      by_cases hy : isV y
      · have e3 := apc_I hy
        rw [hy2, jn_toInt (by omega)] at e3
        have : y = jn (117 + i) := by rw [← Int32.toInt_inj, jn_toInt (by omega)]; omega
        rw [← this]; exact hy1
      · rw [apc_n hy] at hy2
        exfalso
        have h5 := sg_en q hqw y hy1
        have h6 : y.toInt = ((79 + (6 + i) : Nat) : Int) := by rw [hy2, jn_toInt (by omega)]
        rcases h5 with h5 | h5 | h5 <;> omega
  omega
end
