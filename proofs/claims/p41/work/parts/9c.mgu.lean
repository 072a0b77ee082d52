/-! the most general: what is written by one is written by any -/
theorem fm_len {F : Int32 → List Int32} (h : ∀ c, 1 ≤ (F c).length) : ∀ l : List Int32, l.length ≤ (l.flatMap F).length := by
  intro l
  induction l with
  | nil => simp
  | cons c l ih =>
    rw [List.flatMap_cons, List.length_append, List.length_cons]
    have := h c
    omega
theorem fm_eq {F : Int32 → List Int32} (h : ∀ c, 1 ≤ (F c).length) : ∀ l : List Int32, (l.flatMap F).length = l.length → l.flatMap F = l.map (fun c => (F c).headD 0) := by
  intro l
  induction l with
  | nil => intro _; rfl
  | cons c l ih =>
    intro e
    rw [List.flatMap_cons, List.length_append, List.length_cons] at e
    have h1 := h c
    have h2 := fm_len h l
    have h3 : (F c).length = 1 := by omega
    rw [List.flatMap_cons, ih (by omega), List.map_cons]
    match hF : F c, h3 with
    | [x], _ => rfl
theorem map_id_of {h : Int32 → Int32} : ∀ l : List Int32, l.map h = l → ∀ c ∈ l, h c = c := by
  intro l
  induction l with
  | nil => intro _ c hc; cases hc
  | cons x l ih =>
    intro e c hc
    rw [List.map_cons, List.cons.injEq] at e
    rcases List.mem_cons.mp hc with rfl | hc
    · exact e.1
    · exact ih e.2 c hc
theorem apC_len {m : Nat → Tm} (hm : ∀ v, v < 12 → wfE (m v)) (c : Int32) : 1 ≤ (apC m c).length := by
  unfold apC
  split
  · rename_i h; exact szE_pos (hm _ (vn_lt h))
  · simp
section
variable {m n : Nat → Tm} {s t : Tm}
abbrev nwC (n : Nat → Tm) (c : Int32) : Int32 := (en (n (vn c))).headD 0
theorem apC_hd (c : Int32) : (apC n c).headD 0 = rnC (nwC n) c := by
  unfold apC rnC
  split
  · rfl
  · rfl
theorem mg_same (hm : Mgu m s t) (hn : Mgu n s t) {u : Tm} (hu : wfE u) : en (ap n u) = (en (ap m u)).map (rnC (nwC n)) ∧ en (ap m u) = (en (ap n u)).map (rnC (nwC m)) := by
  obtain ⟨m1, m2, m3⟩ := hm
  obtain ⟨n1, n2, n3⟩ := hn
  have a : en (ap n u) = (en (ap m u)).flatMap (apC n) := by rw [← ap_en _ (ap_wf m1 u hu), ap_ap (m3 n n2) u hu]
  have b : en (ap m u) = (en (ap n u)).flatMap (apC m) := by rw [← ap_en _ (ap_wf n1 u hu), ap_ap (n3 m m2) u hu]
  have la := fm_len (apC_len n1) (en (ap m u))
  have lb := fm_len (apC_len m1) (en (ap n u))
  rw [← a] at la
  rw [← b] at lb
  have e1 : (fun c => (apC n c).headD 0) = rnC (nwC n) := funext apC_hd
  have e2 : (fun c => (apC m c).headD 0) = rnC (nwC m) := funext apC_hd
  refine ⟨?_, ?_⟩
  · rw [← e1, ← fm_eq (apC_len n1) (en (ap m u)) (by rw [← a]; omega)]; exact a
  · rw [← e2, ← fm_eq (apC_len m1) (en (ap n u)) (by rw [← b]; omega)]; exact b
theorem mg_back (hm : Mgu m s t) (hn : Mgu n s t) {u : Tm} (hu : wfE u) {c : Int32} (hc : c ∈ en (ap m u)) (hv : vE c) : vE (nwC n c) ∧ rnC (nwC m) (nwC n c) = c := by
  obtain ⟨a, b⟩ := mg_same hm hn hu
  rw [a, List.map_map] at b
  have h1 := map_id_of _ b.symm c hc
  have h2 : rnC (nwC m) (nwC n c) = c := by
    have : (rnC (nwC m) ∘ rnC (nwC n)) c = rnC (nwC m) (rnC (nwC n) c) := rfl
    rw [this, show rnC (nwC n) c = nwC n c from if_pos hv] at h1
    exact h1
  refine ⟨?_, h2⟩
  by_cases hw : vE (nwC n c)
  · exact hw
  · have h3 : rnC (nwC m) (nwC n c) = nwC n c := if_neg hw
    rw [h3] at h2
    rw [h2]; exact hv
/-- what is written, named -/
theorem mg_cn (hm : Mgu m s t) (hn : Mgu n s t) (us : List Tm) (hu : ∀ u ∈ us, wfE u) : (cnS [] (us.flatMap fun u => en (ap n u))).1 = (cnS [] (us.flatMap fun u => en (ap m u))).1 := by
  have e : (us.flatMap fun u => en (ap n u)) = (us.flatMap fun u => en (ap m u)).map (rnC (nwC n)) := by
    rw [List.map_flatMap]
    exact fl_congr (fun u hu' => (mg_same hm hn (hu u hu')).1)
  have key : ∀ x, x ∈ (us.flatMap fun u => en (ap m u)) → vE x → vE (nwC n x) ∧ rnC (nwC m) (nwC n x) = x := by
    intro x hx hv
    obtain ⟨u, h1, h2⟩ := List.mem_flatMap.mp hx
    exact mg_back hm hn (hu u h1) h2 hv
  have := cnS_ren (f := nwC n) (us.flatMap fun u => en (ap m u)) [] (fun c hc hv => (key c hc hv).1) (fun x hx => by cases hx) (fun x hx y hy hvx hvy z => by rw [← (key x hx hvx).2, ← (key y hy hvy).2, z])
  rw [e]
  rw [List.map_nil] at this
  rw [this]
theorem mg_sz (hm : Mgu m s t) (hn : Mgu n s t) {u : Tm} (hu : wfE u) : sz (ap n u) = sz (ap m u) := by
  show (en (ap n u)).length = (en (ap m u)).length
  rw [(mg_same hm hn hu).1, List.length_map]
/-- what isn't in the two doesn't come of them -/
theorem mgu_vars (hs : wfE s) (ht : wfE t) (hm : Mgu m s t) {v w : Nat} (hv : v < 12) (hw : w < 12) (hvw : v ≠ w) (h1 : vcd w ∉ en s) (h2 : vcd w ∉ en t) : vcd w ∉ en (m v) := by
  intro hin
  obtain ⟨m1, m2, m3⟩ := hm
  have big : wfE (Nd (jn 101) (m w) Lf) := wfE_1 (by rw [is1, jn_toInt (by omega)]; omega) (m1 w hw)
  generalize hth : (fun x => if x = w then Nd (jn 101) (m w) Lf else m x) = th
  have hthw : th w = Nd (jn 101) (m w) Lf := by rw [← hth]; exact if_pos rfl
  have htho : ∀ x, x ≠ w → th x = m x := fun x hx => by rw [← hth]; exact if_neg hx
  have same : ∀ u, wfE u → vcd w ∉ en u → ap th u = ap m u := by
    refine wfE_ind (fun c hc => ?_) (fun c a hc _ iha => ?_) (fun c a b hc _ _ iha ihb => ?_)
    · intro h
      by_cases hv : vE c
      · rw [ap_v hv, ap_v hv, htho]
        rintro rfl
        apply h
        rw [vcd_vn hv, en_0]; simp
      · rw [ap_n hv, ap_n hv]; rfl
    · intro h
      have hv : ¬ vE c := by omega
      rw [en_1] at h
      rw [ap_n hv, ap_n hv, iha (fun z => h (by simp [z]))]; rfl
    · intro h
      have hv : ¬ vE c := by omega
      rw [en_2] at h
      rw [ap_n hv, ap_n hv, iha (fun z => h (by simp [z])), ihb (fun z => h (by simp [z]))]
  have hsol : ap th s = ap th t := by rw [same s hs h1, same t ht h2, m2]
  have g1 := m3 th hsol v hv
  have g2 := m3 m m2 v hv
  rw [htho v hvw] at g1
  have lt : ∀ u, wfE u → sz (ap m u) ≤ sz (ap th u) ∧ (vcd w ∈ en u → sz (ap m u) < sz (ap th u)) := by
    refine wfE_ind (fun c hc => ?_) (fun c a hc _ iha => ?_) (fun c a b hc _ _ iha ihb => ?_)
    · by_cases hv : vE c
      · rw [ap_v hv, ap_v hv]
        by_cases e : vn c = w
        · rw [e, hthw, sz_n]
          exact ⟨by omega, fun _ => by omega⟩
        · rw [htho _ e]
          refine ⟨Nat.le_refl _, fun z => ?_⟩
          rw [en_0, List.mem_singleton] at z
          exact absurd (by rw [← z, vn_vcd hw]) e
      · rw [ap_n hv, ap_n hv]
        refine ⟨Nat.le_refl _, fun z => ?_⟩
        rw [en_0, List.mem_singleton] at z
        exact absurd (z ▸ vcd_E hw) hv
    · have hv : ¬ vE c := by omega
      rw [ap_n hv, ap_n hv, sz_n, sz_n, en_1]
      refine ⟨by have := iha.1; show sz (ap m a) + sz Lf + 1 ≤ sz (ap th a) + sz Lf + 1; omega, fun z => ?_⟩
      rcases List.mem_cons.mp z with z | z
      · exact absurd (z ▸ vcd_E hw) hv
      · have := iha.2 z; show sz (ap m a) + sz Lf + 1 < sz (ap th a) + sz Lf + 1; omega
    · have hv : ¬ vE c := by omega
      rw [ap_n hv, ap_n hv, sz_n, sz_n, en_2]
      have i1 := iha.1
      have i2 := ihb.1
      refine ⟨by omega, fun z => ?_⟩
      rcases List.mem_cons.mp z with z | z
      · exact absurd (z ▸ vcd_E hw) hv
      · rcases List.mem_append.mp z with z | z
        · have := iha.2 z; omega
        · have := ihb.2 z; omega
  have := (lt (m v) (m1 v hv)).2 hin
  rw [← g1, ← g2] at this
  omega
end
/-! counting -/
def cntP (p : Nat → Bool) : Nat → Nat
  | 0 => 0
  | n + 1 => cntP p n + (if p n = true then 1 else 0)
theorem cntP_le (p : Nat → Bool) : ∀ n, cntP p n ≤ n := by
  intro n
  induction n with
  | zero => exact Nat.le_refl _
  | succ n ih => unfold cntP; split <;> omega
theorem cntP_mono {p q : Nat → Bool} : ∀ n, (∀ i, i < n → p i = true → q i = true) → cntP p n ≤ cntP q n := by
  intro n
  induction n with
  | zero => intro _; exact Nat.le_refl _
  | succ n ih =>
    intro h
    have h1 := ih (fun i hi => h i (by omega))
    have h2 := h n (by omega)
    unfold cntP
    by_cases hp : p n = true
    · rw [if_pos hp, if_pos (h2 hp)]; omega
    · rw [if_neg hp]; split <;> omega
theorem cntP_lt {p q : Nat → Bool} : ∀ n i, i < n → (∀ i, i < n → p i = true → q i = true) → p i = false → q i = true → cntP p n + 1 ≤ cntP q n := by
  intro n
  induction n with
  | zero => intro i hi; omega
  | succ n ih =>
    intro i hi h hp hq
    unfold cntP
    by_cases e : i = n
    · subst e
      have := cntP_mono i (p := p) (q := q) (fun j hj => h j (by omega))
      rw [if_neg (by rw [hp]; simp), if_pos hq]; omega
    · have h1 := ih i (by omega) (fun j hj => h j (by omega)) hp hq
      have h2 := h n (by omega)
      by_cases hpn : p n = true
      · rw [if_pos hpn, if_pos (h2 hpn)]; omega
      · rw [if_neg hpn]; split <;> omega
theorem cntP_add (p : Nat → Bool) (m : Nat) : ∀ n, cntP p (m + n) = cntP p m + cntP (fun i => p (m + i)) n := by
  intro n
  induction n with
  | zero => rfl
  | succ n ih =>
    show cntP p (m + n) + (if p (m + n) = true then 1 else 0) = cntP p m + (cntP (fun i => p (m + i)) n + (if p (m + n) = true then 1 else 0))
    rw [ih]; omega
theorem cntP_congr {p q : Nat → Bool} (n : Nat) (h : ∀ i, i < n → p i = q i) : cntP p n = cntP q n := by
  have h1 := cntP_mono n (p := p) (q := q) (fun i hi z => by rw [← h i hi]; exact z)
  have h2 := cntP_mono n (p := q) (q := p) (fun i hi z => by rw [h i hi]; exact z)
  omega
/-- names that differ are as many as their numbers -/
theorem nodup_cnt : ∀ nm : List Int32, nm.Nodup → (∀ c ∈ nm, vE c) → nm.length ≤ cntP (fun v => decide (vcd v ∈ nm)) 12 := by
  intro nm
  induction nm with
  | nil => intro _ _; exact Nat.zero_le _
  | cons c nm ih =>
    intro hn hv
    obtain ⟨h1, h2⟩ := List.nodup_cons.mp hn
    have h3 := ih h2 (fun x hx => hv x (by simp [hx]))
    have hc := hv c (by simp)
    have := cntP_lt (p := fun v => decide (vcd v ∈ nm)) (q := fun v => decide (vcd v ∈ c :: nm)) 12 (vn c) (vn_lt hc) (fun i _ z => by simp only [decide_eq_true_eq] at z ⊢; simp [z]) (by simp only [decide_eq_false_iff_not]; rw [vcd_vn hc]; exact h1) (by simp only [decide_eq_true_eq]; rw [vcd_vn hc]; simp)
    rw [List.length_cons]
    omega
/-- names that come -/
theorem cnS_nm : ∀ (l nm : List Int32), nm.Nodup → (cnS nm l).2.Nodup ∧ (∀ c ∈ (cnS nm l).2, c ∈ nm ∨ c ∈ l ∧ vE c) ∧ nm.length ≤ (cnS nm l).2.length := by
  intro l
  induction l with
  | nil => intro nm h; exact ⟨h, fun c hc => Or.inl hc, Nat.le_refl _⟩
  | cons c l ih =>
    intro nm h
    by_cases hv : vE c
    · by_cases hm : c ∈ nm
      · rw [cnS_in hv hm]
        obtain ⟨h1, h2, h3⟩ := ih nm h
        exact ⟨h1, fun x hx => (h2 x hx).elim Or.inl (fun z => Or.inr ⟨by simp [z.1], z.2⟩), h3⟩
      · rw [cnS_new hv hm]
        have hn : (nm ++ [c]).Nodup := by
          rw [List.nodup_append]
          refine ⟨h, by simp, fun x hx y hy => ?_⟩
          rw [List.mem_singleton] at hy
          rintro rfl
          exact hm (hy ▸ hx)
        obtain ⟨h1, h2, h3⟩ := ih (nm ++ [c]) hn
        refine ⟨h1, fun x hx => ?_, ?_⟩
        · rcases h2 x hx with z | z
          · rcases List.mem_append.mp z with z | z
            · exact Or.inl z
            · rw [List.mem_singleton] at z
              rw [z]; exact Or.inr ⟨by simp, hv⟩
          · exact Or.inr ⟨by simp [z.1], z.2⟩
        · rw [List.length_append] at h3
          show nm.length ≤ (cnS (nm ++ [c]) l).2.length
          omega
    · rw [cnS_non hv]
      obtain ⟨h1, h2, h3⟩ := ih nm h
      exact ⟨h1, fun x hx => (h2 x hx).elim Or.inl (fun z => Or.inr ⟨by simp [z.1], z.2⟩), h3⟩
/-- the names that are written are below the number of names -/
theorem cnS_out : ∀ (l nm : List Int32) (i : Nat) (c : Int32), l[i]? = some c → (vE c → ∃ j, j < (cnS nm l).2.length ∧ (cnS nm l).1[i]? = some (jn (117 + j))) ∧ (¬ vE c → (cnS nm l).1[i]? = some c) := by
  intro l
  induction l with
  | nil => intro nm i c h; simp at h
  | cons x l ih =>
    intro nm i c h
    have hl : ∀ nm' : List Int32, nm'.length ≤ (cnS nm' l).2.length := by
      intro nm'
      have : ∀ (l nm : List Int32), nm.length ≤ (cnS nm l).2.length := by
        intro l
        induction l with
        | nil => intro nm; exact Nat.le_refl _
        | cons c l ih2 =>
          intro nm
          by_cases hv : vE c
          · by_cases hm : c ∈ nm
            · rw [cnS_in hv hm]; exact ih2 nm
            · rw [cnS_new hv hm]
              have := ih2 (nm ++ [c])
              rw [List.length_append] at this
              show nm.length ≤ (cnS (nm ++ [c]) l).2.length
              omega
          · rw [cnS_non hv]; exact ih2 nm
      exact this l nm'
    by_cases hv : vE x
    · by_cases hm : x ∈ nm
      · rw [cnS_in hv hm]
        cases i with
        | zero =>
          rw [List.getElem?_cons_zero, Option.some.injEq] at h
          subst h
          exact ⟨fun _ => ⟨_, Nat.lt_of_lt_of_le (List.idxOf_lt_length_of_mem hm) (hl nm), rfl⟩, fun z => absurd hv z⟩
        | succ i => rw [List.getElem?_cons_succ] at h ⊢; exact ih nm i c h
      · rw [cnS_new hv hm]
        cases i with
        | zero =>
          rw [List.getElem?_cons_zero, Option.some.injEq] at h
          subst h
          refine ⟨fun _ => ⟨_, ?_, rfl⟩, fun z => absurd hv z⟩
          have := hl (nm ++ [x])
          rw [List.length_append] at this
          have e : [x].length = 1 := rfl
          show nm.length < (cnS (nm ++ [x]) l).2.length
          omega
        | succ i => rw [List.getElem?_cons_succ] at h ⊢; exact ih (nm ++ [x]) i c h
    · rw [cnS_non hv]
      cases i with
      | zero =>
        rw [List.getElem?_cons_zero, Option.some.injEq] at h
        subst h
        exact ⟨fun z => absurd z hv, fun _ => rfl⟩
      | succ i => rw [List.getElem?_cons_succ] at h ⊢; exact ih nm i c h
