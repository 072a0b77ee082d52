/-! THE PURE MACHINE IS THE MACHINE'S: worlds, links, one step, a whole method -/
def up (ad : Nat → Nat) : Value → Value
  | .ref k => .ref (ad k)
  | v => v
theorem up_cat (ad : Nat → Nat) (v : Value) : (up ad v).category = v.category := by cases v <;> rfl
def fvl (ad : Nat → Nat) (M : PM) (k j kd : Nat) : Value := match kd with
  | 0 => .int (M.1 k j)
  | 1 => .int (M.1 k j)
  | 2 => if M.1 k j < 0 then .null else .ref (ad (M.1 k j).toNatClampNeg)
  | t + 3 => .ref (ad t)
def fls (ad : Nat → Nat) (M : PM) (k : Nat) (ks : List Nat) : List Value := (List.range ks.length).map (fun j => fvl ad M k j (ks.getD j 0))
def cel (cI cL : ClassId) (ad : Nat → Nat) (lay : List SH) (M : PM) (k : Nat) : va_E := match lay[k]? with
  | some (.inl (c, ks)) => .inr (c, fls ad M k ks)
  | some (.inr (false, n)) => .inl (cI, n, .inl (M.1 k))
  | some (.inr (true, n)) => .inl (cL, n, .inr (.inl (M.2 k)))
  | none => .inr (0, [])
def wld (cI cL : ClassId) (ad : Nat → Nat) (lay : List SH) (M : PM) : va_W := (List.range lay.length).map (fun k => (ad k, cel cI cL ad lay M k))
theorem wld_get {cI cL : ClassId} {ad : Nat → Nat} {lay : List SH} {M : PM} {k : Nat} {x : SH} (h : lay[k]? = some x) : (wld cI cL ad lay M)[k]? = some (ad k, cel cI cL ad lay M k) := by
  have hk : k < lay.length := (List.getElem?_eq_some_iff.mp h).1
  simp [wld, hk]
theorem wld_set {cI cL : ClassId} {ad : Nat → Nat} {lay : List SH} {M M' : PM} {k : Nat} {e : va_E} (he : cel cI cL ad lay M' k = e) (ho : ∀ j, j ≠ k → cel cI cL ad lay M' j = cel cI cL ad lay M j) : (wld cI cL ad lay M).set k (ad k, e) = wld cI cL ad lay M' := by
  apply List.ext_getElem?
  intro j
  rw [List.getElem?_set]
  by_cases hj : k = j
  · subst hj
    by_cases hk : k < lay.length
    · simp [wld, hk, he]
    · simp [wld, hk]
  · rw [if_neg hj]
    by_cases hk : j < lay.length
    · simp [wld, hk, ho j (Ne.symm hj)]
    · simp [wld, hk]
theorem fls_len {ad : Nat → Nat} {M : PM} {k : Nat} {ks : List Nat} : (fls ad M k ks).length = ks.length := by simp [fls]
theorem fls_get {ad : Nat → Nat} {M : PM} {k j kd : Nat} {ks : List Nat} (h : ks[j]? = some kd) : (fls ad M k ks)[j]? = some (fvl ad M k j kd) := by
  have hj : j < ks.length := (List.getElem?_eq_some_iff.mp h).1
  have h2 : ks[j] = kd := (List.getElem?_eq_some_iff.mp h).2
  simp [fls, hj, h2]
theorem fls_set {ad : Nat → Nat} {M : PM} {k j : Nat} {ks : List Nat} {x : Int32} {v : Value} (hv : ∀ kd, ks[j]? = some kd → fvl ad (sI M k (va_up (M.1 k) j x)) k j kd = v) : (fls ad M k ks).set j v = fls ad (sI M k (va_up (M.1 k) j x)) k ks := by
  apply List.ext_getElem?
  intro i
  rw [List.getElem?_set]
  by_cases hi : j = i
  · subst hi
    by_cases hl : j < ks.length
    · have h1 : ks[j]? = some ks[j] := by simp [hl]
      rw [if_pos rfl, fls_len, if_pos hl, fls_get h1, hv _ h1]
    · rw [if_pos rfl, fls_len, if_neg hl]
      simp [fls, hl]
  · rw [if_neg hi]
    by_cases hl : i < ks.length
    · have h1 : ks[i]? = some ks[i] := by simp [hl]
      rw [fls_get h1, fls_get h1]
      have e : (sI M k (va_up (M.1 k) j x)).1 k i = M.1 k i := by simp [sI, va_up, Ne.symm hi]
      unfold fvl
      split <;> simp [e]
    · simp [fls, hl]
theorem cel_sI {cI cL : ClassId} {ad : Nat → Nat} {lay : List SH} {M : PM} {k : Nat} {f : Nat → Int32} : ∀ j, j ≠ k → cel cI cL ad lay (sI M k f) j = cel cI cL ad lay M j := by
  intro j hj
  have e1 : (sI M k f).1 j = M.1 j := by simp [sI, hj]
  have e2 : (sI M k f).2 j = M.2 j := rfl
  have e3 : ∀ ks, fls ad (sI M k f) j ks = fls ad M j ks := by
    intro ks
    unfold fls
    apply List.map_congr_left
    intro i _
    unfold fvl
    rw [e1]
  unfold cel
  rw [e1, e2]
  split <;> simp [e3]
theorem cel_sL {cI cL : ClassId} {ad : Nat → Nat} {lay : List SH} {M : PM} {k : Nat} {f : Nat → Int64} : ∀ j, j ≠ k → cel cI cL ad lay (sL M k f) j = cel cI cL ad lay M j := by
  intro j hj
  have e1 : (sL M k f).1 j = M.1 j := rfl
  have e2 : (sL M k f).2 j = M.2 j := by simp [sL, hj]
  have e3 : ∀ ks, fls ad (sL M k f) j ks = fls ad M j ks := by
    intro ks
    unfold fls
    apply List.map_congr_left
    intro i _
    unfold fvl
    rw [e1]
  unfold cel
  rw [e1, e2]
  split <;> simp [e3]
/-! locals -/
def asc (ad : Nat → Nat) (L : LC) : List (Nat × Value) := (List.range L.length).filterMap (fun i => (lcv L i).map fun v => (i, up ad v))
theorem lcg_lt {L : LC} {i : Nat} {v : Value} (h : lcg L i = some v) : i < L.length := by
  unfold lcg at h
  by_cases hi : i < L.length
  · exact hi
  · simp [hi] at h
theorem lcv_inv {L : LC} {i : Nat} {v : Value} (h : lcv L i = some v) : lcg L i = some v ∧ (v.category = 2 → lcg L (i + 1) = none) := by
  unfold lcv at h
  split at h
  · rename_i w hw
    split at h
    · rename_i hc
      split at h
      · rename_i hn; cases h; exact ⟨hw, fun _ => Option.isNone_iff_eq_none.mp hn⟩
      · cases h
    · rename_i hc; cases h; exact ⟨hw, fun h2 => absurd h2 hc⟩
  · cases h
theorem lcv_of {L : LC} {i : Nat} {v : Value} (h : lcg L i = some v) (h2 : v.category = 2 → lcg L (i + 1) = none) : lcv L i = some v := by
  unfold lcv
  rw [h]
  simp only
  by_cases hc : v.category = 2
  · rw [if_pos hc, if_pos (Option.isNone_iff_eq_none.mpr (h2 hc))]
  · rw [if_neg hc]
theorem asc_mem {ad : Nat → Nat} {L : LC} {i : Nat} {w : Value} : (i, w) ∈ asc ad L ↔ ∃ v, lcv L i = some v ∧ up ad v = w := by
  unfold asc
  rw [List.mem_filterMap]
  constructor
  · rintro ⟨j, _, hj⟩
    rw [Option.map_eq_some_iff] at hj
    obtain ⟨v, h1, h2⟩ := hj
    cases h2
    exact ⟨v, h1, rfl⟩
  · rintro ⟨v, h1, h2⟩
    exact ⟨i, List.mem_range.mpr (lcg_lt (lcv_inv h1).1), by rw [h1]; simp [h2]⟩
theorem lv_mono {ls : Array Slot} {n : Nat} {l l' : List (Nat × Value)} (h : lv_has ls n l) (hs : ∀ q ∈ l', q ∈ l) : lv_has ls n l' := ⟨h.1, h.2.1, fun q hq => h.2.2 q (hs q hq)⟩
theorem lv_get {ad : Nat → Nat} {ls : Array Slot} {n : Nat} {L : LC} (h : lv_has ls n (asc ad L)) {i : Nat} {v : Value} (hv : lcg L i = some v) (h2 : v.category = 2 → lcg L (i + 1) = none) : ls[i]? = some (.val (up ad v)) := h.2.2 (i, up ad v) (asc_mem.mpr ⟨v, lcv_of hv h2, rfl⟩)
theorem lcg_set {L : LC} {i j : Nat} {o : Option Value} (h : i < L.length) : lcg (L.set i o) j = if j = i then o else lcg L j := by
  unfold lcg
  rw [List.getElem?_set]
  by_cases hj : i = j
  · subst hj
    simp [h]
  · rw [if_neg hj, if_neg (fun q => hj q.symm)]
theorem asc_s1 {ad : Nat → Nat} {L : LC} {i : Nat} {v : Value} (hi : i < L.length) : ∀ q ∈ asc ad (lcs1 L i v), q ∈ (i, up ad v) :: (asc ad L).filter (fun q => !(q.1 == i) && !(q.1 + 1 == i && q.2.category == 2)) := by
  rintro ⟨j, w⟩ hq
  obtain ⟨u, h1, rfl⟩ := asc_mem.mp hq
  obtain ⟨h2, h3⟩ := lcv_inv h1
  unfold lcs1 at h2 h3
  rw [lcg_set hi] at h2
  rw [lcg_set hi] at h3
  by_cases hj : j = i
  · rw [if_pos hj] at h2
    cases h2
    subst hj
    exact List.mem_cons_self
  · rw [if_neg hj] at h2
    have h4 : ¬ (j + 1 = i ∧ u.category = 2) := by
      rintro ⟨h5, h6⟩
      have := h3 h6
      rw [if_pos h5] at this
      cases this
    have h7 : u.category = 2 → lcg L (j + 1) = none := by
      intro h6
      have := h3 h6
      rwa [if_neg (fun h5 => h4 ⟨h5, h6⟩)] at this
    refine List.mem_cons_of_mem _ (List.mem_filter.mpr ⟨asc_mem.mpr ⟨u, lcv_of h2 h7, rfl⟩, ?_⟩)
    simp only [up_cat]
    simp [hj]
    omega
theorem asc_s2 {ad : Nat → Nat} {L : LC} {i : Nat} {v : Value} (hi : i + 1 < L.length) : ∀ q ∈ asc ad (lcs2 L i v), q ∈ (i, up ad v) :: (asc ad L).filter (fun q => !(q.1 == i) && (!(q.1 == i + 1) && !(q.1 + 1 == i && q.2.category == 2))) := by
  rintro ⟨j, w⟩ hq
  obtain ⟨u, h1, rfl⟩ := asc_mem.mp hq
  obtain ⟨h2, h3⟩ := lcv_inv h1
  unfold lcs2 at h2 h3
  rw [lcg_set (by simpa using hi), lcg_set (by omega)] at h2
  rw [lcg_set (by simpa using hi), lcg_set (by omega)] at h3
  by_cases hj1 : j = i + 1
  · rw [if_pos hj1] at h2
    cases h2
  rw [if_neg hj1] at h2
  by_cases hj : j = i
  · rw [if_pos hj] at h2
    cases h2
    subst hj
    exact List.mem_cons_self
  · rw [if_neg hj] at h2
    have h4 : ¬ (j + 1 = i ∧ u.category = 2) := by
      rintro ⟨h5, h6⟩
      have := h3 h6
      rw [if_neg (by omega), if_pos h5] at this
      cases this
    have h7 : u.category = 2 → lcg L (j + 1) = none := by
      intro h6
      have := h3 h6
      rwa [if_neg (by omega), if_neg (fun h5 => h4 ⟨h5, h6⟩)] at this
    refine List.mem_cons_of_mem _ (List.mem_filter.mpr ⟨asc_mem.mpr ⟨u, lcv_of h2 h7, rfl⟩, ?_⟩)
    simp only [up_cat]
    simp [hj, hj1]
    omega
theorem entl_args {ad : Nat → Nat} : ∀ (vs : List Value) (k i : Nat) (v : Value), lcg (entl vs) i = some v → (k + i, up ad v) ∈ lv_args k (vs.map (up ad)) := by
  intro vs
  induction vs with
  | nil => intro k i v h; simp [entl, lcg] at h
  | cons a vs ih =>
    intro k i v h
    unfold entl at h
    rw [List.map_cons]
    unfold lv_args
    rw [up_cat]
    by_cases hc : a.category = 2
    · rw [if_pos hc] at h ⊢
      match i with
      | 0 => simp [lcg] at h; subst h; exact List.mem_cons_self
      | 1 => simp [lcg] at h
      | i + 2 =>
        have h2 : lcg (entl vs) i = some v := by simpa [lcg] using h
        have := ih (k + 2) i v h2
        rw [show k + (i + 2) = k + 2 + i by omega]
        exact List.mem_cons_of_mem _ this
    · rw [if_neg hc] at h ⊢
      match i with
      | 0 => simp [lcg] at h; subst h; exact List.mem_cons_self
      | i + 1 =>
        have h2 : lcg (entl vs) i = some v := by simpa [lcg] using h
        have := ih (k + 1) i v h2
        rw [show k + (i + 1) = k + 1 + i by omega]
        exact List.mem_cons_of_mem _ this
theorem entl_len (ad : Nat → Nat) : ∀ (vs : List Value), (lg_sl (vs.map (up ad))).length = (entl vs).length := by
  intro vs
  induction vs with
  | nil => rfl
  | cons a vs ih =>
    rw [List.map_cons]
    unfold lg_sl at ih ⊢
    rw [List.flatMap_cons, List.length_append, ih, up_cat]
    rw [entl]
    split
    · simp; omega
    · simp; omega
theorem ent_len {n : Nat} {vs : List Value} (h : (entl vs).length ≤ n) : (ent n vs).length = n := by
  unfold ent
  simp
  omega
theorem asc_ent {ad : Nat → Nat} {n : Nat} {vs : List Value} : ∀ q ∈ asc ad (ent n vs), q ∈ lv_args 0 (vs.map (up ad)) := by
  rintro ⟨j, w⟩ hq
  obtain ⟨u, h0, rfl⟩ := asc_mem.mp hq
  have h1 := (lcv_inv h0).1
  have h2 : lcg (entl vs) j = some u := by
    unfold ent lcg at h1
    by_cases hj : j < (entl vs).length
    · rw [List.getElem?_append_left hj] at h1
      exact h1
    · rw [List.getElem?_append_right (by omega), List.getElem?_replicate] at h1
      split at h1 <;> simp at h1
  have := entl_args (ad := ad) vs 0 j u h2
  rwa [Nat.zero_add] at this
theorem lcs1_len (L : LC) (i : Nat) (v : Value) : (lcs1 L i v).length = L.length := by simp [lcs1]
theorem lcs2_len (L : LC) (i : Nat) (v : Value) : (lcs2 L i v).length = L.length := by simp [lcs2]
