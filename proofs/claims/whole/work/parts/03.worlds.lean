/-! THE PURE MACHINE IS THE MACHINE'S: worlds, links, one step, a whole method -/
def up (ad : Nat → Nat) : Value → Value
  | .ref k => .ref (ad k)
  | v => v
theorem up_cat (ad : Nat → Nat) (v : Value) : (up ad v).category = v.category := by cases v <;> rfl
def fvl (ad : Nat → Nat) (M : PM) (k j kd : Nat) : Value := match kd with
  | 0 => .int (M.1 k j)
  | 1 => .int (M.1 k j)
  | 2 => if M.1 k j < 0 then .null else .ref (ad (M.1 k j).toNatClampNeg)
  | t + 3 => .ref (ad t)
def fls (ad : Nat → Nat) (M : PM) (k : Nat) (ks : List Nat) : List Value := (List.range ks.length).map (fun j => fvl ad M k j (ks.getD j 0))
def cel (cI cL : ClassId) (ad : Nat → Nat) (lay : List SH) (M : PM) (k : Nat) : va_E := match lay[k]? with
  | some (.inl (c, ks)) => .inr (c, fls ad M k ks)
  | some (.inr (false, n)) => .inl (cI, n, .inl (M.1 k))
  | some (.inr (true, n)) => .inl (cL, n, .inr (.inl (M.2 k)))
  | none => .inr (0, [])
def wld (cI cL : ClassId) (ad : Nat → Nat) (lay : List SH) (M : PM) : va_W := (List.range lay.length).map (fun k => (ad k, cel cI cL ad lay M k))
theorem wld_get {cI cL : ClassId} {ad : Nat → Nat} {lay : List SH} {M : PM} {k : Nat} {x : SH} (h : lay[k]? = some x) : (wld cI cL ad lay M)[k]? = some (ad k, cel cI cL ad lay M k) := by
  have hk : k < lay.length := (List.getElem?_eq_some_iff.mp h).1
  simp [wld, hk]
theorem wld_set {cI cL : ClassId} {ad : Nat → Nat} {lay : List SH} {M M' : PM} {k : Nat} {e : va_E} (he : cel cI cL ad lay M' k = e) (ho : ∀ j, j ≠ k → cel cI cL ad lay M' j = cel cI cL ad lay M j) : (wld cI cL ad lay M).set k (ad k, e) = wld cI cL ad lay M' := by
  apply List.ext_getElem?
  intro j
  rw [List.getElem?_set]
  by_cases hj : k = j
  · subst hj
    by_cases hk : k < lay.length
    · simp [wld, hk, he]
    · simp [wld, hk]
  · rw [if_neg hj]
    by_cases hk : j < lay.length
    · simp [wld, hk, ho j (Ne.symm hj)]
    · simp [wld, hk]
theorem fls_len {ad : Nat → Nat} {M : PM} {k : Nat} {ks : List Nat} : (fls ad M k ks).length = ks.length := by simp [fls]
theorem fls_get {ad : Nat → Nat} {M : PM} {k j kd : Nat} {ks : List Nat} (h : ks[j]? = some kd) : (fls ad M k ks)[j]? = some (fvl ad M k j kd) := by
  have hj : j < ks.length := (List.getElem?_eq_some_iff.mp h).1
  have h2 : ks[j] = kd := (List.getElem?_eq_some_iff.mp h).2
  simp [fls, hj, h2]
theorem fls_set {ad : Nat → Nat} {M : PM} {k j : Nat} {ks : List Nat} {x : Int32} {v : Value} (hv : ∀ kd, ks[j]? = some kd → fvl ad (sI M k (va_up (M.1 k) j x)) k j kd = v) : (fls ad M k ks).set j v = fls ad (sI M k (va_up (M.1 k) j x)) k ks := by
  apply List.ext_getElem?
  intro i
  rw [List.getElem?_set]
  by_cases hi : j = i
  · subst hi
    by_cases hl : j < ks.length
    · have h1 : ks[j]? = some ks[j] := by simp [hl]
      rw [if_pos rfl, fls_len, if_pos hl, fls_get h1, hv _ h1]
    · rw [if_pos rfl, fls_len, if_neg hl]
      simp [fls, hl]
  · rw [if_neg hi]
    by_cases hl : i < ks.length
    · have h1 : ks[i]? = some ks[i] := by simp [hl]
      rw [fls_get h1, fls_get h1]
      have e : (sI M k (va_up (M.1 k) j x)).1 k i = M.1 k i := by simp [sI, va_up, Ne.symm hi]
      unfold fvl
      split <;> simp [e]
    · simp [fls, hl]
theorem cel_sI {cI cL : ClassId} {ad : Nat → Nat} {lay : List SH} {M : PM} {k : Nat} {f : Nat → Int32} : ∀ j, j ≠ k → cel cI cL ad lay (sI M k f) j = cel cI cL ad lay M j := by
  intro j hj
  have e1 : (sI M k f).1 j = M.1 j := by simp [sI, hj]
  have e2 : (sI M k f).2 j = M.2 j := rfl
  have e3 : ∀ ks, fls ad (sI M k f) j ks = fls ad M j ks := by
    intro ks
    unfold fls
    apply List.map_congr_left
    intro i _
    unfold fvl
    rw [e1]
  unfold cel
  rw [e1, e2]
  split <;> simp [e3]
theorem cel_sL {cI cL : ClassId} {ad : Nat → Nat} {lay : List SH} {M : PM} {k : Nat} {f : Nat → Int64} : ∀ j, j ≠ k → cel cI cL ad lay (sL M k f) j = cel cI cL ad lay M j := by
  intro j hj
  have e1 : (sL M k f).1 j = M.1 j := rfl
  have e2 : (sL M k f).2 j = M.2 j := by simp [sL, hj]
  have e3 : ∀ ks, fls ad (sL M k f) j ks = fls ad M j ks := by
    intro ks
    unfold fls
    apply List.map_congr_left
    intro i _
    unfold fvl
    rw [e1]
  unfold cel
  rw [e1, e2]
  split <;> simp [e3]
/-! locals -/
def asc (ad : Nat → Nat) (L : LC) : List (Nat × Value) := (List.range L.length).filterMap (fun i => (lcg L i).map fun v => (i, up ad v))
theorem lcg_lt {L : LC} {i : Nat} {v : Value} (h : lcg L i = some v) : i < L.length := by
  unfold lcg at h
  by_cases hi : i < L.length
  · exact hi
  · simp [hi] at h
theorem asc_mem {ad : Nat → Nat} {L : LC} {i : Nat} {w : Value} : (i, w) ∈ asc ad L ↔ ∃ v, lcg L i = some v ∧ up ad v = w := by
  unfold asc
  rw [List.mem_filterMap]
  constructor
  · rintro ⟨j, _, hj⟩
    rw [Option.map_eq_some_iff] at hj
    obtain ⟨v, h1, h2⟩ := hj
    cases h2
    exact ⟨v, h1, rfl⟩
  · rintro ⟨v, h1, h2⟩
    exact ⟨i, List.mem_range.mpr (lcg_lt h1), by rw [h1]; simp [h2]⟩
theorem lv_mono {ls : Array Slot} {n : Nat} {l l' : List (Nat × Value)} (h : lv_has ls n l) (hs : ∀ q ∈ l', q ∈ l) : lv_has ls n l' := ⟨h.1, h.2.1, fun q hq => h.2.2 q (hs q hq)⟩
theorem lv_get {ad : Nat → Nat} {ls : Array Slot} {n : Nat} {L : LC} (h : lv_has ls n (asc ad L)) {i : Nat} {v : Value} (hv : lcg L i = some v) : ls[i]? = some (.val (up ad v)) := h.2.2 (i, up ad v) (asc_mem.mpr ⟨v, hv, rfl⟩)
theorem lck_get {L : LC} {i j : Nat} {v : Value} (h : lcg (lck L i) j = some v) : lcg L j = some v ∧ ¬ (j + 1 = i ∧ v.category = 2) := by
  unfold lck at h
  cases i with
  | zero => exact ⟨h, by omega⟩
  | succ i =>
    simp only at h
    cases hL : lcg L i with
    | none =>
      rw [hL] at h
      simp only at h
      refine ⟨h, ?_⟩
      rintro ⟨h1, -⟩
      have : j = i := by omega
      subst this
      rw [hL] at h
      cases h
    | some w =>
      rw [hL] at h
      simp only at h
      by_cases hc : w.category = 2
      · rw [if_pos hc] at h
        by_cases hj : j = i
        · subst hj
          unfold lcg at h
          rw [List.getElem?_set] at h
          simp at h
          split at h <;> simp at h
        · have e : lcg (L.set i none) j = lcg L j := by
            unfold lcg
            rw [List.getElem?_set, if_neg (fun q => hj q.symm)]
          rw [e] at h
          exact ⟨h, by omega⟩
      · rw [if_neg hc] at h
        refine ⟨h, ?_⟩
        rintro ⟨h1, h2⟩
        have : j = i := by omega
        subst this
        rw [hL] at h
        cases h
        exact hc h2
theorem lcs1_get {L : LC} {i j : Nat} {v w : Value} (h : lcg (lcs1 L i v) j = some w) : (j = i ∧ w = v) ∨ (j ≠ i ∧ lcg L j = some w ∧ ¬ (j + 1 = i ∧ w.category = 2)) := by
  unfold lcs1 at h
  by_cases hj : j = i
  · subst hj
    unfold lcg at h
    rw [List.getElem?_set] at h
    simp at h
    split at h
    · simp at h; exact Or.inl ⟨rfl, h.symm⟩
    · simp at h
  · have e : lcg ((lck L i).set i (some v)) j = lcg (lck L i) j := by
      unfold lcg
      rw [List.getElem?_set, if_neg (fun q => hj q.symm)]
    rw [e] at h
    exact Or.inr ⟨hj, lck_get h⟩
theorem lcs2_get {L : LC} {i j : Nat} {v w : Value} (h : lcg (lcs2 L i v) j = some w) : (j = i ∧ w = v) ∨ (j ≠ i ∧ j ≠ i + 1 ∧ lcg L j = some w ∧ ¬ (j + 1 = i ∧ w.category = 2)) := by
  unfold lcs2 at h
  by_cases hj : j = i + 1
  · subst hj
    unfold lcg at h
    rw [List.getElem?_set] at h
    simp at h
    split at h <;> simp at h
  · have e : lcg (((lck L i).set i (some v)).set (i + 1) none) j = lcg (lcs1 L i v) j := by
      unfold lcg lcs1
      rw [List.getElem?_set, if_neg (fun q => hj q.symm)]
    rw [e] at h
    rcases lcs1_get h with ⟨h1, h2⟩ | ⟨h1, h2, h3⟩
    · exact Or.inl ⟨h1, h2⟩
    · exact Or.inr ⟨h1, hj, h2, h3⟩
theorem asc_s1 {ad : Nat → Nat} {L : LC} {i : Nat} {v : Value} : ∀ q ∈ asc ad (lcs1 L i v), q ∈ (i, up ad v) :: (asc ad L).filter (fun q => !(q.1 == i) && !(q.1 + 1 == i && q.2.category == 2)) := by
  rintro ⟨j, w⟩ hq
  obtain ⟨u, h1, rfl⟩ := asc_mem.mp hq
  rcases lcs1_get h1 with ⟨rfl, rfl⟩ | ⟨h2, h3, h4⟩
  · exact List.mem_cons_self
  · refine List.mem_cons_of_mem _ (List.mem_filter.mpr ⟨asc_mem.mpr ⟨u, h3, rfl⟩, ?_⟩)
    simp only [up_cat]
    simp [h2]
    omega
theorem asc_s2 {ad : Nat → Nat} {L : LC} {i : Nat} {v : Value} : ∀ q ∈ asc ad (lcs2 L i v), q ∈ (i, up ad v) :: (asc ad L).filter (fun q => !(q.1 == i) && (!(q.1 == i + 1) && !(q.1 + 1 == i && q.2.category == 2))) := by
  rintro ⟨j, w⟩ hq
  obtain ⟨u, h1, rfl⟩ := asc_mem.mp hq
  rcases lcs2_get h1 with ⟨rfl, rfl⟩ | ⟨h2, h2', h3, h4⟩
  · exact List.mem_cons_self
  · refine List.mem_cons_of_mem _ (List.mem_filter.mpr ⟨asc_mem.mpr ⟨u, h3, rfl⟩, ?_⟩)
    simp only [up_cat]
    simp [h2, h2']
    omega
theorem entl_args {ad : Nat → Nat} : ∀ (vs : List Value) (k i : Nat) (v : Value), lcg (entl vs) i = some v → (k + i, up ad v) ∈ lv_args k (vs.map (up ad)) := by
  intro vs
  induction vs with
  | nil => intro k i v h; simp [entl, lcg] at h
  | cons a vs ih =>
    intro k i v h
    unfold entl at h
    rw [List.map_cons]
    unfold lv_args
    rw [up_cat]
    by_cases hc : a.category = 2
    · rw [if_pos hc] at h ⊢
      match i with
      | 0 => simp [lcg] at h; subst h; exact List.mem_cons_self
      | 1 => simp [lcg] at h
      | i + 2 =>
        have h2 : lcg (entl vs) i = some v := by simpa [lcg] using h
        have := ih (k + 2) i v h2
        rw [show k + (i + 2) = k + 2 + i by omega]
        exact List.mem_cons_of_mem _ this
    · rw [if_neg hc] at h ⊢
      match i with
      | 0 => simp [lcg] at h; subst h; exact List.mem_cons_self
      | i + 1 =>
        have h2 : lcg (entl vs) i = some v := by simpa [lcg] using h
        have := ih (k + 1) i v h2
        rw [show k + (i + 1) = k + 1 + i by omega]
        exact List.mem_cons_of_mem _ this
theorem entl_len (ad : Nat → Nat) : ∀ (vs : List Value), (lg_sl (vs.map (up ad))).length = (entl vs).length := by
  intro vs
  induction vs with
  | nil => rfl
  | cons a vs ih =>
    rw [List.map_cons]
    unfold lg_sl at ih ⊢
    rw [List.flatMap_cons, List.length_append, ih, up_cat]
    rw [entl]
    split
    · simp; omega
    · simp; omega
theorem ent_len {n : Nat} {vs : List Value} (h : (entl vs).length ≤ n) : (ent n vs).length = n := by
  unfold ent
  simp
  omega
theorem asc_ent {ad : Nat → Nat} {n : Nat} {vs : List Value} : ∀ q ∈ asc ad (ent n vs), q ∈ lv_args 0 (vs.map (up ad)) := by
  rintro ⟨j, w⟩ hq
  obtain ⟨u, h1, rfl⟩ := asc_mem.mp hq
  have h2 : lcg (entl vs) j = some u := by
    unfold ent lcg at h1
    by_cases hj : j < (entl vs).length
    · rw [List.getElem?_append_left hj] at h1
      exact h1
    · rw [List.getElem?_append_right (by omega), List.getElem?_replicate] at h1
      split at h1 <;> simp at h1
  have := entl_args (ad := ad) vs 0 j u h2
  rwa [Nat.zero_add] at this
theorem lck_len (L : LC) (i : Nat) : (lck L i).length = L.length := by
  unfold lck
  split
  · rfl
  · split
    · split <;> simp
    · rfl
theorem lcs1_len (L : LC) (i : Nat) (v : Value) : (lcs1 L i v).length = L.length := by simp [lcs1, lck_len]
theorem lcs2_len (L : LC) (i : Nat) (v : Value) : (lcs2 L i v).length = L.length := by simp [lcs2, lck_len]
