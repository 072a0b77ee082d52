/-! MATCHES: what they are -/
abbrev EV : Type := Nat → Option Tm
abbrev vi (c : Int32) : Nat := (c.toInt - 117).toNat
def ms (cm : Int32 → Bool) : Tm → Tm → EV → List EV
  | .leaf, _, _ => []
  | .inner _ c _ a b, t, e => if isV c then (match e (vi c) with
      | none => [va_up e (vi c) (some t)]
      | some u => if en u = en t then [e] else [])
    else match t with
      | .leaf => []
      | .inner _ c' _ t1 t2 => if c ≠ c' then [] else if is2 c then (ms cm a t1 e).flatMap (fun e' => ms cm b t2 e') ++ (if cm c = true then (ms cm a t2 e).flatMap (fun e' => ms cm b t1 e') else []) else if is1 c then ms cm a t1 e else [e]
/-- by a way: what each decision is -/
def mtD (cm : Int32 → Bool) (w : Nat → Bool) : Tm → Tm → EV → Nat → Option EV × Nat
  | .leaf, _, _, k => (none, k)
  | .inner _ c _ a b, t, e, k => if isV c then (match e (vi c) with
      | none => (some (va_up e (vi c) (some t)), k)
      | some u => if en u = en t then (some e, k) else (none, k))
    else match t with
      | .leaf => (none, k)
      | .inner _ c' _ t1 t2 => if c ≠ c' then (none, k) else if is2 c then
          (match mtD cm w a (if cm c = true ∧ w k = true then t2 else t1) e (if cm c = true then k + 1 else k) with
            | (none, k') => (none, k')
            | (some e', k') => mtD cm w b (if cm c = true ∧ w k = true then t1 else t2) e' k')
        else if is1 c then mtD cm w a t1 e k else (some e, k)
def tn (cm : Int32 → Bool) : Tm → Nat
  | .leaf => 0
  | .inner _ c _ a b => (if is2 c ∧ cm c = true then 1 else 0) + tn cm a + tn cm b
theorem mtD_le {cm : Int32 → Bool} {w : Nat → Bool} : ∀ (p t : Tm) (e : EV) (k : Nat), k ≤ (mtD cm w p t e k).2 := by
  intro p
  induction p with
  | leaf => intro t e k; exact Nat.le_refl _
  | inner n c u a b iha ihb =>
    intro t e k
    unfold mtD
    split
    · split
      · exact Nat.le_refl _
      · split <;> exact Nat.le_refl _
    · cases t with
      | leaf => exact Nat.le_refl _
      | inner n' c' u' t1 t2 =>
        simp only
        split
        · exact Nat.le_refl _
        · split
          · have h1 := iha (if cm c = true ∧ w k = true then t2 else t1) e (if cm c = true then k + 1 else k)
            have h2 : k ≤ (if cm c = true then k + 1 else k) := by split <;> omega
            cases hq : mtD cm w a (if cm c = true ∧ w k = true then t2 else t1) e (if cm c = true then k + 1 else k) with
            | mk r k' =>
              rw [hq] at h1
              cases r with
              | none => simp only at h1 ⊢; omega
              | some e' =>
                simp only at h1 ⊢
                have h3 := ihb (if cm c = true ∧ w k = true then t1 else t2) e' k'
                omega
          · split
            · exact iha t1 e k
            · exact Nat.le_refl _
/-- what was decided alone counts -/
theorem mtD_pre {cm : Int32 → Bool} {w w' : Nat → Bool} : ∀ (p t : Tm) (e : EV) (k : Nat), (∀ i, k ≤ i → i < (mtD cm w p t e k).2 → w' i = w i) → mtD cm w' p t e k = mtD cm w p t e k := by
  intro p
  induction p with
  | leaf => intro t e k _; rfl
  | inner n c u a b iha ihb =>
    intro t e k h
    unfold mtD at h ⊢
    split
    · rfl
    · rename_i hv
      rw [if_neg hv] at h
      cases t with
      | leaf => rfl
      | inner n' c' u' t1 t2 =>
        simp only at h ⊢
        split
        · rfl
        · rename_i hc
          rw [if_neg hc] at h
          split
          · rename_i h2
            rw [if_pos h2] at h
            have hle := mtD_le (cm := cm) (w := w) a (if cm c = true ∧ w k = true then t2 else t1) e (if cm c = true then k + 1 else k)
            by_cases hm : cm c = true
            · simp only [hm, if_true, true_and] at h hle ⊢
              have hk : w' k = w k := by
                apply h k (Nat.le_refl _)
                cases hq : mtD cm w a (if w k = true then t2 else t1) e (k + 1) with
                | mk r k' =>
                  rw [hq] at hle
                  cases r with
                  | none => simp only at hle ⊢; omega
                  | some e' =>
                    simp only at hle ⊢
                    have := mtD_le (cm := cm) (w := w) b (if w k = true then t1 else t2) e' k'
                    omega
              rw [hk]
              have ha : mtD cm w' a (if w k = true then t2 else t1) e (k + 1) = mtD cm w a (if w k = true then t2 else t1) e (k + 1) := by
                apply iha
                intro i h3 h4
                apply h i (by omega)
                cases hq : mtD cm w a (if w k = true then t2 else t1) e (k + 1) with
                | mk r k' =>
                  rw [hq] at h4
                  cases r with
                  | none => exact h4
                  | some e' =>
                    simp only at h4 ⊢
                    have := mtD_le (cm := cm) (w := w) b (if w k = true then t1 else t2) e' k'
                    omega
              rw [ha]
              cases hq : mtD cm w a (if w k = true then t2 else t1) e (k + 1) with
              | mk r k' =>
                rw [hq] at hle h
                cases r with
                | none => rfl
                | some e' =>
                  simp only at h hle ⊢
                  exact ihb _ _ _ (fun i h3 h4 => h i (by omega) h4)
            · have hm : cm c = false := by simpa using hm
              simp only [hm, Bool.false_eq_true, false_and, if_false] at h hle ⊢
              have ha : mtD cm w' a t1 e k = mtD cm w a t1 e k := by
                apply iha
                intro i h3 h4
                apply h i (by omega)
                cases hq : mtD cm w a t1 e k with
                | mk r k' =>
                  rw [hq] at h4
                  cases r with
                  | none => exact h4
                  | some e' =>
                    simp only at h4 ⊢
                    have := mtD_le (cm := cm) (w := w) b t2 e' k'
                    omega
              rw [ha]
              cases hq : mtD cm w a t1 e k with
              | mk r k' =>
                rw [hq] at hle h
                cases r with
                | none => rfl
                | some e' =>
                  simp only at h hle ⊢
                  exact ihb _ _ _ (fun i h3 h4 => h i (by omega) h4)
          · rename_i h2
            rw [if_neg h2] at h
            split
            · rename_i h1
              rw [if_pos h1] at h
              exact iha _ _ _ h
            · rfl
/-- all ways, in their order -/
def bl : Nat → List (List Bool)
  | 0 => [[]]
  | n + 1 => (bl n).map (fun l => false :: l) ++ (bl n).map (fun l => true :: l)
theorem bl_len : ∀ n, ∀ l ∈ bl n, l.length = n := by
  intro n
  induction n with
  | zero => intro l h; simp [bl] at h; simp [h]
  | succ n ih =>
    intro l h
    simp only [bl, List.mem_append, List.mem_map] at h
    rcases h with ⟨x, hx, rfl⟩ | ⟨x, hx, rfl⟩
    · simp [ih x hx]
    · simp [ih x hx]
theorem bl_add : ∀ m n, bl (m + n) = (bl m).flatMap (fun x => (bl n).map (fun y => x ++ y)) := by
  intro m
  induction m with
  | zero => intro n; simp [bl]
  | succ m ih =>
    intro n
    rw [show m + 1 + n = m + n + 1 by omega, bl, ih, bl, List.flatMap_append, List.map_flatMap, List.map_flatMap, List.flatMap_map, List.flatMap_map]
    simp [List.map_map, Function.comp_def]
abbrev wL (k : Nat) (l : List Bool) : Nat → Bool := fun i => l.getD (i - k) false
/-- a way that goes well decides for each -/
theorem mtD_all {cm : Int32 → Bool} {w : Nat → Bool} : ∀ (p : Tm), wf p → ∀ (t : Tm) (e : EV) (k : Nat) (e' : EV), (mtD cm w p t e k).1 = some e' → (mtD cm w p t e k).2 = k + tn cm p := by
  refine wf_ind (fun c hc => ?_) (fun c a hc ha iha => ?_) (fun c a b hc ha hb iha ihb => ?_)
  · intro t e k e' h
    have h2 : ¬ is2 c := by omega
    have e0 : tn cm (Nd c Lf Lf) = 0 := by simp only [tn, h2, false_and, if_false]
    rw [e0]
    unfold mtD at h ⊢
    split
    · rename_i hv
      rw [if_pos hv] at h
      split
      · rfl
      · rename_i u hu
        rw [hu] at h
        simp only at h
        split <;> rfl
    · rename_i hv
      rw [if_neg hv] at h
      cases t with
      | leaf => rfl
      | inner n' c' u' t1 t2 =>
        simp only at h ⊢
        split
        · rfl
        · first
            | (rw [if_neg h2, if_neg (show ¬ is1 c by omega)]; done)
            | (rw [if_neg (show ¬ is1 c by omega)]; done)
            | (rw [if_neg h2, if_neg (show ¬ is1 c by omega)]; rfl)
            | (rw [if_neg (show ¬ is1 c by omega)]; rfl)
  · intro t e k e' h
    have h2 : ¬ is2 c := by omega
    have e0 : tn cm (Nd c a Lf) = tn cm a := by simp only [tn, h2, false_and, if_false]; omega
    rw [e0]
    have hv : ¬ isV c := by omega
    unfold mtD at h ⊢
    rw [if_neg hv] at h ⊢
    cases t with
    | leaf => simp at h
    | inner n' c' u' t1 t2 =>
      simp only at h ⊢
      by_cases hcc : c ≠ c'
      · rw [if_pos hcc] at h; cases h
      · rw [if_neg hcc, if_neg h2, if_pos hc] at h ⊢
        exact iha _ _ _ _ h
  · intro t e k e' h
    have hv : ¬ isV c := by omega
    unfold mtD at h ⊢
    rw [if_neg hv] at h ⊢
    cases t with
    | leaf => simp at h
    | inner n' c' u' t1 t2 =>
      simp only at h ⊢
      by_cases hcc : c ≠ c'
      · rw [if_pos hcc] at h; cases h
      · rw [if_neg hcc, if_pos hc] at h ⊢
        have e0 : tn cm (Nd c a b) = (if cm c = true then 1 else 0) + tn cm a + tn cm b := by
          show (if is2 c ∧ cm c = true then 1 else 0) + _ + _ = _
          by_cases hm : cm c = true
          · rw [if_pos ⟨hc, hm⟩, if_pos hm]
          · rw [if_neg (fun q => hm q.2), if_neg hm]
        rw [e0]
        have h1 := iha (if cm c = true ∧ w k = true then t2 else t1) e (if cm c = true then k + 1 else k)
        cases hq : mtD cm w a (if cm c = true ∧ w k = true then t2 else t1) e (if cm c = true then k + 1 else k) with
        | mk r k' =>
          rw [hq] at h h1
          cases r with
          | none => cases h
          | some e2 =>
            have h3 := h1 e2 rfl
            simp only at h h3 ⊢
            rw [ihb _ _ _ _ h, h3]
            split <;> omega

theorem mtD_bd {cm : Int32 → Bool} {w : Nat → Bool} : ∀ (p : Tm), wf p → ∀ (t : Tm) (e : EV) (k : Nat), (mtD cm w p t e k).2 ≤ k + tn cm p := by
  refine wf_ind (fun c hc => ?_) (fun c a hc ha iha => ?_) (fun c a b hc ha hb iha ihb => ?_)
  · intro t e k
    have h2 : ¬ is2 c := by omega
    unfold mtD
    split
    · split
      · simp
      · split <;> simp
    · cases t with
      | leaf => simp
      | inner n' c' u' t1 t2 =>
        simp only
        by_cases hcc : c ≠ c'
        · simp only [if_pos hcc]; omega
        · simp only [if_neg hcc, if_neg h2, if_neg (show ¬ is1 c by omega)]; omega
  · intro t e k
    have h2 : ¬ is2 c := by omega
    have e0 : tn cm (Nd c a Lf) = tn cm a := by simp only [tn, h2, false_and, if_false]; omega
    rw [e0]
    unfold mtD
    rw [if_neg (show ¬ isV c by omega)]
    cases t with
    | leaf => simp
    | inner n' c' u' t1 t2 =>
      simp only
      by_cases hcc : c ≠ c'
      · simp only [if_pos hcc]; omega
      · simp only [if_neg hcc, if_neg h2, if_pos hc]; exact iha _ _ _
  · intro t e k
    have e0 : tn cm (Nd c a b) = (if cm c = true then 1 else 0) + tn cm a + tn cm b := by
      show (if is2 c ∧ cm c = true then 1 else 0) + _ + _ = _
      by_cases hm : cm c = true
      · rw [if_pos ⟨hc, hm⟩, if_pos hm]
      · rw [if_neg (fun q => hm q.2), if_neg hm]
    rw [e0]
    unfold mtD
    rw [if_neg (show ¬ isV c by omega)]
    cases t with
    | leaf => simp
    | inner n' c' u' t1 t2 =>
      simp only
      by_cases hcc : c ≠ c'
      · simp only [if_pos hcc]; omega
      · simp only [if_neg hcc, if_pos hc]
        have h1 := iha (if cm c = true ∧ w k = true then t2 else t1) e (if cm c = true then k + 1 else k)
        have h3 : (if cm c = true then k + 1 else k) = k + (if cm c = true then 1 else 0) := by split <;> omega
        cases hq : mtD cm w a (if cm c = true ∧ w k = true then t2 else t1) e (if cm c = true then k + 1 else k) with
        | mk r k' =>
          rw [hq] at h1
          cases r with
          | none => simp only at h1 ⊢; omega
          | some e2 =>
            simp only at h1 ⊢
            have := ihb (if cm c = true ∧ w k = true then t1 else t2) e2 k'
            omega
theorem fl_congr {α β : Type} : ∀ {l : List α} {f g : α → List β}, (∀ x ∈ l, f x = g x) → l.flatMap f = l.flatMap g := by
  intro l
  induction l with
  | nil => intro f g _; rfl
  | cons a l ih => intro f g h; rw [List.flatMap_cons, List.flatMap_cons, h a List.mem_cons_self, ih (fun x hx => h x (List.mem_cons_of_mem _ hx))]
theorem fo_congr {α β : Type} : ∀ {l : List α} {f g : α → Option β}, (∀ x ∈ l, f x = g x) → l.filterMap f = l.filterMap g := by
  intro l
  induction l with
  | nil => intro f g _; rfl
  | cons a l ih => intro f g h; rw [List.filterMap_cons, List.filterMap_cons, h a List.mem_cons_self, ih (fun x hx => h x (List.mem_cons_of_mem _ hx))]
theorem fm_app {α β : Type} (f : List α → Option β) : ∀ (l : List (List α)) (g : List α → List (List α)), (l.flatMap g).filterMap f = l.flatMap (fun x => (g x).filterMap f) := by
  intro l
  induction l with
  | nil => intro g; rfl
  | cons a l ih => intro g; rw [List.flatMap_cons, List.filterMap_append, ih, List.flatMap_cons]
theorem fm_bind {α β : Type} (f : α → Option β) (g : β → List EV) : ∀ (l : List α), (l.filterMap f).flatMap g = l.flatMap (fun x => match f x with
    | none => []
    | some y => g y) := by
  intro l
  induction l with
  | nil => rfl
  | cons a l ih =>
    rw [List.filterMap_cons, List.flatMap_cons]
    cases f a with
    | none => simp only [List.nil_append]; exact ih
    | some y => simp only [List.flatMap_cons]; rw [ih]
theorem fm_const_none {α β : Type} {f : α → Option β} : ∀ {l : List α}, (∀ x ∈ l, f x = none) → l.filterMap f = [] := by
  intro l
  induction l with
  | nil => intro _; rfl
  | cons a l ih => intro h; rw [List.filterMap_cons, h a List.mem_cons_self]; exact ih (fun x hx => h x (List.mem_cons_of_mem _ hx))
theorem wL_app1 {k : Nat} {x y : List Bool} {i : Nat} (h : i < k + x.length) (hk : k ≤ i) : wL k (x ++ y) i = wL k x i := by
  simp only [wL, List.getD_eq_getElem?_getD]
  rw [List.getElem?_append_left (by omega)]
theorem wL_app2 {k : Nat} {x y : List Bool} {i : Nat} (h : k + x.length ≤ i) : wL k (x ++ y) i = wL (k + x.length) y i := by
  simp only [wL, List.getD_eq_getElem?_getD]
  rw [List.getElem?_append_right (by omega)]
  congr 2; omega
/-- two trees, one behind the other, by one way -/
theorem two_ways {cm : Int32 → Bool} {a b : Tm} (ha : wf a) {t1 t2 : Tm} {e : EV} {k : Nat} (x y : List Bool) (hx : x.length = tn cm a) :
    (match mtD cm (wL k (x ++ y)) a t1 e k with
      | (none, k') => (none, k')
      | (some e', k') => mtD cm (wL k (x ++ y)) b t2 e' k').1 = (match (mtD cm (wL k x) a t1 e k).1 with
      | none => none
      | some e' => (mtD cm (wL (k + x.length) y) b t2 e' (k + x.length)).1) := by
  have h1 : mtD cm (wL k (x ++ y)) a t1 e k = mtD cm (wL k x) a t1 e k ∨ (mtD cm (wL k x) a t1 e k).2 > k + x.length := by
    by_cases h : (mtD cm (wL k x) a t1 e k).2 > k + x.length
    · exact Or.inr h
    · exact Or.inl (mtD_pre a t1 e k (fun i h2 h3 => wL_app1 (by omega) h2))
  have h0 : (mtD cm (wL k x) a t1 e k).2 ≤ k + x.length := by
    rw [hx]
    exact mtD_bd a ha t1 e k
  have h1 := h1.resolve_right (by omega)
  rw [h1]
  cases hq : mtD cm (wL k x) a t1 e k with
  | mk r k' =>
    cases r with
    | none => rfl
    | some e' =>
      have hk := mtD_all (cm := cm) (w := wL k x) a ha t1 e k e' (by rw [hq])
      rw [hq] at hk
      simp only at hk ⊢
      rw [hk, ← hx]
      exact congrArg Prod.fst (mtD_pre b t2 e' _ (fun i h2 h3 => wL_app2 h2))
theorem ms_ways {cm : Int32 → Bool} : ∀ (p : Tm), wf p → ∀ (t : Tm) (e : EV) (k : Nat), ms cm p t e = (bl (tn cm p)).filterMap (fun l => (mtD cm (wL k l) p t e k).1) := by
  refine wf_ind (fun c hc => ?_) (fun c a hc ha iha => ?_) (fun c a b hc ha hb iha ihb => ?_)
  · intro t e k
    have h2 : ¬ is2 c := by omega
    have e0 : tn cm (Nd c Lf Lf) = 0 := by simp only [tn, h2, false_and, if_false]
    rw [e0]
    have hb : bl 0 = [[]] := rfl
    rw [hb, List.filterMap_cons, List.filterMap_nil]
    unfold ms mtD
    split
    · cases e (vi c) with
      | none => rfl
      | some u => simp only; split <;> rfl
    · cases t with
      | leaf => rfl
      | inner n' c' u' t1 t2 =>
        simp only
        by_cases hcc : c ≠ c'
        · rw [if_pos hcc, if_pos hcc]
        · simp only [if_neg hcc, if_neg h2, if_neg (show ¬ is1 c by omega)]
  · intro t e k
    have h2 : ¬ is2 c := by omega
    have hv : ¬ isV c := by omega
    have e0 : tn cm (Nd c a Lf) = tn cm a := by simp only [tn, h2, false_and, if_false]; omega
    rw [e0]
    have E1 : ms cm (Nd c a Lf) t e = match t with
      | .leaf => []
      | .inner _ c' _ t1 t2 => if c ≠ c' then [] else ms cm a t1 e := by
      show (if isV c then _ else _) = _
      rw [if_neg hv]
      cases t with
      | leaf => rfl
      | inner n' c' u' t1 t2 => simp only [if_neg h2, if_pos hc]
    have E2 : ∀ l, (mtD cm (wL k l) (Nd c a Lf) t e k).1 = match t with
      | .leaf => none
      | .inner _ c' _ t1 t2 => if c ≠ c' then none else (mtD cm (wL k l) a t1 e k).1 := by
      intro l
      show (if isV c then _ else _ : Option EV × Nat).1 = _
      rw [if_neg hv]
      cases t with
      | leaf => rfl
      | inner n' c' u' t1 t2 =>
        simp only [if_neg h2, if_pos hc]
        split <;> rfl
    rw [E1]
    simp only [E2]
    cases t with
    | leaf => exact (fm_const_none (fun _ _ => rfl)).symm
    | inner n' c' u' t1 t2 =>
      simp only
      by_cases hcc : c ≠ c'
      · simp only [if_pos hcc]; exact (fm_const_none (fun _ _ => rfl)).symm
      · simp only [if_neg hcc]; exact iha t1 e k
  · intro t e k
    have hv : ¬ isV c := by omega
    have E1 : ms cm (Nd c a b) t e = match t with
      | .leaf => []
      | .inner _ c' _ t1 t2 => if c ≠ c' then [] else (ms cm a t1 e).flatMap (fun e' => ms cm b t2 e') ++ (if cm c = true then (ms cm a t2 e).flatMap (fun e' => ms cm b t1 e') else []) := by
      show (if isV c then _ else _) = _
      rw [if_neg hv]
      cases t with
      | leaf => rfl
      | inner n' c' u' t1 t2 => simp only [if_pos hc]
    have E2 : ∀ w, (mtD cm w (Nd c a b) t e k).1 = match t with
      | .leaf => none
      | .inner _ c' _ t1 t2 => if c ≠ c' then none else (match mtD cm w a (if cm c = true ∧ w k = true then t2 else t1) e (if cm c = true then k + 1 else k) with
            | (none, k') => (none, k')
            | (some e', k') => mtD cm w b (if cm c = true ∧ w k = true then t1 else t2) e' k').1 := by
      intro w
      show (if isV c then _ else _ : Option EV × Nat).1 = _
      rw [if_neg hv]
      cases t with
      | leaf => rfl
      | inner n' c' u' t1 t2 =>
        simp only [if_pos hc]
        split <;> rfl
    rw [E1]
    simp only [E2]
    cases t with
    | leaf => exact (fm_const_none (fun _ _ => rfl)).symm
    | inner n' c' u' t1 t2 =>
      simp only
      by_cases hcc : c ≠ c'
      · simp only [if_pos hcc]; exact (fm_const_none (fun _ _ => rfl)).symm
      simp only [if_neg hcc]
      have half : ∀ (x1 x2 : Tm) (k : Nat), (ms cm a x1 e).flatMap (fun e' => ms cm b x2 e') = (bl (tn cm a + tn cm b)).filterMap (fun l => (match mtD cm (wL k l) a x1 e k with
            | (none, k') => (none, k')
            | (some e', k') => mtD cm (wL k l) b x2 e' k').1) := by
        intro x1 x2 k
        rw [iha x1 e k, fm_bind, bl_add, fm_app]
        apply fl_congr
        intro x hx
        have hxl := bl_len _ x hx
        rw [List.filterMap_map]
        have : ((fun l => (match mtD cm (wL k l) a x1 e k with
            | (none, k') => (none, k')
            | (some e', k') => mtD cm (wL k l) b x2 e' k').1) ∘ fun y => x ++ y) = fun y => (match (mtD cm (wL k x) a x1 e k).1 with
      | none => none
      | some e' => (mtD cm (wL (k + x.length) y) b x2 e' (k + x.length)).1) := by
          funext y
          exact two_ways ha x y hxl
        rw [this]
        cases hq : (mtD cm (wL k x) a x1 e k).1 with
        | none => exact (fm_const_none (fun _ _ => rfl)).symm
        | some e' => exact ihb x2 e' (k + x.length)
      by_cases hm : cm c = true
      · have e0 : tn cm (Nd c a b) = tn cm a + tn cm b + 1 := by
          show (if is2 c ∧ cm c = true then 1 else 0) + _ + _ = _
          rw [if_pos ⟨hc, hm⟩]; omega
        rw [e0, if_pos hm, bl, List.filterMap_append, List.filterMap_map, List.filterMap_map, half t1 t2 (k + 1), half t2 t1 (k + 1)]
        have sh : ∀ (β : Bool) (l : List Bool) (i : Nat), k + 1 ≤ i → wL k (β :: l) i = wL (k + 1) l i := by
          intro β l i hi
          simp only [wL, List.getD_eq_getElem?_getD]
          rw [show i - k = (i - (k + 1)) + 1 by omega]; rfl
        have hd : ∀ (β : Bool) (l : List Bool), wL k (β :: l) k = β := by intro β l; simp [wL]
        have sm : ∀ (β : Bool) (l : List Bool) (p t : Tm) (e : EV) (j : Nat), k + 1 ≤ j → mtD cm (wL k (β :: l)) p t e j = mtD cm (wL (k + 1) l) p t e j := fun β l p t e j hj => mtD_pre p t e j (fun i h1 h2 => sh β l i (by omega))
        have two : ∀ (β : Bool) (l : List Bool) (x1 x2 : Tm), (match mtD cm (wL k (β :: l)) a x1 e (k + 1) with
            | (none, k') => (none, k')
            | (some e', k') => mtD cm (wL k (β :: l)) b x2 e' k').1 = (match mtD cm (wL (k + 1) l) a x1 e (k + 1) with
            | (none, k') => (none, k')
            | (some e', k') => mtD cm (wL (k + 1) l) b x2 e' k').1 := by
          intro β l x1 x2
          rw [sm β l a x1 e (k + 1) (Nat.le_refl _)]
          have hle := mtD_le (cm := cm) (w := wL (k + 1) l) a x1 e (k + 1)
          cases hq : mtD cm (wL (k + 1) l) a x1 e (k + 1) with
          | mk r k' =>
            rw [hq] at hle
            cases r with
            | none => rfl
            | some e' => simp only at hle ⊢; rw [sm β l b x2 e' k' hle]
        congr 1
        · apply fo_congr
          intro l hl
          simp only [Function.comp, hm, if_true, true_and, hd, Bool.false_eq_true, if_false]
          exact (two false l t1 t2).symm
        · apply fo_congr
          intro l hl
          simp only [Function.comp, hm, if_true, true_and, hd]
          exact (two true l t2 t1).symm
      · have hm : cm c = false := by simpa using hm
        have e0 : tn cm (Nd c a b) = tn cm a + tn cm b := by
          show (if is2 c ∧ cm c = true then 1 else 0) + _ + _ = _
          rw [if_neg (by rw [hm]; simp)]; omega
        rw [e0]
        simp only [hm, Bool.false_eq_true, false_and, if_false, List.append_nil]
        exact half t1 t2 k
