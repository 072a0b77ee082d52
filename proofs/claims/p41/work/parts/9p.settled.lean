/-! the system's unifying: all settled gives the most general; a circle gives none -/
def isch (T : Nat → Tm) (sc : Nat → Nat) (k c : Nat) : Prop := c = k + 1 ∧ (is1 (hdc (T k)) ∨ is2 (hdc (T k))) ∨ c = sc k ∧ is2 (hdc (T k))
noncomputable def TR (T : Nat → Tm) (sc : Nat → Nat) (R : Nat → Nat) (sh : Nat → Option Nat) : Nat → Nat → Tm
  | 0, r => match sh r with
    | none => vr r
    | some _ => Lf
  | n + 1, r => match sh r with
    | none => vr r
    | some k => Nd (hdc (T k)) (if is1 (hdc (T k)) ∨ is2 (hdc (T k)) then TR T sc R sh n (R (ido T (k + 1))) else Lf) (if is2 (hdc (T k)) then TR T sc R sh n (R (ido T (sc k))) else Lf)
def Rkd (T : Nat → Tm) (sc : Nat → Nat) (R : Nat → Nat) (sh : Nat → Option Nat) (S : Nat → Prop) (rk : Nat → Nat) (N : Nat) : Prop := ∀ r, S r → rk r < N ∧ ∀ k, sh r = some k → ∀ c, isch T sc k c → S (R (ido T c)) ∧ rk (R (ido T c)) < rk r
section
variable {K : Nat → Prop} {T : Nat → Tm} {sc : Nat → Nat} {i0 j0 i j k a b N : Nat} {R : Nat → Nat} {sh : Nat → Option Nat} {S : Nat → Prop} {rk : Nat → Nat} {th : Nat → Tm}
theorem TR_none {n r : Nat} (h : sh r = none) : TR T sc R sh n r = vr r := by
  cases n with
  | zero => rw [TR, h]
  | succ n => rw [TR, h]
theorem TR_st (hS : Rkd T sc R sh S rk N) : ∀ n m r, S r → rk r < n → rk r < m → TR T sc R sh n r = TR T sc R sh m r := by
  intro n
  induction n with
  | zero => intro m r _ h; omega
  | succ n ih =>
    intro m r hs hn hm
    obtain ⟨m, rfl⟩ : ∃ m', m = m' + 1 := ⟨m - 1, by omega⟩
    cases e : sh r with
    | none => rw [TR_none e, TR_none e]
    | some k =>
      have hc := (hS r hs).2 k e
      rw [TR, TR, e]
      simp only
      have e1 : (if is1 (hdc (T k)) ∨ is2 (hdc (T k)) then TR T sc R sh n (R (ido T (k + 1))) else Lf) = if is1 (hdc (T k)) ∨ is2 (hdc (T k)) then TR T sc R sh m (R (ido T (k + 1))) else Lf := by
        split
        · rename_i z
          obtain ⟨s1, s2⟩ := hc (k + 1) (Or.inl ⟨rfl, z⟩)
          exact ih m _ s1 (by omega) (by omega)
        · rfl
      have e2 : (if is2 (hdc (T k)) then TR T sc R sh n (R (ido T (sc k))) else Lf) = if is2 (hdc (T k)) then TR T sc R sh m (R (ido T (sc k))) else Lf := by
        split
        · rename_i z
          obtain ⟨s1, s2⟩ := hc (sc k) (Or.inr ⟨rfl, z⟩)
          exact ih m _ s1 (by omega) (by omega)
        · rfl
      rw [e1, e2]
theorem TR_some (hS : Rkd T sc R sh S rk N) {r : Nat} (hs : S r) (e : sh r = some k) : TR T sc R sh N r = Nd (hdc (T k)) (if is1 (hdc (T k)) ∨ is2 (hdc (T k)) then TR T sc R sh N (R (ido T (k + 1))) else Lf) (if is2 (hdc (T k)) then TR T sc R sh N (R (ido T (sc k))) else Lf) := by
  have h0 := (hS r hs).1
  rw [TR_st hS N (N + 1) r hs h0 (by omega), TR, e]
/-- the end's classes are closed -/
theorem UI.end (h : UI K T sc i0 j0 R sh []) : R (ido T i0) = R (ido T j0) ∧ ∀ k k', K k → K k' → ¬ vT T k → ¬ vT T k' → R (12 + k) = R (12 + k') → hdc (T k) = hdc (T k') ∧ (is1 (hdc (T k)) ∨ is2 (hdc (T k)) → R (ido T (k + 1)) = R (ido T (k' + 1))) ∧ (is2 (hdc (T k)) → R (ido T (sc k)) = R (ido T (sc k'))) :=
  h.clos (fun x y => R x = R y) (fun _ _ e => e.symm) (fun _ _ _ e e' => e.trans e') (fun _ _ _ _ e => e) (fun p hp => by cases hp)
theorem isch_K (hP : Pool K T sc) (hk : K k) {c : Nat} (hc : isch T sc k c) : K c ∧ sz (T c) < sz (T k) ∧ ¬ vT T k := by
  obtain ⟨-, -, ⟨h1, h2⟩ | ⟨h1, h2, h3⟩ | ⟨h1, h2, h3, h4⟩⟩ := hP k hk
  · rcases hc with ⟨-, hc | hc⟩ | ⟨-, hc⟩ <;> omega
  · rcases hc with ⟨rfl, hc⟩ | ⟨-, hc⟩
    · exact ⟨h2, by rw [h3, sz_n]; omega, by show ¬ vE _; omega⟩
    · omega
  · rcases hc with ⟨rfl, hc⟩ | ⟨rfl, hc⟩
    · exact ⟨h2, by rw [h4, sz_n]; omega, by show ¬ vE _; omega⟩
    · exact ⟨h3, by rw [h4, sz_n]; omega, by show ¬ vE _; omega⟩
theorem isch_ap (hP : Pool K T sc) (hk : K k) {c : Nat} (hc : isch T sc k c) : sz (ap th (T c)) < sz (ap th (T k)) := by
  have hv := (isch_K hP hk hc).2.2
  obtain ⟨-, -, ⟨h1, h2⟩ | ⟨h1, h2, h3⟩ | ⟨h1, h2, h3, h4⟩⟩ := hP k hk
  · rcases hc with ⟨-, hc | hc⟩ | ⟨-, hc⟩ <;> omega
  · rcases hc with ⟨rfl, hc⟩ | ⟨-, hc⟩
    · rw [h3, ap_n hv, sz_n]; omega
    · omega
  · rcases hc with ⟨rfl, hc⟩ | ⟨rfl, hc⟩
    · rw [h4, ap_n hv, sz_n]; omega
    · rw [h4, ap_n hv, sz_n]; omega
/-- a root without a shape is a variable -/
theorem UI.bare (hP : Pool K T sc) (h : UI K T sc i0 j0 R sh []) {r : Nat} (hr : viU K T r) (hrr : R r = r) (e : sh r = none) : r < 12 := by
  rcases hr with hr | ⟨k, rfl, h1, h2⟩
  · exact hr
  · obtain ⟨k', hk'⟩ := h.has k h1 h2
    rw [hrr, e] at hk'
    cases hk'
theorem G_wf (hP : Pool K T sc) (h : UI K T sc i0 j0 R sh []) (hS : Rkd T sc R sh S rk N) : ∀ n r, rk r < n → viU K T r → R r = r → (sh r = none ∨ S r) → wfE (TR T sc R sh N r) := by
  intro n
  induction n with
  | zero => intro r h; omega
  | succ n ih =>
    intro r hn hv hr hs
    cases e : sh r with
    | none => rw [TR_none e]; exact wfE_vr (h.bare hP hv hr e)
    | some k =>
      have hs : S r := hs.resolve_left (by rw [e]; simp)
      obtain ⟨k1, k2, k3⟩ := h.shp r k hv hr e
      have hc := (hS r hs).2 k e
      have sub : ∀ c, isch T sc k c → wfE (TR T sc R sh N (R (ido T c))) := by
        intro c hcc
        obtain ⟨s1, s2⟩ := hc c hcc
        obtain ⟨v1, v2⟩ := h.root _ (ido_vi (isch_K hP k1 hcc).1)
        exact ih _ (by omega) v1 v2 (Or.inr s1)
      rw [TR_some hS hs e]
      obtain ⟨-, -, ⟨h1, h2⟩ | ⟨h1, h2, h3⟩ | ⟨h1, h2, h3, h4⟩⟩ := hP k k1
      · rw [if_neg (by omega), if_neg (by omega)]; exact wfE_0 h1
      · rw [if_pos (Or.inl h1), if_neg (by omega)]; exact wfE_1 h1 (sub _ (Or.inl ⟨rfl, Or.inl h1⟩))
      · rw [if_pos (Or.inr h1), if_pos h1]; exact wfE_2 h1 (sub _ (Or.inl ⟨rfl, Or.inr h1⟩)) (sub _ (Or.inr ⟨rfl, h1⟩))
theorem G_gen (hP : Pool K T sc) (h : UI K T sc i0 j0 R sh []) (hS : Rkd T sc R sh S rk N) (hth : ap th (T i0) = ap th (T j0)) : ∀ n r, rk r < n → viU K T r → R r = r → (sh r = none ∨ S r) → ap th (TR T sc R sh N r) = valU T th r := by
  obtain ⟨hv1, -⟩ := h.sols th hth
  intro n
  induction n with
  | zero => intro r h; omega
  | succ n ih =>
    intro r hn hv hr hs
    cases e : sh r with
    | none =>
      have := h.bare hP hv hr e
      rw [TR_none e, ap_vr this]
      unfold valU
      rw [if_pos this]
    | some k =>
      have hs : S r := hs.resolve_left (by rw [e]; simp)
      obtain ⟨k1, k2, k3⟩ := h.shp r k hv hr e
      have hc := (hS r hs).2 k e
      have sub : ∀ c, isch T sc k c → ap th (TR T sc R sh N (R (ido T c))) = ap th (T c) := by
        intro c hcc
        obtain ⟨s1, s2⟩ := hc c hcc
        have kc := (isch_K hP k1 hcc).1
        obtain ⟨v1, v2⟩ := h.root _ (ido_vi kc)
        rw [ih _ (by omega) v1 v2 (Or.inr s1), hv1 _ (ido_vi kc), val_ido hP kc]
      have ev : valU T th r = ap th (T k) := by
        rw [← val_n (T := T) (k := k), ← hv1 _ (Or.inr ⟨k, rfl, k1, k2⟩), k3]
      rw [TR_some hS hs e, ev]
      obtain ⟨-, -, ⟨h1, h2⟩ | ⟨h1, h2, h3⟩ | ⟨h1, h2, h3, h4⟩⟩ := hP k k1
      · rw [if_neg (by omega), if_neg (by omega), ← h2]
      · rw [if_pos (Or.inl h1), if_neg (by omega), ap_n k2, sub _ (Or.inl ⟨rfl, Or.inl h1⟩)]
        exact ((congrArg (ap th) h3).trans (ap_n k2)).symm
      · rw [if_pos (Or.inr h1), if_pos h1, ap_n k2, sub _ (Or.inl ⟨rfl, Or.inr h1⟩), sub _ (Or.inr ⟨rfl, h1⟩)]
        exact ((congrArg (ap th) h4).trans (ap_n k2)).symm
theorem G_ap (hP : Pool K T sc) (h : UI K T sc i0 j0 R sh []) (hS : Rkd T sc R sh S rk N) (hall : ∀ k, K k → S (R (ido T k))) : ∀ n k, sz (T k) < n → K k → ap (fun v => TR T sc R sh N (R v)) (T k) = TR T sc R sh N (R (ido T k)) := by
  intro n
  induction n with
  | zero => intro k h; omega
  | succ n ih =>
    intro k hn hk
    by_cases hv : vT T k
    · obtain ⟨-, -, ⟨h1, h2⟩ | ⟨h1, h2, h3⟩ | ⟨h1, h2, h3, h4⟩⟩ := hP k hk
      · rw [ido_v hv]
        exact (congrArg (ap _) h2).trans (ap_v hv)
      · omega
      · omega
    · obtain ⟨k', hk'⟩ := h.has k hk hv
      obtain ⟨v1, v2⟩ := h.root _ (ido_vi hk)
      rw [ido_n hv] at v1 v2
      obtain ⟨k1, k2, k3⟩ := h.shp _ k' v1 v2 hk'
      have hs := hall k hk
      rw [ido_n hv] at hs
      obtain ⟨c1, c2, c3⟩ := h.end.2 k k' hk k1 hv k2 k3.symm
      rw [ido_n hv, TR_some hS hs hk', ← c1]
      have sub : ∀ c, isch T sc k c → ap (fun v => TR T sc R sh N (R v)) (T c) = TR T sc R sh N (R (ido T c)) := by
        intro c hcc
        obtain ⟨q1, q2, -⟩ := isch_K hP hk hcc
        exact ih c (by omega) q1
      obtain ⟨-, -, ⟨h1, h2⟩ | ⟨h1, h2, h3⟩ | ⟨h1, h2, h3, h4⟩⟩ := hP k hk
      · rw [if_neg (by omega), if_neg (by omega)]
        exact (congrArg (ap _) h2).trans (ap_n hv)
      · rw [if_pos (Or.inl h1), if_neg (by omega), ← c2 (Or.inl h1), ← sub _ (Or.inl ⟨rfl, Or.inl h1⟩)]
        exact (congrArg (ap _) h3).trans (ap_n hv)
      · rw [if_pos (Or.inr h1), if_pos h1, ← c2 (Or.inr h1), ← c3 h1, ← sub _ (Or.inl ⟨rfl, Or.inr h1⟩), ← sub _ (Or.inr ⟨rfl, h1⟩)]
        exact (congrArg (ap _) h4).trans (ap_n hv)
theorem UI.mgu (hP : Pool K T sc) (h : UI K T sc i0 j0 R sh []) (hi : K i0) (hj : K j0) (hS : Rkd T sc R sh S rk N) (hall : ∀ k, K k → S (R (ido T k))) : Mgu (fun v => TR T sc R sh N (R v)) (T i0) (T j0) := by
  have hv : ∀ v, v < 12 → viU K T (R v) ∧ R (R v) = R v ∧ (sh (R v) = none ∨ S (R v)) := by
    intro v hv
    obtain ⟨v1, v2⟩ := h.root v (Or.inl hv)
    refine ⟨v1, v2, ?_⟩
    cases e : sh (R v) with
    | none => exact Or.inl rfl
    | some k =>
      obtain ⟨k1, k2, k3⟩ := h.shp _ k v1 v2 e
      have := hall k k1
      rw [ido_n k2, k3] at this
      exact Or.inr this
  refine ⟨fun v hv12 => ?_, ?_, fun th hth v hv12 => ?_⟩
  · obtain ⟨a1, a2, a3⟩ := hv v hv12
    exact G_wf hP h hS _ _ (Nat.lt_succ_self _) a1 a2 a3
  · rw [G_ap hP h hS hall _ i0 (Nat.lt_succ_self _) hi, G_ap hP h hS hall _ j0 (Nat.lt_succ_self _) hj, h.end.1]
  · obtain ⟨a1, a2, a3⟩ := hv v hv12
    show th v = ap th (TR T sc R sh N (R v))
    rw [G_gen hP h hS hth _ _ (Nat.lt_succ_self _) a1 a2 a3, (h.sols th hth).1 v (Or.inl hv12)]
    unfold valU
    rw [if_pos hv12]
/-- what is never settled goes in a circle -/
theorem UI.circle (hP : Pool K T sc) (h : UI K T sc i0 j0 R sh []) (U : Nat → Prop) (h1 : ∃ k, K k ∧ U (R (ido T k))) (h2 : ∀ k, K k → U (R (ido T k)) → ∃ k' c, sh (R (ido T k)) = some k' ∧ isch T sc k' c ∧ U (R (ido T c))) : ∀ th, ap th (T i0) ≠ ap th (T j0) := by
  intro th hth
  obtain ⟨hv1, -⟩ := h.sols th hth
  have no : ∀ n k, sz (ap th (T k)) < n → K k → ¬ U (R (ido T k)) := by
    intro n
    induction n with
    | zero => intro k h; omega
    | succ n ih =>
      intro k hn hk hu
      obtain ⟨k', c, e, hc, hu'⟩ := h2 k hk hu
      obtain ⟨v1, v2⟩ := h.root _ (ido_vi hk)
      obtain ⟨k1, k2, k3⟩ := h.shp _ k' v1 v2 e
      have e1 : ap th (T k') = ap th (T k) := by
        rw [← val_n (T := T) (k := k'), ← val_ido hP hk, ← hv1 _ (Or.inr ⟨k', rfl, k1, k2⟩), k3, hv1 _ (ido_vi hk)]
      have := isch_ap (th := th) hP k1 hc
      rw [e1] at this
      exact ih c (by omega) (isch_K hP k1 hc).1 hu'
  obtain ⟨k, hk, hu⟩ := h1
  exact no _ k (Nat.lt_succ_self _) hk hu
end
