/-! laws: keep, fail, try, else keep, then fail, again and again -/
theorem gM_at {A : AT} {k : Nat} {q : SG} (hA : AOk A) (h : (ssA A)[k]? = some q) : gM A (jn k) = q := by
  have hl : k < (ssA A).length := (List.getElem?_eq_some_iff.mp h).1
  have h24 : (ssA A).length ≤ 24 := hA.1.2.2.1.1
  have hI : (jn k).toInt = (k : Int) := jn_toInt (by omega)
  unfold gM
  rw [if_neg (fun e => by have := congrArg Int32.toInt e; rw [hI, jn_toInt (by omega)] at this; omega), if_pos (by omega), if_pos (by omega), jnN (by omega), List.getD_eq_getElem?_getD, h]
  rfl
theorem hsS_at {A : AT} {k : Nat} {q : SG} (hA : AOk A) (h : (ssA A)[k]? = some q) : hsS A (jn k) := by
  have hl : k < (ssA A).length := (List.getElem?_eq_some_iff.mp h).1
  have h24 : (ssA A).length ≤ 24 := hA.1.2.2.1.1
  constructor
  · rw [jn_toInt (by omega)]; omega
  · rw [jn_toInt (by omega)]; omega
theorem F_trial_ok {A : AT} {k t c : Nat} {q : SG} {T : Tm} (hA : AOk A) (h : (ssA A)[k]? = some q) (ht : (tsA A)[t]? = some T) (hc : c ≤ 2) : F_trial A (jn k) (jn t) (jn c) = (trlV (jn c) (rnA A (jn k) T 0 0), A) := by
  obtain ⟨a1, a2, -⟩ := tm_at hA ht
  unfold F_trial
  rw [if_neg (fun z => z (hsS_at hA h)), if_neg (fun z => z a1), if_neg (fun z => z (by rw [jn_toInt (by omega)]; omega)), a2]
theorem F_termOf_0 {A : AT} {t : Nat} {T : Tm} (hA : AOk A) (ht : (tsA A)[t]? = some T) : F_termOf A (jn t) (jn 0) = (jn (sz T), A) := by
  obtain ⟨a1, a2, -⟩ := tm_at hA ht
  unfold F_termOf
  rw [if_neg (fun z => z a1), if_pos rfl, a2]
theorem bdy_at {g : Int32 → Nat × Int32 × Int32} {f : Int32 → Tm → Int64 → RnS → RnR} {R : Int32 → Tm → Int64 → RnS → RnR} {s : Int32} {k : Nat} {a b : Int32} {t : Tm} {p : Int64} {q : RnS} (h : g s = (k, a, b)) : bdy g f R s (g s).1 t p q = bdy (fun _ => (k, a, b)) f R s k t p q := by
  unfold bdy
  simp only [h]
abbrev q1S : RnS := (1, 0, [], false)
abbrev p0S : Int64 := Int64.ofNat 0
theorem rn_at {A : AT} {k kd : Nat} {a b : Int32} {T : Tm} (h : gM A (jn k) = (kd, a, b)) : rnA A (jn k) T 0 0 = bck (stQ 0 0) (bdy (fun _ => (kd, a, b)) (fM A) (runF (gM A) (fM A) 600) (jn k) kd T p0S q1S) := by
  unfold rnA
  rw [run_bdy, if_neg (show ¬ (stQ 0 0).1 = 600 by decide), bdy_at h]
theorem rn_keep {A : AT} {k : Nat} {a b : Int32} {T : Tm} (h : gM A (jn k) = (1, a, b)) : rnA A (jn k) T 0 0 = (some T, q1S) := by rw [rn_at h]; rfl
theorem rn_fail {A : AT} {k : Nat} {a b : Int32} {T : Tm} (h : gM A (jn k) = (2, a, b)) : rnA A (jn k) T 0 0 = (none, q1S) := by rw [rn_at h]; rfl
theorem keep_in {A : AT} {n k : Nat} {a b : Int32} {T : Tm} {p : Int64} {q : RnS} (h : gM A (jn k) = (1, a, b)) : runF (gM A) (fM A) (n + 1) (jn k) T p q = if q.1 = 600 then ovr q else (some T, bgn q) := by
  rw [run_bdy, bdy_at h]
  rfl
theorem fail_in {A : AT} {n k : Nat} {a b : Int32} {T : Tm} {p : Int64} {q : RnS} (h : gM A (jn k) = (2, a, b)) : (runF (gM A) (fM A) (n + 1) (jn k) T p q).1 = none := by
  rw [run_bdy, bdy_at h]
  split <;> rfl
theorem rep_nofail {R : Tm → Int64 → RnS → RnR} : ∀ (m : Nat) (t : Tm) (p : Int64) (q q' : RnS), repC R m t p q = (none, q') → q'.2.2.2 = true := by
  intro m
  induction m with
  | zero => intro t p q q' h; cases h; rfl
  | succ m ih =>
    intro t p q q' h
    rw [rep_bnd] at h
    cases e : R t p q with
    | mk x q1 =>
      rw [e] at h
      cases x with
      | some t1 => exact ih _ _ _ _ h
      | none =>
        have h : els q1 (some t, q1) = (none, q') := h
        unfold els at h
        split at h
        · rename_i ho; cases h; exact ho
        · cases h
/-- how a strategy goes when it is begun as the second: it ends, or goes as when begun first -/
theorem second {A : AT} {w : Nat} {T : Tm} : ((runF (gM A) (fM A) 600 (jn w) T p0S q1S).1 = none ∧ (runF (gM A) (fM A) 600 (jn w) T p0S q1S).2.2.2.2 = true) ∨ runF (gM A) (fM A) 600 (jn w) T p0S q1S = ((rnA A (jn w) T 0 0).1, bgn (rnA A (jn w) T 0 0).2) := by
  have e := run_601 (A := A) (s := jn w) (t := T) (p := p0S) (q := q1S) (by decide) (by decide)
  rw [e]
  rcases run_later (A := A) 601 (jn w) T p0S (stQ 0 0) q1S ⟨rfl, rfl, by decide⟩ with ⟨-, h1, h2⟩ | ⟨h1, h2, h3, -⟩
  · exact Or.inl ⟨h1, h2⟩
  · exact Or.inr (Prod.ext h1 (Prod.ext h3 h2))
theorem trl_0n {q : RnS} : trlV (jn 0) (none, q) = if q.2.2.2 = true then jn 2 else jn 1 := by
  show (if jn 0 = jn 0 then (if q.2.2.2 = true then jn 2 else jn 1) else jn 0) = _
  rw [if_pos rfl]
theorem trl_0s {u : Tm} {q : RnS} : trlV (jn 0) (some u, q) = jn 0 := by
  show (if jn 0 = jn 0 then jn 0 else if jn 0 = jn 1 then jn (sz u) else jn q.2.2.1.length) = _
  rw [if_pos rfl]
theorem trl_1s {u : Tm} {q : RnS} : trlV (jn 1) (some u, q) = jn (sz u) := by
  show (if jn 1 = jn 0 then jn 0 else if jn 1 = jn 1 then jn (sz u) else jn q.2.2.1.length) = _
  rw [if_neg (by decide), if_pos rfl]
theorem trl_1n {q : RnS} : trlV (jn 1) (none, q) = jn 0 := by
  show (if jn 1 = jn 0 then (if q.2.2.2 = true then jn 2 else jn 1) else jn 0) = _
  rw [if_neg (by decide)]
theorem trl_2n {q : RnS} : trlV (jn 2) (none, q) = jn 0 := by
  show (if jn 2 = jn 0 then (if q.2.2.2 = true then jn 2 else jn 1) else jn 0) = _
  rw [if_neg (by decide)]
theorem trl_2s {u : Tm} {q : RnS} : trlV (jn 2) (some u, q) = jn q.2.2.1.length := by
  show (if jn 2 = jn 0 then jn 0 else if jn 2 = jn 1 then jn (sz u) else jn q.2.2.1.length) = _
  rw [if_neg (by decide), if_neg (by decide)]
theorem trl_02 {o : RnR} : trlV (jn 0) o = jn 2 ↔ o.1 = none ∧ o.2.2.2.2 = true := by
  obtain ⟨x, q⟩ := o
  cases x with
  | some u => rw [trl_0s]; exact ⟨fun h => absurd h (by decide), fun h => by cases h.1⟩
  | none =>
    rw [trl_0n]
    by_cases h : q.2.2.2 = true
    · rw [if_pos h]; exact ⟨fun _ => ⟨rfl, h⟩, fun _ => rfl⟩
    · rw [if_neg h]; exact ⟨fun z => absurd z (by decide), fun z => absurd z.2 h⟩
theorem trl_01 {o : RnR} : trlV (jn 0) o = jn 1 ↔ o.1 = none ∧ ¬ o.2.2.2.2 = true := by
  obtain ⟨x, q⟩ := o
  cases x with
  | some u => rw [trl_0s]; exact ⟨fun h => absurd h (by decide), fun h => by cases h.1⟩
  | none =>
    rw [trl_0n]
    by_cases h : q.2.2.2 = true
    · rw [if_pos h]; exact ⟨fun z => absurd z (by decide), fun z => absurd h z.2⟩
    · rw [if_neg h]; exact ⟨fun _ => ⟨rfl, h⟩, fun _ => rfl⟩
theorem trl_00 {o : RnR} : trlV (jn 0) o = jn 0 ↔ ∃ u, o.1 = some u := by
  obtain ⟨x, q⟩ := o
  cases x with
  | some u => rw [trl_0s]; exact ⟨fun _ => ⟨u, rfl⟩, fun _ => rfl⟩
  | none =>
    rw [trl_0n]
    refine ⟨fun h => ?_, fun ⟨u, h⟩ => by cases h⟩
    split at h <;> exact absurd h (by decide)
theorem bdy_13 {g : Int32 → Nat × Int32 × Int32} {f : Int32 → Tm → Int64 → RnS → RnR} {R : Int32 → Tm → Int64 → RnS → RnR} {s : Int32} {t : Tm} {p : Int64} {q : RnS} : bdy g f R s 13 t p q = repC (R (g s).2.1) 601 t p q := by
  unfold bdy
  split
  all_goals first | contradiction | omega | rfl
theorem keep_in2 {A : AT} {m k : Nat} {a b : Int32} {T : Tm} {p : Int64} {q : RnS} (hm : m = 599 + 1) (h : gM A (jn k) = (1, a, b)) : runF (gM A) (fM A) m (jn k) T p q = if q.1 = 600 then ovr q else (some T, bgn q) := by
  rw [hm]
  exact keep_in h
theorem fail_in2 {A : AT} {m k : Nat} {a b : Int32} {T : Tm} {p : Int64} {q : RnS} (hm : m = 599 + 1) (h : gM A (jn k) = (2, a, b)) : (runF (gM A) (fM A) m (jn k) T p q).1 = none := by
  rw [hm]
  exact fail_in h
theorem bnd_some {t : Tm} {q : RnS} {f : Tm → RnS → RnR} {g : RnS → RnR} : bnd (some t, q) f g = f t q := rfl
theorem bnd_none {q : RnS} {f : Tm → RnS → RnR} {g : RnS → RnR} : bnd (none, q) f g = g q := rfl
theorem six_tr {A : AT} {w : Nat} {T : Tm} : ∀ q, rnA A (jn w) T 0 0 = (none, q) → q.2.2.1 = [] := by
  intro q h
  unfold rnA at h
  rw [run_bdy, if_neg (show ¬ (stQ 0 0).1 = 600 by decide)] at h
  cases e : bdy (gM A) (fM A) (runF (gM A) (fM A) 600) (jn w) (gM A (jn w)).1 T (Int64.ofNat 0) (bgn (stQ 0 0)) with
  | mk x q1 =>
    rw [e] at h
    cases x with
    | some u => cases h
    | none => cases h; rfl
theorem six_e {A : AT} {w : Nat} {T : Tm} {x5 x6 : Int32} (k3 : gM A (jn (w + 3)) = (5, jn w, x5)) (k4 : gM A (jn (w + 4)) = (4, jn w, jn (w + 1))) (k5 : gM A (jn (w + 5)) = (3, jn w, jn (w + 2))) (k6 : gM A (jn (w + 6)) = (13, jn w, x6)) :
    rnA A (jn (w + 3)) T 0 0 = bck (stQ 0 0) (bnd (runF (gM A) (fM A) 600 (jn w) T p0S q1S) (fun t1 q1 => (some t1, q1)) (fun q1 => els q1 (some T, q1))) ∧
    rnA A (jn (w + 4)) T 0 0 = bck (stQ 0 0) (bnd (runF (gM A) (fM A) 600 (jn w) T p0S q1S) (fun t1 q1 => (some t1, q1)) (fun q1 => els q1 (runF (gM A) (fM A) 600 (jn (w + 1)) T p0S q1))) ∧
    rnA A (jn (w + 5)) T 0 0 = bck (stQ 0 0) (bnd (runF (gM A) (fM A) 600 (jn w) T p0S q1S) (fun t1 q1 => runF (gM A) (fM A) 600 (jn (w + 2)) t1 p0S q1) noO) ∧
    rnA A (jn (w + 6)) T 0 0 = bck (stQ 0 0) (bnd (runF (gM A) (fM A) 600 (jn w) T p0S q1S) (fun t' q1 => repC (runF (gM A) (fM A) 600 (jn w)) 600 t' p0S q1) (fun q1 => els q1 (some T, q1))) := by
  have e3 := rn_at (T := T) k3
  have e4 := rn_at (T := T) k4
  have e5 := rn_at (T := T) k5
  have e6 := rn_at (T := T) k6
  have f3 : bdy (fun _ => (5, jn w, x5)) (fM A) (runF (gM A) (fM A) 600) (jn (w + 3)) 5 T p0S q1S = bnd (runF (gM A) (fM A) 600 (jn w) T p0S q1S) (fun t1 q1 => (some t1, q1)) (fun q1 => els q1 (some T, q1)) := rfl
  have f4 : bdy (fun _ => (4, jn w, jn (w + 1))) (fM A) (runF (gM A) (fM A) 600) (jn (w + 4)) 4 T p0S q1S = bnd (runF (gM A) (fM A) 600 (jn w) T p0S q1S) (fun t1 q1 => (some t1, q1)) (fun q1 => els q1 (runF (gM A) (fM A) 600 (jn (w + 1)) T p0S q1)) := rfl
  have f5 : bdy (fun _ => (3, jn w, jn (w + 2))) (fM A) (runF (gM A) (fM A) 600) (jn (w + 5)) 3 T p0S q1S = bnd (runF (gM A) (fM A) 600 (jn w) T p0S q1S) (fun t1 q1 => runF (gM A) (fM A) 600 (jn (w + 2)) t1 p0S q1) noO := rfl
  have f6 : bdy (fun _ => (13, jn w, x6)) (fM A) (runF (gM A) (fM A) 600) (jn (w + 6)) 13 T p0S q1S = repC (runF (gM A) (fM A) 600 (jn w)) 601 T p0S q1S := bdy_13
  rw [rep_bnd] at f6
  rw [f3] at e3
  rw [f4] at e4
  rw [f5] at e5
  rw [f6] at e6
  exact ⟨e3, e4, e5, e6⟩
/-- what each of the six makes, by how the one that is tried goes -/
theorem six_g {P : Int32 → Tm → Int64 → RnS → RnR} {w0 w1 w2 : Int32} {m : Nat} {T : Tm} {o0 o3 o4 o5 o6 : RnR}
    (e3 : o3 = bck (stQ 0 0) (bnd (P w0 T p0S q1S) (fun t1 q1 => (some t1, q1)) (fun q1 => els q1 (some T, q1))))
    (e4 : o4 = bck (stQ 0 0) (bnd (P w0 T p0S q1S) (fun t1 q1 => (some t1, q1)) (fun q1 => els q1 (P w1 T p0S q1))))
    (e5 : o5 = bck (stQ 0 0) (bnd (P w0 T p0S q1S) (fun t1 q1 => P w2 t1 p0S q1) noO))
    (e6 : o6 = bck (stQ 0 0) (bnd (P w0 T p0S q1S) (fun t' q1 => repC (P w0) m t' p0S q1) (fun q1 => els q1 (some T, q1))))
    (hk1 : ∀ q : RnS, P w1 T p0S q = if q.1 = 600 then ovr q else (some T, bgn q)) (hk2 : ∀ u q, (P w2 u p0S q).1 = none)
    (sec : ((P w0 T p0S q1S).1 = none ∧ (P w0 T p0S q1S).2.2.2.2 = true) ∨ P w0 T p0S q1S = (o0.1, bgn o0.2)) (tr0 : ∀ q, o0 = (none, q) → q.2.2.1 = []) :
    (((o3).1 = none ∧ (o3).2.2.2.2 = true ∧ (o4).1 = none ∧ (o4).2.2.2.2 = true ∧ (o5).1 = none ∧ (o5).2.2.2.2 = true ∧ (o6).1 = none ∧ (o6).2.2.2.2 = true) ∨
     (∃ u q, o0 = (some u, q) ∧ (∃ q3, o3 = (some u, q3) ∧ q3.2.2.1 = q.2.2.1) ∧ (∃ q4, o4 = (some u, q4) ∧ q4.2.2.1 = q.2.2.1) ∧ (o5).1 = none ∧ ((o6).1 = none → (o6).2.2.2.2 = true)) ∨
     (∃ q, o0 = (none, q) ∧ ¬ q.2.2.2 = true ∧ (∃ q3, o3 = (some T, q3) ∧ q3.2.2.1 = []) ∧ ((∃ q4, o4 = (some T, q4) ∧ q4.2.2.1 = []) ∨ ((o4).1 = none ∧ (o4).2.2.2.2 = true)) ∧ (o5).1 = none ∧ (∃ q6, o6 = (some T, q6) ∧ q6.2.2.1 = []))) := by
  cases e1 : P w0 T p0S q1S with
  | mk x1 q1 =>
  by_cases hov : x1 = none ∧ q1.2.2.2 = true
  · left
    obtain ⟨rfl, h2⟩ := hov
    rw [e1] at e3 e4 e5 e6
    simp only [bnd_none, noO] at e3 e4 e5 e6
    unfold els at e3 e4 e6
    rw [if_pos h2] at e3 e4 e6
    rw [e3, e4, e5, e6]
    exact ⟨rfl, h2, rfl, h2, rfl, h2, rfl, h2⟩
  · right
    have h : (x1, q1) = ((o0).1, bgn (o0).2) := by
      rcases sec with ⟨h1, h2⟩ | h
      · rw [e1] at h1 h2
        exact absurd ⟨h1, h2⟩ hov
      · rw [e1] at h
        exact h
    rw [e1, h] at e3 e4 e5 e6
    cases e : o0 with
    | mk x q =>
      rw [e] at e3 e4 e5 e6 h
      cases x with
      | some u =>
        left
        simp only [bnd_some] at e3 e4 e5 e6
        refine ⟨u, q, rfl, ⟨bgn q, e3, rfl⟩, ⟨bgn q, e4, rfl⟩, ?_, ?_⟩
        · rw [e5, bck_some]
          exact hk2 _ _
        · rw [e6]
          cases e7 : repC (P w0) m u p0S (bgn q) with
          | mk y q2 =>
            cases y with
            | some v => intro z; cases z
            | none => intro _; exact (show q2.2.2.2 = true from rep_nofail _ _ _ _ _ e7)
      | none =>
        have t0 := tr0 q e
        right
        have ho' : ¬ (bgn q).2.2.2 = true := by
          intro z
          refine hov ⟨congrArg Prod.fst h, ?_⟩
          rw [show q1 = bgn q from congrArg Prod.snd h]
          exact z
        simp only [bnd_none, noO] at e3 e4 e5 e6
        unfold els at e3 e4 e6
        rw [if_neg ho'] at e3 e4 e6
        rw [hk1] at e4
        refine ⟨q, rfl, ho', ⟨bgn q, e3, t0⟩, ?_, by rw [e5], ⟨bgn q, e6, t0⟩⟩
        by_cases h6 : (bgn q).1 = 600
        · rw [if_pos h6] at e4
          rw [e4]
          exact Or.inr ⟨rfl, rfl⟩
        · rw [if_neg h6] at e4
          exact Or.inl ⟨bgn (bgn q), e4, t0⟩
theorem six {A : AT} {w : Nat} {T : Tm} {x1 x2 x3 x4 x5 x6 : Int32} (hA : AOk A) (k1 : gM A (jn (w + 1)) = (1, x1, x2)) (k2 : gM A (jn (w + 2)) = (2, x3, x4)) (k3 : gM A (jn (w + 3)) = (5, jn w, x5)) (k4 : gM A (jn (w + 4)) = (4, jn w, jn (w + 1))) (k5 : gM A (jn (w + 5)) = (3, jn w, jn (w + 2))) (k6 : gM A (jn (w + 6)) = (13, jn w, x6)) :
    (∀ q, rnA A (jn w) T 0 0 = (none, q) → q.2.2.1 = []) ∧
    (((rnA A (jn (w + 3)) T 0 0).1 = none ∧ (rnA A (jn (w + 3)) T 0 0).2.2.2.2 = true ∧ (rnA A (jn (w + 4)) T 0 0).1 = none ∧ (rnA A (jn (w + 4)) T 0 0).2.2.2.2 = true ∧ (rnA A (jn (w + 5)) T 0 0).1 = none ∧ (rnA A (jn (w + 5)) T 0 0).2.2.2.2 = true ∧ (rnA A (jn (w + 6)) T 0 0).1 = none ∧ (rnA A (jn (w + 6)) T 0 0).2.2.2.2 = true) ∨
     (∃ u q, rnA A (jn w) T 0 0 = (some u, q) ∧ (∃ q3, rnA A (jn (w + 3)) T 0 0 = (some u, q3) ∧ q3.2.2.1 = q.2.2.1) ∧ (∃ q4, rnA A (jn (w + 4)) T 0 0 = (some u, q4) ∧ q4.2.2.1 = q.2.2.1) ∧ (rnA A (jn (w + 5)) T 0 0).1 = none ∧ ((rnA A (jn (w + 6)) T 0 0).1 = none → (rnA A (jn (w + 6)) T 0 0).2.2.2.2 = true)) ∨
     (∃ q, rnA A (jn w) T 0 0 = (none, q) ∧ ¬ q.2.2.2 = true ∧ (∃ q3, rnA A (jn (w + 3)) T 0 0 = (some T, q3) ∧ q3.2.2.1 = []) ∧ ((∃ q4, rnA A (jn (w + 4)) T 0 0 = (some T, q4) ∧ q4.2.2.1 = []) ∨ ((rnA A (jn (w + 4)) T 0 0).1 = none ∧ (rnA A (jn (w + 4)) T 0 0).2.2.2.2 = true)) ∧ (rnA A (jn (w + 5)) T 0 0).1 = none ∧ (∃ q6, rnA A (jn (w + 6)) T 0 0 = (some T, q6) ∧ q6.2.2.1 = []))) := by
  obtain ⟨e3, e4, e5, e6⟩ := six_e (T := T) k3 k4 k5 k6
  exact ⟨six_tr, six_g e3 e4 e5 e6 (fun q => keep_in2 (by decide) k1) (fun u q => fail_in2 (by decide) k2) second six_tr⟩
section
variable {d w t : Nat} {A : AT} {M : PM} {T : Tm}
theorem ya_trial {k c : Nat} {qk : SG} {Q : AT → Prop} {v : Int32} {g : Int32 → PM → PO} (hd : 16 ≤ d) (hA : AOk A) (h : RX A M) (hk : (ssA A)[k]? = some qk) (ht : (tsA A)[t]? = some T) (hc : c ≤ 2) (hh : ∀ M1, RX A M1 → Ya M1 Q v (g (trlV (jn c) (rnA A (jn k) T 0 0)) M1)) : Ya M Q v (kI (pcl GG laz d 35 [.ref 0, .int (jn k), .int (jn t), .int (jn c)] M) g) := by
  have x := x_trial (a := jn k) (b := jn t) (c := jn c) hd hA h
  rw [F_trial_ok hA hk ht hc] at x
  exact ya_I x hh
theorem ya_size {Q : AT → Prop} {v : Int32} {g : Int32 → PM → PO} (hd : 14 ≤ d) (hA : AOk A) (h : RX A M) (ht : (tsA A)[t]? = some T) (hh : ∀ M1, RX A M1 → Ya M1 Q v (g (jn (sz T)) M1)) : Ya M Q v (kI (pcl GG laz d 17 [.ref 0, .int (jn t), .int (jn 0)] M) g) := by
  have x := x_termOf (a := jn t) (b := jn 0) hd hA h
  rw [F_termOf_0 hA ht] at x
  exact ya_I x hh
theorem l_laws {y1 y2 y3 y4 y5 y6 y7 : Int32} {q0 : SG} (hd : 20 ≤ d) (hA : AOk A) (h : RX A M) (ht : (tsA A)[t]? = some T) (s0 : (ssA A)[w]? = some q0) (s1 : (ssA A)[w + 1]? = some (1, y1, y2)) (s2 : (ssA A)[w + 2]? = some (2, y3, y4)) (s3 : (ssA A)[w + 3]? = some (5, jn w, y5)) (s4 : (ssA A)[w + 4]? = some (4, jn w, jn (w + 1))) (s5 : (ssA A)[w + 5]? = some (3, jn w, jn (w + 2))) (s6 : (ssA A)[w + 6]? = some (13, jn w, y6)) : Ya M (Sm A) (jn 1) (pcl GG laz d 75 [.ref 0, .int (jn w), .int (jn t)] M) := by
  obtain ⟨d, rfl⟩ := ex_add (show 1 ≤ d by omega)
  have d16 : 16 ≤ d := by omega
  have d14 : 14 ≤ d := by omega
  obtain ⟨tr0, hs⟩ := six (T := T) (w := w) hA (gM_at hA s1) (gM_at hA s2) (gM_at hA s3) (gM_at hA s4) (gM_at hA s5) (gM_at hA s6)
  have r1 := rn_keep (T := T) (gM_at hA s1)
  have r2 := rn_fail (T := T) (gM_at hA s2)
  have done : ∀ M1, RX A M1 → Ya M1 (Sm A) (jn 1) (rZ (jn 1) M1) := fun M1 h1 => ya_1 h1 hA Sm.rf
  rw [q_75]
  simp only [jn_add]
  refine ya_trial d16 hA h s0 ht (by omega) (fun M1 h1 => ?_)
  refine ya_trial d16 hA h1 s1 ht (by omega) (fun M2 h2 => ya_eq (by rw [r1]; rfl) ?_)
  refine ya_trial d16 hA h2 s1 ht (by omega) (fun M3 h3 => ?_)
  refine ya_size d14 hA h3 ht (fun M4 h4 => ya_eq (by rw [r1]; rfl) ?_)
  refine ya_trial d16 hA h4 s2 ht (by omega) (fun M5 h5 => ya_eq (by rw [r2]; rfl) ?_)
  refine ya_trial d16 hA h5 s3 ht (by omega) (fun M6 h6 => ?_)
  refine ya_trial d16 hA h6 s4 ht (by omega) (fun M7 h7 => ?_)
  refine ya_trial d16 hA h7 s5 ht (by omega) (fun M8 h8 => ?_)
  -- the last: again and again
  have again : ∀ (l4 l5 l6 : Option Value) (u7 : Option Value) (u4 : Option Value) M1, RX A M1 → trlV (jn 0) (rnA A (jn (w + 6)) T 0 0) ≠ jn 1 → (trlV (jn 0) (rnA A (jn (w + 6)) T 0 0) = jn 0 → trlV (jn 0) (rnA A (jn w) T 0 0) ≠ jn 0 → ∃ q6, rnA A (jn (w + 6)) T 0 0 = (some T, q6) ∧ q6.2.2.1 = []) → Ya M1 (Sm A) (jn 1) (E_75 d (227, [some (.ref 0), some (.int (jn w)), some (.int (jn t)), some (.int (trlV (jn 0) (rnA A (jn w) T 0 0))), u4, l5, l6, u7], [], M1)) := by
    intro l4 l5 l6 u7 u4 M1 h1 a1 a2
    rw [h_75_227]
    simp only [jn_add]
    refine ya_trial d16 hA h1 s6 ht (by omega) (fun M2 h2 => ya_ne a1 ?_)
    by_cases c1 : trlV (jn 0) (rnA A (jn (w + 6)) T 0 0) = jn 0
    · refine ya_eq c1 ?_
      by_cases c2 : trlV (jn 0) (rnA A (jn w) T 0 0) = jn 0
      · refine ya_eq c2 ?_
        rw [h_75_286]
        exact done _ h2
      · refine ya_ne c2 ?_
        obtain ⟨q6, e6, t6⟩ := a2 c1 c2
        refine ya_trial d16 hA h2 s6 ht (by omega) (fun M3 h3 => ya_eq (by rw [e6, trl_2s, t6]; rfl) ?_)
        refine ya_trial d16 hA h3 s6 ht (by omega) (fun M4 h4 => ?_)
        refine ya_size d14 hA h4 ht (fun M5 h5 => ya_eq (by rw [e6, trl_1s]) ?_)
        rw [h_75_286]
        exact done _ h5
    · refine ya_ne c1 ?_
      rw [h_75_286]
      exact done _ h2
  rcases hs with ⟨b3, b3', b4, b4', b5, b5', b6, b6'⟩ | ⟨u, q, e0, ⟨q3, e3, t3⟩, ⟨q4, e4, t4⟩, e5, e6⟩ | ⟨q, e0, ho, ⟨q3, e3, t3⟩, e4, e5, ⟨q6, e6, t6⟩⟩
  · have w3 := trl_02.mpr ⟨b3, b3'⟩
    have w4 := trl_02.mpr ⟨b4, b4'⟩
    have w5 := trl_02.mpr ⟨b5, b5'⟩
    have w6 := trl_02.mpr ⟨b6, b6'⟩
    by_cases c : trlV (jn 0) (rnA A (jn w) T 0 0) = jn 2
    · exact ya_eq c (ya_eq w3 (ya_eq w4 (ya_eq w5 (done _ h8))))
    · refine ya_ne c (ya_ne (by rw [w3]; decide) (ya_ne (by rw [w4]; decide) (ya_ne (by rw [w5]; decide) (ya_ne (by rw [w3]; decide) ?_))))
      rw [h_75_173]
      refine ya_ne (by rw [w3]; decide) ?_
      exact again (some (.int 0)) _ _ _ _ _ h8 (by rw [w6]; decide) (fun z => by rw [w6] at z; exact absurd z (by decide))
  · have w0 : trlV (jn 0) (rnA A (jn w) T 0 0) = jn 0 := by rw [e0, trl_0s]
    have w3 : trlV (jn 0) (rnA A (jn (w + 3)) T 0 0) = jn 0 := by rw [e3, trl_0s]
    have w4 : trlV (jn 0) (rnA A (jn (w + 4)) T 0 0) = jn 0 := by rw [e4, trl_0s]
    refine ya_ne (by rw [w0]; decide) (ya_ne (by rw [w3]; decide) (ya_ne (by rw [w4]; decide) (ya_ne (fun z => ?_) (ya_eq w3 ?_))))
    · obtain ⟨v, z⟩ := trl_00.mp z
      rw [e5] at z
      cases z
    refine ya_trial d16 hA h8 s3 ht (by omega) (fun M9 h9 => ya_eq w0 ?_)
    refine ya_trial d16 hA h9 s0 ht (by omega) (fun M10 h10 => ya_eq (by rw [e3, e0, trl_1s, trl_1s]) ?_)
    rw [h_75_173]
    simp only [jn_add]
    refine ya_eq w3 (ya_eq w4 ?_)
    refine ya_trial d16 hA h10 s4 ht (by omega) (fun M11 h11 => ?_)
    refine ya_trial d16 hA h11 s3 ht (by omega) (fun M12 h12 => ya_eq (by rw [e3, e4, trl_1s, trl_1s]) ?_)
    refine ya_trial d16 hA h12 s4 ht (by omega) (fun M13 h13 => ?_)
    refine ya_trial d16 hA h13 s3 ht (by omega) (fun M14 h14 => ya_eq (by rw [e3, e4, trl_2s, trl_2s, t3, t4]) ?_)
    exact again (some (.int 0)) _ _ _ _ _ h14 (fun z => by obtain ⟨z1, z2⟩ := trl_01.mp z; exact z2 (e6 z1)) (fun _ z => absurd w0 z)
  · have w0 : trlV (jn 0) (rnA A (jn w) T 0 0) = jn 1 := trl_01.mpr ⟨by rw [e0], by rw [e0]; exact ho⟩
    have w3 : trlV (jn 0) (rnA A (jn (w + 3)) T 0 0) = jn 0 := by rw [e3, trl_0s]
    have w6 : trlV (jn 0) (rnA A (jn (w + 6)) T 0 0) = jn 0 := by rw [e6, trl_0s]
    have w4 : trlV (jn 0) (rnA A (jn (w + 4)) T 0 0) ≠ jn 1 := by
      rcases e4 with ⟨q4, e4, -⟩ | ⟨e4, e4'⟩
      · rw [e4, trl_0s]; decide
      · rw [trl_02.mpr ⟨e4, e4'⟩]; decide
    refine ya_ne (by rw [w0]; decide) (ya_ne (by rw [w3]; decide) (ya_ne w4 (ya_ne (fun z => ?_) (ya_eq w3 ?_))))
    · obtain ⟨v, z⟩ := trl_00.mp z
      rw [e5] at z
      cases z
    refine ya_trial d16 hA h8 s3 ht (by omega) (fun M9 h9 => ya_ne (by rw [w0]; decide) ?_)
    refine ya_size d14 hA h9 ht (fun M10 h10 => ya_eq (by rw [e3, trl_1s]) ?_)
    have fin : ∀ (l5 l6 : Option Value) (u7 : Option Value) (u4 : Option Value) M1, RX A M1 → Ya M1 (Sm A) (jn 1) (E_75 d (227, [some (.ref 0), some (.int (jn w)), some (.int (jn t)), some (.int (trlV (jn 0) (rnA A (jn w) T 0 0))), u4, l5, l6, u7], [], M1)) := fun l5 l6 u7 u4 M1 h1 => again (some (.int 0)) l5 l6 u7 u4 M1 h1 (by rw [w6]; decide) (fun _ _ => ⟨q6, e6, t6⟩)
    rw [h_75_173]
    simp only [jn_add]
    refine ya_eq w3 ?_
    rcases e4 with ⟨q4, e4, t4⟩ | ⟨e4, e4'⟩
    · refine ya_eq (by rw [e4, trl_0s]) ?_
      refine ya_trial d16 hA h10 s4 ht (by omega) (fun M11 h11 => ?_)
      refine ya_trial d16 hA h11 s3 ht (by omega) (fun M12 h12 => ya_eq (by rw [e3, e4, trl_1s, trl_1s]) ?_)
      refine ya_trial d16 hA h12 s4 ht (by omega) (fun M13 h13 => ?_)
      refine ya_trial d16 hA h13 s3 ht (by omega) (fun M14 h14 => ya_eq (by rw [e3, e4, trl_2s, trl_2s, t3, t4]) ?_)
      exact fin _ _ _ _ _ h14
    · refine ya_ne (by rw [trl_02.mpr ⟨e4, e4'⟩]; decide) ?_
      exact fin _ _ _ _ _ h10
end
