/-! RUNS AGAIN, by what comes behind; two runs beside each other -/
def bnd (o : RnR) (f : Tm → RnS → RnR) (g : RnS → RnR) : RnR := match o with
  | (some t, q) => f t q
  | (none, q) => g q
def noO (q : RnS) : RnR := (none, q)
def els (q : RnS) (o : RnR) : RnR := if q.2.2.2 = true then (none, q) else o
theorem all_bnd {R : Tm → Int64 → RnS → RnR} {n : Nat} {c : Int32} {u : Unit} {a b : Tm} {p : Int64} {q : RnS} : allC R (.inner n c u a b) p q = if is2 c then bnd (R a (pth p 1) q) (fun a' q1 => bnd (R b (pth p 2) q1) (fun b' q2 => chk (.inner n c u a' b') q2) noO) noO
    else if is1 c then bnd (R a (pth p 1) q) (fun a' q1 => chk (.inner n c u a' b) q1) noO else chk (.inner n c u a b) q := by
  rw [allC]
  split
  · cases R a (pth p 1) q with
    | mk x q1 => cases x with
      | none => rfl
      | some a' =>
        simp only [bnd]
        cases R b (pth p 2) q1 with
        | mk y q2 => cases y <;> rfl
  · split
    · cases R a (pth p 1) q with
      | mk x q1 => cases x <;> rfl
    · rfl
theorem one_bnd {R : Tm → Int64 → RnS → RnR} {n : Nat} {c : Int32} {u : Unit} {a b : Tm} {p : Int64} {q : RnS} : oneC R (.inner n c u a b) p q = if is2 c then bnd (R a (pth p 1) q) (fun a' q1 => chk (.inner n c u a' b) q1) (fun q1 => els q1 (bnd (R b (pth p 2) q1) (fun b' q2 => chk (.inner n c u a b') q2) noO))
    else if is1 c then bnd (R a (pth p 1) q) (fun a' q1 => chk (.inner n c u a' b) q1) noO else noO q := by
  rw [oneC]
  split
  · cases R a (pth p 1) q with
    | mk x q1 => cases x with
      | some a' => rfl
      | none =>
        simp only [bnd, els]
        split
        · rfl
        · cases R b (pth p 2) q1 with
          | mk y q2 => cases y <;> rfl
  · split
    · cases R a (pth p 1) q with
      | mk x q1 => cases x <;> rfl
    · rfl
theorem som_bnd {R : Tm → Int64 → RnS → RnR} {n : Nat} {c : Int32} {u : Unit} {a b : Tm} {p : Int64} {q : RnS} : somC R (.inner n c u a b) p q = if is2 c then bnd (R a (pth p 1) q) (fun a' q1 => bnd (R b (pth p 2) q1) (fun b' q2 => chk (.inner n c u a' b') q2) (fun q2 => els q2 (chk (.inner n c u a' b) q2))) (fun q1 => els q1 (bnd (R b (pth p 2) q1) (fun b' q2 => chk (.inner n c u a b') q2) noO))
    else if is1 c then bnd (R a (pth p 1) q) (fun a' q1 => chk (.inner n c u a' b) q1) noO else noO q := by
  rw [somC]
  split
  · cases R a (pth p 1) q with
    | mk x q1 => cases x with
      | some a' =>
        simp only [bnd, els]
        cases R b (pth p 2) q1 with
        | mk y q2 => cases y <;> rfl
      | none =>
        simp only [bnd, els]
        split
        · rfl
        · cases R b (pth p 2) q1 with
          | mk y q2 => cases y <;> rfl
  · split
    · cases R a (pth p 1) q with
      | mk x q1 => cases x <;> rfl
    · rfl
theorem rep_bnd {R : Tm → Int64 → RnS → RnR} {m : Nat} {t : Tm} {p : Int64} {q : RnS} : repC R (m + 1) t p q = bnd (R t p q) (fun t' q1 => repC R m t' p q1) (fun q1 => els q1 (some t, q1)) := by
  rw [repC]
  cases R t p q with
  | mk x q1 => cases x <;> rfl
theorem inn_bnd {R S : Tm → Int64 → RnS → RnR} {m : Nat} {t : Tm} {p : Int64} {q : RnS} : innC R S (m + 1) t p q = bnd (allC R t p q) (fun t1 q1 => bnd (S t1 p q1) (fun t2 q2 => if q2.1 = 600 then ovr q2 else innC R S m t2 p (bgn q2)) (fun q2 => els q2 (some t1, q2))) noO := by
  rw [innC]
  cases allC R t p q with
  | mk x q1 => cases x with
    | none => rfl
    | some t1 =>
      simp only [bnd]
      cases S t1 p q1 with
      | mk y q2 => cases y <;> rfl
/-- what a strategy of a kind does once begun, over what the others do -/
def bdy (g : Int32 → Nat × Int32 × Int32) (f : Int32 → Tm → Int64 → RnS → RnR) (R : Int32 → Tm → Int64 → RnS → RnR) (s : Int32) (k : Nat) (t : Tm) (p : Int64) (q : RnS) : RnR := match k with
    | 0 => f (g s).2.1 t p q
    | 1 => (some t, q)
    | 2 => (none, q)
    | 3 => bnd (R (g s).2.1 t p q) (fun t1 q1 => R (g s).2.2 t1 p q1) noO
    | 4 => bnd (R (g s).2.1 t p q) (fun t1 q1 => (some t1, q1)) (fun q1 => els q1 (R (g s).2.2 t p q1))
    | 5 => bnd (R (g s).2.1 t p q) (fun t1 q1 => (some t1, q1)) (fun q1 => els q1 (some t, q1))
    | 6 => allC (R (g s).2.1) t p q
    | 7 => oneC (R (g s).2.1) t p q
    | 8 => somC (R (g s).2.1) t p q
    | 9 => bnd (allC (R s) t p q) (fun t1 q1 => R (g s).2.1 t1 p q1) noO
    | 10 => bnd (R (g s).2.1 t p q) (fun t1 q1 => allC (R s) t1 p q1) noO
    | 11 => bnd (R (g s).2.1 t p q) (fun t1 q1 => (some t1, q1)) (fun q1 => els q1 (oneC (R s) t p q1))
    | 12 => innC (R s) (R (g s).2.1) 601 t p q
    | _ => repC (R (g s).2.1) 601 t p q
theorem bod_bdy {g : Int32 → Nat × Int32 × Int32} {f : Int32 → Tm → Int64 → RnS → RnR} {n : Nat} {s : Int32} {k : Nat} {t : Tm} {p : Int64} {q : RnS} : bodF g f n s k t p q = bdy g f (runF g f n) s k t p q := by
  match k with
  | 0 => rfl
  | 1 => rfl
  | 2 => rfl
  | 3 =>
    simp only [bodF, bdy]
    cases runF g f n (g s).2.1 t p q with
    | mk x q1 => cases x <;> rfl
  | 4 =>
    simp only [bodF, bdy]
    cases runF g f n (g s).2.1 t p q with
    | mk x q1 => cases x <;> rfl
  | 5 =>
    simp only [bodF, bdy]
    cases runF g f n (g s).2.1 t p q with
    | mk x q1 => cases x <;> rfl
  | 6 => rfl
  | 7 => rfl
  | 8 => rfl
  | 9 =>
    simp only [bodF, bdy]
    cases allC (runF g f n s) t p q with
    | mk x q1 => cases x <;> rfl
  | 10 =>
    simp only [bodF, bdy]
    cases runF g f n (g s).2.1 t p q with
    | mk x q1 => cases x <;> rfl
  | 11 =>
    simp only [bodF, bdy]
    cases runF g f n (g s).2.1 t p q with
    | mk x q1 => cases x <;> rfl
  | 12 => rfl
  | k + 13 => rfl
theorem run_bdy {g : Int32 → Nat × Int32 × Int32} {f : Int32 → Tm → Int64 → RnS → RnR} {n : Nat} {s : Int32} {t : Tm} {p : Int64} {q : RnS} : runF g f (n + 1) s t p q = if q.1 = 600 then ovr q else bck q (bdy g f (runF g f n) s (g s).1 t p (bgn q)) := by
  by_cases h : q.1 = 600
  · rw [runF_600 h, if_pos h]
  · rw [runF_succ h, if_neg h, bod_bdy]
/-! two runs beside each other: the numbers begun are told by J; where B the second may end -/
def SI (J : Nat → Nat → Prop) (q q' : RnS) : Prop := q'.2 = q.2 ∧ J q.1 q'.1
def SO (J : Nat → Nat → Prop) (B : Prop) (o o' : RnR) : Prop := (B ∧ o'.1 = none ∧ o'.2.2.2.2 = true) ∨ (o'.1 = o.1 ∧ SI J o.2 o'.2)
def SRr (J : Nat → Nat → Prop) (B : Prop) (R R' : Tm → Int64 → RnS → RnR) : Prop := ∀ t p q q', SI J q q' → SO J B (R t p q) (R' t p q')
def SJ (J : Nat → Nat → Prop) (B : Prop) : Prop := ∀ a b, J a b → (b = 600 ∧ B) ∨ (a = 600 ∧ b = 600) ∨ (a ≠ 600 ∧ b ≠ 600 ∧ J (a + 1) (b + 1))
section
variable {J : Nat → Nat → Prop} {B : Prop} {o o' : RnR} {q q' : RnS} {R R' S S' : Tm → Int64 → RnS → RnR} {g : Int32 → Nat × Int32 × Int32} {f : Int32 → Tm → Int64 → RnS → RnR} {t : Tm} {p : Int64}
theorem so_bnd {h h' : Tm → RnS → RnR} {k k' : RnS → RnR} (ho : SO J B o o') (hf : ∀ t q q', SI J q q' → SO J B (h t q) (h' t q')) (hg : ∀ q q', SI J q q' → SO J B (k q) (k' q')) (hb : ∀ q : RnS, q.2.2.2 = true → (k' q).1 = none ∧ (k' q).2.2.2.2 = true) : SO J B (bnd o h k) (bnd o' h' k') := by
  obtain ⟨x, q⟩ := o
  obtain ⟨x', q'⟩ := o'
  rcases ho with ⟨h0, h1, h2⟩ | ⟨h1, h2⟩
  · simp only at h1 h2
    subst h1
    exact Or.inl ⟨h0, hb q' h2⟩
  · simp only at h1 h2
    subst h1
    cases x' with
    | some t => exact hf t q q' h2
    | none => exact hg q q' h2
theorem si_ov (h : SI J q q') : SI J (ovr q).2 (ovr q').2 := ⟨by show (q'.2.1, q'.2.2.1, true) = (q.2.1, q.2.2.1, true); rw [h.1], h.2⟩
theorem so_ov (h : SI J q q') : SO J B (ovr q) (ovr q') := Or.inr ⟨rfl, si_ov h⟩
theorem so_no (h : SI J q q') : SO J B (noO q) (noO q') := Or.inr ⟨rfl, h⟩
theorem so_some (h : SI J q q') : SO J B (some t, q) (some t, q') := Or.inr ⟨rfl, h⟩
theorem no_ov (q : RnS) (h : q.2.2.2 = true) : (noO q).1 = none ∧ (noO q).2.2.2.2 = true := ⟨rfl, h⟩
theorem els_ov (q : RnS) (h : q.2.2.2 = true) : (els q o).1 = none ∧ (els q o).2.2.2.2 = true := by unfold els; rw [if_pos h]; exact ⟨rfl, h⟩
theorem so_els (hq : SI J q q') (h : SO J B o o') : SO J B (els q o) (els q' o') := by
  unfold els
  rw [show q'.2.2.2 = q.2.2.2 by rw [hq.1]]
  split
  · exact Or.inr ⟨rfl, hq⟩
  · exact h
theorem so_chk (h : SI J q q') : SO J B (chk t q) (chk t q') := by
  unfold chk
  split
  · exact so_ov h
  · exact so_some h
theorem so_bck (h : SI J q q') (ho : SO J B o o') : SO J B (bck q o) (bck q' o') := by
  obtain ⟨x, q1⟩ := o
  obtain ⟨x', q1'⟩ := o'
  rcases ho with ⟨h0, h1, h2⟩ | ⟨h1, h2⟩
  · simp only at h1 h2
    subst h1
    exact Or.inl ⟨h0, rfl, h2⟩
  · simp only at h1 h2
    subst h1
    cases x' with
    | some t => exact Or.inr ⟨rfl, h2⟩
    | none =>
      refine Or.inr ⟨rfl, ?_, h2.2⟩
      show (q1'.2.1, q'.2.2.1, q1'.2.2.2) = (q1.2.1, q.2.2.1, q1.2.2.2)
      rw [h2.1, h.1]
theorem sr_all (hR : SRr J B R R') : SRr J B (allC R) (allC R') := by
  intro t p q q' h
  cases t with
  | leaf => exact so_no h
  | inner n c u a b =>
    rw [all_bnd, all_bnd]
    split
    · exact so_bnd (hR _ _ _ _ h) (fun a' q1 q1' h1 => so_bnd (hR _ _ _ _ h1) (fun b' q2 q2' h2 => so_chk h2) (fun _ _ h2 => so_no h2) no_ov) (fun _ _ h2 => so_no h2) no_ov
    · split
      · exact so_bnd (hR _ _ _ _ h) (fun a' q1 q1' h1 => so_chk h1) (fun _ _ h2 => so_no h2) no_ov
      · exact so_chk h
theorem sr_one (hR : SRr J B R R') : SRr J B (oneC R) (oneC R') := by
  intro t p q q' h
  cases t with
  | leaf => exact so_no h
  | inner n c u a b =>
    rw [one_bnd, one_bnd]
    split
    · exact so_bnd (hR _ _ _ _ h) (fun a' q1 q1' h1 => so_chk h1) (fun q1 q1' h1 => so_els h1 (so_bnd (hR _ _ _ _ h1) (fun b' q2 q2' h2 => so_chk h2) (fun _ _ h2 => so_no h2) no_ov)) (fun q h => els_ov q h)
    · split
      · exact so_bnd (hR _ _ _ _ h) (fun a' q1 q1' h1 => so_chk h1) (fun _ _ h2 => so_no h2) no_ov
      · exact so_no h
theorem sr_som (hR : SRr J B R R') : SRr J B (somC R) (somC R') := by
  intro t p q q' h
  cases t with
  | leaf => exact so_no h
  | inner n c u a b =>
    rw [som_bnd, som_bnd]
    split
    · exact so_bnd (hR _ _ _ _ h) (fun a' q1 q1' h1 => so_bnd (hR _ _ _ _ h1) (fun b' q2 q2' h2 => so_chk h2) (fun q2 q2' h2 => so_els h2 (so_chk h2)) (fun q h => els_ov q h)) (fun q1 q1' h1 => so_els h1 (so_bnd (hR _ _ _ _ h1) (fun b' q2 q2' h2 => so_chk h2) (fun _ _ h2 => so_no h2) no_ov)) (fun q h => els_ov q h)
    · split
      · exact so_bnd (hR _ _ _ _ h) (fun a' q1 q1' h1 => so_chk h1) (fun _ _ h2 => so_no h2) no_ov
      · exact so_no h
theorem sr_rep (hR : SRr J B R R') : ∀ m, SRr J B (repC R m) (repC R' m) := by
  intro m
  induction m with
  | zero => intro t p q q' h; exact so_ov h
  | succ m ih =>
    intro t p q q' h
    rw [rep_bnd, rep_bnd]
    exact so_bnd (hR _ _ _ _ h) (fun t' q1 q1' h1 => ih _ _ _ _ h1) (fun q1 q1' h1 => so_els h1 (so_some h1)) (fun q h => els_ov q h)
theorem sr_inn (hJ : SJ J B) (hR : SRr J B R R') (hS : SRr J B S S') : ∀ m, SRr J B (innC R S m) (innC R' S' m) := by
  intro m
  induction m with
  | zero => intro t p q q' h; exact so_ov h
  | succ m ih =>
    intro t p q q' h
    rw [inn_bnd, inn_bnd]
    refine so_bnd (sr_all hR _ _ _ _ h) (fun t1 q1 q1' h1 => so_bnd (hS _ _ _ _ h1) (fun t2 q2 q2' h2 => ?_) (fun q2 q2' h2 => so_els h2 (so_some h2)) (fun q h => els_ov q h)) (fun _ _ h2 => so_no h2) no_ov
    rcases hJ _ _ h2.2 with ⟨e, hB⟩ | ⟨e1, e2⟩ | ⟨e1, e2, e3⟩
    · rw [if_pos e]
      exact Or.inl ⟨hB, rfl, rfl⟩
    · rw [if_pos e1, if_pos e2]
      exact so_ov h2
    · rw [if_neg e1, if_neg e2]
      exact ih _ _ _ _ ⟨h2.1, e3⟩
theorem sr_bdy {P P' : Int32 → Tm → Int64 → RnS → RnR} (hJ : SJ J B) (hf : ∀ r, SRr J B (f r) (f r)) (hP : ∀ s, SRr J B (P s) (P' s)) (s : Int32) (k : Nat) : SRr J B (bdy g f P s k) (bdy g f P' s k) := by
  intro t p q q' h
  unfold bdy
  split
  · exact hf _ _ _ _ _ h
  · exact so_some h
  · exact so_no h
  · exact so_bnd (hP _ _ _ _ _ h) (fun t1 q1 q1' h1 => hP _ _ _ _ _ h1) (fun _ _ h2 => so_no h2) no_ov
  · exact so_bnd (hP _ _ _ _ _ h) (fun t1 q1 q1' h1 => so_some h1) (fun q1 q1' h1 => so_els h1 (hP _ _ _ _ _ h1)) (fun q h => els_ov q h)
  · exact so_bnd (hP _ _ _ _ _ h) (fun t1 q1 q1' h1 => so_some h1) (fun q1 q1' h1 => so_els h1 (so_some h1)) (fun q h => els_ov q h)
  · exact sr_all (hP _) _ _ _ _ h
  · exact sr_one (hP _) _ _ _ _ h
  · exact sr_som (hP _) _ _ _ _ h
  · exact so_bnd (sr_all (hP _) _ _ _ _ h) (fun t1 q1 q1' h1 => hP _ _ _ _ _ h1) (fun _ _ h2 => so_no h2) no_ov
  · exact so_bnd (hP _ _ _ _ _ h) (fun t1 q1 q1' h1 => sr_all (hP _) _ _ _ _ h1) (fun _ _ h2 => so_no h2) no_ov
  · exact so_bnd (hP _ _ _ _ _ h) (fun t1 q1 q1' h1 => so_some h1) (fun q1 q1' h1 => so_els h1 (sr_one (hP _) _ _ _ _ h1)) (fun q h => els_ov q h)
  · exact sr_inn hJ (hP _) (hP _) _ _ _ _ _ h
  · exact sr_rep (hP _) _ _ _ _ _ h
/-- one step of both -/
theorem sr_run {n n' : Nat} (hJ : SJ J B) (hf : ∀ r, SRr J B (f r) (f r)) (hP : ∀ s, SRr J B (runF g f n s) (runF g f n' s)) (s : Int32) : SRr J B (runF g f (n + 1) s) (runF g f (n' + 1) s) := by
  intro t p q q' h
  rw [run_bdy, run_bdy]
  rcases hJ _ _ h.2 with ⟨e, hB⟩ | ⟨e1, e2⟩ | ⟨e1, e2, e3⟩
  · rw [if_pos e]
    exact Or.inl ⟨hB, rfl, rfl⟩
  · rw [if_pos e1, if_pos e2]
    exact so_ov h
  · rw [if_neg e1, if_neg e2]
    exact so_bck h (sr_bdy hJ hf hP s _ _ _ _ _ ⟨h.1, e3⟩)
theorem sr_rul {cm : Nat} {rl : Tm × Tm} {r : Nat} : SRr J B (rulC cm rl r) (rulC cm rl r) := by
  intro t p q q' h
  unfold rulC
  split
  · exact so_no h
  · rw [show q'.2.1 = q.2.1 by rw [h.1]]
    split
    · exact so_ov h
    · split
      · exact so_ov h
      · refine Or.inr ⟨rfl, ?_, h.2⟩
        show (q.2.1 + 1, q'.2.2.1 ++ [(r, p)], q'.2.2.2) = (q.2.1 + 1, q.2.2.1 ++ [(r, p)], q.2.2.2)
        rw [h.1]
end
/-- a run that begins one later: it ends, or comes to the same -/
abbrev Jw1 (a b : Nat) : Prop := b = a + 1 ∧ a ≤ 599
theorem sj_1 : SJ Jw1 True := by
  rintro a b ⟨rfl, h⟩
  by_cases e : a + 1 = 600
  · exact Or.inl ⟨e, trivial⟩
  · exact Or.inr (Or.inr ⟨by omega, e, rfl, by omega⟩)
theorem run_later {A : AT} : ∀ n s, SRr Jw1 True (runF (gM A) (fM A) n s) (runF (gM A) (fM A) n s) := by
  intro n
  induction n with
  | zero => intro s t p q q' h; exact so_ov h
  | succ n ih => exact fun s => sr_run sj_1 (fun r => sr_rul) ih s
/-- more room for a run that has enough changes nothing -/
abbrev Jw0 (lo a b : Nat) : Prop := a = b ∧ lo ≤ a ∧ a ≤ 600
theorem sj_0 (lo : Nat) : SJ (Jw0 lo) False := by
  rintro a b ⟨rfl, h1, h2⟩
  by_cases e : a = 600
  · exact Or.inr (Or.inl ⟨e, e⟩)
  · exact Or.inr (Or.inr ⟨e, e, rfl, by omega, by omega⟩)
theorem SO.lo {lo lo' : Nat} {o o' : RnR} (h : SO (Jw0 lo) False o o') (hl : lo' ≤ lo) : SO (Jw0 lo') False o o' := by
  rcases h with ⟨h0, -⟩ | ⟨h1, h2, h3, h4, h5⟩
  · exact h0.elim
  · exact Or.inr ⟨h1, h2, h3, by omega, h5⟩
theorem run_more {A : AT} : ∀ n s lo, 601 ≤ n + lo → SRr (Jw0 lo) False (runF (gM A) (fM A) n s) (runF (gM A) (fM A) (n + 1) s) := by
  intro n
  induction n with
  | zero =>
    intro s lo hn t p q q' h
    obtain ⟨-, -, h1, h2⟩ := h
    omega
  | succ n ih =>
    intro s lo hn t p q q' h
    rw [run_bdy, run_bdy]
    rcases sj_0 lo _ _ h.2 with ⟨-, hB⟩ | ⟨e1, e2⟩ | ⟨e1, e2, e3⟩
    · exact hB.elim
    · rw [if_pos e1, if_pos e2]
      exact so_ov h
    · rw [if_neg e1, if_neg e2]
      have hq : SI (Jw0 (lo + 1)) (bgn q) (bgn q') := ⟨h.1, by obtain ⟨-, k1, k2, k3⟩ := h; exact ⟨by show q.1 + 1 = q'.1 + 1; omega, by show lo + 1 ≤ q.1 + 1; omega, e3.2.2⟩⟩
      exact so_bck h ((sr_bdy (sj_0 (lo + 1)) (fun r => sr_rul) (fun s => ih s (lo + 1) (by omega)) s _ _ _ _ _ hq).lo (by omega))
theorem run_601 {A : AT} {s : Int32} {t : Tm} {p : Int64} {q : RnS} (h1 : 1 ≤ q.1) (h2 : q.1 ≤ 600) : runF (gM A) (fM A) 600 s t p q = runF (gM A) (fM A) 601 s t p q := by
  rcases run_more (A := A) 600 s 1 (by omega) t p q q ⟨rfl, rfl, h1, h2⟩ with ⟨h, -⟩ | ⟨h, k1, k2, -⟩
  · exact h.elim
  · exact (Prod.ext h (Prod.ext k2.symm k1)).symm
