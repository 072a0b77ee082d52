/-! A TRACE replays to the result (or the whole is too large on the way) -/
def rpl (A : AT) : List (Nat × Int64) → Tm → Nat × Tm
  | [], t => (0, t)
  | x :: l, t => if (rpO A x.1 x.2 t).1 = 0 then rpl A l (rpO A x.1 x.2 t).2 else rpO A x.1 x.2 t
theorem rpl_app {A : AT} : ∀ (l l' : List (Nat × Int64)) (t : Tm), rpl A (l ++ l') t = if (rpl A l t).1 = 0 then rpl A l' (rpl A l t).2 else rpl A l t := by
  intro l
  induction l with
  | nil => intro l' t; rw [List.nil_append, rpl]; simp
  | cons x l ih =>
    intro l' t
    rw [List.cons_append, rpl, rpl]
    split
    · exact ih _ _
    · rfl
theorem rpl_rpF {A : AT} : ∀ m k t, k + m ≤ A.2.2.1.length → rpF A m k t = rpl A ((A.2.2.1.drop k).take m) t := by
  intro m
  induction m with
  | zero => intro k t _; rw [List.take_zero]; rfl
  | succ m ih =>
    intro k t h
    have hk : k < A.2.2.1.length := by omega
    rw [List.drop_eq_getElem_cons hk, List.take_succ_cons, rpF, rpl]
    have e : A.2.2.1.getD k (0, 0) = A.2.2.1[k] := by rw [List.getD_eq_getElem?_getD, List.getElem?_eq_getElem hk]; rfl
    rw [e]
    split
    · exact ih _ _ (by omega)
    · rfl
theorem rpO_eq {A A' : AT} (h1 : rsA A' = rsA A) (h2 : cmA A' = cmA A) (r : Nat) (p : Int64) (t : Tm) : rpO A' r p t = rpO A r p t := by
  unfold rpO
  rw [h1, h2]
theorem rpl_eq {A A' : AT} (h1 : rsA A' = rsA A) (h2 : cmA A' = cmA A) : ∀ l t, rpl A' l t = rpl A l t := by
  intro l
  induction l with
  | nil => intro t; rfl
  | cons x l ih => intro t; rw [rpl, rpl, rpO_eq h1 h2, ih]
/-- what a list of rewritings makes of a node with its path -/
def Rpt (A : AT) (l : List (Nat × Int64)) (t : Tm) (p : Int64) (u : Tm) : Prop := ∀ (W : Tm) (i : Nat), wf W → sz W ≤ 40 → i < sz W → sub W i = t → paT W i = p → (rpl A l W).1 = 7 ∨ rpl A l W = (0, rep W i u) ∧ sz (rep W i u) ≤ 40
section
variable {A : AT} {l l' : List (Nat × Int64)} {t u v a b a' b' : Tm} {p : Int64} {c : Int32} {q q1 q2 q' : RnS} {R S : Tm → Int64 → RnS → RnR}
theorem Rpt.nil : Rpt A [] t p t := by
  intro W i hW hs hi ht hp
  refine Or.inr ?_
  rw [← ht, rep_self hW hi]
  exact ⟨rfl, hs⟩
theorem Rpt.trans (h : Rpt A l t p u) (h' : Rpt A l' u p v) (hu : wf u) (hv : wf v) : Rpt A (l ++ l') t p v := by
  intro W i hW hs hi ht hp
  rw [rpl_app]
  rcases h W i hW hs hi ht hp with e | ⟨e, e2⟩
  · rw [if_neg (by rw [e]; decide)]
    exact Or.inl e
  · rw [e]
    rw [if_pos rfl]
    have := h' (rep W i u) i (rep_wf hW hi hu) e2 (rep_lt hW hi hu) (sub_rep hW hi hu) (by rw [pa_rep hW hi hu]; exact hp)
    rw [rep_rep hW hi hu hv] at this
    exact this
theorem Rpt.c1 (h : Rpt A l a (pth p 1) a') (ha : wf a) (ha' : wf a') : Rpt A l (Nd c a b) p (Nd c a' b) := by
  intro W i hW hs hi ht hp
  have := h W (i + 1) hW hs (n1_lt hW hi ht ha) (sub_c1 hW hi ht ha) (by rw [pa_c1 hi ht ha, hp])
  rw [rep_c1 hW hi ht ha ha'] at this
  exact this
theorem Rpt.c2 (h : Rpt A l b (pth p 2) b') (hb : wf b) (hb' : wf b') : Rpt A l (Nd c a b) p (Nd c a b') := by
  intro W i hW hs hi ht hp
  have := h W (i + 1 + sz a) hW hs (n2_lt hW hi ht hb) (sub_c2 hW hi ht hb) (by rw [pa_c2 hi ht hb, hp])
  rw [rep_c2 hW hi ht hb hb'] at this
  exact this
/-- a run that makes something has told what it did -/
def RPl (A : AT) (R : Tm → Int64 → RnS → RnR) : Prop := ∀ (t : Tm) (p : Int64) (q : RnS) (u : Tm) (q' : RnS), wf t → sz t ≤ 40 → QOk q → R t p q = (some u, q') → ∃ l, q'.2.2.1 = q.2.2.1 ++ l ∧ Rpt A l t p u
theorem chk_inv (h : chk t q = (some u, q')) : u = t ∧ q' = q := by
  unfold chk at h
  split at h
  · cases h
  · cases h; exact ⟨rfl, rfl⟩
theorem els_inv {o : RnR} (h : els q o = (some u, q')) : ¬ q.2.2.2 = true ∧ o = (some u, q') := by
  unfold els at h
  split at h
  · cases h
  · rename_i h2; exact ⟨h2, h⟩
theorem no_inv (h : noO q = (some u, q')) : False := by cases h
theorem ROk.tr (h : ROk True 1 t q (none, q1)) (ho : ¬ q1.2.2.2 = true) : q1.2.2.1 = q.2.2.1 := by
  rcases h with h | ⟨-, -, -, tr, h1, h2⟩
  · exact absurd h ho
  · rw [h1, h2 trivial, List.append_nil]
theorem rp_all (h : RFun True 1 R) (hp : RPl A R) : RPl A (allC R) := by
  intro t p q u q' ht hs hq e
  obtain ⟨c, a, b, rfl, -⟩ := wf_cases ht
  obtain ⟨w2, w1, w0⟩ := wf_a ht
  have hz := sz_n c a b
  rw [all_bnd] at e
  by_cases hc : is2 c
  · rw [if_pos hc] at e
    obtain ⟨ha, hb⟩ := w2 hc
    cases e1 : R a (pth p 1) q with
    | mk x q1 =>
      rw [e1] at e
      cases x with
      | none => exact (no_inv e).elim
      | some a' =>
        obtain ⟨g1, g2, g3, -⟩ := h.some ha (by omega) hq e1
        obtain ⟨l1, k1, k2⟩ := hp _ _ _ _ _ ha (by omega) hq e1
        simp only [bnd] at e
        cases e2 : R b (pth p 2) q1 with
        | mk y q2 =>
          rw [e2] at e
          cases y with
          | none => exact (no_inv e).elim
          | some b' =>
            obtain ⟨f1, f2, f3, -⟩ := h.some hb (by omega) g3 e2
            obtain ⟨l2, k3, k4⟩ := hp _ _ _ _ _ hb (by omega) g3 e2
            obtain ⟨rfl, rfl⟩ := chk_inv e
            refine ⟨l1 ++ l2, by rw [k3, k1, List.append_assoc], ?_⟩
            exact (k2.c1 ha g1).trans (k4.c2 hb f1) (wf_2 hc g1 hb) (wf_2 hc g1 f1)
  · rw [if_neg hc] at e
    by_cases hc1 : is1 c
    · rw [if_pos hc1] at e
      obtain ⟨ha, rfl⟩ := w1 hc hc1
      cases e1 : R a (pth p 1) q with
      | mk x q1 =>
        rw [e1] at e
        cases x with
        | none => exact (no_inv e).elim
        | some a' =>
          obtain ⟨g1, g2, g3, -⟩ := h.some ha (by omega) hq e1
          obtain ⟨l1, k1, k2⟩ := hp _ _ _ _ _ ha (by omega) hq e1
          obtain ⟨rfl, rfl⟩ := chk_inv e
          exact ⟨l1, k1, k2.c1 ha g1⟩
    · rw [if_neg hc1] at e
      obtain ⟨rfl, rfl⟩ := chk_inv e
      exact ⟨[], by rw [List.append_nil], Rpt.nil⟩
theorem rp_one (h : RFun True 1 R) (hp : RPl A R) : RPl A (oneC R) := by
  intro t p q u q' ht hs hq e
  obtain ⟨c, a, b, rfl, -⟩ := wf_cases ht
  obtain ⟨w2, w1, w0⟩ := wf_a ht
  have hz := sz_n c a b
  rw [one_bnd] at e
  by_cases hc : is2 c
  · rw [if_pos hc] at e
    obtain ⟨ha, hb⟩ := w2 hc
    cases e1 : R a (pth p 1) q with
    | mk x q1 =>
      rw [e1] at e
      cases x with
      | some a' =>
        obtain ⟨g1, g2, g3, -⟩ := h.some ha (by omega) hq e1
        obtain ⟨l1, k1, k2⟩ := hp _ _ _ _ _ ha (by omega) hq e1
        obtain ⟨rfl, rfl⟩ := chk_inv e
        exact ⟨l1, k1, k2.c1 ha g1⟩
      | none =>
        have r1 := h.none ha (by omega) hq e1
        obtain ⟨ho, e⟩ := els_inv e
        have g3 := r1.q1 ho
        cases e2 : R b (pth p 2) q1 with
        | mk y q2 =>
          rw [e2] at e
          cases y with
          | none => exact (no_inv e).elim
          | some b' =>
            obtain ⟨f1, f2, f3, -⟩ := h.some hb (by omega) g3 e2
            obtain ⟨l2, k3, k4⟩ := hp _ _ _ _ _ hb (by omega) g3 e2
            obtain ⟨rfl, rfl⟩ := chk_inv e
            exact ⟨l2, by rw [k3, r1.tr ho], k4.c2 hb f1⟩
  · rw [if_neg hc] at e
    by_cases hc1 : is1 c
    · rw [if_pos hc1] at e
      obtain ⟨ha, rfl⟩ := w1 hc hc1
      cases e1 : R a (pth p 1) q with
      | mk x q1 =>
        rw [e1] at e
        cases x with
        | none => exact (no_inv e).elim
        | some a' =>
          obtain ⟨g1, g2, g3, -⟩ := h.some ha (by omega) hq e1
          obtain ⟨l1, k1, k2⟩ := hp _ _ _ _ _ ha (by omega) hq e1
          obtain ⟨rfl, rfl⟩ := chk_inv e
          exact ⟨l1, k1, k2.c1 ha g1⟩
    · rw [if_neg hc1] at e
      exact (no_inv e).elim
theorem rp_som (h : RFun True 1 R) (hp : RPl A R) : RPl A (somC R) := by
  intro t p q u q' ht hs hq e
  obtain ⟨c, a, b, rfl, -⟩ := wf_cases ht
  obtain ⟨w2, w1, w0⟩ := wf_a ht
  have hz := sz_n c a b
  rw [som_bnd] at e
  by_cases hc : is2 c
  · rw [if_pos hc] at e
    obtain ⟨ha, hb⟩ := w2 hc
    cases e1 : R a (pth p 1) q with
    | mk x q1 =>
      rw [e1] at e
      cases x with
      | some a' =>
        obtain ⟨g1, g2, g3, -⟩ := h.some ha (by omega) hq e1
        obtain ⟨l1, k1, k2⟩ := hp _ _ _ _ _ ha (by omega) hq e1
        simp only [bnd] at e
        cases e2 : R b (pth p 2) q1 with
        | mk y q2 =>
          rw [e2] at e
          cases y with
          | some b' =>
            obtain ⟨f1, f2, f3, -⟩ := h.some hb (by omega) g3 e2
            obtain ⟨l2, k3, k4⟩ := hp _ _ _ _ _ hb (by omega) g3 e2
            obtain ⟨rfl, rfl⟩ := chk_inv e
            refine ⟨l1 ++ l2, by rw [k3, k1, List.append_assoc], ?_⟩
            exact (k2.c1 ha g1).trans (k4.c2 hb f1) (wf_2 hc g1 hb) (wf_2 hc g1 f1)
          | none =>
            have r2 := h.none hb (by omega) g3 e2
            obtain ⟨ho, e⟩ := els_inv e
            obtain ⟨rfl, rfl⟩ := chk_inv e
            exact ⟨l1, by rw [r2.tr ho, k1], k2.c1 ha g1⟩
      | none =>
        have r1 := h.none ha (by omega) hq e1
        obtain ⟨ho, e⟩ := els_inv e
        have g3 := r1.q1 ho
        cases e2 : R b (pth p 2) q1 with
        | mk y q2 =>
          rw [e2] at e
          cases y with
          | none => exact (no_inv e).elim
          | some b' =>
            obtain ⟨f1, f2, f3, -⟩ := h.some hb (by omega) g3 e2
            obtain ⟨l2, k3, k4⟩ := hp _ _ _ _ _ hb (by omega) g3 e2
            obtain ⟨rfl, rfl⟩ := chk_inv e
            exact ⟨l2, by rw [k3, r1.tr ho], k4.c2 hb f1⟩
  · rw [if_neg hc] at e
    by_cases hc1 : is1 c
    · rw [if_pos hc1] at e
      obtain ⟨ha, rfl⟩ := w1 hc hc1
      cases e1 : R a (pth p 1) q with
      | mk x q1 =>
        rw [e1] at e
        cases x with
        | none => exact (no_inv e).elim
        | some a' =>
          obtain ⟨g1, g2, g3, -⟩ := h.some ha (by omega) hq e1
          obtain ⟨l1, k1, k2⟩ := hp _ _ _ _ _ ha (by omega) hq e1
          obtain ⟨rfl, rfl⟩ := chk_inv e
          exact ⟨l1, k1, k2.c1 ha g1⟩
    · rw [if_neg hc1] at e
      exact (no_inv e).elim
theorem rp_rep (h : RFun True 1 R) (hp : RPl A R) : ∀ m, RPl A (repC R m) := by
  intro m
  induction m with
  | zero => intro t p q u q' ht hs hq e; cases e
  | succ m ih =>
    intro t p q u q' ht hs hq e
    rw [rep_bnd] at e
    cases e1 : R t p q with
    | mk x q1 =>
      rw [e1] at e
      cases x with
      | some t1 =>
        obtain ⟨g1, g2, g3, -⟩ := h.some ht hs hq e1
        obtain ⟨l1, k1, k2⟩ := hp _ _ _ _ _ ht hs hq e1
        simp only [bnd] at e
        obtain ⟨l2, k3, k4⟩ := ih _ _ _ _ _ g1 g2 g3 e
        have g4 := repC_ok h m t1 p q1 g1 g2 g3
        rw [e] at g4
        exact ⟨l1 ++ l2, by rw [k3, k1, List.append_assoc], k2.trans k4 g1 g4.1⟩
      | none =>
        have r1 := h.none ht hs hq e1
        obtain ⟨ho, e⟩ := els_inv e
        cases e
        exact ⟨[], by rw [r1.tr ho, List.append_nil], Rpt.nil⟩
theorem rp_inn (h : RFun True 1 R) (hp : RPl A R) (hS : RFun True 1 S) (hpS : RPl A S) : ∀ m, RPl A (innC R S m) := by
  intro m
  induction m with
  | zero => intro t p q u q' ht hs hq e; cases e
  | succ m ih =>
    intro t p q u q' ht hs hq e
    rw [inn_bnd] at e
    cases e1 : allC R t p q with
    | mk x q1 =>
      rw [e1] at e
      cases x with
      | none => exact (no_inv e).elim
      | some t1 =>
        have r1 := allC_ok h t p q ht hs hq
        rw [e1] at r1
        obtain ⟨g1, g2, g3, -⟩ := r1
        obtain ⟨l1, k1, k2⟩ := rp_all h hp _ _ _ _ _ ht hs hq e1
        simp only [bnd] at e
        cases e2 : S t1 p q1 with
        | mk y q2 =>
          rw [e2] at e
          cases y with
          | none =>
            have r2 := hS.none g1 g2 g3 e2
            obtain ⟨ho, e⟩ := els_inv e
            cases e
            exact ⟨l1, by rw [r2.tr ho, k1], k2⟩
          | some t2 =>
            obtain ⟨f1, f2, f3, -⟩ := hS.some g1 g2 g3 e2
            obtain ⟨l2, k3, k4⟩ := hpS _ _ _ _ _ g1 g2 g3 e2
            simp only at e
            split at e
            · cases e
            · rename_i h6
              have f4 : QOk (bgn q2) := ⟨by show q2.1 + 1 ≤ 600; have := f3.1; omega, f3.2⟩
              obtain ⟨l3, k5, k6⟩ := ih _ _ _ _ _ f1 f2 f4 e
              have g4 := innC_ok h hS m t2 p (bgn q2) f1 f2 f4
              rw [e] at g4
              refine ⟨l1 ++ l2 ++ l3, ?_, (k2.trans k4 g1 f1).trans k6 f1 g4.1⟩
              rw [k5]
              show q2.2.2.1 ++ l3 = _
              simp only [k3, k1, List.append_assoc]
theorem rp_rul {rl : Tm × Tm} {r : Nat} (hA : AOk A) (hr : (rsA A)[r]? = some rl) : RPl A (rulC (cmA A) rl r) := by
  intro t p q u q' ht hs hq e
  have hrl := hA.1.2.1.2 rl (List.mem_of_getElem? hr)
  unfold rulC at e
  split at e
  · cases e
  · rename_i E hm
    split at e
    · cases e
    · split at e
      · cases e
      · rename_i h40
        cases e
        refine ⟨[(r, p)], rfl, ?_⟩
        intro W i hW hsW hi hsub hpa
        have hl : r < (rsA A).length := (List.getElem?_eq_some_iff.mp hr).1
        have hg : (rsA A).getD r (Lf, Lf) = rl := by rw [List.getD_eq_getElem?_getD, hr]; rfl
        have e0 : rpO A r p W = rwt (cmA A) rl W i := by unfold rpO; rw [fst_at hsW hi hpa]; simp only; rw [if_pos hl, hg]
        have e1 : rpl A [(r, p)] W = rpO A r p W := by
          rw [rpl]
          split
          · rename_i h0; rw [rpl]; exact Prod.ext h0.symm rfl
          · rfl
        rw [e1, e0]
        unfold rwt
        rw [hsub, hm]
        simp only
        split
        · exact Or.inl rfl
        · rename_i h7
          refine Or.inr ⟨rfl, ?_⟩
          rw [rep_sz hW hi, hsub]
          omega
end
theorem rp_run {A : AT} {V : Int32 → Prop} (hA : AOk A) (hg : GOk V (okR A) (gM A)) : ∀ n s, V s → RPl A (runF (gM A) (fM A) n s) := by
  have hF := runF_ok hg (fM_ok hA)
  have hf : ∀ r, okR A r → RPl A (fM A r) := by
    rintro r ⟨k, hk, rfl⟩
    have h12 : (rsA A).length ≤ 12 := hA.1.2.1.1
    unfold fM
    rw [jnN (by omega)]
    refine rp_rul hA ?_
    rw [List.getD_eq_getElem?_getD, List.getElem?_eq_getElem hk]; rfl
  intro n
  induction n with
  | zero => intro s hs t p q u q' _ _ _ e; cases e
  | succ n ih =>
    intro s hV t p q u q' ht hs hq e
    obtain ⟨v0, v1, v2⟩ := hg s hV
    rw [run_bdy] at e
    split at e
    · cases e
    rename_i h6
    have hq1 : QOk (bgn q) := ⟨by show q.1 + 1 ≤ 600; have := hq.1; omega, hq.2⟩
    cases eb : bdy (gM A) (fM A) (runF (gM A) (fM A) n) s (gM A s).1 t p (bgn q) with
    | mk x qx =>
      rw [eb] at e
      cases x with
      | none => cases e
      | some u' =>
        have e : (some u', qx) = (some u, q') := e
        cases e
        suffices h : ∃ l, q'.2.2.1 = (bgn q).2.2.1 ++ l ∧ Rpt A l t p u from h
        unfold bdy at eb
        split at eb
        · rename_i hk; exact hf _ (v0 hk) _ _ _ _ _ ht hs hq1 eb
        · cases eb; exact ⟨[], by rw [List.append_nil], Rpt.nil⟩
        · cases eb
        · rename_i hk
          cases e1 : runF (gM A) (fM A) n (gM A s).2.1 t p (bgn q) with
          | mk x1 q1 =>
            rw [e1] at eb
            cases x1 with
            | none => exact (no_inv eb).elim
            | some t1 =>
              have w1 := v1 (by omega)
              obtain ⟨g1, g2, g3, -⟩ := (hF n _ w1).some ht hs hq1 e1
              obtain ⟨l1, k1, k2⟩ := ih _ w1 _ _ _ _ _ ht hs hq1 e1
              simp only [bnd] at eb
              have w2 := v2 (Or.inl hk)
              obtain ⟨f1, -⟩ := (hF n _ w2).some g1 g2 g3 eb
              obtain ⟨l2, k3, k4⟩ := ih _ w2 _ _ _ _ _ g1 g2 g3 eb
              exact ⟨l1 ++ l2, by rw [k3, k1, List.append_assoc], k2.trans k4 g1 f1⟩
        · rename_i hk
          cases e1 : runF (gM A) (fM A) n (gM A s).2.1 t p (bgn q) with
          | mk x1 q1 =>
            rw [e1] at eb
            have w1 := v1 (by omega)
            cases x1 with
            | some t1 => cases eb; exact ih _ w1 _ _ _ _ _ ht hs hq1 e1
            | none =>
              have r1 := (hF n _ w1).none ht hs hq1 e1
              obtain ⟨ho, eb⟩ := els_inv eb
              obtain ⟨l2, k3, k4⟩ := ih _ (v2 (Or.inr hk)) _ _ _ _ _ ht hs (r1.q1 ho) eb
              exact ⟨l2, by rw [k3, r1.tr ho], k4⟩
        · rename_i hk
          cases e1 : runF (gM A) (fM A) n (gM A s).2.1 t p (bgn q) with
          | mk x1 q1 =>
            rw [e1] at eb
            have w1 := v1 (by omega)
            cases x1 with
            | some t1 => cases eb; exact ih _ w1 _ _ _ _ _ ht hs hq1 e1
            | none =>
              have r1 := (hF n _ w1).none ht hs hq1 e1
              obtain ⟨ho, eb⟩ := els_inv eb
              cases eb
              exact ⟨[], by rw [r1.tr ho, List.append_nil], Rpt.nil⟩
        · rename_i hk; exact rp_all (hF n _ (v1 (by omega))) (ih _ (v1 (by omega))) _ _ _ _ _ ht hs hq1 eb
        · rename_i hk; exact rp_one (hF n _ (v1 (by omega))) (ih _ (v1 (by omega))) _ _ _ _ _ ht hs hq1 eb
        · rename_i hk; exact rp_som (hF n _ (v1 (by omega))) (ih _ (v1 (by omega))) _ _ _ _ _ ht hs hq1 eb
        · rename_i hk
          cases e1 : allC (runF (gM A) (fM A) n s) t p (bgn q) with
          | mk x1 q1 =>
            rw [e1] at eb
            cases x1 with
            | none => exact (no_inv eb).elim
            | some t1 =>
              have r1 := allC_ok (hF n _ hV) t p (bgn q) ht hs hq1
              rw [e1] at r1
              obtain ⟨g1, g2, g3, -⟩ := r1
              obtain ⟨l1, k1, k2⟩ := rp_all (hF n _ hV) (ih _ hV) _ _ _ _ _ ht hs hq1 e1
              simp only [bnd] at eb
              have w2 := v1 (by omega)
              obtain ⟨f1, -⟩ := (hF n _ w2).some g1 g2 g3 eb
              obtain ⟨l2, k3, k4⟩ := ih _ w2 _ _ _ _ _ g1 g2 g3 eb
              exact ⟨l1 ++ l2, by rw [k3, k1, List.append_assoc], k2.trans k4 g1 f1⟩
        · rename_i hk
          cases e1 : runF (gM A) (fM A) n (gM A s).2.1 t p (bgn q) with
          | mk x1 q1 =>
            rw [e1] at eb
            cases x1 with
            | none => exact (no_inv eb).elim
            | some t1 =>
              have w1 := v1 (by omega)
              obtain ⟨g1, g2, g3, -⟩ := (hF n _ w1).some ht hs hq1 e1
              obtain ⟨l1, k1, k2⟩ := ih _ w1 _ _ _ _ _ ht hs hq1 e1
              simp only [bnd] at eb
              have r2 := allC_ok (hF n _ hV) t1 p q1 g1 g2 g3
              rw [eb] at r2
              obtain ⟨l2, k3, k4⟩ := rp_all (hF n _ hV) (ih _ hV) _ _ _ _ _ g1 g2 g3 eb
              exact ⟨l1 ++ l2, by rw [k3, k1, List.append_assoc], k2.trans k4 g1 r2.1⟩
        · rename_i hk
          cases e1 : runF (gM A) (fM A) n (gM A s).2.1 t p (bgn q) with
          | mk x1 q1 =>
            rw [e1] at eb
            have w1 := v1 (by omega)
            cases x1 with
            | some t1 => cases eb; exact ih _ w1 _ _ _ _ _ ht hs hq1 e1
            | none =>
              have r1 := (hF n _ w1).none ht hs hq1 e1
              obtain ⟨ho, eb⟩ := els_inv eb
              obtain ⟨l2, k3, k4⟩ := rp_one (hF n _ hV) (ih _ hV) _ _ _ _ _ ht hs (r1.q1 ho) eb
              exact ⟨l2, by rw [k3, r1.tr ho], k4⟩
        · rename_i hk; exact rp_inn (hF n _ hV) (ih _ hV) (hF n _ (v1 (by omega))) (ih _ (v1 (by omega))) _ _ _ _ _ _ ht hs hq1 eb
        · have hk : 2 < (gM A s).1 := by
            refine Nat.lt_of_not_le (fun hle => ?_)
            have h3 : (gM A s).1 = 0 ∨ (gM A s).1 = 1 ∨ (gM A s).1 = 2 := by omega
            rcases h3 with h3 | h3 | h3 <;> contradiction
          exact rp_rep (hF n _ (v1 hk)) (ih _ (v1 hk)) _ _ _ _ _ _ ht hs hq1 eb
/-- the trace of a run replays to what it made -/
theorem rp_rnA {A : AT} {w : Int32} {t u : Tm} {q : RnS} (hA : AOk A) (hw : okM A w) (ht : wf t) (hs : sz t ≤ 40) (h : rnA A w t 0 0 = (some u, q)) : (rpl A q.2.2.1 t).1 = 7 ∨ rpl A q.2.2.1 t = (0, u) := by
  obtain ⟨l, h1, h2⟩ := rp_run hA (gM_ok hA) 601 w hw _ _ _ _ _ ht hs (stQ_ok (by omega) (by omega)) h
  have h1 : q.2.2.1 = l := h1
  rw [h1]
  rcases h2 t 0 ht hs (sz_pos t ht) (sub_0 t) (pa_0 ht) with e | ⟨e, -⟩
  · exact Or.inl e
  · rw [rep_0 ht] at e
    exact Or.inr e
