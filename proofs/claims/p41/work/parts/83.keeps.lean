/-! what a run keeps: arguments, again and again, all kinds -/
section
variable {R : Tm → Int64 → RnS → RnR}
theorem RFun.none {t : Tm} {p : Int64} {q q1 : RnS} (h : RFun True 1 R) (ht : wf t) (hs : sz t ≤ 40) (hq : QOk q) (e : R t p q = (none, q1)) : ROk True 1 t q (none, q1) := e ▸ h t p q ht hs hq
theorem RFun.some {t u : Tm} {p : Int64} {q q1 : RnS} (h : RFun True 1 R) (ht : wf t) (hs : sz t ≤ 40) (hq : QOk q) (e : R t p q = (some u, q1)) : ROk True 1 t q (some u, q1) := e ▸ h t p q ht hs hq
/-- an argument failed: the whole fails -/
theorem ROk.arg {s : Prop} {k : Nat} {t u : Tm} {q q1 : RnS} (h : ROk s k t q (none, q1)) : ROk False 0 u q (none, q1) := by
  rcases h with h | ⟨h3, h4, h5, tr, h6, -⟩
  · exact Or.inl h
  · exact Or.inr ⟨h3, by omega, h5, tr, h6, fun q => q.elim⟩
theorem ROk.arg2 {s s' : Prop} {k k' : Nat} {t t' u u' : Tm} {q q1 q2 : RnS} (h : ROk s k t q (some t', q1)) (h' : ROk s' k' u q1 (none, q2)) : ROk False 0 u' q (none, q2) := by
  obtain ⟨h1, h2, h3, h4, h5, h6, tr, h7⟩ := h
  rcases h' with h' | ⟨g3, g4, g5, tr', g6, -⟩
  · exact Or.inl h'
  · exact Or.inr ⟨g3, by omega, by omega, tr ++ tr', by rw [g6, h7, List.append_assoc], fun q => q.elim⟩
theorem allC_ok (h : RFun True 1 R) : RFun False 0 (allC R) := by
  intro t p q ht hs hq
  obtain ⟨c, a, b, rfl, -⟩ := wf_cases ht
  obtain ⟨w2, w1, w0⟩ := wf_a ht
  have hz := sz_n c a b
  unfold allC
  simp only
  split
  · rename_i h2
    obtain ⟨wa, wb⟩ := w2 h2
    rcases e : R a (pth p 1) q with ⟨_ | a', q1⟩
    · exact (h.none wa (by omega) hq e).arg
    · have r1 := h.some wa (by omega) hq e
      simp only
      obtain ⟨g1, g2, g3, g4, g5, g6, tr, g7⟩ := r1
      rcases e' : R b (pth p 2) q1 with ⟨_ | b', q2⟩
      · exact ROk.arg2 (h.some wa (by omega) hq e) (h.none wb (by omega) g3 e')
      · obtain ⟨k1, k2, k3, k4, k5, k6, tr', k7⟩ := h.some wb (by omega) g3 e'
        exact chk_ok (wf_2 h2 g1 k1) k3 (by omega) (by omega) (by rw [sz_n, sz_n]; omega) ⟨tr ++ tr', by rw [k7, g7, List.append_assoc]⟩
  · split
    · rename_i h2 h1
      obtain ⟨wa, rfl⟩ := w1 h2 h1
      rcases e : R a (pth p 1) q with ⟨_ | a', q1⟩
      · exact (h.none wa (by omega) hq e).arg
      · obtain ⟨g1, g2, g3, g4, g5, g6, tr, g7⟩ := h.some wa (by omega) hq e
        exact chk_ok (wf_1 h1 g1) g3 (by omega) (by omega) (by rw [sz_n, sz_n]; omega) ⟨tr, g7⟩
    · exact chk_ok ht hq (Nat.le_refl _) (Nat.le_refl _) (Nat.le_refl _) ⟨[], by simp⟩
theorem oneC_ok (h : RFun True 1 R) : RFun False 0 (oneC R) := by
  intro t p q ht hs hq
  obtain ⟨c, a, b, rfl, -⟩ := wf_cases ht
  obtain ⟨w2, w1, w0⟩ := wf_a ht
  have hz := sz_n c a b
  unfold oneC
  simp only
  split
  · rename_i h2
    obtain ⟨wa, wb⟩ := w2 h2
    rcases e : R a (pth p 1) q with ⟨_ | a', q1⟩
    · have r1 := h.none wa (by omega) hq e
      simp only
      split
      · exact r1.arg
      · rename_i ho
        have hq1 := r1.q1 ho
        rcases e' : R b (pth p 2) q1 with ⟨_ | b', q2⟩
        · exact (r1.els ho ((h.none wb (by omega) hq1 e').arg (u := a))).arg
        · obtain ⟨k1, k2, k3, k4, k5, k6, tr', k7⟩ := h.some wb (by omega) hq1 e'
          rcases r1 with r1 | ⟨g3, g4, g5, tr, g6, g7⟩
          · exact absurd r1 ho
          exact chk_ok (wf_2 h2 wa k1) k3 (by omega) (by omega) (by rw [sz_n, sz_n]; omega) ⟨tr ++ tr', by rw [k7, g6, List.append_assoc]⟩
    · obtain ⟨g1, g2, g3, g4, g5, g6, tr, g7⟩ := h.some wa (by omega) hq e
      exact chk_ok (wf_2 h2 g1 wb) g3 (by omega) (by omega) (by rw [sz_n, sz_n]; omega) ⟨tr, g7⟩
  · split
    · rename_i h2 h1
      obtain ⟨wa, rfl⟩ := w1 h2 h1
      rcases e : R a (pth p 1) q with ⟨_ | a', q1⟩
      · exact (h.none wa (by omega) hq e).arg
      · obtain ⟨g1, g2, g3, g4, g5, g6, tr, g7⟩ := h.some wa (by omega) hq e
        exact chk_ok (wf_1 h1 g1) g3 (by omega) (by omega) (by rw [sz_n, sz_n]; omega) ⟨tr, g7⟩
    · exact ROk.fl hq
theorem somC_ok (h : RFun True 1 R) : RFun False 0 (somC R) := by
  intro t p q ht hs hq
  obtain ⟨c, a, b, rfl, -⟩ := wf_cases ht
  obtain ⟨w2, w1, w0⟩ := wf_a ht
  have hz := sz_n c a b
  unfold somC
  simp only
  split
  · rename_i h2
    obtain ⟨wa, wb⟩ := w2 h2
    rcases e : R a (pth p 1) q with ⟨_ | a', q1⟩
    · have r1 := h.none wa (by omega) hq e
      simp only
      split
      · exact r1.arg
      · rename_i ho
        have hq1 := r1.q1 ho
        rcases e' : R b (pth p 2) q1 with ⟨_ | b', q2⟩
        · exact (r1.els ho ((h.none wb (by omega) hq1 e').arg (u := a))).arg
        · obtain ⟨k1, k2, k3, k4, k5, k6, tr', k7⟩ := h.some wb (by omega) hq1 e'
          rcases r1 with r1 | ⟨g3, g4, g5, tr, g6, g7⟩
          · exact absurd r1 ho
          exact chk_ok (wf_2 h2 wa k1) k3 (by omega) (by omega) (by rw [sz_n, sz_n]; omega) ⟨tr ++ tr', by rw [k7, g6, List.append_assoc]⟩
    · have r1 := h.some wa (by omega) hq e
      obtain ⟨g1, g2, g3, g4, g5, g6, tr, g7⟩ := h.some wa (by omega) hq e
      simp only
      rcases e' : R b (pth p 2) q1 with ⟨_ | b', q2⟩
      · have r2 := h.none wb (by omega) g3 e'
        simp only
        split
        · exact ROk.arg2 r1 r2
        · rename_i ho
          rcases r2 with r2 | ⟨k3, k4, k5, tr', k6, k7⟩
          · exact absurd r2 ho
          exact chk_ok (wf_2 h2 g1 wb) k3 (by omega) (by omega) (by rw [sz_n, sz_n]; omega) ⟨tr ++ tr', by rw [k6, g7, List.append_assoc]⟩
      · obtain ⟨k1, k2, k3, k4, k5, k6, tr', k7⟩ := h.some wb (by omega) g3 e'
        exact chk_ok (wf_2 h2 g1 k1) k3 (by omega) (by omega) (by rw [sz_n, sz_n]; omega) ⟨tr ++ tr', by rw [k7, g7, List.append_assoc]⟩
  · split
    · rename_i h2 h1
      obtain ⟨wa, rfl⟩ := w1 h2 h1
      rcases e : R a (pth p 1) q with ⟨_ | a', q1⟩
      · exact (h.none wa (by omega) hq e).arg
      · obtain ⟨g1, g2, g3, g4, g5, g6, tr, g7⟩ := h.some wa (by omega) hq e
        exact chk_ok (wf_1 h1 g1) g3 (by omega) (by omega) (by rw [sz_n, sz_n]; omega) ⟨tr, g7⟩
    · exact ROk.fl hq
theorem repC_ok (h : RFun True 1 R) : ∀ m, RFun False 0 (repC R m) := by
  intro m
  induction m with
  | zero => intro t p q _ _ _; exact ROk.over _
  | succ m ih =>
    intro t p q ht hs hq
    unfold repC
    rcases e : R t p q with ⟨_ | t', q1⟩
    · have r1 := h.none ht hs hq e
      simp only
      split
      · exact r1.arg
      · rename_i ho
        exact (r1.els ho (ROk.rf (s := False) ht hs (r1.q1 ho))).loose
    · have r1 := h.some ht hs hq e
      exact (r1.seq (ih t' p q1 r1.1 r1.2.1 r1.2.2.1)).loose
theorem innC_ok {S : Tm → Int64 → RnS → RnR} (h : RFun True 1 R) (hS : RFun True 1 S) : ∀ m, RFun False 0 (innC R S m) := by
  intro m
  induction m with
  | zero => intro t p q _ _ _; exact ROk.over _
  | succ m ih =>
    intro t p q ht hs hq
    unfold innC
    have r0 := allC_ok h t p q ht hs hq
    rcases e : allC R t p q with ⟨_ | t1, q1⟩
    · rw [e] at r0; exact r0
    · rw [e] at r0
      simp only
      rcases e2 : S t1 p q1 with ⟨_ | t2, q2⟩
      · have r1 := hS.none r0.1 r0.2.1 r0.2.2.1 e2
        simp only
        split
        · exact (r0.seq r1).loose
        · rename_i ho
          exact (r0.seq (r1.els ho (ROk.rf (s := False) r0.1 r0.2.1 (r1.q1 ho)))).loose
      · have r1 := hS.some r0.1 r0.2.1 r0.2.2.1 e2
        simp only
        split
        · exact ROk.over _
        · rename_i h6
          have hq2 : QOk (bgn q2) := ⟨by have := r1.2.2.1.1; show q2.1 + 1 ≤ 600; omega, r1.2.2.1.2⟩
          have r2 := ih t2 p (bgn q2) r1.1 r1.2.1 hq2
          have r3 : ROk False 0 t2 q2 (innC R S m t2 p (bgn q2)) := by
            rcases e3 : innC R S m t2 p (bgn q2) with ⟨_ | t3, q3⟩
            · rw [e3] at r2
              rcases r2 with r2 | ⟨k3, k4, k5, tr', k6, k7⟩
              · exact Or.inl r2
              · exact Or.inr ⟨k3, (by have k4 : q2.1 + 1 + 0 ≤ q3.1 := k4; omega), k5, tr', k6, k7⟩
            · rw [e3] at r2
              obtain ⟨k1, k2, k3, k4, k5, k6, tr', k7⟩ := r2
              exact ⟨k1, k2, k3, (by have k4 : q2.1 + 1 + 0 ≤ q3.1 := k4; omega), k5, k6, tr', k7⟩
          exact (r0.seq (r1.seq r3)).loose
end
/-- what strategies may be over -/
def GOk (V W : Int32 → Prop) (g : Int32 → Nat × Int32 × Int32) : Prop := ∀ w, V w → ((g w).1 = 0 → W (g w).2.1) ∧ (2 < (g w).1 → V (g w).2.1) ∧ ((g w).1 = 3 ∨ (g w).1 = 4 → V (g w).2.2)
def FOk (W : Int32 → Prop) (f : Int32 → Tm → Int64 → RnS → RnR) : Prop := ∀ r, W r → RFun True 0 (f r)
theorem runF_ok {V W : Int32 → Prop} {g : Int32 → Nat × Int32 × Int32} {f : Int32 → Tm → Int64 → RnS → RnR} (hg : GOk V W g) (hf : FOk W f) : ∀ n s, V s → RFun True 1 (runF g f n s) := by
  intro n
  induction n with
  | zero => intro s _ t p q _ _ _; exact ROk.over _
  | succ n ih =>
    intro s hs t p q ht htz hq
    unfold runF
    split
    · exact ROk.over _
    rename_i h6
    obtain ⟨v0, v1, v2⟩ := hg s hs
    have hq1 : QOk (bgn q) := ⟨by have := hq.1; show q.1 + 1 ≤ 600; omega, hq.2⟩
    have key : ∀ o, ROk False 0 t (bgn q) o → ROk True 1 t q (bck q o) := fun o h => h.bck hq
    generalize hk : (g s).1 = k at v0 v1 v2
    refine key _ ?_
    match k, hk with
    | 0, _ => exact (hf _ (v0 rfl) t p (bgn q) ht htz hq1).loose
    | 1, _ => exact ROk.rf ht htz hq1
    | 2, _ => exact ROk.fl hq1
    | 3, _ =>
      have i1 := ih _ (v1 (by omega))
      have i2 := ih _ (v2 (Or.inl rfl))
      simp only
      rcases e : runF g f n (g s).2.1 t p (bgn q) with ⟨_ | t1, q1⟩
      · exact (i1.none ht htz hq1 e).arg
      · have r1 := i1.some ht htz hq1 e
        exact (r1.seq (i2 t1 p q1 r1.1 r1.2.1 r1.2.2.1)).loose
    | 4, _ =>
      have i1 := ih _ (v1 (by omega))
      have i2 := ih _ (v2 (Or.inr rfl))
      simp only
      rcases e : runF g f n (g s).2.1 t p (bgn q) with ⟨_ | t1, q1⟩
      · have r1 := i1.none ht htz hq1 e
        simp only
        split
        · exact r1.arg
        · rename_i ho
          exact (r1.els ho (i2 t p q1 ht htz (r1.q1 ho))).loose
      · exact (i1.some ht htz hq1 e).loose
    | 5, _ =>
      have i1 := ih _ (v1 (by omega))
      simp only
      rcases e : runF g f n (g s).2.1 t p (bgn q) with ⟨_ | t1, q1⟩
      · have r1 := i1.none ht htz hq1 e
        simp only
        split
        · exact r1.arg
        · rename_i ho
          exact (r1.els ho (ROk.rf (s := False) ht htz (r1.q1 ho))).loose
      · exact (i1.some ht htz hq1 e).loose
    | 6, _ => exact allC_ok (ih _ (v1 (by omega))) t p _ ht htz hq1
    | 7, _ => exact oneC_ok (ih _ (v1 (by omega))) t p _ ht htz hq1
    | 8, _ => exact somC_ok (ih _ (v1 (by omega))) t p _ ht htz hq1
    | 9, _ =>
      have r0 := allC_ok (ih s hs) t p _ ht htz hq1
      have i1 := ih _ (v1 (by omega))
      simp only
      rcases e : allC (runF g f n s) t p (bgn q) with ⟨_ | t1, q1⟩
      · rw [e] at r0; exact r0
      · rw [e] at r0
        exact (r0.seq (i1 t1 p q1 r0.1 r0.2.1 r0.2.2.1)).loose
    | 10, _ =>
      have i1 := ih _ (v1 (by omega))
      simp only
      rcases e : runF g f n (g s).2.1 t p (bgn q) with ⟨_ | t1, q1⟩
      · exact (i1.none ht htz hq1 e).arg
      · have r1 := i1.some ht htz hq1 e
        exact (r1.seq (allC_ok (ih s hs) t1 p q1 r1.1 r1.2.1 r1.2.2.1)).loose
    | 11, _ =>
      have i1 := ih _ (v1 (by omega))
      simp only
      rcases e : runF g f n (g s).2.1 t p (bgn q) with ⟨_ | t1, q1⟩
      · have r1 := i1.none ht htz hq1 e
        simp only
        split
        · exact r1.arg
        · rename_i ho
          exact (r1.els ho (oneC_ok (ih s hs) t p q1 ht htz (r1.q1 ho))).loose
      · exact (i1.some ht htz hq1 e).loose
    | 12, _ => exact innC_ok (ih s hs) (ih _ (v1 (by omega))) 601 t p _ ht htz hq1
    | _ + 13, _ => exact repC_ok (ih _ (v1 (by omega))) 601 t p _ ht htz hq1
