/-! the model's run: any strategy -/
/-- what a strategy of a kind does, once begun -/
def bodF (g : Int32 → Nat × Int32 × Int32) (f : Int32 → Tm → Int64 → RnS → RnR) (n : Nat) (s : Int32) (k : Nat) (t : Tm) (p : Int64) (q : RnS) : RnR := match k with
    | 0 => f (g s).2.1 t p q
    | 1 => (some t, q)
    | 2 => (none, q)
    | 3 => (match runF g f n (g s).2.1 t p q with
      | (none, q1) => (none, q1)
      | (some t1, q1) => runF g f n (g s).2.2 t1 p q1)
    | 4 => (match runF g f n (g s).2.1 t p q with
      | (some t1, q1) => (some t1, q1)
      | (none, q1) => if q1.2.2.2 = true then (none, q1) else runF g f n (g s).2.2 t p q1)
    | 5 => (match runF g f n (g s).2.1 t p q with
      | (some t1, q1) => (some t1, q1)
      | (none, q1) => if q1.2.2.2 = true then (none, q1) else (some t, q1))
    | 6 => allC (runF g f n (g s).2.1) t p q
    | 7 => oneC (runF g f n (g s).2.1) t p q
    | 8 => somC (runF g f n (g s).2.1) t p q
    | 9 => (match allC (runF g f n s) t p q with
      | (none, q1) => (none, q1)
      | (some t1, q1) => runF g f n (g s).2.1 t1 p q1)
    | 10 => (match runF g f n (g s).2.1 t p q with
      | (none, q1) => (none, q1)
      | (some t1, q1) => allC (runF g f n s) t1 p q1)
    | 11 => (match runF g f n (g s).2.1 t p q with
      | (some t1, q1) => (some t1, q1)
      | (none, q1) => if q1.2.2.2 = true then (none, q1) else oneC (runF g f n s) t p q1)
    | 12 => innC (runF g f n s) (runF g f n (g s).2.1) 601 t p q
    | _ => repC (runF g f n (g s).2.1) 601 t p q
theorem runF_succ {g : Int32 → Nat × Int32 × Int32} {f : Int32 → Tm → Int64 → RnS → RnR} {n : Nat} {s : Int32} {t : Tm} {p : Int64} {q : RnS} (h6 : ¬ q.1 = 600) : runF g f (n + 1) s t p q = bck q (bodF g f n s (g s).1 t p (bgn q)) := by
  rw [runF, if_neg h6]
  rfl
theorem runF_600 {g : Int32 → Nat × Int32 × Int32} {f : Int32 → Tm → Int64 → RnS → RnR} {n : Nat} {s : Int32} {t : Tm} {p : Int64} {q : RnS} (h6 : q.1 = 600) : runF g f (n + 1) s t p q = ovr q := by
  rw [runF, if_pos h6]
section
variable {d : Nat} {A : AT} {M M1 M' : PM} {a b c e f : Int32} {v : Int64} {T : Tm} {q : RnS} {K i : Nat}
theorem OutM.bck {s : Prop} {u : Tm} {o : RnR} (h : OutM s A T i u (bgn q) K M1 o M') (hf : Fr [52] M M1) : OutM False A T i u q K M (bck q o) M' := by
  have k1 : Kp K M M1 := Kp.of hf (by decide)
  obtain ⟨o, q'⟩ := o
  cases o with
  | some t => exact ⟨k1.trans h.1, h.2⟩
  | none =>
    rcases h with ⟨h0, h1, h2⟩ | ⟨h0, h1, u2, tr, h2, h3, h4, h5⟩
    · exact Or.inl ⟨h0, k1.1.trans h1, h2⟩
    · exact Or.inr ⟨h0, k1.trans h1, u2, tr, fun z => z.elim, h3, h4, h5⟩
theorem bck_some {o : RnR} : (bck q o).1 = o.1 := by
  obtain ⟨o, q'⟩ := o
  cases o <;> rfl
theorem ROk.wfs {s : Prop} {k : Nat} {u : Tm} {o : RnR} (h : ROk s k u q o) : ∀ t, o.1 = some t → wf t := by
  obtain ⟨o, q'⟩ := o
  intro t ht
  cases o with
  | none => cases ht
  | some t' => cases ht; exact h.1
theorem m_ruS {l N : Nat} {r : Tm × Tm} (hd : 92 ≤ d) (hA : AOk A) (hr : (rsA A)[l]? = some r) : Srv A N 0 False (fun i M => pcl GG lay d 126 [.ref 52, .int (jn l), .int (jn i)] M) (rulC (cmA A) r l) := by
  intro T i u q K M hT hi hu hs hq hTs hK hN h
  have hq2 := hq.2.1
  have hw : wf u := hu ▸ sub_wf hT hi
  obtain ⟨hr1, hl⟩ := rl_ok hA hr
  obtain ⟨M', e1, e2, e3⟩ := m_rul (i := i) hd hA h hr hT (by omega) hi (by rw [hu]; exact hs) ⟨hq.2.2.1, hq.2.1⟩
  rw [hu] at e1 e2
  refine ⟨M', e1, ?_⟩
  have hk : Kp K M M' := Kp.of e3 (by decide)
  have ho := rulC_ok (cm := cmA A) hr1 hl u (paT T i) q hw hs hq
  rcases e : rulC (cmA A) r l u (paT T i) q with ⟨_ | t, q'⟩
  · rw [e] at e2 ho
    by_cases h0 : q'.2.2.2 = true
    · refine Or.inl ⟨h0, hk.1, e2.1.1, ?_⟩
      rw [e2.2.1.2.2.2.1, h0]; exact bI_1 rfl
    · obtain ⟨r1, r2, r3, tr, r4, r5⟩ := ho.resolve_left h0
      exact OutM.dry hT hi hu hk e2 h0 r3 ⟨tr, r4⟩
  · rw [e] at e2
    exact ⟨hk, e2⟩
/-- another one at what was made -/
theorem m_then {N k k' k2 : Nat} {s s' s2 : Prop} {c : Nat → PM → PO} {u : Tm} {q1 : RnS} {t1 : Tm} {R : Tm → Int64 → RnS → RnR} (hR : RFun s2 k2 R) (hc : Srv A N k' s' c R) (hT : wf T) (hi : i < sz T) (hu : sub T i = u) (hTs : sz T ≤ 40 + 39 * q.2.1) (hK : K ≤ 42 * (q.1 + 0)) (hN : N ≤ q.1) (f : OutM s A T i u q K M (some t1, q1) M1) (r : ROk s2 k u q (some t1, q1)) :
    ∃ M', c i M1 = rI (bI ((R t1 (paT T i) q1).1.isSome = true)) M' ∧ OutM False A T i u q K M (R t1 (paT T i) q1) M' := by
  have hw : wf u := hu ▸ sub_wf hT hi
  obtain ⟨g1, g2, g3, g4, g5, g6, g7⟩ := id r
  have hT1 := rep_wf hT hi g1
  have hTs1 := sz_ok hT hi hu hTs r
  obtain ⟨M2, p1, p2⟩ := hc (rep T i t1) i t1 q1 K M1 hT1 (rep_lt hT hi g1) (sub_rep hT hi g1) g2 g3 hTs1 (by omega) (by omega) f.2
  rw [pa_rep hT hi g1] at p1 p2
  have r2 := hR t1 (paT T i) q1 g1 g2 g3
  exact ⟨M2, p1, f.loose.seq hT hi hw r p2.loose r2.wfs⟩
/-- another one where a try failed -/
theorem m_else {N k k' : Nat} {s' : Prop} {c : Nat → PM → PO} {u : Tm} {q1 : RnS} {R : Tm → Int64 → RnS → RnR} (hc : Srv A N k' s' c R) (hT : wf T) (hi : i < sz T) (hu : sub T i = u) (hs : sz u ≤ 40) (hTs : sz T ≤ 40 + 39 * q.2.1) (hK : K ≤ 42 * (q.1 + 0)) (hN : N ≤ q.1) (r : ROk True k u q (none, q1)) (ho : ¬ q1.2.2.2 = true) (k1 : Kp K M M1) (m1 : RunM A T q1 K M1) :
    ∃ M', c i M1 = rI (bI ((R u (paT T i) q1).1.isSome = true)) M' ∧ OutM s' A T i u q K M (R u (paT T i) q1) M' := by
  obtain ⟨g1, g2, g3, g4⟩ := r.resolve_left ho
  obtain ⟨M2, p1, p2⟩ := hc T i u q1 K M1 hT hi hu hs g1 (by omega) (by omega) (by omega) m1
  exact ⟨M2, p1, p2.els r ho k1⟩
theorem m_goes (hA : AOk A) : ∀ n w, okM A w → ∀ d, 3 * n + 95 ≤ d → Srv A (601 - n) 1 False (fun i M => pcl GG lay d 140 [.ref 52, .int w, .int (jn i)] M) (runF (gM A) (fM A) n w) := by
  intro n
  induction n with
  | zero => intro w hw d hd T i u q K M _ _ _ _ hq _ _ hN; have := hq.1; omega
  | succ n ih =>
    intro w hw d hd T i u q K M hT hi hu hs hq hTs hK hN h
    obtain ⟨d, rfl⟩ := ex_add (show 3 ≤ d by omega)
    have hwu : wf u := hu ▸ sub_wf hT hi
    have hN0 : 601 - n ≤ q.1 + 1 := by omega
    obtain ⟨M1, b1, b2, b3⟩ := RunM_begin (d := d + 2) (by omega) h hq.1
    show ∃ M', pcl GG lay (d + 2 + 1) 140 [.ref 52, .int w, .int (jn i)] M = _ ∧ _
    rw [q_140, b1, kI_r]
    by_cases h6 : q.1 = 600
    · have ea : runF (gM A) (fM A) (n + 1) w u (paT T i) q = ovr q := by unfold runF; rw [if_pos h6]
      rw [bI_n (by simp [h6]), ieq_pos rfl, rZ_0, ea, bI_none]
      rw [if_pos h6] at b2
      refine ⟨M1, rfl, Or.inl ⟨rfl, b3.mono (by decide), b2.1.1, ?_⟩⟩
      rw [b2.2.1.2.2.2.1]; exact bI_1 rfl
    rw [if_neg h6] at b2
    have hq1 : QOk (bgn q) := ⟨by have := hq.1; show q.1 + 1 ≤ 600; omega, hq.2⟩
    have hK1 : K ≤ 42 * ((bgn q).1 + 0) := by show K ≤ 42 * (q.1 + 1 + 0); omega
    have hN1 : 601 - n ≤ (bgn q).1 := hN0
    have hTs1 : sz T ≤ 40 + 39 * (bgn q).2.1 := hTs
    obtain ⟨v0, v1, v2⟩ := gM_ok hA w hw
    rw [bI_1 h6, ieq_neg (by omega) (by omega) (by omega), m_fst (by omega) hA b2.1.1 hw, kI_r, m_kind (by omega) hA b2.1.1 hw, kI_r]
    have hk13 : (gM A w).1 ≤ 13 := by
      rcases hw with ⟨k, hk, rfl⟩ | ⟨rfl, h0⟩ | ⟨k, hk, rfl⟩ | ⟨k, hk, rfl⟩
      · obtain ⟨g, z1, z2, z3, z4⟩ := gM_t hA hk
        rw [z2]; exact z3.1
      · rw [gM_b]; omega
      · have := rs_le hA; rw [gM_r (by omega)]; omega
      · have := rs_le hA
        cases k with
        | zero => rw [gM_0]; omega
        | succ k => rw [gM_c (by omega)]; omega
    have hsnd := fun (M : PM) (hM : RM A M) (h34 : (gM A w).1 = 3 ∨ (gM A w).1 = 4) => m_snd (d := d + 2) (w := w) (by omega) hA hM hw h34
    have hfst := fun (d : Nat) (hd : 1 ≤ d) (M : PM) (hM : RM A M) => m_fst (d := d) (w := w) hd hA hM hw
    -- what is owed behind the beginning
    have fin : ∀ (o : RnR) (x : PO), runF (gM A) (fM A) (n + 1) w u (paT T i) q = bck q o → (∃ M', x = rI (bI (o.1.isSome = true)) M' ∧ ∃ s, OutM s A T i u (bgn q) K M1 o M') → ∃ M', x = rI (bI ((runF (gM A) (fM A) (n + 1) w u (paT T i) q).1.isSome = true)) M' ∧ OutM False A T i u q K M (runF (gM A) (fM A) (n + 1) w u (paT T i) q) M' := by
      rintro o x ho ⟨M', x1, s, x2⟩
      rw [ho]
      refine ⟨M', ?_, x2.bck b3⟩
      rw [x1, bck_some]
    generalize hk : (gM A w).1 = k at v0 v1 v2 hk13 hsnd
    have rF : ∀ o, bodF (gM A) (fM A) n w k u (paT T i) (bgn q) = o → runF (gM A) (fM A) (n + 1) w u (paT T i) q = bck q o := by
      intro o ho
      rw [runF_succ h6, hk, ho]
    have G : 2 < k → ∀ d', 3 * n + 95 ≤ d' → Srv A (601 - n) 1 False (fun i M => pcl GG lay d' 140 [.ref 52, .int (gM A w).2.1, .int (jn i)] M) (runF (gM A) (fM A) n (gM A w).2.1) := fun z d' hd' => ih _ (v1 z) d' hd'
    have GR : 2 < k → RFun True 1 (runF (gM A) (fM A) n (gM A w).2.1) := fun z => runF_ok (gM_ok hA) (fM_ok hA) n _ (v1 z)
    have Gw : ∀ d', 3 * n + 95 ≤ d' → Srv A (601 - n) 1 False (fun i M => pcl GG lay d' 140 [.ref 52, .int w, .int (jn i)] M) (runF (gM A) (fM A) n w) := fun d' hd' => ih _ hw d' hd'
    have GwR : RFun True 1 (runF (gM A) (fM A) n w) := runF_ok (gM_ok hA) (fM_ok hA) n _ hw
    -- one that is tried at once
    have try1 : ∀ (z : 2 < k), ∃ M2, pcl GG lay (d + 2) 132 [.ref 52, .int (gM A w).2.1, .int (jn i)] M1 = rI (bI ((runF (gM A) (fM A) n (gM A w).2.1 u (paT T i) (bgn q)).1.isSome = true)) M2 ∧ OutM True A T i u (bgn q) K M1 (runF (gM A) (fM A) n (gM A w).2.1 u (paT T i) (bgn q)) M2 := fun z =>
      m_tries (d := d + 1) (by omega) (GR z) (G z (d + 1) (by omega)) T i u (bgn q) K M1 hT hi hu hs hq1 hTs1 hK1 hN1 b2
    have go1 : ∀ (z : 2 < k), ∃ M2, pcl GG lay (d + 2) 140 [.ref 52, .int (gM A w).2.1, .int (jn i)] M1 = rI (bI ((runF (gM A) (fM A) n (gM A w).2.1 u (paT T i) (bgn q)).1.isSome = true)) M2 ∧ OutM False A T i u (bgn q) K M1 (runF (gM A) (fM A) n (gM A w).2.1 u (paT T i) (bgn q)) M2 := fun z =>
      G z (d + 2) (by omega) T i u (bgn q) K M1 hT hi hu hs hq1 hTs1 (by omega) hN1 b2
    match k, hk13 with
    | 0, _ =>
      refine fin (fM A (gM A w).2.1 u (paT T i) (bgn q)) _ (rF _ rfl) ?_
      obtain ⟨l, hl, e1⟩ := v0 rfl
      obtain ⟨r, r1, r2, r3, r4⟩ := rl_at hA hl
      have e2 : fM A (gM A w).2.1 = rulC (cmA A) r l := by rw [e1]; unfold fM; rw [jnN (by omega), r2]
      obtain ⟨M2, p1, p2⟩ := m_ruS (d := d + 2) (N := 0) (by omega) hA r1 T i u (bgn q) K M1 hT hi hu hs hq1 hTs1 hK1 (by omega) b2
      have p1 : pcl GG lay (d + 2) 126 [.ref 52, .int (jn l), .int (jn i)] M1 = _ := p1
      rw [ieq_pos rfl, e2, e1, p1, kI_r, rZ_b]
      exact ⟨M2, rfl, _, p2⟩
    | 1, _ =>
      refine fin (some u, bgn q) _ (rF _ rfl) ?_
      rw [ieq_neg (by omega) (by omega) (by omega), ieq_pos rfl, rZ_1]
      exact ⟨M1, by rw [bI_some], False, Kp.rf, RunM_t b2 (by rw [← hu, rep_self hT hi])⟩
    | 2, _ =>
      refine fin (none, bgn q) _ (rF _ rfl) ?_
      rw [ieq_neg (by omega) (by omega) (by omega), ieq_neg (by omega) (by omega) (by omega), ieq_pos rfl, rZ_0]
      exact ⟨M1, by rw [bI_none], False, OutM.dry hT hi hu Kp.rf b2 (by rw [hq1.2.2.2.1]; simp) (by omega) ⟨[], by simp⟩⟩
    | 3, _ =>
      refine fin (match runF (gM A) (fM A) n (gM A w).2.1 u (paT T i) (bgn q) with
        | (none, q1) => (none, q1)
        | (some t1, q1) => runF (gM A) (fM A) n (gM A w).2.2 t1 (paT T i) q1) _ (rF _ rfl) ?_
      obtain ⟨M2, p1, p2⟩ := go1 (by omega)
      rw [ieq_neg (by omega) (by omega) (by omega), ieq_neg (by omega) (by omega) (by omega), ieq_neg (by omega) (by omega) (by omega), ieq_pos rfl, p1, kI_r]
      have r1 := GR (by omega) u (paT T i) (bgn q) hwu hs hq1
      rcases e : runF (gM A) (fM A) n (gM A w).2.1 u (paT T i) (bgn q) with ⟨_ | t1, q1⟩
      · rw [e] at p2
        rw [bI_none, ieq_pos rfl, rZ_0]
        exact ⟨M2, rfl, False, p2⟩
      · rw [e] at p2 r1
        obtain ⟨M3, w1, w2⟩ := m_then (runF_ok (gM_ok hA) (fM_ok hA) n _ (v2 (Or.inl rfl))) (ih _ (v2 (Or.inl rfl)) (d + 2) (by omega)) hT hi hu hTs1 hK1 hN1 p2 r1
        have w1 : pcl GG lay (d + 2) 140 [.ref 52, .int (gM A w).2.2, .int (jn i)] M2 = _ := w1
        rw [bI_some, ieq_neg (by omega) (by omega) (by omega), hsnd _ p2.2.1.1 (Or.inl rfl), kI_r, w1, kI_r, rZ_if]
        exact ⟨M3, rfl, _, w2⟩
    | 4, _ =>
      refine fin (match runF (gM A) (fM A) n (gM A w).2.1 u (paT T i) (bgn q) with
        | (some t1, q1) => (some t1, q1)
        | (none, q1) => if q1.2.2.2 = true then (none, q1) else runF (gM A) (fM A) n (gM A w).2.2 u (paT T i) q1) _ (rF _ rfl) ?_
      obtain ⟨M2, p1, p2⟩ := try1 (by omega)
      rw [ieq_neg (by omega) (by omega) (by omega), ieq_neg (by omega) (by omega) (by omega), ieq_neg (by omega) (by omega) (by omega), ieq_neg (by omega) (by omega) (by omega), ieq_pos rfl, p1, kI_r]
      have r1 := GR (by omega) u (paT T i) (bgn q) hwu hs hq1
      rcases e : runF (gM A) (fM A) n (gM A w).2.1 u (paT T i) (bgn q) with ⟨_ | t1, q1⟩
      · rw [e] at p2 r1
        rw [bI_none, ieq_pos rfl, p2.out]
        by_cases ho : q1.2.2.2 = true
        · rw [if_pos ho, ieq_neg (by omega) (by omega) (by omega), rZ_0]
          simp only [if_pos ho]
          exact ⟨M2, rfl, False, p2.ovr ho Fr.rf⟩
        · obtain ⟨k1, m1⟩ := p2.back ho r1 hT hi hu
          rw [if_neg ho, ieq_pos rfl]
          simp only [if_neg ho]
          obtain ⟨M3, w1, w2⟩ := m_else (ih _ (v2 (Or.inr rfl)) (d + 2) (by omega)) hT hi hu hs hTs1 hK1 hN1 r1 ho k1 m1
          have w1 : pcl GG lay (d + 2) 140 [.ref 52, .int (gM A w).2.2, .int (jn i)] M2 = _ := w1
          rw [hsnd _ m1.1.1 (Or.inr rfl), kI_r, w1, kI_r, rZ_if]
          exact ⟨M3, rfl, _, w2⟩
      · rw [e] at p2
        rw [bI_some, ieq_neg (by omega) (by omega) (by omega), rZ_1]
        exact ⟨M2, rfl, True, p2⟩
    | 5, _ =>
      refine fin (match runF (gM A) (fM A) n (gM A w).2.1 u (paT T i) (bgn q) with
        | (some t1, q1) => (some t1, q1)
        | (none, q1) => if q1.2.2.2 = true then (none, q1) else (some u, q1)) _ (rF _ rfl) ?_
      obtain ⟨M2, p1, p2⟩ := try1 (by omega)
      rw [ieq_neg (by omega) (by omega) (by omega), ieq_neg (by omega) (by omega) (by omega), ieq_neg (by omega) (by omega) (by omega), ieq_neg (by omega) (by omega) (by omega), ieq_neg (by omega) (by omega) (by omega), ieq_pos rfl, p1, kI_r]
      have r1 := GR (by omega) u (paT T i) (bgn q) hwu hs hq1
      rcases e : runF (gM A) (fM A) n (gM A w).2.1 u (paT T i) (bgn q) with ⟨_ | t1, q1⟩
      · rw [e] at p2 r1
        rw [bI_none, ieq_pos rfl, p2.out]
        by_cases ho : q1.2.2.2 = true
        · rw [if_pos ho, ieq_neg (by omega) (by omega) (by omega), rZ_0]
          simp only [if_pos ho]
          exact ⟨M2, rfl, False, p2.ovr ho Fr.rf⟩
        · obtain ⟨k1, m1⟩ := p2.back ho r1 hT hi hu
          rw [if_neg ho, ieq_pos rfl]
          simp only [if_neg ho]
          rw [rZ_1]
          exact ⟨M2, rfl, False, k1, RunM_t m1 (by rw [← hu, rep_self hT hi])⟩
      · rw [e] at p2
        rw [bI_some, ieq_neg (by omega) (by omega) (by omega), rZ_1]
        exact ⟨M2, rfl, True, p2⟩
    | 6, _ =>
      refine fin (allC (runF (gM A) (fM A) n (gM A w).2.1) u (paT T i) (bgn q)) _ (rF _ rfl) ?_
      obtain ⟨M2, p1, p2⟩ := m_all (d := d + 1) (by omega) (GR (by omega)) (G (by omega) (d + 1) (by omega)) T i u (bgn q) K M1 hT hi hu hs hq1 hTs1 hK1 hN1 b2
      have p1 : pcl GG lay (d + 2) 134 [.ref 52, .int (gM A w).2.1, .int (jn i)] M1 = _ := p1
      rw [ieq_neg (by omega) (by omega) (by omega), ieq_neg (by omega) (by omega) (by omega), ieq_neg (by omega) (by omega) (by omega), ieq_neg (by omega) (by omega) (by omega), ieq_neg (by omega) (by omega) (by omega), ieq_neg (by omega) (by omega) (by omega), ieq_pos rfl, p1, kI_r, rZ_b]
      exact ⟨M2, rfl, _, p2⟩
    | 7, _ =>
      refine fin (oneC (runF (gM A) (fM A) n (gM A w).2.1) u (paT T i) (bgn q)) _ (rF _ rfl) ?_
      obtain ⟨M2, p1, p2⟩ := m_one (d := d + 1) (by omega) (GR (by omega)) (m_tries (d := d) (by omega) (GR (by omega)) (G (by omega) d (by omega))) T i u (bgn q) K M1 hT hi hu hs hq1 hTs1 hK1 hN1 b2
      have p1 : pcl GG lay (d + 2) 135 [.ref 52, .int (gM A w).2.1, .int (jn i)] M1 = _ := p1
      rw [ieq_neg (by omega) (by omega) (by omega), ieq_neg (by omega) (by omega) (by omega), ieq_neg (by omega) (by omega) (by omega), ieq_neg (by omega) (by omega) (by omega), ieq_neg (by omega) (by omega) (by omega), ieq_neg (by omega) (by omega) (by omega), ieq_neg (by omega) (by omega) (by omega), ieq_pos rfl, p1, kI_r, rZ_b]
      exact ⟨M2, rfl, _, p2⟩
    | 8, _ =>
      refine fin (somC (runF (gM A) (fM A) n (gM A w).2.1) u (paT T i) (bgn q)) _ (rF _ rfl) ?_
      obtain ⟨M2, p1, p2⟩ := m_som (d := d + 1) (by omega) (GR (by omega)) (m_tries (d := d) (by omega) (GR (by omega)) (G (by omega) d (by omega))) T i u (bgn q) K M1 hT hi hu hs hq1 hTs1 hK1 hN1 b2
      have p1 : pcl GG lay (d + 2) 136 [.ref 52, .int (gM A w).2.1, .int (jn i)] M1 = _ := p1
      rw [ieq_neg (by omega) (by omega) (by omega), ieq_neg (by omega) (by omega) (by omega), ieq_neg (by omega) (by omega) (by omega), ieq_neg (by omega) (by omega) (by omega), ieq_neg (by omega) (by omega) (by omega), ieq_neg (by omega) (by omega) (by omega), ieq_neg (by omega) (by omega) (by omega), ieq_neg (by omega) (by omega) (by omega), ieq_pos rfl, p1, kI_r, rZ_b]
      exact ⟨M2, rfl, _, p2⟩
    | 9, _ =>
      refine fin (match allC (runF (gM A) (fM A) n w) u (paT T i) (bgn q) with
        | (none, q1) => (none, q1)
        | (some t1, q1) => runF (gM A) (fM A) n (gM A w).2.1 t1 (paT T i) q1) _ (rF _ rfl) ?_
      obtain ⟨M2, p1, p2⟩ := m_all (d := d + 1) (by omega) GwR (Gw (d + 1) (by omega)) T i u (bgn q) K M1 hT hi hu hs hq1 hTs1 hK1 hN1 b2
      have p1 : pcl GG lay (d + 2) 134 [.ref 52, .int w, .int (jn i)] M1 = _ := p1
      rw [ieq_neg (by omega) (by omega) (by omega), ieq_neg (by omega) (by omega) (by omega), ieq_neg (by omega) (by omega) (by omega), ieq_neg (by omega) (by omega) (by omega), ieq_neg (by omega) (by omega) (by omega), ieq_neg (by omega) (by omega) (by omega), ieq_neg (by omega) (by omega) (by omega), ieq_neg (by omega) (by omega) (by omega), ieq_neg (by omega) (by omega) (by omega), ieq_pos rfl, p1, kI_r]
      have r1 := allC_ok GwR u (paT T i) (bgn q) hwu hs hq1
      rcases e : allC (runF (gM A) (fM A) n w) u (paT T i) (bgn q) with ⟨_ | t1, q1⟩
      · rw [e] at p2
        rw [bI_none, ieq_pos rfl, rZ_0]
        exact ⟨M2, rfl, False, p2⟩
      · rw [e] at p2 r1
        obtain ⟨M3, w1, w2⟩ := m_then (fun t p q a b c => (GR (by omega) t p q a b c).loose) (G (by omega) (d + 2) (by omega)) hT hi hu hTs1 hK1 hN1 p2 r1
        have w1 : pcl GG lay (d + 2) 140 [.ref 52, .int (gM A w).2.1, .int (jn i)] M2 = _ := w1
        rw [bI_some, ieq_neg (by omega) (by omega) (by omega), w1, kI_r, rZ_if]
        exact ⟨M3, rfl, _, w2⟩
    | 10, _ =>
      refine fin (match runF (gM A) (fM A) n (gM A w).2.1 u (paT T i) (bgn q) with
        | (none, q1) => (none, q1)
        | (some t1, q1) => allC (runF (gM A) (fM A) n w) t1 (paT T i) q1) _ (rF _ rfl) ?_
      obtain ⟨M2, p1, p2⟩ := go1 (by omega)
      rw [ieq_neg (by omega) (by omega) (by omega), ieq_neg (by omega) (by omega) (by omega), ieq_neg (by omega) (by omega) (by omega), ieq_neg (by omega) (by omega) (by omega), ieq_neg (by omega) (by omega) (by omega), ieq_neg (by omega) (by omega) (by omega), ieq_neg (by omega) (by omega) (by omega), ieq_neg (by omega) (by omega) (by omega), ieq_neg (by omega) (by omega) (by omega), ieq_neg (by omega) (by omega) (by omega), ieq_pos rfl, p1, kI_r]
      have r1 := (GR (by omega) u (paT T i) (bgn q) hwu hs hq1).loose
      rcases e : runF (gM A) (fM A) n (gM A w).2.1 u (paT T i) (bgn q) with ⟨_ | t1, q1⟩
      · rw [e] at p2
        rw [bI_none, ieq_pos rfl, rZ_0]
        exact ⟨M2, rfl, False, p2⟩
      · rw [e] at p2 r1
        obtain ⟨M3, w1, w2⟩ := m_then (allC_ok GwR) (m_all (d := d + 1) (by omega) GwR (Gw (d + 1) (by omega))) hT hi hu hTs1 hK1 hN1 p2 r1
        have w1 : pcl GG lay (d + 2) 134 [.ref 52, .int w, .int (jn i)] M2 = _ := w1
        rw [bI_some, ieq_neg (by omega) (by omega) (by omega), w1, kI_r, rZ_if]
        exact ⟨M3, rfl, _, w2⟩
    | 11, _ =>
      refine fin (match runF (gM A) (fM A) n (gM A w).2.1 u (paT T i) (bgn q) with
        | (some t1, q1) => (some t1, q1)
        | (none, q1) => if q1.2.2.2 = true then (none, q1) else oneC (runF (gM A) (fM A) n w) u (paT T i) q1) _ (rF _ rfl) ?_
      obtain ⟨M2, p1, p2⟩ := try1 (by omega)
      rw [ieq_neg (by omega) (by omega) (by omega), ieq_neg (by omega) (by omega) (by omega), ieq_neg (by omega) (by omega) (by omega), ieq_neg (by omega) (by omega) (by omega), ieq_neg (by omega) (by omega) (by omega), ieq_neg (by omega) (by omega) (by omega), ieq_neg (by omega) (by omega) (by omega), ieq_neg (by omega) (by omega) (by omega), ieq_neg (by omega) (by omega) (by omega), ieq_neg (by omega) (by omega) (by omega), ieq_neg (by omega) (by omega) (by omega), ieq_pos rfl, p1, kI_r]
      have r1 := GR (by omega) u (paT T i) (bgn q) hwu hs hq1
      rcases e : runF (gM A) (fM A) n (gM A w).2.1 u (paT T i) (bgn q) with ⟨_ | t1, q1⟩
      · rw [e] at p2 r1
        rw [bI_none, ieq_pos rfl, p2.out]
        by_cases ho : q1.2.2.2 = true
        · rw [if_pos ho, ieq_neg (by omega) (by omega) (by omega), rZ_0]
          simp only [if_pos ho]
          exact ⟨M2, rfl, False, p2.ovr ho Fr.rf⟩
        · obtain ⟨k1, m1⟩ := p2.back ho r1 hT hi hu
          rw [if_neg ho, ieq_pos rfl]
          simp only [if_neg ho]
          obtain ⟨M3, w1, w2⟩ := m_else (m_one (d := d + 1) (by omega) GwR (m_tries (d := d) (by omega) GwR (Gw d (by omega)))) hT hi hu hs hTs1 hK1 hN1 r1 ho k1 m1
          have w1 : pcl GG lay (d + 2) 135 [.ref 52, .int w, .int (jn i)] M2 = _ := w1
          rw [w1, kI_r, rZ_if]
          exact ⟨M3, rfl, _, w2⟩
      · rw [e] at p2
        rw [bI_some, ieq_neg (by omega) (by omega) (by omega), rZ_1]
        exact ⟨M2, rfl, True, p2⟩
    | 12, _ =>
      refine fin (innC (runF (gM A) (fM A) n w) (runF (gM A) (fM A) n (gM A w).2.1) 601 u (paT T i) (bgn q)) _ (rF _ rfl) ?_
      obtain ⟨M2, p1, p2⟩ := m_inn (d := d + 1) (by omega) GwR (GR (by omega)) (fun M hM => hfst (d + 1) (by omega) M hM) (m_all (d := d) (by omega) GwR (Gw d (by omega))) (m_tries (d := d) (by omega) (GR (by omega)) (G (by omega) d (by omega))) T i u (bgn q) K M1 hT hi hu hs hq1 hTs1 hK1 hN1 b2
      have p1 : pcl GG lay (d + 2) 138 [.ref 52, .int w, .int (jn i)] M1 = _ := p1
      rw [ieq_neg (by omega) (by omega) (by omega), ieq_neg (by omega) (by omega) (by omega), ieq_neg (by omega) (by omega) (by omega), ieq_neg (by omega) (by omega) (by omega), ieq_neg (by omega) (by omega) (by omega), ieq_neg (by omega) (by omega) (by omega), ieq_neg (by omega) (by omega) (by omega), ieq_neg (by omega) (by omega) (by omega), ieq_neg (by omega) (by omega) (by omega), ieq_neg (by omega) (by omega) (by omega), ieq_neg (by omega) (by omega) (by omega), ieq_neg (by omega) (by omega) (by omega), ieq_pos rfl, p1, kI_r, rZ_b]
      exact ⟨M2, rfl, _, p2⟩
    | 13, _ =>
      refine fin (repC (runF (gM A) (fM A) n (gM A w).2.1) 601 u (paT T i) (bgn q)) _ (rF _ rfl) ?_
      obtain ⟨M2, p1, p2⟩ := m_rep (d := d + 1) (GR (by omega)) (m_tries (d := d) (by omega) (GR (by omega)) (G (by omega) d (by omega))) T i u (bgn q) K M1 hT hi hu hs hq1 hTs1 hK1 hN1 b2
      have p1 : pcl GG lay (d + 2) 137 [.ref 52, .int (gM A w).2.1, .int (jn i)] M1 = _ := p1
      rw [ieq_neg (by omega) (by omega) (by omega), ieq_neg (by omega) (by omega) (by omega), ieq_neg (by omega) (by omega) (by omega), ieq_neg (by omega) (by omega) (by omega), ieq_neg (by omega) (by omega) (by omega), ieq_neg (by omega) (by omega) (by omega), ieq_neg (by omega) (by omega) (by omega), ieq_neg (by omega) (by omega) (by omega), ieq_neg (by omega) (by omega) (by omega), ieq_neg (by omega) (by omega) (by omega), ieq_neg (by omega) (by omega) (by omega), ieq_neg (by omega) (by omega) (by omega), ieq_neg (by omega) (by omega) (by omega), p1, kI_r, rZ_b]
      exact ⟨M2, rfl, _, p2⟩
    | k + 14, hk => omega
end
