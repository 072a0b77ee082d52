/-! the model's run: again and again; what strategies are -/
section
variable {d : Nat} {A : AT} {M M1 M' : PM} {a b c e f : Int32} {v : Int64} {T : Tm} {q : RnS} {K i : Nat}
theorem sz_ok {s : Prop} {k : Nat} {u t : Tm} {q1 : RnS} (hT : wf T) (hi : i < sz T) (hu : sub T i = u) (hTs : sz T ≤ 40 + 39 * q.2.1) (h : ROk s k u q (some t, q1)) : sz (rep T i t) ≤ 40 + 39 * q1.2.1 := by
  obtain ⟨g1, g2, g3, g4, g5, g6, g7⟩ := h
  have := rep_sz (s := t) hT hi
  have z := sub_sz hT hi
  rw [hu] at this z
  omega
theorem m_repE {N : Nat} {w : Int32} {R : Tm → Int64 → RnS → RnR} (hR : RFun True 1 R) (hc : Srv A N 0 True (fun i M => pcl GG lay d 132 [.ref 52, .int w, .int (jn i)] M) R) : ∀ m T i u q K M, 601 ≤ m + q.1 → wf T → i < sz T → sub T i = u → sz u ≤ 40 → QOk q → sz T ≤ 40 + 39 * q.2.1 → K ≤ 42 * (q.1 + 0) → N ≤ q.1 → RunM A T q K M →
    ∃ M', E_137 d (2, [some (.ref 52), some (.int w), some (.int (jn i)), some (.int (jn 1))], [], M) = rI (bI ((repC R m u (paT T i) q).1.isSome = true)) M' ∧ OutM False A T i u q K M (repC R m u (paT T i) q) M' := by
  intro m
  induction m with
  | zero => intro T i u q K M hm _ _ _ _ hq; have := hq.1; omega
  | succ m ih =>
    intro T i u q K M hm hT hi hu hs hq hTs hK hN h
    have hw : wf u := hu ▸ sub_wf hT hi
    obtain ⟨M1, f1, f2⟩ := hc T i u q K M hT hi hu hs hq hTs hK hN h
    have f1 : pcl GG lay d 132 [.ref 52, .int w, .int (jn i)] M = _ := f1
    rw [h_137_2, ieq_neg (by omega) (by omega) (by omega), f1, kI_r]
    rcases e : R u (paT T i) q with ⟨_ | t', q1⟩
    · rw [e] at f2
      have r1 := hR.none hw hs hq e
      rw [bI_none, h_137_2, ieq_pos rfl, f2.out]
      by_cases ho : q1.2.2.2 = true
      · have ea : repC R (m + 1) u (paT T i) q = (none, q1) := by unfold repC; simp only [e, if_pos ho]
        rw [if_pos ho, ieq_neg (by omega) (by omega) (by omega), rZ_0, ea, bI_none]
        exact ⟨M1, rfl, f2.ovr ho Fr.rf⟩
      · have ea : repC R (m + 1) u (paT T i) q = (some u, q1) := by unfold repC; simp only [e, if_neg ho]
        obtain ⟨k1, m1⟩ := f2.back ho r1 hT hi hu
        rw [if_neg ho, ieq_pos rfl, rZ_1, ea, bI_some]
        exact ⟨M1, rfl, k1, RunM_t m1 (by rw [← hu, rep_self hT hi])⟩
    · rw [e] at f2
      have r1 := hR.some hw hs hq e
      obtain ⟨g1, g2, g3, g4, g5, g6, g7⟩ := r1
      have ea : repC R (m + 1) u (paT T i) q = repC R m t' (paT T i) q1 := by rw [repC]; simp only [e]
      have hT1 := rep_wf hT hi g1
      obtain ⟨M2, p1, p2⟩ := ih (rep T i t') i t' q1 K M1 (by omega) hT1 (rep_lt hT hi g1) (sub_rep hT hi g1) g2 g3 (sz_ok hT hi hu hTs (hR.some hw hs hq e)) (by omega) (by omega) f2.2
      rw [pa_rep hT hi g1] at p1 p2
      rw [bI_some, p1, ea]
      have r2 := repC_ok hR m t' (paT T i) q1 g1 g2 g3
      exact ⟨M2, rfl, f2.loose.seq hT hi hw (hR.some hw hs hq e) p2 (fun t ht => by
        rcases e3 : repC R m t' (paT T i) q1 with ⟨_ | t3, q3⟩
        · rw [e3] at ht; cases ht
        · rw [e3] at r2 ht; cases ht; exact r2.1)⟩
theorem m_rep {N : Nat} {w : Int32} {R : Tm → Int64 → RnS → RnR} (hR : RFun True 1 R) (hc : Srv A N 0 True (fun i M => pcl GG lay d 132 [.ref 52, .int w, .int (jn i)] M) R) : Srv A N 0 False (fun i M => pcl GG lay (d + 1) 137 [.ref 52, .int w, .int (jn i)] M) (repC R 601) := by
  intro T i u q K M hT hi hu hs hq hTs hK hN h
  show ∃ M', pcl GG lay (d + 1) 137 [.ref 52, .int w, .int (jn i)] M = _ ∧ _
  rw [q_137]
  exact m_repE hR hc 601 T i u q K M (by omega) hT hi hu hs hq hTs hK hN h
theorem m_innE {N : Nat} {w w1 : Int32} {R S : Tm → Int64 → RnS → RnR} (hd : 2 ≤ d) (hR : RFun True 1 R) (hS : RFun True 1 S) (h1 : ∀ M, RM A M → pcl GG lay d 128 [.ref 52, .int w] M = rI w1 M) (ha : Srv A N 0 False (fun i M => pcl GG lay d 134 [.ref 52, .int w, .int (jn i)] M) (allC R)) (hc : Srv A N 0 True (fun i M => pcl GG lay d 132 [.ref 52, .int w1, .int (jn i)] M) S) : ∀ m T i u q K M, 601 ≤ m + q.1 → wf T → i < sz T → sub T i = u → sz u ≤ 40 → QOk q → sz T ≤ 40 + 39 * q.2.1 → K ≤ 42 * (q.1 + 0) → N ≤ q.1 → RunM A T q K M →
    ∃ M', E_138 d (2, [some (.ref 52), some (.int w), some (.int (jn i)), some (.int (jn 1))], [], M) = rI (bI ((innC R S m u (paT T i) q).1.isSome = true)) M' ∧ OutM False A T i u q K M (innC R S m u (paT T i) q) M' := by
  intro m
  induction m with
  | zero => intro T i u q K M hm _ _ _ _ hq; have := hq.1; omega
  | succ m ih =>
    intro T i u q K M hm hT hi hu hs hq hTs hK hN h
    have hw : wf u := hu ▸ sub_wf hT hi
    obtain ⟨M1, f1, f2⟩ := ha T i u q K M hT hi hu hs hq hTs hK hN h
    have f1 : pcl GG lay d 134 [.ref 52, .int w, .int (jn i)] M = _ := f1
    have r0 := allC_ok hR u (paT T i) q hw hs hq
    rw [h_138_2, ieq_neg (by omega) (by omega) (by omega), f1, kI_r]
    rcases e : allC R u (paT T i) q with ⟨_ | t1, q1⟩
    · rw [e] at f2
      have ea : innC R S (m + 1) u (paT T i) q = (none, q1) := by unfold innC; simp only [e]
      rw [bI_none, ieq_pos rfl, rZ_0, ea, bI_none]
      exact ⟨M1, rfl, f2⟩
    rw [e] at f2 r0
    obtain ⟨g1, g2, g3, g4, g5, g6, g7⟩ := id r0
    have hT1 := rep_wf hT hi g1
    have hi1 := rep_lt hT hi g1
    have hu1 := sub_rep hT hi g1
    have hTs1 := sz_ok hT hi hu hTs r0
    rw [bI_some, ieq_neg (by omega) (by omega) (by omega), h1 _ f2.2.1.1, kI_r]
    obtain ⟨M2, p1, p2⟩ := hc (rep T i t1) i t1 q1 K M1 hT1 hi1 hu1 g2 g3 hTs1 (by omega) (by omega) f2.2
    have p1 : pcl GG lay d 132 [.ref 52, .int w1, .int (jn i)] M1 = _ := p1
    rw [pa_rep hT hi g1] at p1 p2
    rw [p1, kI_r]
    rcases e2 : S t1 (paT T i) q1 with ⟨_ | t2, q2⟩
    · rw [e2] at p2
      have r1 := hS.none g1 g2 g3 e2
      rw [p2.out]
      by_cases ho : q2.2.2.2 = true
      · have ea : innC R S (m + 1) u (paT T i) q = (none, q2) := by unfold innC; simp only [e, e2, if_pos ho]
        rw [if_pos ho, ieq_neg (by omega) (by omega) (by omega), rZ_0, ea, bI_none]
        exact ⟨M2, rfl, p2.ovr ho f2.1.1⟩
      · have ea : innC R S (m + 1) u (paT T i) q = (some t1, q2) := by unfold innC; simp only [e, e2, if_neg ho]
        obtain ⟨k2, m2⟩ := p2.back ho r1 hT1 hi1 hu1
        rw [if_neg ho, ieq_pos rfl, bI_none, ieq_pos rfl, h_138_2, ieq_pos rfl, rZ_1, ea, bI_some]
        exact ⟨M2, rfl, f2.1.trans k2, m2⟩
    · rw [e2] at p2
      have r1 := hS.some g1 g2 g3 e2
      obtain ⟨n1, n2, n3, n4, n5, n6, n7⟩ := id r1
      have m2 := RunM_t p2.2 (rep_rep hT hi g1 n1)
      have hT2 := rep_wf hT hi n1
      have hi2 := rep_lt hT hi n1
      have hu2 := sub_rep hT hi n1
      have hTs2 : sz (rep T i t2) ≤ 40 + 39 * q2.2.1 := by have := sz_ok hT1 hi1 hu1 hTs1 r1; rwa [rep_rep hT hi g1 n1] at this
      rw [RunM_27 m2 n3.2.2.2.1, ieq_pos rfl, bI_some, ieq_neg (by omega) (by omega) (by omega)]
      obtain ⟨M3, v1, v2, v3⟩ := RunM_begin (d := d) (by omega) m2 n3.1
      rw [v1, kI_r]
      by_cases h6 : q2.1 = 600
      · have ea : innC R S (m + 1) u (paT T i) q = ovr q2 := by unfold innC; simp only [e, e2, if_pos h6]
        rw [bI_n (by simp [h6]), ieq_pos rfl, rZ_0, ea, bI_none]
        rw [if_pos h6] at v2
        refine ⟨M3, rfl, Or.inl ⟨rfl, (f2.1.trans (p2.1.trans (Kp.of v3 (by decide)))).1, v2.1.1, ?_⟩⟩
        rw [v2.2.1.2.2.2.1]; exact bI_1 rfl
      · have ea : innC R S (m + 1) u (paT T i) q = innC R S m t2 (paT T i) (bgn q2) := by rw [innC]; simp only [e, e2, if_neg h6]
        rw [if_neg h6] at v2
        have hq2 : QOk (bgn q2) := ⟨by have := n3.1; show q2.1 + 1 ≤ 600; omega, n3.2⟩
        obtain ⟨M4, w1, w2⟩ := ih (rep T i t2) i t2 (bgn q2) K M3 (by show 601 ≤ m + (q2.1 + 1); omega) hT2 hi2 hu2 n2 hq2 hTs2 (by show K ≤ 42 * (q2.1 + 1 + 0); omega) (by show N ≤ q2.1 + 1; omega) v2
        rw [pa_rep hT hi n1] at w1 w2
        rw [bI_1 h6, ieq_neg (by omega) (by omega) (by omega), w1, ea]
        have r2 := innC_ok hR hS m t2 (paT T i) (bgn q2) n1 n2 hq2
        -- the two that went ahead, as one
        have s1 : OutM False A T i u q K M (some t2, bgn q2) M3 := ⟨f2.1.trans (p2.1.trans (Kp.of v3 (by decide))), v2⟩
        have s2 : ROk False 0 u q (some t2, bgn q2) := by
          obtain ⟨z1, z2, z3, z4, z5, z6, z7⟩ := (r0.seq r1).loose
          exact ⟨z1, z2, hq2, by show q.1 + 0 ≤ q2.1 + 1; omega, z5, z6, z7⟩
        exact ⟨M4, rfl, s1.seq hT hi hw s2 w2 (fun t ht => by
          rcases e3 : innC R S m t2 (paT T i) (bgn q2) with ⟨_ | t3, q3⟩
          · rw [e3] at ht; cases ht
          · rw [e3] at r2 ht; cases ht; exact r2.1)⟩
theorem m_inn {N : Nat} {w w1 : Int32} {R S : Tm → Int64 → RnS → RnR} (hd : 2 ≤ d) (hR : RFun True 1 R) (hS : RFun True 1 S) (h1 : ∀ M, RM A M → pcl GG lay d 128 [.ref 52, .int w] M = rI w1 M) (ha : Srv A N 0 False (fun i M => pcl GG lay d 134 [.ref 52, .int w, .int (jn i)] M) (allC R)) (hc : Srv A N 0 True (fun i M => pcl GG lay d 132 [.ref 52, .int w1, .int (jn i)] M) S) : Srv A N 0 False (fun i M => pcl GG lay (d + 1) 138 [.ref 52, .int w, .int (jn i)] M) (innC R S 601) := by
  intro T i u q K M hT hi hu hs hq hTs hK hN h
  show ∃ M', pcl GG lay (d + 1) 138 [.ref 52, .int w, .int (jn i)] M = _ ∧ _
  rw [q_138]
  exact m_innE hd hR hS h1 ha hc 601 T i u q K M (by omega) hT hi hu hs hq hTs hK hN h
end
/-- what strategies are: those told; 300 innermost of all rules, 1000 and k a choice of the first k and one, 200 and k a rule -/
def gM (A : AT) (w : Int32) : Nat × Int32 × Int32 := if w = jn 300 then (12, jn (999 + (rsA A).length), jz 1) else if w.toInt < 1000 then (if w.toInt < 200 then (ssA A).getD w.toInt.toNat (1, jz 1, jz 1) else (0, w - jn 200, jz 1)) else if w = jn 1000 then (0, jn 0, jz 1) else (4, w - jn 1, jn 200 + w - jn 1000)
def fM (A : AT) (r : Int32) : Tm → Int64 → RnS → RnR := rulC (cmA A) ((rsA A).getD r.toInt.toNat (Lf, Lf)) r.toInt.toNat
def okR (A : AT) (r : Int32) : Prop := ∃ k, k < (rsA A).length ∧ r = jn k
def okM (A : AT) (w : Int32) : Prop := (∃ k, k < (ssA A).length ∧ w = jn k) ∨ (w = jn 300 ∧ 0 < (rsA A).length) ∨ (∃ k, k < (rsA A).length ∧ w = jn (200 + k)) ∨ ∃ k, k < (rsA A).length ∧ w = jn (1000 + k)
section
variable {d : Nat} {A : AT} {M : PM}
theorem gM_t (hA : AOk A) {k : Nat} (hk : k < (ssA A).length) : ∃ g, (ssA A)[k]? = some g ∧ gM A (jn k) = g ∧ sgOk (rsA A).length k g ∧ k < 24 := by
  obtain ⟨g, hg⟩ : ∃ g, (ssA A)[k]? = some g := ⟨_, List.getElem?_eq_getElem hk⟩
  obtain ⟨h1, h2⟩ := sg_ok hA hg
  refine ⟨g, hg, ?_, h1, h2⟩
  unfold gM
  rw [if_neg (by rw [jn_inj (by omega) (by omega)]; omega), if_pos (by rw [jn_toInt (by omega)]; omega), if_pos (by rw [jn_toInt (by omega)]; omega), jnN (by omega), List.getD_eq_getElem?_getD, hg]
  rfl
theorem gM_b : gM A (jn 300) = (12, jn (999 + (rsA A).length), jz 1) := if_pos rfl
theorem gM_r {k : Nat} (hk : k < 12) : gM A (jn (200 + k)) = (0, jn k, jz 1) := by
  unfold gM
  rw [if_neg (by rw [jn_inj (by omega) (by omega)]; omega), if_pos (by rw [jn_toInt (by omega)]; omega), if_neg (by rw [jn_toInt (by omega)]; omega), jn_sub (by omega), Nat.add_sub_cancel_left]
theorem gM_0 : gM A (jn (1000 + 0)) = (0, jn 0, jz 1) := by
  unfold gM
  rw [if_neg (by rw [jn_inj (by omega) (by omega)]; omega), if_neg (by rw [jn_toInt (by omega)]; omega), if_pos rfl]
theorem gM_c {k : Nat} (hk : k < 11) : gM A (jn (1000 + (k + 1))) = (4, jn (1000 + k), jn (200 + (k + 1))) := by
  unfold gM
  rw [if_neg (by rw [jn_inj (by omega) (by omega)]; omega), if_neg (by rw [jn_toInt (by omega)]; omega), if_neg (by rw [jn_inj (by omega) (by omega)]; omega), jn_sub (by omega), jn_add, jn_sub (by omega), show 1000 + (k + 1) - 1 = 1000 + k by omega, show 200 + (1000 + (k + 1)) - 1000 = 200 + (k + 1) by omega]
theorem rs_le (hA : AOk A) : (rsA A).length ≤ 12 := hA.1.2.1.1
theorem gM_ok (hA : AOk A) : GOk (okM A) (okR A) (gM A) := by
  have hl := rs_le hA
  intro w hw
  rcases hw with ⟨k, hk, rfl⟩ | ⟨rfl, h0⟩ | ⟨k, hk, rfl⟩ | ⟨k, hk, rfl⟩
  · obtain ⟨g, h1, h2, ⟨h3, h4, h5, h6, h7⟩, h8⟩ := gM_t hA hk
    rw [h2]
    refine ⟨fun q => h4 q, fun q => ?_, fun q => ?_⟩
    · obtain ⟨s, q1, q2⟩ := h6 q
      exact Or.inl ⟨s, by omega, q2⟩
    · rw [if_pos q] at h7
      obtain ⟨s, q1, q2⟩ := h7
      exact Or.inl ⟨s, by omega, q2⟩
  · rw [gM_b]
    exact ⟨fun q => by simp at q, fun _ => Or.inr (Or.inr (Or.inr ⟨(rsA A).length - 1, by omega, by show jn _ = jn _; congr 1; omega⟩)), fun q => by simp at q⟩
  · rw [gM_r (by omega)]
    exact ⟨fun _ => ⟨k, hk, rfl⟩, fun q => by simp at q, fun q => by simp at q⟩
  · cases k with
    | zero =>
      rw [gM_0]
      exact ⟨fun _ => ⟨0, hk, rfl⟩, fun q => by simp at q, fun q => by simp at q⟩
    | succ k =>
      rw [gM_c (by omega)]
      exact ⟨fun q => by simp at q, fun _ => Or.inr (Or.inr (Or.inr ⟨k, by omega, rfl⟩)), fun _ => Or.inr (Or.inr (Or.inl ⟨k + 1, hk, rfl⟩))⟩
theorem rulC_ok {cm l : Nat} {r : Tm × Tm} (hr : rlOk r) (hl : l < 12) : RFun True 0 (rulC cm r l) := by
  intro t p q ht hs hq
  unfold rulC
  rcases e : mat cm r.1 t with _ | E
  · exact ROk.fl hq
  · simp only
    split
    · exact ROk.over _
    split
    · exact ROk.over _
    rename_i h1 h2
    have z := sz_pos t ht
    obtain ⟨q1, q2, q3, q4, q5⟩ := hq
    refine ⟨sb_wf (mat_ok ht hs e) _ hr.2.1, by omega, ⟨q1, by show q.2.1 + 1 ≤ 40; omega, ?_, q4, ?_⟩, by show q.1 + 0 ≤ q.1; omega, by show q.2.1 ≤ q.2.1 + 1; omega, by show _ ≤ sz t + 39 * (q.2.1 + 1); omega, _, rfl⟩
    · show (q.2.2.1 ++ [(l, p)]).length ≤ q.2.1 + 1
      rw [List.length_append]
      show _ + 1 ≤ _
      omega
    · intro x hx
      rcases List.mem_append.mp hx with hx | hx
      · exact q5 x hx
      · rw [List.mem_singleton] at hx; rw [hx]; exact hl
theorem rl_at (hA : AOk A) {k : Nat} (hk : k < (rsA A).length) : ∃ r, (rsA A)[k]? = some r ∧ (rsA A).getD k (Lf, Lf) = r ∧ rlOk r ∧ k < 12 := by
  obtain ⟨r, hr⟩ : ∃ g, (rsA A)[k]? = some g := ⟨_, List.getElem?_eq_getElem hk⟩
  obtain ⟨h1, h2⟩ := rl_ok hA hr
  exact ⟨r, hr, by rw [List.getD_eq_getElem?_getD, hr]; rfl, h1, h2⟩
theorem fM_ok (hA : AOk A) : FOk (okR A) (fM A) := by
  rintro r ⟨k, hk, rfl⟩
  obtain ⟨rl, h1, h2, h3, h4⟩ := rl_at hA hk
  unfold fM
  rw [jnN (by omega), h2]
  exact rulC_ok h3 h4
theorem m_kind {w : Int32} (hd : 1 ≤ d) (hA : AOk A) (h : RM A M) (hw : okM A w) : pcl GG lay d 127 [.ref 52, .int w] M = rI (jn (gM A w).1) M := by
  obtain ⟨d, rfl⟩ := ex_add hd
  have hl := rs_le hA
  rw [q_127]
  rcases hw with ⟨k, hk, rfl⟩ | ⟨rfl, h0⟩ | ⟨k, hk, rfl⟩ | ⟨k, hk, rfl⟩
  · obtain ⟨g, h1, h2, h3, h4⟩ := gM_t hA hk
    rw [h2, ieq_neg (by omega) (by omega) (by omega), ilt_pos (by omega) (by omega), ilt_pos (by omega) (by omega), (d_sg h h1 h4).1, oB_s]
  · rw [gM_b, ieq_pos rfl]
  · rw [gM_r (by omega), ieq_neg (by omega) (by omega) (by omega), ilt_pos (by omega) (by omega), ilt_neg (by omega) (by omega)]
  · rw [ieq_neg (by omega) (by omega) (by omega), ilt_neg (by omega) (by omega)]
    cases k with
    | zero => rw [gM_0, ieq_pos rfl]
    | succ k => rw [gM_c (by omega), ieq_neg (by omega) (by omega) (by omega)]
theorem m_fst {w : Int32} (hd : 1 ≤ d) (hA : AOk A) (h : RM A M) (hw : okM A w) : pcl GG lay d 128 [.ref 52, .int w] M = rI (gM A w).2.1 M := by
  obtain ⟨d, rfl⟩ := ex_add hd
  have hl := rs_le hA
  rw [q_128]
  rcases hw with ⟨k, hk, rfl⟩ | ⟨rfl, h0⟩ | ⟨k, hk, rfl⟩ | ⟨k, hk, rfl⟩
  · obtain ⟨g, h1, h2, h3, h4⟩ := gM_t hA hk
    rw [h2, ieq_neg (by omega) (by omega) (by omega), ilt_pos (by omega) (by omega), ilt_pos (by omega) (by omega), (d_sg h h1 h4).2.1, oB_s]
  · have e3 : M.1 52 3 = jn (rsA A).length := h.1.1.2.1
    rw [gM_b, ieq_pos rfl, e3, jn_add, jn_sub (by omega), show 1000 + (rsA A).length - 1 = 999 + (rsA A).length by omega]
  · rw [gM_r (by omega), ieq_neg (by omega) (by omega) (by omega), ilt_pos (by omega) (by omega), ilt_neg (by omega) (by omega), jn_sub (by omega), Nat.add_sub_cancel_left]
  · rw [ieq_neg (by omega) (by omega) (by omega), ilt_neg (by omega) (by omega)]
    cases k with
    | zero => rw [gM_0, ieq_pos rfl]
    | succ k => rw [gM_c (by omega), ieq_neg (by omega) (by omega) (by omega), jn_sub (by omega), show 1000 + (k + 1) - 1 = 1000 + k by omega]
theorem m_snd {w : Int32} (hd : 1 ≤ d) (hA : AOk A) (h : RM A M) (hw : okM A w) (h34 : (gM A w).1 = 3 ∨ (gM A w).1 = 4) : pcl GG lay d 129 [.ref 52, .int w] M = rI (gM A w).2.2 M := by
  obtain ⟨d, rfl⟩ := ex_add hd
  have hl := rs_le hA
  rw [q_129]
  rcases hw with ⟨k, hk, rfl⟩ | ⟨rfl, h0⟩ | ⟨k, hk, rfl⟩ | ⟨k, hk, rfl⟩
  · obtain ⟨g, h1, h2, h3, h4⟩ := gM_t hA hk
    rw [h2, ilt_pos (by omega) (by omega), (d_sg h h1 h4).2.2, oB_s]
  · rw [gM_b] at h34; simp at h34
  · rw [gM_r (by omega)] at h34; simp at h34
  · cases k with
    | zero => rw [gM_0] at h34; simp at h34
    | succ k => rw [gM_c (by omega), ilt_neg (by omega) (by omega), jn_add, jn_sub (by omega), show 200 + (1000 + (k + 1)) - 1000 = 200 + (k + 1) by omega]
end
