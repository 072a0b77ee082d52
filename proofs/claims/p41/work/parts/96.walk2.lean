/-! the system's run: a walk where one is enough, or some are -/
section
variable {d dd n k s s0 : Nat} {u1 u2 u4 : Option Value} {A : AT} {M M' M0 : PM} {V : Int32 → Prop} {f : Nat} {w w' : Int32} {P P' : Int64} {q0 q q' q1 q2 : RnS} {b p0 top top' top1 top2 p p' p1 st st' : Nat} {u0 u u' x x' : Tm}
/-- one or some -/
def onC (k : Nat) (R : Tm → Int64 → RnS → RnR) (t : Tm) (p : Int64) (q : RnS) : RnR := if k = 8 then somC R t p q else oneC R t p q
theorem onC_0 {R : Tm → Int64 → RnS → RnR} {c : Int32} {x y : Tm} {k : Nat} {p : Int64} {q : RnS} (h2 : ¬ is2 c) (h1 : ¬ is1 c) : onC k R (Nd c x y) p q = (none, q) := by
  unfold onC
  split
  · unfold somC; simp only [if_neg h2, if_neg h1]
  · unfold oneC; simp only [if_neg h2, if_neg h1]
theorem onC_1n {R : Tm → Int64 → RnS → RnR} {c : Int32} {x y : Tm} {k : Nat} {p : Int64} {q q1 : RnS} (h1 : is1 c) (e : R x (pth p 1) q = (none, q1)) : onC k R (Nd c x y) p q = (none, q1) := by
  have h2 : ¬ is2 c := by omega
  unfold onC
  split
  · unfold somC; simp only [if_neg h2, if_pos h1, e]
  · unfold oneC; simp only [if_neg h2, if_pos h1, e]
theorem onC_1s {R : Tm → Int64 → RnS → RnR} {c : Int32} {x y x' : Tm} {k : Nat} {p : Int64} {q q1 : RnS} (h1 : is1 c) (e : R x (pth p 1) q = (some x', q1)) : onC k R (Nd c x y) p q = chk (Nd c x' y) q1 := by
  have h2 : ¬ is2 c := by omega
  unfold onC
  split
  · unfold somC; simp only [if_neg h2, if_pos h1, e]
  · unfold oneC; simp only [if_neg h2, if_pos h1, e]
theorem onC_2o {R : Tm → Int64 → RnS → RnR} {c : Int32} {x y : Tm} {k : Nat} {p : Int64} {q q1 : RnS} (h2 : is2 c) (e : R x (pth p 1) q = (none, q1)) (ho : q1.2.2.2 = true) : onC k R (Nd c x y) p q = (none, q1) := by
  unfold onC
  split
  · unfold somC; simp only [if_pos h2, e, if_pos ho]
  · unfold oneC; simp only [if_pos h2, e, if_pos ho]
theorem onC_2nn {R : Tm → Int64 → RnS → RnR} {c : Int32} {x y : Tm} {k : Nat} {p : Int64} {q q1 q2 : RnS} (h2 : is2 c) (e : R x (pth p 1) q = (none, q1)) (ho : ¬ q1.2.2.2 = true) (e' : R y (pth p 2) q1 = (none, q2)) : onC k R (Nd c x y) p q = (none, q2) := by
  unfold onC
  split
  · unfold somC; simp only [if_pos h2, e, if_neg ho, e']
  · unfold oneC; simp only [if_pos h2, e, if_neg ho, e']
theorem onC_2ns {R : Tm → Int64 → RnS → RnR} {c : Int32} {x y y' : Tm} {k : Nat} {p : Int64} {q q1 q2 : RnS} (h2 : is2 c) (e : R x (pth p 1) q = (none, q1)) (ho : ¬ q1.2.2.2 = true) (e' : R y (pth p 2) q1 = (some y', q2)) : onC k R (Nd c x y) p q = chk (Nd c x y') q2 := by
  unfold onC
  split
  · unfold somC; simp only [if_pos h2, e, if_neg ho, e']
  · unfold oneC; simp only [if_pos h2, e, if_neg ho, e']
theorem onC_2s {R : Tm → Int64 → RnS → RnR} {c : Int32} {x y x' : Tm} {k : Nat} {p : Int64} {q q1 : RnS} (h2 : is2 c) (e : R x (pth p 1) q = (some x', q1)) (h8 : k ≠ 8) : onC k R (Nd c x y) p q = chk (Nd c x' y) q1 := by
  unfold onC
  rw [if_neg h8]
  unfold oneC; simp only [if_pos h2, e]
theorem onC_2so {R : Tm → Int64 → RnS → RnR} {c : Int32} {x y x' : Tm} {k : Nat} {p : Int64} {q q1 q2 : RnS} (h2 : is2 c) (e : R x (pth p 1) q = (some x', q1)) (h8 : k = 8) (e' : R y (pth p 2) q1 = (none, q2)) (ho : q2.2.2.2 = true) : onC k R (Nd c x y) p q = (none, q2) := by
  unfold onC
  rw [if_pos h8]
  unfold somC; simp only [if_pos h2, e, e', if_pos ho]
theorem onC_2sn {R : Tm → Int64 → RnS → RnR} {c : Int32} {x y x' : Tm} {k : Nat} {p : Int64} {q q1 q2 : RnS} (h2 : is2 c) (e : R x (pth p 1) q = (some x', q1)) (h8 : k = 8) (e' : R y (pth p 2) q1 = (none, q2)) (ho : ¬ q2.2.2.2 = true) : onC k R (Nd c x y) p q = chk (Nd c x' y) q2 := by
  unfold onC
  rw [if_pos h8]
  unfold somC; simp only [if_pos h2, e, e', if_neg ho]
theorem onC_2ss {R : Tm → Int64 → RnS → RnR} {c : Int32} {x y x' y' : Tm} {k : Nat} {p : Int64} {q q1 q2 : RnS} (h2 : is2 c) (e : R x (pth p 1) q = (some x', q1)) (h8 : k = 8) (e' : R y (pth p 2) q1 = (some y', q2)) : onC k R (Nd c x y) p q = chk (Nd c x' y') q2 := by
  unfold onC
  rw [if_pos h8]
  unfold somC; simp only [if_pos h2, e, e']
theorem x_walkO (hd : 9 ≤ d) (hdd : 9 ≤ dd) (hA : AOk A) (hV : GOk V (okR A) (gM A)) (hT : Tn A V dd u1 u2 n) (hC : FC f q0 b p0 u0) (hw : V w) (hk2 : 2 < (gM A w).1) (hm : mayB (gM A w).1) (h : XR A V f w P q0 b p0 u0 M0 q top p u st M) (htop : top ≤ 2120 + 40 * q.2.1) (hk : k + s0 + 2 ≤ 3 * q.1) (hn : 601 ≤ n + q.1) (out : RnR → RnR) (ho2 : ∀ q1, q1.2.2.2 = true → (out (none, q1)).2.2.2.2 = true)
    (cont : ∀ v q1 k' u4' M', Wk A V f w P q0 b p0 u0 M0 q1 p u v M' → k' + s0 + 2 ≤ 3 * q1.1 → Gl A V dd u1 u2 f q0 b p0 u0 M0 s0 (E_200 dd (36, [some (.ref 29), u1, u2, some (.int (jn k')), u4'], [], M')) (out (some v, q1)))
    (contF : ∀ q1 k' u4' top' M', XR A V f w P q0 b p0 u0 M0 q1 top' p u 4 M' → M'.1 29 15 = jz 1 → k' + s0 + 2 ≤ 3 * q1.1 → Gl A V dd u1 u2 f q0 b p0 u0 M0 s0 (E_200 dd (36, [some (.ref 29), u1, u2, some (.int (jn k')), u4'], [], M')) (out (none, q1))) :
    Gl A V dd u1 u2 f q0 b p0 u0 M0 s0 (kV (pcl GG lay d 209 [.ref 29, .int (jn f)] M) fun M2 => E_200 dd (36, [some (.ref 29), u1, u2, some (.int (jn k)), u4], [], M2)) (out (onC (gM A w).1 (runF (gM A) (fM A) n (wkr A w)) u P q)) := by
  have hf : f < 600 := by have := hC.2.1; have := hC.2.2.1; omega
  have hR := runF_ok hV (fM_ok hA) n (wkr A w) (wkr_V hV hw hk2)
  have hwk := wkr_V hV hw hk2
  obtain ⟨hX, hc33, ⟨ha7, hwf, hsz⟩, h10, ⟨hb, hpt⟩, hE, hK⟩ := id h
  obtain ⟨c, x, y, rfl, -⟩ := wf_cases hwf
  obtain ⟨w2, w1, w0⟩ := wf_a hwf
  have hq2 := hE.1.2.1
  have hE3 := hE.2.2.1
  rw [en_n] at ha7
  rw [sz_n] at hsz hpt
  have hjz : ∀ {n : Nat}, n < 3760 → jn n = jz 1 → False := fun hn z => by rw [jn_jz (by omega) (by omega)] at z; exact z
  -- neither could
  have fail : ∀ (q1 : RnS) (top' st d3 : Nat) (M' : PM) (k' : Nat) (u4' : Option Value), 3 ≤ d3 → XR A V f w P q0 b p0 u0 M0 q1 top' p (Nd c x y) st M' → k' + s0 + 2 ≤ 3 * q1.1 → Gl A V dd u1 u2 f q0 b p0 u0 M0 s0 (kV (kV (pcl GG lay d3 215 [.ref 29, .int (jn f), .int (jz 1), .int (jz 1)] M') fun M => rV M) fun M2 => E_200 dd (36, [some (.ref 29), u1, u2, some (.int (jn k')), u4'], [], M2)) (out (none, q1)) := by
    intro q1 top' st d3 M' k' u4' hd3 z6 z3
    obtain ⟨d4, rfl⟩ := ex_add (show 1 ≤ d3 by omega)
    obtain ⟨M5, e5, y1, y2, y3⟩ := x_endw (d := d4) (a := jz 1) (by omega) hA hf z6
    rw [q_215, if_pos rfl, if_pos rfl, e5, kV_r, kV_r, kV_r]
    exact contF q1 k' u4' top' M5 y1 y2 z3
  by_cases h0 : ¬ is2 c ∧ ¬ is1 c
  · obtain ⟨h00, rfl, rfl⟩ := w0 h0.1 h0.2
    obtain ⟨d', hd', e0⟩ := s209_0 (d := d) (by omega) hf hw h00 h (by omega)
    rw [if_pos hm] at e0
    obtain ⟨M1, e1, y1, y2, y3⟩ := x_endw (d := d') (a := jz 1) (by omega) hA hf h
    rw [e0, kV_id, e1, kV_r, onC_0 h0.1 h0.2]
    exact contF q k u4 top M1 y1 y2 hk
  have hc : is1 c ∨ is2 c := by
    by_cases h2 : is2 c
    · exact Or.inr h2
    · exact Or.inl (Classical.byContradiction fun z => h0 ⟨h2, z⟩)
  have wx : wf x := by
    rcases hc with h1 | h2
    · exact (w1 (by omega) h1).1
    · exact (w2 h2).1
  have hax : At (M.1 7) (p + 1) (en x) := ((At_app _ _ _).mp ha7.2).1
  obtain ⟨d', hd', e0⟩ := s209_1 (d := d) (by omega) hf hw hk2 hc h (by omega)
  obtain ⟨M1, e1, kd1⟩ := kid (d := d') (st' := 2) (s := s0 + 2) (k := k) (u4 := u4) (P' := pth P 1) (by omega) hA hV hT hC h hwk hax wx (by omega) (by omega) htop hn (by omega)
  rw [e0, kV_id, e1, kV_r]
  have hro := hR x (pth P 1) q wx (by omega) hE.1
  -- the first is known: the second
  have sec : ∀ (q1 : RnS) (top' d2 : Nat) (M' : PM) (k' : Nat) (a1 : Int32) (p1 : Nat) (x' : Tm) (u6 : Option Value), is2 c → d2 + 1 = dd → XR A V f w P q0 b p0 u0 M0 q1 top' p (Nd c x y) 2 M' → M'.1 37 f = a1 → top' ≤ 2120 + 40 * q1.2.1 → k' + s0 + 2 ≤ 3 * q1.1 → q.1 ≤ q1.1 →
      (∀ q2 top2 M2, (∀ j, j < top' → M2.1 7 j = M'.1 7 j) → top' ≤ top2 → q1.2.1 ≤ q2.2.1 → Ag a1 (p + 1) x q0 q2 top2 M2 p1 x') →
      (∀ q2, runF (gM A) (fM A) n (wkr A w) y (pth P 2) q1 = (none, q2) → q2.2.2.2 = true → onC (gM A w).1 (runF (gM A) (fM A) n (wkr A w)) (Nd c x y) P q = (none, q2)) →
      (∀ q2, runF (gM A) (fM A) n (wkr A w) y (pth P 2) q1 = (none, q2) → ¬ q2.2.2.2 = true → onC (gM A w).1 (runF (gM A) (fM A) n (wkr A w)) (Nd c x y) P q = if a1 = jz 1 then (none, q2) else chk (Nd c x' y) q2) →
      (∀ q2 y', runF (gM A) (fM A) n (wkr A w) y (pth P 2) q1 = (some y', q2) → onC (gM A w).1 (runF (gM A) (fM A) n (wkr A w)) (Nd c x y) P q = chk (Nd c x' y') q2) →
      Gl A V dd u1 u2 f q0 b p0 u0 M0 s0 (kV (E_213 d2 (90, [some (.ref 29), some (.int (jn f)), some (.int (jn p)), u6, none], [], M')) fun M2 => E_200 dd (36, [some (.ref 29), u1, u2, some (.int (jn k')), some (.int (jn f))], [], M2)) (out (onC (gM A w).1 (runF (gM A) (fM A) n (wkr A w)) (Nd c x y) P q)) := by
    intro q1 top' d2 M' k' a1 p1 x' u6 h2 hd2 z6 z37 z8 z3 z4 ag eo eN es
    obtain ⟨-, wy⟩ := w2 h2
    have hy7 : At (M'.1 7) (p + 1 + sz x) (en y) := by
      have := z6.2.2.1.1
      rw [en_n] at this
      exact ((At_app _ _ _).mp this.2).2
    have hpt' := z6.2.2.2.2.1.2
    rw [sz_n] at hpt'
    have q12 := z6.ev.1.2.1
    have q13 := z6.ev.2.2.1
    obtain ⟨M2, e3, kd2⟩ := kid (d := d2) (st' := 3) (s := s0 + 2) (k := k') (u4 := some (.int (jn f))) (P' := pth P 2) (by omega) hA hV hT hC z6 hwk (p' := p + 1 + sz x) (u' := y) hy7 wy (by omega) (by omega) z8 (by omega) (by omega)
    rw [s90_2 (by omega) hf hw hk2 h2 wx z6 (by omega), kV_id, e3, kV_r]
    have hro2 := hR y (pth P 2) q1 wy (by omega) z6.ev.1
    rcases e' : runF (gM A) (fM A) n (wkr A w) y (pth P 2) q1 with ⟨_ | y', q2⟩
    · rw [e'] at kd2
      rcases kd2 with ⟨v1, M3, v2, v3, v4, v5⟩ | ⟨v1, k2, u42, M3, top2, v2, ⟨v3, v4, v5⟩, v6, v7, v8, v9, v10, v11, v12⟩
      · rw [eo q2 e' v1]
        exact Or.inl ⟨ho2 _ v1, M3, v2, v3, v4, v5⟩
      · have v1 : q2.2.2.2 = false := v1
        have v3 : k2 + (s0 + 2) + 1 ≤ 3 * q2.1 := v3
        have v5 : q1.2.1 ≤ q2.2.1 := v5
        have v6 : XR A V f w P q0 b p0 u0 M0 q2 top2 p (Nd c x y) 3 M3 := v6
        have v8 : top2 ≤ 2120 + 40 * q2.2.1 := v8
        have q21 := v6.ev.1.1
        obtain ⟨d3, hd3, e4⟩ := s214_nO (d := dd) (a := a1) (by omega) hf hw hm v6 v11 (by rw [v7]; exact z37)
        rw [eN q2 e' (by rw [v1]; simp), v2, round_x (by omega) hf v6 (by omega) (by omega), if_neg (by decide), if_neg (by decide), if_neg (by decide), if_pos rfl, e4]
        by_cases ha : a1 = jz 1
        · rw [if_pos ha, ha]
          exact fail q2 top2 3 d3 M3 _ _ (by omega) v6 (by omega)
        · rw [if_neg ha]
          have hy3 : At (M3.1 7) (p + 1 + sz x) (en y) := by
            have := v6.2.2.1.1
            rw [en_n] at this
            exact ((At_app _ _ _).mp this.2).2
          have hpt3 := v6.2.2.2.2.1.2
          rw [sz_n] at hpt3
          exact Gl.join (w := w) (P := P) (p := p) (u := Nd c x y) (x_join2 (d := d3) (by omega) hA hC v6 h2 wx wy (ag q2 top2 M3 v9 v10 v5) (Ag_no wy hy3 (by omega)) (fun z => ha z.1) v8) out ho2 (by omega) (fun M4 hW => cont _ q2 _ _ M4 hW (by omega))
    · rw [e'] at kd2 hro2
      obtain ⟨t1, t2, t3, t4, t5, t6, t7⟩ := hro2
      rcases kd2 with ⟨v1, -⟩ | ⟨v1, k2, u42, M3, top2, v2, ⟨v3, v4, v5⟩, v6, v7, v8, v9, v10, ⟨v11, v12⟩, p2, v13, v14, v15⟩
      · have v1 : q2.2.2.2 = true := v1
        rw [t3.2.2.2.1] at v1; cases v1
      have v3 : k2 + (s0 + 2) + 1 ≤ 3 * q2.1 := v3
      have v6 : XR A V f w P q0 b p0 u0 M0 q2 top2 p (Nd c x y) 3 M3 := v6
      have v8 : top2 ≤ 2120 + 40 * q2.2.1 := v8
      have v15 : p2 = p + 1 + sz x ∧ y' = y ∧ top2 = top' ∨ p2 = top' ∧ top2 = top' + sz y' ∧ q1.2.1 < q2.2.1 := v15
      have q21 := t3.1
      have q22 := t3.2.1
      have zy' := sz_pos y' t1
      have hp2 : p2 < 3760 := by rcases v15 with ⟨z, -⟩ | ⟨z, z', -⟩ <;> omega
      obtain ⟨d3, hd3, e4⟩ := s214_s (d := dd) (a := a1) (by omega) hf v13 hp2 (by rw [v7]; exact z37)
      rw [es q2 y' e', v2, round_x (by omega) hf v6 (by omega) (by omega), if_neg (by decide), if_neg (by decide), if_neg (by decide), if_pos rfl, e4]
      have a2 : Ag (jn p2) (p + 1 + sz x) y q0 q2 top2 M3 p2 y' := Ag_of (M := M3) wy (by omega) v15 t1 v14 (fun j hj => rfl) (Nat.le_refl _) (by omega) (Nat.le_refl _)
      exact Gl.join (w := w) (P := P) (p := p) (u := Nd c x y) (x_join2 (d := d3) (by omega) hA hC v6 h2 wx wy (ag q2 top2 M3 v9 v10 t5) a2 (fun z => hjz hp2 z.2) v8) out ho2 (by omega) (fun M4 hW => cont _ q2 _ _ M4 hW (by omega))
  rcases e : runF (gM A) (fM A) n (wkr A w) x (pth P 1) q with ⟨_ | x', q1⟩
  · rw [e] at kd1
    rcases kd1 with ⟨z1, M', z2, z3, z4, z5⟩ | ⟨z1, k', u4', M', top', z2, ⟨z3, z4, z5⟩, z6, z7, z8, z9, z10, z11, z12⟩
    · have ea : onC (gM A w).1 (runF (gM A) (fM A) n (wkr A w)) (Nd c x y) P q = (none, q1) := by
        rcases hc with h1 | h2
        · exact onC_1n h1 e
        · exact onC_2o h2 e z1
      rw [ea]
      exact Or.inl ⟨ho2 _ z1, M', z2, z3, z4, z5⟩
    have z1 : ¬ q1.2.2.2 = true := by have z1 : q1.2.2.2 = false := z1; rw [z1]; simp
    have z3 : k' + (s0 + 2) + 1 ≤ 3 * q1.1 := z3
    have z4 : q.1 + 1 ≤ q1.1 := z4
    have z6 : XR A V f w P q0 b p0 u0 M0 q1 top' p (Nd c x y) 2 M' := z6
    have z8 : top' ≤ 2120 + 40 * q1.2.1 := z8
    have q11 := z6.ev.1.1
    have z37 := z6.k37 (a := jz 1) hA
    have hpt' := z6.2.2.2.2.1.2
    have q12 := z6.ev.1.2.1
    rw [sz_n] at hpt'
    obtain ⟨d2, hd2, e2⟩ := s213_nO (d := dd) (by omega) hf hw hm z6 z11
    rw [z2, round_x (by omega) hf z6 (by omega) (by omega), if_neg (by decide), if_neg (by decide), if_pos rfl, e2]
    by_cases h2 : is2 c
    · refine sec q1 top' d2 _ (k' + 1) (jz 1) (p + 1) x (some (.int (jn 1))) h2 hd2 z37 (by rw [sI_k, up_at, if_pos rfl]) z8 (by omega) (by omega) (fun q2 top2 M2 j7 jt jq => Ag_no wx ?_ (by omega)) (fun q2 e' ho => onC_2nn h2 e z1 e') (fun q2 e' ho => by rw [if_pos rfl]; exact onC_2nn h2 e z1 e') (fun q2 y' e' => onC_2ns h2 e z1 e')
      have hx7 := z6.2.2.1.1
      rw [en_n] at hx7
      have lx : (en x).length = sz x := rfl
      exact At_congr ((At_app _ _ _).mp hx7.2).1 (fun j j1 j2 => j7 j (by omega))
    · have h1 := hc.resolve_right h2
      rw [s90_1 (by omega) h1 z37 (by omega), onC_1n h1 e]
      have h15 : (p37 M' f (jz 1)).1 29 15 = jz 1 := z11
      rw [h15]
      exact fail q1 top' 2 d2 _ _ _ (by omega) z37 (by omega)
  · rw [e] at kd1 hro
    obtain ⟨r1, r2, r3, r4, r5, r6, r7⟩ := hro
    rcases kd1 with ⟨z1, -⟩ | ⟨z1, k', u4', M', top', z2, ⟨z3, z4, z5⟩, z6, z7, z8, z9, z10, ⟨z11, z12⟩, p1, z13, z14, z15⟩
    · have z1 : q1.2.2.2 = true := z1
      rw [r3.2.2.2.1] at z1; cases z1
    have z3 : k' + (s0 + 2) + 1 ≤ 3 * q1.1 := z3
    have z6 : XR A V f w P q0 b p0 u0 M0 q1 top' p (Nd c x y) 2 M' := z6
    have z8 : top' ≤ 2120 + 40 * q1.2.1 := z8
    have z15 : p1 = p + 1 ∧ x' = x ∧ top' = top ∨ p1 = top ∧ top' = top + sz x' ∧ q.2.1 < q1.2.1 := z15
    have q11 := r3.1
    have q12 := r3.2.1
    have zx' := sz_pos x' r1
    have hp1 : p1 < 3760 := by rcases z15 with ⟨z, -⟩ | ⟨z, z', -⟩ <;> omega
    have z37 := z6.k37 (a := jn p1) hA
    have hpt' := z6.2.2.2.2.1.2
    rw [sz_n] at hpt'
    by_cases h8 : (gM A w).1 = 8
    · obtain ⟨d2, hd2, e2⟩ := s213_s (d := dd) (by omega) hA hf hw (Or.inr h8) z6 z13 hp1
      rw [z2, round_x (by omega) hf z6 (by omega) (by omega), if_neg (by decide), if_neg (by decide), if_pos rfl, e2]
      by_cases h2 : is2 c
      · exact sec q1 top' d2 _ (k' + 1) (jn p1) p1 x' (some (.int (jn 0))) h2 hd2 z37 (by rw [sI_k, up_at, if_pos rfl]) z8 (by omega) (by omega) (fun q2 top2 M2 j7 jt jq => Ag_of (M := M') wx (by omega) z15 r1 z14 (fun j hj => j7 j hj) jt hE3 jq) (fun q2 e' ho => onC_2so h2 e h8 e' ho) (fun q2 e' ho => by rw [if_neg (fun z => hjz hp1 z)]; exact onC_2sn h2 e h8 e' ho) (fun q2 y' e' => onC_2ss h2 e h8 e')
      · have h1 := hc.resolve_right h2
        obtain ⟨-, rfl⟩ := w1 h2 h1
        have h15 : (p37 M' f (jn p1)).1 29 15 = jn p1 := z13
        rw [s90_1 (by omega) h1 z37 (by omega), h15, onC_1s h1 e]
        have a1 : Ag (jn p1) (p + 1) x q0 q1 top' (p37 M' f (jn p1)) p1 x' := Ag_of (M := M') wx (by omega) z15 r1 z14 (fun j hj => rfl) (Nat.le_refl _) hE3 (Nat.le_refl _)
        exact Gl.join (w := w) (P := P) (p := p) (u := Nd c x Lf) (x_join1 (d := d2) (by omega) hA hC z37 h1 wx a1 (fun z => hjz hp1 z) z8) out ho2 (by omega) (fun M4 hW => cont _ q1 _ _ M4 hW (by omega))
    · obtain ⟨d2, hd2, e2⟩ := s213_s1 (d := dd) (by omega) hA hf hw hm h8 z6 z13 hp1 (by omega)
      rw [z2, round_x (by omega) hf z6 (by omega) (by omega), if_neg (by decide), if_neg (by decide), if_pos rfl, e2]
      have a1 : Ag (jn p1) (p + 1) x q0 q1 top' (p37 M' f (jn p1)) p1 x' := Ag_of (M := M') wx (by omega) z15 r1 z14 (fun j hj => rfl) (Nat.le_refl _) hE3 (Nat.le_refl _)
      by_cases h2 : is2 c
      · obtain ⟨-, wy⟩ := w2 h2
        have hy3 : At ((p37 M' f (jn p1)).1 7) (p + 1 + sz x) (en y) := by
          have := z6.2.2.1.1
          rw [en_n] at this
          exact ((At_app _ _ _).mp this.2).2
        rw [onC_2s h2 e h8]
        exact Gl.join (w := w) (P := P) (p := p) (u := Nd c x y) (x_join2 (d := d2) (by omega) hA hC z37 h2 wx wy a1 (Ag_no wy hy3 (by omega)) (fun z => hjz hp1 z.1) z8) out ho2 (by omega) (fun M4 hW => cont _ q1 _ _ M4 hW (by omega))
      · have h1 := hc.resolve_right h2
        obtain ⟨-, rfl⟩ := w1 h2 h1
        rw [onC_1s h1 e]
        exact Gl.join (w := w) (P := P) (p := p) (u := Nd c x Lf) (x_join1 (d := d2) (by omega) hA hC z37 h1 wx a1 (fun z => hjz hp1 z) z8) out ho2 (by omega) (fun M4 hW => cont _ q1 _ _ M4 hW (by omega))
end
