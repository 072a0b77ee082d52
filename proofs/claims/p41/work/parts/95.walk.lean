/-! the system's run: a walk through the arguments -/
section
variable {d dd n k s s0 : Nat} {u1 u2 u4 : Option Value} {A : AT} {M M' M0 : PM} {V : Int32 → Prop} {f : Nat} {w w' : Int32} {P P' : Int64} {q0 q q' q1 q2 : RnS} {b p0 top top' top1 top2 p p' p1 st st' : Nat} {u0 u u' x x' : Tm}
theorem XR.ev (h : XR A V f w P q0 b p0 u0 M0 q top p u st M) : Ev q0 q := h.2.2.2.2.2.1
theorem Ag_of {o : Nat} {M2 : PM} (hx : wf x) (ho : o + sz x ≤ top) (h : p1 = o ∧ x' = x ∧ top1 = top ∨ p1 = top ∧ top1 = top + sz x' ∧ q.2.1 < q1.2.1) (hx' : wf x') (hat : At (M.1 7) p1 (en x')) (h7 : ∀ j, j < top1 → M2.1 7 j = M.1 7 j) (ht : top1 ≤ top2) (hq : q0.2.1 ≤ q.2.1) (hq2 : q1.2.1 ≤ q2.2.1) : Ag (jn p1) o x q0 q2 top2 M2 p1 x' := by
  have z := sz_pos x hx
  have e : (en x').length = sz x' := rfl
  rcases h with ⟨rfl, rfl, rfl⟩ | ⟨rfl, rfl, h3⟩
  · exact ⟨Or.inr rfl, Or.inl ⟨rfl, rfl⟩, hx, At_congr hat (fun j j1 j2 => h7 j (by omega)), by omega⟩
  · exact ⟨Or.inr rfl, Or.inr ⟨by omega, by omega⟩, hx', At_congr hat (fun j j1 j2 => h7 j (by omega)), by omega⟩
/-- an argument that failed stays -/
theorem Ag_no {o : Nat} {M2 : PM} (hx : wf x) (hat : At (M2.1 7) o (en x)) (ho : o + sz x ≤ top2) : Ag (jz 1) o x q0 q2 top2 M2 o x := ⟨Or.inl ⟨rfl, rfl⟩, Or.inl ⟨rfl, rfl⟩, hx, hat, ho⟩
theorem Gl.join {v : Tm} {a1 a2 : Int32} (hj : ∃ M', pcl GG lay d 215 [.ref 29, .int (jn f), .int a1, .int a2] M = rV M' ∧ ((40 < sz v ∧ Ovr A V M0 M') ∨ (sz v ≤ 40 ∧ Wk A V f w P q0 b p0 u0 M0 q2 p u v M'))) (out : RnR → RnR) (ho : ∀ q1, q1.2.2.2 = true → (out (none, q1)).2.2.2.2 = true) (hk : k + s0 + 2 ≤ 3 * q2.1)
    (cont : ∀ M', Wk A V f w P q0 b p0 u0 M0 q2 p u v M' → Gl A V dd u1 u2 f q0 b p0 u0 M0 s0 (E_200 dd (36, [some (.ref 29), u1, u2, some (.int (jn k)), u4], [], M')) (out (some v, q2))) :
    Gl A V dd u1 u2 f q0 b p0 u0 M0 s0 (kV (kV (pcl GG lay d 215 [.ref 29, .int (jn f), .int a1, .int a2] M) fun M => rV M) fun M2 => E_200 dd (36, [some (.ref 29), u1, u2, some (.int (jn k)), u4], [], M2)) (out (chk v q2)) := by
  obtain ⟨M', e1, h1 | h1⟩ := hj
  · rw [e1, kV_r, kV_r]
    unfold chk
    rw [if_pos h1.1]
    exact Gl.ended (ho _ rfl) h1.2.1 h1.2.2.1 h1.2.2.2.1 h1.2.2.2.2
  · rw [e1, kV_r, kV_r]
    unfold chk
    rw [if_neg (by omega)]
    exact cont M' h1.2
/-- both arguments, once the first is known -/
theorem x_walkA (hd : 9 ≤ d) (hdd : 9 ≤ dd) (hA : AOk A) (hV : GOk V (okR A) (gM A)) (hT : Tn A V dd u1 u2 n) (hC : FC f q0 b p0 u0) (hw : V w) (hk2 : 2 < (gM A w).1) (hm : ¬ mayB (gM A w).1) (h : XR A V f w P q0 b p0 u0 M0 q top p u st M) (htop : top ≤ 2120 + 40 * q.2.1) (hk : k + s0 + 2 ≤ 3 * q.1) (hn : 601 ≤ n + q.1) (out : RnR → RnR) (ho : ∀ q1, out (none, q1) = bck q0 (none, q1))
    (cont : ∀ v q1 k' u4' M', Wk A V f w P q0 b p0 u0 M0 q1 p u v M' → k' + s0 + 2 ≤ 3 * q1.1 → q.1 ≤ q1.1 → q.2.1 ≤ q1.2.1 → Gl A V dd u1 u2 f q0 b p0 u0 M0 s0 (E_200 dd (36, [some (.ref 29), u1, u2, some (.int (jn k')), u4'], [], M')) (out (some v, q1))) :
    Gl A V dd u1 u2 f q0 b p0 u0 M0 s0 (kV (pcl GG lay d 209 [.ref 29, .int (jn f)] M) fun M2 => E_200 dd (36, [some (.ref 29), u1, u2, some (.int (jn k)), u4], [], M2)) (out (allC (runF (gM A) (fM A) n (wkr A w)) u P q)) := by
  have hf : f < 600 := by have := hC.2.1; have := hC.2.2.1; omega
  have hR := runF_ok hV (fM_ok hA) n (wkr A w) (wkr_V hV hw hk2)
  have hwk := wkr_V hV hw hk2
  obtain ⟨hX, hc33, ⟨ha7, hwf, hsz⟩, h10, ⟨hb, hpt⟩, hE, hK⟩ := id h
  obtain ⟨c, x, y, rfl, -⟩ := wf_cases hwf
  obtain ⟨w2, w1, w0⟩ := wf_a hwf
  have hq2 := hE.1.2.1
  have hE3 := hE.2.2.1
  have ho2 : ∀ q1, q1.2.2.2 = true → (out (none, q1)).2.2.2.2 = true := fun q1 hq => by rw [ho]; exact hq
  rw [en_n] at ha7
  rw [sz_n] at hsz hpt
  -- an argument that fails ends the frame
  have dead : ∀ (top' : Nat) (st : Nat) (q1 : RnS) (k' : Nat) (u4' : Option Value) (M' : PM), (st = 2 ∨ st = 3) → XR A V f w P q0 b p0 u0 M0 q1 top' p (Nd c x y) st M' → M'.1 29 15 = jz 1 → k' + (s0 + 2) + 1 ≤ 3 * q1.1 → Gl A V dd u1 u2 f q0 b p0 u0 M0 s0 (E_200 dd (36, [some (.ref 29), u1, u2, some (.int (jn k')), u4'], [], M')) (out (none, q1)) := by
    intro top' st q1 k' u4' M' hst z6 z11 z3
    have z0 := z6.ev.1.1
    rw [round_x (by omega) hf z6 (by omega) (by omega), ho]
    rcases hst with rfl | rfl
    · obtain ⟨d2, hd2, e2⟩ := s213_nA (d := dd) (by omega) hf hw hm z6 z11
      obtain ⟨M3, e3, y1, y2, y3⟩ := x_fail (d := d2) (by omega) hA hC z6
      rw [if_neg (by decide), if_neg (by decide), if_pos rfl, e2, e3, kV_r, kV_r]
      exact Gl.dead z6.ev y1 y2 y3 (by omega)
    · obtain ⟨d2, hd2, e2⟩ := s214_nA (d := dd) (by omega) hf hw hm z6 z11
      obtain ⟨M3, e3, y1, y2, y3⟩ := x_fail (d := d2) (by omega) hA hC z6
      rw [if_neg (by decide), if_neg (by decide), if_neg (by decide), if_pos rfl, e2, e3, kV_r, kV_r]
      exact Gl.dead z6.ev y1 y2 y3 (by omega)
  by_cases h0 : ¬ is2 c ∧ ¬ is1 c
  · obtain ⟨h00, rfl, rfl⟩ := w0 h0.1 h0.2
    obtain ⟨d', hd', e0⟩ := s209_0 (d := d) (by omega) hf hw h00 h (by omega)
    rw [if_neg hm] at e0
    obtain ⟨M1, e1, e2⟩ := x_same0 (d := d') (a := p) (by omega) hA hf h (by omega) rfl
    have ea : allC (runF (gM A) (fM A) n (wkr A w)) (Nd c Lf Lf) P q = (some (Nd c Lf Lf), q) := by
      unfold allC; simp only [if_neg h0.1, if_neg h0.2]; unfold chk; rw [if_neg (by rw [sz_n]; omega)]
    rw [e0, kV_id, e1, kV_r, ea]
    exact cont _ q k u4 M1 e2 hk (Nat.le_refl _) (Nat.le_refl _)
  have hc : is1 c ∨ is2 c := by
    by_cases h2 : is2 c
    · exact Or.inr h2
    · exact Or.inl (Classical.byContradiction fun z => h0 ⟨h2, z⟩)
  have wx : wf x := by
    rcases hc with h1 | h2
    · exact (w1 (by omega) h1).1
    · exact (w2 h2).1
  have hax : At (M.1 7) (p + 1) (en x) := ((At_app _ _ _).mp ha7.2).1
  obtain ⟨d', hd', e0⟩ := s209_1 (d := d) (by omega) hf hw hk2 hc h (by omega)
  obtain ⟨M1, e1, kd1⟩ := kid (d := d') (st' := 2) (s := s0 + 2) (k := k) (u4 := u4) (P' := pth P 1) (by omega) hA hV hT hC h hwk hax wx (by omega) (by omega) htop hn (by omega)
  rw [e0, kV_id, e1, kV_r]
  have hro := hR x (pth P 1) q wx (by omega) hE.1
  rcases e : runF (gM A) (fM A) n (wkr A w) x (pth P 1) q with ⟨_ | x', q1⟩
  · rw [e] at kd1
    have ea : allC (runF (gM A) (fM A) n (wkr A w)) (Nd c x y) P q = (none, q1) := by
      unfold allC
      rcases hc with h1 | h2
      · simp only [if_neg (show ¬ is2 c by omega), if_pos h1, e]
      · simp only [if_pos h2, e]
    rw [ea]
    rcases kd1 with ⟨z1, M', z2, z3, z4, z5⟩ | ⟨z1, k', u4', M', top', z2, ⟨z3, z4, z5⟩, z6, z7, z8, z9, z10, z11, z12⟩
    · exact Or.inl ⟨ho2 _ z1, M', z2, z3, z4, z5⟩
    · rw [z2]
      exact dead top' 2 q1 k' u4' M' (Or.inl rfl) z6 z11 z3
  · rw [e] at kd1 hro
    obtain ⟨r1, r2, r3, r4, r5, r6, r7⟩ := hro
    rcases kd1 with ⟨z1, -⟩ | ⟨z1, k', u4', M', top', z2, ⟨z3, z4, z5⟩, z6, z7, z8, z9, z10, ⟨z11, z12⟩, p1, z13, z14, z15⟩
    · have z1 : q1.2.2.2 = true := z1
      rw [r3.2.2.2.1] at z1; cases z1
    have z3 : k' + (s0 + 2) + 1 ≤ 3 * q1.1 := z3
    have z6 : XR A V f w P q0 b p0 u0 M0 q1 top' p (Nd c x y) 2 M' := z6
    have z8 : top' ≤ 2120 + 40 * q1.2.1 := z8
    have z15 : p1 = p + 1 ∧ x' = x ∧ top' = top ∨ p1 = top ∧ top' = top + sz x' ∧ q.2.1 < q1.2.1 := z15
    have q11 := r3.1
    have q12 := r3.2.1
    have zx' := sz_pos x' r1
    have hp1 : p1 < 3760 := by rcases z15 with ⟨z, -⟩ | ⟨z, z', -⟩ <;> omega
    obtain ⟨d2, hd2, e2⟩ := s213_s (d := dd) (by omega) hA hf hw (Or.inl hm) z6 z13 hp1
    rw [z2, round_x (by omega) hf z6 (by omega) (by omega), if_neg (by decide), if_neg (by decide), if_pos rfl, e2]
    have z37 := z6.k37 (a := jn p1) hA
    by_cases h2 : is2 c
    · obtain ⟨-, wy⟩ := w2 h2
      have hy7 : At (M'.1 7) (p + 1 + sz x) (en y) := by
        have := z6.2.2.1.1
        rw [en_n] at this
        exact ((At_app _ _ _).mp this.2).2
      have hpt' := z6.2.2.2.2.1.2
      rw [sz_n] at hpt'
      obtain ⟨M2, e3, kd2⟩ := kid (d := d2) (st' := 3) (s := s0 + 2) (k := k' + 1) (u4 := some (.int (jn f))) (P' := pth P 2) (by omega) hA hV hT hC z37 hwk (p' := p + 1 + sz x) (u' := y) hy7 wy (by omega) (by omega) z8 (by omega) (by omega)
      rw [s90_2 (by omega) hf hw hk2 h2 wx z37 (by omega), kV_id, e3, kV_r]
      have hro2 := hR y (pth P 2) q1 wy (by omega) r3
      rcases e' : runF (gM A) (fM A) n (wkr A w) y (pth P 2) q1 with ⟨_ | y', q2⟩
      · rw [e'] at kd2
        have ea : allC (runF (gM A) (fM A) n (wkr A w)) (Nd c x y) P q = (none, q2) := by unfold allC; simp only [if_pos h2, e, e']
        rw [ea]
        rcases kd2 with ⟨v1, M3, v2, v3, v4, v5⟩ | ⟨v1, k2, u42, M3, top2, v2, ⟨v3, v4, v5⟩, v6, v7, v8, v9, v10, v11, v12⟩
        · exact Or.inl ⟨ho2 _ v1, M3, v2, v3, v4, v5⟩
        · rw [v2]
          exact dead top2 3 q2 k2 u42 M3 (Or.inr rfl) v6 v11 v3
      · rw [e'] at kd2 hro2
        obtain ⟨t1, t2, t3, t4, t5, t6, t7⟩ := hro2
        rcases kd2 with ⟨v1, -⟩ | ⟨v1, k2, u42, M3, top2, v2, ⟨v3, v4, v5⟩, v6, v7, v8, v9, v10, ⟨v11, v12⟩, p2, v13, v14, v15⟩
        · have v1 : q2.2.2.2 = true := v1
          rw [t3.2.2.2.1] at v1; cases v1
        have v3 : k2 + (s0 + 2) + 1 ≤ 3 * q2.1 := v3
        have v6 : XR A V f w P q0 b p0 u0 M0 q2 top2 p (Nd c x y) 3 M3 := v6
        have v8 : top2 ≤ 2120 + 40 * q2.2.1 := v8
        have v15 : p2 = p + 1 + sz x ∧ y' = y ∧ top2 = top' ∨ p2 = top' ∧ top2 = top' + sz y' ∧ q1.2.1 < q2.2.1 := v15
        have q21 := t3.1
        have q22 := t3.2.1
        have zy' := sz_pos y' t1
        have hp2 : p2 < 3760 := by rcases v15 with ⟨z, -⟩ | ⟨z, z', -⟩ <;> omega
        have v37 : M3.1 37 f = jn p1 := by rw [v7]; show va_up (M'.1 37) f (jn p1) f = _; rw [up_at, if_pos rfl]
        obtain ⟨d3, hd3, e4⟩ := s214_s (d := dd) (a := jn p1) (by omega) hf v13 hp2 v37
        have ea : allC (runF (gM A) (fM A) n (wkr A w)) (Nd c x y) P q = chk (Nd c x' y') q2 := by unfold allC; simp only [if_pos h2, e, e']
        rw [ea, v2, round_x (by omega) hf v6 (by omega) (by omega), if_neg (by decide), if_neg (by decide), if_neg (by decide), if_pos rfl, e4]
        have a1 : Ag (jn p1) (p + 1) x q0 q2 top2 M3 p1 x' := Ag_of (M := M') wx (by omega) z15 r1 z14 (fun j hj => v9 j hj) v10 hE3 t5
        have a2 : Ag (jn p2) (p + 1 + sz x) y q0 q2 top2 M3 p2 y' := Ag_of (M := M3) wy (by omega) v15 t1 v14 (fun j hj => rfl) (Nat.le_refl _) (by omega) (Nat.le_refl _)
        refine Gl.join (w := w) (P := P) (p := p) (u := Nd c x y) (x_join2 (d := d3) (by omega) hA hC v6 h2 wx wy a1 a2 (fun z => ?_) v8) out ho2 (by omega) (fun M4 hW => cont _ q2 _ _ M4 hW (by omega) (by omega) (by omega))
        rw [jn_jz (by omega) (by omega)] at z
        exact z.1
    · have h1 := hc.resolve_right h2
      obtain ⟨-, rfl⟩ := w1 h2 h1
      have ea : allC (runF (gM A) (fM A) n (wkr A w)) (Nd c x Lf) P q = chk (Nd c x' Lf) q1 := by unfold allC; simp only [if_neg h2, if_pos h1, e]
      have h15 : (p37 M' f (jn p1)).1 29 15 = jn p1 := z13
      rw [s90_1 (by omega) h1 z37 (by omega), h15, ea]
      have a1 : Ag (jn p1) (p + 1) x q0 q1 top' (p37 M' f (jn p1)) p1 x' := Ag_of (M := M') wx (by omega) z15 r1 z14 (fun j hj => rfl) (Nat.le_refl _) hE3 (Nat.le_refl _)
      refine Gl.join (w := w) (P := P) (p := p) (u := Nd c x Lf) (x_join1 (d := d2) (by omega) hA hC z37 h1 wx a1 (fun z => ?_) z8) out ho2 (by omega) (fun M4 hW => cont _ q1 _ _ M4 hW (by omega) (by omega) (by omega))
      rw [jn_jz (by omega) (by omega)] at z
      exact z
end
