/-! the system's run: rounds of its loop; one begun within another -/
theorem kV_id {o : PO} {K : PM → PO} : kV (kV o fun M => rV M) K = kV o K := by
  rcases o with _ | ⟨_ | v, M⟩ <;> rfl
def Gl (A : AT) (V : Int32 → Prop) (dd : Nat) (u1 u2 : Option Value) (f : Nat) (q0 : RnS) (b p0 : Nat) (u0 : Tm) (M0 : PM) (s0 : Nat) (x : PO) (o : RnR) : Prop :=
  (o.2.2.2.2 = true ∧ ∃ M', x = rI (jz 2) M' ∧ RX A M' ∧ TBx A V M' ∧ Fr swX M0 M') ∨ (o.2.2.2.2 = false ∧ ∃ k' u4' M', x = E_200 dd (36, [some (.ref 29), u1, u2, some (.int (jn k')), u4'], [], M') ∧ k' + s0 + 1 ≤ 3 * o.2.1 ∧ Kx f b M0 M' ∧ match o with
    | (some u', q') => ∃ p' top', XF A V q' f top' M' ∧ M'.1 29 15 = jn p' ∧ At (M'.1 7) p' (en u') ∧ (p' = p0 ∧ u' = u0 ∧ top' = b ∨ p' = b ∧ top' = b + sz u' ∧ q0.2.1 < q'.2.1)
    | (none, q') => XF A V q' f b M' ∧ M'.1 29 15 = jz 1)
/-- what is owed of a run with fuel n -/
def Tn (A : AT) (V : Int32 → Prop) (dd : Nat) (u1 u2 : Option Value) (n : Nat) : Prop := ∀ w f P q b p u M k s u4, V w → FC f q b p u → XR A V f w P q b p u M (bgn q) b p u 0 M → k + s ≤ 3 * q.1 → 601 ≤ n + q.1 → Gl A V dd u1 u2 f q b p u M s (E_200 dd (36, [some (.ref 29), u1, u2, some (.int (jn k)), u4], [], M)) (runF (gM A) (fM A) n w u P q)
section
variable {d dd n k s s0 : Nat} {u1 u2 u4 : Option Value} {A : AT} {M M' M0 : PM} {V : Int32 → Prop} {f : Nat} {w w' : Int32} {P P' : Int64} {q0 q : RnS} {b p0 top p p' st st' : Nat} {u0 u u' : Tm}
theorem over_x (h : M.1 29 16 = jn 1) : E_200 dd (36, [some (.ref 29), u1, u2, some (.int (jn k)), u4], [], M) = rI (jz 2) M := by
  rw [h_200_36, h]
  have e : ∀ (x y : PO), (if (jn 1) = jn 0 then x else y) = y := fun x y => ieq_neg (by omega) (by omega) (by omega)
  simp only [e]
  split
  · split <;> rfl
  · rfl
/-- one round of the loop -/
theorem round_x (hd : 1 ≤ dd) (hf : f < 600) (h : XR A V f w P q0 b p0 u0 M0 q top p u st M) (hk : k < 1800) (hst : st < 6) : E_200 dd (36, [some (.ref 29), u1, u2, some (.int (jn k)), u4], [], M) =
    if st = 0 then kV (pcl GG lay dd 206 [.ref 29, .int (jn f)] M) (fun M2 => E_200 dd (36, [some (.ref 29), u1, u2, some (.int (jn (k + 1))), some (.int (jn f))], [], M2))
    else if st = 1 then kV (pcl GG lay dd 208 [.ref 29, .int (jn f)] M) (fun M2 => E_200 dd (36, [some (.ref 29), u1, u2, some (.int (jn (k + 1))), some (.int (jn f))], [], M2))
    else if st = 2 then kV (pcl GG lay dd 213 [.ref 29, .int (jn f)] M) (fun M2 => E_200 dd (36, [some (.ref 29), u1, u2, some (.int (jn (k + 1))), some (.int (jn f))], [], M2))
    else if st = 3 then kV (pcl GG lay dd 214 [.ref 29, .int (jn f)] M) (fun M2 => E_200 dd (36, [some (.ref 29), u1, u2, some (.int (jn (k + 1))), some (.int (jn f))], [], M2))
    else if st = 4 then kV (pcl GG lay dd 216 [.ref 29, .int (jn f)] M) (fun M2 => E_200 dd (36, [some (.ref 29), u1, u2, some (.int (jn (k + 1))), some (.int (jn f))], [], M2))
    else kV (pcl GG lay dd 205 [.ref 29, .int (jn f), .int (M.1 29 15)] M) (fun M2 => E_200 dd (36, [some (.ref 29), u1, u2, some (.int (jn (k + 1))), some (.int (jn f))], [], M2)) := by
  obtain ⟨hX, ⟨g1, g2, g3, g4, g5, g6⟩, -⟩ := h
  obtain ⟨hR, hT, ⟨h11, h12, h13, h14, h16, h30⟩, htr⟩ := hX
  rw [h_200_36, h11, h16, ilt_pos hk (by omega), ilt_pos (by omega) (by omega), ieq_pos rfl, jn_sub (by omega), Nat.add_sub_cancel, c_get (n := 600) hd rfl hf (by omega), kI_r, g4]
  simp only [jn_add]
  simp only [jn_inj (show st < 2147483648 by omega) (show 0 < 2147483648 by omega), jn_inj (show st < 2147483648 by omega) (show 1 < 2147483648 by omega), jn_inj (show st < 2147483648 by omega) (show 2 < 2147483648 by omega), jn_inj (show st < 2147483648 by omega) (show 3 < 2147483648 by omega), jn_inj (show st < 2147483648 by omega) (show 4 < 2147483648 by omega)]
/-- the frame is done -/
theorem Gl.done {M1 : PM} {top' p'' : Nat} (hq : Ev q0 q) (h1 : XF A V q f top' M1) (h2 : M1.1 29 15 = jn p'') (h3 : At (M1.1 7) p'' (en u')) (h4 : p'' = p0 ∧ u' = u0 ∧ top' = b ∨ p'' = b ∧ top' = b + sz u' ∧ q0.2.1 < q.2.1) (h5 : Kx f b M0 M1) (hk : k + s0 + 1 ≤ 3 * q.1) : Gl A V dd u1 u2 f q0 b p0 u0 M0 s0 (E_200 dd (36, [some (.ref 29), u1, u2, some (.int (jn k)), u4], [], M1)) (bck q0 (some u', q)) :=
  Or.inr ⟨hq.1.2.2.2.1, k, u4, M1, rfl, hk, h5, p'', top', h1, h2, h3, h4⟩
theorem Gl.dead {M1 : PM} (hq : Ev q0 q) (h1 : XF A V (q.1, q.2.1, q0.2.2.1, q.2.2.2) f b M1) (h2 : M1.1 29 15 = jz 1) (h5 : Kx f b M0 M1) (hk : k + s0 + 1 ≤ 3 * q.1) : Gl A V dd u1 u2 f q0 b p0 u0 M0 s0 (E_200 dd (36, [some (.ref 29), u1, u2, some (.int (jn k)), u4], [], M1)) (bck q0 (none, q)) :=
  Or.inr ⟨hq.1.2.2.2.1, k, u4, M1, rfl, hk, h5, h1, h2⟩
theorem Gl.ended {M1 : PM} {o : RnR} (ho : o.2.2.2.2 = true) (h1 : RX A M1) (h2 : TBx A V M1) (h3 : M1.1 29 16 = jn 1) (h4 : Fr swX M0 M1) : Gl A V dd u1 u2 f q0 b p0 u0 M0 s0 (E_200 dd (36, [some (.ref 29), u1, u2, some (.int (jn k)), u4], [], M1)) o :=
  Or.inl ⟨ho, M1, over_x h3, h1, h2, h4⟩
/-- what comes back to a frame from one that it began -/
def Kid (A : AT) (V : Int32 → Prop) (dd : Nat) (u1 u2 : Option Value) (f : Nat) (w : Int32) (P : Int64) (q0 : RnS) (b p0 : Nat) (u0 : Tm) (M0 : PM) (q : RnS) (top p : Nat) (u : Tm) (st' : Nat) (M : PM) (s : Nat) (p' : Nat) (u' : Tm) (x : PO) (o : RnR) : Prop :=
  (o.2.2.2.2 = true ∧ ∃ M', x = rI (jz 2) M' ∧ RX A M' ∧ TBx A V M' ∧ Fr swX M0 M') ∨ (o.2.2.2.2 = false ∧ ∃ k' u4' M' top', x = E_200 dd (36, [some (.ref 29), u1, u2, some (.int (jn k')), u4'], [], M') ∧ (k' + s + 1 ≤ 3 * o.2.1 ∧ q.1 + 1 ≤ o.2.1 ∧ q.2.1 ≤ o.2.2.1) ∧ XR A V f w P q0 b p0 u0 M0 o.2 top' p u st' M' ∧ M'.1 37 f = M.1 37 f ∧ top' ≤ 2120 + 40 * o.2.2.1 ∧ (∀ j, j < top → M'.1 7 j = M.1 7 j) ∧ top ≤ top' ∧ match o.1 with
    | some u'' => (wf u'' ∧ sz u'' ≤ 40) ∧ ∃ p'', M'.1 29 15 = jn p'' ∧ At (M'.1 7) p'' (en u'') ∧ (p'' = p' ∧ u'' = u' ∧ top' = top ∨ p'' = top ∧ top' = top + sz u'' ∧ q.2.1 < o.2.2.1)
    | none => M'.1 29 15 = jz 1 ∧ top' = top)
theorem kid (hd : 3 ≤ d) (hA : AOk A) (hV : GOk V (okR A) (gM A)) (hT : Tn A V dd u1 u2 n) (hC : FC f q0 b p0 u0) (h : XR A V f w P q0 b p0 u0 M0 q top p u st M) (hw : V w') (hat : At (M.1 7) p' (en u')) (hu : wf u') (hus : sz u' ≤ 40) (hp : p' + sz u' ≤ top) (htop : top ≤ 2120 + 40 * q.2.1) (hn : 601 ≤ n + q.1) (hk : k + s ≤ 3 * q.1) :
    ∃ M1, pcl GG lay d 201 [.ref 29, .int (jn f), .int (jn st'), .int (jn (phi w')), .int (jn p'), .long P'] M = rV M1 ∧ Kid A V dd u1 u2 f w P q0 b p0 u0 M0 q top p u st' M s p' u' (E_200 dd (36, [some (.ref 29), u1, u2, some (.int (jn k)), u4], [], M1)) (runF (gM A) (fM A) n w' u' P' q) := by
  obtain ⟨d, rfl⟩ := ex_add (show 1 ≤ d by omega)
  obtain ⟨c1, c2, c3, ⟨c4, c5⟩, c6, c7, c8⟩ := hC
  obtain ⟨hX, ⟨g1, g2, g3, g4, g5, g6⟩, ⟨g7, g8, g9⟩, g10, ⟨g11, g12⟩, hE, hK⟩ := h
  have hq1 := hE.1.1
  have hE2 := hE.2.1
  obtain ⟨a1, a2⟩ := x_ask (d := d) (x := phi w') (p := p') (P := P') (st := jn st') (l1 := jn f) (g := va_up (M.1 36) f (jn st')) (by omega) hA hX (by omega) hq1 (c_put (n := 600) (by omega) rfl (by omega) (by omega))
  by_cases h6 : q.1 = 600
  · obtain ⟨M1, e1, e2, e3, e4, e5⟩ := a1 h6
    obtain ⟨n, rfl⟩ := ex_add (show 1 ≤ n by omega)
    exact ⟨M1, e1, Or.inl ⟨by rw [runF_600 h6], M1, over_x e4, e2, e3, hK.1.trans (e5.mono (by decide))⟩⟩
  obtain ⟨M1, e1, e2, e3, e33, e34, e35, e36, e38, e39⟩ := a2 (by omega)
  refine ⟨M1, e1, ?_⟩
  have e7 : M1.1 7 = M.1 7 := e3.1 7 (by decide)
  have hEb : Ev q (bgn q) := ⟨⟨by show q.1 + 1 ≤ 600; omega, hE.1.2⟩, Nat.le_refl _, Nat.le_refl _, [], by simp⟩
  have hXR : XR A V (f + 1) w' P' q top p' u' M1 (bgn q) top p' u' 0 M1 := by
    refine ⟨e2, ⟨?_, ?_, ?_, ?_, ?_, ?_⟩, ⟨?_, hu, hus⟩, Or.inl ⟨rfl, rfl⟩, ⟨Nat.le_refl _, hp⟩, hEb, Kx.rf⟩
    · rw [e33, up_at, if_pos rfl]
    · rw [e34, up_at, if_pos rfl]
    · rw [e35, up_at, if_pos rfl]
    · rw [e36, up_at, if_pos rfl]
    · rw [e38, up_at, if_pos rfl]
    · rw [e39, up_at, if_pos rfl]
    · rw [e7]; exact hat
  have hg := hT w' (f + 1) P' q top p' u' M1 k s u4 hw ⟨hE.1, by omega, by omega, ⟨hu, hus⟩, hp, by omega, htop⟩ hXR hk hn
  have hro := runF_ok hV (fM_ok hA) n w' hw u' P' q hu hus hE.1
  have k1 : Kx f b M M1 := by
    refine ⟨e3.mono (by decide), fun j hj => ⟨?_, ?_, ?_, ?_, ?_, ?_, ?_⟩, fun j hj => by rw [e7]⟩
    · rw [e33, up_at, if_neg (by omega)]
    · rw [e34, up_at, if_neg (by omega)]
    · rw [e35, up_at, if_neg (by omega)]
    · rw [e36, up_at, if_neg (by omega), up_at, if_neg (by omega)]
    · rw [e3.1 37 (by decide)]
    · rw [e38, up_at, if_neg (by omega)]
    · rw [e39, up_at, if_neg (by omega)]
  generalize ho : runF (gM A) (fM A) n w' u' P' q = o at hg hro
  rcases hg with ⟨z1, M', z2, z3, z4, z5⟩ | ⟨z1, k', u4', M', z2, z3, z4, z5⟩
  · exact Or.inl ⟨z1, M', z2, z3, z4, hK.1.trans ((e3.mono (by decide)).trans z5)⟩
  -- the frame is as it was
  have fr : ∀ top', XF A V o.2 (f + 1) top' M' → b ≤ top' → p + sz u ≤ top' → Ev q0 o.2 → XR A V f w P q0 b p0 u0 M0 o.2 top' p u st' M' := by
    intro top' hX' hb hpt hEv
    obtain ⟨y1, y2, y3, y4, y5, y6, y7⟩ := z4.2.1 f (by omega)
    refine ⟨hX', ⟨?_, ?_, ?_, ?_, ?_, ?_⟩, ⟨At_congr g7 (fun j j1 j2 => ?_), g8, g9⟩, ?_, ⟨hb, hpt⟩, hEv, hK.trans (k1.trans (z4.mono (by omega) (by omega)))⟩
    · rw [y1, e33, up_at, if_neg (by omega)]; exact g1
    · rw [y2, e34, up_at, if_neg (by omega)]; exact g2
    · rw [y3, e35, up_at, if_neg (by omega)]; exact g3
    · rw [y4, e36, up_at, if_neg (by omega), up_at, if_pos rfl]
    · rw [y6, e38, up_at, if_neg (by omega)]; exact g5
    · rw [y7, e39, up_at, if_neg (by omega)]; exact g6
    · have : (en u).length = sz u := rfl
      rw [z4.2.2 j (by omega), e7]
    · rcases g10 with g10 | ⟨g10, g13⟩
      · exact Or.inl g10
      · refine Or.inr ⟨g10, Nat.lt_of_lt_of_le g13 ?_⟩
        rcases o with ⟨_ | t, q'⟩
        · rcases hro with hro | hro
          · rw [z1] at hro; cases hro
          · exact hro.2.2.1
        · exact hro.2.2.2.2.1
  have f37 : M'.1 37 f = M.1 37 f := by
    obtain ⟨y1, y2, y3, y4, y5, y6, y7⟩ := z4.2.1 f (by omega)
    rw [y5, e3.1 37 (by decide)]
  have f7 : ∀ j, j < top → M'.1 7 j = M.1 7 j := fun j hj => by rw [z4.2.2 j hj, e7]
  obtain ⟨tr, htr⟩ := hE.2.2.2
  have hE3 := hE.2.2.1
  refine Or.inr ⟨z1, k', u4', M', ?_⟩
  rcases o with ⟨_ | t, q'⟩
  · obtain ⟨y1, y2⟩ := z5
    rcases hro with hro | ⟨r1, r2, r3, tr', r4, -⟩
    · rw [z1] at hro; cases hro
    have r2 : q.1 + 1 ≤ q'.1 := r2
    exact ⟨top, z2, ⟨z3, r2, r3⟩, fr top y1 (by omega) (by omega) ⟨r1, by show q0.1 + 1 ≤ q'.1; omega, by show q0.2.1 ≤ q'.2.1; omega, tr ++ tr', by show q'.2.2.1 = _; rw [r4, htr, List.append_assoc]⟩, f37, by show top ≤ 2120 + 40 * q'.2.1; omega, f7, Nat.le_refl _, y2, rfl⟩
  · obtain ⟨r1, r2, r3, r4, r5, r6, tr', r7⟩ := hro
    obtain ⟨p'', top', y1, y2, y3, y4⟩ := z5
    have hEv : Ev q0 q' := ⟨r3, by omega, by omega, tr ++ tr', by rw [r7, htr, List.append_assoc]⟩
    have hb : top ≤ top' ∧ top' ≤ 2120 + 40 * q'.2.1 := by
      rcases y4 with ⟨-, -, y4⟩ | ⟨-, y4, y5⟩
      · omega
      · omega
    exact ⟨top', z2, ⟨z3, r4, r5⟩, fr top' y1 (by omega) (by omega) hEv, f37, hb.2, f7, hb.1, ⟨r1, r2⟩, p'', y2, y3, y4⟩
/-- the walk through the arguments is over -/
theorem x_endw {a : Int32} (hd : 2 ≤ d) (hA : AOk A) (hf : f < 600) (h : XR A V f w P q0 b p0 u0 M0 q top p u st M) : ∃ M', pcl GG lay d 210 [.ref 29, .int (jn f), .int a] M = rV M' ∧ XR A V f w P q0 b p0 u0 M0 q top p u 4 M' ∧ M'.1 29 15 = a ∧ M'.1 7 = M.1 7 := by
  obtain ⟨d, rfl⟩ := ex_add hd
  obtain ⟨hX, ⟨g1, g2, g3, g4, g5, g6⟩, ⟨g7, g8, g9⟩, g10, ⟨g11, g12⟩, hE, hK⟩ := h
  obtain ⟨hR, hT, ⟨h11, h12, h13, h14, h16, h30⟩, htr⟩ := id hX
  rw [q_210, c_put (n := 600) (by omega) rfl hf (by omega), kV_r, wr_e]
  generalize hM3 : sI (sI M 36 _) 29 _ = M3
  have f3 : Fr [29, 36] M M3 := by rw [← hM3]; exact (Fr.sI (by decide)).trans (Fr.sI (by decide))
  have a29 : M3.1 29 = va_up (M.1 29) 15 a := by rw [← hM3]; rfl
  have a36 : M3.1 36 = va_up (M.1 36) f (jn 4) := by rw [← hM3]; rfl
  clear hM3
  have hX3 : XF A V q (f + 1) top M3 := hX.upd hA (f3.mono (by decide)) (fun _ _ => by rw [f3.1 7 (by decide)]) (by rw [a29, f3.1 30 (by decide)]; exact ⟨h11, h12, h13, h14, h16, h30⟩) (fun k x hx => by rw [f3.1 31 (by decide), f3.2 32 (by decide)]; exact htr k x hx)
  refine ⟨M3, rfl, ⟨hX3, ⟨?_, ?_, ?_, ?_, ?_, ?_⟩, ⟨?_, g8, g9⟩, g10, ⟨g11, g12⟩, hE, hK.trans ⟨f3.mono (by decide), fun j hj => ⟨?_, ?_, ?_, ?_, ?_, ?_, ?_⟩, fun j hj => ?_⟩⟩, ?_, ?_⟩
  · rw [f3.1 33 (by decide)]; exact g1
  · rw [f3.1 34 (by decide)]; exact g2
  · rw [f3.2 35 (by decide)]; exact g3
  · rw [a36, up_at, if_pos rfl]
  · rw [f3.1 38 (by decide)]; exact g5
  · rw [f3.1 39 (by decide)]; exact g6
  · rw [f3.1 7 (by decide)]; exact g7
  · rw [f3.1 33 (by decide)]
  · rw [f3.1 34 (by decide)]
  · rw [f3.2 35 (by decide)]
  · rw [a36, up_at, if_neg (by omega)]
  · rw [f3.1 37 (by decide)]
  · rw [f3.1 38 (by decide)]
  · rw [f3.1 39 (by decide)]
  · rw [f3.1 7 (by decide)]
  · rw [a29, up_at, if_pos rfl]
  · exact f3.1 7 (by decide)
end
