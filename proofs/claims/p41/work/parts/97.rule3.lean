/-! the system's run: a rule at a node; one of the whole; the ends -/
section
variable {d dd n k s s0 : Nat} {u1 u2 u4 : Option Value} {A : AT} {M M' M0 : PM} {V : Int32 → Prop} {f : Nat} {w w' : Int32} {P P' : Int64} {q0 q q' q1 q2 : RnS} {b p0 top top' top1 top2 p p' p1 st st' : Nat} {u0 u u' x x' v : Tm}
theorem x_rul {l : Nat} {r : Tm × Tm} (hd : 9 ≤ d) (hA : AOk A) (hC : FC f q0 b p0 u0) (hr : (rsA A)[l]? = some r) (h : XR A V f w P q0 b p0 u0 M0 q top p u st M) (htop : top ≤ 2120 + 40 * q.2.1) :
    (∃ v q', rulC (cmA A) r l u P q = (some v, q') ∧ ∃ M', pcl GG lay d 207 [.ref 29, .int (jn l), .int (jn p), .long P] M = rI (jn top) M' ∧ XR A V f w P q0 b p0 u0 M0 q' (top + sz v) p u st M' ∧ At (M'.1 7) top (en v) ∧ (wf v ∧ sz v ≤ 40) ∧ q.2.1 < q'.2.1 ∧ q'.1 = q.1) ∨
    (rulC (cmA A) r l u P q = (none, q) ∧ ∃ M', pcl GG lay d 207 [.ref 29, .int (jn l), .int (jn p), .long P] M = rI (jz 1) M' ∧ XR A V f w P q0 b p0 u0 M0 q top p u st M') ∨
    (rulC (cmA A) r l u P q = ovr q ∧ ∃ M', pcl GG lay d 207 [.ref 29, .int (jn l), .int (jn p), .long P] M = rI (jz 1) (sI M' 29 (va_up (M'.1 29) 16 (jn 1))) ∧ XR A V f w P q0 b p0 u0 M0 q top p u st M') := by
  obtain ⟨d, rfl⟩ := ex_add hd
  obtain ⟨c1, c2, c3, ⟨c4, c5⟩, c6, c7, c8⟩ := hC
  obtain ⟨hro, hl⟩ := rl_ok hA hr
  obtain ⟨hX, ⟨g1, g2, g3, g4, g5, g6⟩, ⟨g7, g8, g9⟩, g10, ⟨g11, g12⟩, hE, hK⟩ := id h
  obtain ⟨hR, hT, ⟨h11, h12, h13, h14, h16, h30⟩, htr⟩ := id hX
  have q12 := hE.1.2.1
  have q13 := hE.1.2.2.1
  have hrl := hR.1.2.2.1 l r hr
  have hl7 : At (M.1 7) (960 + 40 * l) (en r.1) := hrl.1
  have hr7 : At (M.1 7) (1440 + 40 * l) (en r.2) := hrl.2
  have h8 : M.1 1 8 = jn (cmA A) := hR.1.1.2.2.2.1
  obtain ⟨M2, e1, e2, e3⟩ := c_match (d := d + 8) (M := M) (cm := cmA A) (P := 960 + 40 * l) (q := p) (p := r.1) (t := u) (by omega) hA.1.2.2.2 (by omega) hro.1 hro.2.2.1 hl7 g8 g9 (by omega) g7
  have hX2 : XR A V f w P q0 b p0 u0 M0 q top p u st M2 := h.upd hA (by omega) (e2.mono (by decide)) (fun j _ => by rw [e2.1 7 (by decide)]) (by rw [e2.1 29 (by decide), e2.1 30 (by decide)]; exact ⟨h11, h12, h13, h14, h16, h30⟩) (fun k x hx => by rw [e2.1 31 (by decide), e2.2 32 (by decide)]; exact htr k x hx) (Nat.le_refl _) hE (Nat.le_refl _)
  rw [q_207, c_lp (by omega), kI_r, h8, e1, kI_r]
  unfold rulC
  cases hm : mat (cmA A) r.1 u with
  | none =>
    refine Or.inr (Or.inl ⟨rfl, M2, ?_, hX2⟩)
    simp only [Option.isSome_none, Bool.false_eq_true, if_false]
    rw [if_pos trivial]
  | some E =>
    have hB := e3 E hm
    have hok := mat_ok g8 g9 hm
    have k13 : M2.1 29 13 = jn q.2.1 := hX2.1.2.2.1.2.2.1
    have k14 : M2.1 29 14 = jn top := hX2.1.2.2.1.2.2.2.1
    simp only [Option.isSome_some, if_true]
    rw [ieq_neg (by omega) (by omega) (by omega), k13]
    by_cases h40 : q.2.1 = 40
    · rw [ilt_neg (by omega) (by omega), wr_e]
      exact Or.inr (Or.inr ⟨by rw [if_pos h40], M2, rfl, hX2⟩)
    have hr72 : At (M2.1 7) (1440 + 40 * l) (en r.2) := by rw [e2.1 7 (by decide)]; exact hr7
    rw [ilt_pos (by omega) (by omega), c_rp (by omega), kI_r, c_sizeOf (e := E) (lo := p) (hi := p + sz u) (by omega) (by omega) hB hro.2.1 hro.2.2.2.1 hr72 (by have := hro.2.2.2.1; omega), kI_r]
    have hbig : sz (sbT E r.2) ≤ 1600 := by
      have := fm_le hok (en r.2)
      rw [← sb_en E r.2 hro.2.1] at this
      have e2 : (en r.2).length = sz r.2 := rfl
      show (en (sbT E r.2)).length ≤ 1600
      have := hro.2.2.2.1
      omega
    by_cases h7 : 40 < sz (sbT E r.2)
    · rw [ilt_pos h7 (by omega), wr_e]
      exact Or.inr (Or.inr ⟨by rw [if_neg h40, if_pos h7], M2, rfl, hX2⟩)
    rw [ilt_neg (by omega) (by omega), wr_e, k13, jn_add]
    have k30 : (sI M2 29 (va_up (M2.1 29) 13 (jn (q.2.1 + 1)))).1 30 2 = jn q.2.2.1.length := hX2.1.2.2.1.2.2.2.2.2
    have k30' : ∀ g g2, (sL (sI (sI M2 29 (va_up (M2.1 29) 13 (jn (q.2.1 + 1)))) 31 g) 32 g2).1 30 2 = jn q.2.2.1.length := fun _ _ => hX2.1.2.2.1.2.2.2.2.2
    have k30'' : ∀ g, (sI (sI M2 29 (va_up (M2.1 29) 13 (jn (q.2.1 + 1)))) 31 g).1 30 2 = jn q.2.2.1.length := fun _ => hX2.1.2.2.1.2.2.2.2.2
    rw [q_254, k30, c_put (n := 40) (by omega) rfl (by omega) (by omega), kV_r, k30'', c_putL (n := 40) (by omega) rfl (by omega) (by omega), kV_r, k30', jn_add, pcl_min (by omega), kI_r, ilt_neg (by omega) (by omega), wr_e, kV_r, c_rp (by omega), kI_r]
    obtain ⟨M6, hM6⟩ : ∃ M6, M6 = sI (sL (sI (sI M2 29 (va_up (M2.1 29) 13 (jn (q.2.1 + 1)))) 31 (va_up ((sI M2 29 (va_up (M2.1 29) 13 (jn (q.2.1 + 1)))).1 31) q.2.2.1.length (jn l))) 32 (va_up ((sI (sI M2 29 (va_up (M2.1 29) 13 (jn (q.2.1 + 1)))) 31 (va_up ((sI M2 29 (va_up (M2.1 29) 13 (jn (q.2.1 + 1)))).1 31) q.2.2.1.length (jn l))).2 32) q.2.2.1.length P)) 30 (va_up ((sL (sI (sI M2 29 (va_up (M2.1 29) 13 (jn (q.2.1 + 1)))) 31 (va_up ((sI M2 29 (va_up (M2.1 29) 13 (jn (q.2.1 + 1)))).1 31) q.2.2.1.length (jn l))) 32 (va_up ((sI (sI M2 29 (va_up (M2.1 29) 13 (jn (q.2.1 + 1)))) 31 (va_up ((sI M2 29 (va_up (M2.1 29) 13 (jn (q.2.1 + 1)))).1 31) q.2.2.1.length (jn l))).2 32) q.2.2.1.length P)).1 30) 2 (jn (q.2.2.1.length + 1))) := ⟨_, rfl⟩
    rw [← hM6]
    have f6 : Fr [29, 30, 31, 32] M2 M6 := by rw [hM6]; exact (((Fr.sI (by decide)).trans (Fr.sI (by decide))).trans (Fr.sL (by decide))).trans (Fr.sI (by decide))
    have a29 : M6.1 29 = va_up (M2.1 29) 13 (jn (q.2.1 + 1)) := by rw [hM6]; rfl
    have a30 : M6.1 30 2 = jn (q.2.2.1.length + 1) := by rw [hM6]; rfl
    have a31 : M6.1 31 = va_up (M2.1 31) q.2.2.1.length (jn l) := by rw [hM6]; rfl
    have a32 : M6.2 32 = va_up (M2.2 32) q.2.2.1.length P := by rw [hM6]; rfl
    clear hM6 k30 k30' k30''
    have a14 : M6.1 29 14 = jn top := by rw [a29, up_at, if_neg (by omega)]; exact k14
    have hB6 : EB p (p + sz u) E M6 := EB_eq hB (f6.1 27 (by decide)) (f6.1 7 (by decide))
    have r2s := hro.2.2.2.1
    obtain ⟨g, y1, y2, y3⟩ := c_put_in (d := d + 8) (M := M6) (P := 1440 + 40 * l) (to := top) (r := r.2) (by omega) (by omega) hB6 hro.2.1 hro.2.2.2.1 (by rw [f6.1 7 (by decide)]; exact hr72) (by omega) (by omega) (Or.inl g12)
    rw [a14, y1, kI_r, wr_e]
    generalize hM9 : sI (sI M6 7 g) 29 _ = M9
    have f9 : Fr [7, 29] M6 M9 := by rw [← hM9]; exact (Fr.sI (by decide)).trans (Fr.sI (by decide))
    have b29 : M9.1 29 = va_up (M6.1 29) 14 (jn (top + sz (sbT E r.2))) := by rw [← hM9]; rfl
    have b7 : M9.1 7 = g := by rw [← hM9]; rfl
    clear hM9
    have ff : Fr [7, 26, 27, 28, 29, 30, 31, 32] M2 M9 := (f6.mono (by decide)).trans (f9.mono (by decide))
    have hq' : QOk (q.1, q.2.1 + 1, q.2.2.1 ++ [(l, P)], q.2.2.2) := by
      refine ⟨hE.1.1, by show q.2.1 + 1 ≤ 40; omega, ?_, hE.1.2.2.2.1, ?_⟩
      · show (q.2.2.1 ++ [(l, P)]).length ≤ q.2.1 + 1
        rw [List.length_append]; show _ + 1 ≤ _; omega
      · intro x hx
        rcases List.mem_append.mp hx with hx | hx
        · exact hE.1.2.2.2.2 x hx
        · rw [List.mem_singleton] at hx; rw [hx]; exact hl
    obtain ⟨tr, htr0⟩ := hE.2.2.2
    have hE' : Ev q0 (q.1, q.2.1 + 1, q.2.2.1 ++ [(l, P)], q.2.2.2) := ⟨hq', hE.2.1, by show q0.2.1 ≤ q.2.1 + 1; have := hE.2.2.1; omega, tr ++ [(l, P)], by show q.2.2.1 ++ _ = _; rw [htr0, List.append_assoc]⟩
    obtain ⟨j11, j12, j13, j14, j16, j30⟩ := hX2.1.2.2.1
    have hX9 : XR A V f w P q0 b p0 u0 M0 (q.1, q.2.1 + 1, q.2.2.1 ++ [(l, P)], q.2.2.2) (top + sz (sbT E r.2)) p u st M9 := by
      refine hX2.upd hA (by omega) ff (fun j hj => by rw [b7, y3 j (Or.inl hj), f6.1 7 (by decide)]) ⟨?_, ?_, ?_, ?_, ?_, ?_⟩ (fun k x hx => ?_) (by omega) hE' (by show q.2.1 ≤ q.2.1 + 1; omega)
      · rw [b29, up_at, if_neg (by omega), a29, up_at, if_neg (by omega)]; exact j11
      · rw [b29, up_at, if_neg (by omega), a29, up_at, if_neg (by omega)]; exact j12
      · rw [b29, up_at, if_neg (by omega), a29, up_at, if_pos rfl]
      · rw [b29, up_at, if_pos rfl]
      · rw [b29, up_at, if_neg (by omega), a29, up_at, if_neg (by omega)]; exact j16
      · rw [f9.1 30 (by decide), a30, List.length_append]; rfl
      · rw [f9.1 31 (by decide), f9.2 32 (by decide), a31, a32, up_at, up_at]
        rcases app_get hx with ⟨k1, k2⟩ | ⟨k1, k2⟩
        · rw [if_neg (by omega), if_neg (by omega)]; exact hX2.1.2.2.2 k x k2
        · rw [if_pos k1, if_pos k1, k2]; exact ⟨rfl, rfl⟩
    exact Or.inl ⟨_, _, by rw [if_neg h40, if_neg h7], M9, rfl, hX9, by rw [b7]; exact y2, ⟨sb_wf hok _ hro.2.1, by omega⟩, by show q.2.1 < q.2.1 + 1; omega, rfl⟩
/-- a frame whose run ends is left -/
theorem x_failO (hd : 6 ≤ d) (hA : AOk A) (hC : FC f q0 b p0 u0) (h : XR A V f w P q0 b p0 u0 M0 q top p u st M) :
    ∃ M', pcl GG lay d 205 [.ref 29, .int (jn f), .int (jz 1)] (sI M 29 (va_up (M.1 29) 16 (jn 1))) = rV M' ∧ Ovr A V M0 M' := by
  obtain ⟨d, rfl⟩ := ex_add hd
  obtain ⟨c1, c2, c3, ⟨c4, c5⟩, c6, c7, c8⟩ := hC
  obtain ⟨hX, ⟨g1, g2, g3, g4, g5, g6⟩, ⟨g7, g8, g9⟩, g10, ⟨g11, g12⟩, hE, hK⟩ := h
  have c9 := c1.2.1
  generalize hN : sI M 29 (va_up (M.1 29) 16 (jn 1)) = N
  have fN : Fr [29] M N := by rw [← hN]; exact Fr.sI (by decide)
  have n16 : N.1 29 16 = jn 1 := by rw [← hN]; rfl
  have n38 : N.1 38 f = jn q0.2.2.1.length := by rw [fN.1 38 (by decide)]; exact g5
  have e39 : ∀ g, (sI N 30 g).1 39 f = jn b := fun _ => by rw [sI_o _ _ (by omega), fN.1 39 (by decide)]; exact g6
  clear hN
  rw [q_205, if_pos rfl, c_get (n := 600) (by omega) rfl (by omega) (by omega), kI_r, n38, q_255, wr_e, kV_r, q_203, c_get (n := 600) (by omega) rfl (by omega) (by omega), kI_r, e39, wr_e, c_put (n := 600) (by omega) rfl (by omega) (by omega), kV_r]
  have e14 : ∀ g1 g2 g3, (sI (sI (sI N 30 g3) 29 (va_up g1 14 (jn b))) 34 g2).1 29 14 = jn b := fun _ _ _ => rfl
  rw [e14, if_pos (show jz 1 < jn b by rw [jz_lt_jn (by omega) (by omega)]; trivial), kV_r, c_get (n := 600) (by omega) rfl (by omega) (by omega), kI_r, wr_e, wr_e]
  generalize hM3 : sI (sI (sI (sI (sI N 30 _) 29 _) 34 _) 29 _) 29 _ = M3
  have f3 : Fr [29, 30, 34] N M3 := by rw [← hM3]; exact ((((Fr.sI (by decide)).trans (Fr.sI (by decide))).trans (Fr.sI (by decide))).trans (Fr.sI (by decide))).trans (Fr.sI (by decide))
  have a16 : M3.1 29 16 = jn 1 := by rw [← n16, ← hM3]; rfl
  clear hM3 e14 e39
  have ff : Fr swX M M3 := (fN.mono (by decide)).trans (f3.mono (by decide))
  exact ⟨M3, rfl, RX_sw hA hX.1 ff (fun i _ => by rw [f3.1 7 (by decide), fN.1 7 (by decide)]), TBx_sw hX.2.1 ff, a16, hK.1.trans ff⟩
/-- one is begun with what stands for the whole -/
theorem x_askW (hd : 6 ≤ d) (hA : AOk A) (hV : GOk V (okR A) (gM A)) (hT : Tn A V dd u1 u2 n) (hC : FC f q0 b p0 u0) (h : XR A V f w P q0 b p0 u0 M0 q top p u st M) (hm : Md q0 b p0 u0 q top p' u') (hat : At (M.1 7) p' (en u')) (htop : top ≤ 3760) (hw : V w') (hn : 601 ≤ n + q.1) (hk : k + s ≤ 3 * q.1) :
    ∃ M1 M2 top2 p2, pcl GG lay d 204 [.ref 29, .int (jn f), .int (jn st'), .int (jn (phi w')), .int (jn p')] M = rV M1 ∧ XR A V f w P q0 b p0 u0 M0 q top2 p2 u' st M2 ∧ Kid A V dd u1 u2 f w P q0 b p0 u0 M0 q top2 p2 u' st' M2 s p2 u' (E_200 dd (36, [some (.ref 29), u1, u2, some (.int (jn k)), u4], [], M1)) (runF (gM A) (fM A) n w' u' P q) := by
  obtain ⟨d, rfl⟩ := ex_add (show 1 ≤ d by omega)
  have hf : f < 600 := by have := hC.2.1; have := hC.2.2.1; omega
  obtain ⟨M2, p2, top2, e1, h1, h2, h3, h4, h5⟩ := x_gow (d := d) (by omega) hA hC h hm hat htop
  obtain ⟨⟨h7, h8, h9⟩, h10, ⟨h11, h12⟩, -⟩ := h1.2.2
  obtain ⟨M1, e2, kd⟩ := kid (d := d) (st' := st') (s := s) (k := k) (u4 := u4) (P' := P) (by omega) hA hV hT hC h1 hw h7 h8 h9 h12 h2 hn hk
  rw [q_204, e1, kV_r, g34 (by omega) hf h1, kI_r, g35 (by omega) hf h1, kL_r, e2, kV_r]
  exact ⟨M1, M2, top2, p2, rfl, h1, kd⟩
/-- what a child made is what the frame may be done with -/
theorem Md_kid {p2 : Nat} (h : XR A V f w P q0 b p0 u0 M0 q top2 p2 u' st M) (hx : wf x' ∧ sz x' ≤ 40) (hd : p1 = p2 ∧ x' = u' ∧ top' = top2 ∨ p1 = top2 ∧ top' = top2 + sz x' ∧ q.2.1 < q1.2.1) (hq : q.2.1 ≤ q1.2.1) : Md q0 b p0 u0 q1 top' p1 x' := by
  have h1 := h.md
  have hb := h.2.2.2.2.1.1
  have hE := h.ev.2.2.1
  rcases hd with ⟨rfl, rfl, rfl⟩ | ⟨rfl, rfl, h3⟩
  · refine ⟨hx, ?_⟩
    rcases h1.2 with h2 | ⟨h2, h3, h4⟩
    · exact Or.inl h2
    · exact Or.inr ⟨h2, h3, by omega⟩
  · exact ⟨hx, Or.inr ⟨hb, Nat.le_refl _, by omega⟩⟩
/-- the last: what it makes is what the frame makes -/
theorem last5 {p2 : Nat} {o : RnR} {X : PO} (hdd : 7 ≤ dd) (hA : AOk A) (hC : FC f q0 b p0 u0) (h : XR A V f w P q0 b p0 u0 M0 q top2 p2 u' st M) (hk : Kid A V dd u1 u2 f w P q0 b p0 u0 M0 q top2 p2 u' 5 M (s0 + 1) p2 u' X o) : Gl A V dd u1 u2 f q0 b p0 u0 M0 s0 X (bck q0 o) := by
  have hf : f < 600 := by have := hC.2.1; have := hC.2.2.1; omega
  rcases o with ⟨_ | t, q1⟩
  · rcases hk with ⟨z1, M', z2, z3, z4, z5⟩ | ⟨z1, k', u4', M', top', z2, ⟨z3, z4, z5⟩, z6, z7, z8, z9, z10, z11, z12⟩
    · exact Or.inl ⟨z1, M', z2, z3, z4, z5⟩
    have z3 : k' + (s0 + 1) + 1 ≤ 3 * q1.1 := z3
    have z6 : XR A V f w P q0 b p0 u0 M0 q1 top' p2 u' 5 M' := z6
    have q11 := z6.ev.1.1
    obtain ⟨M3, e3, y1, y2, y3⟩ := x_fail (d := dd) (by omega) hA hC z6
    rw [z2, round_x (by omega) hf z6 (by omega) (by omega), if_neg (by decide), if_neg (by decide), if_neg (by decide), if_neg (by decide), if_neg (by decide), z11, e3, kV_r]
    exact Gl.dead z6.ev y1 y2 y3 (by omega)
  · rcases hk with ⟨z1, M', z2, z3, z4, z5⟩ | ⟨z1, k', u4', M', top', z2, ⟨z3, z4, z5⟩, z6, z7, z8, z9, z10, z11, p1, z13, z14, z15⟩
    · exact Or.inl ⟨z1, M', z2, z3, z4, z5⟩
    have z3 : k' + (s0 + 1) + 1 ≤ 3 * q1.1 := z3
    have z6 : XR A V f w P q0 b p0 u0 M0 q1 top' p2 u' 5 M' := z6
    have z8 : top' ≤ 2120 + 40 * q1.2.1 := z8
    have q11 := z6.ev.1.1
    have q12 := z6.ev.1.2.1
    have hm := Md_kid h z11 z15 z5
    obtain ⟨M3, p3, top3, e3, y1, y2, y3, y4, y5⟩ := x_fin (d := dd) (by omega) hA hC z6 hm z14 (by omega)
    rw [z2, round_x (by omega) hf z6 (by omega) (by omega), if_neg (by decide), if_neg (by decide), if_neg (by decide), if_neg (by decide), if_neg (by decide), z13, e3, kV_r]
    exact Gl.done z6.ev y1 y2 y3 y4 y5 (by omega)
/-- a walk is over: done -/
theorem walked (hdd : 8 ≤ dd) (hA : AOk A) (hC : FC f q0 b p0 u0) (hw : V w) (hk9 : (gM A w).1 ≠ 9) (hk12 : (gM A w).1 ≠ 12) (h : Wk A V f w P q0 b p0 u0 M0 q p u v M) (hk : k + s0 + 2 ≤ 3 * q.1) : Gl A V dd u1 u2 f q0 b p0 u0 M0 s0 (E_200 dd (36, [some (.ref 29), u1, u2, some (.int (jn k)), u4], [], M)) (bck q0 (some v, q)) := by
  have hf : f < 600 := by have := hC.2.1; have := hC.2.2.1; omega
  obtain ⟨top', p', h1, h2, h3, h4, h5⟩ := h
  have q11 := h1.ev.1.1
  have hk13 := kd_le h1.tb hw
  obtain ⟨d, rfl⟩ := ex_add (show 1 ≤ dd by omega)
  obtain ⟨M3, p3, top3, e3, y1, y2, y3, y4, y5⟩ := x_fin (d := d) (by omega) hA hC h1 h5 h4 h2
  rw [round_x (by omega) hf h1 (by omega) (by omega), if_neg (by decide), if_neg (by decide), if_neg (by decide), if_neg (by decide), if_pos rfl, q_216, g33 (by omega) hf h1, kI_r, x_kd (by omega) h1.tb hw, kI_r, ieq_neg hk9 (by omega) (by omega), x_kd (by omega) h1.tb hw, kI_r, ieq_neg hk12 (by omega) (by omega), h3, e3, kV_r, kV_r]
  exact Gl.done h1.ev y1 y2 y3 y4 y5 (by omega)
theorem walkedF (hdd : 8 ≤ dd) (hA : AOk A) (hC : FC f q0 b p0 u0) (hw : V w) (hk9 : (gM A w).1 ≠ 9) (hk12 : (gM A w).1 ≠ 12) (h1 : XR A V f w P q0 b p0 u0 M0 q top' p u 4 M) (h3 : M.1 29 15 = jz 1) (hk : k + s0 + 2 ≤ 3 * q.1) : Gl A V dd u1 u2 f q0 b p0 u0 M0 s0 (E_200 dd (36, [some (.ref 29), u1, u2, some (.int (jn k)), u4], [], M)) (bck q0 (none, q)) := by
  have hf : f < 600 := by have := hC.2.1; have := hC.2.2.1; omega
  have q11 := h1.ev.1.1
  have hk13 := kd_le h1.tb hw
  obtain ⟨d, rfl⟩ := ex_add (show 1 ≤ dd by omega)
  obtain ⟨M3, e3, y1, y2, y3⟩ := x_fail (d := d) (by omega) hA hC h1
  rw [round_x (by omega) hf h1 (by omega) (by omega), if_neg (by decide), if_neg (by decide), if_neg (by decide), if_neg (by decide), if_pos rfl, q_216, g33 (by omega) hf h1, kI_r, x_kd (by omega) h1.tb hw, kI_r, ieq_neg hk9 (by omega) (by omega), x_kd (by omega) h1.tb hw, kI_r, ieq_neg hk12 (by omega) (by omega), h3, e3, kV_r, kV_r]
  exact Gl.dead h1.ev y1 y2 y3 (by omega)
/-- a walk is over: s of the whole -/
theorem walkedW (hdd : 9 ≤ dd) (hA : AOk A) (hV : GOk V (okR A) (gM A)) (hT : Tn A V dd u1 u2 n) (hC : FC f q0 b p0 u0) (hw : V w) (hk : (gM A w).1 = 9 ∧ st' = 5 ∨ (gM A w).1 = 12 ∧ st' = 1) (h : Wk A V f w P q0 b p0 u0 M0 q p u v M) (hks : k + s0 + 2 ≤ 3 * q.1) (hn : 601 ≤ n + q.1) :
    ∃ X M2 top2 p2, E_200 dd (36, [some (.ref 29), u1, u2, some (.int (jn k)), u4], [], M) = X ∧ XR A V f w P q0 b p0 u0 M0 q top2 p2 v 4 M2 ∧ Kid A V dd u1 u2 f w P q0 b p0 u0 M0 q top2 p2 v st' M2 (s0 + 1) p2 v X (runF (gM A) (fM A) n (gM A w).2.1 v P q) := by
  have hf : f < 600 := by have := hC.2.1; have := hC.2.2.1; omega
  obtain ⟨top', p', h1, h2, h3, h4, h5⟩ := h
  have q11 := h1.ev.1.1
  have hk13 := kd_le h1.tb hw
  have hk2 : 2 < (gM A w).1 := by omega
  obtain ⟨d, rfl⟩ := ex_add (show 1 ≤ dd by omega)
  obtain ⟨M1, M2, top2, p2, e1, y1, y2⟩ := x_askW (d := d) (st' := st') (w' := (gM A w).2.1) (k := k + 1) (s := s0 + 1) (u4 := some (.int (jn f))) (by omega) hA hV hT hC h1 h5 h4 h2 ((hV w hw).2.1 hk2) hn (by omega)
  refine ⟨_, M2, top2, p2, ?_, y1, y2⟩
  rw [round_x (by omega) hf h1 (by omega) (by omega), if_neg (by decide), if_neg (by decide), if_neg (by decide), if_neg (by decide), if_pos rfl, q_216, g33 (by omega) hf h1, kI_r, x_kd (by omega) h1.tb hw, kI_r]
  rcases hk with ⟨hk, rfl⟩ | ⟨hk, rfl⟩
  · rw [ieq_pos hk, x_on (by omega) h1.tb hw hk2, kI_r, h3, e1, kV_r, kV_r]
  · rw [ieq_neg (by omega) (by omega) (by omega), x_kd (by omega) h1.tb hw, kI_r, ieq_pos hk, x_on (by omega) h1.tb hw hk2, kI_r, h3, e1, kV_r, kV_r]
end
