/-! the system's run: a frame goes on with a term, or is done -/
def Ev (q0 q : RnS) : Prop := QOk q ∧ q0.1 + 1 ≤ q.1 ∧ q0.2.1 ≤ q.2.1 ∧ ∃ tr, q.2.2.1 = q0.2.2.1 ++ tr
def FC (f : Nat) (q0 : RnS) (b p0 : Nat) (u0 : Tm) : Prop := QOk q0 ∧ q0.1 < 600 ∧ f ≤ q0.1 ∧ (wf u0 ∧ sz u0 ≤ 40) ∧ p0 + sz u0 ≤ b ∧ 2120 ≤ b ∧ b ≤ 2120 + 40 * q0.2.1
/-- a frame in its midst: what it was begun with, what stands, what it works on -/
def XR (A : AT) (V : Int32 → Prop) (f : Nat) (w : Int32) (P : Int64) (q0 : RnS) (b p0 : Nat) (u0 : Tm) (M0 : PM) (q : RnS) (top p : Nat) (u : Tm) (st : Nat) (M : PM) : Prop :=
  XF A V q (f + 1) top M ∧ (M.1 33 f = jn (phi w) ∧ M.1 34 f = jn p ∧ M.2 35 f = P ∧ M.1 36 f = jn st ∧ M.1 38 f = jn q0.2.2.1.length ∧ M.1 39 f = jn b) ∧ (At (M.1 7) p (en u) ∧ wf u ∧ sz u ≤ 40) ∧ (p = p0 ∧ u = u0 ∨ p = b ∧ q0.2.1 < q.2.1) ∧ (b ≤ top ∧ p + sz u ≤ top) ∧ Ev q0 q ∧ Kx f b M0 M
/-- a term that a frame made, or was given -/
def Md (q0 : RnS) (b p0 : Nat) (u0 : Tm) (q : RnS) (top p : Nat) (u : Tm) : Prop := (wf u ∧ sz u ≤ 40) ∧ (p = p0 ∧ u = u0 ∨ b ≤ p ∧ p + sz u ≤ top ∧ q0.2.1 < q.2.1)
section
variable {d : Nat} {A : AT} {M M' M0 : PM} {V : Int32 → Prop} {f : Nat} {w : Int32} {P : Int64} {q0 q : RnS} {b p0 top p p' st : Nat} {u0 u u' : Tm}
theorem XR.md (h : XR A V f w P q0 b p0 u0 M0 q top p u st M) : Md q0 b p0 u0 q top p u := by
  obtain ⟨-, -, ⟨-, h1, h2⟩, h3, ⟨h4, h5⟩, -⟩ := h
  refine ⟨⟨h1, h2⟩, ?_⟩
  rcases h3 with h3 | ⟨rfl, h3⟩
  · exact Or.inl h3
  · exact Or.inr ⟨Nat.le_refl _, h5, h3⟩
theorem x_gow (hd : 5 ≤ d) (hA : AOk A) (hC : FC f q0 b p0 u0) (h : XR A V f w P q0 b p0 u0 M0 q top p u st M) (hm : Md q0 b p0 u0 q top p' u') (hat : At (M.1 7) p' (en u')) (htop : top ≤ 3760) :
    ∃ M' p'' top', pcl GG lay d 203 [.ref 29, .int (jn f), .int (jn p')] M = rV M' ∧ XR A V f w P q0 b p0 u0 M0 q top' p'' u' st M' ∧ top' ≤ 2120 + 40 * q.2.1 ∧ M'.1 37 = M.1 37 ∧ M'.1 29 15 = M.1 29 15 ∧ (p'' = p0 ∧ u' = u0 ∧ top' = b ∨ p'' = b ∧ top' = b + sz u' ∧ q0.2.1 < q.2.1) := by
  obtain ⟨d, rfl⟩ := ex_add hd
  obtain ⟨c1, c2, c3, ⟨c4, c5⟩, c6, c7, c8⟩ := hC
  obtain ⟨hX, ⟨g1, g2, g3, g4, g5, g6⟩, ⟨g7, g8, g9⟩, g10, ⟨g11, g12⟩, hE, hK⟩ := h
  obtain ⟨hR, hT, ⟨h11, h12, h13, h14, h16, h30⟩, htr⟩ := id hX
  obtain ⟨⟨m1, m2⟩, m3⟩ := hm
  have q1 := hE.1.2.1
  have z0 := sz_pos u0 c4
  have z1 := sz_pos u' m1
  have q01 := hE.2.2.1
  have c9 := c1.2.1
  rw [q_203, c_get (n := 600) (by omega) rfl (by omega) (by omega), kI_r, g6, wr_e, c_put (n := 600) (by omega) rfl (by omega) (by omega), kV_r]
  have e14 : ∀ g1 g2, (sI (sI M 29 (va_up g1 14 (jn b))) 34 g2).1 29 14 = jn b := fun _ _ => rfl
  rw [e14]
  by_cases hp : p' < b
  · rw [ilt_pos hp (by omega)]
    have m4 : p' = p0 ∧ u' = u0 := by
      rcases m3 with m3 | m3
      · exact m3
      · omega
    generalize hM3 : sI (sI M 29 _) 34 _ = M3
    have f3 : Fr [29, 34] M M3 := by rw [← hM3]; exact (Fr.sI (by decide)).trans (Fr.sI (by decide))
    have a29 : M3.1 29 = va_up (M.1 29) 14 (jn b) := by rw [← hM3]; rfl
    have a34 : M3.1 34 = va_up (M.1 34) f (jn p') := by rw [← hM3]; rfl
    clear hM3 e14
    have hX3 : XF A V q (f + 1) b M3 := hX.upd hA (f3.mono (by decide)) (fun _ _ => by rw [f3.1 7 (by decide)]) (by rw [a29, f3.1 30 (by decide)]; exact ⟨h11, h12, h13, rfl, h16, h30⟩) (fun k x hx => by rw [f3.1 31 (by decide), f3.2 32 (by decide)]; exact htr k x hx)
    refine ⟨M3, p', b, rfl, ⟨hX3, ⟨?_, ?_, ?_, ?_, ?_, ?_⟩, ⟨?_, m1, m2⟩, Or.inl m4, ⟨Nat.le_refl _, by rw [m4.1, m4.2]; exact c6⟩, hE, hK.trans ⟨f3.mono (by decide), fun j hj => ⟨?_, ?_, ?_, ?_, ?_, ?_, ?_⟩, fun j hj => ?_⟩⟩, by omega, ?_, ?_, Or.inl ⟨m4.1, m4.2, rfl⟩⟩
    · rw [f3.1 33 (by decide)]; exact g1
    · rw [a34, up_at, if_pos rfl]
    · rw [f3.2 35 (by decide)]; exact g3
    · rw [f3.1 36 (by decide)]; exact g4
    · rw [f3.1 38 (by decide)]; exact g5
    · rw [f3.1 39 (by decide)]; exact g6
    · rw [f3.1 7 (by decide)]; exact hat
    · rw [f3.1 33 (by decide)]
    · rw [a34, up_at, if_neg (by omega)]
    · rw [f3.2 35 (by decide)]
    · rw [f3.1 36 (by decide)]
    · rw [f3.1 37 (by decide)]
    · rw [f3.1 38 (by decide)]
    · rw [f3.1 39 (by decide)]
    · rw [f3.1 7 (by decide)]
    · rw [f3.1 37 (by decide)]
    · rw [a29, up_at, if_neg (by omega)]
  · have m4 : b ≤ p' ∧ p' + sz u' ≤ top ∧ q0.2.1 < q.2.1 := by
      rcases m3 with ⟨m3, m5⟩ | m3
      · omega
      · exact m3
    rw [ilt_neg (by omega) (by omega), c_put (n := 600) (by omega) rfl (by omega) (by omega), kV_r]
    generalize hM3 : sI (sI (sI M 29 _) 34 _) 34 _ = M3
    have f3 : Fr [29, 34] M M3 := by rw [← hM3]; exact ((Fr.sI (by decide)).trans (Fr.sI (by decide))).trans (Fr.sI (by decide))
    have a29 : M3.1 29 = va_up (M.1 29) 14 (jn b) := by rw [← hM3]; rfl
    have a34 : M3.1 34 = va_up (va_up (M.1 34) f (jn p')) f (jn b) := by rw [← hM3]; rfl
    clear hM3 e14
    have b14 : M3.1 29 14 = jn b := by rw [a29, up_at, if_pos rfl]
    rw [b14, c_append (t := u') (by omega) m1 (by rw [f3.1 7 (by decide)]; exact hat) (by omega) (by omega) (by omega), kI_r, wr_e]
    generalize hM5 : sI (sI M3 7 _) 29 _ = M5
    have f5 : Fr [7, 29] M3 M5 := by rw [← hM5]; exact (Fr.sI (by decide)).trans (Fr.sI (by decide))
    have b29 : M5.1 29 = va_up (va_up (M.1 29) 14 (jn b)) 14 (jn (b + sz u')) := by rw [← a29, ← hM5]; rfl
    have b7 : M5.1 7 = cp (M.1 7) (M.1 7) p' b (sz u') := by rw [← f3.1 7 (by decide), ← hM5]; rfl
    clear hM5
    have f6 : Fr [7, 29, 34] M M5 := (f3.mono (by decide)).trans (f5.mono (by decide))
    have hX5 : XF A V q (f + 1) (b + sz u') M5 := hX.upd hA (f6.mono (by decide)) (fun i hi => by rw [b7, cp_out (by omega)]) (by rw [b29, f6.1 30 (by decide)]; exact ⟨h11, h12, h13, rfl, h16, h30⟩) (fun k x hx => by rw [f6.1 31 (by decide), f6.2 32 (by decide)]; exact htr k x hx)
    refine ⟨M5, b, b + sz u', rfl, ⟨hX5, ⟨?_, ?_, ?_, ?_, ?_, ?_⟩, ⟨?_, m1, m2⟩, Or.inr ⟨rfl, m4.2.2⟩, ⟨by omega, Nat.le_refl _⟩, hE, hK.trans ⟨f6.mono (by decide), fun j hj => ⟨?_, ?_, ?_, ?_, ?_, ?_, ?_⟩, fun j hj => ?_⟩⟩, by omega, ?_, ?_, Or.inr ⟨rfl, rfl, m4.2.2⟩⟩
    · rw [f6.1 33 (by decide)]; exact g1
    · rw [f5.1 34 (by decide), a34, up_at, if_pos rfl]
    · rw [f6.2 35 (by decide)]; exact g3
    · rw [f6.1 36 (by decide)]; exact g4
    · rw [f6.1 38 (by decide)]; exact g5
    · rw [f6.1 39 (by decide)]; exact g6
    · rw [b7]; exact AT_cp hat (Nat.le_refl _)
    · rw [f6.1 33 (by decide)]
    · rw [f5.1 34 (by decide), a34, up_at, if_neg (by omega), up_at, if_neg (by omega)]
    · rw [f6.2 35 (by decide)]
    · rw [f6.1 36 (by decide)]
    · rw [f6.1 37 (by decide)]
    · rw [f6.1 38 (by decide)]
    · rw [f6.1 39 (by decide)]
    · rw [b7, cp_out (by omega)]
    · rw [f6.1 37 (by decide)]
    · rw [b29, up_at, if_neg (by omega), up_at, if_neg (by omega)]
/-- done: the term -/
theorem x_fin (hd : 6 ≤ d) (hA : AOk A) (hC : FC f q0 b p0 u0) (h : XR A V f w P q0 b p0 u0 M0 q top p u st M) (hm : Md q0 b p0 u0 q top p' u') (hat : At (M.1 7) p' (en u')) (htop : top ≤ 3760) :
    ∃ M' p'' top', pcl GG lay d 205 [.ref 29, .int (jn f), .int (jn p')] M = rV M' ∧ XF A V q f top' M' ∧ M'.1 29 15 = jn p'' ∧ At (M'.1 7) p'' (en u') ∧ (p'' = p0 ∧ u' = u0 ∧ top' = b ∨ p'' = b ∧ top' = b + sz u' ∧ q0.2.1 < q.2.1) ∧ Kx f b M0 M' := by
  obtain ⟨d, rfl⟩ := ex_add hd
  have z1 := sz_pos u' hm.1.1
  have hp : p' < 3760 := by
    obtain ⟨c1, c2, c3, ⟨c4, c5⟩, c6, c7, c8⟩ := hC
    have z0 := sz_pos u0 c4
    have c9 := c1.2.1
    rcases hm.2 with ⟨e, -⟩ | ⟨-, e, -⟩ <;> omega
  obtain ⟨M1, p'', top', e1, h1, h2, h3, h4, h5⟩ := x_gow (d := d + 5) (by omega) hA hC h hm hat htop
  obtain ⟨hX, ⟨g1, g2, g3, g4, g5, g6⟩, ⟨g7, g8, g9⟩, g10, ⟨g11, g12⟩, hE, hK⟩ := h1
  obtain ⟨hR, hT, ⟨h11, h12, h13, h14, h16, h30⟩, htr⟩ := id hX
  have hf : f < 600 := by have := hC.2.1; have := hC.2.2.1; omega
  rw [q_205, ieq_z (by omega) (by omega), e1, kV_r, c_get (n := 600) (by omega) rfl hf (by omega), kI_r, g2, wr_e, wr_e]
  generalize hM3 : sI (sI M1 29 _) 29 _ = M3
  have f3 : Fr [29] M1 M3 := by rw [← hM3]; exact (Fr.sI (by decide)).trans (Fr.sI (by decide))
  have a29 : M3.1 29 = va_up (va_up (M1.1 29) 15 (jn p'')) 11 (jn f) := by rw [← hM3]; rfl
  clear hM3
  have hX3 : XF A V q f top' M3 := hX.upd hA (f3.mono (by decide)) (fun _ _ => by rw [f3.1 7 (by decide)]) (by rw [a29, f3.1 30 (by decide)]; exact ⟨rfl, h12, h13, h14, h16, h30⟩) (fun k x hx => by rw [f3.1 31 (by decide), f3.2 32 (by decide)]; exact htr k x hx)
  refine ⟨M3, p'', top', rfl, hX3, ?_, ?_, h5, hK.trans (Kx.of f3 (by decide))⟩
  · rw [a29, up_at, if_neg (by omega), up_at, if_pos rfl]
  · rw [f3.1 7 (by decide)]; exact g7
/-- done: it failed -/
theorem x_fail (hd : 6 ≤ d) (hA : AOk A) (hC : FC f q0 b p0 u0) (h : XR A V f w P q0 b p0 u0 M0 q top p u st M) :
    ∃ M', pcl GG lay d 205 [.ref 29, .int (jn f), .int (jz 1)] M = rV M' ∧ XF A V (q.1, q.2.1, q0.2.2.1, q.2.2.2) f b M' ∧ M'.1 29 15 = jz 1 ∧ Kx f b M0 M' := by
  obtain ⟨d, rfl⟩ := ex_add hd
  obtain ⟨c1, c2, c3, ⟨c4, c5⟩, c6, c7, c8⟩ := hC
  obtain ⟨hX, ⟨g1, g2, g3, g4, g5, g6⟩, ⟨g7, g8, g9⟩, g10, ⟨g11, g12⟩, hE, hK⟩ := h
  obtain ⟨hR, hT, ⟨h11, h12, h13, h14, h16, h30⟩, htr⟩ := id hX
  have c9 := c1.2.1
  have e39 : ∀ g, (sI M 30 g).1 39 f = jn b := fun _ => g6
  rw [q_205, if_pos rfl, c_get (n := 600) (by omega) rfl (by omega) (by omega), kI_r, g5, q_255, wr_e, kV_r, q_203, c_get (n := 600) (by omega) rfl (by omega) (by omega), kI_r, e39, wr_e, c_put (n := 600) (by omega) rfl (by omega) (by omega), kV_r]
  have e14 : ∀ g1 g2 g3, (sI (sI (sI M 30 g3) 29 (va_up g1 14 (jn b))) 34 g2).1 29 14 = jn b := fun _ _ _ => rfl
  rw [e14, if_pos (show jz 1 < jn b by rw [jz_lt_jn (by omega) (by omega)]; trivial), kV_r, c_get (n := 600) (by omega) rfl (by omega) (by omega), kI_r]
  have e34 : ∀ X g3, (sI X 34 (va_up g3 f (jz 1))).1 34 f = jz 1 := fun X g3 => by rw [sI_k, up_at, if_pos rfl]
  rw [e34, wr_e, wr_e]
  generalize hM3 : sI (sI (sI (sI (sI M 30 _) 29 _) 34 _) 29 _) 29 _ = M3
  have f3 : Fr [29, 30, 34] M M3 := by rw [← hM3]; exact ((((Fr.sI (by decide)).trans (Fr.sI (by decide))).trans (Fr.sI (by decide))).trans (Fr.sI (by decide))).trans (Fr.sI (by decide))
  have a29 : M3.1 29 = va_up (va_up (va_up (M.1 29) 14 (jn b)) 15 (jz 1)) 11 (jn f) := by rw [← hM3]; rfl
  have a30 : M3.1 30 = va_up (M.1 30) 2 (jn q0.2.2.1.length) := by rw [← hM3]; rfl
  have a34 : M3.1 34 = va_up (M.1 34) f (jz 1) := by rw [← hM3]; rfl
  clear hM3 e14 e34 e39
  obtain ⟨tr, htr0⟩ := hE.2.2.2
  have hX3 : XF A V (q.1, q.2.1, q0.2.2.1, q.2.2.2) f b M3 := hX.upd hA (f3.mono (by decide)) (fun _ _ => by rw [f3.1 7 (by decide)]) (by rw [a29, a30]; exact ⟨rfl, h12, h13, rfl, h16, rfl⟩) (fun k x hx => by
    rw [f3.1 31 (by decide), f3.2 32 (by decide)]
    refine htr k x ?_
    rw [htr0, List.getElem?_append_left (List.getElem?_eq_some_iff.mp hx).1]
    exact hx)
  refine ⟨M3, rfl, hX3, ?_, hK.trans ⟨f3.mono (by decide), fun j hj => ⟨?_, ?_, ?_, ?_, ?_, ?_, ?_⟩, fun j hj => ?_⟩⟩
  · rw [a29, up_at, if_neg (by omega), up_at, if_pos rfl]
  · rw [f3.1 33 (by decide)]
  · rw [a34, up_at, if_neg (by omega)]
  · rw [f3.2 35 (by decide)]
  · rw [f3.1 36 (by decide)]
  · rw [f3.1 37 (by decide)]
  · rw [f3.1 38 (by decide)]
  · rw [f3.1 39 (by decide)]
  · rw [f3.1 7 (by decide)]
end
