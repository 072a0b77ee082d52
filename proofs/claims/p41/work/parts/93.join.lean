/-! the system's run: arguments are put together -/
section
variable {d dd n k s s0 : Nat} {u1 u2 u4 : Option Value} {A : AT} {M M' M0 : PM} {V : Int32 → Prop} {f : Nat} {w w' : Int32} {P P' : Int64} {q0 q q' : RnS} {b p0 top top' p p' st st' : Nat} {u0 u u' : Tm}
theorem XR.upd (hA : AOk A) (h : XR A V f w P q0 b p0 u0 M0 q top p u st M) (hb : 1920 ≤ b) (hf : Fr [7, 26, 27, 28, 29, 30, 31, 32] M M') (h7 : ∀ j, j < top → M'.1 7 j = M.1 7 j) (h29 : M'.1 29 11 = jn (f + 1) ∧ M'.1 29 12 = jn q'.1 ∧ M'.1 29 13 = jn q'.2.1 ∧ M'.1 29 14 = jn top' ∧ M'.1 29 16 = jn 0 ∧ M'.1 30 2 = jn q'.2.2.1.length) (ht : ∀ k x, q'.2.2.1[k]? = some x → M'.1 31 k = jn x.1 ∧ M'.2 32 k = x.2) (htt : top ≤ top') (hE : Ev q0 q') (hr : q.2.1 ≤ q'.2.1) : XR A V f w P q0 b p0 u0 M0 q' top' p u st M' := by
  obtain ⟨hX, ⟨g1, g2, g3, g4, g5, g6⟩, ⟨g7, g8, g9⟩, g10, ⟨g11, g12⟩, hE0, hK⟩ := h
  refine ⟨hX.upd hA (hf.mono (by decide)) (fun i hi => h7 i (by omega)) h29 ht, ⟨?_, ?_, ?_, ?_, ?_, ?_⟩, ⟨At_congr g7 (fun j j1 j2 => ?_), g8, g9⟩, ?_, ⟨by omega, by omega⟩, hE, hK.trans ⟨hf.mono (by decide), fun j hj => ⟨?_, ?_, ?_, ?_, ?_, ?_, ?_⟩, fun j hj => h7 j (by omega)⟩⟩
  · rw [hf.1 33 (by decide)]; exact g1
  · rw [hf.1 34 (by decide)]; exact g2
  · rw [hf.2 35 (by decide)]; exact g3
  · rw [hf.1 36 (by decide)]; exact g4
  · rw [hf.1 38 (by decide)]; exact g5
  · rw [hf.1 39 (by decide)]; exact g6
  · have : (en u).length = sz u := rfl
    exact h7 j (by omega)
  · rcases g10 with g10 | ⟨g10, g13⟩
    · exact Or.inl g10
    · exact Or.inr ⟨g10, by omega⟩
  · rw [hf.1 33 (by decide)]
  · rw [hf.1 34 (by decide)]
  · rw [hf.2 35 (by decide)]
  · rw [hf.1 36 (by decide)]
  · rw [hf.1 37 (by decide)]
  · rw [hf.1 38 (by decide)]
  · rw [hf.1 39 (by decide)]
/-- it ends -/
def Ovr (A : AT) (V : Int32 → Prop) (M0 M' : PM) : Prop := RX A M' ∧ TBx A V M' ∧ M'.1 29 16 = jn 1 ∧ Fr swX M0 M'
theorem x_over (hA : AOk A) (h : XR A V f w P q0 b p0 u0 M0 q top p u st M) : Ovr A V M0 (sI M 29 (va_up (M.1 29) 16 (jn 1))) := by
  obtain ⟨hX, -, -, -, -, -, hK⟩ := h
  have hf : Fr [29] M (sI M 29 (va_up (M.1 29) 16 (jn 1))) := Fr.sI (by decide)
  exact ⟨RX_sw hA hX.1 (hf.mono (by decide)) (fun _ _ => rfl), TBx_sw hX.2.1 (hf.mono (by decide)), by rw [sI_k, up_at, if_pos rfl], hK.1.trans (hf.mono (by decide))⟩
/-- what a walk made: the whole, or a new one -/
def Wk (A : AT) (V : Int32 → Prop) (f : Nat) (w : Int32) (P : Int64) (q0 : RnS) (b p0 : Nat) (u0 : Tm) (M0 : PM) (q : RnS) (p : Nat) (u v : Tm) (M' : PM) : Prop :=
  ∃ top' p', XR A V f w P q0 b p0 u0 M0 q top' p u 4 M' ∧ top' ≤ 3760 ∧ M'.1 29 15 = jn p' ∧ At (M'.1 7) p' (en v) ∧ Md q0 b p0 u0 q top' p' v
theorem x_same0 {a : Nat} (hd : 2 ≤ d) (hA : AOk A) (hf : f < 600) (h : XR A V f w P q0 b p0 u0 M0 q top p u st M) (ht : top ≤ 3760) (ha : a = p) : ∃ M', pcl GG lay d 210 [.ref 29, .int (jn f), .int (jn a)] M = rV M' ∧ Wk A V f w P q0 b p0 u0 M0 q p u u M' := by
  subst ha
  obtain ⟨M', e1, e2, e3, e4⟩ := x_endw (a := jn a) hd hA hf h
  exact ⟨M', e1, top, a, e2, ht, e3, by rw [e4]; exact h.2.2.1.1, h.md⟩
theorem x_made2 {c : Int32} {x y x' y' : Tm} {p1 p2 : Nat} {u5 u6 u8 : Option Value} (hd : 4 ≤ d) (hA : AOk A) (hC : FC f q0 b p0 u0) (h : XR A V f w P q0 b p0 u0 M0 q top p (Nd c x y) st M) (hc : is2 c) (hx : wf x') (hy : wf y') (a1 : At (M.1 7) p1 (en x')) (a2 : At (M.1 7) p2 (en y')) (b1 : p1 + sz x' ≤ top) (b2 : p2 + sz y' ≤ top) (htop : top ≤ 2120 + 40 * q.2.1) (hrw : q0.2.1 < q.2.1) :
    ∃ M', E_215 d (125, [some (.ref 29), some (.int (jn f)), u5, u6, some (.int (jn p)), some (.int (jn 1)), some (.int (jn p1)), some (.int (jn p2)), u8], [], M) = rV M' ∧ ((40 < sz (Nd c x' y') ∧ Ovr A V M0 M') ∨ (sz (Nd c x' y') ≤ 40 ∧ Wk A V f w P q0 b p0 u0 M0 q p (Nd c x y) (Nd c x' y') M')) := by
  obtain ⟨d, rfl⟩ := ex_add hd
  obtain ⟨c1, c2, c3, ⟨c4, c5⟩, c6, c7, c8⟩ := hC
  obtain ⟨hX, ⟨g1, g2, g3, g4, g5, g6⟩, ⟨g7, g8, g9⟩, g10, ⟨g11, g12⟩, hE, hK⟩ := id h
  obtain ⟨hR, hT, ⟨h11, h12, h13, h14, h16, h30⟩, htr⟩ := id hX
  have q1 := hE.1.2.1
  have zx := sz_pos x' hx
  have zy := sz_pos y' hy
  rw [sz_n] at g9 g12
  rw [en_n] at g7
  rw [h_215_125, c_sizeAt (by omega) hx a1 (by omega), kI_r, ieq_neg (by omega) (by omega) (by omega), c_sizeAt (by omega) hy a2 (by omega), kI_r, jn_add, jn_add, sz_n]
  by_cases h40 : 40 < sz x' + sz y' + 1
  · rw [ilt_pos (by omega) (by omega), wr_e]
    exact ⟨_, rfl, Or.inl ⟨h40, x_over hA h⟩⟩
  rw [ilt_neg (by omega) (by omega), c_at (by omega) (by omega), kI_r, h14, g7.1, c_write (by omega) (by omega), kV_r]
  have e14 : ∀ g, (sI M 7 g).1 29 14 = jn top := fun _ => h14
  have e29 : ∀ g, (sI M 7 g).1 29 = M.1 29 := fun _ => rfl
  have A1 : At ((sI M 7 (va_up (M.1 7) top c)).1 7) p1 (en x') := At_congr a1 (fun j j1 j2 => by have : (en x').length = sz x' := rfl; rw [sI_k, up_at, if_neg (by omega)])
  rw [e14, jn_add, c_append (t := x') (by omega) hx A1 (by omega) (by omega) (by omega), kI_r, wr_e, ieq_neg (by omega) (by omega) (by omega)]
  obtain ⟨M5, hM5⟩ : ∃ M5, M5 = sI (sI (sI M 7 (va_up (M.1 7) top c)) 7 (cp ((sI M 7 (va_up (M.1 7) top c)).1 7) ((sI M 7 (va_up (M.1 7) top c)).1 7) p1 (top + 1) (sz x'))) 29 (va_up ((sI (sI M 7 (va_up (M.1 7) top c)) 7 (cp ((sI M 7 (va_up (M.1 7) top c)).1 7) ((sI M 7 (va_up (M.1 7) top c)).1 7) p1 (top + 1) (sz x'))).1 29) 14 (jn (top + 1 + sz x'))) := ⟨_, rfl⟩
  rw [← hM5]
  have f5 : Fr [7, 29] M M5 := by rw [hM5]; exact ((Fr.sI (by decide)).trans (Fr.sI (by decide))).trans (Fr.sI (by decide))
  have b29 : M5.1 29 = va_up (M.1 29) 14 (jn (top + 1 + sz x')) := by rw [hM5]; rfl
  have b7 : M5.1 7 = cp (va_up (M.1 7) top c) (va_up (M.1 7) top c) p1 (top + 1) (sz x') := by rw [hM5]; rfl
  clear hM5 e14 e29
  have b14 : M5.1 29 14 = jn (top + 1 + sz x') := by rw [b29, up_at, if_pos rfl]
  have A2 : At (M5.1 7) p2 (en y') := At_congr a2 (fun j j1 j2 => by have : (en y').length = sz y' := rfl; rw [b7, cp_out (by omega), up_at, if_neg (by omega)])
  rw [b14, c_append (t := y') (by omega) hy A2 (by omega) (by omega) (by omega), kI_r, wr_e]
  generalize hM7 : sI (sI M5 7 _) 29 _ = M7
  have f7 : Fr [7, 29] M5 M7 := by rw [← hM7]; exact (Fr.sI (by decide)).trans (Fr.sI (by decide))
  have d29 : M7.1 29 = va_up (M5.1 29) 14 (jn (top + 1 + sz x' + sz y')) := by rw [← hM7]; rfl
  have d7 : M7.1 7 = cp (M5.1 7) (M5.1 7) p2 (top + 1 + sz x') (sz y') := by rw [← hM7]; rfl
  clear hM7
  have n29 : ∀ j, j ≠ 14 → M7.1 29 j = M.1 29 j := fun j hj => by rw [d29, up_at, if_neg hj, b29, up_at, if_neg hj]
  have ff : Fr [7, 29] M M7 := f5.trans f7
  have l7 : ∀ j, j < top → M7.1 7 j = M.1 7 j := fun j hj => by rw [d7, cp_out (by omega), b7, cp_out (by omega), up_at, if_neg (by omega)]
  have hX7 : XR A V f w P q0 b p0 u0 M0 q (top + 1 + sz x' + sz y') p (Nd c x y) st M7 := h.upd hA (by omega) (ff.mono (by decide)) l7 (by rw [n29 11 (by omega), n29 12 (by omega), n29 13 (by omega), n29 16 (by omega), ff.1 30 (by decide)]; exact ⟨h11, h12, h13, by rw [d29, up_at, if_pos rfl], h16, h30⟩) (fun k x hx => by rw [ff.1 31 (by decide), ff.2 32 (by decide)]; exact htr k x hx) (by omega) hE (Nat.le_refl _)
  have A7 : At (M7.1 7) top (en (Nd c x' y')) := by
    rw [en_n]
    refine ⟨?_, (At_app _ _ _).mpr ⟨?_, ?_⟩⟩
    · rw [d7, cp_out (by omega), b7, cp_out (by omega), up_at, if_pos rfl]
    · rw [d7]
      refine At_cp_out ?_ (by show _ + sz x' ≤ _ ∨ _; omega)
      rw [b7]
      exact AT_cp (by rw [sI_k] at A1; exact A1) (Nat.le_refl _)
    · rw [d7]
      exact AT_cp A2 (Nat.le_refl _)
  obtain ⟨M8, e1, e2, e3, e4⟩ := x_endw (d := d + 4) (a := jn top) (by omega) hA (by omega) hX7
  rw [h_215_233, e1, kV_r]
  refine ⟨M8, rfl, Or.inr ⟨by omega, top + 1 + sz x' + sz y', top, e2, by omega, e3, by rw [e4]; exact A7, ⟨wf_2 hc hx hy, by rw [sz_n]; omega⟩, Or.inr ⟨g11, by rw [sz_n]; omega, hrw⟩⟩⟩
theorem x_made1 {c : Int32} {x x' : Tm} {p1 : Nat} {u5 u6 u7 u8 : Option Value} {l7 : Int32} (hd : 4 ≤ d) (hA : AOk A) (hC : FC f q0 b p0 u0) (h : XR A V f w P q0 b p0 u0 M0 q top p (Nd c x Lf) st M) (hc : is1 c) (hx : wf x') (a1 : At (M.1 7) p1 (en x')) (b1 : p1 + sz x' ≤ top) (htop : top ≤ 2120 + 40 * q.2.1) (hrw : q0.2.1 < q.2.1) :
    ∃ M', E_215 d (125, [some (.ref 29), some (.int (jn f)), u5, u6, some (.int (jn p)), some (.int (jn 0)), some (.int (jn p1)), some (.int l7), u8], [], M) = rV M' ∧ ((40 < sz (Nd c x' Lf) ∧ Ovr A V M0 M') ∨ (sz (Nd c x' Lf) ≤ 40 ∧ Wk A V f w P q0 b p0 u0 M0 q p (Nd c x Lf) (Nd c x' Lf) M')) := by
  obtain ⟨d, rfl⟩ := ex_add hd
  obtain ⟨c1, c2, c3, ⟨c4, c5⟩, c6, c7, c8⟩ := hC
  obtain ⟨hX, ⟨g1, g2, g3, g4, g5, g6⟩, ⟨g7, g8, g9⟩, g10, ⟨g11, g12⟩, hE, hK⟩ := id h
  obtain ⟨hR, hT, ⟨h11, h12, h13, h14, h16, h30⟩, htr⟩ := id hX
  have q1 := hE.1.2.1
  have zx := sz_pos x' hx
  have zl : sz Lf = 0 := rfl
  rw [sz_n] at g9 g12
  rw [en_n] at g7
  rw [h_215_125, c_sizeAt (by omega) hx a1 (by omega), kI_r, ieq_pos rfl, jn_add, jn_add, sz_n, zl]
  by_cases h40 : 40 < sz x' + 0 + 1
  · rw [ilt_pos (by omega) (by omega), wr_e]
    exact ⟨_, rfl, Or.inl ⟨h40, x_over hA h⟩⟩
  rw [ilt_neg (by omega) (by omega), c_at (by omega) (by omega), kI_r, h14, g7.1, c_write (by omega) (by omega), kV_r]
  have e14 : ∀ g, (sI M 7 g).1 29 14 = jn top := fun _ => h14
  have A1 : At ((sI M 7 (va_up (M.1 7) top c)).1 7) p1 (en x') := At_congr a1 (fun j j1 j2 => by have : (en x').length = sz x' := rfl; rw [sI_k, up_at, if_neg (by omega)])
  rw [e14, jn_add, c_append (t := x') (by omega) hx A1 (by omega) (by omega) (by omega), kI_r, wr_e, ieq_pos rfl]
  generalize hM5 : sI (sI (sI M 7 _) 7 _) 29 _ = M5
  have f5 : Fr [7, 29] M M5 := by rw [← hM5]; exact ((Fr.sI (by decide)).trans (Fr.sI (by decide))).trans (Fr.sI (by decide))
  have b29 : M5.1 29 = va_up (M.1 29) 14 (jn (top + 1 + sz x')) := by rw [← hM5]; rfl
  have b7 : M5.1 7 = cp (va_up (M.1 7) top c) (va_up (M.1 7) top c) p1 (top + 1) (sz x') := by rw [← hM5]; rfl
  clear hM5 e14
  have n29 : ∀ j, j ≠ 14 → M5.1 29 j = M.1 29 j := fun j hj => by rw [b29, up_at, if_neg hj]
  have l7 : ∀ j, j < top → M5.1 7 j = M.1 7 j := fun j hj => by rw [b7, cp_out (by omega), up_at, if_neg (by omega)]
  have hX7 : XR A V f w P q0 b p0 u0 M0 q (top + 1 + sz x') p (Nd c x Lf) st M5 := h.upd hA (by omega) (f5.mono (by decide)) l7 (by rw [n29 11 (by omega), n29 12 (by omega), n29 13 (by omega), n29 16 (by omega), f5.1 30 (by decide)]; exact ⟨h11, h12, h13, by rw [b29, up_at, if_pos rfl], h16, h30⟩) (fun k x hx => by rw [f5.1 31 (by decide), f5.2 32 (by decide)]; exact htr k x hx) (by omega) hE (Nat.le_refl _)
  have A7 : At (M5.1 7) top (en (Nd c x' Lf)) := by
    rw [en_1]
    refine ⟨?_, ?_⟩
    · rw [b7, cp_out (by omega), up_at, if_pos rfl]
    · rw [b7]
      exact AT_cp (by rw [sI_k] at A1; exact A1) (Nat.le_refl _)
  obtain ⟨M8, e1, e2, e3, e4⟩ := x_endw (d := d + 4) (a := jn top) (by omega) hA (by omega) hX7
  rw [h_215_233, e1, kV_r]
  refine ⟨M8, rfl, Or.inr ⟨by omega, top + 1 + sz x', top, e2, by omega, e3, by rw [e4]; exact A7, ⟨wf_1 hc hx, by rw [sz_n, zl]; omega⟩, Or.inr ⟨g11, by rw [sz_n, zl]; omega, hrw⟩⟩⟩
/-- what became of an argument: it stays, or another one stands -/
def Ag (a : Int32) (o : Nat) (x : Tm) (q0 q : RnS) (top : Nat) (M : PM) (p1 : Nat) (x' : Tm) : Prop := (a = jz 1 ∧ p1 = o ∨ a = jn p1) ∧ (p1 = o ∧ x' = x ∨ p1 ≠ o ∧ q0.2.1 < q.2.1) ∧ wf x' ∧ At (M.1 7) p1 (en x') ∧ p1 + sz x' ≤ top
theorem x_join2 {c a1 a2 : Int32} {x y x' y' : Tm} {p1 p2 : Nat} (hd : 5 ≤ d) (hA : AOk A) (hC : FC f q0 b p0 u0) (h : XR A V f w P q0 b p0 u0 M0 q top p (Nd c x y) st M) (hc : is2 c) (hx : wf x) (hy : wf y) (g1 : Ag a1 (p + 1) x q0 q top M p1 x') (g2 : Ag a2 (p + 1 + sz x) y q0 q top M p2 y') (hn : ¬ (a1 = jz 1 ∧ a2 = jz 1)) (htop : top ≤ 2120 + 40 * q.2.1) :
    ∃ M', pcl GG lay d 215 [.ref 29, .int (jn f), .int a1, .int a2] M = rV M' ∧ ((40 < sz (Nd c x' y') ∧ Ovr A V M0 M') ∨ (sz (Nd c x' y') ≤ 40 ∧ Wk A V f w P q0 b p0 u0 M0 q p (Nd c x y) (Nd c x' y') M')) := by
  obtain ⟨d, rfl⟩ := ex_add (show 1 ≤ d by omega)
  have hf : f < 600 := by have := hC.2.1; have := hC.2.2.1; omega
  have hE := h.2.2.2.2.2.1
  have q1 := hE.1.2.1
  have t3 : top ≤ 3760 := by omega
  obtain ⟨i1, i2, i3, i4, i5⟩ := g1
  obtain ⟨j1, j2, j3, j4, j5⟩ := g2
  have ha7 := h.2.2.1.1
  have hsz := h.2.2.1.2.2
  have hpt := h.2.2.2.2.1.2
  have h34 := h.2.1.2.1
  rw [en_n] at ha7
  rw [sz_n] at hsz hpt
  have zx := sz_pos x hx
  have zy := sz_pos y hy
  have zx' := sz_pos x' i3
  have zy' := sz_pos y' j3
  have hat1 : At (M.1 7) (p + 1) (en x) := ((At_app _ _ _).mp ha7.2).1
  have h233 : pcl GG lay d 233 [.ref 6, .int (jn (p + 1))] M = rI (jn (p + 1 + sz x)) M := c_end (by omega) hx hat1 (by omega)
  -- behind the two
  have key : ∀ (u5 u6 u8 : Option Value), (p1 = p + 1 → p2 = p + 1 + sz x → ∃ M', E_215 d (117, [some (.ref 29), some (.int (jn f)), u5, u6, some (.int (jn p)), some (.int (jn 1)), some (.int (jn p1)), some (.int (jn p2)), u8], [], M) = rV M' ∧ ((40 < sz (Nd c x' y') ∧ Ovr A V M0 M') ∨ (sz (Nd c x' y') ≤ 40 ∧ Wk A V f w P q0 b p0 u0 M0 q p (Nd c x y) (Nd c x' y') M'))) ∧ (¬ (p1 = p + 1 ∧ p2 = p + 1 + sz x) → ∃ M', E_215 d (125, [some (.ref 29), some (.int (jn f)), u5, u6, some (.int (jn p)), some (.int (jn 1)), some (.int (jn p1)), some (.int (jn p2)), u8], [], M) = rV M' ∧ ((40 < sz (Nd c x' y') ∧ Ovr A V M0 M') ∨ (sz (Nd c x' y') ≤ 40 ∧ Wk A V f w P q0 b p0 u0 M0 q p (Nd c x y) (Nd c x' y') M'))) := by
    intro u5 u6 u8
    refine ⟨fun e1 e2 => ?_, fun e => x_made2 (by omega) hA hC h hc i3 j3 i4 j4 i5 j5 htop ?_⟩
    · have ex : x' = x := by rcases i2 with i2 | i2; exact i2.2; exact absurd e1 i2.1
      have ey : y' = y := by rcases j2 with j2 | j2; exact j2.2; exact absurd e2 j2.1
      subst ex; subst ey
      obtain ⟨M', z1, z2⟩ := x_same0 (d := d) (a := p) (by omega) hA hf h t3 rfl
      rw [h_215_117, z1, kV_r]
      exact ⟨M', rfl, Or.inr ⟨by rw [sz_n]; omega, z2⟩⟩
    · rcases i2 with i2 | i2
      · rcases j2 with j2 | j2
        · exact absurd ⟨i2.1, j2.1⟩ e
        · exact j2.2
      · exact i2.2
  have K1 : ∀ u5 u6 u8, ∃ M', (if (jn p1) = jn (p + 1) then (if (jn p2) = jn (p + 1 + sz x) then E_215 d (117, [some (.ref 29), some (.int (jn f)), u5, u6, some (.int (jn p)), some (.int (jn 1)), some (.int (jn p1)), some (.int (jn p2)), u8], [], M) else E_215 d (125, [some (.ref 29), some (.int (jn f)), u5, u6, some (.int (jn p)), some (.int (jn 1)), some (.int (jn p1)), some (.int (jn p2)), u8], [], M)) else E_215 d (125, [some (.ref 29), some (.int (jn f)), u5, u6, some (.int (jn p)), some (.int (jn 1)), some (.int (jn p1)), some (.int (jn p2)), u8], [], M)) = rV M' ∧ ((40 < sz (Nd c x' y') ∧ Ovr A V M0 M') ∨ (sz (Nd c x' y') ≤ 40 ∧ Wk A V f w P q0 b p0 u0 M0 q p (Nd c x y) (Nd c x' y') M')) := by
    intro u5 u6 u8
    by_cases e1 : p1 = p + 1
    · rw [ieq_pos e1]
      by_cases e2 : p2 = p + 1 + sz x
      · rw [ieq_pos e2]; exact (key u5 u6 u8).1 e1 e2
      · rw [ieq_neg e2 (by omega) (by omega)]; exact (key u5 u6 u8).2 (fun z => e2 z.2)
    · rw [ieq_neg e1 (by omega) (by omega)]; exact (key u5 u6 u8).2 (fun z => e1 z.1)
  have hj : ∀ n, n < 2147483648 → ¬ jn n = jz 1 := fun n hn => by rw [jn_jz hn (by omega)]; exact id
  have n1 : ∀ (x y : PO), (if (jn 1) = jn 0 then x else y) = y := fun x y => ieq_neg (by omega) (by omega) (by omega)
  have e215 : pcl GG lay (d + 1) 215 [.ref 29, .int (jn f), .int a1, .int a2] M = E_215 d (17, [some (.ref 29), some (.int (jn f)), some (.int a1), some (.int a2), none, none, none, none, none], [], M) := by
    rw [q_215]
    by_cases z : a1 = jz 1
    · rw [if_pos z, if_neg (fun z2 => hn ⟨z, z2⟩)]
    · rw [if_neg z]
  rw [e215, h_215_17, c_get (n := 600) (by omega) rfl hf (by omega), kI_r, h34, c_at (by omega) (by omega), kI_r, ha7.1, c_arity (by omega), kI_r, arR_2 hc, if_pos rfl]
  simp only [n1, jn_add]
  rcases i1 with ⟨rfl, rfl⟩ | rfl
  · rcases j1 with ⟨rfl, rfl⟩ | rfl
    · exact absurd ⟨rfl, rfl⟩ hn
    · rw [if_pos rfl, if_neg (hj p2 (by omega)), h233, kI_r]
      have z := K1 (some (.int (jz 1))) (some (.int (jn p2))) none
      simp only [if_true] at z ⊢
      exact z
  · rw [if_neg (hj p1 (by omega))]
    rcases j1 with ⟨rfl, rfl⟩ | rfl
    · rw [if_pos rfl, h233, kI_r, h233, kI_r]
      exact K1 _ _ _
    · rw [if_neg (hj p2 (by omega)), h233, kI_r]
      exact K1 _ _ _
theorem x_join1 {c a1 : Int32} {x x' : Tm} {p1 : Nat} (hd : 5 ≤ d) (hA : AOk A) (hC : FC f q0 b p0 u0) (h : XR A V f w P q0 b p0 u0 M0 q top p (Nd c x Lf) st M) (hc : is1 c) (hx : wf x) (g1 : Ag a1 (p + 1) x q0 q top M p1 x') (hn : ¬ a1 = jz 1) (htop : top ≤ 2120 + 40 * q.2.1) :
    ∃ M', pcl GG lay d 215 [.ref 29, .int (jn f), .int a1, .int (jz 1)] M = rV M' ∧ ((40 < sz (Nd c x' Lf) ∧ Ovr A V M0 M') ∨ (sz (Nd c x' Lf) ≤ 40 ∧ Wk A V f w P q0 b p0 u0 M0 q p (Nd c x Lf) (Nd c x' Lf) M')) := by
  obtain ⟨d, rfl⟩ := ex_add (show 1 ≤ d by omega)
  have hf : f < 600 := by have := hC.2.1; have := hC.2.2.1; omega
  have hE := h.2.2.2.2.2.1
  have q1 := hE.1.2.1
  have t3 : top ≤ 3760 := by omega
  obtain ⟨i1, i2, i3, i4, i5⟩ := g1
  have ha7 := h.2.2.1.1
  have hsz := h.2.2.1.2.2
  have hpt := h.2.2.2.2.1.2
  have h34 := h.2.1.2.1
  rw [en_1] at ha7
  rw [sz_n] at hsz hpt
  have zx := sz_pos x hx
  have zx' := sz_pos x' i3
  have h233 : pcl GG lay d 233 [.ref 6, .int (jn (p + 1))] M = rI (jn (p + 1 + sz x)) M := c_end (by omega) hx ha7.2 (by omega)
  obtain rfl : a1 = jn p1 := by rcases i1 with ⟨i1, -⟩ | i1; exact absurd i1 hn; exact i1
  have n0 : ∀ (x y : PO), (if (jn 0) = jn 0 then x else y) = x := fun x y => ieq_pos rfl
  rw [q_215, if_neg hn, h_215_17, c_get (n := 600) (by omega) rfl hf (by omega), kI_r, h34, c_at (by omega) (by omega), kI_r, ha7.1, c_arity (by omega), kI_r, arR_1 hc, ieq_neg (by omega) (by omega) (by omega), if_neg hn, if_pos rfl]
  simp only [n0, jn_add]
  rw [h233, kI_r]
  by_cases e1 : p1 = p + 1
  · rw [ieq_pos e1]
    have ex : x' = x := by rcases i2 with i2 | i2; exact i2.2; exact absurd e1 i2.1
    subst ex
    obtain ⟨M', z1, z2⟩ := x_same0 (d := d) (a := p) (by omega) hA hf h t3 rfl
    rw [h_215_117, z1, kV_r]
    exact ⟨M', rfl, Or.inr ⟨by rw [sz_n]; omega, z2⟩⟩
  · rw [ieq_neg e1 (by omega) (by omega)]
    refine x_made1 (u7 := none) (by omega) hA hC h hc i3 i4 i5 htop ?_
    rcases i2 with i2 | i2
    · exact absurd i2.1 e1
    · exact i2.2
end
