/-! the system's run: steps of a walk -/
theorem pth_a (q : Int64) : Int64.ofInt 3 * q + Int64.ofNat 1 = pth q 1 := rfl
theorem pth_b (q : Int64) : Int64.ofInt 3 * q + Int64.ofInt 2 = pth q 2 := rfl
/-- those of whose arguments it is enough that one can -/
abbrev mayB (k : Nat) : Prop := k = 7 ∨ k = 8 ∨ k = 11
section
variable {d dd n k s s0 : Nat} {u1 u2 u4 : Option Value} {A : AT} {M M' M0 : PM} {V : Int32 → Prop} {f : Nat} {w w' : Int32} {P P' : Int64} {q0 q q' : RnS} {b p0 top top' p p' st st' : Nat} {u0 u u' : Tm}
theorem XR.tb (h : XR A V f w P q0 b p0 u0 M0 q top p u st M) : TBx A V M := h.1.2.1
theorem x_kd {w2 : Int32} (hd : 2 ≤ d) (hT : TBx A V M) (hw : V w2) : pcl GG lay d 248 [.ref 1, .int (jn (phi w2))] M = rI (jn (gM A w2).1) M := by
  obtain ⟨⟨h1, h2⟩, h3, h4, h5, h6⟩ := hT w2 hw
  rw [c_kind hd h1, h3]
theorem x_on {w2 : Int32} (hd : 2 ≤ d) (hT : TBx A V M) (hw : V w2) (hk : 2 < (gM A w2).1) : pcl GG lay d 249 [.ref 1, .int (jn (phi w2))] M = rI (jn (phi (gM A w2).2.1)) M := by
  obtain ⟨⟨h1, h2⟩, h3, h4, h5, h6⟩ := hT w2 hw
  rw [c_one hd h1, h5 hk]
theorem x_tw {w2 : Int32} (hd : 2 ≤ d) (hT : TBx A V M) (hw : V w2) (hk : (gM A w2).1 = 3 ∨ (gM A w2).1 = 4) : pcl GG lay d 250 [.ref 1, .int (jn (phi w2))] M = rI (jn (phi (gM A w2).2.2)) M := by
  obtain ⟨⟨h1, h2⟩, h3, h4, h5, h6⟩ := hT w2 hw
  rw [c_two hd h1, h6 hk]
theorem kd_le (hT : TBx A V M) (hw : V w) : (gM A w).1 ≤ 13 := (hT w hw).1.2
theorem g33 (hd : 1 ≤ d) (hf : f < 600) (h : XR A V f w P q0 b p0 u0 M0 q top p u st M) : pcl GG lay d 65 [.ref 33, .int (jn f)] M = rI (jn (phi w)) M := by
  rw [c_get (n := 600) hd rfl hf (by omega), h.2.1.1]
theorem g34 (hd : 1 ≤ d) (hf : f < 600) (h : XR A V f w P q0 b p0 u0 M0 q top p u st M) : pcl GG lay d 65 [.ref 34, .int (jn f)] M = rI (jn p) M := by
  rw [c_get (n := 600) hd rfl hf (by omega), h.2.1.2.1]
theorem g35 (hd : 1 ≤ d) (hf : f < 600) (h : XR A V f w P q0 b p0 u0 M0 q top p u st M) : pcl GG lay d 67 [.ref 35, .int (jn f)] M = rL P M := by
  rw [c_getL (n := 600) hd rfl hf (by omega), h.2.1.2.2.1]
theorem x_may (hd : 3 ≤ d) (hf : f < 600) (hw : V w) (h : XR A V f w P q0 b p0 u0 M0 q top p u st M) : pcl GG lay d 212 [.ref 29, .int (jn f)] M = rI (bI (mayB (gM A w).1)) M := by
  obtain ⟨d, rfl⟩ := ex_add hd
  have hk := kd_le h.tb hw
  rw [q_212, g33 (by omega) hf h, kI_r, x_kd (by omega) h.tb hw, kI_r]
  generalize (gM A w).1 = k at hk
  by_cases h7 : k = 7
  · rw [ieq_pos h7, rZ_1, bI_1 (Or.inl h7)]
  rw [ieq_neg h7 (by omega) (by omega)]
  by_cases h8 : k = 8
  · rw [ieq_pos h8, rZ_1, bI_1 (Or.inr (Or.inl h8))]
  rw [ieq_neg h8 (by omega) (by omega)]
  by_cases h11 : k = 11
  · rw [ieq_pos h11, rZ_1, bI_1 (Or.inr (Or.inr h11))]
  rw [ieq_neg h11 (by omega) (by omega), rZ_0, bI_n (by unfold mayB; omega)]
/-- what the arguments are given to -/
def wkr (A : AT) (w : Int32) : Int32 := if 8 < (gM A w).1 then w else (gM A w).2.1
theorem x_wkr (hd : 3 ≤ d) (hf : f < 600) (hw : V w) (hk : 2 < (gM A w).1) (h : XR A V f w P q0 b p0 u0 M0 q top p u st M) : pcl GG lay d 211 [.ref 29, .int (jn f)] M = rI (jn (phi (wkr A w))) M := by
  obtain ⟨d, rfl⟩ := ex_add hd
  have hk13 := kd_le h.tb hw
  rw [q_211, g33 (by omega) hf h, kI_r, x_kd (by omega) h.tb hw, kI_r]
  unfold wkr
  by_cases h8 : 8 < (gM A w).1
  · rw [ilt_pos h8 (by omega), if_pos h8]
  · rw [ilt_neg (by omega) (by omega), if_neg h8, x_on (by omega) h.tb hw hk, kI_r]
theorem wkr_V (hV : GOk V (okR A) (gM A)) (hw : V w) (hk : 2 < (gM A w).1) : V (wkr A w) := by
  unfold wkr
  split
  · exact hw
  · exact (hV w hw).2.1 hk
/-- what became of the first argument is kept -/
abbrev p37 (M : PM) (f : Nat) (a : Int32) : PM := sI M 37 (va_up (M.1 37) f a)
theorem XR.k37 {a : Int32} (hA : AOk A) (h : XR A V f w P q0 b p0 u0 M0 q top p u st M) : XR A V f w P q0 b p0 u0 M0 q top p u st (p37 M f a) := by
  obtain ⟨hX, g1, g2, g10, g11, hE, hK⟩ := h
  have hf : Fr [37] M (p37 M f a) := Fr.sI (by decide)
  refine ⟨hX.fr hA hf (by decide), g1, g2, g10, g11, hE, hK.trans ⟨hf.mono (by decide), fun j hj => ⟨rfl, rfl, rfl, rfl, ?_, rfl, rfl⟩, fun _ _ => rfl⟩⟩
  show va_up (M.1 37) f a j = _
  rw [up_at, if_neg (by omega)]
theorem sg7 {c : Int32} {x y : Tm} (h : XR A V f w P q0 b p0 u0 M0 q top p (Nd c x y) st M) : M.1 7 p = c := by
  have := h.2.2.1.1
  rw [en_n] at this
  exact this.1
theorem s153 {u5 u6 u7 : Option Value} (d : Nat) : E_213 d (153, [some (.ref 29), some (.int (jn f)), u5, u6, u7], [], M) = kV (pcl GG lay d 215 [.ref 29, .int (jn f), .int (M.1 29 15), .int (jz 1)] M) fun M => rV M := by
  rw [h_213_153]
  simp only [h_213_163]
theorem s90_1 {u6 u7 : Option Value} {c : Int32} {x y : Tm} (hd : 1 ≤ d) (hc : is1 c) (h : XR A V f w P q0 b p0 u0 M0 q top p (Nd c x y) st M) (hp : p < 3760) : E_213 d (90, [some (.ref 29), some (.int (jn f)), some (.int (jn p)), u6, u7], [], M) = kV (pcl GG lay d 215 [.ref 29, .int (jn f), .int (M.1 29 15), .int (jz 1)] M) fun M => rV M := by
  rw [h_213_90, c_at hd hp, kI_r, sg7 h, c_arity hd, kI_r, arR_1 hc, ieq_neg (by omega) (by omega) (by omega), s153]
theorem s90_2 {u6 u7 : Option Value} {c : Int32} {x y : Tm} (hd : 3 ≤ d) (hf : f < 600) (hw : V w) (hk : 2 < (gM A w).1) (hc : is2 c) (hx : wf x) (h : XR A V f w P q0 b p0 u0 M0 q top p (Nd c x y) st M) (hp : p + 1 + sz x ≤ 3760) : E_213 d (90, [some (.ref 29), some (.int (jn f)), some (.int (jn p)), u6, u7], [], M) = kV (pcl GG lay d 201 [.ref 29, .int (jn f), .int (jn 3), .int (jn (phi (wkr A w))), .int (jn (p + 1 + sz x)), .long (pth P 2)] M) fun M => rV M := by
  have := h.2.2.1.1
  rw [en_n] at this
  have hat : At (M.1 7) (p + 1) (en x) := ((At_app _ _ _).mp this.2).1
  rw [h_213_90, c_at (by omega) (by omega), kI_r, sg7 h, c_arity (by omega), kI_r, arR_2 hc, ieq_pos rfl, ieq_pos rfl, x_wkr hd hf hw hk h, kI_r, jn_add, c_end (by omega) hx hat (by omega), kI_r, g35 (by omega) hf h, kL_r, pth_b]
  simp only [h_213_163]
theorem s213_nA (hd : 4 ≤ d) (hf : f < 600) (hw : V w) (hm : ¬ mayB (gM A w).1) (h : XR A V f w P q0 b p0 u0 M0 q top p u st M) (h15 : M.1 29 15 = jz 1) : ∃ d', d' + 1 = d ∧ pcl GG lay d 213 [.ref 29, .int (jn f)] M = kV (pcl GG lay d' 205 [.ref 29, .int (jn f), .int (jz 1)] M) fun M => rV M := by
  obtain ⟨d, rfl⟩ := ex_add (show 1 ≤ d by omega)
  refine ⟨d, rfl, ?_⟩
  rw [q_213, g34 (by omega) hf h, kI_r, if_pos h15, ieq_neg (by omega) (by omega) (by omega), x_may (by omega) hf hw h, kI_r, bI_n hm, ieq_pos rfl]
theorem s213_nO (hd : 4 ≤ d) (hf : f < 600) (hw : V w) (hm : mayB (gM A w).1) (h : XR A V f w P q0 b p0 u0 M0 q top p u st M) (h15 : M.1 29 15 = jz 1) : ∃ d', d' + 1 = d ∧ pcl GG lay d 213 [.ref 29, .int (jn f)] M = E_213 d' (90, [some (.ref 29), some (.int (jn f)), some (.int (jn p)), some (.int (jn 1)), none], [], p37 M f (jz 1)) := by
  obtain ⟨d, rfl⟩ := ex_add (show 1 ≤ d by omega)
  refine ⟨d, rfl, ?_⟩
  rw [q_213, g34 (by omega) hf h, kI_r, if_pos h15, ieq_neg (by omega) (by omega) (by omega), x_may (by omega) hf hw h, kI_r, bI_1 hm, ieq_neg (by omega) (by omega) (by omega), h_213_42, c_put (n := 600) (by omega) rfl hf (by omega), kV_r, ieq_neg (by omega) (by omega) (by omega), h15]
theorem s213_s {p1 : Nat} (hd : 4 ≤ d) (hA : AOk A) (hf : f < 600) (hw : V w) (hm : ¬ mayB (gM A w).1 ∨ (gM A w).1 = 8) (h : XR A V f w P q0 b p0 u0 M0 q top p u st M) (h15 : M.1 29 15 = jn p1) (hp1 : p1 < 3760) : ∃ d', d' + 1 = d ∧ pcl GG lay d 213 [.ref 29, .int (jn f)] M = E_213 d' (90, [some (.ref 29), some (.int (jn f)), some (.int (jn p)), some (.int (jn 0)), none], [], p37 M f (jn p1)) := by
  obtain ⟨d, rfl⟩ := ex_add (show 1 ≤ d by omega)
  refine ⟨d, rfl, ?_⟩
  have hk13 := kd_le h.tb hw
  have h2 := h.k37 (a := jn p1) hA
  rw [q_213, g34 (by omega) hf h, kI_r, h15, if_neg (by rw [jn_jz (by omega) (by omega)]; exact id), ieq_pos rfl, h_213_42, c_put (n := 600) (by omega) rfl hf (by omega), kV_r, ieq_pos rfl, h15, g33 (by omega) hf h2, kI_r, x_kd (by omega) h2.tb hw, kI_r]
  by_cases h8 : (gM A w).1 = 8
  · rw [ieq_pos h8]
  · rw [ieq_neg h8 (by omega) (by omega), x_may (by omega) hf hw h2, kI_r, bI_n (hm.resolve_right h8), ieq_pos rfl]
theorem s213_s1 {p1 : Nat} {c : Int32} {x y : Tm} (hd : 4 ≤ d) (hA : AOk A) (hf : f < 600) (hw : V w) (hm : mayB (gM A w).1) (h8 : (gM A w).1 ≠ 8) (h : XR A V f w P q0 b p0 u0 M0 q top p (Nd c x y) st M) (h15 : M.1 29 15 = jn p1) (hp1 : p1 < 3760) (hp : p < 3760) : ∃ d', d' + 1 = d ∧ pcl GG lay d 213 [.ref 29, .int (jn f)] M = kV (pcl GG lay d' 215 [.ref 29, .int (jn f), .int (jn p1), .int (jz 1)] (p37 M f (jn p1))) fun M => rV M := by
  obtain ⟨d, rfl⟩ := ex_add (show 1 ≤ d by omega)
  refine ⟨d, rfl, ?_⟩
  have hk13 := kd_le h.tb hw
  have h2 := h.k37 (a := jn p1) hA
  have h15' : (p37 M f (jn p1)).1 29 15 = jn p1 := h15
  rw [q_213, g34 (by omega) hf h, kI_r, h15, if_neg (by rw [jn_jz (by omega) (by omega)]; exact id), ieq_pos rfl, h_213_42, c_put (n := 600) (by omega) rfl hf (by omega), kV_r, ieq_pos rfl, h15, g33 (by omega) hf h2, kI_r, x_kd (by omega) h2.tb hw, kI_r, ieq_neg h8 (by omega) (by omega), x_may (by omega) hf hw h2, kI_r, bI_1 hm, ieq_neg (by omega) (by omega) (by omega), c_at (by omega) hp, kI_r, sg7 h2, c_arity (by omega), kI_r, s153, h15']
  split
  · rw [ieq_neg (by omega) (by omega) (by omega)]
  · rfl
theorem s214_nA (hd : 4 ≤ d) (hf : f < 600) (hw : V w) (hm : ¬ mayB (gM A w).1) (h : XR A V f w P q0 b p0 u0 M0 q top p u st M) (h15 : M.1 29 15 = jz 1) : ∃ d', d' + 1 = d ∧ pcl GG lay d 214 [.ref 29, .int (jn f)] M = kV (pcl GG lay d' 205 [.ref 29, .int (jn f), .int (jz 1)] M) fun M => rV M := by
  obtain ⟨d, rfl⟩ := ex_add (show 1 ≤ d by omega)
  refine ⟨d, rfl, ?_⟩
  rw [q_214, if_pos h15, x_may (by omega) hf hw h, kI_r, bI_n hm, ieq_pos rfl]
theorem s214_nO {a : Int32} (hd : 4 ≤ d) (hf : f < 600) (hw : V w) (hm : mayB (gM A w).1) (h : XR A V f w P q0 b p0 u0 M0 q top p u st M) (h15 : M.1 29 15 = jz 1) (h37 : M.1 37 f = a) : ∃ d', d' + 1 = d ∧ pcl GG lay d 214 [.ref 29, .int (jn f)] M = kV (pcl GG lay d' 215 [.ref 29, .int (jn f), .int a, .int (jz 1)] M) fun M => rV M := by
  obtain ⟨d, rfl⟩ := ex_add (show 1 ≤ d by omega)
  refine ⟨d, rfl, ?_⟩
  rw [q_214, if_pos h15, x_may (by omega) hf hw h, kI_r, bI_1 hm, ieq_neg (by omega) (by omega) (by omega), c_get (n := 600) (by omega) rfl hf (by omega), kI_r, h37, h15]
theorem s214_s {a : Int32} {p2 : Nat} (hd : 4 ≤ d) (hf : f < 600) (h15 : M.1 29 15 = jn p2) (hp2 : p2 < 3760) (h37 : M.1 37 f = a) : ∃ d', d' + 1 = d ∧ pcl GG lay d 214 [.ref 29, .int (jn f)] M = kV (pcl GG lay d' 215 [.ref 29, .int (jn f), .int a, .int (jn p2)] M) fun M => rV M := by
  obtain ⟨d, rfl⟩ := ex_add (show 1 ≤ d by omega)
  refine ⟨d, rfl, ?_⟩
  rw [q_214, h15, if_neg (by rw [jn_jz (by omega) (by omega)]; exact id), c_get (n := 600) (by omega) rfl hf (by omega), kI_r, h37, h15]
/-- a walk begins -/
theorem s209_0 {c : Int32} (hd : 4 ≤ d) (hf : f < 600) (hw : V w) (hc : is0 c) (h : XR A V f w P q0 b p0 u0 M0 q top p (Nd c Lf Lf) st M) (hp : p < 3760) : ∃ d', d' + 1 = d ∧ pcl GG lay d 209 [.ref 29, .int (jn f)] M = kV (pcl GG lay d' 210 [.ref 29, .int (jn f), .int (if mayB (gM A w).1 then jz 1 else jn p)] M) fun M => rV M := by
  obtain ⟨d, rfl⟩ := ex_add (show 1 ≤ d by omega)
  refine ⟨d, rfl, ?_⟩
  rw [q_209, g34 (by omega) hf h, kI_r, c_at (by omega) hp, kI_r, sg7 h, c_arity (by omega), kI_r, arR_0 hc, ilt_neg (by omega) (by omega), x_may (by omega) hf hw h, kI_r]
  by_cases hm : mayB (gM A w).1
  · rw [bI_1 hm, ieq_neg (by omega) (by omega) (by omega), if_pos hm]
  · rw [bI_n hm, ieq_pos rfl, if_neg hm]
theorem s209_1 {c : Int32} {x y : Tm} (hd : 4 ≤ d) (hf : f < 600) (hw : V w) (hk : 2 < (gM A w).1) (hc : is1 c ∨ is2 c) (h : XR A V f w P q0 b p0 u0 M0 q top p (Nd c x y) st M) (hp : p < 3760) : ∃ d', d' + 1 = d ∧ pcl GG lay d 209 [.ref 29, .int (jn f)] M = kV (pcl GG lay d' 201 [.ref 29, .int (jn f), .int (jn 2), .int (jn (phi (wkr A w))), .int (jn (p + 1)), .long (pth P 1)] M) fun M => rV M := by
  obtain ⟨d, rfl⟩ := ex_add (show 1 ≤ d by omega)
  refine ⟨d, rfl, ?_⟩
  have har : ∃ n, arR c = jn n ∧ 0 < n ∧ n < 3 := by
    rcases hc with h1 | h2
    · exact ⟨1, arR_1 h1, by omega, by omega⟩
    · exact ⟨2, arR_2 h2, by omega, by omega⟩
  obtain ⟨m, har, hm, hm3⟩ := har
  rw [q_209, g34 (by omega) hf h, kI_r, c_at (by omega) hp, kI_r, sg7 h, c_arity (by omega), kI_r, har, ilt_pos hm (by omega), x_wkr (by omega) hf hw hk h, kI_r, g35 (by omega) hf h, kL_r, jn_add, pth_a]
end
