/-! meets by the system -/
def slt (k : Nat) : Nat := if k = 1 then 24 else 35 + k
section
variable {d : Nat} {A : AT} {M M' : PM} {a b c e f : Int32} {r q : Tm × Tm} {i j : Nat}
theorem phi_300 : phi (jn 300) = 36 := if_pos rfl
theorem phi_r {k : Nat} (hk : k < 12) : phi (jn (200 + k)) = 24 + k := by
  unfold phi
  rw [if_neg (by rw [jn_inj (by omega) (by omega)]; omega), jn_toInt (by omega), if_neg (by omega), if_pos (by omega)]
  omega
theorem phi_c {k : Nat} (hk : k < 12) : phi (jn (1000 + k)) = slt (k + 1) := by
  unfold phi slt
  rw [if_neg (by rw [jn_inj (by omega) (by omega)]; omega), jn_toInt (by omega), if_neg (by omega), if_neg (by omega)]
  by_cases h : k = 0
  · subst h; rw [if_pos rfl, if_pos (by omega)]
  · rw [if_neg (by rw [jn_inj (by omega) (by omega)]; omega), if_neg (by omega)]; omega
/-- what is laid so far -/
def Bld (k : Nat) (M M' : PM) : Prop := Fr [2, 3, 4, 5] M M' ∧ (∀ j, j < 24 → M'.1 2 j = M.1 2 j ∧ M'.1 3 j = M.1 3 j ∧ M'.1 4 j = M.1 4 j ∧ M'.1 5 j = M.1 5 j) ∧ (∀ r, r < k → M'.1 2 (24 + r) = jn 0 ∧ M'.1 3 (24 + r) = jn r ∧ M'.1 5 (24 + r) = jn 1) ∧ (∀ c, 1 ≤ c → c < k → M'.1 2 (36 + c) = jn 4 ∧ M'.1 3 (36 + c) = jn (slt c) ∧ M'.1 4 (36 + c) = jn (24 + c)) ∧ ∃ w, w ≤ 1000 ∧ M'.1 5 (slt k) = jn w
theorem laid_fr {w : Nat} {k f s wt : Int32} : Fr [2, 3, 4, 5] M (laidW M w k f s wt) := (((Fr.sI (by decide)).trans (Fr.sI (by decide))).trans (Fr.sI (by decide))).trans (Fr.sI (by decide))
theorem laid_at {w x : Nat} {k f s wt : Int32} : (laidW M w k f s wt).1 2 x = (if x = w then k else M.1 2 x) ∧ (laidW M w k f s wt).1 3 x = (if x = w then f else M.1 3 x) ∧ (laidW M w k f s wt).1 4 x = (if x = w then s else M.1 4 x) ∧ (laidW M w k f s wt).1 5 x = (if x = w then wt else M.1 5 x) := ⟨rfl, rfl, rfl, rfl⟩
theorem slt_lt {k : Nat} (h : k ≤ 12) (h1 : 1 ≤ k) : slt k < 48 ∧ slt k ≠ 36 ∧ 24 ≤ slt k := by
  unfold slt
  split <;> omega
theorem c_build (hd : 5 ≤ d) (hA : AOk A) (h : RX A M) (h0 : 0 < (rsA A).length) : ∃ M', pcl GG lay d 247 [.ref 1] M = rI (jn 36) M' ∧ RX A M' ∧ TBx A (okM A) M' ∧ Fr [2, 3, 4, 5] M M' := by
  obtain ⟨d, rfl⟩ := ex_add (show 1 ≤ d by omega)
  have hn := rs_le hA
  generalize hN : (rsA A).length = N at *
  have e6 : M.1 1 6 = jn N := by rw [← hN]; exact h.1.1.2.1
  have lp : ∀ m k M1, k + m = N → 1 ≤ k → Bld k M M1 → ∃ M', E_247 d (14, [some (.ref 1), some (.int (jn (slt k))), some (.int (jn k))], [], M1) = (kV (pcl GG lay d 246 [.ref 1, .int (jn 36), .int (jn 12), .int (jn (slt N)), .int (jz 1)] M') fun M1 => (rI (jn 36) M1)) ∧ Bld N M M' := by
    intro m
    induction m with
    | zero =>
      intro k M1 hk h1 hb
      obtain rfl : k = N := by omega
      rw [h_247_14, hb.1.1 1 (by decide), e6, ilt_neg (by omega) (by omega)]
      exact ⟨M1, rfl, hb⟩
    | succ m ih =>
      intro k M1 hk h1 hb
      obtain ⟨b1, b2, b3, b4, w, hw, b5⟩ := hb
      have hs := slt_lt (k := k) (by omega) h1
      have es : slt (k + 1) = 36 + k := by unfold slt; rw [if_neg (by omega)]; omega
      rw [h_247_14, b1.1 1 (by decide), e6, ilt_pos (by omega) (by omega), jn_add, jn_add, jn_add]
      have w1 := c_ws (d := d) (M := M1) (w := 24 + k) (k := 0) (wa := 0) (wb := 0) (a := jn k) (b := jz 1) (by omega) (by omega) (by omega) (fun z => by omega) (fun z => by omega) (by omega) (by omega)
      simp only [show ¬ ((0 : Nat) = 1 ∨ (0 : Nat) = 2) by omega, show ¬ ((0 : Nat) = 3 ∨ (0 : Nat) = 4) by omega, show ¬ (2 < (0 : Nat)) by omega, if_false] at w1
      rw [w1, kV_r]
      generalize hM2 : laidW M1 (24 + k) _ _ _ _ = M2
      have f2 : Fr [2, 3, 4, 5] M1 M2 := by rw [← hM2]; exact laid_fr
      have a2 : ∀ x, M2.1 2 x = (if x = 24 + k then jn 0 else M1.1 2 x) ∧ M2.1 3 x = (if x = 24 + k then jn k else M1.1 3 x) ∧ M2.1 4 x = (if x = 24 + k then jz 1 else M1.1 4 x) ∧ M2.1 5 x = (if x = 24 + k then jn (min 1000 (1 + 0 + 0)) else M1.1 5 x) := fun x => by rw [← hM2]; exact laid_at
      clear hM2
      have w24 : M2.1 5 (24 + k) = jn 1 := by rw [(a2 _).2.2.2, if_pos rfl]; rfl
      have wsl : M2.1 5 (slt k) = jn w := by
        rw [(a2 _).2.2.2, if_neg (by unfold slt; split <;> omega)]; exact b5
      have w2 := c_ws (d := d) (M := M2) (w := 36 + k) (k := 4) (wa := w) (wb := 1) (a := jn (slt k)) (b := jn (24 + k)) (by omega) (by omega) (by omega) (fun _ => ⟨slt k, hs.1, rfl, wsl⟩) (fun _ => ⟨24 + k, by omega, rfl, w24⟩) hw (by omega)
      simp only [show ¬ ((4 : Nat) = 1 ∨ (4 : Nat) = 2) by omega, show ((4 : Nat) = 3 ∨ (4 : Nat) = 4) by omega, show (2 < (4 : Nat)) by omega, if_true, if_false] at w2
      rw [w2, kV_r]
      generalize hM3 : laidW M2 (36 + k) _ _ _ _ = M3
      have f3 : Fr [2, 3, 4, 5] M2 M3 := by rw [← hM3]; exact laid_fr
      have a3 : ∀ x, M3.1 2 x = (if x = 36 + k then jn 4 else M2.1 2 x) ∧ M3.1 3 x = (if x = 36 + k then jn (slt k) else M2.1 3 x) ∧ M3.1 4 x = (if x = 36 + k then jn (24 + k) else M2.1 4 x) ∧ M3.1 5 x = (if x = 36 + k then jn (min 1000 (1 + w + 1)) else M2.1 5 x) := fun x => by rw [← hM3]; exact laid_at
      clear hM3
      rw [← es]
      refine ih (k + 1) M3 (by omega) (by omega) ⟨b1.trans (f2.trans f3), fun j hj => ?_, fun r hr => ?_, fun c c1 c2 => ?_, min 1000 (1 + w + 1), by omega, ?_⟩
      · obtain ⟨q1, q2, q3, q4⟩ := b2 j hj
        rw [(a3 j).1, (a3 j).2.1, (a3 j).2.2.1, (a3 j).2.2.2, (a2 j).1, (a2 j).2.1, (a2 j).2.2.1, (a2 j).2.2.2]
        simp only [show ¬ j = 36 + k by omega, show ¬ j = 24 + k by omega, if_false]
        exact ⟨q1, q2, q3, q4⟩
      · rw [(a3 _).1, (a3 _).2.1, (a3 _).2.2.2, (a2 _).1, (a2 _).2.1, (a2 _).2.2.2]
        simp only [show ¬ 24 + r = 36 + k by omega, if_false]
        by_cases er : r = k
        · subst er
          simp only [if_true]
          exact ⟨trivial, trivial, rfl⟩
        · simp only [show ¬ 24 + r = 24 + k by omega, if_false]
          exact b3 r (by omega)
      · rw [(a3 _).1, (a3 _).2.1, (a3 _).2.2.1, (a2 _).1, (a2 _).2.1, (a2 _).2.2.1]
        by_cases ec : c = k
        · subst ec
          simp only [if_true]
          exact ⟨trivial, trivial, trivial⟩
        · simp only [show ¬ 36 + c = 36 + k by omega, show ¬ 36 + c = 24 + k by omega, if_false]
          exact b4 c c1 (by omega)
      · rw [es, (a3 _).2.2.2, if_pos rfl]
  have w0 := c_ws (d := d) (M := M) (w := 24) (k := 0) (wa := 0) (wb := 0) (a := jn 0) (b := jz 1) (by omega) (by omega) (by omega) (fun z => by omega) (fun z => by omega) (by omega) (by omega)
  simp only [show ¬ ((0 : Nat) = 1 ∨ (0 : Nat) = 2) by omega, show ¬ ((0 : Nat) = 3 ∨ (0 : Nat) = 4) by omega, show ¬ (2 < (0 : Nat)) by omega, if_false] at w0
  rw [q_247, w0, kV_r]
  generalize hM1 : laidW M 24 _ _ _ _ = M1
  have f1 : Fr [2, 3, 4, 5] M M1 := by rw [← hM1]; exact laid_fr
  have a1 : ∀ x, M1.1 2 x = (if x = 24 then jn 0 else M.1 2 x) ∧ M1.1 3 x = (if x = 24 then jn 0 else M.1 3 x) ∧ M1.1 4 x = (if x = 24 then jz 1 else M.1 4 x) ∧ M1.1 5 x = (if x = 24 then jn (min 1000 (1 + 0 + 0)) else M.1 5 x) := fun x => by rw [← hM1]; exact laid_at
  clear hM1
  have hb1 : Bld 1 M M1 := by
    refine ⟨f1, fun j hj => ?_, fun r hr => ?_, fun c c1 c2 => by omega, 1, by omega, ?_⟩
    · rw [(a1 j).1, (a1 j).2.1, (a1 j).2.2.1, (a1 j).2.2.2]
      simp only [show ¬ j = 24 by omega, if_false]
      exact ⟨trivial, trivial, trivial, trivial⟩
    · obtain rfl : r = 0 := by omega
      rw [(a1 _).1, (a1 _).2.1, (a1 _).2.2.2]
      exact ⟨rfl, rfl, rfl⟩
    · rw [(a1 _).2.2.2]; rfl
  obtain ⟨M2, g1, b1, b2, b3, b4, w, hw, b5⟩ := lp (N - 1) 1 M1 (by omega) (Nat.le_refl _) hb1
  have g1 : E_247 d (14, [some (.ref 1), some (.int (jn 24)), some (.int (jn 1))], [], M1) = _ := g1
  have hs := slt_lt (k := N) (by omega) (by omega)
  have w3 := c_ws (d := d) (M := M2) (w := 36) (k := 12) (wa := w) (wb := 0) (a := jn (slt N)) (b := jz 1) (by omega) (by omega) (by omega) (fun _ => ⟨slt N, hs.1, rfl, b5⟩) (fun z => by omega) hw (by omega)
  simp only [show ¬ ((12 : Nat) = 1 ∨ (12 : Nat) = 2) by omega, show ¬ ((12 : Nat) = 3 ∨ (12 : Nat) = 4) by omega, show (2 < (12 : Nat)) by omega, if_true, if_false] at w3
  rw [g1, w3, kV_r]
  generalize hM3 : laidW M2 36 _ _ _ _ = M3
  have f3 : Fr [2, 3, 4, 5] M2 M3 := by rw [← hM3]; exact laid_fr
  have a3 : ∀ x, M3.1 2 x = (if x = 36 then jn 12 else M2.1 2 x) ∧ M3.1 3 x = (if x = 36 then jn (slt N) else M2.1 3 x) ∧ M3.1 4 x = (if x = 36 then jz 1 else M2.1 4 x) ∧ M3.1 5 x = (if x = 36 then jn (min 1000 (1 + w + 0)) else M2.1 5 x) := fun x => by rw [← hM3]; exact laid_at
  clear hM3
  have hf : Fr [2, 3, 4, 5] M M3 := b1.trans f3
  have hR : RX A M3 := by
    obtain ⟨x1, ⟨x2, x3⟩, x4, x5, x6, x7⟩ := h
    refine ⟨?_, ⟨?_, ?_⟩, ?_, ?_, ?_, ?_⟩
    · refine KX_congr hA.1 x1 (fun j _ _ => by rw [hf.1 1 (by decide)]) (fun j hj => ?_) (fun j _ => by rw [hf.1 (1 + 6) (by decide)])
      obtain ⟨q1, q2, q3, q4⟩ := b2 j hj
      show M3.1 2 j = M.1 2 j ∧ M3.1 3 j = M.1 3 j ∧ M3.1 4 j = M.1 4 j ∧ M3.1 5 j = M.1 5 j
      rw [(a3 j).1, (a3 j).2.1, (a3 j).2.2.1, (a3 j).2.2.2]
      simp only [show ¬ j = 36 by omega, if_false]
      exact ⟨q1, q2, q3, q4⟩
    · rw [hf.1 0 (by decide)]; exact x2
    · intro K hK
      exact KX_eq (x3 K hK) (hf.1 _ (by decide)) (hf.1 _ (by decide)) (hf.1 _ (by decide)) (hf.1 _ (by decide)) (hf.1 _ (by decide)) (hf.1 _ (by decide))
    · exact TX_eq x4 (by rw [hf.1 48 (by decide)]) (hf.1 _ (by decide)) (hf.2 _ (by decide))
    · exact SX_eq x5 (hf.1 _ (by decide)) (hf.1 _ (by decide)) (hf.2 _ (by decide))
    · rw [hf.1 0 (by decide)]; exact x6
    · exact CX_eq x7 (hf.1 _ (by decide))
  refine ⟨M3, rfl, hR, fun v hv => ?_, hf⟩
  rcases hv with ⟨k, hk, rfl⟩ | ⟨rfl, -⟩ | ⟨k, hk, rfl⟩ | ⟨k, hk, rfl⟩
  · exact told_tb hA hR _ ⟨k, hk, rfl⟩
  · rw [gM_b, phi_300]
    refine ⟨by show 36 < 48 ∧ 12 ≤ 13; omega, by rw [(a3 _).1, if_pos rfl], fun z => by simp at z, fun _ => ?_, fun z => by simp at z⟩
    rw [(a3 _).2.1, if_pos rfl]
    show jn (slt N) = jn (phi (jn (999 + (rsA A).length)))
    rw [hN, show 999 + N = 1000 + (N - 1) by omega, phi_c (by omega), show N - 1 + 1 = N by omega]
  · rw [hN] at hk
    obtain ⟨q1, q2, -⟩ := b3 k hk
    rw [gM_r (by omega), phi_r (by omega)]
    refine ⟨by show 24 + k < 48 ∧ 0 ≤ 13; omega, by rw [(a3 _).1, if_neg (by omega)]; exact q1, fun _ => by rw [(a3 _).2.1, if_neg (by omega)]; exact q2, fun z => by simp at z, fun z => by simp at z⟩
  · rw [hN] at hk
    cases k with
    | zero =>
      obtain ⟨q1, q2, -⟩ := b3 0 hk
      rw [gM_0, phi_c (by omega)]
      exact ⟨⟨by show 24 < 48; omega, by show 0 ≤ 13; omega⟩, by show M3.1 2 24 = _; rw [(a3 _).1, if_neg (by omega)]; exact q1, fun _ => by show M3.1 3 24 = _; rw [(a3 _).2.1, if_neg (by omega)]; exact q2, fun z => by simp at z, fun z => by simp at z⟩
    | succ k =>
      obtain ⟨q1, q2, q3⟩ := b4 (k + 1) (by omega) hk
      have es : slt (k + 1 + 1) = 36 + (k + 1) := by unfold slt; rw [if_neg (by omega)]; omega
      rw [gM_c (by omega), phi_c (by omega), es]
      refine ⟨⟨by omega, by show 4 ≤ 13; omega⟩, by rw [(a3 _).1, if_neg (by omega)]; exact q1, fun z => by simp at z, fun _ => ?_, fun _ => ?_⟩
      · rw [(a3 _).2.1, if_neg (by omega), q2]
        show _ = jn (phi (jn (1000 + k)))
        rw [phi_c (by omega)]
      · rw [(a3 _).2.2.1, if_neg (by omega), q3]
        show _ = jn (phi (jn (200 + (k + 1))))
        rw [phi_r (by omega)]
end
