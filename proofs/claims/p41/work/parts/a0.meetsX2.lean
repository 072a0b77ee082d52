/-! meets by the system -/
section
variable {d : Nat} {A : AT} {M M' : PM} {a b c e f : Int32}
theorem x_meets (hd : 18 ≤ d) (hA : AOk A) (h : RX A M) : XI (pcl GG lay d 44 [.ref 0, .int a, .int b, .int c] M) M (F_meets A a b c) := by
  obtain ⟨d, rfl⟩ := ex_add (show 2 ≤ d by omega)
  unfold F_meets
  rw [q_44, c_hasR (by omega) hA h, kI_r]
  by_cases h1 : hsR A a
  case neg => rw [bI_n h1, ieq_pos rfl, if_pos h1]; exact x_ref (by omega) h (by omega)
  rw [bI_1 h1, ieq_neg (by omega) (by omega) (by omega), if_neg (Classical.not_not.mpr h1), c_hasR (by omega) hA h, kI_r]
  by_cases h2 : hsR A b
  case neg => rw [bI_n h2, ieq_pos rfl, if_pos h2]; exact x_ref (by omega) h (by omega)
  rw [bI_1 h2, ieq_neg (by omega) (by omega) (by omega), if_neg (Classical.not_not.mpr h2)]
  by_cases h5 : c.toInt < 0
  · rw [if_pos (show c < jn 0 by rw [jlt (by omega)]; exact h5), if_pos h5]
    exact x_ref (by omega) h (by omega)
  rw [if_neg (show ¬ c < jn 0 by rw [jlt (by omega)]; exact h5), if_neg h5]
  have hpos : 0 < (rsA A).length := by have := h1.1; have := h1.2; omega
  have hv : okM A (jn 300) := Or.inr (Or.inl ⟨rfl, hpos⟩)
  obtain ⟨hl, hok⟩ := ovN_ok hA h1 h2
  obtain ⟨n, r, rfl, k1, k2, k3, k4⟩ := rs_of hA h1
  obtain ⟨n', q, rfl, i1, i2, i3, i4⟩ := rs_of hA h2
  unfold ovN at hl hok ⊢
  rw [k2, i2] at hl hok ⊢
  obtain ⟨M1, n1, g1, g2, g3, g4, g5⟩ := x_seek (d := d + 1) (e := c) (by omega) hA h k1 i1
  have hc := c.toInt_lt
  have hcj : c = jn c.toInt.toNat := jn_of (by omega)
  rw [Nat.zero_add] at g4 g5
  rw [g1, kI_r]
  cases ho : (ovL r q (ovK (jn n) (jn n')))[c.toInt.toNat]? with
  | none =>
    have hge := List.getElem?_eq_none_iff.mp ho
    rw [g4 (fun i _ hi z => by rw [hcj, jn_inj (by omega) (by omega)] at z; omega), if_neg (by rw [jlt (by omega)]; omega)]
    exact (x_ref (by omega) g2 (by omega)).pre g3
  | some o =>
    have hlt := (List.getElem?_eq_some_iff.mp ho).1
    obtain ⟨y1, y2⟩ := g5 c.toInt.toNat hcj (Nat.zero_le _) (by omega) hlt
    obtain ⟨b1, b2, b3⟩ := y2 o (by rw [Nat.sub_zero]; exact ho)
    obtain ⟨-, ⟨w2, z2⟩, w3, z3⟩ := hok o (List.mem_of_getElem? ho)
    rw [y1, if_pos (by rw [jlt (by omega)]; omega)]
    simp only
    obtain ⟨M2, p1, p2, p3, p4⟩ := c_build (d := d + 1) (by omega) hA g2 hpos
    have hH2 : Hi M M2 := g3.trans (Hi.fr p4 (by decide))
    obtain ⟨M3, c1, c2, c3, c4, c5⟩ := x_cnt0 (d := d + 1) (by omega) hA p2
    have hT3 : TBx A (okM A) M3 := TBx_sw p3 (c3.mono (by decide))
    have e73 : M3.1 7 = M1.1 7 := by rw [c3.1 7 (by decide), p4.1 7 (by decide)]
    have hH3 : Hi M M3 := hH2.trans (Hi.fr c3 (by decide))
    obtain ⟨M4, v1, v2, v3, v4⟩ := x_goX (dd := d) (w := jn 300) (p := 2040) (t := o.2.1) (by omega) hA (gM_ok hA) hT3 c2 hv w2 z2 (by rw [e73]; exact b2) (by omega) (Nat.zero_le _) (Nat.zero_le _) c4 c5
    have hH4 : Hi M M4 := hH3.trans (Hi_sw v1.1)
    have ho1 := rnA_ok (b := 0) (r := 0) hA hv w2 z2 (by omega) (by omega)
    rw [phi_300] at v4
    rw [p1, kI_r, c1, kV_r]
    unfold metV
    rcases e1 : rnA A (jn 300) o.2.1 0 0 with ⟨_ | u, q1⟩
    · have hov := inn_ov hA hpos 601 o.2.1 _ (stQ 0 0) w2 z2 (stQ_ok (by omega) (by omega)) q1 e1
      rw [e1] at v4
      simp only at v4 ⊢
      rw [v4, kI_r, if_pos hov, if_pos rfl]
      exact ⟨M4, rfl, v2, hH4⟩
    · rw [e1] at v4 ho1 v1
      obtain ⟨p', top', x1, x2, x3, x4⟩ := v4
      have no1 : ¬ q1.2.2.2 = true := by rw [ho1.2.2.1.2.2.2.1]; simp
      have v1 : Kx 0 2120 M3 M4 := by
        have := v1
        simp only [if_neg no1] at this
        exact this
      have hu := ho1.2.1
      have zu := sz_pos u ho1.1
      have hp' : 2040 ≤ p' ∧ p' + sz u ≤ 3760 := by rcases x4 with ⟨x4, x5⟩ | x4 <;> omega
      simp only
      rw [x1, kI_r, if_neg (by rw [jn_jz (by omega) (by omega)]; exact id), c_append (by omega) ho1.1 x3 hp'.2 (by omega) (by omega), kI_r]
      generalize hM5 : sI M4 7 (cp (M4.1 7) (M4.1 7) p' 1960 (sz u)) = M5
      have f5 : Fr [7] M4 M5 := by rw [← hM5]; exact Fr.sI (by decide)
      have e75 : M5.1 7 = cp (M4.1 7) (M4.1 7) p' 1960 (sz u) := by rw [← hM5, sI_k]
      clear hM5
      have at5 : At (M5.1 7) 1960 (en u) := by rw [e75]; exact AT_cp x3 (Nat.le_refl _)
      have out5 : ∀ j, (j < 1960 ∨ 2000 ≤ j) → M5.1 7 j = M4.1 7 j := fun j hj => by
        rw [e75]
        unfold cp
        rw [if_neg (by omega)]
      have hR5 : RX A M5 := RX_sw hA v2 (f5.mono (by decide)) (fun i hi => out5 i (by omega))
      have hT5 : TBx A (okM A) M5 := TBx_sw v3 (f5.mono (by decide))
      obtain ⟨M6, d1, d2, d3, d4, d5⟩ := x_cnt0 (d := d + 1) (by omega) hA hR5
      have hT6 : TBx A (okM A) M6 := TBx_sw hT5 (d3.mono (by decide))
      have e76 : M6.1 7 = M5.1 7 := d3.1 7 (by decide)
      have hH6 : Hi M M6 := hH4.trans ((Hi.fr f5 (by decide)).trans (Hi.fr d3 (by decide)))
      have at6 : At (M6.1 7) 2080 (en o.2.2) := by
        rw [e76]
        refine At_congr b3 (fun j j1 j2 => ?_)
        have lo : (en o.2.2).length = sz o.2.2 := rfl
        rw [out5 j (by omega), v1.2.2 j (by omega), e73]
      obtain ⟨M7, s1, s2, s3, s4⟩ := x_goX (dd := d) (w := jn 300) (p := 2080) (t := o.2.2) (by omega) hA (gM_ok hA) hT6 d2 hv w3 z3 at6 (by omega) (Nat.zero_le _) (Nat.zero_le _) d4 d5
      have hH7 : Hi M M7 := hH6.trans (Hi_sw s1.1)
      have ho2 := rnA_ok (b := 0) (r := 0) hA hv w3 z3 (by omega) (by omega)
      rw [phi_300] at s4
      rw [d1, kV_r]
      rcases e2 : rnA A (jn 300) o.2.2 0 0 with ⟨_ | v, q2⟩
      · have hov := inn_ov hA hpos 601 o.2.2 _ (stQ 0 0) w3 z3 (stQ_ok (by omega) (by omega)) q2 e2
        rw [e2] at s4
        simp only at s4 ⊢
        rw [s4, kI_r, if_pos hov, if_pos rfl]
        exact ⟨M7, rfl, s2, hH7⟩
      · rw [e2] at s4 ho2 s1
        obtain ⟨p2', top2, t1, t2, t3, t4⟩ := s4
        have no2 : ¬ q2.2.2.2 = true := by rw [ho2.2.2.1.2.2.2.1]; simp
        have s1 : Kx 0 2120 M6 M7 := by
          have := s1
          simp only [if_neg no2] at this
          exact this
        have hz2 := ho2.2.1
        have zv := sz_pos v ho2.1
        have hp2 : p2' + sz v ≤ 3760 := by rcases t4 with ⟨t4, t5⟩ | t4 <;> omega
        have at7 : At (M7.1 7) 1960 (en u) := by
          refine At_congr at5 (fun j j1 j2 => ?_)
          have lo : (en u).length = sz u := rfl
          rw [s1.2.2 j (by omega), e76]
        simp only
        rw [t1, kI_r, if_neg (by rw [jn_jz (by omega) (by omega)]; exact id), c_alike2 (by omega) ho1.1 ho2.1 at7 t3 hu (by omega) hp2, kI_r]
        refine ⟨M7, ?_, s2, hH7⟩
        by_cases he : en u = en v
        · rw [bI_1 he, ieq_neg (by omega) (by omega) (by omega)]
        · rw [bI_n he, ieq_pos rfl]
end
