/-! the system's unifying: what is written -/
def NSx (nm : List Int32) (M : PM) : Prop := (∀ v, v < 12 → M.1 46 v = if vcd v ∈ nm then jn (117 + nm.idxOf (vcd v)) else jn 0) ∧ M.1 40 9 = jn nm.length ∧ nm.Nodup ∧ ∀ c ∈ nm, vE c
def WS (P cnt : Nat) (nm : List Int32) (o : Nat) (M : PM) : Prop := M.1 40 10 = jn P ∧ M.1 40 11 = jn cnt ∧ M.1 40 12 = jn o ∧ NSx nm M ∧ cnt ≤ 40
def WO (P : Nat) (M : PM) : Prop := ∃ cnt nm, WS P cnt nm 1 M
def FW (P : Nat) (M M' : PM) : Prop := Fr [7, 40, 46, 47] M M' ∧ (∀ j, (j < P ∨ P + 40 ≤ j) → M'.1 7 j = M.1 7 j) ∧ ∀ j, j ≠ 9 → j ≠ 11 → j ≠ 12 → M'.1 40 j = M.1 40 j
theorem FW.rf {P : Nat} {M : PM} : FW P M M := ⟨Fr.rf, fun _ _ => rfl, fun _ _ _ _ => rfl⟩
theorem FW.trans {P : Nat} {M M' M'' : PM} (h : FW P M M') (h' : FW P M' M'') : FW P M M'' := ⟨h.1.trans h'.1, fun j hj => (h'.2.1 j hj).trans (h.2.1 j hj), fun j a b c => (h'.2.2 j a b c).trans (h.2.2 j a b c)⟩
/-- a list that is written, its variables named -/
def WR (P cnt : Nat) (nm l : List Int32) (M M' : PM) : Prop := FW P M M' ∧ ((cnt + l.length ≤ 40 ∧ WS P (cnt + l.length) (cnS nm l).2 0 M' ∧ At (M'.1 7) (P + cnt) (cnS nm l).1 ∧ ∀ j, j < P + cnt → M'.1 7 j = M.1 7 j) ∨ (40 < cnt + l.length ∧ WO P M'))
section
variable {d P cnt : Nat} {nm l l' : List Int32} {M M1 M' : PM} {c : Int32} {o : Nat}
theorem WR.nil (h : WS P cnt nm 0 M) : WR P cnt nm [] M M := ⟨FW.rf, Or.inl ⟨h.2.2.2.2, h, trivial, fun _ _ => rfl⟩⟩
theorem WR.app (h1 : WR P cnt nm l M M1) (h2 : cnt + l.length ≤ 40 → WR P (cnt + l.length) (cnS nm l).2 l' M1 M') (h3 : 40 < cnt + l.length → FW P M1 M' ∧ WO P M') : WR P cnt nm (l ++ l') M M' := by
  obtain ⟨f, ⟨a1, a2, a3, a4⟩ | ⟨a1, a2⟩⟩ := h1
  · obtain ⟨g, ⟨b1, b2, b3, b4⟩ | ⟨b1, b2⟩⟩ := h2 a1
    · refine ⟨f.trans g, Or.inl ⟨by rw [List.length_append]; omega, ?_, ?_, fun j hj => by rw [b4 j (by omega), a4 j hj]⟩⟩
      · rw [cnS_app, List.length_append, ← Nat.add_assoc]; exact b2
      · rw [cnS_app]
        refine (At_app _ _ _).mpr ⟨At_congr a3 (fun j j1 j2 => ?_), ?_⟩
        · rw [cnS_len] at j2
          exact b4 j (by omega)
        · rw [cnS_len, Nat.add_assoc]; exact b3
    · exact ⟨f.trans g, Or.inr ⟨by rw [List.length_append]; omega, b2⟩⟩
  · obtain ⟨g, w⟩ := h3 a1
    exact ⟨f.trans g, Or.inr ⟨by rw [List.length_append]; omega, w⟩⟩
theorem NSx_le (h : NSx nm M) : nm.length ≤ 12 := Nat.le_trans (nodup_cnt nm h.2.2.1 h.2.2.2) (cntP_le _ 12)
/-- one sign -/
theorem c_emit (hd : 2 ≤ d) (hP : P + 40 ≤ 3760) (h : WS P cnt nm o M) : ∃ M', pcl GG lay d 270 [.ref 40, .int c] M = rV M' ∧ FW P M M' ∧ M'.1 46 = M.1 46 ∧ M'.1 47 = M.1 47 ∧ (cnt < 40 → WS P (cnt + 1) nm o M' ∧ M'.1 7 (P + cnt) = c ∧ ∀ j, j ≠ P + cnt → M'.1 7 j = M.1 7 j) ∧ (cnt = 40 → WS P 40 nm 1 M') := by
  obtain ⟨d, rfl⟩ := ex_add (show 1 ≤ d by omega)
  obtain ⟨h1, h2, h3, h4, h5⟩ := h
  rw [q_270, h2]
  by_cases hc : cnt < 40
  · rw [ilt_pos hc (by omega), h1, jn_add, c_write (by omega) (by omega), kV_r, wr_e]
    generalize hM1 : sI M 7 (va_up (M.1 7) (P + cnt) c) = M1
    have e7 : M1.1 7 = va_up (M.1 7) (P + cnt) c := by rw [← hM1, sI_k]
    have e40 : M1.1 40 = M.1 40 := by rw [← hM1, sI_o _ _ (by decide)]
    have f1 : Fr [7] M M1 := by rw [← hM1]; exact Fr.sI (by decide)
    clear hM1
    rw [e40, h2, jn_add]
    generalize hM2 : sI M1 40 (va_up (M.1 40) 11 (jn (cnt + 1))) = M2
    have g7 : M2.1 7 = va_up (M.1 7) (P + cnt) c := by rw [← hM2, sI_o _ _ (by decide), e7]
    have g40 : M2.1 40 = va_up (M.1 40) 11 (jn (cnt + 1)) := by rw [← hM2, sI_k]
    have f2 : Fr [7, 40] M M2 := by rw [← hM2]; exact (f1.mono (by decide)).trans (Fr.sI (by decide))
    clear hM2
    refine ⟨M2, rfl, ⟨f2.mono (by decide), fun j hj => by rw [g7, up_at, if_neg (by omega)], fun j j1 j2 j3 => by rw [g40, up_at, if_neg j2]⟩, f2.1 46 (by decide), f2.1 47 (by decide), fun _ => ⟨⟨?_, ?_, ?_, ⟨?_, ?_, h4.2.2⟩, by omega⟩, ?_, fun j hj => by rw [g7, up_at, if_neg hj]⟩, fun z => by omega⟩
    · rw [g40, up_at, if_neg (by omega)]; exact h1
    · rw [g40, up_at, if_pos rfl]
    · rw [g40, up_at, if_neg (by omega)]; exact h3
    · rw [f2.1 46 (by decide)]; exact h4.1
    · rw [g40, up_at, if_neg (by omega)]; exact h4.2.1
    · rw [g7, up_at, if_pos rfl]
  · have e : cnt = 40 := by omega
    subst e
    rw [ilt_neg (by omega) (by omega), wr_e]
    generalize hM2 : sI M 40 (va_up (M.1 40) 12 (jn 1)) = M2
    have g40 : M2.1 40 = va_up (M.1 40) 12 (jn 1) := by rw [← hM2, sI_k]
    have f2 : Fr [40] M M2 := by rw [← hM2]; exact Fr.sI (by decide)
    clear hM2
    refine ⟨M2, rfl, ⟨f2.mono (by decide), fun j hj => by rw [f2.1 7 (by decide)], fun j j1 j2 j3 => by rw [g40, up_at, if_neg j3]⟩, f2.1 46 (by decide), f2.1 47 (by decide), fun z => by omega, fun _ => ⟨?_, ?_, ?_, ⟨?_, ?_, h4.2.2⟩, by omega⟩⟩
    · rw [g40, up_at, if_neg (by omega)]; exact h1
    · rw [g40, up_at, if_neg (by omega)]; exact h2
    · rw [g40, up_at, if_pos rfl]
    · rw [f2.1 46 (by decide)]; exact h4.1
    · rw [g40, up_at, if_neg (by omega)]; exact h4.2.1
/-- a variable's name -/
theorem c_name {r : Nat} (hd : 2 ≤ d) (hr : r < 12) (h : WS P cnt nm o M) : ∃ M' x nm', pcl GG lay d 272 [.ref 40, .int (jn r)] M = rI x M' ∧ cnS nm [vcd r] = ([x], nm') ∧ 117 ≤ x.toInt ∧ x.toInt ≤ 128 ∧ FW P M M' ∧ M'.1 7 = M.1 7 ∧ M'.1 47 = M.1 47 ∧ WS P cnt nm' o M' := by
  obtain ⟨d, rfl⟩ := ex_add (show 1 ≤ d by omega)
  have hv := vcd_E hr
  obtain ⟨h1, h2, h3, h4, h5⟩ := h
  have hl := NSx_le h4
  have e46 := h4.1 r hr
  rw [q_272, c_get (n := 92) (by omega) rfl (by omega) (by omega), kI_r, e46]
  by_cases hm : vcd r ∈ nm
  · have hidx := List.idxOf_lt_length_of_mem hm
    rw [if_pos hm, ieq_neg (by omega) (by omega) (by omega), c_get (n := 92) (by omega) rfl (by omega) (by omega), kI_r, e46, if_pos hm]
    refine ⟨M, _, nm, rfl, by rw [cnS_in hv hm]; rfl, by rw [jn_toInt (by omega)]; omega, by rw [jn_toInt (by omega)]; omega, FW.rf, rfl, rfl, h1, h2, h3, h4, h5⟩
  · have hl2 : nm.length < 12 := by
      have hnd : (nm ++ [vcd r]).Nodup := by
        rw [List.nodup_append]
        refine ⟨h4.2.2.1, by simp, fun y hy z hz => ?_⟩
        rw [List.mem_singleton] at hz
        rintro rfl
        exact hm (hz ▸ hy)
      have := Nat.le_trans (nodup_cnt (nm ++ [vcd r]) hnd (fun c hc => by
        rcases List.mem_append.mp hc with hc | hc
        · exact h4.2.2.2 c hc
        · rw [List.mem_singleton] at hc; rw [hc]; exact hv)) (cntP_le _ 12)
      rw [List.length_append] at this
      have : nm.length + 1 ≤ 12 := this
      omega
    rw [if_neg hm, ieq_pos rfl, h4.2.1, jn_add, c_put (n := 92) (by omega) rfl (by omega) (by omega), kV_r, wr_e]
    generalize hM1 : sI M 46 (va_up (M.1 46) r (jn (117 + nm.length))) = M1
    have e6 : M1.1 46 = va_up (M.1 46) r (jn (117 + nm.length)) := by rw [← hM1, sI_k]
    have e40 : M1.1 40 = M.1 40 := by rw [← hM1, sI_o _ _ (by decide)]
    have f1 : Fr [46] M M1 := by rw [← hM1]; exact Fr.sI (by decide)
    clear hM1
    rw [e40, h4.2.1, jn_add]
    generalize hM2 : sI M1 40 (va_up (M.1 40) 9 (jn (nm.length + 1))) = M2
    have g6 : M2.1 46 = va_up (M.1 46) r (jn (117 + nm.length)) := by rw [← hM2, sI_o _ _ (by decide), e6]
    have g40 : M2.1 40 = va_up (M.1 40) 9 (jn (nm.length + 1)) := by rw [← hM2, sI_k]
    have f2 : Fr [46, 40] M M2 := by rw [← hM2]; exact (f1.mono (by decide)).trans (Fr.sI (by decide))
    clear hM2
    rw [c_get (n := 92) (by omega) rfl (by omega) (by omega), kI_r, g6, up_at, if_pos rfl]
    refine ⟨M2, _, nm ++ [vcd r], rfl, by rw [cnS_new hv hm]; rfl, by rw [jn_toInt (by omega)]; omega, by rw [jn_toInt (by omega)]; omega, ⟨f2.mono (by decide), fun j _ => by rw [f2.1 7 (by decide)], fun j j1 _ _ => by rw [g40, up_at, if_neg j1]⟩, f2.1 7 (by decide), f2.1 47 (by decide), ?_, ?_, ?_, ⟨fun v hv12 => ?_, ?_, ?_, ?_⟩, h5⟩
    · rw [g40, up_at, if_neg (by omega)]; exact h1
    · rw [g40, up_at, if_neg (by omega)]; exact h2
    · rw [g40, up_at, if_neg (by omega)]; exact h3
    · rw [g6, up_at]
      by_cases e : v = r
      · rw [if_pos e, e, if_pos (by simp), idx_snoc hm]
      · have hc : vcd v ≠ vcd r := fun z => e (by rw [← vn_vcd hv12, z, vn_vcd hr])
        rw [if_neg e, h4.1 v hv12]
        by_cases h2 : vcd v ∈ nm
        · rw [if_pos h2, if_pos (by simp [h2]), idx_snoc2 h2]
        · rw [if_neg h2, if_neg (by simp [h2, hc])]
    · rw [g40, up_at, if_pos rfl, List.length_append]; rfl
    · rw [List.nodup_append]
      refine ⟨h4.2.2.1, by simp, fun y hy z hz => ?_⟩
      rw [List.mem_singleton] at hz
      rintro rfl
      exact hm (hz ▸ hy)
    · intro y hy
      rcases List.mem_append.mp hy with hy | hy
      · exact h4.2.2.2 y hy
      · rw [List.mem_singleton] at hy; rw [hy]; exact hv
/-- a sign that is no variable is written -/
theorem WR.one (hd : 2 ≤ d) (hP : P + 40 ≤ 3760) (hv : ¬ vE c) (h : WS P cnt nm 0 M) : ∃ M', pcl GG lay d 270 [.ref 40, .int c] M = rV M' ∧ WR P cnt nm [c] M M' ∧ M'.1 47 = M.1 47 := by
  obtain ⟨M', g1, g2, g3, g4, g5, g6⟩ := c_emit (c := c) hd hP h
  refine ⟨M', g1, ⟨g2, ?_⟩, g4⟩
  have hc := h.2.2.2.2
  by_cases e : cnt < 40
  · obtain ⟨w1, w2, w3⟩ := g5 e
    refine Or.inl ⟨by show cnt + 1 ≤ 40; omega, ?_, ?_, fun j hj => w3 j (by omega)⟩
    · rw [cnS_non hv]; exact w1
    · rw [cnS_non hv]; exact ⟨w2, trivial⟩
  · exact Or.inr ⟨by show 40 < cnt + 1; omega, _, _, g6 (by omega)⟩
/-- a variable is named and written -/
theorem WR.var {r : Nat} (hd : 2 ≤ d) (hP : P + 40 ≤ 3760) (hr : r < 12) (h : WS P cnt nm 0 M) : ∃ M1 x M', pcl GG lay d 272 [.ref 40, .int (jn r)] M = rI x M1 ∧ pcl GG lay d 270 [.ref 40, .int x] M1 = rV M' ∧ WR P cnt nm [vcd r] M M' ∧ M'.1 47 = M.1 47 ∧ 117 ≤ x.toInt := by
  obtain ⟨M1, x, nm', a1, a2, a3, a4, a5, a6, a7, a8⟩ := c_name hd hr h
  obtain ⟨M', g1, g2, g3, g4, g5, g6⟩ := c_emit (c := x) hd hP a8
  refine ⟨M1, x, M', a1, g1, ⟨a5.trans g2, ?_⟩, g4.trans a7, a3⟩
  have hc := h.2.2.2.2
  by_cases e : cnt < 40
  · obtain ⟨w1, w2, w3⟩ := g5 e
    refine Or.inl ⟨by show cnt + 1 ≤ 40; omega, ?_, ?_, fun j hj => by rw [w3 j (by omega), a6]⟩
    · rw [a2]; exact w1
    · rw [a2]; exact ⟨w2, trivial⟩
  · exact Or.inr ⟨by show 40 < cnt + 1; omega, _, _, g6 (by omega)⟩
end
