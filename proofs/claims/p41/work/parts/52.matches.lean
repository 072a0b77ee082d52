/-! the system's matches, and what comes of them -/
theorem tn_count (T : Nat) : ∀ p, wf p → tn (cmB T) p = (en p).countP (cmB T) := by
  refine wf_ind (fun c hc => ?_) (fun c a hc ha iha => ?_) (fun c a b hc ha hb iha ihb => ?_)
  · have h2 : ¬ is2 c := by omega
    have h3 : cmB T c = false := by unfold cmB; simp [h2]
    rw [en_0]
    simp only [tn, h2, false_and, if_false, List.countP_cons, List.countP_nil, h3]
    rfl
  · have h2 : ¬ is2 c := by omega
    have h3 : cmB T c = false := by unfold cmB; simp [h2]
    rw [en_1, List.countP_cons, ← iha, h3]
    simp only [tn, h2, false_and, if_false]
    simp
  · rw [en_2, List.countP_cons, List.countP_append, ← iha, ← ihb]
    show (if is2 c ∧ cmB T c = true then 1 else 0) + _ + _ = _
    by_cases h : cmB T c = true
    · rw [if_pos ⟨hc, h⟩, if_pos h]; omega
    · rw [if_neg (fun q => h q.2), if_neg h]; omega
theorem countP_le40 {T : Nat} {l : List Int32} : l.countP (cmB T) ≤ l.length := List.countP_le_length
section
variable {d : Nat} {A : AT} {M : PM} {a b c e f : Int32} {v : Int64}
theorem c_turns {cm P : Nat} {p : Tm} (hd : 3 ≤ d) (hcm : cm < 16) (hp : wf p) (hs : sz p ≤ 40) (hP : P + sz p ≤ 3760) (hat : At (M.1 7) P (en p)) : ∃ M', pcl GG lay d 189 [.ref 26, .int (jn P), .int (jn (sz p)), .int (jn cm)] M = rV M' ∧ Fr [26] M M' ∧ M'.1 26 3 = jn (tE cm p) ∧ M'.1 26 4 = jn (nE cm p) := by
  obtain ⟨d, rfl⟩ := ex_add hd
  rw [q_189, wr_e, wr_e, sI_sI, sI_k]
  have key : ∀ m k M1 u3, k + m = sz p → Fr [26] M M1 → M1.1 26 3 = jn cm → M1.1 26 4 = jn (((en p).take k).countP (cmB cm)) → ∃ M', E_189 (d + 2) (13, [some (.ref 26), some (.int (jn P)), some (.int (jn (sz p))), u3, some (.int (jn k))], [], M1) = rV M' ∧ Fr [26] M M' ∧ M'.1 26 3 = jn (tE cm p) ∧ M'.1 26 4 = jn (nE cm p) := by
    intro m
    induction m with
    | zero =>
      intro k M1 u3 hk hf h3 h4
      rw [List.take_of_length_le (by rw [sz_en]; omega), ← tn_count cm p hp] at h4
      have hle : tn (cmB cm) p ≤ 40 := by rw [tn_count cm p hp]; exact Nat.le_trans countP_le40 hs
      rw [h_189_13, ilt_neg (by omega) (by omega), h4]
      unfold tE nE
      by_cases h6 : 6 < tn (cmB cm) p
      · rw [ilt_pos h6 (by omega), if_pos h6, if_pos h6, wr_e, wr_e]
        refine ⟨_, rfl, (hf.trans (Fr.sI (by decide))).trans (Fr.sI (by decide)), ?_, ?_⟩
        · rw [sI_k, up_at, if_neg (by omega), sI_k, up_at, if_pos rfl]
        · rw [sI_k, up_at, if_pos rfl]
      · rw [ilt_neg (by omega) (by omega), if_neg h6, if_neg h6]
        exact ⟨M1, rfl, hf, h3, h4⟩
    | succ m ih =>
      intro k M1 u3 hk hf h3 h4
      have s7 : M1.1 7 = M.1 7 := hf.1 7 (by decide)
      have hc := At_sz.mp hat k (by omega)
      have hnx : ((en p).take (k + 1)).countP (cmB cm) = ((en p).take k).countP (cmB cm) + (if cmB cm (M.1 7 (P + k)) = true then 1 else 0) := by
        rw [List.take_add_one, hc, List.countP_append]
        simp [List.countP_cons]
      rw [h_189_13, ilt_pos (by omega) (by omega), jn_add, c_at (by omega) (by omega), kI_r, s7, c_may (by omega) hcm h3, kI_r, jn_add]
      by_cases hm : cmB cm (M.1 7 (P + k)) = true
      · rw [bI_1 hm, ieq_neg (by omega) (by omega) (by omega), wr_e, h4, jn_add]
        refine ih (k + 1) _ u3 (by omega) (hf.trans (Fr.sI (by decide))) ?_ ?_
        · rw [sI_k, up_at, if_neg (by omega)]; exact h3
        · rw [sI_k, up_at, if_pos rfl, hnx, if_pos hm]
      · rw [bI_n hm, ieq_pos rfl]
        refine ih (k + 1) _ u3 (by omega) hf h3 ?_
        rw [hnx, if_neg hm, Nat.add_zero]; exact h4
  exact key (sz p) 0 _ _ (by omega) (Fr.sI (by decide)) (by rw [sI_k, up_at, if_neg (by omega), up_at, if_pos rfl]) (by rw [sI_k, up_at, if_pos rfl]; simp)
theorem c_attempt {T n w P q : Nat} {p t : Tm} (hd : 7 ≤ d) (hT : T < 16) (hn : n ≤ 6) (hw : w < 64) (hP : P + 40 ≤ 3760) (hp : wf p) (hps : sz p ≤ 40) (hpa : At (M.1 7) P (en p)) (ht : wf t) (hts : sz t ≤ 40) (hq : q + sz t ≤ 3760) (hqa : At (M.1 7) q (en t)) (h3 : M.1 26 3 = jn T) (h4 : M.1 26 4 = jn n) (htn : tn (cmB T) p ≤ n) :
    ∃ M', pcl GG lay d 191 [.ref 26, .int (jn P), .int (jn (sz p)), .int (jn q), .int (jn w)] M = rI (if (Fw (cmB T) p t e0 n w).1.isSome = true then jn 1 else jn 0) M' ∧ Fr [26, 27, 28] M M' ∧ M'.1 26 3 = jn T ∧ M'.1 26 4 = jn n ∧ M'.1 26 5 = jn (Fw (cmB T) p t e0 n w).2 ∧ ∀ e', (Fw (cmB T) p t e0 n w).1 = some e' → EB q (q + sz t) e' M' := by
  obtain ⟨d, rfl⟩ := ex_add hd
  have szp := sz_pos p hp
  rw [q_191, wr_e, c_fill (n := 6) (by omega) rfl (by omega), kV_r, c_put (n := 40) (by omega) rfl (by omega) (by omega), kV_r]
  have hfr : Fr [26, 27, 28] M (sI (sI (sI M 26 (va_up (M.1 26) 5 (jn 0))) 27 (fun i => if i < 6 then jz 1 else (sI M 26 (va_up (M.1 26) 5 (jn 0))).1 27 i)) 28 (va_up ((sI (sI M 26 (va_up (M.1 26) 5 (jn 0))) 27 (fun i => if i < 6 then jz 1 else (sI M 26 (va_up (M.1 26) 5 (jn 0))).1 27 i)).1 28) 0 (jn q))) := ((Fr.sI (by decide)).trans (Fr.sI (by decide))).trans (Fr.sI (by decide))
  obtain ⟨M', f1, f2, f3, f4, f5⟩ := att_go (d := d + 1) (T := T) (n := n) (w := w) (P := P) (S := sz p) (lo := q) (hi := q + sz t) (u3 := some (.int (jn q))) (by omega) hT hn hw hP hps p hp t q 0 0 e0 (sI (sI (sI M 26 (va_up (M.1 26) 5 (jn 0))) 27 (fun i => if i < 6 then jz 1 else (sI M 26 (va_up (M.1 26) 5 (jn 0))).1 27 i)) 28 (va_up ((sI (sI M 26 (va_up (M.1 26) 5 (jn 0))) 27 (fun i => if i < 6 then jz 1 else (sI M 26 (va_up (M.1 26) 5 (jn 0))).1 27 i)).1 28) 0 (jn q))) none none ht hts ⟨by omega, by omega⟩ hqa hpa (by omega) (by rw [sI_k, up_at, if_pos rfl]) (fun v hv => by
    show (if v < 6 then jz 1 else _) = jz 1
    rw [if_pos hv]) h3 h4 (by show (va_up (M.1 26) 5 (jn 0)) 5 = _; rw [up_at, if_pos rfl]) (by omega)
  refine ⟨M', ?_, hfr.trans f1, f2, f3, f4, fun e' he => ?_⟩
  · show E_191 _ _ = _
    cases hr : (mtD (cmB T) (wayB n w) p t e0 0).1 with
    | none =>
      rw [hr] at f5
      exact f5
    | some e' =>
      rw [hr] at f5
      obtain ⟨-, -, u6, u7, g⟩ := f5
      rw [g, h_191_25, Nat.zero_add, ilt_neg (by omega) (by omega), rZ_1]
      rfl
  · have he2 : (mtD (cmB T) (wayB n w) p t e0 0).1 = some e' := he
    rw [he2] at f5
    exact f5.1
theorem shl_all : ∀ s, s < 7 → jn 1 <<< (jn s &&& 31) = jn (2 ^ s) := by decide +kernel
theorem pow_le64 {n : Nat} (h : n ≤ 6) : 2 ^ n ≤ 64 ∧ 0 < 2 ^ n := ⟨Nat.le_trans (Nat.pow_le_pow_right (by omega) h) (by decide), Nat.two_pow_pos n⟩
/-- matches: whether the pattern matches; then what is bound -/
theorem c_match {cm P q : Nat} {p t : Tm} (hd : 8 ≤ d) (hcm : cm < 16) (hP : P + 40 ≤ 3760) (hp : wf p) (hps : sz p ≤ 40) (hpa : At (M.1 7) P (en p)) (ht : wf t) (hts : sz t ≤ 40) (hq : q + sz t ≤ 3760) (hqa : At (M.1 7) q (en t)) :
    ∃ M', pcl GG lay d 188 [.ref 26, .int (jn P), .int (jn q), .int (jn cm)] M = rI (if (mat cm p t).isSome = true then jn 1 else jn 0) M' ∧ Fr [26, 27, 28] M M' ∧ ∀ e', mat cm p t = some e' → EB q (q + sz t) e' M' := by
  obtain ⟨d, rfl⟩ := ex_add hd
  obtain ⟨M1, g1, g2, g3, g4⟩ := c_turns (d := d + 7) (cm := cm) (P := P) (p := p) (M := M) (by omega) hcm hp hps (by omega) hpa
  have hn := nE_le cm p
  have hT := tE_lt hcm p
  have htn : tn (cmB (tE cm p)) p ≤ nE cm p := by rw [tn_E]; exact Nat.le_refl _
  have hpw := pow_le64 hn
  rw [q_188, c_sizeAt (by omega) hp hpa (by omega), kI_r, g1, kV_r, g4, shl_all _ (by omega)]
  have hmat : mat cm p t = ((List.range (2 ^ nE cm p)).filterMap (fun w => (Fw (cmB (tE cm p)) p t e0 (nE cm p) w).1)).head? := by
    unfold mat
    rw [ms_range hp, tn_E]
  have key : ∀ m way i M2 u3, way + m = 2 ^ nE cm p → i ≤ way → Isr (cmB (tE cm p)) p t e0 (nE cm p) way → Fr [26, 27, 28] M M2 → M2.1 26 3 = jn (tE cm p) → M2.1 26 4 = jn (nE cm p) →
      ∃ M', E_188 (d + 7) (32, [some (.ref 26), some (.int (jn P)), some (.int (jn q)), u3, some (.int (jn (sz p))), some (.int (jn (2 ^ nE cm p))), some (.int (jn way)), some (.int (jn i))], [], M2) = rI (if (mat cm p t).isSome = true then jn 1 else jn 0) M' ∧ Fr [26, 27, 28] M M' ∧ ∀ e', mat cm p t = some e' → EB q (q + sz t) e' M' := by
    intro m
    induction m using Nat.strongRecOn with
    | _ m ih =>
      intro way i M2 u3 hm hi hI hf h3 h4
      cases m with
      | zero =>
        have hall : mat cm p t = none := by
          rw [hmat]
          exact fm_range_none (fun v hv => hI.1 v (by omega))
        refine ⟨M2, ?_, hf, fun e' he => by rw [hall] at he; cases he⟩
        rw [hall, h_188_32]
        by_cases h5 : i < 2 ^ nE cm p
        · rw [ilt_pos h5 (by omega), ilt_neg (by omega) (by omega), rZ_0]; rfl
        · rw [ilt_neg (by omega) (by omega), rZ_0]; rfl
      | succ m =>
        have s7 : M2.1 7 = M.1 7 := hf.1 7 (by decide)
        obtain ⟨M3, f1, f2, f3, f4, f5, f6⟩ := c_attempt (d := d + 7) (M := M2) (T := tE cm p) (n := nE cm p) (w := way) (P := P) (q := q) (p := p) (t := t) (by omega) hT hn (by omega) hP hp hps (by rw [s7]; exact hpa) ht hts hq (by rw [s7]; exact hqa) h3 h4 htn
        rw [h_188_32, ilt_pos (by omega) (by omega), ilt_pos (by omega) (by omega), f1, kI_r]
        cases hr : (Fw (cmB (tE cm p)) p t e0 (nE cm p) way).1 with
        | some e' =>
          have hsome : mat cm p t = some e' := by
            rw [hmat]
            exact fm_range_some (w := way) (by omega) (fun v hv => hI.1 v hv) hr
          refine ⟨M3, ?_, hf.trans f2, fun e2 he => by rw [hsome] at he; cases he; exact f6 e' hr⟩
          rw [hsome]
          simp only [Option.isSome_some, if_true]
          rw [ieq_neg (by omega) (by omega) (by omega), rZ_1]
        | none =>
          have hbd : (Fw (cmB (tE cm p)) p t e0 (nE cm p) way).2 ≤ nE cm p := by
            have := mtD_bd (cm := cmB (tE cm p)) (w := wayB (nE cm p) way) p hp t e0 0
            show (mtD (cmB (tE cm p)) (wayB (nE cm p) way) p t e0 0).2 ≤ _
            omega
          have hst := Isr_step hp htn hI hr
          have hdiv : way + 2 ^ (nE cm p - (Fw (cmB (tE cm p)) p t e0 (nE cm p) way).2) ≤ 2 ^ nE cm p := by
            rcases hst.2 with h0 | ⟨w, hw, hd0⟩
            · have := Nat.two_pow_pos (nE cm p - (Fw (cmB (tE cm p)) p t e0 (nE cm p) way).2); omega
            · -- both are multiples
              have hD : 2 ^ (nE cm p - (Fw (cmB (tE cm p)) p t e0 (nE cm p) way).2) ∣ way := by
                have hlt : ∀ v, v < way + 2 ^ (nE cm p - (Fw (cmB (tE cm p)) p t e0 (nE cm p) way).2) → True := fun _ _ => trivial
                exact Isr_dvd hp htn hI hr
              obtain ⟨x, hx⟩ := hD
              obtain ⟨y, hy⟩ : 2 ^ (nE cm p - (Fw (cmB (tE cm p)) p t e0 (nE cm p) way).2) ∣ 2 ^ nE cm p := Nat.pow_dvd_pow 2 (by omega)
              generalize 2 ^ (nE cm p - (Fw (cmB (tE cm p)) p t e0 (nE cm p) way).2) = D at hx hy ⊢
              have hlt : x < y := by
                apply Classical.byContradiction
                intro q
                have : D * y ≤ D * x := Nat.mul_le_mul_left D (by omega)
                omega
              have : D * (x + 1) ≤ D * y := Nat.mul_le_mul_left D hlt
              rw [Nat.mul_add, Nat.mul_one] at this
              omega
          have hpos := Nat.two_pow_pos (nE cm p - (Fw (cmB (tE cm p)) p t e0 (nE cm p) way).2)
          simp only [Option.isSome_none, Bool.false_eq_true, if_false]
          rw [if_pos trivial, f4, f5, jn_sub hbd, shl_all _ (by omega), jn_add, jn_add]
          exact ih (2 ^ nE cm p - (way + 2 ^ (nE cm p - (Fw (cmB (tE cm p)) p t e0 (nE cm p) way).2))) (by omega) _ (i + 1) M3 u3 (by omega) (by omega) hst (hf.trans f2) f3 f4
  exact key (2 ^ nE cm p) 0 0 M1 _ (by omega) (by omega) ⟨fun w hw => by omega, Or.inl rfl⟩ (g2.mono (by decide)) g3 g4
end
