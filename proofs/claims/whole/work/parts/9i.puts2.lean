/-! the model's unifying: what is written -/
def PutR (x had : Nat) (nm l : List Int32) (M : PM) (X : PO) : Prop := ∃ M', X = rI (jn (if had + l.length ≤ 40 then had + l.length else 41)) M' ∧ Fr [52, 77, x] M M' ∧ (∀ j, j ≠ 41 → M'.1 52 j = M.1 52 j) ∧ (∀ j, j < had → M'.1 x j = M.1 x j) ∧ (had + l.length ≤ 40 → At (M'.1 x) had (cnS nm l).1 ∧ NM (cnS nm l).2 M') ∧ ∃ nm', NM nm' M'
theorem PutR.b {P a : Prop} {nm : List Int32} {M : PM} (h : a ∧ NM nm M) : (P → a ∧ NM nm M) ∧ ∃ nm', NM nm' M := ⟨fun _ => h, _, h.2⟩
abbrev outX (x : Nat) : Prop := lay[x]? = some (.inr (false, 41)) ∧ x ≠ 52 ∧ x ≠ 75 ∧ x ≠ 76 ∧ x ≠ 77
section
variable {d : Nat} {A : AT} {M M' : PM} {be : BT} {m : Nat → Tm} {ta : Nat → Nat} {s t u : Tm} {i j x had : Nat} {nm : List Int32}
theorem NM_le (h : NM nm M) : nm.length ≤ 12 := Nat.le_trans (nodup_cnt nm h.2.2.1 h.2.2.2) (cntP_le _ 12)
theorem BN_fr (hB : BN be M) (h75 : M'.1 75 = M.1 75) (h76 : M'.1 76 = M.1 76) : BN be M' := by
  intro v hv
  have := hB v hv
  rw [h76]
  cases hb : be v with
  | none => rw [hb] at this; exact this
  | some u =>
    rw [hb] at this
    obtain ⟨k, h1, h2⟩ := this
    exact ⟨k, h1, h2.eq h75⟩
theorem m_puts (hx : outX x) (hI : IMx be m ta) : ∀ K t i had nm M d, sz (ap m t) ≤ K → PT M i t → BN be M → NM nm M → had ≤ 40 → dp (ap m t) + 9 ≤ d → PutR x had nm (en (ap m t)) M (pcl GG lay d 159 [.ref 52, .ref x, .int (jn had), .int (jn i)] M) := by
  obtain ⟨hx1, hx52, hx75, hx76, hx77⟩ := hx
  intro K
  induction K with
  | zero =>
    intro t i had nm M d hz hp
    have := szE_pos (ap_wf hI.2.2.2.1 t hp.1.1)
    omega
  | succ K ih =>
    intro t i had nm M d hz hp hB hN hh hd
    obtain ⟨d, rfl⟩ := ex_add (show 1 ≤ d by omega)
    obtain ⟨j, t', e1, e2, ⟨c, a, b, rfl, e3⟩, e4⟩ := m_stand (d := d) (by omega) hI hB hp
    have e5 := e4 m hI.sol
    obtain ⟨s1, s2, s3⟩ := e2.s
    have hnl := NM_le hN
    have al : ∀ M0 : PM, M0.1 75 = M.1 75 → aldI lay none M0 75 (jn j) = some c := fun M0 h => by rw [ald_n (n := 160) rfl s3 (by omega), h, s1]
    rw [q_159, ilt_neg (by omega) (by omega), e1, kI_r, al M rfl, oB_s, c_free (by omega) s2, kI_r]
    by_cases hvc : vE c
    · have hvl := vn_lt hvc
      have e6 : ap m t = vr (vn c) := by rw [← e5, ap_v hvc, hI.2.1 _ hvl (e3 hvc)]
      have el : en (ap m t) = [c] := by rw [e6, en_0, vcd_vn hvc]
      have h77 := hN.1 (vn c) hvl
      rw [vcd_vn hvc] at h77
      rw [el, bI_1 hvc, ieq_neg (by omega) (by omega) (by omega), al M rfl, oB_s, c_num (by omega) hvc, kI_r, ald_n (n := 12) rfl hvl (by omega), oB_s, h77]
      have hres : jn had + jn 1 = jn (if had + [c].length ≤ 40 then had + [c].length else 41) := by
        rw [jn_add]
        show jn (had + 1) = jn (if had + 1 ≤ 40 then had + 1 else 41)
        split
        · rfl
        · congr 1; omega
      by_cases hm : c ∈ nm
      · have hidx := List.idxOf_lt_length_of_mem hm
        rw [if_pos hm, if_neg (by rw [jn_jz (by omega) (by omega)]; exact id), oB_s, jn_add, ast_n hx1 (by omega) (by omega), oB_s, hres]
        have hf : Fr [x] M (sI M x (va_up (M.1 x) had (jn (117 + nm.idxOf c)))) := Fr.sI (by simp)
        refine ⟨_, rfl, hf.mono (by simp), fun k _ => by rw [sI_o _ _ (Ne.symm hx52)], fun k hk => by rw [sI_k, up_at, if_neg (by omega)], PutR.b ?_⟩
        rw [cnS_in hvc hm]
        refine ⟨⟨by rw [sI_k, up_at, if_pos rfl], trivial⟩, ⟨fun v hv => ?_, ?_, hN.2.2⟩⟩
        · rw [sI_o _ _ (Ne.symm hx77)]; exact hN.1 v hv
        · rw [sI_o _ _ (Ne.symm hx52)]; exact hN.2.1
      · rw [if_neg hm, if_pos rfl, wr_e, hN.2.1, ast_n (n := 12) rfl hvl (by omega), oB_s, ald_n (n := 12) rfl hvl (by omega), oB_s, sI_k, up_at, if_pos rfl, jn_add, jn_add, ast_n hx1 (by omega) (by omega), oB_s, hres]
        generalize hM3 : sI (sI (sI M 52 _) 77 _) x _ = M3
        have f3 : Fr [52, 77, x] M M3 := by rw [← hM3]; exact ((Fr.sI (by simp)).trans (Fr.sI (by simp))).trans (Fr.sI (by simp))
        have a52 : M3.1 52 = va_up (M.1 52) 41 (jn (nm.length + 1)) := by rw [← hM3, sI_o _ _ (Ne.symm hx52)]; rfl
        have a77 : M3.1 77 = va_up (M.1 77) (vn c) (jn nm.length) := by rw [← hM3, sI_o _ _ (Ne.symm hx77)]; rfl
        have ax : M3.1 x = va_up (M.1 x) had (jn (117 + nm.length)) := by
          rw [← hM3, sI_k]
          congr 1
          rw [sI_o _ _ hx77, sI_o _ _ hx52]
        clear hM3
        refine ⟨M3, rfl, f3, fun k hk => by rw [a52, up_at, if_neg hk], fun k hk => by rw [ax, up_at, if_neg (by omega)], PutR.b ?_⟩
        rw [cnS_new hvc hm]
        refine ⟨⟨by rw [ax, up_at, if_pos rfl], trivial⟩, ⟨fun v hv => ?_, ?_, ?_, ?_⟩⟩
        · show M3.1 77 v = if vcd v ∈ nm ++ [c] then jn ((nm ++ [c]).idxOf (vcd v)) else jz 1
          rw [a77, up_at]
          by_cases e : v = vn c
          · have hc : vcd v = c := by rw [e, vcd_vn hvc]
            rw [if_pos e, hc, if_pos (by simp), idx_snoc hm]
          · have hc : vcd v ≠ c := fun z => e (by rw [← z, vn_vcd hv])
            rw [if_neg e, hN.1 v hv]
            by_cases h2 : vcd v ∈ nm
            · rw [if_pos h2, if_pos (by simp [h2]), idx_snoc2 h2]
            · rw [if_neg h2, if_neg (by simp [h2, hc])]
        · show M3.1 52 41 = jn (nm ++ [c]).length
          rw [a52, up_at, if_pos rfl, List.length_append]; rfl
        · show (nm ++ [c]).Nodup
          rw [List.nodup_append]
          refine ⟨hN.2.2.1, by simp, fun y hy z hz => ?_⟩
          rw [List.mem_singleton] at hz
          rintro rfl
          exact hm (hz ▸ hy)
        · show ∀ y ∈ nm ++ [c], vE y
          intro y hy
          rcases List.mem_append.mp hy with hy | hy
          · exact hN.2.2.2 y hy
          · rw [List.mem_singleton] at hy; rw [hy]; exact hvc
    · rw [ap_n hvc] at e5
      have el : en (ap m t) = c :: (en (ap m a) ++ en (ap m b)) := by rw [← e5, en_n]
      have hdp : max (dp (ap m a)) (dp (ap m b)) + 1 = dp (ap m t) := by rw [← e5]; rfl
      have hsz : sz (ap m a) + sz (ap m b) + 1 = sz (ap m t) := by rw [← e5, sz_n]
      rw [el, bI_n hvc, ieq_pos rfl, al M rfl, oB_s, ast_n hx1 (by omega) (by omega), oB_s, jn_add]
      generalize hM2 : sI M x (va_up (M.1 x) had c) = M2
      have f2 : Fr [x] M M2 := by rw [← hM2]; exact Fr.sI (by simp)
      have a2 : M2.1 x = va_up (M.1 x) had c := by rw [← hM2, sI_k]
      clear hM2
      have g75 : M2.1 75 = M.1 75 := f2.1 75 (by simp [Ne.symm hx75])
      have g76 : M2.1 76 = M.1 76 := f2.1 76 (by simp [Ne.symm hx76])
      have g77 : M2.1 77 = M.1 77 := f2.1 77 (by simp [Ne.symm hx77])
      have g52 : M2.1 52 = M.1 52 := f2.1 52 (by simp [Ne.symm hx52])
      have hB2 := BN_fr hB g75 g76
      have hN2 : NM nm M2 := ⟨fun v hv => by rw [g77]; exact hN.1 v hv, by rw [g52]; exact hN.2.1, hN.2.2⟩
      have hp2 := e2.eq g75
      have F2 : Fr [52, 77, x] M M2 := f2.mono (by simp)
      obtain ⟨-, hc | hc | hc⟩ := e2.1.1
      · obtain ⟨hc, rfl, rfl⟩ := hc
        have ea : arN c = 0 := by unfold arN; rw [if_neg (by omega), if_neg (by omega)]
        have hl : (c :: (en (ap m Lf) ++ en (ap m Lf))) = [c] := rfl
        rw [h_159_104, al M2 g75, oB_s, c_wide (by omega) s2, kI_r, ea, ilt_neg (by omega) (by omega), hl]
        have hres : jn (had + 1) = jn (if had + [c].length ≤ 40 then had + [c].length else 41) := by
          show jn (had + 1) = jn (if had + 1 ≤ 40 then had + 1 else 41)
          split
          · rfl
          · congr 1; omega
        rw [hres]
        refine ⟨M2, rfl, F2, fun k _ => by rw [g52], fun k hk => by rw [a2, up_at, if_neg (by omega)], PutR.b ?_⟩
        rw [cnS_non hvc]
        exact ⟨⟨by rw [a2, up_at, if_pos rfl], trivial⟩, hN2⟩
      · obtain ⟨hc, wa, rfl⟩ := hc
        have hl : (c :: (en (ap m a) ++ en (ap m Lf))) = c :: en (ap m a) := by simp [ap, en]
        have hpos := szE_pos (ap_wf hI.2.2.2.1 a wa)
        have hlen : (en (ap m a)).length = sz (ap m a) := rfl
        rw [hl, h_159_104, al M2 g75, oB_s, c_wide (by omega) s2, kI_r, arN_1 hc, ilt_pos (by omega) (by omega)]
        by_cases h40 : had = 40
        · rw [ilt_pos (by omega) (by omega)]
          refine ⟨M2, ?_, F2, fun k _ => by rw [g52], fun k hk => by rw [a2, up_at, if_neg (by omega)], fun z => ?_, nm, hN2⟩
          · rw [List.length_cons, if_neg (by omega)]; congr 2; omega
          · rw [List.length_cons] at z; omega
        · rw [ilt_neg (by omega) (by omega), c_parg0 (by omega), kI_r]
          obtain ⟨M3, k1, k2, k3, k4, k5, k6⟩ := ih a (j + 1) (had + 1) nm M2 d (by omega) (hp2.x wa) hB2 hN2 (by omega) (by omega)
          have g75' : M3.1 75 = M.1 75 := (k2.1 75 (by simp [Ne.symm hx75])).trans g75
          rw [k1, kI_r, jn_add, h_159_104, al M3 g75', oB_s, c_wide (by omega) s2, kI_r, arN_1 hc, ilt_neg (by omega) (by omega)]
          refine ⟨M3, ?_, F2.trans k2, fun k hk => by rw [k3 k hk, g52], fun k hk => by rw [k4 k (by omega), a2, up_at, if_neg (by omega)], fun z => ?_, k6⟩
          · rw [List.length_cons, hlen]
            congr 2
            split
            · rw [if_pos (by omega)]; omega
            · rw [if_neg (by omega)]
          · rw [List.length_cons, hlen] at z
            obtain ⟨y1, y2⟩ := k5 (by rw [hlen]; omega)
            rw [cnS_non hvc]
            exact ⟨⟨by rw [k4 had (by omega), a2, up_at, if_pos rfl], y1⟩, y2⟩
      · obtain ⟨hc, wa, wb⟩ := hc
        have hposa := szE_pos (ap_wf hI.2.2.2.1 a wa)
        have hposb := szE_pos (ap_wf hI.2.2.2.1 b wb)
        have hla : (en (ap m a)).length = sz (ap m a) := rfl
        have hlb : (en (ap m b)).length = sz (ap m b) := rfl
        rw [h_159_104, al M2 g75, oB_s, c_wide (by omega) s2, kI_r, arN_2 hc, ilt_pos (by omega) (by omega)]
        by_cases h40 : had = 40
        · rw [ilt_pos (by omega) (by omega)]
          refine ⟨M2, ?_, F2, fun k _ => by rw [g52], fun k hk => by rw [a2, up_at, if_neg (by omega)], fun z => ?_, nm, hN2⟩
          · rw [List.length_cons, List.length_append, if_neg (by omega)]; congr 2; omega
          · rw [List.length_cons, List.length_append] at z; omega
        rw [ilt_neg (by omega) (by omega), c_parg0 (by omega), kI_r]
        obtain ⟨M3, k1, k2, k3, k4, k5, k6⟩ := ih a (j + 1) (had + 1) nm M2 d (by omega) (hp2.x wa) hB2 hN2 (by omega) (by omega)
        have g75' : M3.1 75 = M.1 75 := (k2.1 75 (by simp [Ne.symm hx75])).trans g75
        have g76' : M3.1 76 = M.1 76 := (k2.1 76 (by simp [Ne.symm hx76])).trans g76
        rw [k1, kI_r, jn_add, show 0 + 1 = 1 from rfl, h_159_104, al M3 g75', oB_s, c_wide (by omega) s2, kI_r, arN_2 hc, ilt_pos (by omega) (by omega), hla]
        by_cases h41 : had + 1 + sz (ap m a) ≤ 40
        case neg =>
          rw [if_neg h41, ilt_pos (by omega) (by omega)]
          refine ⟨M3, ?_, F2.trans k2, fun k hk => by rw [k3 k hk, g52], fun k hk => by rw [k4 k (by omega), a2, up_at, if_neg (by omega)], fun z => ?_, k6⟩
          · rw [List.length_cons, List.length_append, if_neg (by omega)]
          · rw [List.length_cons, List.length_append] at z; omega
        obtain ⟨y1, y2⟩ := k5 (by rw [hla]; omega)
        have hp3 := e2.eq g75'
        rw [if_pos h41, ilt_neg (by omega) (by omega), c_parg1 (by omega) (hp3.x wa), kI_r]
        obtain ⟨M4, l1, l2, l3, l4, l5, l6⟩ := ih b (j + 1 + sz a) (had + 1 + sz (ap m a)) (cnS nm (en (ap m a))).2 M3 d (by omega) (hp3.y wb) (BN_fr hB g75' g76') y2 (by omega) (by omega)
        have g75'' : M4.1 75 = M.1 75 := (l2.1 75 (by simp [Ne.symm hx75])).trans g75'
        rw [l1, kI_r, jn_add, h_159_104, al M4 g75'', oB_s, c_wide (by omega) s2, kI_r, arN_2 hc, ilt_neg (by omega) (by omega)]
        refine ⟨M4, ?_, (F2.trans k2).trans l2, fun k hk => by rw [l3 k hk, k3 k hk, g52], fun k hk => by rw [l4 k (by omega), k4 k (by omega), a2, up_at, if_neg (by omega)], fun z => ?_, l6⟩
        · rw [List.length_cons, List.length_append, hla, hlb]
          congr 2
          split
          · rw [if_pos (by omega)]; omega
          · rw [if_neg (by omega)]
        · rw [List.length_cons, List.length_append, hla, hlb] at z
          obtain ⟨w1, w2⟩ := l5 (by rw [hlb]; omega)
          rw [cnS_non hvc, cnS_app]
          refine ⟨⟨by rw [l4 had (by omega), k4 had (by omega), a2, up_at, if_pos rfl], (At_app _ _ _).mpr ⟨At_congr y1 (fun k z1 z2 => ?_), ?_⟩⟩, w2⟩
          · rw [cnS_len, hla] at z2
            exact l4 k (by omega)
          · rw [cnS_len, hla]; exact w1
end
