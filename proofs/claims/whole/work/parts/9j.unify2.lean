/-! unify: what is asked; the model's side -/
/-- another tree at a place of the pool -/
def fB (t : Tm) (i node : Nat) (rq : Tm) : Tm := if i ≤ node ∧ node < i + sz t then rep t (node - i) rq else t
theorem fB_n {c : Int32} {a b rq : Tm} {i node : Nat} (h1 : i < node) (h2 : node < i + (sz a + sz b + 1)) : fB (Nd c a b) i node rq = Nd c (fB a (i + 1) node rq) (fB b (i + 1 + sz a) node rq) := by
  unfold fB
  rw [if_pos (by rw [sz_n]; omega)]
  show (if node - i = 0 then rq else if node - i ≤ sz a then Nd c (rep a (node - i - 1) rq) b else Nd c a (rep b (node - i - 1 - sz a) rq)) = _
  rw [if_neg (by omega)]
  by_cases h : node - i ≤ sz a
  · rw [if_pos h, if_pos (by omega), if_neg (by omega), show node - (i + 1) = node - i - 1 by omega]
  · rw [if_neg h, if_neg (by omega), if_pos (by omega), show node - (i + 1 + sz a) = node - i - 1 - sz a by omega]
theorem fB_wf {rq : Tm} (hq : wfE rq) : ∀ t, wfE t → ∀ i node, wfE (fB t i node rq) := by
  refine wfE_ind (fun c hc => ?_) (fun c a hc ha iha => ?_) (fun c a b hc ha hb iha ihb => ?_)
  all_goals intro i node
  · by_cases h : i = node
    · unfold fB
      rw [if_pos (by rw [sz_0]; omega), h, Nat.sub_self]
      exact hq
    · unfold fB
      rw [if_neg (by rw [sz_0]; omega)]
      exact wfE_0 hc
  · by_cases h : i = node
    · unfold fB
      rw [if_pos (by rw [sz_1]; omega), h, Nat.sub_self]
      exact hq
    by_cases h2 : i < node ∧ node < i + (sz a + sz Lf + 1)
    · rw [fB_n h2.1 h2.2]
      have e : fB Lf (i + 1 + sz a) node rq = Lf := by
        unfold fB
        have zl : sz Lf = 0 := rfl
        rw [if_neg (by omega)]
      rw [e]
      exact wfE_1 hc (iha _ _)
    · unfold fB
      have zl : sz Lf = 0 := rfl
      rw [if_neg (by rw [sz_1]; omega)]
      exact wfE_1 hc ha
  · by_cases h : i = node
    · unfold fB
      rw [if_pos (by rw [sz_2]; omega), h, Nat.sub_self]
      exact hq
    by_cases h2 : i < node ∧ node < i + (sz a + sz b + 1)
    · rw [fB_n h2.1 h2.2]
      exact wfE_2 hc (iha _ _) (ihb _ _)
    · unfold fB
      rw [if_neg (by rw [sz_2]; omega)]
      exact wfE_2 hc ha hb
section
variable {d : Nat} {A : AT} {M M' : PM} {be : BT} {m : Nat → Tm} {ta : Nat → Nat} {s t u rq : Tm} {i j x had node : Nat} {nm : List Int32}
theorem outX_80 : outX 80 := ⟨rfl, by decide, by decide, by decide, by decide⟩
theorem PutR.k {l : List Int32} {X : PO} (h : PutR x had nm l M X) : PutR x had nm l M (kI X fun r M => rI r M) := by
  obtain ⟨M', h1, h2⟩ := h
  exact ⟨M', by rw [h1, kI_r], h2⟩
theorem m_putsB (hI : IMx be m ta) : ∀ t, wfE t → ∀ i had nm M d, PT M i t → PT M 120 rq → BN be M → NM nm M → had ≤ 40 → node < 160 → dp t + 535 ≤ d → PutR 80 had nm (en (ap m (fB t i node rq))) M (pcl GG lay d 161 [.ref 52, .int (jn had), .int (jn i), .int (jn node)] M) := by
  have base : ∀ t i had nm M d, PT M i t → BN be M → NM nm M → had ≤ 40 → 530 ≤ d → PutR 80 had nm (en (ap m t)) M (kI (pcl GG lay d 159 [.ref 52, .ref 80, .int (jn had), .int (jn i)] M) fun r M => rI r M) := by
    intro t i had nm M d hp hB hN hh hd
    have := dp_521 hI hp.1.1 hp.1.2
    exact (m_puts outX_80 hI _ t i had nm M d (Nat.le_refl _) hp hB hN hh (by omega)).k
  have step : ∀ c a b, wfE (Nd c a b) → ∀ i had nm M d, PT M i (Nd c a b) → PT M 120 rq → BN be M → NM nm M → had ≤ 40 → node < 160 → 530 ≤ d →
      (∀ u1, ¬ vE c → i < node → node < i + (sz a + sz b + 1) → PutR 80 had nm (en (ap m (Nd c (fB a (i + 1) node rq) (fB b (i + 1 + sz a) node rq)))) M (E_161 d (84, [some (.ref 52), u1, some (.int (jn i)), some (.int (jn node)), some (.int (jn (had + 1))), some (.int (jn 0))], [], sI M 80 (va_up (M.1 80) had c)))) →
      PutR 80 had nm (en (ap m (fB (Nd c a b) i node rq))) M (pcl GG lay (d + 1) 161 [.ref 52, .int (jn had), .int (jn i), .int (jn node)] M) := by
    intro c a b hw i had nm M d hp hr hB hN hh hnode hd hE
    obtain ⟨s1, s2, s3⟩ := hp.s
    have hsp := hp.2.1
    rw [sz_n] at hsp
    have out : ¬ (i ≤ node ∧ node < i + (sz a + sz b + 1)) → fB (Nd c a b) i node rq = Nd c a b := fun h => by unfold fB; rw [sz_n]; exact if_neg h
    rw [q_161, ilt_neg (by omega) (by omega)]
    by_cases h : i = node
    · have e : fB (Nd c a b) i node rq = rq := by
        unfold fB
        rw [if_pos (by rw [sz_n]; omega), h, Nat.sub_self]; rfl
      rw [ieq_pos h, e]
      exact base rq 120 had nm M d hr hB hN hh (by omega)
    rw [ieq_neg h (by omega) (by omega), ald_n (n := 160) rfl s3 (by omega), oB_s, s1, c_free (by omega) s2, kI_r]
    by_cases hvc : vE c
    · have hleaf : a = Lf ∧ b = Lf := by
        obtain ⟨-, hk | hk | hk⟩ := hw
        · exact hk.2
        · omega
        · omega
      have zl : sz Lf = 0 := rfl
      rw [bI_1 hvc, ieq_neg (by omega) (by omega) (by omega), out (by rw [hleaf.1, hleaf.2, zl]; omega)]
      exact base _ i had nm M d hp hB hN hh (by omega)
    rw [bI_n hvc, ieq_pos rfl]
    by_cases h1 : node < i
    · rw [ilt_pos h1 (by omega), out (by omega)]
      exact base _ i had nm M d hp hB hN hh (by omega)
    rw [ilt_neg (by omega) (by omega), c_pspan (by omega) hp, kI_r, sz_n, jn_add]
    by_cases h2 : node < i + (sz a + sz b + 1)
    · rw [ilt_pos h2 (by omega), ald_n (n := 160) rfl s3 (by omega), oB_s, s1, ast_n (n := 41) rfl (by omega) (by omega), oB_s, jn_add, fB_n (by omega) h2]
      exact hE _ hvc (by omega) h2
    · rw [ilt_neg (by omega) (by omega), out (by omega)]
      exact base _ i had nm M d hp hB hN hh (by omega)
  refine wfE_ind (fun c hc => ?_) (fun c a hc ha iha => ?_) (fun c a b hc ha hb iha ihb => ?_)
  · intro i had nm M d hp hr hB hN hh hnode hd
    obtain ⟨d, rfl⟩ := ex_add (show 1 ≤ d by omega)
    refine step c Lf Lf (wfE_0 hc) i had nm M d hp hr hB hN hh hnode (by omega) (fun u1 _ z1 z2 => ?_)
    have zl : sz Lf = 0 := rfl
    omega
  · intro i had nm M d hp hr hB hN hh hnode hd
    have zl : sz Lf = 0 := rfl
    have hdpn : dp (Nd c a Lf) = max (dp a) 0 + 1 := rfl
    obtain ⟨d, rfl⟩ := ex_add (show 1 ≤ d by omega)
    refine step c a Lf (wfE_1 hc ha) i had nm M d hp hr hB hN hh hnode (by omega) (fun u1 hvc z1 z2 => ?_)
    have eL : fB Lf (i + 1 + sz a) node rq = Lf := by unfold fB; rw [if_neg (by omega)]
    obtain ⟨s1, s2, s3⟩ := hp.s
    have al : ∀ M0 : PM, M0.1 75 = M.1 75 → aldI lay none M0 75 (jn i) = some c := fun M0 h => by rw [ald_n (n := 160) rfl s3 (by omega), h, s1]
    generalize hM2 : sI M 80 (va_up (M.1 80) had c) = M2
    have f2 : Fr [80] M M2 := by rw [← hM2]; exact Fr.sI (by decide)
    have a2 : M2.1 80 = va_up (M.1 80) had c := by rw [← hM2, sI_k]
    clear hM2
    have g75 : M2.1 75 = M.1 75 := f2.1 75 (by decide)
    have g52 : M2.1 52 = M.1 52 := f2.1 52 (by decide)
    have hN2 : NM nm M2 := ⟨fun v hv => by rw [f2.1 77 (by decide)]; exact hN.1 v hv, by rw [g52]; exact hN.2.1, hN.2.2⟩
    have hwA := ap_wf hI.2.2.2.1 _ (fB_wf hr.1.1 a ha (i + 1) node)
    have hpos := szE_pos hwA
    have hlen : (en (ap m (fB a (i + 1) node rq))).length = sz (ap m (fB a (i + 1) node rq)) := rfl
    have el : en (ap m (Nd c (fB a (i + 1) node rq) (fB Lf (i + 1 + sz a) node rq))) = c :: en (ap m (fB a (i + 1) node rq)) := by rw [eL, ap_n hvc, en_n]; simp [ap, en]
    rw [el, h_161_84, al M2 g75, oB_s, c_wide (by omega) s2, kI_r, arN_1 hc, ilt_pos (by omega) (by omega)]
    by_cases h40 : had = 40
    · rw [ilt_pos (by omega) (by omega)]
      refine ⟨M2, ?_, f2.mono (by decide), fun k _ => by rw [g52], fun k hk => by rw [a2, up_at, if_neg (by omega)], fun z => ?_, nm, hN2⟩
      · rw [List.length_cons, if_neg (by omega)]; congr 2; omega
      · rw [List.length_cons] at z; omega
    rw [ilt_neg (by omega) (by omega), c_parg0 (by omega), kI_r]
    obtain ⟨M3, k1, k2, k3, k4, k5, k6⟩ := iha (i + 1) (had + 1) nm M2 d ((hp.eq g75).x ha) (hr.eq g75) (BN_fr hB g75 (f2.1 76 (by decide))) hN2 (by omega) hnode (by omega)
    have g75' : M3.1 75 = M.1 75 := (k2.1 75 (by decide)).trans g75
    rw [k1, kI_r, jn_add, h_161_84, al M3 g75', oB_s, c_wide (by omega) s2, kI_r, arN_1 hc, ilt_neg (by omega) (by omega)]
    refine ⟨M3, ?_, (f2.mono (by decide)).trans k2, fun k hk => by rw [k3 k hk, g52], fun k hk => by rw [k4 k (by omega), a2, up_at, if_neg (by omega)], fun z => ?_, k6⟩
    · rw [List.length_cons, hlen]
      congr 2
      split
      · rw [if_pos (by omega)]; omega
      · rw [if_neg (by omega)]
    · rw [List.length_cons, hlen] at z
      obtain ⟨y1, y2⟩ := k5 (by rw [hlen]; omega)
      rw [cnS_non hvc]
      exact ⟨⟨by rw [k4 had (by omega), a2, up_at, if_pos rfl], y1⟩, y2⟩
  · intro i had nm M d hp hr hB hN hh hnode hd
    have hdpn : dp (Nd c a b) = max (dp a) (dp b) + 1 := rfl
    obtain ⟨d, rfl⟩ := ex_add (show 1 ≤ d by omega)
    refine step c a b (wfE_2 hc ha hb) i had nm M d hp hr hB hN hh hnode (by omega) (fun u1 hvc z1 z2 => ?_)
    obtain ⟨s1, s2, s3⟩ := hp.s
    have al : ∀ M0 : PM, M0.1 75 = M.1 75 → aldI lay none M0 75 (jn i) = some c := fun M0 h => by rw [ald_n (n := 160) rfl s3 (by omega), h, s1]
    generalize hM2 : sI M 80 (va_up (M.1 80) had c) = M2
    have f2 : Fr [80] M M2 := by rw [← hM2]; exact Fr.sI (by decide)
    have a2 : M2.1 80 = va_up (M.1 80) had c := by rw [← hM2, sI_k]
    clear hM2
    have g75 : M2.1 75 = M.1 75 := f2.1 75 (by decide)
    have g52 : M2.1 52 = M.1 52 := f2.1 52 (by decide)
    have hN2 : NM nm M2 := ⟨fun v hv => by rw [f2.1 77 (by decide)]; exact hN.1 v hv, by rw [g52]; exact hN.2.1, hN.2.2⟩
    have hwA := ap_wf hI.2.2.2.1 _ (fB_wf hr.1.1 a ha (i + 1) node)
    have hwB := ap_wf hI.2.2.2.1 _ (fB_wf hr.1.1 b hb (i + 1 + sz a) node)
    have hposa := szE_pos hwA
    have hposb := szE_pos hwB
    have hla : (en (ap m (fB a (i + 1) node rq))).length = sz (ap m (fB a (i + 1) node rq)) := rfl
    have hlb : (en (ap m (fB b (i + 1 + sz a) node rq))).length = sz (ap m (fB b (i + 1 + sz a) node rq)) := rfl
    rw [ap_n hvc, en_n, h_161_84, al M2 g75, oB_s, c_wide (by omega) s2, kI_r, arN_2 hc, ilt_pos (by omega) (by omega)]
    by_cases h40 : had = 40
    · rw [ilt_pos (by omega) (by omega)]
      refine ⟨M2, ?_, f2.mono (by decide), fun k _ => by rw [g52], fun k hk => by rw [a2, up_at, if_neg (by omega)], fun z => ?_, nm, hN2⟩
      · rw [List.length_cons, List.length_append, if_neg (by omega)]; congr 2; omega
      · rw [List.length_cons, List.length_append] at z; omega
    rw [ilt_neg (by omega) (by omega), c_parg0 (by omega), kI_r]
    obtain ⟨M3, k1, k2, k3, k4, k5, k6⟩ := iha (i + 1) (had + 1) nm M2 d ((hp.eq g75).x ha) (hr.eq g75) (BN_fr hB g75 (f2.1 76 (by decide))) hN2 (by omega) hnode (by omega)
    have g75' : M3.1 75 = M.1 75 := (k2.1 75 (by decide)).trans g75
    have g76' : M3.1 76 = M.1 76 := (k2.1 76 (by decide)).trans (f2.1 76 (by decide))
    rw [k1, kI_r, jn_add, show 0 + 1 = 1 from rfl, h_161_84, al M3 g75', oB_s, c_wide (by omega) s2, kI_r, arN_2 hc, ilt_pos (by omega) (by omega), hla]
    by_cases h41 : had + 1 + sz (ap m (fB a (i + 1) node rq)) ≤ 40
    case neg =>
      rw [if_neg h41, ilt_pos (by omega) (by omega)]
      refine ⟨M3, ?_, (f2.mono (by decide)).trans k2, fun k hk => by rw [k3 k hk, g52], fun k hk => by rw [k4 k (by omega), a2, up_at, if_neg (by omega)], fun z => ?_, k6⟩
      · rw [List.length_cons, List.length_append, if_neg (by omega)]
      · rw [List.length_cons, List.length_append] at z; omega
    obtain ⟨y1, y2⟩ := k5 (by rw [hla]; omega)
    have hp3 := hp.eq g75'
    rw [if_pos h41, ilt_neg (by omega) (by omega), c_parg1 (by omega) (hp3.x ha), kI_r]
    obtain ⟨M4, l1, l2, l3, l4, l5, l6⟩ := ihb (i + 1 + sz a) (had + 1 + sz (ap m (fB a (i + 1) node rq))) (cnS nm (en (ap m (fB a (i + 1) node rq)))).2 M3 d (hp3.y hb) (hr.eq g75') (BN_fr hB g75' g76') y2 (by omega) hnode (by omega)
    have g75'' : M4.1 75 = M.1 75 := (l2.1 75 (by decide)).trans g75'
    rw [l1, kI_r, jn_add, h_161_84, al M4 g75'', oB_s, c_wide (by omega) s2, kI_r, arN_2 hc, ilt_neg (by omega) (by omega)]
    refine ⟨M4, ?_, ((f2.mono (by decide)).trans k2).trans l2, fun k hk => by rw [l3 k hk, k3 k hk, g52], fun k hk => by rw [l4 k (by omega), k4 k (by omega), a2, up_at, if_neg (by omega)], fun z => ?_, l6⟩
    · rw [List.length_cons, List.length_append, hla, hlb]
      congr 2
      split
      · rw [if_pos (by omega)]; omega
      · rw [if_neg (by omega)]
    · rw [List.length_cons, List.length_append, hla, hlb] at z
      obtain ⟨w1, w2⟩ := l5 (by rw [hlb]; omega)
      rw [cnS_non hvc, cnS_app]
      refine ⟨⟨by rw [l4 had (by omega), k4 had (by omega), a2, up_at, if_pos rfl], (At_app _ _ _).mpr ⟨At_congr y1 (fun k z1 z2 => ?_), ?_⟩⟩, w2⟩
      · rw [cnS_len, hla] at z2
        exact l4 k (by omega)
      · rw [cnS_len, hla]; exact w1
end
noncomputable def F_unify (A : AT) (a b : Int32) : Int32 × AT := if ¬ hsT A a then rfs A 1 else if ¬ hsT A b then rfs A 1 else if 3 < nvr (en (tmN A a)) then rfs A 5 else if 3 < nvr (en (tmN A b)) then rfs A 5 else match mgO (tmN A a) (apt (tmN A b)) with
  | none => rfs A 6
  | some m => if 40 < sz (ap m (tmN A a)) then rfs A 7 else addT A (treeOf (o1 m (tmN A a)).1)
theorem un_tree {m : Nat → Tm} {s t : Tm} (hs : wf s) (ht : wf t) (h3 : nvr (en s) ≤ 3) (h4 : nvr (en t) ≤ 3) (hm : Mgu m s (apt t)) (h40 : sz (ap m s) ≤ 40) : ∃ t', wf t' ∧ en t' = (o1 m s).1 ∧ sz t' ≤ 40 := by
  have hv : ∀ c ∈ en s, vE c → isV c := fun c hc hv => by have := sg_en s hs c hc; omega
  have h6 := names6 (wfE_of s hs) (apt_wf t ht) hm (p := s) (q := t) ht h3 h4 (fun c hc => hc) rfl [s] (fun u hu => by
    rw [List.mem_singleton] at hu
    subst hu
    exact ⟨wfE_of u hs, fun c hc hvc => Or.inl ⟨hc, hv c hc hvc⟩⟩) hv
  simp only [List.flatMap_cons, List.flatMap_nil, List.append_nil] at h6
  obtain ⟨t', h1, h2⟩ := named (ap m s) (ap_wf hm.1 s (wfE_of s hs)) [] h6
  refine ⟨t', h1, h2, ?_⟩
  show (en t').length ≤ 40
  rw [h2, cnS_len]; exact h40
section
variable {d : Nat} {A : AT} {M M' : PM} {a b c e f : Int32}
theorem k_unify (hA : AOk A) : AOk (F_unify A a b).2 := by
  unfold F_unify
  by_cases h1 : hsT A a
  case neg => rw [if_pos h1]; exact hA
  by_cases h2 : hsT A b
  case neg => rw [if_neg (Classical.not_not.mpr h1), if_pos h2]; exact hA
  rw [if_neg (Classical.not_not.mpr h1), if_neg (Classical.not_not.mpr h2)]
  obtain ⟨n, s, rfl, k1, k2, k3, k4, k5⟩ := ts_of hA h1
  obtain ⟨n', t, rfl, i1, i2, i3, i4, i5⟩ := ts_of hA h2
  rw [k2, i2]
  split
  · exact hA
  split
  · exact hA
  rename_i h3 h4
  cases hm : mgO s (apt t) with
  | none => exact hA
  | some m =>
    simp only
    split
    · exact hA
    · obtain ⟨w1, w2, w3⟩ := treeOf_ok (un_tree k3 i3 (by omega) (by omega) (mgO_some hm) (by omega))
      exact k_addT hA w1 w3
theorem IMx_0 : IMx (fun _ => none) vr (fun _ => 0) := ⟨fun v u _ h => (by cases h), fun _ _ _ => rfl, fun v c a b _ h => (by cases h), fun v hv => wfE_vr hv, fun th _ v hv => (ap_vr hv).symm⟩
theorem m_unify (hd : 1110 ≤ d) (hA : AOk A) (h : RM A M) : MI (pcl GG lay d 160 [.ref 52, .int a, .int b] M) M (F_unify A a b) := by
  obtain ⟨d, rfl⟩ := ex_add (show 1 ≤ d by omega)
  unfold F_unify
  rw [q_160, d_hasT (by omega) hA h, kI_r]
  by_cases h1 : hsT A a
  case neg => rw [bI_n h1, ieq_pos rfl, if_pos h1]; exact m_ref (by omega) h (by omega)
  rw [bI_1 h1, ieq_neg (by omega) (by omega) (by omega), if_neg (Classical.not_not.mpr h1), d_hasT (by omega) hA h, kI_r]
  by_cases h2 : hsT A b
  case neg => rw [bI_n h2, ieq_pos rfl, if_pos h2]; exact m_ref (by omega) h (by omega)
  rw [bI_1 h2, ieq_neg (by omega) (by omega) (by omega), if_neg (Classical.not_not.mpr h2)]
  obtain ⟨n, s, rfl, k1, k2, k3, k4, k5⟩ := ts_of hA h1
  obtain ⟨n', t, rfl, i1, i2, i3, i4, i5⟩ := ts_of hA h2
  obtain ⟨e53, e54⟩ := h.1.2.1 n s k1
  obtain ⟨f53, f54⟩ := h.1.2.1 n' t i1
  have e53 : M.1 53 n = jn (sz s) := e53
  have f53 : M.1 53 n' = jn (sz t) := f53
  have e54 : At (M.1 54) (40 * n) (en s) := e54
  have f54 : At (M.1 54) (40 * n') (en t) := f54
  rw [k2, i2, ald_n (n := 24) rfl k5 (by omega), oB_s, e53, jn_mul, d_vars (nx := 960) (by omega) rfl (by omega) e54 (by omega), kI_r, c_bits (by omega), kI_r]
  have nv6 : ∀ l, nvr l ≤ 6 := fun l => cntP_le _ 6
  by_cases h3 : 3 < nvr (en s)
  · rw [ilt_pos h3 (by have := nv6 (en s); omega), if_pos h3]; exact m_ref (by omega) h (by omega)
  rw [ilt_neg (by omega) (by omega), if_neg h3, ald_n (n := 24) rfl i5 (by omega), oB_s, f53, jn_mul, d_vars (nx := 960) (by omega) rfl (by omega) f54 (by omega), kI_r, c_bits (by omega), kI_r]
  by_cases h4 : 3 < nvr (en t)
  · rw [ilt_pos h4 (by have := nv6 (en t); omega), if_pos h4]; exact m_ref (by omega) h (by omega)
  rw [ilt_neg (by omega) (by omega), if_neg h4]
  obtain ⟨M1, a1, a2, a3, a4⟩ := m_unb (d := d) (M := M) (by omega)
  have b53 : M1.1 53 = M.1 53 := a2.1 53 (by decide)
  have b54 : M1.1 54 = M.1 54 := a2.1 54 (by decide)
  rw [a1, kV_r, ald_n (n := 24) rfl k5 (by omega), oB_s, b53, e53]
  obtain ⟨M2, p1, p2, p3, p4⟩ := m_pool (d := d) (M := M1) (x := 54) (nx := 960) (at0 := 0) (st := 40 * n) (ap0 := false) (t := s) (by omega) rfl (by omega) (by omega) (by rw [b54]; exact e54) (by omega) (by omega)
  simp only [Bool.false_eq_true, if_false] at p1 p3
  rw [p1, kV_r, ald_n (n := 24) rfl i5 (by omega), oB_s, p2.1 53 (by decide), b53, f53]
  obtain ⟨M3, r1, r2, r3, r4⟩ := m_pool (d := d) (M := M2) (x := 54) (nx := 960) (at0 := 40) (st := 40 * n') (ap0 := true) (t := t) (by omega) rfl (by omega) (by omega) (by rw [p2.1 54 (by decide), b54]; exact f54) (by omega) (by omega)
  simp only [if_true] at r1 r3
  rw [r1, kV_r]
  have fr3 : Fr [52, 75, 76, 77] M M3 := ((a2.mono (by decide)).trans (p2.mono (by decide))).trans (r2.mono (by decide))
  have n52 : M3.1 52 = va_up (M.1 52) 41 (jn 0) := by rw [r2.1 52 (by decide), p2.1 52 (by decide), a4]
  have hR3 : RM A M3 := RM_sc h (fr3.mono (by decide)) (fun j hj => by rw [n52, up_at, if_neg (by rintro rfl; revert hj; decide)])
  have ls : (en s).length = sz s := rfl
  have P1 : PT M3 0 s := ⟨⟨wfE_of s k3, k4⟩, by omega, At_congr p3 (fun j j1 j2 => r4 j (by omega))⟩
  have P2 : PT M3 40 (apt t) := ⟨⟨apt_wf t i3, by rw [apt_sz]; exact i4⟩, by rw [apt_sz]; omega, r3⟩
  have hB : BN (fun _ => none) M3 := fun v hv => by show M3.1 76 v = jz 1; rw [r2.1 76 (by decide), p2.1 76 (by decide)]; exact (a3 v hv).1
  have hN : NM [] M3 := ⟨fun v hv => by rw [if_neg (by simp), r2.1 77 (by decide), p2.1 77 (by decide)]; exact (a3 v hv).2, by rw [n52, up_at, if_pos rfl]; rfl, by simp, fun c hc => (by cases hc)⟩
  have hL3 : Lo M M3 := Lo.fr fr3 (by decide)
  obtain ⟨M4, g1, ⟨g2, be, m, ta, g3, g4, g5, g6⟩ | ⟨g2, g3⟩⟩ := m_uni _ _ s (apt t) 0 40 0 s d (fun _ => none) vr (fun _ => 0) M3 (Nat.le_refl _) (Nat.le_refl _) IMx_0 hB P1 P2 ⟨wfE_of s k3, k4⟩ rfl (by omega)
  · have hR4 : RM A M4 := RM_sc hR3 (g1.mono (by decide)) (fun j _ => by rw [g1.1 52 (by decide)])
    have hsol : ∀ th, SolB be th ↔ ap th s = ap th (apt t) := fun th => by
      rw [g6]
      exact ⟨fun z => z.2, fun z => ⟨fun v u _ hu => (by cases hu), z⟩⟩
    have hmg : Mgu m s (apt t) := ⟨g3.2.2.2.1, (hsol m).mp g3.sol, fun th hth => g3.2.2.2.2 th ((hsol th).mpr hth)⟩
    obtain ⟨m0, hm0, hmg0⟩ := mgO_of hmg
    have hN4 : NM [] M4 := ⟨fun v hv => by rw [g1.1 77 (by decide)]; exact hN.1 v hv, by rw [g1.1 52 (by decide)]; exact hN.2.1, hN.2.2⟩
    have hdp := dp_521 g3 (wfE_of s k3) k4
    obtain ⟨M5, q1, q2, q3, q4, q5, -⟩ := m_puts (x := 78) ⟨rfl, by decide, by decide, by decide, by decide⟩ g3 _ s 0 0 [] M4 d (Nat.le_refl _) (P1.eq (g1.1 75 (by decide))) g4 hN4 (by omega) (by omega)
    have hszE : sz (ap m0 s) = sz (ap m s) := mg_sz hmg hmg0 (wfE_of s k3)
    have hoE : (o1 m0 s).1 = (o1 m s).1 := o1_same hmg hmg0 (wfE_of s k3)
    have hlen : (en (ap m s)).length = sz (ap m s) := rfl
    rw [Nat.zero_add, hlen] at q1 q5
    rw [hm0, g2, kI_r, ieq_neg (by omega) (by omega) (by omega), q1, kI_r, wr_e]
    simp only
    rw [hszE, hoE]
    generalize hM6 : sI M5 52 (va_up (M5.1 52) 43 (jn (if sz (ap m s) ≤ 40 then sz (ap m s) else 41))) = M6
    have f6 : Fr [52] M5 M6 := by rw [← hM6]; exact Fr.sI (by decide)
    have a52 : M6.1 52 = va_up (M5.1 52) 43 (jn (if sz (ap m s) ≤ 40 then sz (ap m s) else 41)) := by rw [← hM6, sI_k]
    clear hM6
    have hR6 : RM A M6 := RM_sc hR4 ((q2.mono (by decide)).trans (f6.mono (by decide))) (fun j hj => by rw [a52, up_at, if_neg (by rintro rfl; revert hj; decide), q3 j (by rintro rfl; revert hj; decide)])
    have hL6 : Lo M M6 := hL3.trans ((Lo.fr g1 (by decide)).trans ((Lo.fr q2 (by decide)).trans (Lo.fr f6 (by decide))))
    have e43 : M6.1 52 43 = jn (if sz (ap m s) ≤ 40 then sz (ap m s) else 41) := by rw [a52, up_at, if_pos rfl]
    rw [e43]
    by_cases h40 : 40 < sz (ap m s)
    · rw [if_neg (show ¬ sz (ap m s) ≤ 40 by omega), ilt_pos (by omega) (by omega), if_pos h40]
      exact (m_ref (by omega) hR6 (by omega)).pre hL6
    rw [if_pos (show sz (ap m s) ≤ 40 by omega), ilt_neg (by omega) (by omega), if_neg h40]
    obtain ⟨w1, w2, w3⟩ := treeOf_ok (un_tree k3 i3 (by omega) (by omega) hmg (by omega))
    have hl : (tsA A).length ≤ 24 := hA.1.1.1
    have e0 : M6.1 52 0 = jn (tsA A).length := hR6.1.1.1
    rw [e0]
    unfold addT
    by_cases h24 : (tsA A).length = 24
    · rw [ieq_pos h24, if_neg (by omega)]
      exact (m_ref (by omega) hR6 (by omega)).pre hL6
    · rw [ieq_neg h24 (by omega) (by omega), if_pos (by omega)]
      have hszw : sz (treeOf (o1 m s).1) = sz (ap m s) := by
        show (en (treeOf (o1 m s).1)).length = _
        rw [w2, cnS_len]
      rw [← hszw]
      exact (m_newT (by omega) hA hR6 (by omega) w3 (x := 78) (nx := 41) rfl (by omega) (by omega) (by omega) (by rw [w2, f6.1 78 (by decide)]; exact (q5 (by omega)).1)).k.pre hL6
  · have hR4 : RM A M4 := RM_sc hR3 (g1.mono (by decide)) (fun j _ => by rw [g1.1 52 (by decide)])
    rw [mgO_none (fun th hth => g3 th (fun v u _ hu => by cases hu) hth), g2, kI_r, ieq_pos rfl]
    exact (m_ref (by omega) hR4 (by omega)).pre (hL3.trans (Lo.fr g1 (by decide)))
end
