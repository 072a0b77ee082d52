/-! run, trial, judge: what is asked; the model's side -/
abbrev stQ (b r : Nat) : RnS := (b, r, [], false)
def rnA (A : AT) (w : Int32) (t : Tm) (b r : Nat) : RnR := runF (gM A) (fM A) 601 w t (Int64.ofNat 0) (stQ b r)
def setTr (A : AT) (tr : List (Nat × Int64)) : AT := (A.1, A.2.1, tr, A.2.2.2)
abbrev hsS (A : AT) (a : Int32) : Prop := 0 ≤ a.toInt ∧ a.toInt < ((ssA A).length : Nat)
def F_run (A : AT) (a b : Int32) : Int32 × AT := if ¬ hsS A a then rfs A 1 else if ¬ hsT A b then rfs A 1 else match rnA A a (tmN A b) 0 0 with
  | (none, q) => if q.2.2.2 = true then rfs A 7 else rfs A 6
  | (some u, q) => if (tsA A).length < 24 then addT (setTr A q.2.2.1) u else rfs A 7
def trlV (c : Int32) (o : RnR) : Int32 := match o with
  | (none, q) => if c = jn 0 then (if q.2.2.2 = true then jn 2 else jn 1) else jn 0
  | (some u, q) => if c = jn 0 then jn 0 else if c = jn 1 then jn (sz u) else jn q.2.2.1.length
def F_trial (A : AT) (a b c : Int32) : Int32 × AT := if ¬ hsS A a then rfs A 1 else if ¬ hsT A b then rfs A 1 else if ¬ (0 ≤ c.toInt ∧ c.toInt ≤ 2) then rfs A 5 else (trlV c (rnA A a (tmN A b) 0 0), A)
def judF (A : AT) (s : Nat) (w : Int32) : Nat → Nat → Nat → Nat → Int32
  | 0, _, _, _ => jz 1
  | m + 1, k, b, r => match rnA A w (tmN A (rowI A s (2 * k))) b r with
    | (none, _) => jn k
    | (some u, q) => if en u = en (tmN A (rowI A s (2 * k + 1))) then judF A s w m (k + 1) q.1 q.2.1 else jn k
abbrev no10A (A : AT) (k : Nat) : Int32 × AT := (jz (10 + k), (rfs A k).2)
def F_judge (A : AT) (a b c : Int32) : Int32 × AT := if ¬ thr a then no10A A 1 else if ¬ hsS A b then no10A A 1 else if noR A a ≠ 0 then no10A A (noR A a) else if c.toInt < 0 then no10A A 4 else if (siz A a.toInt.toNat : Int) < 2 * c.toInt then no10A A 5 else if ¬ (∀ i, i < 2 * c.toInt.toNat → hsT A (rowI A a.toInt.toNat i)) then no10A A 6 else (judF A a.toInt.toNat b c.toInt.toNat 0 0 0, A)
theorem pa_0 {t : Tm} (ht : wf t) : paT t 0 = Int64.ofNat 0 := by
  obtain ⟨c, a, b, rfl, -⟩ := wf_cases ht
  rfl
theorem rep_0 {t s : Tm} (ht : wf t) : rep t 0 s = s := by
  obtain ⟨c, a, b, rfl, -⟩ := wf_cases ht
  rfl
theorem stQ_ok {b r : Nat} (hb : b ≤ 600) (hr : r ≤ 40) : QOk (stQ b r) := ⟨hb, hr, Nat.zero_le _, rfl, fun x hx => by cases hx⟩
theorem okM_t {A : AT} {a : Int32} (h : hsS A a) : okM A a := Or.inl ⟨a.toInt.toNat, by omega, by rw [← Int32.toInt_inj, jn_toInt (by have := a.toInt_lt; omega)]; omega⟩
theorem rnA_ok {A : AT} {w : Int32} {t : Tm} {b r : Nat} (hA : AOk A) (hw : okM A w) (ht : wf t) (hs : sz t ≤ 40) (hb : b ≤ 600) (hr : r ≤ 40) : ROk True 1 t (stQ b r) (rnA A w t b r) := runF_ok (gM_ok hA) (fM_ok hA) 601 w hw t _ _ ht hs (stQ_ok hb hr)
theorem setTr_ok {A : AT} (hA : AOk A) {q : RnS} (hq : QOk q) : AOk (setTr A q.2.2.1) := ⟨hA.1, hA.2.1, ⟨Nat.le_trans hq.2.2.1 hq.2.1, hq.2.2.2.2⟩, hA.2.2.2⟩
section
variable {d : Nat} {A : AT} {M : PM} {a b c e f : Int32} {v : Int64}
theorem k_run (hA : AOk A) : AOk (F_run A a b).2 := by
  unfold F_run
  split
  · exact hA
  rename_i h1
  split
  · exact hA
  rename_i h2
  obtain ⟨n, t, rfl, k1, k2, k3, k4, k5⟩ := ts_of hA (Classical.not_not.mp h2)
  rw [k2]
  have ho := rnA_ok (b := 0) (r := 0) hA (okM_t (Classical.not_not.mp h1)) k3 k4 (by omega) (by omega)
  rcases e : rnA A a t 0 0 with ⟨_ | u, q⟩
  · simp only; split <;> exact hA
  · rw [e] at ho
    simp only
    split
    · exact k_addT (setTr_ok hA ho.2.2.1) ho.1 ho.2.1
    · exact hA
/-- a whole run by the model -/
theorem m_gosF {w : Int32} {t : Tm} {b r : Nat} (hd : 1900 ≤ d) (hA : AOk A) (hw : okM A w) (h : GR A t M) (ht : wf t) (hs : sz t ≤ 40) (hb : b ≤ 600) (hr : r ≤ 40) (h28 : M.1 52 28 = jn b) (h29 : M.1 52 29 = jn r) :
    ∃ M', pcl GG lay d 142 [.ref 52, .int w] M = rI (trlV (jn 0) (rnA A w t b r)) M' ∧ RM A M' ∧ Fr swM M M' ∧ ∀ u q, rnA A w t b r = (some u, q) → RunM A u q 0 M' := by
  obtain ⟨d, rfl⟩ := ex_add (show 1900 ≤ d from hd)
  rw [show d + 1900 = (d + 1899) + 1 from rfl, q_142, wr_e, wr_e, wr_e]
  generalize hM1 : sI (sI (sI M 52 _) 52 _) 52 _ = M1
  have f1 : Fr [52] M M1 := by rw [← hM1]; exact ((Fr.sI (by decide)).trans (Fr.sI (by decide))).trans (Fr.sI (by decide))
  have a52 : M1.1 52 = va_up (va_up (va_up (M.1 52) 27 (jn 0)) 30 (jn 0)) 33 (jn 0) := by rw [← hM1]; rfl
  clear hM1
  have n52 : ∀ j, j ≠ 27 → j ≠ 30 → j ≠ 33 → M1.1 52 j = M.1 52 j := fun j j1 j2 j3 => by rw [a52, up_at, if_neg j3, up_at, if_neg j2, up_at, if_neg j1]
  have zt := sz_pos t ht
  have h1 : RunM A t (stQ b r) 0 M1 := by
    refine ⟨⟨RM_sc h.1 (f1.mono (by decide)) (fun j hj => n52 j (by rintro rfl; revert hj; decide) (by rintro rfl; revert hj; decide) (by rintro rfl; revert hj; decide)), ?_, ?_⟩, ⟨?_, ?_, ?_, ?_, ?_⟩, fun k x hx => ?_⟩
    · rw [n52 19 (by omega) (by omega) (by omega)]; exact h.2.1
    · rw [f1.1 65 (by decide)]; exact h.2.2
    · rw [n52 28 (by omega) (by omega) (by omega)]; exact h28
    · rw [n52 29 (by omega) (by omega) (by omega)]; exact h29
    · rw [a52, up_at, if_neg (by omega), up_at, if_pos rfl]; rfl
    · rw [a52, up_at, if_neg (by omega), up_at, if_neg (by omega), up_at, if_pos rfl]; exact (bI_n (by simp)).symm
    · rw [a52, up_at, if_pos rfl]
    · simp at hx
  have hs0 : sub t 0 = t := sub_0 t
  obtain ⟨M2, e1, e2⟩ := m_goes hA 601 w hw (d + 1899) (by omega) t 0 t (stQ b r) 0 M1 ht zt hs0 hs (stQ_ok hb hr) (by show sz t ≤ 40 + 39 * r; omega) (by omega) (by omega) h1
  have e1 : pcl GG lay (d + 1899) 140 [.ref 52, .int w, .int (jn 0)] M1 = _ := e1
  rw [pa_0 ht] at e1 e2
  have eR : runF (gM A) (fM A) 601 w t (Int64.ofNat 0) (stQ b r) = rnA A w t b r := rfl
  rw [eR] at e1 e2
  rw [e1, kI_r]
  have ho := rnA_ok hA hw ht hs hb hr
  have fl : Fr swM M M1 := f1.mono (by decide)
  rcases e : rnA A w t b r with ⟨_ | u, q⟩
  · rw [e] at e2 ho
    rw [bI_none, e2.out]
    have hL : Fr swM M1 M2 ∧ RM A M2 := by
      rcases e2 with ⟨_, g1, g2, _⟩ | ⟨_, g1, _, _, _, _, _, g2⟩
      · exact ⟨g1, g2⟩
      · exact ⟨g1.1, g2.1.1⟩
    by_cases h0 : q.2.2.2 = true
    · rw [if_pos h0, ieq_neg (by omega) (by omega) (by omega)]
      refine ⟨M2, ?_, hL.2, fl.trans hL.1, fun u q hq => by cases hq⟩
      unfold trlV; simp only [if_pos h0, if_true]
    · rw [if_neg h0, ieq_pos rfl, ieq_pos rfl]
      refine ⟨M2, ?_, hL.2, fl.trans hL.1, fun u q hq => by cases hq⟩
      unfold trlV; simp only [if_neg h0, if_true]
  · rw [e] at e2 ho
    obtain ⟨g1, g2⟩ := e2
    rw [rep_0 ht] at g2
    rw [bI_some, RunM_27 g2 ho.2.2.1.2.2.2.1, ieq_pos rfl, ieq_neg (by omega) (by omega) (by omega)]
    refine ⟨M2, ?_, g2.1.1, fl.trans g1.1, fun u q hq => by cases hq; exact g2⟩
    unfold trlV; simp only [if_true]
theorem m_gos {w : Int32} {t : Tm} {b r : Nat} (hd : 1900 ≤ d) (hA : AOk A) (hw : okM A w) (h : GR A t M) (ht : wf t) (hs : sz t ≤ 40) (hb : b ≤ 600) (hr : r ≤ 40) (h28 : M.1 52 28 = jn b) (h29 : M.1 52 29 = jn r) :
    ∃ M', pcl GG lay d 142 [.ref 52, .int w] M = rI (trlV (jn 0) (rnA A w t b r)) M' ∧ RM A M' ∧ Lo M M' ∧ ∀ u q, rnA A w t b r = (some u, q) → RunM A u q 0 M' := by
  obtain ⟨M', h1, h2, h3, h4⟩ := m_gosF hd hA hw h ht hs hb hr h28 h29
  exact ⟨M', h1, h2, Lo.fr h3 (by decide), h4⟩
theorem m_cnt0 {t : Tm} (hd : 1 ≤ d) (h : GR A t M) : ∃ M', pcl GG lay d 141 [.ref 52] M = rV M' ∧ GR A t M' ∧ Lo M M' ∧ M'.1 52 28 = jn 0 ∧ M'.1 52 29 = jn 0 ∧ Fr [52] M M' := by
  obtain ⟨d, rfl⟩ := ex_add hd
  rw [q_141, wr_e, wr_e]
  have e52 : (sI (sI M 52 (va_up (M.1 52) 28 (jn 0))) 52 (va_up ((sI M 52 (va_up (M.1 52) 28 (jn 0))).1 52) 29 (jn 0))).1 52 = va_up (va_up (M.1 52) 28 (jn 0)) 29 (jn 0) := rfl
  have hf : Fr [52] M (sI (sI M 52 (va_up (M.1 52) 28 (jn 0))) 52 (va_up ((sI M 52 (va_up (M.1 52) 28 (jn 0))).1 52) 29 (jn 0))) := (Fr.sI (by decide)).trans (Fr.sI (by decide))
  refine ⟨_, rfl, ⟨RM_sc h.1 (hf.mono (by decide)) (fun j hj => ?_), ?_, ?_⟩, Lo.fr hf (by decide), ?_, ?_, hf⟩
  · rw [e52, up_at, if_neg (by rintro rfl; revert hj; decide), up_at, if_neg (by rintro rfl; revert hj; decide)]
  · rw [e52, up_at, if_neg (by omega), up_at, if_neg (by omega)]; exact h.2.1
  · rw [hf.1 65 (by decide)]; exact h.2.2
  · rw [e52, up_at, if_neg (by omega), up_at, if_pos rfl]
  · rw [e52, up_at, if_pos rfl]
theorem setTr_m {tr : List (Nat × Int64)} {M' : PM} (h : RM A M) (hT : TX 52 35 73 74 tr M') (hf : Fr [52, 73, 74] M M') (h52 : ∀ j, j ≠ 35 → M'.1 52 j = M.1 52 j) : RM (setTr A tr) M' := by
  obtain ⟨a, ⟨b1, b2⟩, c, e, f, g⟩ := h
  refine ⟨?_, ⟨?_, ?_⟩, hT, ?_, ?_, ?_⟩
  · exact KM_eq a (fun j hj => h52 j (by rintro rfl; revert hj; decide)) (fun k hk => hf.1 k (by revert k hk; decide))
  · rw [h52 48 (by omega)]; exact b1
  · intro K hK
    exact KM_eq (b2 K hK) (fun j hj => h52 j (by rintro rfl; revert hj; decide)) (fun k hk => hf.1 k (by revert k hk; decide))
  · exact SX_eq e (hf.1 _ (by decide)) (hf.1 _ (by decide)) (hf.2 _ (by decide))
  · rw [h52 16 (by omega)]; exact f
  · exact CX_eq g (hf.1 _ (by decide))
/-- the trace is copied -/
theorem m_keepT {u1 u2 u3 : Option Value} {u : Tm} {q : RnS} (hq : QOk q) (h30 : M.1 52 30 = jn q.2.2.1.length) (hx : ∀ k x, q.2.2.1[k]? = some x → M.1 70 k = jn x.1 ∧ M.2 71 k = x.2) : ∀ m k M1, k + m = q.2.2.1.length → Fr [73, 74] M M1 → (∀ j x, j < k → q.2.2.1[j]? = some x → M1.1 73 j = jn x.1 ∧ M1.2 74 j = x.2) → ∃ M', E_143 d (81, [some (.ref 52), u1, u2, u3, some (.int (jn k))], [], M1) = (kI (pcl GG lay d 92 [.ref 52, .ref 65, .int (M'.1 52 19)] M') fun r1 M1 => (rI r1 M1)) ∧ Fr [73, 74] M M' ∧ ∀ j x, q.2.2.1[j]? = some x → M'.1 73 j = jn x.1 ∧ M'.2 74 j = x.2 := by
  have q1 := hq.2.1
  have q2 := hq.2.2.1
  intro m
  induction m with
  | zero =>
    intro k M1 hk hf hj
    rw [h_143_81, hf.1 52 (by decide), h30, ilt_neg (by omega) (by omega)]
    refine ⟨M1, by rw [hf.1 52 (by decide)], hf, fun j x hx => hj j x ?_ hx⟩
    have := (List.getElem?_eq_some_iff.mp hx).1
    omega
  | succ m ih =>
    intro k M1 hk hf hj
    obtain ⟨x, hxk⟩ : ∃ x, q.2.2.1[k]? = some x := ⟨_, List.getElem?_eq_getElem (by omega)⟩
    obtain ⟨y1, y2⟩ := hx k x hxk
    rw [h_143_81, hf.1 52 (by decide), h30, ilt_pos (by omega) (by omega), ald_n (n := 200) rfl (by omega) (by omega), oB_s, ast_n (n := 200) rfl (by omega) (by omega), oB_s, ald_l (n := 200) rfl (by omega) (by omega), oB_s, ast_l (n := 200) rfl (by omega) (by omega), oB_s, jn_add]
    refine ih (k + 1) _ (by omega) ((hf.trans (Fr.sI (by decide))).trans (Fr.sL (by decide))) (fun j x' hjk hx' => ?_)
    show va_up (M1.1 73) k (M1.1 70 k) j = _ ∧ va_up (M1.2 74) k (M1.2 71 k) j = _
    rw [hf.1 70 (by decide), hf.2 71 (by decide), up_at, up_at]
    by_cases e : j = k
    · subst e
      rw [hxk] at hx'
      cases hx'
      rw [if_pos rfl, if_pos rfl]; exact ⟨y1, y2⟩
    · rw [if_neg e, if_neg e]; exact hj j x' (by omega) hx'
theorem trlV0_1 {o : RnR} : (trlV (jn 0) o = jn 1) = (o.1 = none ∧ ¬ o.2.2.2.2 = true) := by
  obtain ⟨_ | u, q⟩ := o
  · unfold trlV
    simp only [if_true]
    by_cases h : q.2.2.2 = true
    · rw [if_pos h, jn_inj (by omega) (by omega)]; simp [h]
    · rw [if_neg h]; simp [h]
  · unfold trlV
    simp only [if_true]
    rw [jn_inj (by omega) (by omega)]; simp
theorem trlV0_2 {o : RnR} : (trlV (jn 0) o = jn 2) = (o.1 = none ∧ o.2.2.2.2 = true) := by
  obtain ⟨_ | u, q⟩ := o
  · unfold trlV
    simp only [if_true]
    by_cases h : q.2.2.2 = true
    · rw [if_pos h]; simp [h]
    · rw [if_neg h, jn_inj (by omega) (by omega)]; simp [h]
  · unfold trlV
    simp only [if_true]
    rw [jn_inj (by omega) (by omega)]; simp
theorem m_run (hd : 1902 ≤ d) (hA : AOk A) (h : RM A M) : MI (pcl GG lay d 143 [.ref 52, .int a, .int b] M) M (F_run A a b) := by
  obtain ⟨d, rfl⟩ := ex_add (show 1 ≤ d by omega)
  unfold F_run
  rw [q_143, d_hasS (by omega) hA h, kI_r]
  by_cases h1 : hsS A a
  case neg => rw [bI_n h1, ieq_pos rfl, if_pos h1]; exact m_ref (by omega) h (by omega)
  rw [bI_1 h1, ieq_neg (by omega) (by omega) (by omega), if_neg (Classical.not_not.mpr h1), d_hasT (by omega) hA h, kI_r]
  by_cases h2 : hsT A b
  case neg => rw [bI_n h2, ieq_pos rfl, if_pos h2]; exact m_ref (by omega) h (by omega)
  rw [bI_1 h2, ieq_neg (by omega) (by omega) (by omega), if_neg (Classical.not_not.mpr h2)]
  obtain ⟨n, t, rfl, k1, k2, k3, k4, k5⟩ := ts_of hA h2
  obtain ⟨M1, w1, w2, w3⟩ := m_grow (d := d) (by omega) hA h k1
  obtain ⟨M2, v1, v2, v3, v4, v5, -⟩ := m_cnt0 (d := d) (by omega) w2
  obtain ⟨M3, g1, g2, g3, g4⟩ := m_gos (w := a) (d := d) (by omega) hA (okM_t h1) v2 k3 k4 (by omega) (by omega) v4 v5
  have hh : Lo M M3 := w3.trans (v3.trans g3)
  rw [k2, w1, kV_r, v1, kV_r, g1, kI_r]
  have ho := rnA_ok (b := 0) (r := 0) hA (okM_t h1) k3 k4 (by omega) (by omega)
  rcases e : rnA A a t 0 0 with ⟨_ | u, q⟩
  · by_cases h0 : q.2.2.2 = true
    · rw [if_neg (by rw [trlV0_1]; simp [h0]), if_pos (by rw [trlV0_2]; simp [h0])]
      simp only [if_pos h0]
      exact (m_ref (by omega) g2 (by omega)).pre hh
    · rw [if_pos (by rw [trlV0_1]; simp [h0])]
      simp only [if_neg h0]
      exact (m_ref (by omega) g2 (by omega)).pre hh
  · rw [e] at ho
    have g5 := g4 u q e
    have hl : (tsA A).length ≤ 24 := hA.1.1.1
    have e0 : M3.1 52 0 = jn (tsA A).length := g2.1.1.1
    rw [if_neg (by rw [trlV0_1]; simp), if_neg (by rw [trlV0_2]; simp), e0]
    simp only
    by_cases h24 : (tsA A).length = 24
    · rw [ieq_pos h24, if_neg (by omega)]
      exact (m_ref (by omega) g2 (by omega)).pre hh
    rw [ieq_neg h24 (by omega) (by omega), if_pos (by omega), wr_e, g5.2.1.2.2.1]
    have q1 := ho.2.2.1.2.1
    have q2 := ho.2.2.1.2.2.1
    obtain ⟨M4, p1, p2, p3⟩ := m_keepT (d := d) (u1 := some (.int a)) (u2 := some (.int (jn n))) (u3 := some (.int (trlV (jn 0) (some u, q)))) (u := u) (M := sI M3 52 (va_up (M3.1 52) 35 (jn q.2.2.1.length))) ho.2.2.1 (by rw [sI_k, up_at, if_neg (by omega)]; exact g5.2.1.2.2.1) (fun k x hx => g5.2.2 k x hx) q.2.2.1.length 0 _ (by omega) Fr.rf (fun j x hj => by omega)
    rw [p1]
    have f4 : Fr [52, 73, 74] M3 M4 := (Fr.sI (by decide)).trans (p2.mono (by decide))
    have n52 : ∀ j, j ≠ 35 → M4.1 52 j = M3.1 52 j := fun j hj => by rw [p2.1 52 (by decide), sI_k, up_at, if_neg hj]
    have hR : RM (setTr A q.2.2.1) M4 := setTr_m g2 ⟨by rw [p2.1 52 (by decide), sI_k, up_at, if_pos rfl], p3⟩ f4 n52
    have e19 : M4.1 52 19 = jn (sz u) := by rw [n52 19 (by omega)]; exact g5.1.2.1
    rw [e19]
    unfold addT
    rw [if_pos (show (tsA (setTr A q.2.2.1)).length < 24 by show (tsA A).length < 24; omega)]
    exact (m_newT (A := setTr A q.2.2.1) (by omega) (setTr_ok hA ho.2.2.1) hR (by show (tsA A).length < 24; omega) ho.2.1 (x := 65) (nx := 8100) rfl (by have := ho.2.1; omega) (by omega) (by omega) (by rw [f4.1 65 (by decide)]; exact g5.1.2.2)).k.pre (hh.trans (Lo.fr f4 (by decide)))
theorem m_trial (hd : 1902 ≤ d) (hA : AOk A) (h : RM A M) : MI (pcl GG lay d 144 [.ref 52, .int a, .int b, .int c] M) M (F_trial A a b c) := by
  obtain ⟨d, rfl⟩ := ex_add (show 1 ≤ d by omega)
  unfold F_trial
  rw [q_144, d_hasS (by omega) hA h, kI_r]
  by_cases h1 : hsS A a
  case neg => rw [bI_n h1, ieq_pos rfl, if_pos h1]; exact m_ref (by omega) h (by omega)
  rw [bI_1 h1, ieq_neg (by omega) (by omega) (by omega), if_neg (Classical.not_not.mpr h1), d_hasT (by omega) hA h, kI_r]
  by_cases h2 : hsT A b
  case neg => rw [bI_n h2, ieq_pos rfl, if_pos h2]; exact m_ref (by omega) h (by omega)
  rw [bI_1 h2, ieq_neg (by omega) (by omega) (by omega), if_neg (Classical.not_not.mpr h2), c_within_n (by omega) (by omega) (by omega), kI_r]
  by_cases h3 : 0 ≤ c.toInt ∧ c.toInt ≤ 2
  case neg => rw [bI_n (show ¬ (((0 : Nat) : Int) ≤ c.toInt ∧ c.toInt ≤ ((2 : Nat) : Int)) from h3), ieq_pos rfl, if_pos h3]; exact m_ref (by omega) h (by omega)
  rw [bI_1 (show (((0 : Nat) : Int) ≤ c.toInt ∧ c.toInt ≤ ((2 : Nat) : Int)) from h3), ieq_neg (by omega) (by omega) (by omega), if_neg (Classical.not_not.mpr h3)]
  obtain ⟨n, t, rfl, k1, k2, k3, k4, k5⟩ := ts_of hA h2
  obtain ⟨M1, w1, w2, w3⟩ := m_grow (d := d) (by omega) hA h k1
  obtain ⟨M2, v1, v2, v3, v4, v5, -⟩ := m_cnt0 (d := d) (by omega) w2
  obtain ⟨M3, g1, g2, g3, g4⟩ := m_gos (w := a) (d := d) (by omega) hA (okM_t h1) v2 k3 k4 (by omega) (by omega) v4 v5
  have hh : Lo M M3 := w3.trans (v3.trans g3)
  rw [k2, w1, kV_r, v1, kV_r, g1, kI_r]
  refine ⟨M3, ?_, g2, hh⟩
  by_cases hc : c = jn 0
  · rw [if_pos hc, hc]
  rw [if_neg hc]
  rcases e : rnA A a t 0 0 with ⟨_ | u, q⟩
  · have : trlV (jn 0) (none, q) ≠ jn 0 := by
      unfold trlV
      simp only [if_true]
      split
      · rw [Ne, jn_inj (by omega) (by omega)]; omega
      · rw [Ne, jn_inj (by omega) (by omega)]; omega
    rw [if_neg this]
    unfold trlV
    simp only [if_neg hc]
  · have g5 := g4 u q e
    rw [if_pos (show trlV (jn 0) (some u, q) = jn 0 by unfold trlV; simp only [if_true]), g5.1.2.1, g5.2.1.2.2.1]
    unfold trlV
    simp only [if_neg hc]
    split <;> rfl
end
