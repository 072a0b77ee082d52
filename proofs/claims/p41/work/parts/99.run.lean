/-! run, trial by the system -/
def toldV (A : AT) (w : Int32) : Prop := ∃ k, k < (ssA A).length ∧ w = jn k
section
variable {d dd : Nat} {A : AT} {M M' : PM} {V : Int32 → Prop} {a b c e f w : Int32} {v : Int64}
theorem phi_t {k : Nat} (hk : k < 200) : phi (jn k) = k := by
  unfold phi
  rw [if_neg (by rw [jn_inj (by omega) (by omega)]; omega), if_pos (by rw [jn_toInt (by omega)]; omega), jnN (by omega)]
theorem ss_le (hA : AOk A) : (ssA A).length ≤ 24 := hA.1.2.2.1.1
theorem told_ok (hA : AOk A) : GOk (toldV A) (okR A) (gM A) := by
  intro w hw
  obtain ⟨k, hk, rfl⟩ := hw
  obtain ⟨g, h1, h2, ⟨h3, h4, h5, h6, h7⟩, h8⟩ := gM_t hA hk
  rw [h2]
  refine ⟨fun q => h4 q, fun q => ?_, fun q => ?_⟩
  · obtain ⟨s, q1, q2⟩ := h6 q
    exact ⟨s, by omega, q2⟩
  · rw [if_pos q] at h7
    obtain ⟨s, q1, q2⟩ := h7
    exact ⟨s, by omega, q2⟩
theorem told_tb (hA : AOk A) (h : RX A M) : TBx A (toldV A) M := by
  have hl := ss_le hA
  intro w hw
  obtain ⟨k, hk, rfl⟩ := hw
  obtain ⟨g, h1, h2, ⟨h3, h4, h5, h6, h7⟩, h8⟩ := gM_t hA hk
  obtain ⟨e1, e2, e3, -⟩ := h.1.2.2.2 k g h1
  rw [h2, phi_t (by omega)]
  refine ⟨⟨by omega, h3⟩, e1, fun _ => e2, fun q => ?_, fun q => ?_⟩
  · obtain ⟨s, q1, q2⟩ := h6 q
    have e2 : M.1 3 k = g.2.1 := e2
    rw [e2, q2, phi_t (by omega)]
  · rw [if_pos q] at h7
    obtain ⟨s, q1, q2⟩ := h7
    have e3 : M.1 4 k = g.2.2 := e3
    rw [e3, q2, phi_t (by omega)]
theorem told_of (h : hsS A a) : toldV A a := ⟨a.toInt.toNat, by omega, by rw [← Int32.toInt_inj, jn_toInt (by have := a.toInt_lt; omega)]; omega⟩
/-- what a whole run comes to -/
def GoX (A : AT) (V : Int32 → Prop) (M : PM) (p : Nat) (t : Tm) (x : PO) (o : RnR) : Prop := ∃ M', Kx 0 (if o.2.2.2.2 = true then 0 else 2120) M M' ∧ RX A M' ∧ TBx A V M' ∧ (match o with
  | (none, q) => x = rI (if q.2.2.2 = true then jz 2 else jz 1) M'
  | (some u, q) => ∃ p' top', x = rI (jn p') M' ∧ XF A V q 0 top' M' ∧ At (M'.1 7) p' (en u) ∧ (p' = p ∧ u = t ∨ p' = 2120))
theorem x_goX {p bb r : Nat} {t : Tm} (hdd : 12 ≤ dd) (hA : AOk A) (hV : GOk V (okR A) (gM A)) (hT : TBx A V M) (h : RX A M) (hw : V w) (ht : wf t) (hs : sz t ≤ 40) (hat : At (M.1 7) p (en t)) (hp : p + sz t ≤ 2120) (hb : bb ≤ 600) (hr : r ≤ 40) (h12 : M.1 29 12 = jn bb) (h13 : M.1 29 13 = jn r) : GoX A V M p t (pcl GG lay (dd + 1) 200 [.ref 29, .int (jn (phi w)), .int (jn p)] M) (rnA A w t bb r) := by
  obtain ⟨d, rfl⟩ := ex_add (show 1 ≤ dd by omega)
  rw [q_200, wr_e, wr_e, wr_e, q_255, wr_e, kV_r]
  generalize hM4 : sI (sI (sI (sI M 29 _) 29 _) 29 _) 30 _ = M4
  have f4 : Fr [29, 30] M M4 := by rw [← hM4]; exact (((Fr.sI (by decide)).trans (Fr.sI (by decide))).trans (Fr.sI (by decide))).trans (Fr.sI (by decide))
  have a29 : M4.1 29 = va_up (va_up (va_up (M.1 29) 11 (jn 0)) 14 (jn 2120)) 16 (jn 0) := by rw [← hM4]; rfl
  have a30 : M4.1 30 2 = jn 0 := by rw [← hM4]; rfl
  clear hM4
  have hR4 : RX A M4 := RX_sw hA h (f4.mono (by decide)) (fun _ _ => by rw [f4.1 7 (by decide)])
  have hT4 : TBx A V M4 := TBx_sw hT (f4.mono (by decide))
  have k4 : ∀ b, Kx 0 b M M4 := fun b => Kx.of f4 (by decide)
  have hX : XF A V (stQ bb r) 0 2120 M4 := by
    refine ⟨hR4, hT4, ⟨?_, ?_, ?_, ?_, ?_, ?_⟩, fun k x hx => by simp at hx⟩
    · rw [a29, up_at, if_neg (by omega), up_at, if_neg (by omega), up_at, if_pos rfl]
    · rw [a29, up_at, if_neg (by omega), up_at, if_neg (by omega), up_at, if_neg (by omega)]; exact h12
    · rw [a29, up_at, if_neg (by omega), up_at, if_neg (by omega), up_at, if_neg (by omega)]; exact h13
    · rw [a29, up_at, if_neg (by omega), up_at, if_pos rfl]
    · rw [a29, up_at, if_pos rfl]
    · exact a30
  have hg : pcl GG lay d 66 [.ref 36, .int (jz 1), .int (jn 0)] M4 = rV (sI M4 36 (M4.1 36)) := by
    obtain ⟨d, rfl⟩ := ex_add (show 1 ≤ d by omega)
    rw [q_66, if_pos (by rw [jz_lt_jn (by omega) (by omega)]; trivial), sI_self]
  obtain ⟨a1, a2⟩ := x_ask (d := d) (x := phi w) (p := p) (P := Int64.ofNat 0) (st := jn 0) (l1 := jz 1) (by omega) hA hX (Nat.zero_le _) hb hg
  by_cases h6 : bb = 600
  · obtain ⟨M5, e1, e2, e3, e4, e5⟩ := a1 h6
    have eo : rnA A w t bb r = ovr (stQ bb r) := runF_600 h6
    rw [e1, kV_r, show (jn 0) = jn 0 from rfl, over_x e4, eo]
    exact ⟨M5, (k4 0).trans ⟨e5.mono (by decide), fun j hj => absurd hj (Nat.not_lt_zero _), fun j hj => absurd hj (Nat.not_lt_zero _)⟩, e2, e3, by simp only [if_true]⟩
  obtain ⟨M5, e1, e2, e3, e33, e34, e35, e36, e38, e39⟩ := a2 (by show bb < 600; omega)
  have k5 : ∀ b, Kx 0 b M4 M5 := fun b => ⟨e3.mono (by decide), fun j hj => absurd hj (Nat.not_lt_zero _), fun j hj => by rw [e3.1 7 (by decide)]⟩
  have hXR : XR A V 0 w (Int64.ofNat 0) (stQ bb r) 2120 p t M5 (bgn (stQ bb r)) 2120 p t 0 M5 := by
    refine ⟨e2, ⟨?_, ?_, ?_, ?_, ?_, ?_⟩, ⟨?_, ht, hs⟩, Or.inl ⟨rfl, rfl⟩, ⟨Nat.le_refl _, hp⟩, ⟨⟨by show bb + 1 ≤ 600; omega, (stQ_ok hb hr).2⟩, Nat.le_refl _, Nat.le_refl _, [], by simp⟩, Kx.rf⟩
    · rw [e33, up_at, if_pos rfl]
    · rw [e34, up_at, if_pos rfl]
    · rw [e35, up_at, if_pos rfl]
    · rw [e36, up_at, if_pos rfl]
    · rw [e38, up_at, if_pos rfl]
    · rw [e39, up_at, if_pos rfl]
    · rw [e3.1 7 (by decide), f4.1 7 (by decide)]; exact hat
  have hg2 := Tn_all (u1 := some (.int (jn (phi w)))) (u2 := some (.int (jn p))) (dd := d + 1) hdd hA hV 601 w 0 (Int64.ofNat 0) (stQ bb r) 2120 p t M5 0 0 none hw ⟨stQ_ok hb hr, by show bb < 600; omega, Nat.zero_le _, ⟨ht, hs⟩, hp, Nat.le_refl _, by omega⟩ hXR (by omega) (by omega)
  have eR : runF (gM A) (fM A) 601 w t (Int64.ofNat 0) (stQ bb r) = rnA A w t bb r := rfl
  rw [eR] at hg2
  rw [e1, kV_r]
  have ho := runF_ok hV (fM_ok hA) 601 w hw t (Int64.ofNat 0) (stQ bb r) ht hs (stQ_ok hb hr)
  rw [eR] at ho
  rcases hg2 with ⟨z1, M6, z2, z3, z4, z5⟩ | ⟨z1, k', u4', M6, z2, z3, z4, z5⟩
  · refine ⟨M6, (k4 _).trans ((k5 _).trans ?_), z3, z4, ?_⟩
    · rw [if_pos z1]
      exact ⟨z5, fun j hj => absurd hj (Nat.not_lt_zero _), fun j hj => absurd hj (Nat.not_lt_zero _)⟩
    · rcases e : rnA A w t bb r with ⟨_ | u, q⟩
      · rw [e] at z1
        simp only
        rw [z2, if_pos z1]
      · rw [e] at z1 ho
        have z1 : q.2.2.2 = true := z1
        rw [ho.2.2.1.2.2.2.1] at z1; cases z1
  · have hK : Kx 0 (if (rnA A w t bb r).2.2.2.2 = true then 0 else 2120) M M6 := by
      rw [if_neg (by rw [z1]; simp)]
      exact (k4 _).trans ((k5 _).trans z4)
    have fin : ∀ q top', XF A V q 0 top' M6 → k' < 1800 → E_200 (d + 1) (36, [some (.ref 29), some (.int (jn (phi w))), some (.int (jn p)), some (.int (jn k')), u4'], [], M6) = rI (M6.1 29 15) M6 := by
      intro q top' hX hk
      obtain ⟨h11, -, -, -, h16, -⟩ := hX.2.2.1
      rw [h_200_36, h11, h16, ilt_pos hk (by omega), ilt_neg (by omega) (by omega), ieq_pos rfl, ilt_neg (by omega) (by omega)]
    rcases e : rnA A w t bb r with ⟨_ | u, q⟩
    · rw [e] at z1 z3 z5 hK ho
      have z1 : q.2.2.2 = false := z1
      have z3 : k' + 0 + 1 ≤ 3 * q.1 := z3
      have q1 : q.1 ≤ 600 := by
        rcases ho with ho | ho
        · rw [z1] at ho; cases ho
        · exact ho.1.1
      obtain ⟨y1, y2⟩ := z5
      refine ⟨M6, hK, y1.1, y1.2.1, ?_⟩
      simp only
      rw [z2, fin q _ y1 (by omega), y2, if_neg (by rw [z1]; simp)]
    · rw [e] at z1 z3 z5 hK ho
      have z3 : k' + 0 + 1 ≤ 3 * q.1 := z3
      have q1 := ho.2.2.1.1
      obtain ⟨p', top', y1, y2, y3, y4⟩ := z5
      refine ⟨M6, hK, y1.1, y1.2.1, p', top', ?_, y1, y3, ?_⟩
      · rw [z2, fin q _ y1 (by omega), y2]
      · rcases y4 with ⟨y4, y5, -⟩ | ⟨y4, -⟩
        · exact Or.inl ⟨y4, y5⟩
        · exact Or.inr y4
theorem x_cnt0 (hd : 1 ≤ d) (hA : AOk A) (h : RX A M) : ∃ M', pcl GG lay d 199 [.ref 29] M = rV M' ∧ RX A M' ∧ Fr [29] M M' ∧ M'.1 29 12 = jn 0 ∧ M'.1 29 13 = jn 0 := by
  obtain ⟨d, rfl⟩ := ex_add hd
  rw [q_199, wr_e, wr_e]
  have hf : Fr [29] M (sI (sI M 29 (va_up (M.1 29) 12 (jn 0))) 29 (va_up ((sI M 29 (va_up (M.1 29) 12 (jn 0))).1 29) 13 (jn 0))) := (Fr.sI (by decide)).trans (Fr.sI (by decide))
  exact ⟨_, rfl, RX_sw hA h (hf.mono (by decide)) (fun _ _ => rfl), hf, rfl, rfl⟩
theorem Hi_sw (h : Fr swX M M') : Hi M M' := Hi.fr h (by decide)
theorem setTr_x {tr : List (Nat × Int64)} (h : RX A M) (hT : TX 48 2 49 50 tr M') (hf : Fr [48, 49, 50] M M') : RX (setTr A tr) M' := by
  obtain ⟨a, ⟨b1, b2⟩, c, e, f, g⟩ := h
  refine ⟨KX_eq a (hf.1 _ (by decide)) (hf.1 _ (by decide)) (hf.1 _ (by decide)) (hf.1 _ (by decide)) (hf.1 _ (by decide)) (hf.1 _ (by decide)), ⟨?_, fun K hK => KX_eq (b2 K hK) (hf.1 _ (by decide)) (hf.1 _ (by decide)) (hf.1 _ (by decide)) (hf.1 _ (by decide)) (hf.1 _ (by decide)) (hf.1 _ (by decide))⟩, hT, SX_eq e (hf.1 _ (by decide)) (hf.1 _ (by decide)) (hf.2 _ (by decide)), ?_, CX_eq g (hf.1 _ (by decide))⟩
  · rw [hf.1 0 (by decide)]; exact b1
  · rw [hf.1 0 (by decide)]; exact f
/-- the trace is taken from the runner's -/
theorem x_keepT {q : RnS} {top' F : Nat} (hd : 4 ≤ d) (hq : QOk q) (h : XF A V q F top' M) : ∃ M', pcl GG lay d 258 [.ref 48, .ref 30] M = rV M' ∧ Fr [48, 49, 50] M M' ∧ TX 48 2 49 50 q.2.2.1 M' := by
  obtain ⟨d, rfl⟩ := ex_add hd
  have q1 := hq.2.1
  have q2 := hq.2.2.1
  have h30 : M.1 30 2 = jn q.2.2.1.length := h.2.2.1.2.2.2.2.2
  rw [q_258, wr_e, h30]
  have key : ∀ m k M1, k + m = q.2.2.1.length → Fr [49, 50] (sI M 48 (va_up (M.1 48) 2 (jn q.2.2.1.length))) M1 → (∀ j x, j < k → q.2.2.1[j]? = some x → M1.1 49 j = jn x.1 ∧ M1.2 50 j = x.2) → ∃ M', E_258 (d + 3) (10, [some (.ref 48), some (.ref 30), some (.int (jn k))], [], M1) = rV M' ∧ Fr [49, 50] (sI M 48 (va_up (M.1 48) 2 (jn q.2.2.1.length))) M' ∧ ∀ j x, q.2.2.1[j]? = some x → M'.1 49 j = jn x.1 ∧ M'.2 50 j = x.2 := by
    intro m
    induction m with
    | zero =>
      intro k M1 hk hf hj
      have e48 : M1.1 48 2 = jn q.2.2.1.length := by rw [hf.1 48 (by decide), sI_k, up_at, if_pos rfl]
      rw [h_258_10, e48, ilt_neg (by omega) (by omega)]
      refine ⟨M1, rfl, hf, fun j x hx => hj j x ?_ hx⟩
      have := (List.getElem?_eq_some_iff.mp hx).1
      omega
    | succ m ih =>
      intro k M1 hk hf hj
      obtain ⟨x, hxk⟩ : ∃ x, q.2.2.1[k]? = some x := ⟨_, List.getElem?_eq_getElem (by omega)⟩
      obtain ⟨y1, y2⟩ := h.2.2.2 k x hxk
      have e48 : M1.1 48 2 = jn q.2.2.1.length := by rw [hf.1 48 (by decide), sI_k, up_at, if_pos rfl]
      have e30 : M1.1 30 2 = jn q.2.2.1.length := by rw [hf.1 30 (by decide)]; exact h30
      have e31 : M1.1 31 k = jn x.1 := by rw [hf.1 31 (by decide)]; exact y1
      have e32 : M1.2 32 k = x.2 := by rw [hf.2 32 (by decide)]; exact y2
      have e30' : ∀ g, (sI M1 49 g).1 30 2 = jn q.2.2.1.length := fun _ => e30
      have e32' : ∀ g, (sI M1 49 g).2 32 k = x.2 := fun _ => e32
      rw [h_258_10, e48, ilt_pos (by omega) (by omega), q_256, ilt_neg (by omega) (by omega), e30, ilt_pos (by omega) (by omega), c_get (n := 40) (by omega) rfl (by omega) (by omega), kI_r, kI_r, e31, c_put (n := 40) (by omega) rfl (by omega) (by omega), kV_r, q_257, ilt_neg (by omega) (by omega), e30', ilt_pos (by omega) (by omega), c_getL (n := 40) (by omega) rfl (by omega) (by omega), kL_r, kL_r, e32', c_putL (n := 40) (by omega) rfl (by omega) (by omega), kV_r, jn_add]
      refine ih (k + 1) _ (by omega) ((hf.trans (Fr.sI (by decide))).trans (Fr.sL (by decide))) (fun j x' hjk hx' => ?_)
      show va_up (M1.1 49) k (jn x.1) j = _ ∧ va_up (M1.2 50) k x.2 j = _
      rw [up_at, up_at]
      by_cases e : j = k
      · subst e
        rw [hxk] at hx'
        cases hx'
        rw [if_pos rfl, if_pos rfl]; exact ⟨rfl, rfl⟩
      · rw [if_neg e, if_neg e]; exact hj j x' (by omega) hx'
  obtain ⟨M', e1, e2, e3⟩ := key q.2.2.1.length 0 _ (by omega) Fr.rf (fun j x hj => by omega)
  exact ⟨M', e1, (Fr.sI (by decide)).trans (e2.mono (by decide)), by rw [e2.1 48 (by decide), sI_k, up_at, if_pos rfl], e3⟩
theorem x_run (hd : 16 ≤ d) (hA : AOk A) (h : RX A M) : XI (pcl GG lay d 34 [.ref 0, .int a, .int b] M) M (F_run A a b) := by
  obtain ⟨d, rfl⟩ := ex_add (show 2 ≤ d by omega)
  unfold F_run
  rw [q_34, c_hasS (by omega) hA h, kI_r]
  by_cases h1 : hsS A a
  case neg => rw [bI_n h1, ieq_pos rfl, if_pos h1]; exact x_ref (by omega) h (by omega)
  rw [bI_1 h1, ieq_neg (by omega) (by omega) (by omega), if_neg (Classical.not_not.mpr h1), c_hasT (by omega) hA h, kI_r]
  by_cases h2 : hsT A b
  case neg => rw [bI_n h2, ieq_pos rfl, if_pos h2]; exact x_ref (by omega) h (by omega)
  rw [bI_1 h2, ieq_neg (by omega) (by omega) (by omega), if_neg (Classical.not_not.mpr h2)]
  obtain ⟨n, t, rfl, k1, k2, k3, k4, k5⟩ := ts_of hA h2
  have hn : n < (tsA A).length := (List.getElem?_eq_some_iff.mp k1).1
  have hl : (tsA A).length ≤ 24 := hA.1.1.1
  have htv := told_of h1
  obtain ⟨kk, hkk, rfl⟩ := id htv
  have hsl := ss_le hA
  obtain ⟨M1, c1, c2, c3, c4, c5⟩ := x_cnt0 (d := d + 1) (by omega) hA h
  have hta : At (M1.1 7) (40 * n) (en t) := c2.1.2.1 n t k1
  obtain ⟨M2, g1, g2, g3, g4⟩ := x_goX (dd := d) (w := jn kk) (p := 40 * n) (by omega) hA (told_ok hA) (told_tb hA c2) c2 htv k3 k4 hta (by omega) (Nat.zero_le _) (Nat.zero_le _) c4 c5
  rw [phi_t (by omega)] at g4
  have hh : Hi M M2 := (Hi.fr c3 (by decide)).trans (Hi_sw g1.1)
  have ho := rnA_ok (b := 0) (r := 0) hA (okM_t h1) k3 k4 (by omega) (by omega)
  rw [k2, c1, kV_r, c_tp (by omega), kI_r]
  rcases e : rnA A (jn kk) t 0 0 with ⟨_ | u, q⟩
  · rw [e] at g4
    simp only at g4 ⊢
    rw [g4, kI_r]
    by_cases h0 : q.2.2.2 = true
    · rw [if_pos h0, if_pos h0, if_neg (by rw [jz_inj (by omega) (by omega)]; omega), if_pos rfl]
      exact (x_ref (by omega) g2 (by omega)).pre hh
    · rw [if_neg h0, if_neg h0, if_pos rfl]
      exact (x_ref (by omega) g2 (by omega)).pre hh
  · rw [e] at g4 ho
    obtain ⟨p', top', y1, y2, y3, y4⟩ := g4
    have hu := ho.2.1
    have zu := sz_pos u ho.1
    have hp' : p' + sz u ≤ 3760 ∧ p' < 3760 := by rcases y4 with ⟨y4, y5⟩ | y4 <;> omega
    have e5 : M2.1 1 5 = jn (tsA A).length := g2.1.1.1
    rw [y1, kI_r, if_neg (hjz hp'.2), if_neg (by rw [jn_jz (by omega) (by omega)]; exact id), e5]
    simp only
    by_cases h24 : (tsA A).length < 24
    · rw [ilt_pos h24 (by omega), if_pos h24]
      obtain ⟨M3, p1, p2, p3⟩ := x_keepT (d := d + 1) (by omega) ho.2.2.1 y2
      have hR : RX (setTr A q.2.2.1) M3 := setTr_x g2 p3 p2
      rw [p1, kV_r]
      unfold addT
      rw [if_pos (show (tsA (setTr A q.2.2.1)).length < 24 from h24)]
      exact (x_addT (A := setTr A q.2.2.1) (t := u) (by omega) (setTr_ok hA ho.2.2.1) hR h24 ho.1 ho.2.1 (by rw [p2.1 7 (by decide)]; exact y3) hp'.1 (by show 40 * (tsA A).length ≤ p' ∨ _ ≤ 40 * (tsA A).length; rcases y4 with ⟨y4, y5⟩ | y4 <;> omega)).k.pre (hh.trans (Hi.fr p2 (by decide)))
    · rw [ilt_neg (by omega) (by omega), if_neg h24]
      exact (x_ref (by omega) g2 (by omega)).pre hh
theorem x_trial (hd : 16 ≤ d) (hA : AOk A) (h : RX A M) : XI (pcl GG lay d 35 [.ref 0, .int a, .int b, .int c] M) M (F_trial A a b c) := by
  obtain ⟨d, rfl⟩ := ex_add (show 2 ≤ d by omega)
  unfold F_trial
  rw [q_35, c_hasS (by omega) hA h, kI_r]
  by_cases h1 : hsS A a
  case neg => rw [bI_n h1, ieq_pos rfl, if_pos h1]; exact x_ref (by omega) h (by omega)
  rw [bI_1 h1, ieq_neg (by omega) (by omega) (by omega), if_neg (Classical.not_not.mpr h1), c_hasT (by omega) hA h, kI_r]
  by_cases h2 : hsT A b
  case neg => rw [bI_n h2, ieq_pos rfl, if_pos h2]; exact x_ref (by omega) h (by omega)
  rw [bI_1 h2, ieq_neg (by omega) (by omega) (by omega), if_neg (Classical.not_not.mpr h2)]
  by_cases h3 : c < jn 0
  · rw [if_pos h3, if_pos (fun z => by rw [jlt (by omega)] at h3; omega)]; exact x_ref (by omega) h (by omega)
  by_cases h4 : jn 2 < c
  · rw [if_neg h3, if_pos h4, if_pos (fun z => by rw [jgt (by omega)] at h4; omega)]; exact x_ref (by omega) h (by omega)
  rw [if_neg h3, if_neg h4]
  rw [jlt (by omega)] at h3
  rw [jgt (by omega)] at h4
  rw [if_neg (by omega)]
  obtain ⟨n, t, rfl, k1, k2, k3, k4, k5⟩ := ts_of hA h2
  have htv := told_of h1
  obtain ⟨kk, hkk, rfl⟩ := id htv
  have hsl := ss_le hA
  obtain ⟨M1, c1, c2, c3, c4, c5⟩ := x_cnt0 (d := d + 1) (by omega) hA h
  have hta : At (M1.1 7) (40 * n) (en t) := c2.1.2.1 n t k1
  obtain ⟨M2, g1, g2, g3, g4⟩ := x_goX (dd := d) (w := jn kk) (p := 40 * n) (by omega) hA (told_ok hA) (told_tb hA c2) c2 htv k3 k4 hta (by omega) (Nat.zero_le _) (Nat.zero_le _) c4 c5
  rw [phi_t (by omega)] at g4
  have hh : Hi M M2 := (Hi.fr c3 (by decide)).trans (Hi_sw g1.1)
  have ho := rnA_ok (b := 0) (r := 0) hA (okM_t h1) k3 k4 (by omega) (by omega)
  rw [k2, c1, kV_r, c_tp (by omega), kI_r]
  refine ⟨M2, ?_, g2, hh⟩
  rcases e : rnA A (jn kk) t 0 0 with ⟨_ | u, q⟩
  · rw [e] at g4
    simp only at g4
    rw [g4, kI_r]
    unfold trlV
    simp only
    by_cases hc : c = jn 0
    · rw [if_pos hc, if_pos hc]
      by_cases h0 : q.2.2.2 = true
      · rw [if_pos h0, if_pos h0, if_neg (by rw [jz_inj (by omega) (by omega)]; omega), if_pos rfl]
      · rw [if_neg h0, if_neg h0, if_pos rfl]
    · rw [if_neg hc, if_neg hc]
      by_cases h0 : q.2.2.2 = true
      · rw [if_pos h0, if_pos (by rw [jz_lt_jn (by omega) (by omega)]; trivial)]
      · rw [if_neg h0, if_pos (by rw [jz_lt_jn (by omega) (by omega)]; trivial)]
  · rw [e] at g4 ho
    obtain ⟨p', top', y1, y2, y3, y4⟩ := g4
    have hu := ho.2.1
    have zu := sz_pos u ho.1
    have hp' : p' + sz u ≤ 3760 ∧ p' < 3760 := by rcases y4 with ⟨y4, y5⟩ | y4 <;> omega
    have e30 : M2.1 30 2 = jn q.2.2.1.length := y2.2.2.1.2.2.2.2.2
    rw [y1, kI_r]
    unfold trlV
    simp only
    by_cases hc : c = jn 0
    · rw [if_pos hc, if_pos hc, if_neg (hjz hp'.2), if_neg (by rw [jn_jz (by omega) (by omega)]; exact id)]
    · rw [if_neg hc, if_neg hc, ilt_neg (by omega) (by omega), e30]
      by_cases hc1 : c = jn 1
      · rw [if_pos hc1, if_pos hc1, c_sizeAt (by omega) ho.1 y3 hp'.1, kI_r]
      · rw [if_neg hc1, if_neg hc1]
end
