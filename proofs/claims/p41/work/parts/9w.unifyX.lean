/-! unify by the system -/
section
variable {d n : Nat} {A : AT} {M M' : PM} {a b c e f : Int32} {s t u : Tm} {R : Nat → Nat} {sh : Nat → Option Nat} {N : Nat} {l : List Int32}
noncomputable abbrev muU (s t : Tm) (R : Nat → Nat) (sh : Nat → Option Nat) (N : Nat) : Nat → Tm := fun v => GU s t R sh N (R v)
theorem em_0 (hc : sg c) : emW s t R sh N 0 c = apC (muU s t R sh N) c := by
  unfold emW apC
  by_cases hv : isV c
  · have hE : vE c := Or.inl hv
    have e : vn c = (c.toInt - 117).toNat := if_pos (by omega)
    rw [if_pos hv, if_pos hE, Nat.zero_add, e]
  · rw [if_neg hv, if_neg (by omega)]
theorem em_6 (hc : sg c) : emW s t R sh N 6 c = apC (muU s t R sh N) (apc c) := by
  unfold emW apC
  by_cases hv : isV c
  · have hI := apc_I hv
    have hE : vE (apc c) := by omega
    have e : vn (apc c) = 6 + (c.toInt - 117).toNat := by
      unfold vn
      rw [if_neg (by omega)]; omega
    rw [if_pos hv, if_pos hE, e]
  · rw [if_neg hv, apc_n hv, if_neg (by omega)]
theorem em0_l (h : ∀ c ∈ l, sg c) : l.flatMap (emW s t R sh N 0) = l.flatMap (apC (muU s t R sh N)) := fl_congr (fun c hc => em_0 (h c hc))
theorem em6_l (h : ∀ c ∈ l, sg c) : l.flatMap (emW s t R sh N 6) = (l.map apc).flatMap (apC (muU s t R sh N)) := by
  rw [List.flatMap_map]
  exact fl_congr (fun c hc => em_6 (h c hc))
theorem em0_t (hu : wf u) : (en u).flatMap (emW s t R sh N 0) = en (ap (muU s t R sh N) u) := by rw [em0_l (sg_en u hu), ap_en _ (wfE_of u hu)]
theorem em6_t (hu : wf u) : (en u).flatMap (emW s t R sh N 6) = en (ap (muU s t R sh N) (apt u)) := by rw [em6_l (sg_en u hu), ap_en _ (apt_wf u hu), apt_en]
theorem c_three {p : Nat} (hd : 5 ≤ d) (hu : wf u) (hA : At (M.1 7) p (en u)) (hp : p + sz u ≤ 3760) : pcl GG lay d 41 [.ref 0, .int (jn p)] M = rI (bI (3 < nvr (en u))) M := by
  obtain ⟨d, rfl⟩ := ex_add (show 1 ≤ d by omega)
  have nv6 : nvr (en u) ≤ 6 := cntP_le _ 6
  rw [q_41, c_vars (by omega) hu hA hp, kI_r, c_bits (by omega), kI_r]
  by_cases h3 : 3 < nvr (en u)
  · rw [ilt_pos h3 (by omega), rZ_1, bI_1 h3]
  · rw [ilt_neg (by omega) (by omega), rZ_0, bI_n h3]
theorem NSx_0 (h46 : ∀ x, x < 92 → M.1 46 x = jn 0) (h9 : M.1 40 9 = jn 0) : NSx [] M := ⟨fun v hv => by rw [if_neg (by simp)]; exact h46 v (by omega), h9, by simp, fun c hc => (by cases hc)⟩
theorem WS_no {P c1 c2 : Nat} {n1 n2 : List Int32} (h : WS P c1 n1 0 M) (h2 : WS P c2 n2 1 M) : False := by
  have e1 := h.2.2.1
  have e2 := h2.2.2.1
  rw [e1, jn_inj (by omega) (by omega)] at e2
  omega
theorem x_unify (hd : 14 ≤ d) (hA : AOk A) (h : RX A M) : XI (pcl GG lay d 40 [.ref 0, .int a, .int b] M) M (F_unify A a b) := by
  obtain ⟨d, rfl⟩ := ex_add (show 1 ≤ d by omega)
  unfold F_unify
  rw [q_40, c_hasT (by omega) hA h, kI_r]
  by_cases h1 : hsT A a
  case neg => rw [bI_n h1, ieq_pos rfl, if_pos h1]; exact x_ref (by omega) h (by omega)
  rw [bI_1 h1, ieq_neg (by omega) (by omega) (by omega), if_neg (Classical.not_not.mpr h1), c_hasT (by omega) hA h, kI_r]
  by_cases h2 : hsT A b
  case neg => rw [bI_n h2, ieq_pos rfl, if_pos h2]; exact x_ref (by omega) h (by omega)
  rw [bI_1 h2, ieq_neg (by omega) (by omega) (by omega), if_neg (Classical.not_not.mpr h2)]
  obtain ⟨n, s, rfl, k1, k2, k3, k4, k5⟩ := ts_of hA h1
  obtain ⟨n', t, rfl, i1, i2, i3, i4, i5⟩ := ts_of hA h2
  have hs7 : At (M.1 7) (40 * n) (en s) := h.1.2.1 n s k1
  have ht7 : At (M.1 7) (40 * n') (en t) := h.1.2.1 n' t i1
  rw [k2, i2, c_tp (by omega), kI_r, c_tp (by omega), kI_r, c_three (by omega) k3 hs7 (by omega), kI_r]
  by_cases h3 : 3 < nvr (en s)
  · rw [bI_1 h3, ieq_neg (by omega) (by omega) (by omega), if_pos h3]; exact x_ref (by omega) h (by omega)
  rw [bI_n h3, ieq_pos rfl, if_neg h3, c_three (by omega) i3 ht7 (by omega), kI_r]
  by_cases h4 : 3 < nvr (en t)
  · rw [bI_1 h4, ieq_neg (by omega) (by omega) (by omega), if_pos h4]; exact x_ref (by omega) h (by omega)
  rw [bI_n h4, ieq_pos rfl, if_neg h4]
  have zs := sz_pos s k3
  rcases c_unif (d := d) (M := M) (node := 0) (by omega) k3 i3 k4 i4 hs7 (by omega) ht7 (by omega) zs with ⟨M1, R, sh, N, S, g1, g2, g3, g4, g5, g6, g7⟩ | ⟨M1, g1, g2, g3⟩
  · rw [sub_0] at g3
    have g3 : Mgu (muU s t R sh N) s (apt t) := g3
    obtain ⟨m0, hm0, hmg0⟩ := mgO_of g3
    obtain ⟨M2, p1, p2, p3, p4⟩ := c_place (d := d) (P' := 2000) (by omega) g7 (NSx_0 g5 g6)
    have hw2 : WU s t R sh N S M2 := g4.fr (p3.mono (by decide)) (p4 8 (by omega) (by omega))
    have e7 : M2.1 7 = M.1 7 := by rw [p3.1 7 (by decide), g2.1 7 (by decide)]
    have hs72 : At (M2.1 7) (40 * n) (en s) := by rw [e7]; exact hs7
    have ls : (en s).length = sz s := rfl
    obtain ⟨M3, w1, w2, -, w3⟩ := c_on (d := d) (P := 2000) (cnt := 0) (nm := []) (l := []) (M := M2) (M1 := M2) (p := 40 * n) (raw := en s) (b := 0) (by omega) (by omega) k3 i3 k4 i4 (by omega) (sg_en s k3) (by omega) hs72 (Or.inl (WR.nil p2)) hw2
    have w2 := w2 (WR.nil p2)
    rw [List.nil_append, em0_t k3] at w2
    rw [ls] at w1
    have hszE : sz (ap m0 s) = sz (ap (muU s t R sh N) s) := mg_sz g3 hmg0 (wfE_of s k3)
    have hoE : (o1 m0 s).1 = (o1 (muU s t R sh N) s).1 := o1_same g3 hmg0 (wfE_of s k3)
    have hf3 : Fr (7 :: scX) M M3 := (g2.mono (by decide)).trans ((p3.mono (by decide)).trans (w3.1.mono (by decide)))
    have hR3 : RX A M3 := RX_sc hA.1 h hf3 (fun i hi => by rw [w3.2.1 i (by omega), e7])
    have hH3 : Hi M M3 := Hi.fr hf3 (by decide)
    rw [hm0, g1, kI_r, ieq_neg (by omega) (by omega) (by omega), p1, kV_r, c_end (by omega) k3 hs72 (by omega), kI_r, w1, kV_r]
    simp only
    rw [hszE, hoE]
    have hlen : (en (ap (muU s t R sh N) s)).length = sz (ap (muU s t R sh N) s) := rfl
    rcases w2.2 with ⟨q1, q2, q3, -⟩ | ⟨q1, c2, n2, q2⟩
    · rw [hlen] at q1
      rw [q2.2.2.1, ieq_pos rfl, if_neg (by omega)]
      obtain ⟨y1, y2, y3⟩ := treeOf_ok (un_tree k3 i3 (by omega) (by omega) g3 (by omega))
      exact (x_newT (by omega) hA hR3 y1 y3 (p := 2000) (by rw [y2]; exact q3) (by omega) (by omega)).k.pre hH3
    · rw [hlen] at q1
      rw [q2.2.2.1, ieq_neg (by omega) (by omega) (by omega), if_pos (by omega)]
      exact (x_ref (by omega) hR3 (by omega)).pre hH3
  · rw [sub_0] at g3
    have hf1 : Fr (7 :: scX) M M1 := g2.mono (by decide)
    have hR1 : RX A M1 := RX_sc hA.1 h hf1 (fun i hi => by rw [g2.1 7 (by decide)])
    rw [mgO_none g3, g1, kI_r, ieq_pos rfl]
    exact (x_ref (by omega) hR1 (by omega)).pre (Hi.fr hf1 (by decide))
end
