/-! same by the system: the whole table -/
section
variable {d : Nat} {A : AT} {M : PM} {a b c e f : Int32} {v : Int64}
theorem c_fillL {x n : Nat} {w : Int64} (hd : 1 ≤ d) (hx : lay[x]? = some (.inr (true, n))) (hn : n < 1000000) : pcl GG lay d 275 [.ref x, .long w] M = rV (sL M x (fun i => if i < n then w else M.2 x i)) := by
  obtain ⟨d, rfl⟩ := ex_add hd
  rw [q_275, alen_n hx, oB_s]
  have key : ∀ m k g, k + m = n → (∀ i, g i = if i < k then w else M.2 x i) → E_275 d (6, [some (.ref x), some (.long w), none, some (.int (jn k)), some (.int (jn n))], [], sL M x g) = rV (sL M x (fun i => if i < n then w else M.2 x i)) := by
    intro m
    induction m with
    | zero =>
      intro k g hk hg
      rw [h_275_6, ilt_neg (by omega) (by omega)]
      have : g = (fun i => if i < n then w else M.2 x i) := by
        funext i
        rw [hg i, show k = n by omega]
      rw [this]
    | succ m ih =>
      intro k g hk hg
      rw [h_275_6, ilt_pos (by omega) (by omega), ast_l hx (by omega) (by omega), oB_s, sL_sL, sL_k, jn_add]
      refine ih (k + 1) _ (by omega) (fun i => ?_)
      rw [up_at]
      by_cases hi : i = k
      · rw [if_pos hi, if_pos (by omega)]
      · rw [if_neg hi, hg i]
        by_cases h2 : i < k
        · rw [if_pos h2, if_pos (by omega)]
        · rw [if_neg h2, if_neg (by omega)]
  have := key n 0 (M.2 x) (by omega) (fun i => by rw [if_neg (by omega)])
  rw [sL_self] at this
  exact this
def Tb (cm : Nat) (t u : Tm) (g : Nat → Int64) (i jj : Nat) : Prop := ∀ i' j', i' < sz t → j' < sz u → tb (g i') j' = (decide (i < i' ∨ i' = i ∧ jj ≤ j') && eqv (cmB cm) (sub t i') (sub u j'))
theorem x_table {cm P Q : Nat} {t u : Tm} (hd : 6 ≤ d) (hcm : cm < 16) (ht : wf t) (hu : wf u) (hts : sz t ≤ 40) (hus : sz u ≤ 40) (hta : At (M.1 7) P (en t)) (hua : At (M.1 7) Q (en u)) (hP : P + sz t ≤ 3760) (hQ : Q + sz u ≤ 3760) :
    ∃ M', pcl GG lay d 180 [.ref 24, .int (jn P), .int (jn Q), .int (jn cm)] M = rI (bI (eqv (cmB cm) t u = true)) M' ∧ Fr [24, 25] M M' := by
  obtain ⟨d, rfl⟩ := ex_add hd
  have zt := sz_pos t ht
  have zu := sz_pos u hu
  rw [q_180, wr_e, wr_e, c_fillL (n := 40) (by omega) rfl (by omega), kV_r]
  have hf0 : Fr [24, 25] M (sL (sI (sI M 24 (va_up (M.1 24) 2 (jn P))) 24 (va_up ((sI M 24 (va_up (M.1 24) 2 (jn P))).1 24) 3 (jn Q))) 25 (fun i => if i < 40 then Int64.ofNat 0 else (sI (sI M 24 (va_up (M.1 24) 2 (jn P))) 24 (va_up ((sI M 24 (va_up (M.1 24) 2 (jn P))).1 24) 3 (jn Q))).2 25 i)) := ((Fr.sI (by decide)).trans (Fr.sI (by decide))).trans (Fr.sL (by decide))
  have hz : ∀ i, i < 40 → (sL (sI (sI M 24 (va_up (M.1 24) 2 (jn P))) 24 (va_up ((sI M 24 (va_up (M.1 24) 2 (jn P))).1 24) 3 (jn Q))) 25 (fun i => if i < 40 then Int64.ofNat 0 else (sI (sI M 24 (va_up (M.1 24) 2 (jn P))) 24 (va_up ((sI M 24 (va_up (M.1 24) 2 (jn P))).1 24) 3 (jn Q))).2 25 i)).2 25 i = Int64.ofNat 0 := fun i hi => by rw [sL_k, if_pos hi]
  have h2 : (sL (sI (sI M 24 (va_up (M.1 24) 2 (jn P))) 24 (va_up ((sI M 24 (va_up (M.1 24) 2 (jn P))).1 24) 3 (jn Q))) 25 (fun i => if i < 40 then Int64.ofNat 0 else (sI (sI M 24 (va_up (M.1 24) 2 (jn P))) 24 (va_up ((sI M 24 (va_up (M.1 24) 2 (jn P))).1 24) 3 (jn Q))).2 25 i)).1 24 2 = jn P := rfl
  have h3 : (sL (sI (sI M 24 (va_up (M.1 24) 2 (jn P))) 24 (va_up ((sI M 24 (va_up (M.1 24) 2 (jn P))).1 24) 3 (jn Q))) 25 (fun i => if i < 40 then Int64.ofNat 0 else (sI (sI M 24 (va_up (M.1 24) 2 (jn P))) 24 (va_up ((sI M 24 (va_up (M.1 24) 2 (jn P))).1 24) 3 (jn Q))).2 25 i)).1 24 3 = jn Q := rfl
  have h7 : (sL (sI (sI M 24 (va_up (M.1 24) 2 (jn P))) 24 (va_up ((sI M 24 (va_up (M.1 24) 2 (jn P))).1 24) 3 (jn Q))) 25 (fun i => if i < 40 then Int64.ofNat 0 else (sI (sI M 24 (va_up (M.1 24) 2 (jn P))) 24 (va_up ((sI M 24 (va_up (M.1 24) 2 (jn P))).1 24) 3 (jn Q))).2 25 i)).1 7 = M.1 7 := rfl
  generalize (sL (sI (sI M 24 (va_up (M.1 24) 2 (jn P))) 24 (va_up ((sI M 24 (va_up (M.1 24) 2 (jn P))).1 24) 3 (jn Q))) 25 (fun i => if i < 40 then Int64.ofNat 0 else (sI (sI M 24 (va_up (M.1 24) 2 (jn P))) 24 (va_up ((sI M 24 (va_up (M.1 24) 2 (jn P))).1 24) 3 (jn Q))).2 25 i)) = M0 at *
  rw [c_sizeAt (by omega) hu (by rw [h7]; exact hua) (by omega), kI_r, c_sizeAt (by omega) ht (by rw [h7]; exact hta) (by omega), kI_r, show jn (sz t) - jn 1 = jn (sz t) + jz 1 by rw [jn_sub (by omega), jn_addz (by omega)]]
  have inner : ∀ i, i < sz t → ∀ jj g, jj ≤ sz u → Tb cm t u g i jj → ∃ g' l6', E_180 (d + 5) (51, [some (.ref 24), some (.int (jn P)), some (.int (jn Q)), some (.int (jn cm)), some (.int (jn (sz u))), some (.int (jn i)), some (.int (jn jj + jz 1))], [], sL M0 25 g) = E_180 (d + 5) (40, [some (.ref 24), some (.int (jn P)), some (.int (jn Q)), some (.int (jn cm)), some (.int (jn (sz u))), some (.int (jn i + jz 1)), l6'], [], sL M0 25 g') ∧ Tb cm t u g' i 0 := by
    intro i hi jj
    induction jj with
    | zero =>
      intro g _ hT
      rw [h_180_51, if_pos (pred_lt (P := 0) (by omega))]
      exact ⟨g, _, rfl, hT⟩
    | succ j ih =>
      intro g hj hT
      have ai := sub_at ht hi hta
      have aj := sub_at hu (show j < sz u by omega) hua
      have wi := sub_wf ht hi
      have wj := sub_wf hu (show j < sz u by omega)
      have e7 : (sL M0 25 g).1 7 = M.1 7 := h7
      obtain ⟨c1, x1, y1, ei, hci⟩ := wf_cases wi
      obtain ⟨c2, x2, y2, ej, hcj⟩ := wf_cases wj
      have hc1 : M.1 7 (P + i) = c1 := by rw [ei, en_n] at ai; exact ai.1
      have hc2 : M.1 7 (Q + j) = c2 := by rw [ej, en_n] at aj; exact aj.1
      rw [h_180_51, show jn (j + 1) + jz 1 = jn j by rw [jn_addz (by omega)]; congr 1, ilt_neg (by omega) (by omega), jn_add, c_at (by omega) (by omega), kI_r, jn_add, c_at (by omega) (by omega), kI_r, e7, hc1, hc2]
      have stay : eqv (cmB cm) (sub t i) (sub u j) = false → Tb cm t u g i j := by
        intro hq i' j' hi' hj'
        rw [hT i' j' hi' hj']
        by_cases h : i' = i ∧ j' = j
        · rw [h.1, h.2, hq, Bool.and_false, Bool.and_false]
        · congr 1
          exact decide_eq_decide.mpr ⟨fun z => by omega, fun z => by omega⟩
      by_cases hcc : c1 = c2
      case neg =>
        rw [if_neg hcc]
        exact ih g (by omega) (stay (by rw [ei, ej, eqv_n, if_neg hcc]))
      subst hcc
      rw [if_pos rfl, c_ask (d := d + 5) (M := sL M0 25 g) (by omega) hcm ht hu hts hus (by rw [e7]; exact hta) (by rw [e7]; exact hua) hP hQ h2 h3 hi (show j < sz u by omega) ei ej (fun i' j' h1 h2' h3' => by
        rw [sL_k, hT i' j' h2' h3', decide_eq_true (Or.inl h1), Bool.true_and]), kI_r]
      by_cases hq : eqv (cmB cm) (sub t i) (sub u j) = true
      case neg =>
        rw [bI_n hq, ieq_pos rfl]
        exact ih g (by omega) (stay (by simpa using hq))
      rw [bI_1 hq, ieq_neg (by omega) (by omega) (by omega), c_getL (n := 40) (by omega) rfl (by omega) (by omega), kL_r, c_putL (n := 40) (by omega) rfl (by omega) (by omega), kV_r, sL_sL, sL_k]
      refine ih _ (by omega) (fun i' j' hi' hj' => ?_)
      rw [up_at]
      by_cases h : i' = i
      · rw [if_pos h, tb_or, bitL_tb j (by omega) j' (by omega)]
        have := hT i (j') hi hj'
        rw [this, h]
        by_cases hjj : j' = j
        · rw [hjj, decide_eq_true rfl, Bool.or_true, hq, decide_eq_true (Or.inr ⟨rfl, Nat.le_refl _⟩)]; rfl
        · rw [decide_eq_false hjj, Bool.or_false]
          congr 1
          exact decide_eq_decide.mpr ⟨fun z => by omega, fun z => by omega⟩
      · rw [if_neg h, hT i' j' hi' hj']
        congr 1
        exact decide_eq_decide.mpr ⟨fun z => by omega, fun z => by omega⟩
  have outer : ∀ ii g u6, ii ≤ sz t → (∀ i' j', i' < sz t → j' < sz u → tb (g i') j' = (decide (ii ≤ i') && eqv (cmB cm) (sub t i') (sub u j'))) → ∃ g', E_180 (d + 5) (40, [some (.ref 24), some (.int (jn P)), some (.int (jn Q)), some (.int (jn cm)), some (.int (jn (sz u))), some (.int (jn ii + jz 1)), u6], [], sL M0 25 g) = rI (bI (eqv (cmB cm) t u = true)) (sL M0 25 g') := by
    intro ii
    induction ii with
    | zero =>
      intro g u6 _ hT
      have := hT 0 0 zt zu
      rw [decide_eq_true (Nat.zero_le _), Bool.true_and, sub_0, sub_0] at this
      rw [h_180_40, if_pos (pred_lt (P := 0) (by omega)), c_bit (by omega) (by omega) (by omega), kI_r, rZ_b, sL_k, this]
      exact ⟨g, rfl⟩
    | succ i ih =>
      intro g u6 hi hT
      rw [h_180_40, show jn (i + 1) + jz 1 = jn i by rw [jn_addz (by omega)]; congr 1, ilt_neg (by omega) (by omega), show jn (sz u) - jn 1 = jn (sz u) + jz 1 by rw [jn_sub (by omega), jn_addz (by omega)]]
      obtain ⟨g', l6', e1, e2⟩ := inner i (by omega) (sz u) g (Nat.le_refl _) (fun i' j' hi' hj' => by
        rw [hT i' j' hi' hj']
        congr 1
        exact decide_eq_decide.mpr ⟨fun z => by omega, fun z => by omega⟩)
      rw [e1]
      refine ih g' l6' (by omega) (fun i' j' hi' hj' => ?_)
      rw [e2 i' j' hi' hj']
      congr 1
      exact decide_eq_decide.mpr ⟨fun z => by omega, fun z => by omega⟩
  obtain ⟨g', e1⟩ := outer (sz t) (M0.2 25) none (Nat.le_refl _) (fun i' j' hi' hj' => by
    rw [hz i' (by omega), tb_0, decide_eq_false (by omega), Bool.false_and])
  rw [sL_self] at e1
  exact ⟨_, e1, hf0.trans (Fr.sL (by decide))⟩
theorem x_same (hd : 60 ≤ d) (hA : AOk A) (h : RX A M) : XI (pcl GG lay d 19 [.ref 0, .int a, .int b] M) M (F_same A a b) := by
  obtain ⟨d, rfl⟩ := ex_add hd
  unfold F_same
  rw [q_19, c_hasT (by omega) hA h, kI_r]
  by_cases h1 : hsT A a
  case neg => rw [bI_n h1, ieq_pos rfl, if_pos h1]; exact x_ref (by omega) h (by omega)
  rw [bI_1 h1, ieq_neg (by omega) (by omega) (by omega), if_neg (Classical.not_not.mpr h1), c_hasT (by omega) hA h, kI_r]
  by_cases h2 : hsT A b
  case neg => rw [bI_n h2, ieq_pos rfl, if_pos h2]; exact x_ref (by omega) h (by omega)
  rw [bI_1 h2, ieq_neg (by omega) (by omega) (by omega), if_neg (Classical.not_not.mpr h2)]
  obtain ⟨n, t, rfl, g1, g2, g3, g4, g5⟩ := ts_of hA h1
  obtain ⟨m, u, rfl, k1, k2, k3, k4, k5⟩ := ts_of hA h2
  have e1 : At (M.1 7) (40 * n) (en t) := h.1.2.1 n t g1
  have e2 : At (M.1 7) (40 * m) (en u) := h.1.2.1 m u k1
  have e8 : M.1 1 8 = jn (cmA A) := h.1.1.2.2.2.1
  rw [g2, k2, c_tp (by omega), kI_r, c_tp (by omega), kI_r, c_alike2 (by omega) g3 k3 e1 e2 g4 (by omega) (by omega), kI_r]
  by_cases hs : en t = en u
  · rw [bI_1 hs, ieq_neg (by omega) (by omega) (by omega), if_pos hs]
    exact ⟨M, rfl, h, Hi.rf⟩
  rw [bI_n hs, ieq_pos rfl, if_neg hs, c_tp (by omega), kI_r, c_tp (by omega), kI_r, e8]
  obtain ⟨M', f1, f2⟩ := x_table (d := d + 59) (M := M) (cm := cmA A) (P := 40 * n) (Q := 40 * m) (by omega) hA.1.2.2.2 g3 k3 g4 k4 e1 e2 (by omega) (by omega)
  have hR : RX A M' := RX_sc hA.1 h (f2.mono (by decide)) (fun i _ => by rw [f2.1 7 (by decide)])
  rw [f1, kI_r]
  by_cases hq : eqv (cmB (cmA A)) t u = true
  · rw [bI_1 hq, ieq_neg (by omega) (by omega) (by omega), if_pos hq]
    exact ⟨M', rfl, hR, Hi.fr f2 (by decide)⟩
  · rw [bI_n hq, ieq_pos rfl, if_neg hq]
    exact ⟨M', rfl, hR, Hi.fr f2 (by decide)⟩
end
