/-! term, both sides -/
section
variable {d : Nat} {A : AT} {M : PM} {a b c e f : Int32} {v : Int64}
theorem read_x {s : Nat} {f : Nat → Int32} (hs8 : s < 8) (hn : siz A s ≤ 160) (hI : ∀ M', Fr [7, 19, 20] M M' → ∀ i, i < siz A s → pcl GG lay (d + 5) 226 [.ref 15, .int (jn s), .int (jn i)] M' = rI (rowI A s i) M') : ∀ m i st M', i + m = siz A s → rdI st → rdX M' st f → Fr [7, 19, 20] M M' → ∃ M2, Fr [7, 19, 20] M M2 ∧ (∀ i, i < 1920 → M2.1 7 i = f i) ∧
    (match rdR (rowI A s) m i st with
      | .inl k => k ≤ siz A s ∧ E_196 (d + 5) (25, [some (.ref 19), some (.int (jn s)), some (.int (jn 1920)), some (.int (jn (siz A s))), some (.int (jn st.1)), some (.int (jn i))], [], M') = rI (jn k) M2
      | .inr o => E_196 (d + 5) (25, [some (.ref 19), some (.int (jn s)), some (.int (jn 1920)), some (.int (jn (siz A s))), some (.int (jn st.1)), some (.int (jn i))], [], M') = rI (jz 1) M2 ∧ At (M2.1 7) 1920 o) := by
  intro m
  induction m with
  | zero =>
    intro i st M' hi hst hX hf
    refine ⟨M', hf, hX.2.2.2.2, ?_⟩
    unfold rdR
    rw [h_196_25, ilt_neg (by omega) (by omega), hX.1]
    obtain ⟨w, k, o⟩ := st
    have hw := hst.1
    have hk : k.length ≤ o.length := hst.2.1
    have ho : o.length ≤ 40 := hst.2.2.1
    simp only at hw ⊢
    by_cases h2 : w = 2
    · rw [ieq_pos h2]
      by_cases hk0 : k = []
      · subst hk0
        rw [if_pos ⟨h2, rfl⟩]
        exact ⟨ieq_pos rfl, hX.2.2.2.1⟩
      · rw [if_neg (fun q => hk0 q.2), ieq_neg (by cases k with | nil => exact absurd rfl hk0 | cons _ _ => simp) (by omega) (by omega)]
        have : i = siz A s := by omega
        subst this
        exact ⟨by omega, rfl⟩
    · rw [ieq_neg h2 (by omega) (by omega), if_neg (fun q => h2 q.1)]
      have : i = siz A s := by omega
      subst this
      exact ⟨by omega, rfl⟩
  | succ m ih =>
    intro i st M' hi hst hX hf
    obtain ⟨M2, n1, n2, n3⟩ := next_x (d := d + 5) (c := rowI A s i) (by omega) hst rfl hX
    rw [h_196_25, ilt_pos (by omega) (by omega), hI M' hf i (by omega), kI_r, jn_add]
    unfold rdR
    cases hq : rdS st (rowI A s i) with
    | none =>
      rw [hq] at n3
      simp only at n3 ⊢
      exact ⟨M2, hf.trans n1, n2, by omega, by rw [n3, kI_r, if_pos rfl]⟩
    | some st' =>
      rw [hq] at n3
      simp only at n3 ⊢
      have hst' := rdI_step hst hq
      have hw' : st'.1 ≤ 2 := hst'.1
      obtain ⟨M3, f1, f2, f3⟩ := ih (i + 1) st' M2 (by omega) hst' n3.2 (hf.trans n1)
      refine ⟨M3, f1, f2, ?_⟩
      rw [n3.1, kI_r, if_neg (by rw [jn_jz (by omega) (by omega)]; exact id)]
      exact f3
theorem setF_x {A : AT} {M M' : PM} {x : Int32} (hA : AOk A) (h : RX A M) (h0 : M'.1 0 = va_up (M.1 0) 13 x) (hf : Fr (0 :: 7 :: scX) M M') (h7 : ∀ i, i < 1920 → M'.1 7 i = M.1 7 i) : RX (setF A x) M' := by
  obtain ⟨a, ⟨b1, b2⟩, c, e, f, g⟩ := h
  refine ⟨?_, ⟨?_, fun K hK => ?_⟩, ?_, ?_, ?_, ?_⟩
  · refine KX_congr hA.1 a (fun j _ _ => by rw [hf.1 1 (by decide)]) (fun i _ => ?_) h7
    rw [hf.1 (1 + 1) (by decide), hf.1 (1 + 2) (by decide), hf.1 (1 + 3) (by decide), hf.1 (1 + 4) (by decide)]
    exact ⟨rfl, rfl, rfl, rfl⟩
  · rw [h0, up_at, if_neg (by omega)]; exact b1
  · exact KX_eq (b2 K hK) (hf.1 _ (by decide)) (hf.1 _ (by decide)) (hf.1 _ (by decide)) (hf.1 _ (by decide)) (hf.1 _ (by decide)) (hf.1 _ (by decide))
  · exact TX_eq c (by rw [hf.1 48 (by decide)]) (hf.1 _ (by decide)) (hf.2 _ (by decide))
  · exact SX_eq e (hf.1 _ (by decide)) (hf.1 _ (by decide)) (hf.2 _ (by decide))
  · rw [h0, up_at, if_pos rfl]; rfl
  · exact CX_eq g (hf.1 _ (by decide))
theorem setF_m {A : AT} {M M' : PM} {x : Int32} (h : RM A M) (h16 : M'.1 52 16 = x) (hf : Fr (52 :: scM) M M') (h52 : ∀ j, j ∈ scN → j ≠ 16 → M'.1 52 j = M.1 52 j) : RM (setF A x) M' := by
  obtain ⟨a, ⟨b1, b2⟩, c, e, f, g⟩ := h
  refine ⟨?_, ⟨?_, fun K hK => ?_⟩, ?_, ?_, ?_, ?_⟩
  · exact KM_eq a (fun j hj => h52 j (by revert j hj; decide) (by revert j hj; decide)) (fun k hk => hf.1 k (by revert k hk; decide))
  · rw [h52 48 (by decide) (by decide)]; exact b1
  · exact KM_eq (b2 K hK) (fun j hj => h52 j (by revert j hj; decide) (by revert j hj; decide)) (fun k hk => hf.1 k (by revert k hk; decide))
  · exact TX_eq c (h52 35 (by decide) (by decide)) (hf.1 _ (by decide)) (hf.2 _ (by decide))
  · exact SX_eq e (hf.1 _ (by decide)) (hf.1 _ (by decide)) (hf.2 _ (by decide))
  · exact h16
  · exact CX_eq g (hf.1 _ (by decide))
theorem XI.pre {o : PO} {M M' : PM} {ra : Int32 × AT} (h : XI o M' ra) (hh : Hi M M') : XI o M ra := by
  obtain ⟨M2, e1, e2, e3⟩ := h
  exact ⟨M2, e1, e2, hh.trans e3⟩
theorem MI.pre {o : PO} {M M' : PM} {ra : Int32 × AT} (h : MI o M' ra) (hh : Lo M M') : MI o M ra := by
  obtain ⟨M2, e1, e2, e3⟩ := h
  exact ⟨M2, e1, e2, hh.trans e3⟩
theorem XI.k {o : PO} {M : PM} {ra : Int32 × AT} (h : XI o M ra) : XI (kI o fun r M => rI r M) M ra := by
  obtain ⟨M2, e1, e2, e3⟩ := h
  exact ⟨M2, by rw [e1, kI_r], e2, e3⟩
theorem MI.k {o : PO} {M : PM} {ra : Int32 × AT} (h : MI o M ra) : MI (kI o fun r M => rI r M) M ra := by
  obtain ⟨M2, e1, e2, e3⟩ := h
  exact ⟨M2, by rw [e1, kI_r], e2, e3⟩
theorem x_term (hd : 9 ≤ d) (hA : AOk A) (h : RX A M) : XI (pcl GG lay d 12 [.ref 0, .int a] M) M (F_term A a) := by
  obtain ⟨d, rfl⟩ := ex_add hd
  rw [q_12, c_noR (by omega) h, kI_r, ite_nz (noR_lt A a)]
  unfold F_term
  by_cases h0 : noR A a = 0
  case neg => rw [if_neg h0, if_neg h0]; exact x_ref (by omega) h (by have := noR_lt A a; omega)
  rw [if_pos h0, if_pos h0]
  obtain ⟨h1, h2⟩ := noR_0 h0
  obtain ⟨s, hs, rfl⟩ := inn (n := 8) h1
  rw [jnN (by omega)] at *
  have h160 : siz A s ≤ 160 := (hA.2.2.2 s hs).1
  rw [q_196, c_sizeS (by omega) h hs, kI_r, if_pos h2, wr_e, wr_e, sI_sI, sI_k]
  have hM1 : Fr [7, 19, 20] M (sI M 19 (va_up (va_up (M.1 19) 3 (jn 0)) 4 (jn 0))) := Fr.sI (by decide)
  obtain ⟨M2, f1, f2, f3⟩ := read_x (d := d + 2) (A := A) (M := M) (s := s) (f := M.1 7) hs h160 (fun M' hf i hi => by
    have hR : RX A M' ∨ True := Or.inr trivial
    have e16 : M'.1 16 = M.1 16 := hf.1 16 (by decide)
    have e17 : M'.1 17 = M.1 17 := hf.1 17 (by decide)
    have e18 : M'.2 18 = M.2 18 := hf.2 18 (by decide)
    have g : SX 16 17 18 A.2.2.2.1 M' := SX_eq h.2.2.2.1 e16 e17 e18
    have gh : ∀ d, pcl GG lay (d + 2) 218 [.ref 15, .int (jn s)] M' = rI (hel A s) M' := fun d => by
      rw [q_218, c_thr (by omega), kI_r, bI_1 (by rw [thr, jn_toInt (by omega)]; omega), ieq_neg (by omega) (by omega) (by omega), c_get (n := 8) (by omega) rfl hs (by omega), kI_r, (g s hs).1]
    rw [q_226, q_225, ilt_neg (by omega) (by omega), q_222, q_219, gh, kI_r, rZ_0, rZ_1, if_neg (by rw [jlt (by omega)]; omega), kI_r, ieq_neg (by omega) (by omega) (by omega), c_get (n := 8) (by omega) rfl hs (by omega), kI_r, (g s hs).2.1, kI_r]
    have hi2 : i < siz A s := hi
    rw [ilt_pos hi2 (by omega), jn_mul, jn_add, Nat.mul_comm s 160, c_getL (n := 1280) (by omega) rfl (by omega) (by omega), kL_r, kL_r, (g s hs).2.2 i hi]) (siz A s) 0 (0, [], []) (sI M 19 (va_up (va_up (M.1 19) 3 (jn 0)) 4 (jn 0))) (by omega) rdI_0 ⟨by rw [sI_k, up_at, if_neg (by omega), up_at, if_pos rfl]; rfl, by rw [sI_k, up_at, if_pos rfl]; rfl, trivial, trivial, fun _ _ => rfl⟩ hM1
  have hRF : ∀ x, RX (setF A x) (sI M2 0 (va_up (M2.1 0) 13 x)) := fun x => setF_x hA h (by rw [sI_k, f1.1 0 (by decide)]) ((f1.mono (by decide)).trans (Fr.sI (by decide))) (fun i hi => by rw [sI_o _ _ (by omega)]; exact f2 i hi)
  have hHi : ∀ x, Hi M (sI M2 0 (va_up (M2.1 0) 13 x)) := fun x => Hi.fr (S := [0, 7, 19, 20]) ((f1.mono (by decide)).trans (Fr.sI (by decide))) (by decide)
  cases hq : rdR (rowI A s) (siz A s) 0 (0, [], []) with
  | inl k =>
    rw [hq] at f3
    simp only at f3 ⊢
    rw [f3.2, kI_r, wr_e, sI_k, up_at, if_pos rfl, if_neg (by rw [jn_jz (by omega) (by omega)]; exact id)]
    exact (x_ref (by omega) (hRF (jn k)) (by omega)).pre (hHi _)
  | inr o =>
    rw [hq] at f3
    simp only at f3 ⊢
    obtain ⟨w1, w2, w3⟩ := treeOf_ok (rdR_ok _ _ _ _ rdI_0 hq)
    rw [f3.1, kI_r, wr_e, sI_k, up_at, if_pos rfl, if_pos rfl]
    refine (x_newT (A := setF A (jz 1)) (t := treeOf o) (by omega) hA (hRF (jz 1)) w1 w3 ?_ (by omega) (by omega)).k.pre (hHi _)
    rw [sI_o _ _ (by omega), w2]; exact f3.2
/-! the model's reading -/
theorem d_row {s i : Nat} {M : PM} (hd : 1 ≤ d) (h : SX 61 62 63 A.2.2.2.1 M) (hs : s < 8) (hn : siz A s ≤ 160) (hi : i < siz A s) : pcl GG lay d 90 [.ref 52, .int (jn s), .int (jn i)] M = rI (rowI A s i) M := by
  obtain ⟨d, rfl⟩ := ex_add hd
  rw [q_90, jn_mul, jn_add, ald_l (n := 1280) rfl (by omega) (by omega), oB_s, (h s hs).2.2 i hi]
def rdM (M : PM) (s : RS) : Prop := Stk (fun i => M.1 66 i + jn 1) s.2.1 ∧ At (M.1 69) 0 s.2.2
theorem read_m {s : Nat} (hs8 : s < 8) (hn : siz A s ≤ 160) : ∀ m i st M', i + m = siz A s → rdI st → st.1 ≠ 1 → rdM M' st → SX 61 62 63 A.2.2.2.1 M' → ∀ u7, ∃ M2, Fr [52, 66, 69] M' M2 ∧ (∀ j, j ≠ 26 → M2.1 52 j = M'.1 52 j) ∧
    (match rdR (rowI A s) m i st with
      | .inl k => k ≤ siz A s ∧ E_91 (d + 4) (18, [some (.ref 52), some (.int (jn s)), some (.int (jn (siz A s))), some (.int (jn st.2.2.length)), some (.int (jn st.2.1.length)), some (.int (if st.1 = 0 then jn 1 else jn 0)), some (.int (jn i)), u7], [], M') = rI (jn k) M2
      | .inr o => E_91 (d + 4) (18, [some (.ref 52), some (.int (jn s)), some (.int (jn (siz A s))), some (.int (jn st.2.2.length)), some (.int (jn st.2.1.length)), some (.int (if st.1 = 0 then jn 1 else jn 0)), some (.int (jn i)), u7], [], M') = rI (jz 1) M2 ∧ At (M2.1 69) 0 o ∧ M2.1 52 26 = jn o.length) := by
  intro m
  induction m using Nat.strongRecOn with
  | _ m ih =>
    intro i st M' hi hst hw1 hX hSX u7
    obtain ⟨w, k, o⟩ := st
    have hst0 := hst
    obtain ⟨h1, h2, h3, h4, -, -⟩ := hst0
    obtain ⟨g3, g4⟩ := hX
    simp only at h1 h2 h3 h4 hw1 g3 g4
    obtain rfl | rfl : w = 0 ∨ w = 2 := by omega
    · -- a sign is wanted
      simp only [if_true]
      cases m with
      | zero =>
        refine ⟨M', Fr.rf, fun _ _ => rfl, ?_⟩
        unfold rdR
        rw [if_neg (by simp)]
        simp only
        rw [h_91_18, ieq_neg (by omega) (by omega) (by omega), ieq_pos (by omega)]
        exact ⟨by omega, by congr 1; congr 1; omega⟩
      | succ m =>
        rw [h_91_18, ieq_neg (by omega) (by omega) (by omega), ieq_neg (by omega) (by omega) (by omega), d_row (by omega) hSX hs8 hn (by omega), kI_r, ieq_neg (by omega) (by omega) (by omega), c_aritym (by omega), kI_r]
        unfold rdR
        generalize hc : rowI A s i = c
        by_cases hsg : sg c
        case neg =>
          refine ⟨M', Fr.rf, fun _ _ => rfl, ?_⟩
          have e : rdS (0, k, o) c = none := by unfold rdS; simp only; rw [if_pos (Or.inl hsg)]
          rw [e]
          simp only
          have : arR c = jz 1 := by rw [sg_arR]; exact hsg
          rw [this, if_pos (by decide)]
          exact ⟨by omega, rfl⟩
        have hnn : ¬ arR c < jn 0 := by
          rcases hsg with q | q | q
          · rw [arR_0 q]; decide
          · rw [arR_1 q]; decide
          · rw [arR_2 q]; decide
        rw [if_neg hnn]
        by_cases h40 : 40 ≤ o.length
        · refine ⟨M', Fr.rf, fun _ _ => rfl, ?_⟩
          have e : rdS (0, k, o) c = none := by unfold rdS; simp only; rw [if_pos (Or.inr h40)]
          rw [e]
          simp only
          rw [ieq_pos (show o.length = 40 by omega)]
          exact ⟨by omega, rfl⟩
        rw [ieq_neg (show o.length ≠ 40 by omega) (by omega) (by omega), ast_n (n := 1700) rfl (by omega) (by omega), oB_s, c_aritym (by omega), kI_r]
        have hat : At (va_up (M'.1 69) o.length c) 0 (o ++ [c]) := by
          rw [At_app]
          refine ⟨At_congr g4 (fun i q1 q2 => by rw [up_at, if_neg (by omega)]), ?_, trivial⟩
          rw [up_at, Nat.zero_add, if_pos rfl]
        by_cases hc0 : is0 c
        · have e : rdS (0, k, o) c = some (2, k, o ++ [c]) := by unfold rdS; simp only; rw [if_neg (fun q => q.elim (fun q => q hsg) h40), if_pos hc0]
          have hst' := rdI_step hst e
          rw [e]
          simp only
          obtain ⟨M2, f1, f2, f3⟩ := ih m (by omega) (i + 1) (2, k, o ++ [c]) (sI M' 69 (va_up (M'.1 69) o.length c)) (by omega) hst' (by simp) ⟨g3, by rw [sI_k]; exact hat⟩ (SX_eq hSX rfl rfl rfl) (some (.int c))
          refine ⟨M2, (Fr.sI (by decide)).trans f1, fun j hj => (f2 j hj), ?_⟩
          rw [arR_0 hc0, ilt_neg (by omega) (by omega), jn_add, jn_add]
          have el : (o ++ [c]).length = o.length + 1 := by simp
          simp only [el] at f3
          exact f3
        · have hr0 : arR c = jn (if is2 c then 2 else 1) := by
            rcases hsg with q | q | q
            · exact absurd q hc0
            · rw [arR_1 q, if_neg (by omega)]
            · rw [arR_2 q, if_pos q]
          have e : rdS (0, k, o) c = some (1, (if is2 c then 2 else 1) :: k, o ++ [c]) := by unfold rdS; simp only; rw [if_neg (fun q => q.elim (fun q => q hsg) h40), if_neg hc0]
          have hra : (if is2 c then 2 else 1) ≠ 0 ∧ (if is2 c then 2 else 1) < 3 := by split <;> omega
          have hst' := rdI_step hst e
          rw [e, hr0]
          simp only
          generalize (if is2 c then 2 else 1) = r at hst' hra hr0
          rw [ilt_pos (by omega) (by omega), jn_add]
          cases m with
          | zero =>
            refine ⟨sI M' 69 (va_up (M'.1 69) o.length c), Fr.sI (by decide), fun j hj => rfl, ?_⟩
            unfold rdR
            rw [if_neg (by simp)]
            simp only
            rw [ieq_pos (by omega)]
            exact ⟨by omega, rfl⟩
          | succ m =>
            rw [ieq_neg (by omega) (by omega) (by omega), d_row (M := sI M' 69 (va_up (M'.1 69) o.length c)) (by omega) (SX_eq hSX rfl rfl rfl) hs8 hn (by omega), kI_r]
            unfold rdR
            by_cases hb : rowI A s (i + 1) = jn 40
            · have e2 : rdS (1, r :: k, o ++ [c]) (rowI A s (i + 1)) = some (0, r :: k, o ++ [c]) := by unfold rdS; simp only; rw [if_pos hb]
              have hst2 := rdI_step hst' e2
              rw [e2, if_pos hb, c_aritym (by omega), kI_r, hr0, jn_sub (by omega), ast_n (n := 90) rfl (by omega) (by omega), oB_s, jn_add, jn_add, jn_add]
              simp only
              obtain ⟨M2, f1, f2, f3⟩ := ih m (by omega) (i + 1 + 1) (0, r :: k, o ++ [c]) (sI (sI M' 69 (va_up (M'.1 69) o.length c)) 66 (va_up ((sI M' 69 (va_up (M'.1 69) o.length c)).1 66) k.length (jn (r - 1)))) (by omega) hst2 (by simp) ⟨by
                  refine ⟨?_, Stk_congr k g3 (fun i hi => ?_)⟩
                  · show (sI _ 66 _).1 66 k.length + jn 1 = _
                    rw [sI_k, up_at, if_pos rfl, jn_add]; congr 1; omega
                  · rw [sI_k, up_at, if_neg (by omega)]; rfl, hat⟩ (SX_eq hSX rfl rfl rfl) (some (.int c))
              refine ⟨M2, ((Fr.sI (k := 69) (by decide)).trans (Fr.sI (k := 66) (by decide))).trans f1, fun j hj => (f2 j hj), ?_⟩
              have el : (o ++ [c]).length = o.length + 1 := by simp
              have el2 : (r :: k).length = k.length + 1 := rfl
              simp only [el, el2, if_true] at f3
              exact f3
            · have e2 : rdS (1, r :: k, o ++ [c]) (rowI A s (i + 1)) = none := by unfold rdS; simp only; rw [if_neg hb]
              refine ⟨sI M' 69 (va_up (M'.1 69) o.length c), Fr.sI (by decide), fun j hj => rfl, ?_⟩
              rw [e2, if_neg hb]
              simp only
              exact ⟨by omega, by first | rfl | trivial⟩
    · -- behind a term
      have hz : (if (2 : Nat) = 0 then jn 1 else jn 0) = jn 0 := rfl
      simp only [hz]
      match k, h2, h4, g3, hst with
      | [], h2, h4, g3, hst =>
        refine ⟨sI M' 52 (va_up (M'.1 52) 26 (jn o.length)), Fr.sI (by decide), fun j hj => by rw [sI_k, up_at, if_neg hj], ?_⟩
        rw [h_91_18, ieq_pos rfl, ilt_neg (by simp) (by simp), wr_e]
        cases m with
        | zero =>
          unfold rdR
          rw [if_pos ⟨rfl, rfl⟩]
          simp only
          rw [ilt_neg (by omega) (by omega)]
          exact ⟨rfl, g4, by rw [sI_k, up_at, if_pos rfl]⟩
        | succ m =>
          unfold rdR
          have e : rdS (2, [], o) (rowI A s i) = none := rfl
          rw [e]
          simp only
          rw [ilt_pos (by omega) (by omega)]
          exact ⟨by omega, rfl⟩
      | x :: k, h2, h4, g3, hst =>
        have hx := h4 x List.mem_cons_self
        have hkl : (x :: k).length = k.length + 1 := rfl
        have h2 : k.length + 1 ≤ o.length := h2
        simp only [hkl]
        have htop : M'.1 66 k.length = jn (x - 1) := by
          have := g3.1
          simp only at this
          have e2 : M'.1 66 k.length = (M'.1 66 k.length + jn 1) - jn 1 := (Int32.add_sub_cancel _ _).symm
          rw [e2, this, jn_sub (by omega)]
        rw [h_91_18, ieq_pos rfl, ilt_pos (by omega) (by omega)]
        cases m with
        | zero =>
          refine ⟨M', Fr.rf, fun _ _ => rfl, ?_⟩
          unfold rdR
          rw [if_neg (by simp)]
          simp only
          rw [ieq_pos (by omega)]
          exact ⟨by omega, by congr 1; congr 1; omega⟩
        | succ m =>
          rw [ieq_neg (by omega) (by omega) (by omega), d_row (by omega) hSX hs8 hn (by omega), kI_r, ieq_pos rfl, jn_sub (by omega), Nat.add_sub_cancel, ald_n (n := 90) rfl (by omega) (by omega), oB_s, htop, oB_s]
          unfold rdR
          generalize hc : rowI A s i = c
          by_cases hx2 : x = 2
          · subst hx2
            rw [ilt_pos (by omega) (by omega)]
            by_cases h44 : c = jn 44
            · have e : rdS (2, 2 :: k, o) c = some (0, 1 :: k, o) := by unfold rdS; simp only; rw [if_pos h44]; rfl
              have hst' := rdI_step hst e
              rw [e, if_pos h44, jn_sub (by omega), ast_n (n := 90) rfl (by omega) (by omega), oB_s, jn_add]
              simp only
              obtain ⟨M2, f1, f2, f3⟩ := ih m (by omega) (i + 1) (0, 1 :: k, o) (sI M' 66 (va_up (M'.1 66) k.length (jn (2 - 1 - 1)))) (by omega) hst' (by simp) ⟨by
                  refine ⟨?_, Stk_congr k g3.2 (fun i hi => ?_)⟩
                  · show (sI _ 66 _).1 66 k.length + jn 1 = _
                    rw [sI_k, up_at, if_pos rfl, jn_add]
                  · rw [sI_k, up_at, if_neg (by omega)], g4⟩ (SX_eq hSX rfl rfl rfl) (some (.int c))
              refine ⟨M2, (Fr.sI (k := 66) (by decide)).trans f1, fun j hj => (f2 j hj), ?_⟩
              have el2 : (1 :: k).length = k.length + 1 := rfl
              simp only [el2, if_true] at f3
              exact f3
            · have e : rdS (2, 2 :: k, o) c = none := by unfold rdS; simp only; rw [if_neg h44]; rfl
              refine ⟨M', Fr.rf, fun j hj => rfl, ?_⟩
              rw [e, if_neg h44]
              simp only
              exact ⟨by omega, by first | rfl | trivial⟩
          · obtain rfl : x = 1 := by omega
            rw [ilt_neg (by omega) (by omega)]
            by_cases h41 : c = jn 41
            · have e : rdS (2, 1 :: k, o) c = some (2, k, o) := by unfold rdS; simp only; rw [if_pos h41]; rfl
              have hst' := rdI_step hst e
              rw [e, if_pos h41, jn_addz (by omega), Nat.add_sub_cancel, jn_add]
              simp only
              obtain ⟨M2, f1, f2, f3⟩ := ih m (by omega) (i + 1) (2, k, o) M' (by omega) hst' (by simp) ⟨g3.2, g4⟩ hSX (some (.int c))
              exact ⟨M2, f1, f2, f3⟩
            · have e : rdS (2, 1 :: k, o) c = none := by unfold rdS; simp only; rw [if_neg h41]; rfl
              refine ⟨M', Fr.rf, fun j hj => rfl, ?_⟩
              rw [e, if_neg h41]
              simp only
              exact ⟨by omega, by first | rfl | trivial⟩
theorem m_term (hd : 9 ≤ d) (hA : AOk A) (h : RM A M) : MI (pcl GG lay d 93 [.ref 52, .int a] M) M (F_term A a) := by
  obtain ⟨d, rfl⟩ := ex_add hd
  rw [q_93, d_noR (by omega) h, kI_r, ite_nn (noR_lt A a)]
  unfold F_term
  by_cases h0 : noR A a = 0
  case neg => rw [if_neg h0, if_neg h0]; exact m_ref (by omega) h (by have := noR_lt A a; omega)
  rw [if_pos h0, if_pos h0]
  obtain ⟨h1, h2⟩ := noR_0 h0
  obtain ⟨s, hs, rfl⟩ := inn (n := 8) h1
  rw [jnN (by omega)] at *
  have h160 : siz A s ≤ 160 := (hA.2.2.2 s hs).1
  have hl : (tsA A).length ≤ 24 := hA.1.1.1
  rw [q_91, d_siz h hs, oB_s]
  obtain ⟨M2, f1, f2, f3⟩ := read_m (d := d + 3) (A := A) (s := s) hs h160 (siz A s) 0 (0, [], []) M (by omega) rdI_0 (by simp) ⟨trivial, trivial⟩ h.2.2.2.1 none
  have hRF : ∀ x, RM (setF A x) (sI M2 52 (va_up (M2.1 52) 16 x)) := fun x => setF_m h (by rw [sI_k, up_at, if_pos rfl]) ((f1.mono (by decide)).trans (Fr.sI (by decide))) (fun j hj h16 => by rw [sI_k, up_at, if_neg h16]; exact f2 j (by revert j hj; decide))
  have hLo : ∀ x, Lo M (sI M2 52 (va_up (M2.1 52) 16 x)) := fun x => Lo.fr (S := [52, 66, 69]) (f1.trans (Fr.sI (by decide))) (by decide)
  cases hq : rdR (rowI A s) (siz A s) 0 (0, [], []) with
  | inl k =>
    rw [hq] at f3
    simp only [List.length_nil, if_true] at f3 ⊢
    rw [f3.2, kI_r, wr_e, sI_k, up_at, if_pos rfl, if_neg (by rw [jn_jz (by omega) (by omega)]; exact id)]
    exact (m_ref (by omega) (hRF (jn k)) (by omega)).pre (hLo _)
  | inr o =>
    rw [hq] at f3
    simp only [List.length_nil, if_true] at f3 ⊢
    obtain ⟨f3, f4, f5⟩ := f3
    obtain ⟨w1, w2, w3⟩ := treeOf_ok (rdR_ok _ _ _ _ rdI_0 hq)
    have e0 : (sI M2 52 (va_up (M2.1 52) 16 (jz 1))).1 52 0 = jn (tsA A).length := (hRF (jz 1)).1.1.1
    have e26 : (sI M2 52 (va_up (M2.1 52) 16 (jz 1))).1 52 26 = jn (sz (treeOf o)) := by rw [sI_k, up_at, if_neg (by omega), f5]; exact congrArg jn (congrArg List.length w2).symm
    rw [f3, kI_r, wr_e, e0, e26, sI_k, up_at, if_pos rfl, if_pos rfl]
    unfold addT
    by_cases h24 : (tsA A).length < 24
    · rw [ieq_neg (by omega) (by omega) (by omega), if_pos (show (tsA (setF A (jz 1))).length < 24 from h24)]
      refine (m_newT (A := setF A (jz 1)) (t := treeOf o) (nx := 1700) (by omega) hA (hRF (jz 1)) h24 w3 rfl (by omega) (by omega) (by decide) ?_).k.pre (hLo _)
      rw [sI_o _ _ (by omega), w2]; exact f4
    · rw [ieq_pos (show (tsA A).length = 24 by omega), if_neg (show ¬ (tsA (setF A (jz 1))).length < 24 from h24)]
      exact (m_ref (by omega) (hRF (jz 1)) (by omega)).pre (hLo _)
end
