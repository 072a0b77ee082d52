/-! image and restore -/
def F_image (A : AT) : Int32 × AT := (jn (tsA A).length, (A.1, some A.1, A.2.2))
def hForget (h : HT) (n : Nat) : HT := (fun s => if 0 ≤ (h.1 s).toInt ∧ (h.1 s).toInt < 100 ∧ (n : Int) ≤ (h.1 s).toInt then jz 1 else h.1 s, h.2)
def F_restore (A : AT) : Int32 × AT := match A.2.1 with
  | none => rfs A 6
  | some K => (jn K.1.length, (K, A.2.1, A.2.2.1, hForget A.2.2.2.1 K.2.2.1.length, A.2.2.2.2))
section
variable {d : Nat} {A : AT} {M : PM} {a b c e f : Int32} {v : Int64}
theorem k_image (hA : AOk A) : AOk (F_image A).2 := ⟨hA.1, fun K hK => by cases hK; exact hA.1, hA.2.2.1, hA.2.2.2⟩
theorem k_restore (hA : AOk A) : AOk (F_restore A).2 := by
  unfold F_restore
  split
  · exact hA
  · rename_i K hK
    obtain ⟨k1, k2, k3, k4⟩ := hA
    refine ⟨k2 K hK, k2, k3, fun s hs => ⟨(k4 s hs).1, ?_⟩⟩
    show (hForget A.2.2.2.1 K.2.2.1.length).1 s = jz 1 ∨ _
    unfold hForget
    simp only
    rcases (k4 s hs).2 with q | ⟨w, hw, q⟩ | ⟨o, ho, q⟩
    · rw [q, jz_toInt (by omega), if_neg (by omega)]; exact Or.inl rfl
    · have hl : A.1.2.2.1.length ≤ 24 := k1.2.2.1.1
      rw [q, jn_toInt (by omega)]
      by_cases h : w < K.2.2.1.length
      · rw [if_neg (by omega)]; exact Or.inr (Or.inl ⟨w, h, rfl⟩)
      · rw [if_pos (by omega)]; exact Or.inl rfl
    · rw [q, jn_toInt (by omega), if_neg (by omega)]; exact Or.inr (Or.inr ⟨o, ho, rfl⟩)
theorem acpyI {x y nx ny n : Nat} (hd : 1 ≤ d) (hx : lay[x]? = some (.inr (false, nx))) (hy : lay[y]? = some (.inr (false, ny))) (h1 : n ≤ nx) (h2 : n ≤ ny) (hn : n < 2147483648) : pcl GG lay d 0 [.ref x, .int (jn 0), .ref y, .int (jn 0), .int (jn n)] M = rV (sI M y (va_cpy (M.1 x) (M.1 y) 0 0 n)) := by
  obtain ⟨d, rfl⟩ := ex_add hd
  rw [pcl, if_pos (by omega), nat3]
  unfold acpy
  simp only [hx, hy, jn_clamp (show 0 < 2147483648 by omega), jn_clamp hn]
  rw [if_neg]
  have e0 : ¬ jn 0 < (0 : Int32) := by decide
  have e1 : ¬ jn n < (0 : Int32) := by rw [← J0, jn_lt hn (by omega)]; omega
  rintro (q | q | q | q | q)
  · exact e0 q
  · exact e0 q
  · exact e1 q
  · omega
  · omega
/-- one kernel's numbers and rows are copied to the other's -/
def tkM (M : PM) (t s : Nat) (n : Nat) : PM := sI (sI (sI (sI (sI (sI M (t + 6) (cp (M.1 (s + 6)) (M.1 (t + 6)) 0 0 n)) (t + 1) (va_cpy (M.1 (s + 1)) (M.1 (t + 1)) 0 0 24)) (t + 2) (va_cpy (M.1 (s + 2)) (M.1 (t + 2)) 0 0 24)) (t + 3) (va_cpy (M.1 (s + 3)) (M.1 (t + 3)) 0 0 24)) (t + 4) (va_cpy (M.1 (s + 4)) (M.1 (t + 4)) 0 0 24)) t (va_up (va_up (va_up (va_up (va_up (M.1 t) 5 (M.1 s 5)) 6 (M.1 s 6)) 7 (M.1 s 7)) 8 (M.1 s 8)) 9 (M.1 s 9))
theorem cpy_at {g f : Nat → Int32} {i : Nat} (h : i < 24) : va_cpy g f 0 0 24 i = g i := by
  unfold va_cpy
  simp [h]
theorem tk_KX {K : KT} {t s : Nat} (hk : KOk K) (h : KX s K M) (hts : t = 1 ∧ s = 8 ∨ t = 8 ∧ s = 1) : KX t K (tkM M t s 1920) := by
  obtain ⟨⟨a1, a2, a3, a4, a5⟩, a6, a7, a8⟩ := h
  obtain ⟨⟨k1, k2⟩, ⟨k3, k4⟩, ⟨k5, -⟩, -⟩ := hk
  have e6 : (tkM M t s 1920).1 (t + 6) = cp (M.1 (s + 6)) (M.1 (t + 6)) 0 0 1920 := by
    unfold tkM; simp (disch := omega) only [sI_o, sI_k]
  have e1 : (tkM M t s 1920).1 (t + 1) = va_cpy (M.1 (s + 1)) (M.1 (t + 1)) 0 0 24 := by
    unfold tkM; simp (disch := omega) only [sI_o, sI_k]
  have e2 : (tkM M t s 1920).1 (t + 2) = va_cpy (M.1 (s + 2)) (M.1 (t + 2)) 0 0 24 := by
    unfold tkM; simp (disch := omega) only [sI_o, sI_k]
  have e3 : (tkM M t s 1920).1 (t + 3) = va_cpy (M.1 (s + 3)) (M.1 (t + 3)) 0 0 24 := by
    unfold tkM; simp (disch := omega) only [sI_o, sI_k]
  have e4 : (tkM M t s 1920).1 (t + 4) = va_cpy (M.1 (s + 4)) (M.1 (t + 4)) 0 0 24 := by
    unfold tkM; simp (disch := omega) only [sI_o, sI_k]
  have e0 : (tkM M t s 1920).1 t = va_up (va_up (va_up (va_up (va_up (M.1 t) 5 (M.1 s 5)) 6 (M.1 s 6)) 7 (M.1 s 7)) 8 (M.1 s 8)) 9 (M.1 s 9) := by
    unfold tkM; simp (disch := omega) only [sI_o, sI_k]
  have cp0 : ∀ (p : Nat) (u : Tm), wf u ∧ sz u ≤ 40 → p + 40 ≤ 1920 → At (M.1 (s + 6)) p (en u) → At ((tkM M t s 1920).1 (t + 6)) p (en u) := by
    intro p u hu hp hat
    rw [e6]
    refine AT_congr hat (fun i h1 h2 => ?_)
    rw [cp_in (by omega), Nat.zero_add, Nat.sub_zero]
  refine ⟨?_, fun i u hi => ?_, fun i r hi => ?_, fun i q hi => ?_⟩
  · rw [e0]; exact ⟨a1, a2, a3, a4, a5⟩
  · have hl : i < K.1.length := (List.getElem?_eq_some_iff.mp hi).1
    exact cp0 _ u (k2 u (List.mem_of_getElem? hi)) (by omega) (a6 i u hi)
  · have hl : i < K.2.1.length := (List.getElem?_eq_some_iff.mp hi).1
    have h8 := k4 r (List.mem_of_getElem? hi)
    exact ⟨cp0 _ _ ⟨h8.1, h8.2.2.1⟩ (by omega) (a7 i r hi).1, cp0 _ _ ⟨h8.2.1, h8.2.2.2.1⟩ (by omega) (a7 i r hi).2⟩
  · have hl : i < K.2.2.1.length := (List.getElem?_eq_some_iff.mp hi).1
    obtain ⟨b1, b2, b3, b4⟩ := a8 i q hi
    rw [e1, e2, e3, e4, cpy_at (by omega), cpy_at (by omega), cpy_at (by omega), cpy_at (by omega)]
    exact ⟨b1, b2, b3, b4⟩
theorem tk_fr {t s n : Nat} : Fr [t, t + 1, t + 2, t + 3, t + 4, t + 6] M (tkM M t s n) := by
  unfold tkM
  exact (((((Fr.sI (by simp)).trans (Fr.sI (by simp))).trans (Fr.sI (by simp))).trans (Fr.sI (by simp))).trans (Fr.sI (by simp))).trans (Fr.sI (by simp))
theorem lp_239 {u2 : Option Value} : ∀ m k, k + m = 1920 → E_239 d (21, [some (.ref 6), some (.ref 13), u2, some (.int (jn 1920)), some (.int (jn k))], [], sI M 7 (cp (M.1 14) (M.1 7) 0 0 k)) = rV (sI M 7 (cp (M.1 14) (M.1 7) 0 0 1920)) := by
  intro m
  induction m with
  | zero =>
    intro k hk
    obtain rfl : k = 1920 := by omega
    rw [h_239_21, ilt_neg (by omega) (by omega)]
  | succ m ih =>
    intro k hk
    have := cp_succ (M.1 14) (M.1 7) 0 0 k
    rw [Nat.zero_add] at this
    rw [h_239_21, ilt_pos (by omega) (by omega), ald_n (n := 1920) rfl (by omega) (by omega), oB_s, ast_n (n := 3760) rfl (by omega) (by omega), oB_s, sI_sI, sI_k, sI_o _ _ (by omega), this, jn_add]
    exact ih (k + 1) (by omega)
theorem lp_239b {u2 : Option Value} : ∀ m k, k + m = 1920 → E_239 d (21, [some (.ref 13), some (.ref 6), u2, some (.int (jn 1920)), some (.int (jn k))], [], sI M 14 (cp (M.1 7) (M.1 14) 0 0 k)) = rV (sI M 14 (cp (M.1 7) (M.1 14) 0 0 1920)) := by
  intro m
  induction m with
  | zero =>
    intro k hk
    obtain rfl : k = 1920 := by omega
    rw [h_239b_21, ilt_neg (by omega) (by omega)]
  | succ m ih =>
    intro k hk
    have := cp_succ (M.1 7) (M.1 14) 0 0 k
    rw [Nat.zero_add] at this
    rw [h_239b_21, ilt_pos (by omega) (by omega), ald_n (n := 3760) rfl (by omega) (by omega), oB_s, ast_n (n := 1920) rfl (by omega) (by omega), oB_s, sI_sI, sI_k, sI_o _ _ (by omega), this, jn_add]
    exact ih (k + 1) (by omega)
theorem c_take (hd : 3 ≤ d) : pcl GG lay d 253 [.ref 1, .ref 8] M = rV (tkM M 1 8 1920) := by
  obtain ⟨d, rfl⟩ := ex_add hd
  rw [q_253, q_239, pcl_min (by omega), kI_r, ilt_pos (by omega) (by omega), pcl_min (by omega), kI_r, ilt_neg (by omega) (by omega)]
  have := lp_239 (d := d + 1) (M := M) (u2 := some (.int (jn 1920))) 1920 0 (by omega)
  rw [cp_0, sI_self] at this
  rw [this, kV_r, acpyI (by omega) (nx := 48) (ny := 48) rfl rfl (by omega) (by omega) (by omega), kV_r, acpyI (by omega) (nx := 48) (ny := 48) rfl rfl (by omega) (by omega) (by omega), kV_r, acpyI (by omega) (nx := 48) (ny := 48) rfl rfl (by omega) (by omega) (by omega), kV_r, acpyI (by omega) (nx := 48) (ny := 48) rfl rfl (by omega) (by omega) (by omega), kV_r]
  simp only [wr_e, sI_sI, sI_k]
  simp (disch := omega) only [sI_o, sI_sI]
  rfl
theorem c_takeB (hd : 3 ≤ d) : pcl GG lay d 253 [.ref 8, .ref 1] M = rV (tkM M 8 1 1920) := by
  obtain ⟨d, rfl⟩ := ex_add hd
  rw [q_253b, q_239b, pcl_min (by omega), kI_r, ilt_neg (by omega) (by omega), pcl_min (by omega), kI_r, ilt_neg (by omega) (by omega)]
  have := lp_239b (d := d + 1) (M := M) (u2 := some (.int (jn 1920))) 1920 0 (by omega)
  rw [cp_0, sI_self] at this
  rw [this, kV_r, acpyI (by omega) (nx := 48) (ny := 48) rfl rfl (by omega) (by omega) (by omega), kV_r, acpyI (by omega) (nx := 48) (ny := 48) rfl rfl (by omega) (by omega) (by omega), kV_r, acpyI (by omega) (nx := 48) (ny := 48) rfl rfl (by omega) (by omega) (by omega), kV_r, acpyI (by omega) (nx := 48) (ny := 48) rfl rfl (by omega) (by omega) (by omega), kV_r]
  simp only [wr_e, sI_sI, sI_k]
  simp (disch := omega) only [sI_o, sI_sI]
  rfl
theorem x_image (hd : 4 ≤ d) (hA : AOk A) (h : RX A M) : XI (pcl GG lay d 52 [.ref 0] M) M (F_image A) := by
  obtain ⟨d, rfl⟩ := ex_add hd
  rw [q_52, c_takeB (by omega), kV_r, wr_e]
  have hf := tk_fr (M := M) (t := 8) (s := 1) (n := 1920)
  obtain ⟨a, ⟨b1, b2⟩, c, e, f, g⟩ := h
  have e5 : (sI (tkM M 8 1 1920) 0 (va_up ((tkM M 8 1 1920).1 0) 12 (jn 1))).1 1 5 = jn (tsA A).length := by
    rw [sI_o _ _ (by omega), hf.1 1 (by decide)]; exact a.1.1
  rw [e5]
  have hf2 : Fr [0, 8, 9, 10, 11, 12, 14] M (sI (tkM M 8 1 1920) 0 (va_up ((tkM M 8 1 1920).1 0) 12 (jn 1))) := (hf.mono (by decide)).trans (Fr.sI (by decide))
  refine ⟨_, rfl, ⟨?_, ⟨?_, fun K hK => ?_⟩, ?_, ?_, ?_, ?_⟩, Hi.fr hf2 (by decide)⟩
  · exact KX_eq a (hf2.1 _ (by decide)) (hf2.1 _ (by decide)) (hf2.1 _ (by decide)) (hf2.1 _ (by decide)) (hf2.1 _ (by decide)) (hf2.1 _ (by decide))
  · rw [sI_k, up_at, if_pos rfl]; exact (bI_1 rfl).symm
  · have hK : some A.1 = some K := hK
    cases hK
    exact KX_eq (tk_KX hA.1 a (Or.inr ⟨rfl, rfl⟩)) rfl rfl rfl rfl rfl rfl
  · exact TX_eq c (by rw [hf2.1 48 (by decide)]) (hf2.1 _ (by decide)) (hf2.2 _ (by decide))
  · exact SX_eq e (hf2.1 _ (by decide)) (hf2.1 _ (by decide)) (hf2.2 _ (by decide))
  · rw [sI_k, up_at, if_neg (by omega), hf.1 0 (by decide)]; exact f
  · exact CX_eq g (hf2.1 _ (by decide))
theorem c_forget {n : Nat} (hn : n ≤ 24) (hd : 4 ≤ d) (hok : SOk 24 A.2.2.2.1) (h : SX 16 17 18 A.2.2.2.1 M) : ∃ M', pcl GG lay d 230 [.ref 15, .int (jn n)] M = rV M' ∧ Fr [16] M M' ∧ SX 16 17 18 (hForget A.2.2.2.1 n) M' := by
  obtain ⟨d, rfl⟩ := ex_add hd
  rw [q_230]
  have key : ∀ m k M, k + m = 8 → SX 16 17 18 ((fun s => if s < k then (hForget A.2.2.2.1 n).1 s else A.2.2.2.1.1 s), A.2.2.2.1.2) M → ∃ M', E_230 (d + 3) (2, [some (.ref 15), some (.int (jn n)), some (.int (jn k))], [], M) = rV M' ∧ Fr [16] M M' ∧ SX 16 17 18 (hForget A.2.2.2.1 n) M' := by
    intro m
    induction m with
    | zero =>
      intro k M hk hS
      refine ⟨M, by rw [h_230_2, ilt_neg (by omega) (by omega)], Fr.rf, fun s hs => ?_⟩
      obtain ⟨g1, g2, g3⟩ := hS s hs
      exact ⟨by rw [g1]; simp only; rw [if_pos (by omega)], g2, g3⟩
    | succ m ih =>
      intro k M hk hS
      obtain ⟨g1, g2, g3⟩ := hS k (by omega)
      simp only at g1
      rw [if_neg (by omega)] at g1
      have hh : pcl GG lay (d + 3) 218 [.ref 15, .int (jn k)] M = rI (A.2.2.2.1.1 k) M := by
        rw [q_218, c_thr (by omega), kI_r, bI_1 (by rw [thr, jn_toInt (by omega)]; omega), ieq_neg (by omega) (by omega) (by omega), c_get (n := 8) (by omega) rfl (by omega) (by omega), kI_r, g1]
      have hh2 : ∀ d, pcl GG lay (d + 2) 218 [.ref 15, .int (jn k)] M = rI (A.2.2.2.1.1 k) M := by
        intro d
        rw [q_218, c_thr (by omega), kI_r, bI_1 (by rw [thr, jn_toInt (by omega)]; omega), ieq_neg (by omega) (by omega) (by omega), c_get (n := 8) (by omega) rfl (by omega) (by omega), kI_r, g1]
      have hw : pcl GG lay (d + 3) 220 [.ref 15, .int (jn k)] M = rI (bI (0 ≤ (A.2.2.2.1.1 k).toInt ∧ (A.2.2.2.1.1 k).toInt < 100)) M := by
        rw [q_220, hh2, kI_r, hh2, kI_r, rZ_0, rZ_1]
        simp (disch := omega) only [jlt]
        unfold bI
        repeat' split
        all_goals first
          | rfl
          | (exfalso; omega)
      have nxt : ∀ M2, Fr [16] M M2 → (M2.1 16 k = (hForget A.2.2.2.1 n).1 k) → (∀ s, s ≠ k → M2.1 16 s = M.1 16 s) → ∃ M', E_230 (d + 3) (2, [some (.ref 15), some (.int (jn n)), some (.int (jn (k + 1)))], [], M2) = rV M' ∧ Fr [16] M M' ∧ SX 16 17 18 (hForget A.2.2.2.1 n) M' := by
        intro M2 hf hk2 ho
        obtain ⟨M', e1, e2, e3⟩ := ih (k + 1) M2 (by omega) (fun s hs => by
          obtain ⟨g1, g2, g3⟩ := hS s hs
          rw [hf.1 17 (by decide), hf.2 18 (by decide)]
          refine ⟨?_, g2, g3⟩
          by_cases e : s = k
          · subst e; rw [hk2]; simp only; rw [if_pos (by omega)]
          · rw [ho s e, g1]
            simp only
            by_cases e2 : s < k
            · rw [if_pos e2, if_pos (by omega)]
            · rw [if_neg e2, if_neg (by omega)])
        exact ⟨M', e1, hf.trans e2, e3⟩
      rw [h_230_2, ilt_pos (by omega) (by omega), hw, kI_r, hh, kI_r, jn_add]
      simp only [bI_0]
      have hF : (hForget A.2.2.2.1 n).1 k = if 0 ≤ (A.2.2.2.1.1 k).toInt ∧ (A.2.2.2.1.1 k).toInt < 100 ∧ (n : Int) ≤ (A.2.2.2.1.1 k).toInt then jz 1 else A.2.2.2.1.1 k := rfl
      by_cases h1 : 0 ≤ (A.2.2.2.1.1 k).toInt ∧ (A.2.2.2.1.1 k).toInt < 100
      case neg =>
        rw [if_pos h1]
        exact nxt M Fr.rf (by rw [hF, if_neg (by omega)]; exact g1) (fun _ _ => rfl)
      rw [if_neg (not_not_intro h1)]
      simp only [jlt (show n < 2147483648 by omega)]
      by_cases h2 : (A.2.2.2.1.1 k).toInt < (n : Int)
      · rw [if_pos h2]
        exact nxt M Fr.rf (by rw [hF, if_neg (by omega)]; exact g1) (fun _ _ => rfl)
      · rw [if_neg h2, c_put (n := 8) (by omega) rfl (by omega) (by omega), kV_r]
        refine nxt _ (Fr.sI (by decide)) ?_ (fun s hs => ?_)
        · rw [hF, if_pos (by omega), sI_k, up_at, if_pos rfl]
        · rw [sI_k, up_at, if_neg hs]
  exact key 8 0 M (by omega) (fun s hs => by
    obtain ⟨g1, g2, g3⟩ := h s hs
    exact ⟨by rw [g1]; simp only; rw [if_neg (by omega)], g2, g3⟩)
theorem x_restore (hd : 5 ≤ d) (hA : AOk A) (h : RX A M) : XI (pcl GG lay d 53 [.ref 0] M) M (F_restore A) := by
  obtain ⟨d, rfl⟩ := ex_add hd
  rw [q_53, h.2.1.1]
  unfold F_restore
  cases hI : A.2.1 with
  | none =>
    simp only
    rw [bI_n (by simp), ieq_pos rfl]; exact x_ref (by omega) h (by omega)
  | some K =>
    simp only
    rw [bI_1 (b := (some K).isSome = true) rfl, ieq_neg (by omega) (by omega) (by omega), c_take (by omega), kV_r]
    have hk := hA.2.1 K hI
    obtain ⟨a, ⟨b1, b2⟩, c, e, f, g⟩ := h
    have hKX := tk_KX (M := M) (t := 1) (s := 8) hk (b2 K hI) (Or.inl ⟨rfl, rfl⟩)
    have hf := tk_fr (M := M) (t := 1) (s := 8) (n := 1920)
    have e7 : (tkM M 1 8 1920).1 1 7 = jn K.2.2.1.length := hKX.1.2.2.1
    have l24 : K.2.2.1.length ≤ 24 := hk.2.2.1.1
    obtain ⟨M', f1, f2, f3⟩ := c_forget (d := d + 4) (A := A) (M := tkM M 1 8 1920) (n := K.2.2.1.length) l24 (by omega) (fun s hs => by
      obtain ⟨q1, q2⟩ := hA.2.2.2 s hs
      have l3 : A.1.2.2.1.length ≤ 24 := hA.1.2.2.1.1
      refine ⟨q1, ?_⟩
      rcases q2 with q | ⟨w, hw, q⟩ | q
      · exact Or.inl q
      · exact Or.inr (Or.inl ⟨w, by omega, q⟩)
      · exact Or.inr (Or.inr q)) (SX_eq e (hf.1 _ (by decide)) (hf.1 _ (by decide)) (hf.2 _ (by decide)))
    rw [e7, f1, kV_r]
    have e5 : M'.1 1 5 = jn K.1.length := by rw [f2.1 1 (by decide)]; exact hKX.1.1
    rw [e5]
    have hf2 : Fr [1, 2, 3, 4, 5, 7, 16] M M' := (hf.mono (by decide)).trans (f2.mono (by decide))
    refine ⟨_, rfl, ⟨?_, ⟨?_, fun K2 hK2 => ?_⟩, ?_, ?_, ?_, ?_⟩, Hi.fr hf2 (by decide)⟩
    · exact KX_eq hKX (f2.1 _ (by decide)) (f2.1 _ (by decide)) (f2.1 _ (by decide)) (f2.1 _ (by decide)) (f2.1 _ (by decide)) (f2.1 _ (by decide))
    · rw [hf2.1 0 (by decide), b1, hI]
    · exact KX_eq (b2 K2 (hI.trans hK2)) (hf2.1 _ (by decide)) (hf2.1 _ (by decide)) (hf2.1 _ (by decide)) (hf2.1 _ (by decide)) (hf2.1 _ (by decide)) (hf2.1 _ (by decide))
    · exact TX_eq c (by rw [hf2.1 48 (by decide)]) (hf2.1 _ (by decide)) (hf2.2 _ (by decide))
    · exact f3
    · rw [hf2.1 0 (by decide)]; exact f
    · exact CX_eq g (hf2.1 _ (by decide))
end
