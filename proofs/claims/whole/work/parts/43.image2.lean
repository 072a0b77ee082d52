/-! image and restore of the model -/
section
variable {d : Nat} {A : AT} {M : PM}
theorem im_24 : ∀ m k M, k + m = 24 → ∃ M', E_176 d (47, [some (.ref 52), some (.int (jn k))], [], M) = E_176 d (121, [some (.ref 52), some (.int (jn 0))], [], M') ∧ Fr [81, 83, 85, 86, 87] M M' ∧ (∀ i, i < k → M'.1 81 i = M.1 81 i ∧ M'.1 83 i = M.1 83 i ∧ M'.1 85 i = M.1 85 i ∧ M'.1 86 i = M.1 86 i ∧ M'.1 87 i = M.1 87 i) ∧
    ∀ i, k ≤ i → i < 24 → M'.1 81 i = M.1 53 i ∧ M'.1 83 i = M.1 55 i ∧ M'.1 85 i = M.1 57 i ∧ M'.1 86 i = M.1 58 i ∧ M'.1 87 i = M.1 59 i := by
  intro m
  induction m with
  | zero =>
    intro k M hk
    exact ⟨M, by rw [h_176_47, ilt_neg (by omega) (by omega)], Fr.rf, fun i _ => ⟨rfl, rfl, rfl, rfl, rfl⟩, fun i h1 h2 => by omega⟩
  | succ m ih =>
    intro k M hk
    obtain ⟨M', e1, e2, e3, e4⟩ := ih (k + 1) (sI (sI (sI (sI (sI M 81 (va_up (M.1 81) k (M.1 53 k))) 83 (va_up (M.1 83) k (M.1 55 k))) 85 (va_up (M.1 85) k (M.1 57 k))) 86 (va_up (M.1 86) k (M.1 58 k))) 87 (va_up (M.1 87) k (M.1 59 k))) (by omega)
    refine ⟨M', ?_, Fr.trans (((((Fr.sI (by decide)).trans (Fr.sI (by decide))).trans (Fr.sI (by decide))).trans (Fr.sI (by decide))).trans (Fr.sI (by decide))) e2, fun i hi => ?_, fun i h1 h2 => ?_⟩
    · rw [h_176_47, ilt_pos (by omega) (by omega), ald_n (n := 24) rfl (by omega) (by omega), oB_s, ast_n (n := 24) rfl (by omega) (by omega), oB_s, ald_n (n := 24) rfl (by omega) (by omega), oB_s, ast_n (n := 24) rfl (by omega) (by omega), oB_s, ald_n (n := 24) rfl (by omega) (by omega), oB_s, ast_n (n := 24) rfl (by omega) (by omega), oB_s, ald_n (n := 24) rfl (by omega) (by omega), oB_s, ast_n (n := 24) rfl (by omega) (by omega), oB_s, ald_n (n := 24) rfl (by omega) (by omega), oB_s, ast_n (n := 24) rfl (by omega) (by omega), oB_s, jn_add]
      exact e1
    · obtain ⟨g1, g2, g3, g4, g5⟩ := e3 i (by omega)
      have q : ∀ (f : Nat → Int32) (x : Int32), va_up f k x i = f i := fun f x => by rw [up_at, if_neg (by omega)]
      exact ⟨g1.trans (q _ _), g2.trans (q _ _), g3.trans (q _ _), g4.trans (q _ _), g5.trans (q _ _)⟩
    · by_cases h3 : i = k
      · obtain ⟨g1, g2, g3, g4, g5⟩ := e3 i (by omega)
        have q : ∀ (f : Nat → Int32) (x : Int32), va_up f k x i = x := fun f x => by rw [up_at, if_pos h3]
        rw [h3] at g1 g2 g3 g4 g5 q ⊢
        exact ⟨g1.trans (q _ _), g2.trans (q _ _), g3.trans (q _ _), g4.trans (q _ _), g5.trans (q _ _)⟩
      · exact e4 i (by omega) h2
theorem im_960 : ∀ m k M, k + m = 960 → ∃ M', E_176 d (121, [some (.ref 52), some (.int (jn k))], [], M) = rI (M.1 52 0) M' ∧ Fr [82, 84] M M' ∧ (∀ i, i < k → M'.1 82 i = M.1 82 i ∧ M'.1 84 i = M.1 84 i) ∧
    ∀ i, k ≤ i → i < 960 → M'.1 82 i = M.1 54 i ∧ M'.1 84 i = M.1 56 i := by
  intro m
  induction m with
  | zero =>
    intro k M hk
    exact ⟨M, by rw [h_176_121, ilt_neg (by omega) (by omega)], Fr.rf, fun i _ => ⟨rfl, rfl⟩, fun i h1 h2 => by omega⟩
  | succ m ih =>
    intro k M hk
    obtain ⟨M', e1, e2, e3, e4⟩ := ih (k + 1) (sI (sI M 82 (va_up (M.1 82) k (M.1 54 k))) 84 (va_up (M.1 84) k (M.1 56 k))) (by omega)
    refine ⟨M', ?_, Fr.trans ((Fr.sI (by decide)).trans (Fr.sI (by decide))) e2, fun i hi => ?_, fun i h1 h2 => ?_⟩
    · rw [h_176_121, ilt_pos (by omega) (by omega), ald_n (n := 960) rfl (by omega) (by omega), oB_s, ast_n (n := 960) rfl (by omega) (by omega), oB_s, ald_n (n := 960) rfl (by omega) (by omega), oB_s, ast_n (n := 960) rfl (by omega) (by omega), oB_s, jn_add]
      exact e1
    · obtain ⟨g1, g2⟩ := e3 i (by omega)
      have q : ∀ (f : Nat → Int32) (x : Int32), va_up f k x i = f i := fun f x => by rw [up_at, if_neg (by omega)]
      exact ⟨g1.trans (q _ _), g2.trans (q _ _)⟩
    · by_cases h3 : i = k
      · obtain ⟨g1, g2⟩ := e3 i (by omega)
        have q : ∀ (f : Nat → Int32) (x : Int32), va_up f k x i = x := fun f x => by rw [up_at, if_pos h3]
        rw [h3] at g1 g2 q ⊢
        exact ⟨g1.trans (q _ _), g2.trans (q _ _)⟩
      · exact e4 i (by omega) h2
theorem re_24 : ∀ m k M, k + m = 24 → ∃ M', E_177 d (56, [some (.ref 52), some (.int (jn k))], [], M) = E_177 d (130, [some (.ref 52), some (.int (jn 0))], [], M') ∧ Fr [53, 55, 57, 58, 59] M M' ∧ (∀ i, i < k → M'.1 53 i = M.1 53 i ∧ M'.1 55 i = M.1 55 i ∧ M'.1 57 i = M.1 57 i ∧ M'.1 58 i = M.1 58 i ∧ M'.1 59 i = M.1 59 i) ∧
    ∀ i, k ≤ i → i < 24 → M'.1 53 i = M.1 81 i ∧ M'.1 55 i = M.1 83 i ∧ M'.1 57 i = M.1 85 i ∧ M'.1 58 i = M.1 86 i ∧ M'.1 59 i = M.1 87 i := by
  intro m
  induction m with
  | zero =>
    intro k M hk
    exact ⟨M, by rw [h_177_56, ilt_neg (by omega) (by omega)], Fr.rf, fun i _ => ⟨rfl, rfl, rfl, rfl, rfl⟩, fun i h1 h2 => by omega⟩
  | succ m ih =>
    intro k M hk
    obtain ⟨M', e1, e2, e3, e4⟩ := ih (k + 1) (sI (sI (sI (sI (sI M 53 (va_up (M.1 53) k (M.1 81 k))) 55 (va_up (M.1 55) k (M.1 83 k))) 57 (va_up (M.1 57) k (M.1 85 k))) 58 (va_up (M.1 58) k (M.1 86 k))) 59 (va_up (M.1 59) k (M.1 87 k))) (by omega)
    refine ⟨M', ?_, Fr.trans (((((Fr.sI (by decide)).trans (Fr.sI (by decide))).trans (Fr.sI (by decide))).trans (Fr.sI (by decide))).trans (Fr.sI (by decide))) e2, fun i hi => ?_, fun i h1 h2 => ?_⟩
    · rw [h_177_56, ilt_pos (by omega) (by omega), ald_n (n := 24) rfl (by omega) (by omega), oB_s, ast_n (n := 24) rfl (by omega) (by omega), oB_s, ald_n (n := 24) rfl (by omega) (by omega), oB_s, ast_n (n := 24) rfl (by omega) (by omega), oB_s, ald_n (n := 24) rfl (by omega) (by omega), oB_s, ast_n (n := 24) rfl (by omega) (by omega), oB_s, ald_n (n := 24) rfl (by omega) (by omega), oB_s, ast_n (n := 24) rfl (by omega) (by omega), oB_s, ald_n (n := 24) rfl (by omega) (by omega), oB_s, ast_n (n := 24) rfl (by omega) (by omega), oB_s, jn_add]
      exact e1
    · obtain ⟨g1, g2, g3, g4, g5⟩ := e3 i (by omega)
      have q : ∀ (f : Nat → Int32) (x : Int32), va_up f k x i = f i := fun f x => by rw [up_at, if_neg (by omega)]
      exact ⟨g1.trans (q _ _), g2.trans (q _ _), g3.trans (q _ _), g4.trans (q _ _), g5.trans (q _ _)⟩
    · by_cases h3 : i = k
      · obtain ⟨g1, g2, g3, g4, g5⟩ := e3 i (by omega)
        have q : ∀ (f : Nat → Int32) (x : Int32), va_up f k x i = x := fun f x => by rw [up_at, if_pos h3]
        rw [h3] at g1 g2 g3 g4 g5 q ⊢
        exact ⟨g1.trans (q _ _), g2.trans (q _ _), g3.trans (q _ _), g4.trans (q _ _), g5.trans (q _ _)⟩
      · exact e4 i (by omega) h2
theorem re_960 : ∀ m k M, k + m = 960 → ∃ M', E_177 d (130, [some (.ref 52), some (.int (jn k))], [], M) = E_177 d (169, [some (.ref 52), some (.int (jn 0))], [], M') ∧ Fr [54, 56] M M' ∧ (∀ i, i < k → M'.1 54 i = M.1 54 i ∧ M'.1 56 i = M.1 56 i) ∧
    ∀ i, k ≤ i → i < 960 → M'.1 54 i = M.1 82 i ∧ M'.1 56 i = M.1 84 i := by
  intro m
  induction m with
  | zero =>
    intro k M hk
    exact ⟨M, by rw [h_177_130, ilt_neg (by omega) (by omega)], Fr.rf, fun i _ => ⟨rfl, rfl⟩, fun i h1 h2 => by omega⟩
  | succ m ih =>
    intro k M hk
    obtain ⟨M', e1, e2, e3, e4⟩ := ih (k + 1) (sI (sI M 54 (va_up (M.1 54) k (M.1 82 k))) 56 (va_up (M.1 56) k (M.1 84 k))) (by omega)
    refine ⟨M', ?_, Fr.trans ((Fr.sI (by decide)).trans (Fr.sI (by decide))) e2, fun i hi => ?_, fun i h1 h2 => ?_⟩
    · rw [h_177_130, ilt_pos (by omega) (by omega), ald_n (n := 960) rfl (by omega) (by omega), oB_s, ast_n (n := 960) rfl (by omega) (by omega), oB_s, ald_n (n := 960) rfl (by omega) (by omega), oB_s, ast_n (n := 960) rfl (by omega) (by omega), oB_s, jn_add]
      exact e1
    · obtain ⟨g1, g2⟩ := e3 i (by omega)
      have q : ∀ (f : Nat → Int32) (x : Int32), va_up f k x i = f i := fun f x => by rw [up_at, if_neg (by omega)]
      exact ⟨g1.trans (q _ _), g2.trans (q _ _)⟩
    · by_cases h3 : i = k
      · obtain ⟨g1, g2⟩ := e3 i (by omega)
        have q : ∀ (f : Nat → Int32) (x : Int32), va_up f k x i = x := fun f x => by rw [up_at, if_pos h3]
        rw [h3] at g1 g2 q ⊢
        exact ⟨g1.trans (q _ _), g2.trans (q _ _)⟩
      · exact e4 i (by omega) h2
theorem KM_cp {P P' : MP} {K : KT} {M M' : PM} (hk : KOk K) (h : KM P K M) (h0 : M'.1 52 P'.1.1 = M.1 52 P.1.1 ∧ M'.1 52 P'.1.2.1 = M.1 52 P.1.2.1 ∧ M'.1 52 P'.1.2.2.1 = M.1 52 P.1.2.2.1 ∧ M'.1 52 P'.1.2.2.2.1 = M.1 52 P.1.2.2.2.1 ∧ M'.1 52 P'.1.2.2.2.2 = M.1 52 P.1.2.2.2.2)
    (h1 : ∀ i, i < 24 → M'.1 P'.2.1.1 i = M.1 P.2.1.1 i ∧ M'.1 P'.2.1.2.2.1 i = M.1 P.2.1.2.2.1 i ∧ M'.1 P'.2.2.1 i = M.1 P.2.2.1 i ∧ M'.1 P'.2.2.2.1 i = M.1 P.2.2.2.1 i ∧ M'.1 P'.2.2.2.2 i = M.1 P.2.2.2.2 i)
    (h2 : ∀ i, i < 960 → M'.1 P'.2.1.2.1 i = M.1 P.2.1.2.1 i ∧ M'.1 P'.2.1.2.2.2 i = M.1 P.2.1.2.2.2 i) : KM P' K M' := by
  obtain ⟨⟨a1, a2, a3, a4, a5⟩, a6, a7, a8⟩ := h
  obtain ⟨⟨k1, k2⟩, ⟨k3, k4⟩, ⟨k5, -⟩, -⟩ := hk
  obtain ⟨b1, b2, b3, b4, b5⟩ := h0
  refine ⟨⟨b1.trans a1, b2.trans a2, b3.trans a3, b4.trans a4, b5.trans a5⟩, fun i t hi => ?_, fun i r hi => ?_, fun i q hi => ?_⟩
  · have hl : i < K.1.length := (List.getElem?_eq_some_iff.mp hi).1
    have h40 := (k2 t (List.mem_of_getElem? hi)).2
    exact ⟨((h1 i (by omega)).1).trans (a6 i t hi).1, AT_congr (a6 i t hi).2 (fun j h3 h4 => (h2 j (by omega)).1)⟩
  · have hl : i < K.2.1.length := (List.getElem?_eq_some_iff.mp hi).1
    have h8 := k4 r (List.mem_of_getElem? hi)
    have h9 := h8.2.2.1
    have h10 := h8.2.2.2.1
    obtain ⟨c1, c2, c3, c4⟩ := a7 i r hi
    exact ⟨((h1 (2 * i) (by omega)).2.1).trans c1, ((h1 (2 * i + 1) (by omega)).2.1).trans c2, AT_congr c3 (fun j h3 h4 => (h2 j (by omega)).2), AT_congr c4 (fun j h3 h4 => (h2 j (by omega)).2)⟩
  · have hl : i < K.2.2.1.length := (List.getElem?_eq_some_iff.mp hi).1
    obtain ⟨c1, c2, c3⟩ := a8 i q hi
    obtain ⟨-, -, d1, d2, d3⟩ := h1 i (by omega)
    exact ⟨d1.trans c1, d2.trans c2, d3.trans c3⟩
def im52 (M : PM) : Nat → Int32 := va_up (va_up (va_up (va_up (va_up (va_up (M.1 52) 48 (jn 1)) 49 (M.1 52 0)) 52 (M.1 52 3)) 55 (M.1 52 6)) 59 (M.1 52 11)) 60 (M.1 52 12)
theorem m_image (hd : 4 ≤ d) (hA : AOk A) (h : RM A M) : MI (pcl GG lay d 176 [.ref 52] M) M (F_image A) := by
  obtain ⟨d, rfl⟩ := ex_add hd
  obtain ⟨M1, e1, e2, -, e4⟩ := im_24 (d := d + 3) 24 0 (sI M 52 (im52 M)) (by omega)
  obtain ⟨M2, f1, f2, -, f4⟩ := im_960 (d := d + 3) 960 0 M1 (by omega)
  have s0 : pcl GG lay (d + 4) 176 [.ref 52] M = E_176 (d + 3) (47, [some (.ref 52), some (.int (jn 0))], [], sI M 52 (im52 M)) := by
    rw [q_176]
    simp only [wr_e, sI_sI, sI_k]
    rfl
  have t0 : M1.1 52 0 = jn (tsA A).length := by rw [e2.1 52 (by decide), sI_k]; exact h.1.1.1
  have hf : Fr [52, 81, 82, 83, 84, 85, 86, 87] M M2 := ((Fr.sI (by decide)).trans (e2.mono (by decide))).trans (f2.mono (by decide))
  have h52 : M2.1 52 = im52 M := by rw [f2.1 52 (by decide), e2.1 52 (by decide), sI_k]
  obtain ⟨a, ⟨b1, b2⟩, c, e, f, g⟩ := h
  refine ⟨M2, by rw [s0, e1, f1, t0]; rfl, ⟨?_, ⟨?_, fun K hK => ?_⟩, ?_, ?_, ?_, ?_⟩, Lo.fr hf (by decide)⟩
  · refine KM_eq a (fun j hj => ?_) (fun k hk => hf.1 k (by revert k hk; decide))
    rw [h52]
    unfold im52
    simp only [up_at]
    have : j ≠ 48 ∧ j ≠ 49 ∧ j ≠ 52 ∧ j ≠ 55 ∧ j ≠ 59 ∧ j ≠ 60 := by revert j hj; decide
    rw [if_neg this.2.2.2.2.2, if_neg this.2.2.2.2.1, if_neg this.2.2.2.1, if_neg this.2.2.1, if_neg this.2.1, if_neg this.1]
  · rw [h52]; exact (bI_1 rfl).symm
  · have hK : some A.1 = some K := hK
    cases hK
    refine KM_cp (P := mpN) hA.1 a (by rw [h52]; exact ⟨rfl, rfl, rfl, rfl, rfl⟩) (fun i hi => ?_) (fun i hi => ?_)
    · obtain ⟨g1, g2, g3, g4, g5⟩ := e4 i (by omega) hi
      show M2.1 81 i = M.1 53 i ∧ M2.1 83 i = M.1 55 i ∧ M2.1 85 i = M.1 57 i ∧ M2.1 86 i = M.1 58 i ∧ M2.1 87 i = M.1 59 i
      rw [f2.1 81 (by decide), f2.1 83 (by decide), f2.1 85 (by decide), f2.1 86 (by decide), f2.1 87 (by decide)]
      exact ⟨g1, g2, g3, g4, g5⟩
    · obtain ⟨g1, g2⟩ := f4 i (by omega) hi
      rw [e2.1 54 (by decide)] at g1
      rw [e2.1 56 (by decide)] at g2
      exact ⟨g1, g2⟩
  · exact TX_eq c (by rw [h52]; rfl) (hf.1 _ (by decide)) (hf.2 _ (by decide))
  · exact SX_eq e (hf.1 _ (by decide)) (hf.1 _ (by decide)) (hf.2 _ (by decide))
  · rw [h52]; exact f
  · exact CX_eq g (hf.1 _ (by decide))
theorem d_forget {n r0 : Nat} {h : HT} (hn : n ≤ 24) (hok : SOk 24 h) : ∀ m k M, k + m = 8 → M.1 52 6 = jn n → M.1 52 0 = jn r0 → SX 61 62 63 ((fun s => if s < k then (hForget h n).1 s else h.1 s), h.2) M → ∃ M', E_177 (d + 1) (169, [some (.ref 52), some (.int (jn k))], [], M) = rI (jn r0) M' ∧ Fr [61] M M' ∧ SX 61 62 63 (hForget h n) M' := by
  intro m
  induction m with
  | zero =>
    intro k M hk h6 h0 hS
    refine ⟨M, by rw [h_177_169, ilt_neg (by omega) (by omega), h0], Fr.rf, fun s hs => ?_⟩
    obtain ⟨g1, g2, g3⟩ := hS s hs
    exact ⟨by rw [g1]; simp only; rw [if_pos (by omega)], g2, g3⟩
  | succ m ih =>
    intro k M hk h6 h0 hS
    obtain ⟨g1, g2, g3⟩ := hS k (by omega)
    simp only at g1
    rw [if_neg (by omega)] at g1
    have hw : pcl GG lay (d + 1) 75 [.ref 52, .int (jn k)] M = rI (bI (100 ≤ (h.1 k).toInt)) M := by
      rw [q_75, ald_n (n := 8) rfl (by omega) (by omega), oB_s, rZ_0, rZ_1, g1]
      simp (disch := omega) only [jlt]
      unfold bI
      repeat' split
      all_goals first
        | rfl
        | (exfalso; omega)
    have nxt : ∀ M2, Fr [61] M M2 → (M2.1 61 k = (hForget h n).1 k) → (∀ s, s ≠ k → M2.1 61 s = M.1 61 s) → ∃ M', E_177 (d + 1) (169, [some (.ref 52), some (.int (jn (k + 1)))], [], M2) = rI (jn r0) M' ∧ Fr [61] M M' ∧ SX 61 62 63 (hForget h n) M' := by
      intro M2 hf hk2 ho
      obtain ⟨M', e1, e2, e3⟩ := ih (k + 1) M2 (by omega) (by rw [hf.1 52 (by decide)]; exact h6) (by rw [hf.1 52 (by decide)]; exact h0) (fun s hs => by
        obtain ⟨g1, g2, g3⟩ := hS s hs
        rw [hf.1 62 (by decide), hf.2 63 (by decide)]
        refine ⟨?_, g2, g3⟩
        by_cases e : s = k
        · subst e; rw [hk2]; simp only; rw [if_pos (by omega)]
        · rw [ho s e, g1]
          simp only
          by_cases e2 : s < k
          · rw [if_pos e2, if_pos (by omega)]
          · rw [if_neg e2, if_neg (by omega)])
      exact ⟨M', e1, hf.trans e2, e3⟩
    rw [h_177_169, ilt_pos (by omega) (by omega), hw, kI_r, ald_n (n := 8) rfl (by omega) (by omega), oB_s, g1, h6, jn_add]
    simp only [bI_0]
    have hF : (hForget h n).1 k = if 0 ≤ (h.1 k).toInt ∧ (h.1 k).toInt < 100 ∧ (n : Int) ≤ (h.1 k).toInt then jz 1 else h.1 k := rfl
    have hcase := (hok k (by omega)).2
    by_cases h1 : 100 ≤ (h.1 k).toInt
    · rw [if_neg (not_not_intro h1)]
      exact nxt M Fr.rf (by rw [hF, if_neg (by omega)]; exact g1) (fun _ _ => rfl)
    rw [if_pos h1]
    simp only [jlt (show n < 2147483648 by omega)]
    by_cases h2 : (h.1 k).toInt < (n : Int)
    · rw [if_pos h2]
      exact nxt M Fr.rf (by rw [hF, if_neg (by omega)]; exact g1) (fun _ _ => rfl)
    · rw [if_neg h2, ast_n (n := 8) rfl (by omega) (by omega), oB_s]
      refine nxt _ (Fr.sI (by decide)) ?_ (fun s hs => ?_)
      · rw [hF, if_pos (by omega), sI_k, up_at, if_pos rfl]
      · rw [sI_k, up_at, if_neg hs]
def re52 (M : PM) : Nat → Int32 := va_up (va_up (va_up (va_up (va_up (M.1 52) 0 (M.1 52 49)) 3 (M.1 52 52)) 6 (M.1 52 55)) 11 (M.1 52 59)) 12 (M.1 52 60)
theorem m_restore (hd : 5 ≤ d) (hA : AOk A) (h : RM A M) : MI (pcl GG lay d 177 [.ref 52] M) M (F_restore A) := by
  obtain ⟨d, rfl⟩ := ex_add hd
  unfold F_restore
  cases hI : A.2.1 with
  | none =>
    simp only
    rw [q_177, h.2.1.1, hI, bI_n (b := (none : Option KT).isSome = true) (by simp), ieq_pos rfl]; exact m_ref (by omega) h (by omega)
  | some K =>
    simp only
    obtain ⟨M1, e1, e2, -, e4⟩ := re_24 (d := d + 4) 24 0 (sI M 52 (re52 M)) (by omega)
    obtain ⟨M2, f1, f2, -, f4⟩ := re_960 (d := d + 4) 960 0 M1 (by omega)
    have s0 : pcl GG lay (d + 5) 177 [.ref 52] M = E_177 (d + 4) (56, [some (.ref 52), some (.int (jn 0))], [], sI M 52 (re52 M)) := by
      rw [q_177, h.2.1.1, hI, bI_1 (b := (some K).isSome = true) rfl, ieq_neg (by omega) (by omega) (by omega)]
      simp only [wr_e, sI_sI, sI_k]
      rfl
    have hk := hA.2.1 K hI
    obtain ⟨a, ⟨b1, b2⟩, c, e, f, g⟩ := h
    have hKM := b2 K hI
    have hf : Fr [52, 53, 54, 55, 56, 57, 58, 59] M M2 := ((Fr.sI (by decide)).trans (e2.mono (by decide))).trans (f2.mono (by decide))
    have h52 : M2.1 52 = re52 M := by rw [f2.1 52 (by decide), e2.1 52 (by decide), sI_k]
    have l24 : K.2.2.1.length ≤ 24 := hk.2.2.1.1
    obtain ⟨M3, g1, g2, g3⟩ := d_forget (d := d + 3) (n := K.2.2.1.length) (r0 := K.1.length) (h := A.2.2.2.1) l24 (fun s hs => by
      obtain ⟨q1, q2⟩ := hA.2.2.2 s hs
      have l3 : A.1.2.2.1.length ≤ 24 := hA.1.2.2.1.1
      refine ⟨q1, ?_⟩
      rcases q2 with q | ⟨w, hw, q⟩ | q
      · exact Or.inl q
      · exact Or.inr (Or.inl ⟨w, by omega, q⟩)
      · exact Or.inr (Or.inr q)) 8 0 M2 (by omega) (by rw [h52]; exact hKM.1.2.2.1) (by rw [h52]; exact hKM.1.1) (fun s hs => by
        obtain ⟨q1, q2, q3⟩ := e s hs
        rw [hf.1 61 (by decide), hf.1 62 (by decide), hf.2 63 (by decide)]
        exact ⟨by rw [q1]; simp only; rw [if_neg (by omega)], q2, q3⟩)
    have hf3 : Fr [52, 53, 54, 55, 56, 57, 58, 59, 61] M M3 := (hf.mono (by decide)).trans (g2.mono (by decide))
    have h523 : M3.1 52 = re52 M := by rw [g2.1 52 (by decide), h52]
    refine ⟨M3, by rw [s0, e1, f1, g1], ⟨?_, ⟨?_, fun K2 hK2 => ?_⟩, ?_, ?_, ?_, ?_⟩, Lo.fr hf3 (by decide)⟩
    · refine KM_cp (P := mpO) hk hKM (by rw [h523]; exact ⟨rfl, rfl, rfl, rfl, rfl⟩) (fun i hi => ?_) (fun i hi => ?_)
      · obtain ⟨q1, q2, q3, q4, q5⟩ := e4 i (by omega) hi
        show M3.1 53 i = M.1 81 i ∧ M3.1 55 i = M.1 83 i ∧ M3.1 57 i = M.1 85 i ∧ M3.1 58 i = M.1 86 i ∧ M3.1 59 i = M.1 87 i
        rw [g2.1 53 (by decide), g2.1 55 (by decide), g2.1 57 (by decide), g2.1 58 (by decide), g2.1 59 (by decide), f2.1 53 (by decide), f2.1 55 (by decide), f2.1 57 (by decide), f2.1 58 (by decide), f2.1 59 (by decide)]
        exact ⟨q1, q2, q3, q4, q5⟩
      · obtain ⟨q1, q2⟩ := f4 i (by omega) hi
        rw [e2.1 82 (by decide)] at q1
        rw [e2.1 84 (by decide)] at q2
        show M3.1 54 i = M.1 82 i ∧ M3.1 56 i = M.1 84 i
        rw [g2.1 54 (by decide), g2.1 56 (by decide)]
        exact ⟨q1, q2⟩
    · rw [h523]; show M.1 52 48 = _; rw [b1, hI]
    · refine KM_eq (b2 K2 (hI.trans hK2)) (fun j hj => ?_) (fun k hk => hf3.1 k (by revert k hk; decide))
      rw [h523]
      unfold re52
      simp only [up_at]
      have : j ≠ 0 ∧ j ≠ 3 ∧ j ≠ 6 ∧ j ≠ 11 ∧ j ≠ 12 := by revert j hj; decide
      rw [if_neg this.2.2.2.2, if_neg this.2.2.2.1, if_neg this.2.2.1, if_neg this.2.1, if_neg this.1]
    · exact TX_eq c (by rw [h523]; rfl) (hf3.1 _ (by decide)) (hf3.2 _ (by decide))
    · exact g3
    · rw [h523]; exact f
    · exact CX_eq g (hf3.1 _ (by decide))
end
