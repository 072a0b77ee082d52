/-! adds: one strategy more, told by the law's own row too -/
theorem RX_low {A : AT} {M M' : PM} (h : RX A M) (hl : Lo M M') : RX A M' := by
  obtain ⟨a, ⟨b1, b2⟩, c, e, f, g⟩ := h
  have q1 : ∀ k, k < 52 → M'.1 k = M.1 k := fun k hk => (hl k hk).1
  have q2 : ∀ k, k < 52 → M'.2 k = M.2 k := fun k hk => (hl k hk).2
  refine ⟨KX_eq a (q1 _ (by omega)) (q1 _ (by omega)) (q1 _ (by omega)) (q1 _ (by omega)) (q1 _ (by omega)) (q1 _ (by omega)), ⟨by rw [q1 0 (by omega)]; exact b1, fun K hK => KX_eq (b2 K hK) (q1 _ (by omega)) (q1 _ (by omega)) (q1 _ (by omega)) (q1 _ (by omega)) (q1 _ (by omega)) (q1 _ (by omega))⟩, TX_eq c (by rw [q1 48 (by omega)]) (q1 49 (by omega)) (q2 50 (by omega)), SX_eq e (q1 16 (by omega)) (q1 17 (by omega)) (q2 18 (by omega)), by rw [q1 0 (by omega)]; exact f, CX_eq g (q1 51 (by omega))⟩
theorem lo_52 {M : PM} {f : Nat → Int32} : Lo M (sI M 52 f) := fun k hk => ⟨by simp [sI, show k ≠ 52 by omega], rfl⟩
abbrev stA (A : AT) (q : SG) : AT := setK A (tsA A, rsA A, ssA A ++ [q], cmA A, sdA A)
theorem F_strategy_at {A : AT} {k a b : Int32} (hs : stOk A k a b) (hl : (ssA A).length < 24) : F_strategy A k a b = (jn (ssA A).length, stA A (sgNew k a b)) := by
  unfold F_strategy
  rw [if_neg (fun z => z hs), if_neg (by omega)]
theorem l_adds {d w : Nat} {A : AT} {M : PM} {k a b : Int32} (hd : 8 ≤ d) (hA : AOk A) (h : RX A M) (hs : stOk A k a b) (hw : (ssA A).length = w) (hw24 : w < 24) (hb : M.1 52 0 = jn w) :
    ∃ M', pcl GG laz d 72 [.ref 0, .ref 52, .int k, .int a, .int b] M = rI (jn 1) M' ∧ RX (stA A (sgNew k a b)) M' ∧ AOk (stA A (sgNew k a b)) ∧ M'.1 52 0 = jn (w + 1) ∧ ∀ j, 0 < j → j < 5 → M'.1 52 j = M.1 52 j := by
  obtain ⟨d, rfl⟩ := ex_add (show 1 ≤ d by omega)
  have hA' : AOk (stA A (sgNew k a b)) := by
    have := k_strategy (a := k) (b := a) (c := b) hA
    rw [F_strategy_at hs (by omega)] at this
    exact this
  have fin : ∀ M1 : PM, Lo M M1 → M1.1 52 0 = jn (w + 1) → (∀ j, 0 < j → j < 5 → M1.1 52 j = M.1 52 j) → ∃ M', (kI (pcl GG laz d 31 [.ref 0, .int k, .int a, .int b] M1) fun r6 M6 => (if r6 = jn w then (rZ (jn 1) M6) else (rZ (jn 0) M6))) = rI (jn 1) M' ∧ RX (stA A (sgNew k a b)) M' ∧ AOk (stA A (sgNew k a b)) ∧ M'.1 52 0 = jn (w + 1) ∧ ∀ j, 0 < j → j < 5 → M'.1 52 j = M.1 52 j := by
    intro M1 hl h0 hj
    have x := x_strategy (d := d) (a := k) (b := a) (c := b) (by omega) hA (RX_low h hl)
    rw [F_strategy_at hs (by omega), hw] at x
    obtain ⟨M2, e1, e2, e3⟩ := x.up
    refine ⟨M2, ?_, e2, hA', ?_, fun j j1 j2 => ?_⟩
    · rw [e1, kI_r, if_pos rfl, rZ_1]
    · rw [(e3 52 (by omega)).1, h0]
    · rw [(e3 52 (by omega)).1, hj j j1 j2]
  have go : ∀ x y z : Int32, ∃ M', (kI (pcl GG laz d 31 [.ref 0, .int k, .int a, .int b] (sI (sI (sI (sI M 52 (va_up (M.1 52) 0 (jn w + jn 1))) 52 (va_up ((sI M 52 (va_up (M.1 52) 0 (jn w + jn 1))).1 52) (5 + w) x)) 52 (va_up ((sI (sI M 52 (va_up (M.1 52) 0 (jn w + jn 1))) 52 (va_up ((sI M 52 (va_up (M.1 52) 0 (jn w + jn 1))).1 52) (5 + w) x)).1 52) (29 + w) y)) 52 (va_up ((sI (sI (sI M 52 (va_up (M.1 52) 0 (jn w + jn 1))) 52 (va_up ((sI M 52 (va_up (M.1 52) 0 (jn w + jn 1))).1 52) (5 + w) x)) 52 (va_up ((sI (sI M 52 (va_up (M.1 52) 0 (jn w + jn 1))) 52 (va_up ((sI M 52 (va_up (M.1 52) 0 (jn w + jn 1))).1 52) (5 + w) x)).1 52) (29 + w) y)).1 52) (53 + w) z))) fun r6 M6 => (if r6 = jn w then (rZ (jn 1) M6) else (rZ (jn 0) M6))) = rI (jn 1) M' ∧ RX (stA A (sgNew k a b)) M' ∧ AOk (stA A (sgNew k a b)) ∧ M'.1 52 0 = jn (w + 1) ∧ ∀ j, 0 < j → j < 5 → M'.1 52 j = M.1 52 j := by
    intro x y z
    refine fin _ (lo_52.trans (lo_52.trans (lo_52.trans lo_52))) ?_ (fun j j1 j2 => ?_)
    · simp only [sI_k, up_at]
      rw [if_neg (by omega), if_neg (by omega), if_neg (by omega), if_pos trivial, jn_add]
    · simp only [sI_k, up_at]
      rw [if_neg (by omega), if_neg (by omega), if_neg (by omega), if_neg (by omega)]
  rw [q_72, b_ald (by omega), oB_s, hb, b_ast (by omega), oB_s]
  simp only [jn_add (5), jn_add (29), jn_add (53)]
  rw [b_ast (by omega), oB_s]
  by_cases c1 : k = jn 1
  · rw [if_pos c1, b_ast (by omega), oB_s]
    by_cases c3 : k = jn 3
    · rw [if_pos c3, b_ast (by omega), oB_s]; exact go _ _ _
    · rw [if_neg c3]
      by_cases c4 : k = jn 4
      · rw [if_pos c4, b_ast (by omega), oB_s]; exact go _ _ _
      · rw [if_neg c4, b_ast (by omega), oB_s]; exact go _ _ _
  · rw [if_neg c1]
    by_cases c2 : k = jn 2
    · rw [if_pos c2, b_ast (by omega), oB_s]
      by_cases c3 : k = jn 3
      · rw [if_pos c3, b_ast (by omega), oB_s]; exact go _ _ _
      · rw [if_neg c3]
        by_cases c4 : k = jn 4
        · rw [if_pos c4, b_ast (by omega), oB_s]; exact go _ _ _
        · rw [if_neg c4, b_ast (by omega), oB_s]; exact go _ _ _
    · rw [if_neg c2, b_ast (by omega), oB_s]
      by_cases c3 : k = jn 3
      · rw [if_pos c3, b_ast (by omega), oB_s]; exact go _ _ _
      · rw [if_neg c3]
        by_cases c4 : k = jn 4
        · rw [if_pos c4, b_ast (by omega), oB_s]; exact go _ _ _
        · rw [if_neg c4, b_ast (by omega), oB_s]; exact go _ _ _
