/-! strategy, says, status -/
abbrev overB (k : Int32) : Prop := k = jn 3 ∨ k = jn 4
abbrev stOk (A : AT) (k a b : Int32) : Prop := (0 ≤ k.toInt ∧ k.toInt < 14) ∧ (k = jn 0 → 0 ≤ a.toInt ∧ a.toInt < (rsA A).length) ∧ (2 < k.toInt → 0 ≤ a.toInt ∧ a.toInt < (ssA A).length) ∧ (overB k → 0 ≤ b.toInt ∧ b.toInt < (ssA A).length)
def sgNew (k a b : Int32) : SG := (k.toInt.toNat, if k = jn 1 ∨ k = jn 2 then jz 1 else a, if overB k then b else jz 1)
def F_strategy (A : AT) (k a b : Int32) : Int32 × AT := if ¬ stOk A k a b then rfs A 1 else if 24 ≤ (ssA A).length then rfs A 7 else (jn (ssA A).length, setK A (tsA A, rsA A, ssA A ++ [sgNew k a b], cmA A, sdA A))
def such (k : Nat) (a : Int32) : Prop := if a = jn 1 then k ≤ 2 else if a = jn 2 then 5 ≤ k else if a = jn 3 then k = 3 ∨ k = 4 else if a = jn 4 then 6 ≤ k ∧ k ≤ 12 else True
noncomputable def F_says (A : AT) (s a : Int32) : Int32 × AT := if ¬ thr s ∨ ¬ (0 ≤ a.toInt ∧ a.toInt < 5) then rfs A 1 else if isR A s.toInt.toNat then rfs A 2 else match lk (ssA A) (hel A s.toInt.toNat) with
  | none => rfs A 3
  | some q => @ite _ (¬ such q.1 a) (Classical.propDecidable _) (rfs A 2) (if a = jn 0 then jn q.1 else if a = jn 1 then (if q.1 = 0 then q.2.1 else if q.1 = 1 then jn 99 else jn 98) else if a = jn 2 then q.2.1 else if a = jn 3 then jn 100 * q.2.1 + q.2.2 else jn (wt (ssA A) (hel A s.toInt.toNat).toInt.toNat), A)
def allN (l : List Tm) : Nat := (l.map sz).sum
def F_status (A : AT) (w : Int32) : Int32 × AT := (if w = jn 0 then jn (tsA A).length else if w = jn 1 then jn (rsA A).length else if w = jn 2 then jn (ssA A).length else if w = jn 3 then jn (cmA A) else if w = jn 4 then jn (allN (tsA A)) else if w = jn 5 then sdA A else if w = jn 6 then jn A.2.2.1.length else if 10 < w.toInt ∧ w.toInt < 18 then A.2.2.2.2.2 (w.toInt.toNat - 10) else jz 1, A)
section
variable {d : Nat} {A : AT} {M : PM} {a b c e f : Int32} {v : Int64}
theorem k_strategy (hA : AOk A) : AOk (F_strategy A a b c).2 := by
  unfold F_strategy
  split
  · exact hA
  rename_i h1
  split
  · exact hA
  rename_i h2
  have h1 : stOk A a b c := Classical.byContradiction h1
  obtain ⟨⟨k1, k2, ⟨k3, k4⟩, k5⟩, k6, k7, k8⟩ := hA
  refine ⟨⟨k1, k2, ⟨?_, fun i q hi => ?_⟩, k5⟩, k6, k7, fun s hs => ?_⟩
  · show (ssA A ++ [sgNew a b c]).length ≤ 24
    rw [List.length_append, List.length_singleton]; omega
  · rcases app_get hi with ⟨h3, h4⟩ | ⟨h3, h4⟩
    · exact k4 i q h4
    · subst h4
      subst h3
      obtain ⟨g1, g2, g3, g4⟩ := h1
      obtain ⟨k, hk, rfl⟩ := inn (n := 14) g1
      have e : sgNew (jn k) b c = (k, if jn k = jn 1 ∨ jn k = jn 2 then jz 1 else b, if overB (jn k) then c else jz 1) := by unfold sgNew; rw [jnN (by omega)]
      rw [e]
      refine ⟨by simp only; omega, fun h0 => ?_, fun h0 => ?_, fun h0 => ?_, ?_⟩
      · simp only at h0 ⊢
        subst h0
        obtain ⟨r, hr, rfl⟩ := inn (g2 rfl)
        exact ⟨r, hr, if_neg (by decide)⟩
      · simp only at h0 ⊢
        rw [if_pos]
        rcases h0 with rfl | rfl
        · exact Or.inl rfl
        · exact Or.inr rfl
      · simp only at h0 ⊢
        obtain ⟨r, hr, rfl⟩ := inn (g3 (by rw [jn_toInt (by omega)]; omega))
        exact ⟨r, hr, if_neg (by rw [jn_inj (by omega) (by omega), jn_inj (by omega) (by omega)]; omega)⟩
      · simp only
        by_cases h0 : k = 3 ∨ k = 4
        · rw [if_pos h0]
          have ho : overB (jn k) := by
            rcases h0 with rfl | rfl
            · exact Or.inl rfl
            · exact Or.inr rfl
          obtain ⟨r, hr, rfl⟩ := inn (g4 ho)
          exact ⟨r, hr, if_pos ho⟩
        · rw [if_neg h0, if_neg]
          unfold overB
          rw [jn_inj (by omega) (by omega), jn_inj (by omega) (by omega)]; exact h0
  · obtain ⟨g1, g2⟩ := k8 s hs
    refine ⟨g1, ?_⟩
    rcases g2 with g2 | ⟨w, hw, g2⟩ | g2
    · exact Or.inl g2
    · refine Or.inr (Or.inl ⟨w, ?_, g2⟩)
      show w < (ssA A ++ [sgNew a b c]).length
      rw [List.length_append]
      have : w < (ssA A).length := hw
      omega
    · exact Or.inr (Or.inr g2)
theorem k_says (hA : AOk A) : AOk (F_says A a b).2 := by
  unfold F_says
  split
  · exact hA
  split
  · exact hA
  split
  · exact hA
  · split
    · exact hA
    · exact hA
theorem c_over (hd : 1 ≤ d) : pcl GG lay d 64 [.int a] M = rI (bI (overB a)) M := by
  obtain ⟨d, rfl⟩ := ex_add hd
  rw [q_64]
  simp only [rZ_0, rZ_1]
  unfold bI
  by_cases h3 : a = jn 3
  · rw [if_pos h3, if_pos (Or.inl h3)]
  · rw [if_neg h3]
    by_cases h4 : a = jn 4
    · rw [if_pos h4, if_pos (Or.inr h4)]
    · rw [if_neg h4, if_neg (fun q => q.elim h3 h4)]
def laidW (M : PM) (w : Nat) (k f s wt : Int32) : PM := sI (sI (sI (sI M 2 (va_up (M.1 2) w k)) 3 (va_up (M.1 3) w f)) 4 (va_up (M.1 4) w s)) 5 (va_up (M.1 5) w wt)
theorem min_j {n : Nat} (h : n < 2147483648) (hd : 1 ≤ d) : pcl GG lay d 2 [.int (jn n), .int (jn 1000)] M = rI (jn (min 1000 n)) M := by
  rw [pcl_min hd]
  by_cases h2 : 1000 < n
  · rw [ilt_pos h2 h, Nat.min_eq_left (by omega)]
  · rw [ilt_neg (by omega) (by omega), Nat.min_eq_right (by omega)]
theorem min_j' {n : Nat} (h : n < 2147483648) (hd : 1 ≤ d) : pcl GG lay d 2 [.int (jn 1000), .int (jn n)] M = rI (jn (min 1000 n)) M := by
  rw [pcl_min hd]
  by_cases h2 : n < 1000
  · rw [ilt_pos h2 (by omega), Nat.min_eq_right (by omega)]
  · rw [ilt_neg (by omega) (by omega), Nat.min_eq_left (by omega)]
theorem puts4 {w : Nat} {k f s t : Int32} (hd : 2 ≤ d) (hw : w < 48) (ht : pcl GG lay d 2 [.int b, .int (jn 1000)] (sI (sI (sI M 2 (va_up (M.1 2) w k)) 3 (va_up (M.1 3) w f)) 4 (va_up (M.1 4) w s)) = rI t (sI (sI (sI M 2 (va_up (M.1 2) w k)) 3 (va_up (M.1 3) w f)) 4 (va_up (M.1 4) w s))) :
    (kV (pcl GG lay d 66 [.ref 2, .int (jn w), .int k] M) fun M4 => kV (pcl GG lay d 66 [.ref 3, .int (jn w), .int f] M4) fun M5 => kV (pcl GG lay d 66 [.ref 4, .int (jn w), .int s] M5) fun M6 => kI (pcl GG lay d 2 [.int b, .int (jn 1000)] M6) fun r7 M7 => kV (pcl GG lay d 66 [.ref 5, .int (jn w), .int r7] M7) fun M8 => rV M8) = rV (laidW M w k f s t) := by
  rw [c_put (n := 48) (by omega) rfl hw (by omega), kV_r, c_put (n := 48) (by omega) rfl hw (by omega), kV_r, c_put (n := 48) (by omega) rfl hw (by omega), kV_r]
  simp (disch := omega) only [sI_o]
  rw [ht, kI_r, c_put (n := 48) (by omega) rfl hw (by omega), kV_r]
  simp (disch := omega) only [sI_o]
  rfl
theorem c_ws {w k wa wb : Nat} (hd : 4 ≤ d) (hw : w < 48) (hk : k ≤ 13) (ha : 2 < k → ∃ s, s < 48 ∧ a = jn s ∧ M.1 5 s = jn wa) (hb : k = 3 ∨ k = 4 → ∃ s, s < 48 ∧ b = jn s ∧ M.1 5 s = jn wb) (hwa : wa ≤ 1000) (hwb : wb ≤ 1000) :
    pcl GG lay d 246 [.ref 1, .int (jn w), .int (jn k), .int a, .int b] M = rV (laidW M w (jn k) (if k = 1 ∨ k = 2 then jz 1 else a) (if k = 3 ∨ k = 4 then b else jz 1) (jn (min 1000 (1 + (if 2 < k then wa else 0) + (if k = 3 ∨ k = 4 then wb else 0))))) := by
  obtain ⟨d, rfl⟩ := ex_add hd
  rw [q_246]
  by_cases h12 : k = 1 ∨ k = 2
  · have e10 : ∀ u3, E_246 (d + 3) (10, [some (.ref 1), some (.int (jn w)), some (.int (jn k)), u3, some (.int b), none, none, none], [], M) = rV (laidW M w (jn k) (jz 1) (jz 1) (jn 1)) := by
      intro u3
      rw [h_246_10, c_over (by omega), kI_r]
      have ho : ¬ overB (jn k) := by unfold overB; rw [jn_inj (by omega) (by omega), jn_inj (by omega) (by omega)]; omega
      rw [bI_n ho, ieq_pos rfl, ilt_neg (by omega) (by omega), c_over (by omega), kI_r, bI_n ho, ieq_pos rfl]
      exact puts4 (by omega) hw (by rw [jn_add, jn_add, min_j (by omega) (by omega)]; rfl)
    have s1 : (if k = 1 ∨ k = 2 then jz 1 else a) = jz 1 := if_pos h12
    have s2 : (if k = 3 ∨ k = 4 then b else jz 1) = jz 1 := if_neg (by omega)
    have s3 : (if 2 < k then wa else 0) = 0 := if_neg (by omega)
    have s4 : (if k = 3 ∨ k = 4 then wb else 0) = 0 := if_neg (by omega)
    rw [s1, s2, s3, s4]
    rcases h12 with rfl | rfl
    · rw [ieq_pos rfl, e10]; rfl
    · rw [ieq_neg (by omega) (by omega) (by omega), ieq_pos rfl, e10]; rfl
  have s1 : (if k = 1 ∨ k = 2 then jz 1 else a) = a := if_neg h12
  rw [ieq_neg (by omega) (by omega) (by omega), ieq_neg (by omega) (by omega) (by omega), s1, c_over (by omega), kI_r]
  by_cases ho : k = 3 ∨ k = 4
  · have ho' : overB (jn k) := by
      rcases ho with rfl | rfl
      · exact Or.inl rfl
      · exact Or.inr rfl
    have hk2 : 2 < k := by
      clear ha hb
      omega
    obtain ⟨s, hs, rfl, es⟩ := ha hk2
    obtain ⟨t, ht, rfl, et⟩ := hb ho
    clear ha hb
    rw [bI_1 ho', ieq_neg (by omega) (by omega) (by omega), ilt_pos hk2 (by omega), c_weight (by omega) hs, kI_r, c_over (by omega), kI_r, bI_1 ho', ieq_neg (by omega) (by omega) (by omega), c_weight (by omega) ht, kI_r, es, et]
    have s2 : (if k = 3 ∨ k = 4 then jn t else jz 1) = jn t := if_pos ho
    have s3 : (if 2 < k then wa else 0) = wa := if_pos hk2
    have s4 : (if k = 3 ∨ k = 4 then wb else 0) = wb := if_pos ho
    rw [s2, s3, s4]
    exact puts4 (by omega) hw (by rw [jn_add, jn_add, min_j (by omega) (by omega)])
  · have ho' : ¬ overB (jn k) := by unfold overB; rw [jn_inj (by omega) (by omega), jn_inj (by omega) (by omega)]; exact ho
    have s2 : (if k = 3 ∨ k = 4 then b else jz 1) = jz 1 := if_neg ho
    have s4 : (if k = 3 ∨ k = 4 then wb else 0) = 0 := if_neg ho
    rw [bI_n ho', ieq_pos rfl, s2, s4]
    by_cases h2 : 2 < k
    · obtain ⟨s, hs, rfl, es⟩ := ha h2
      rw [ilt_pos h2 (by omega), c_weight (by omega) hs, kI_r, c_over (by omega), kI_r, bI_n ho', ieq_pos rfl, if_pos h2, es]
      exact puts4 (by omega) hw (by rw [jn_add, jn_add, min_j (by omega) (by omega)])
    · rw [ilt_neg (by omega) (by omega), c_over (by omega), kI_r, bI_n ho', ieq_pos rfl, if_neg h2]
      exact puts4 (by omega) hw (by rw [jn_add, jn_add, min_j (by omega) (by omega)])
theorem overB_n {k : Nat} (h : k < 14) : overB (jn k) = (k = 3 ∨ k = 4) := by
  unfold overB; rw [jn_inj (by omega) (by omega), jn_inj (by omega) (by omega)]
theorem c_stOk (hd : 2 ≤ d) (hA : AOk A) (h : RX A M) : pcl GG lay d 32 [.ref 0, .int a, .int b, .int c] M = rI (bI (stOk A a b c)) M := by
  obtain ⟨d, rfl⟩ := ex_add hd
  rw [q_32, c_hasR (by omega) hA h, kI_r, c_hasS (by omega) hA h, kI_r, c_over (by omega), kI_r, c_hasS (by omega) hA h, kI_r]
  simp only [rZ_0, rZ_1, rZ_b, bI_0]
  by_cases h1 : 0 ≤ a.toInt ∧ a.toInt < 14
  case neg =>
    rw [bI_n (b := stOk A a b c) (fun q => h1 q.1)]
    by_cases h2 : a < jn 0
    · rw [if_pos h2]
    · rw [if_neg h2, if_pos]
      rw [jlt (by omega)] at h2
      rw [jgt (by omega)]; omega
  obtain ⟨k, hk, rfl⟩ := inn (n := 14) h1
  rw [ilt_neg (by omega) (by omega), ilt_neg (by omega) (by omega)]
  by_cases h0 : k = 0
  · subst h0
    rw [ieq_pos rfl]
    congr 1
    unfold bI
    by_cases h2 : 0 ≤ b.toInt ∧ b.toInt < (rsA A).length
    · rw [if_pos h2, if_pos ⟨h1, fun _ => h2, fun q => by rw [jn_toInt (by omega)] at q; omega, fun q => by rw [overB_n (by omega)] at q; omega⟩]
    · rw [if_neg h2, if_neg (fun q => h2 (q.2.1 rfl))]
  rw [ieq_neg h0 (by omega) (by omega)]
  by_cases h2 : 2 < k
  case neg =>
    rw [ilt_neg (by omega) (by omega), bI_1 (b := stOk A (jn k) b c) ⟨h1, fun q => by rw [jn_inj (by omega) (by omega)] at q; omega, fun q => by rw [jn_toInt (by omega)] at q; omega, fun q => by rw [overB_n (by omega)] at q; omega⟩]
  rw [ilt_pos h2 (by omega)]
  have g0 : jn k = jn 0 → 0 ≤ b.toInt ∧ b.toInt < (rsA A).length := fun q => by rw [jn_inj (by omega) (by omega)] at q; omega
  have g2 : 2 < (jn k).toInt := by rw [jn_toInt (by omega)]; omega
  by_cases h3 : 0 ≤ b.toInt ∧ b.toInt < (ssA A).length
  case neg => rw [if_pos h3, bI_n (b := stOk A (jn k) b c) (fun q => h3 (q.2.2.1 g2))]
  rw [if_neg (not_not_intro h3)]
  by_cases h4 : overB (jn k)
  case neg => rw [if_pos h4, bI_1 (b := stOk A (jn k) b c) ⟨h1, g0, fun _ => h3, fun q => absurd q h4⟩]
  rw [if_neg (not_not_intro h4)]
  by_cases h5 : 0 ≤ c.toInt ∧ c.toInt < (ssA A).length
  · rw [if_neg (not_not_intro h5), bI_1 (b := stOk A (jn k) b c) ⟨h1, g0, fun _ => h3, fun _ => h5⟩]
  · rw [if_pos h5, bI_n (b := stOk A (jn k) b c) (fun q => h5 (q.2.2.2 h4))]
theorem x_strategy (hd : 7 ≤ d) (hA : AOk A) (h : RX A M) : XI (pcl GG lay d 31 [.ref 0, .int a, .int b, .int c] M) M (F_strategy A a b c) := by
  obtain ⟨d, rfl⟩ := ex_add hd
  have hl : (ssA A).length ≤ 24 := hA.1.2.2.1.1
  have e7 : M.1 1 7 = jn (ssA A).length := h.1.1.2.2.1
  rw [q_31, c_stOk (by omega) hA h, kI_r, e7]
  simp only [bI_0]
  unfold F_strategy
  by_cases h1 : stOk A a b c
  case neg => rw [if_pos h1, if_pos h1]; exact x_ref (by omega) h (by omega)
  rw [if_neg (not_not_intro h1), if_neg (not_not_intro h1)]
  by_cases h2 : 24 ≤ (ssA A).length
  · rw [if_pos h2, ilt_neg (by omega) (by omega)]; exact x_ref (by omega) h (by omega)
  rw [if_neg h2, ilt_pos (by omega) (by omega)]
  have hns : AOk (F_strategy A a b c).2 := k_strategy hA
  unfold F_strategy at hns
  rw [if_neg (not_not_intro h1), if_neg h2] at hns
  obtain ⟨g1, g2, g3, g4⟩ := h1
  obtain ⟨k, hk, rfl⟩ := inn (n := 14) g1
  have W : ∀ x : Int32, (0 ≤ x.toInt ∧ x.toInt < (ssA A).length) → ∃ s, s < 48 ∧ x = jn s ∧ M.1 5 s = jn (wt (ssA A) x.toInt.toNat) := by
    intro x hx
    obtain ⟨s, hs, rfl⟩ := inn hx
    have hq : (ssA A)[s]? = some (ssA A)[s] := by simp [hs]
    exact ⟨s, by omega, rfl, by rw [jnN (by omega)]; exact (h.1.2.2.2 s _ hq).2.2.2⟩
  rw [q_245, e7, c_ws (wa := wt (ssA A) b.toInt.toNat) (wb := wt (ssA A) c.toInt.toNat) (by omega) (by omega) (by omega) (fun q => W b (g3 (by rw [jn_toInt (by omega)]; omega))) (fun q => W c (g4 (by rw [overB_n (by omega)]; exact q))) (wt_le _ _) (wt_le _ _), kV_r, wr_e, kI_r]
  have e9 : (laidW M (ssA A).length (jn k) (if k = 1 ∨ k = 2 then jz 1 else b) (if k = 3 ∨ k = 4 then c else jz 1) (jn (min 1000 (1 + (if 2 < k then wt (ssA A) b.toInt.toNat else 0) + (if k = 3 ∨ k = 4 then wt (ssA A) c.toInt.toNat else 0))))).1 1 7 = jn (ssA A).length := e7
  rw [e9, jn_add, sI_k, up_at, if_pos rfl, jn_sub (by omega), Nat.add_sub_cancel]
  have hsg : sgNew (jn k) b c = (k, if k = 1 ∨ k = 2 then jz 1 else b, if k = 3 ∨ k = 4 then c else jz 1) := by
    unfold sgNew
    rw [jnN (by omega)]
    simp only [overB_n hk, jn_inj (show k < 2147483648 by omega) (show 1 < 2147483648 by omega), jn_inj (show k < 2147483648 by omega) (show 2 < 2147483648 by omega)]
  have hfr : Fr [1, 2, 3, 4, 5] M (sI (laidW M (ssA A).length (jn k) (if k = 1 ∨ k = 2 then jz 1 else b) (if k = 3 ∨ k = 4 then c else jz 1) (jn (min 1000 (1 + (if 2 < k then wt (ssA A) b.toInt.toNat else 0) + (if k = 3 ∨ k = 4 then wt (ssA A) c.toInt.toNat else 0))))) 1 (va_up ((laidW M (ssA A).length (jn k) (if k = 1 ∨ k = 2 then jz 1 else b) (if k = 3 ∨ k = 4 then c else jz 1) (jn (min 1000 (1 + (if 2 < k then wt (ssA A) b.toInt.toNat else 0) + (if k = 3 ∨ k = 4 then wt (ssA A) c.toInt.toNat else 0))))).1 1) 7 (jn ((ssA A).length + 1)))) := by
    unfold laidW
    exact ((((Fr.sI (by decide)).trans (Fr.sI (by decide))).trans (Fr.sI (by decide))).trans (Fr.sI (by decide))).trans (Fr.sI (by decide))
  refine ⟨_, rfl, setK_x h ?_ (hfr.mono (by decide)), Hi.fr hfr (by decide)⟩
  obtain ⟨⟨⟨a1, a2, a3, a4, a5⟩, a6, a7, a8⟩, -⟩ := h
  refine ⟨⟨a1, a2, ?_, a4, a5⟩, a6, a7, fun i q hi => ?_⟩
  · rw [sI_k, up_at, if_pos rfl]; simp [setK]
  · rw [hsg] at hi
    have hlt : ∀ (f : Nat → Int32) (x : Int32), i < (ssA A).length → va_up f (ssA A).length x i = f i := fun f x hi => by rw [up_at, if_neg (by omega)]
    have hat : ∀ (f : Nat → Int32) (x : Int32), i = (ssA A).length → va_up f (ssA A).length x i = x := fun f x hi => by rw [up_at, if_pos hi]
    have ok2 := hns.1.2.2.1.2
    simp only [setK, hsg] at ok2
    rcases app_get hi with ⟨h3, h4⟩ | ⟨h3, h4⟩
    · obtain ⟨b1, b2, b3, b4⟩ := a8 i q h4
      refine ⟨?_, ?_, ?_, ?_⟩
      · show va_up (M.1 2) _ _ i = _
        rw [hlt _ _ h3]; exact b1
      · show va_up (M.1 3) _ _ i = _
        rw [hlt _ _ h3]; exact b2
      · show va_up (M.1 4) _ _ i = _
        rw [hlt _ _ h3]; exact b3
      · show va_up (M.1 5) _ _ i = _
        rw [hlt _ _ h3]
        refine Eq.trans b4 (congrArg jn ?_)
        show wt (ssA A) i = wt (ssA A ++ [sgNew (jn k) b c]) i
        exact (wtF_app hA.1.2.2.1.2 (by show (ssA A).length < 1000; omega) _ _ h3).symm
    · subst h4
      refine ⟨?_, ?_, ?_, ?_⟩
      · show va_up (M.1 2) _ _ i = _
        rw [hat _ _ h3]
      · show va_up (M.1 3) _ _ i = _
        rw [hat _ _ h3]
      · show va_up (M.1 4) _ _ i = _
        rw [hat _ _ h3]
      · show va_up (M.1 5) _ _ i = _
        rw [hat _ _ h3]
        congr 1
        show _ = wt (ssA A ++ [sgNew (jn k) b c]) i
        rw [hsg, wt_eq ok2 hi (by show (ssA A ++ _).length < 1000; rw [List.length_append, List.length_singleton]; omega)]
        congr 2
        · congr 1
          split
          · rename_i h5
            obtain ⟨s, hs, rfl⟩ := inn (g3 (by rw [jn_toInt (by omega)]; omega))
            rw [if_neg (show ¬ (k = 1 ∨ k = 2) by omega), jnN (by omega)]
            exact (wtF_app hA.1.2.2.1.2 (by show (ssA A).length < 1000; omega) _ _ hs).symm
          · rfl
        · by_cases h5 : k = 3 ∨ k = 4
          · obtain ⟨s, hs, rfl⟩ := inn (g4 (by rw [overB_n (by omega)]; exact h5))
            rw [if_pos h5, if_pos h5, if_neg (by rw [jn_jz (by omega) (by omega)]; exact id), jnN (by omega)]
            exact (wtF_app hA.1.2.2.1.2 (by show (ssA A).length < 1000; omega) _ _ hs).symm
          · rw [if_neg h5, if_neg h5, if_pos rfl]
end
