/-! told: what all asking tells depends on terms, rules, strategies, what commutes and the seed alone -/
abbrev A0K (K : KT) : AT := (K, none, [], (fun _ => jz 1, fun _ => 0, fun _ _ => 0), jz 1, fun _ => jn 0)
theorem A0K_ok {K : KT} (h : KOk K) : AOk (A0K K) := ⟨h, fun _ e => (by cases e), ⟨Nat.zero_le _, fun q hq => (by cases hq)⟩, fun s _ => ⟨Nat.zero_le _, Or.inl rfl⟩⟩
def Tl (K : KT) (f : Nat → Int32) (F : PM → PO) : Prop := ∃ v : Int64, ∀ (A : AT) (M : PM), A.1 = K → AOk A → RX A M → Bb f M → ∃ M', F M = rL v M' ∧ RX A M' ∧ Hi M M'
section
variable {d : Nat} {K : KT} {f : Nat → Int32} {F G : PM → PO}
theorem tl_eq (h : ∀ M, F M = G M) (hG : Tl K f G) : Tl K f F := by
  have : F = G := funext h
  rw [this]
  exact hG
theorem tl_end {v : Int64} : Tl K f (fun M => rL v M) := ⟨v, fun A M _ _ h _ => ⟨M, rfl, h, Hi.rf⟩⟩
theorem tl_I {id : Nat} {vs : List Value} {g : Int32 → PM → PO} (hx : ∃ v, ∀ (A : AT) (M : PM), A.1 = K → AOk A → RX A M → XI (pcl GG lay d id vs M) M (v, A)) (hg : ∀ v, Tl K f (g v)) : Tl K f (fun M => kI (pcl GG laz d id vs M) g) := by
  obtain ⟨v, hx⟩ := hx
  obtain ⟨w, hw⟩ := hg v
  refine ⟨w, fun A M e hA h hb => ?_⟩
  obtain ⟨M1, k1, k2, k3⟩ := (hx A M e hA h).up
  obtain ⟨M2, k4, k5, k6⟩ := hw A M1 e hA k2 (hb.hi k3)
  exact ⟨M2, (show kI (pcl GG laz d id vs M) g = _ by rw [k1, kI_r]; exact k4), k5, k3.trans k6⟩
theorem tl_L {id : Nat} {vs : List Value} {g : Int64 → PM → PO} (hx : ∃ v, ∀ (A : AT) (M : PM), A.1 = K → AOk A → RX A M → XL (pcl GG lay d id vs M) M (v, A)) (hg : ∀ v, Tl K f (g v)) : Tl K f (fun M => kL (pcl GG laz d id vs M) g) := by
  obtain ⟨v, hx⟩ := hx
  obtain ⟨w, hw⟩ := hg v
  refine ⟨w, fun A M e hA h hb => ?_⟩
  obtain ⟨M1, k1, k2, k3⟩ := (hx A M e hA h).up
  obtain ⟨M2, k4, k5, k6⟩ := hw A M1 e hA k2 (hb.hi k3)
  exact ⟨M2, (show kL (pcl GG laz d id vs M) g = _ by rw [k1, kL_r]; exact k4), k5, k3.trans k6⟩
theorem tl_b {i : Nat} {g : Int32 → PM → PO} (hi : i < 80) (hg : Tl K f (g (f i))) : Tl K f (fun M => oB (aldI laz none M 52 (jn i)) fun v => g v M) := by
  obtain ⟨w, hw⟩ := hg
  refine ⟨w, fun A M e hA h hb => ?_⟩
  have : M.1 52 i = f i := by rw [show M.1 52 = f from hb]
  show ∃ M', oB (aldI laz none M 52 (jn i)) (fun v => g v M) = rL w M' ∧ _
  rw [b_ald hi, oB_s, this]
  exact hw A M e hA h hb
theorem tl_if {c : Prop} [Decidable c] (h1 : c → Tl K f F) (h2 : ¬ c → Tl K f G) : Tl K f (fun M => if c then F M else G M) := by
  by_cases h : c
  · simp only [if_pos h]; exact h1 h
  · simp only [if_neg h]; exact h2 h
/-! what each call tells -/
variable {t u w r q : Nat} {T U : Tm}
theorem tv_termOf {j : Nat} (hK : KOk K) (hd : 14 ≤ d) (ht : K.1[t]? = some T) (hj : j < 4) : ∃ v, ∀ (A : AT) (M : PM), A.1 = K → AOk A → RX A M → XI (pcl GG lay d 17 [.ref 0, .int (jn t), .int (jn j)] M) M (v, A) := by
  refine ⟨(F_termOf (A0K K) (jn t) (jn j)).1, fun A M e hA h => ?_⟩
  have x := x_termOf (a := jn t) (b := jn j) hd hA h
  obtain ⟨K', y⟩ := A
  obtain rfl : K' = K := e
  have key : F_termOf (K', y) (jn t) (jn j) = ((F_termOf (A0K K') (jn t) (jn j)).1, (K', y)) := by
    have hA0 := A0K_ok hK
    have hj4 : j = 0 ∨ j = 1 ∨ j = 2 ∨ j = 3 := by omega
    rcases hj4 with rfl | rfl | rfl | rfl
    · rw [F_termOf_0 hA ht, F_termOf_0 (A := A0K K') hA0 ht]
    · obtain ⟨a1, a2, -⟩ := tm_at hA ht
      obtain ⟨b1, b2, -⟩ := tm_at (A := A0K K') hA0 ht
      unfold F_termOf
      rw [if_neg (fun z => z a1), if_neg (show ¬ jn 1 = jn 0 by decide), if_pos rfl, if_neg (fun z => z b1), if_neg (show ¬ jn 1 = jn 0 by decide), if_pos rfl]
    · rw [F_termOf_2 hA ht, F_termOf_2 (A := A0K K') hA0 ht]
    · rw [F_termOf_3 hA ht, F_termOf_3 (A := A0K K') hA0 ht]
  rw [key] at x
  exact x
theorem tv_node {i : Nat} (hd : 6 ≤ d) (ht : K.1[t]? = some T) (hi : i < sz T) : ∃ v, ∀ (A : AT) (M : PM), A.1 = K → AOk A → RX A M → XI (pcl GG lay d 16 [.ref 0, .int (jn t), .int (jn i)] M) M (v, A) := by
  refine ⟨sgn T i, fun A M e hA h => ?_⟩
  have x := x_node (a := jn t) (b := jn i) hd hA h
  have ht' : (tsA A)[t]? = some T := by show A.1.1[t]? = _; rw [e]; exact ht
  obtain ⟨a1, a2, a3, a4⟩ := tm_at hA ht'
  have hl : t < 24 := (tm_ok hA ht').2.2
  have key : F_node A (jn t) (jn i) = (sgn T i, A) := by
    unfold F_node
    rw [jnN (by omega), ht']
    simp only
    rw [if_neg (by rw [jn_toInt (by omega)]; omega), if_neg (fun z => z (by rw [jn_toInt (by omega)]; omega)), jnN (by omega)]
  rw [key] at x
  exact x
theorem tv_path {i : Nat} (hd : 7 ≤ d) (ht : K.1[t]? = some T) (hi : i < sz T) : ∃ v, ∀ (A : AT) (M : PM), A.1 = K → AOk A → RX A M → XL (pcl GG lay d 18 [.ref 0, .int (jn t), .int (jn i)] M) M (v, A) := by
  refine ⟨paT T i, fun A M e hA h => ?_⟩
  have x := x_path (a := jn t) (b := jn i) hd hA h
  rw [F_path_at hA (by show A.1.1[t]? = _; rw [e]; exact ht) hi] at x
  exact x
theorem tv_fits (hK : KOk K) {c : Int32} (hd : 12 ≤ d) (ht : K.1[t]? = some T) (hr : r < K.2.1.length) : ∃ v, ∀ (A : AT) (M : PM), A.1 = K → AOk A → RX A M → XI (pcl GG lay d 23 [.ref 0, .int (jn r), .int (jn t), .int c] M) M (v, A) := by
  refine ⟨(F_fits (A0K K) (jn r) (jn t) c).1, fun A M e hA h => ?_⟩
  have x := x_fits (a := jn r) (b := jn t) (c := c) hd hA h
  obtain ⟨K', y⟩ := A
  obtain rfl : K' = K := e
  have key : F_fits (K', y) (jn r) (jn t) c = ((F_fits (A0K K') (jn r) (jn t) c).1, (K', y)) := by
    have a1 := (tm_at hA ht).1
    have r1 := (hsR_at hA hr).1
    have b1 := (tm_at (A := A0K K') (A0K_ok hK) ht).1
    have s1 := (hsR_at (A := A0K K') (A0K_ok hK) hr).1
    have e1 : ∀ A : AT, hsR A (jn r) → hsT A (jn t) → F_fits A (jn r) (jn t) c = if c = jz 1 then (jn (cnt (fitB (cmA A) (rlN A (jn r)).1 (tmN A (jn t))) (sz (tmN A (jn t))) 0 0), A) else (nth (fitB (cmA A) (rlN A (jn r)).1 (tmN A (jn t))) (sz (tmN A (jn t))) 0 0 c, A) := by
      intro A h1 h2
      unfold F_fits
      rw [if_neg (fun z => z h1), if_neg (fun z => z h2)]
    rw [e1 _ r1 a1, e1 _ s1 b1]
    by_cases z : c = jz 1
    · rw [if_pos z, if_pos z]
    · rw [if_neg z, if_neg z]
  rw [key] at x
  exact x
theorem tv_same (hK : KOk K) (hd : 60 ≤ d) (ht : K.1[t]? = some T) (hu : K.1[u]? = some U) : ∃ v, ∀ (A : AT) (M : PM), A.1 = K → AOk A → RX A M → XI (pcl GG lay d 19 [.ref 0, .int (jn t), .int (jn u)] M) M (v, A) := by
  refine ⟨(F_same (A0K K) (jn t) (jn u)).1, fun A M e hA h => ?_⟩
  have x := x_same (a := jn t) (b := jn u) hd hA h
  obtain ⟨K', y⟩ := A
  obtain rfl : K' = K := e
  have key : F_same (K', y) (jn t) (jn u) = ((F_same (A0K K') (jn t) (jn u)).1, (K', y)) := by
    have a1 := (tm_at hA ht).1
    have r1 := (tm_at hA hu).1
    have b1 := (tm_at (A := A0K K') (A0K_ok hK) ht).1
    have s1 := (tm_at (A := A0K K') (A0K_ok hK) hu).1
    have e1 : ∀ A : AT, hsT A (jn t) → hsT A (jn u) → F_same A (jn t) (jn u) = (if en (tmN A (jn t)) = en (tmN A (jn u)) then jn 0 else if eqv (cmB (cmA A)) (tmN A (jn t)) (tmN A (jn u)) = true then jn 1 else jn 2, A) := by
      intro A h1 h2
      unfold F_same
      rw [if_neg (fun z => z h1), if_neg (fun z => z h2)]
    rw [e1 _ a1 r1, e1 _ b1 s1]
  rw [key] at x
  exact x
theorem tv_redexes (hK : KOk K) (hd : 14 ≤ d) (ht : K.1[t]? = some T) : ∃ v, ∀ (A : AT) (M : PM), A.1 = K → AOk A → RX A M → XL (pcl GG lay d 26 [.ref 0, .int (jn t)] M) M (v, A) := by
  refine ⟨(F_redexes (A0K K) (jn t)).1, fun A M e hA h => ?_⟩
  have x := x_redexes (a := jn t) hd hA h
  obtain ⟨K', y⟩ := A
  obtain rfl : K' = K := e
  have key : F_redexes (K', y) (jn t) = ((F_redexes (A0K K') (jn t)).1, (K', y)) := by
    rw [F_redexes_at hA ht, F_redexes_at (A := A0K K') (A0K_ok hK) ht]
  rw [key] at x
  exact x
theorem tv_strategyOf {j : Nat} {q0 : SG} (hd : 6 ≤ d) (hw : K.2.2.1[w]? = some q0) (hw2 : w < 1000) (hj : j < 3) : ∃ v, ∀ (A : AT) (M : PM), A.1 = K → AOk A → RX A M → XI (pcl GG lay d 33 [.ref 0, .int (jn w), .int (jn j)] M) M (v, A) := by
  refine ⟨if j = 0 then jn q0.1 else if j = 1 then q0.2.1 else q0.2.2, fun A M e hA h => ?_⟩
  have x := x_strategyOf (a := jn w) (b := jn j) hd hA h
  have key : F_strategyOf A (jn w) (jn j) = (if j = 0 then jn q0.1 else if j = 1 then q0.2.1 else q0.2.2, A) := by
    unfold F_strategyOf
    rw [lk_at hw2 (show (ssA A)[w]? = some q0 by show A.1.2.2.1[w]? = _; rw [e]; exact hw)]
    simp only
    have hj3 : j = 0 ∨ j = 1 ∨ j = 2 := by omega
    rcases hj3 with rfl | rfl | rfl
    · rw [if_pos rfl, if_pos rfl]
    · rw [if_neg (show ¬ jn 1 = jn 0 by decide), if_pos rfl, if_neg (show ¬ (1 : Nat) = 0 by decide), if_pos rfl]
    · rw [if_neg (show ¬ jn 2 = jn 0 by decide), if_neg (show ¬ jn 2 = jn 1 by decide), if_pos rfl, if_neg (show ¬ (2 : Nat) = 0 by decide), if_neg (show ¬ (2 : Nat) = 1 by decide)]
  rw [key] at x
  exact x
theorem tv_trial {q0 : SG} (hd : 16 ≤ d) (hw : K.2.2.1[w]? = some q0) (ht : K.1[t]? = some T) : ∃ v, ∀ (A : AT) (M : PM), A.1 = K → AOk A → RX A M → XI (pcl GG lay d 35 [.ref 0, .int (jn w), .int (jn t), .int (jn 1)] M) M (v, A) := by
  refine ⟨trlV (jn 1) (rnA (A0K K) (jn w) T 0 0), fun A M e hA h => ?_⟩
  have x := x_trial (a := jn w) (b := jn t) (c := jn 1) hd hA h
  rw [F_trial_ok hA (show (ssA A)[w]? = some q0 by show A.1.2.2.1[w]? = _; rw [e]; exact hw) (show (tsA A)[t]? = some T by show A.1.1[t]? = _; rw [e]; exact ht) (by omega), rnA_K (A := A0K K) (by rw [e])] at x
  exact x
theorem tv_overlaps (hK : KOk K) (hd : 16 ≤ d) (hr : r < K.2.1.length) (hq : q < K.2.1.length) : ∃ v, ∀ (A : AT) (M : PM), A.1 = K → AOk A → RX A M → XI (pcl GG lay d 42 [.ref 0, .int (jn r), .int (jn q)] M) M (v, A) := by
  refine ⟨jn (ovN (A0K K) (jn r) (jn q)).length, fun A M e hA h => ?_⟩
  have x := x_overlaps (a := jn r) (b := jn q) hd hA h
  obtain ⟨K', y⟩ := A
  obtain rfl : K' = K := e
  have key : F_overlaps (K', y) (jn r) (jn q) = (jn (ovN (A0K K') (jn r) (jn q)).length, (K', y)) := by
    unfold F_overlaps
    rw [if_neg (fun z => z (hsR_at hA hr).1), if_neg (fun z => z (hsR_at hA hq).1)]
  rw [key] at x
  exact x
theorem tv_status {j : Nat} (hd : 6 ≤ d) (hj : j < 6) : ∃ v, ∀ (A : AT) (M : PM), A.1 = K → AOk A → RX A M → XI (pcl GG lay d 54 [.ref 0, .int (jn j)] M) M (v, A) := by
  refine ⟨(F_status (A0K K) (jn j)).1, fun A M e hA h => ?_⟩
  have x := x_status (a := jn j) hd hA h
  obtain ⟨K', y⟩ := A
  obtain rfl : K' = K := e
  have key : F_status (K', y) (jn j) = ((F_status (A0K K') (jn j)).1, (K', y)) := by
    have hj6 : j = 0 ∨ j = 1 ∨ j = 2 ∨ j = 3 ∨ j = 4 ∨ j = 5 := by omega
    rcases hj6 with rfl | rfl | rfl | rfl | rfl | rfl <;> rfl
  rw [key] at x
  exact x
theorem jn_rem {a b : Nat} (ha : a < 2147483648) (h0 : 0 < b) (hb : b < 2147483648) : jn a - jn a / jn b * jn b = jn (a % b) := by
  have e : ∀ n, n < 2147483648 → jn n = nI n := fun n h => by rw [← Int32.toInt_inj, jn_toInt h, nI_toInt (by omega)]
  rw [e a ha, e b hb, pk_rem (by omega) h0 (by omega), e _ (by have := Nat.mod_lt a h0; omega)]
/-- the whole -/
theorem l_told (hK : KOk K) (hd : 61 ≤ d) (b0 : f 0 = jn K.2.2.1.length) (b3 : f 3 = jn K.1.length) (b4 : f 4 = jn K.2.1.length) (hn : 0 < K.1.length) : Tl K f (fun M => pcl GG laz d 73 [.ref 0, .ref 52] M) := by
  obtain ⟨d, rfl⟩ := ex_add (show 1 ≤ d by omega)
  obtain ⟨⟨k1, k2⟩, ⟨k3, k4⟩, ⟨k5, k6⟩, -⟩ := id hK
  have tK : ∀ t, t < K.1.length → ∃ T, K.1[t]? = some T ∧ sz T ≤ 40 := fun t h => ⟨K.1[t], List.getElem?_eq_getElem h, (k2 _ (List.getElem_mem h)).2⟩
  -- the last: six numbers
  have l324 : ∀ m j, j + m = 6 → ∀ (s : Int64) (u1 u5 : Option Value), Tl K f (fun M => E_73 d (324, [some (.ref 0), u1, some (.long s), none, some (.int (jn j)), u5], [], M)) := by
    intro m
    induction m with
    | zero =>
      intro j hj s u1 u5
      refine tl_eq (fun M => h_73_324 d u1 s (jn j) u5 M) (tl_if (fun h => ?_) (fun _ => tl_end))
      rw [jn_lt (by omega) (by omega)] at h
      omega
    | succ m ih =>
      intro j hj s u1 u5
      refine tl_eq (fun M => h_73_324 d u1 s (jn j) u5 M) (tl_if (fun _ => ?_) (fun h => ?_))
      · refine tl_I (tv_status (j := j) (by omega) (by omega)) (fun v => ?_)
        rw [jn_add]
        exact ih (j + 1) (by omega) _ _ _
      · rw [jn_lt (by omega) (by omega)] at h
        omega
  -- overlaps of all rules
  have l285 : ∀ i, i < K.2.1.length → (∀ (s : Int64) (u5 : Option Value), Tl K f (fun M => E_73 d (274, [some (.ref 0), some (.ref 52), some (.long s), none, some (.int (jn (i + 1))), u5], [], M))) → ∀ m j, j + m = K.2.1.length → ∀ s : Int64, Tl K f (fun M => E_73 d (285, [some (.ref 0), some (.ref 52), some (.long s), none, some (.int (jn i)), some (.int (jn j))], [], M)) := by
    intro i hi hnext m
    induction m with
    | zero =>
      intro j hj s
      refine tl_eq (fun M => h_73_285 d s (jn i) (jn j) M) (tl_b (by omega) ?_)
      rw [b4]
      refine tl_if (fun h => ?_) (fun _ => ?_)
      · rw [jn_lt (by omega) (by omega)] at h
        omega
      · rw [jn_add]
        exact hnext _ _
    | succ m ih =>
      intro j hj s
      refine tl_eq (fun M => h_73_285 d s (jn i) (jn j) M) (tl_b (by omega) ?_)
      rw [b4]
      refine tl_if (fun _ => ?_) (fun h => ?_)
      · refine tl_I (tv_overlaps (r := i) (q := j) hK (by omega) hi (by omega)) (fun v => ?_)
        rw [jn_add]
        exact ih (j + 1) (by omega) _
      · rw [jn_lt (by omega) (by omega)] at h
        omega
  have l274 : ∀ m i, i + m = K.2.1.length → ∀ (s : Int64) (u5 : Option Value), Tl K f (fun M => E_73 d (274, [some (.ref 0), some (.ref 52), some (.long s), none, some (.int (jn i)), u5], [], M)) := by
    intro m
    induction m with
    | zero =>
      intro i hi s u5
      refine tl_eq (fun M => h_73_274 d s (jn i) u5 M) (tl_b (by omega) ?_)
      rw [b4]
      refine tl_if (fun h => ?_) (fun _ => l324 6 0 (by omega) _ _ _)
      rw [jn_lt (by omega) (by omega)] at h
      omega
    | succ m ih =>
      intro i hi s u5
      refine tl_eq (fun M => h_73_274 d s (jn i) u5 M) (tl_b (by omega) ?_)
      rw [b4]
      refine tl_if (fun _ => l285 i (by omega) (fun s u5 => ih (i + 1) (by omega) s u5) K.2.1.length 0 (by omega) s) (fun h => ?_)
      rw [jn_lt (by omega) (by omega)] at h
      omega
  -- strategies
  have l209 : ∀ i, i < K.2.2.1.length → (∀ (s : Int64) (u5 : Option Value), Tl K f (fun M => E_73 d (198, [some (.ref 0), some (.ref 52), some (.long s), none, some (.int (jn (i + 1))), u5], [], M))) → ∀ m j, j + m = 3 → ∀ s : Int64, Tl K f (fun M => E_73 d (209, [some (.ref 0), some (.ref 52), some (.long s), none, some (.int (jn i)), some (.int (jn j))], [], M)) := by
    intro i hi hnext m
    have hw : K.2.2.1[i]? = some K.2.2.1[i] := List.getElem?_eq_getElem hi
    induction m with
    | zero =>
      intro j hj s
      refine tl_eq (fun M => h_73_209 d s (jn i) (jn j) M) (tl_if (fun h => ?_) (fun _ => tl_if (fun h => absurd h (by decide)) (fun _ => tl_if (fun _ => ?_) (fun _ => ?_))))
      · rw [jn_lt (by omega) (by omega)] at h
        omega
      · refine tl_b (by omega) ?_
        rw [b3]
        refine tl_if (fun h => ?_) (fun _ => ?_)
        · rw [jn_inj (by omega) (by omega)] at h
          omega
        · rw [jn_rem (by omega) hn (by omega)]
          obtain ⟨T, hT, -⟩ := tK (i % K.1.length) (Nat.mod_lt _ hn)
          refine tl_I (tv_trial (by omega) hw hT) (fun v => ?_)
          rw [jn_add]
          exact hnext _ _
      · rw [jn_add]
        exact hnext _ _
    | succ m ih =>
      intro j hj s
      refine tl_eq (fun M => h_73_209 d s (jn i) (jn j) M) (tl_if (fun _ => ?_) (fun h => ?_))
      · refine tl_I (tv_strategyOf (j := j) (by omega) hw (by omega) (by omega)) (fun v => ?_)
        rw [jn_add]
        exact ih (j + 1) (by omega) _
      · rw [jn_lt (by omega) (by omega)] at h
        omega
  have l198 : ∀ m i, i + m = K.2.2.1.length → ∀ (s : Int64) (u5 : Option Value), Tl K f (fun M => E_73 d (198, [some (.ref 0), some (.ref 52), some (.long s), none, some (.int (jn i)), u5], [], M)) := by
    intro m
    induction m with
    | zero =>
      intro i hi s u5
      refine tl_eq (fun M => h_73_198 d s (jn i) u5 M) (tl_b (by omega) ?_)
      rw [b0]
      refine tl_if (fun h => ?_) (fun _ => l274 K.2.1.length 0 (by omega) _ _)
      rw [jn_lt (by omega) (by omega)] at h
      omega
    | succ m ih =>
      intro i hi s u5
      refine tl_eq (fun M => h_73_198 d s (jn i) u5 M) (tl_b (by omega) ?_)
      rw [b0]
      refine tl_if (fun _ => l209 i (by omega) (fun s u5 => ih (i + 1) (by omega) s u5) 3 0 (by omega) s) (fun h => ?_)
      rw [jn_lt (by omega) (by omega)] at h
      omega
  -- terms
  have l146 : ∀ i, i < K.1.length → (∀ (s : Int64) (u5 : Option Value), Tl K f (fun M => E_73 d (7, [some (.ref 0), some (.ref 52), some (.long s), none, some (.int (jn (i + 1))), u5], [], M))) → ∀ m j, j + m = K.1.length → ∀ s : Int64, Tl K f (fun M => E_73 d (146, [some (.ref 0), some (.ref 52), some (.long s), none, some (.int (jn i)), some (.int (jn j))], [], M)) := by
    intro i hi hnext m
    obtain ⟨T, hT, -⟩ := tK i hi
    induction m with
    | zero =>
      intro j hj s
      refine tl_eq (fun M => h_73_146 d s (jn i) (jn j) M) (tl_b (by omega) ?_)
      rw [b3]
      refine tl_if (fun h => ?_) (fun _ => ?_)
      · rw [jn_lt (by omega) (by omega)] at h
        omega
      · refine tl_L (tv_redexes hK (by omega) hT) (fun v => ?_)
        rw [jn_add]
        exact hnext _ _
    | succ m ih =>
      intro j hj s
      obtain ⟨U, hU, -⟩ := tK j (by omega)
      refine tl_eq (fun M => h_73_146 d s (jn i) (jn j) M) (tl_b (by omega) ?_)
      rw [b3]
      refine tl_if (fun _ => ?_) (fun h => ?_)
      · refine tl_I (tv_same hK (by omega) hT hU) (fun v => ?_)
        rw [jn_add]
        exact ih (j + 1) (by omega) _
      · rw [jn_lt (by omega) (by omega)] at h
        omega
  have l99 : ∀ i, i < K.1.length → (∀ (s : Int64) (u5 : Option Value), Tl K f (fun M => E_73 d (7, [some (.ref 0), some (.ref 52), some (.long s), none, some (.int (jn (i + 1))), u5], [], M))) → ∀ m j, j + m = K.2.1.length → ∀ s : Int64, Tl K f (fun M => E_73 d (99, [some (.ref 0), some (.ref 52), some (.long s), none, some (.int (jn i)), some (.int (jn j))], [], M)) := by
    intro i hi hnext m
    obtain ⟨T, hT, -⟩ := tK i hi
    induction m with
    | zero =>
      intro j hj s
      refine tl_eq (fun M => h_73_99 d s (jn i) (jn j) M) (tl_b (by omega) ?_)
      rw [b4]
      refine tl_if (fun h => ?_) (fun _ => l146 i hi hnext K.1.length 0 (by omega) _)
      rw [jn_lt (by omega) (by omega)] at h
      omega
    | succ m ih =>
      intro j hj s
      refine tl_eq (fun M => h_73_99 d s (jn i) (jn j) M) (tl_b (by omega) ?_)
      rw [b4]
      refine tl_if (fun _ => ?_) (fun h => ?_)
      · refine tl_I (tv_fits (r := j) hK (by omega) hT (by omega)) (fun v => tl_I (tv_fits (r := j) hK (by omega) hT (by omega)) (fun v' => ?_))
        rw [jn_add]
        exact ih (j + 1) (by omega) _
      · rw [jn_lt (by omega) (by omega)] at h
        omega
  have l49 : ∀ i T, K.1[i]? = some T → sz T ≤ 40 → (∀ s : Int64, Tl K f (fun M => E_73 d (99, [some (.ref 0), some (.ref 52), some (.long s), none, some (.int (jn i)), some (.int (jn 0))], [], M))) → ∀ m j, j + m = sz T → ∀ s : Int64, Tl K f (fun M => E_73 d (49, [some (.ref 0), some (.ref 52), some (.long s), none, some (.int (jn i)), some (.int (jn j))], [], M)) := by
    intro i T hT hT40 hnext m
    have size : ∀ g : Int32 → PM → PO, Tl K f (g (jn (sz T))) → Tl K f (fun M => kI (pcl GG laz d 17 [.ref 0, .int (jn i), .int (jn 0)] M) g) := by
      rintro g ⟨w, hw⟩
      refine ⟨w, fun A M e hA h hb => ?_⟩
      have x := x_termOf (d := d) (a := jn i) (b := jn 0) (by omega) hA h
      rw [F_termOf_0 hA (show (tsA A)[i]? = some T by show A.1.1[i]? = _; rw [e]; exact hT)] at x
      obtain ⟨M1, k1, k2, k3⟩ := x.up
      obtain ⟨M2, k4, k5, k6⟩ := hw A M1 e hA k2 (hb.hi k3)
      exact ⟨M2, (show kI (pcl GG laz d 17 [.ref 0, .int (jn i), .int (jn 0)] M) g = _ by rw [k1, kI_r]; exact k4), k5, k3.trans k6⟩
    induction m with
    | zero =>
      intro j hj s
      refine tl_eq (fun M => h_73_49 d s (jn i) (jn j) M) (size _ (tl_if (fun h => ?_) (fun _ => hnext _)))
      rw [jn_lt (by omega) (by omega)] at h
      omega
    | succ m ih =>
      intro j hj s
      refine tl_eq (fun M => h_73_49 d s (jn i) (jn j) M) (size _ (tl_if (fun _ => ?_) (fun h => ?_)))
      · refine tl_I (tv_node (i := j) (by omega) hT (by omega)) (fun v => tl_L (tv_path (i := j) (by omega) hT (by omega)) (fun v' => ?_))
        rw [jn_add]
        exact ih (j + 1) (by omega) _
      · rw [jn_lt (by omega) (by omega)] at h
        omega
  have l18 : ∀ i T, K.1[i]? = some T → (∀ s : Int64, Tl K f (fun M => E_73 d (49, [some (.ref 0), some (.ref 52), some (.long s), none, some (.int (jn i)), some (.int (jn 0))], [], M))) → ∀ m j, j + m = 4 → ∀ s : Int64, Tl K f (fun M => E_73 d (18, [some (.ref 0), some (.ref 52), some (.long s), none, some (.int (jn i)), some (.int (jn j))], [], M)) := by
    intro i T hT hnext m
    induction m with
    | zero =>
      intro j hj s
      refine tl_eq (fun M => h_73_18 d s (jn i) (jn j) M) (tl_if (fun h => ?_) (fun _ => hnext _))
      rw [jn_lt (by omega) (by omega)] at h
      omega
    | succ m ih =>
      intro j hj s
      refine tl_eq (fun M => h_73_18 d s (jn i) (jn j) M) (tl_if (fun _ => ?_) (fun h => ?_))
      · refine tl_I (tv_termOf (j := j) hK (by omega) hT (by omega)) (fun v => ?_)
        rw [jn_add]
        exact ih (j + 1) (by omega) _
      · rw [jn_lt (by omega) (by omega)] at h
        omega
  have l7 : ∀ m i, i + m = K.1.length → ∀ (s : Int64) (u5 : Option Value), Tl K f (fun M => E_73 d (7, [some (.ref 0), some (.ref 52), some (.long s), none, some (.int (jn i)), u5], [], M)) := by
    intro m
    induction m with
    | zero =>
      intro i hi s u5
      refine tl_eq (fun M => h_73_7 d s (jn i) u5 M) (tl_b (by omega) ?_)
      rw [b3]
      refine tl_if (fun h => ?_) (fun _ => l198 K.2.2.1.length 0 (by omega) _ _)
      rw [jn_lt (by omega) (by omega)] at h
      omega
    | succ m ih =>
      intro i hi s u5
      obtain ⟨T, hT, hT40⟩ := tK i (by omega)
      refine tl_eq (fun M => h_73_7 d s (jn i) u5 M) (tl_b (by omega) ?_)
      rw [b3]
      refine tl_if (fun _ => ?_) (fun h => ?_)
      · refine l18 i T hT ?_ 4 0 (by omega) s
        refine l49 i T hT hT40 ?_ (sz T) 0 (by omega)
        exact l99 i (by omega) (fun s u5 => ih (i + 1) (by omega) s u5) K.2.1.length 0 (by omega)
      · rw [jn_lt (by omega) (by omega)] at h
        omega
  exact tl_eq (fun M => q_73 d M) (l7 K.1.length 0 (by omega) _ _)
end
