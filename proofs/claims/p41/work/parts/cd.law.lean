/-! the law behind its world comes to its end with true -/
def Zz (o : PO) : Prop := ∃ M', o = rI (jn 1) M'
theorem z_eq {a b : Int32} {x y : PO} (e : a = b) (h : Zz x) : Zz (if a = b then x else y) := by rw [if_pos e]; exact h
theorem z_ne {a b : Int32} {x y : PO} (e : a ≠ b) (h : Zz y) : Zz (if a = b then x else y) := by rw [if_neg e]; exact h
theorem z_lt {a b : Int32} {x y : PO} (e : a < b) (h : Zz x) : Zz (if a < b then x else y) := by rw [if_pos e]; exact h
theorem z_nlt {a b : Int32} {x y : PO} (e : ¬ a < b) (h : Zz y) : Zz (if a < b then x else y) := by rw [if_neg e]; exact h
/-- what stays as it is while the law asks -/
def Iv (K : KT) (O : Option KT) (f : Nat → Int32) (A : AT) (M : PM) : Prop := A.1 = K ∧ A.2.1 = O ∧ AOk A ∧ RX A M ∧ Bb f M
theorem iv_I {K K' : KT} {O O' : Option KT} {f : Nat → Int32} {A : AT} {M : PM} {d id : Nat} {vs : List Value} {ra : Int32 × AT} {g : Int32 → PM → PO} (hI : Iv K O f A M) (hx : XI (pcl GG lay d id vs M) M ra) (hra : AOk ra.2 ∧ ra.2.1 = K' ∧ ra.2.2.1 = O') (hg : ∀ A' M', Iv K' O' f A' M' → A' = ra.2 → Zz (g ra.1 M')) : Zz (kI (pcl GG laz d id vs M) g) := by
  obtain ⟨M1, k1, k2, k3⟩ := hx.up
  rw [k1, kI_r]
  exact hg ra.2 M1 ⟨hra.2.1, hra.2.2, hra.1, k2, hI.2.2.2.2.hi k3⟩ rfl
/-- a refusal -/
theorem iv_R {K : KT} {O : Option KT} {f : Nat → Int32} {A : AT} {M : PM} {d id k : Nat} {vs : List Value} {ra : Int32 × AT} {g : Int32 → PM → PO} (hI : Iv K O f A M) (hx : XI (pcl GG lay d id vs M) M ra) (hr : ra = rfs A k) (hg : ∀ A' M', Iv K O f A' M' → Zz (g (jz k) M')) : Zz (kI (pcl GG laz d id vs M) g) := by
  subst hr
  exact iv_I hI hx ⟨ok_rfs hI.2.2.1, hI.1, hI.2.1⟩ (fun A' M' h _ => hg A' M' h)
theorem iv_T {K : KT} {O : Option KT} {f : Nat → Int32} {A : AT} {M : PM} {d : Nat} {s : Int64} {g : Int64 → PM → PO} (hs : ∀ (A : AT) (M : PM), A.1 = K → AOk A → RX A M → Bb f M → ∃ M', pcl GG laz d 73 [.ref 0, .ref 52] M = rL s M' ∧ RX A M' ∧ Hi M M') (hI : Iv K O f A M) (hg : ∀ M', Iv K O f A M' → Zz (g s M')) : Zz (kL (pcl GG laz d 73 [.ref 0, .ref 52] M) g) := by
  obtain ⟨M1, k1, k2, k3⟩ := hs A M hI.1 hI.2.2.1 hI.2.2.2.1 hI.2.2.2.2
  rw [k1, kL_r]
  exact hg M1 ⟨hI.1, hI.2.1, hI.2.2.1, k2, hI.2.2.2.2.hi k3⟩
theorem iv_Y {K : KT} {O : Option KT} {f : Nat → Int32} {A : AT} {M : PM} {o : PO} {g : Int32 → PM → PO} (hI : Iv K O f A M) (hy : Ya M (Sm A) (jn 1) o) (hg : ∀ A' M', Iv K O f A' M' → Zz (g (jn 1) M')) : Zz (kI o g) := by
  obtain ⟨M1, A1, e, h1, h2, h3, h4⟩ := hy
  rw [e, kI_r]
  exact hg A1 M1 ⟨h3.1.trans hI.1, h3.2.trans hI.2.1, h2, h1, hI.2.2.2.2.hi h4⟩
theorem iv_b {K : KT} {O : Option KT} {f : Nat → Int32} {A : AT} {M : PM} {i : Nat} {g : Int32 → PO} (hI : Iv K O f A M) (hi : i < 80) (h : Zz (g (f i))) : Zz (oB (aldI laz none M 52 (jn i)) g) := by
  rw [b_ald hi, oB_s, show M.1 52 = f from hI.2.2.2.2]
  exact h
theorem dayR_le : ∀ m c A, (dayR m c A).1 ≤ c + m := by
  intro m
  induction m with
  | zero => intro c A; exact Nat.le_refl _
  | succ m ih =>
    intro c A
    rw [dayR]
    split
    · exact Nat.le_trans (ih _ _) (by omega)
    · exact Nat.le_trans (ih _ _) (by omega)
theorem dayF_img {A : AT} {l n : Nat} : (dayF A l n).2.2.1 = A.2.1 := by
  unfold dayF
  split
  · rfl
  · split <;> rfl
theorem sdK_img {A : AT} {v : Int32} : (sdK A v).2.1 = A.2.1 := rfl
theorem dayR_img : ∀ m c A, (dayR m c A).2.2.1 = A.2.1 := by
  intro m
  induction m with
  | zero => intro c A; rfl
  | succ m ih =>
    intro c A
    rw [dayR]
    have e : (stepD A).2.2.1 = A.2.1 := by
      unfold stepD
      exact dayF_img.trans (sdK_img.trans sdK_img)
    split
    · rw [ih, e]
    · rw [ih, e]
theorem F_days_20 {A : AT} (hr : (rsA A).length ≠ 0) (ht : (tsA A).length ≠ 0) : F_days A (jn 20) = (jn (dayR 20 0 A).1, (dayR 20 0 A).2) := by
  unfold F_days
  rw [if_neg hr, if_neg ht, if_neg (fun z => z (by decide)), jnN (by omega)]
theorem F_days_0 {A : AT} (hr : (rsA A).length ≠ 0) (ht : (tsA A).length ≠ 0) : F_days A (jn 0) = rfs A 6 := by
  unfold F_days
  rw [if_neg hr, if_neg ht, if_pos (show ¬ (1 ≤ (jn 0).toInt ∧ (jn 0).toInt ≤ 40) by decide)]
theorem F_commute_i {A : AT} {b : Int32} : ((F_commute A (jn 105) b).1 = jn 0 ∨ (F_commute A (jn 105) b).1 = jn 1) ∧ (F_commute A (jn 105) b).2.2.1 = A.2.1 := by
  unfold F_commute
  rw [if_neg (fun z => z (show is2 (jn 105) by decide))]
  refine ⟨?_, rfl⟩
  show (if _ then jn 0 else jn 1) = jn 0 ∨ (if _ then jn 0 else jn 1) = jn 1
  split
  · exact Or.inl rfl
  · exact Or.inr rfl
theorem F_commute_h {A : AT} {b : Int32} : F_commute A (jn 104) b = rfs A 1 := by
  unfold F_commute
  rw [if_pos (show ¬ is2 (jn 104) by decide)]
theorem F_restore_at {A : AT} {K : KT} (h : A.2.1 = some K) : (F_restore A).1 = jn K.1.length ∧ (F_restore A).2.1 = K ∧ (F_restore A).2.2.1 = some K := by
  unfold F_restore
  rw [h]
  exact ⟨rfl, rfl, rfl⟩
theorem hs_no {n k : Nat} (hk : k < 1000) (h : n ≤ k) : ¬ (0 ≤ (jn k).toInt ∧ (jn k).toInt < (n : Nat)) := by
  rw [jn_toInt (by omega)]
  omega
theorem F_run_noS {A : AT} {k : Nat} {b : Int32} (hk : k < 1000) (h : (ssA A).length ≤ k) : F_run A (jn k) b = rfs A 1 := by
  unfold F_run
  rw [if_pos (hs_no hk h)]
theorem F_run_noT {A : AT} {k : Nat} {a : Int32} (ha : hsS A a) (hk : k < 1000) (h : (tsA A).length ≤ k) : F_run A a (jn k) = rfs A 1 := by
  unfold F_run
  rw [if_neg (fun z => z ha), if_pos (hs_no hk h)]
theorem F_rewrite_noR {A : AT} {k : Nat} {b c : Int32} (hk : k < 1000) (h : (rsA A).length ≤ k) : F_rewrite A (jn k) b c = rfs A 1 := by
  unfold F_rewrite
  rw [if_pos (hs_no hk h)]
theorem F_rewrite_40 {A : AT} {a : Int32} {t : Nat} {T : Tm} (hA : AOk A) (ha : hsR A a) (ht : (tsA A)[t]? = some T) : F_rewrite A a (jn t) (jn 40) = rfs A 5 := by
  obtain ⟨t1, t2, t3, t4⟩ := tm_at hA ht
  unfold F_rewrite
  rw [if_neg (fun z => z ha), if_neg (fun z => z t1), t2, if_pos (by rw [jn_toInt (by omega)]; omega)]
theorem F_strategy_no {A : AT} {k a b : Int32} (h : ¬ stOk A k a b) : F_strategy A k a b = rfs A 1 := by
  unfold F_strategy
  rw [if_pos h]
theorem F_rule_no {A : AT} {k : Nat} {b : Int32} (hk : k < 1000) (h : (tsA A).length ≤ k) : F_rule A (jn k) b = rfs A 1 := by
  have e : lk (tsA A) (jn k) = none := by
    unfold lk
    rw [if_neg (by rw [jn_toInt (by omega)]; omega), jnN (by omega)]
    exact List.getElem?_eq_none h
  unfold F_rule
  rw [e]
theorem F_row_4 {A : AT} : F_row A (jn 0) (jn 4) (jn 0) = rfs A 6 := by
  unfold F_row
  rw [if_neg (fun z => z (show thr (jn 0) by decide)), if_neg (show ¬ (jn 0).toInt < 0 by decide), if_pos (show ¬ (0 ≤ (jn 4).toInt ∧ (jn 4).toInt < 4) by decide)]
theorem stOk_n {A : AT} {k a b : Nat} (hk : k < 14) (h0 : k ≠ 0) (ha : a < (ssA A).length) (hb : k = 3 ∨ k = 4 → b < (ssA A).length) (ha2 : a < 1000) (hb2 : b < 1000) : stOk A (jn k) (jn a) (jn b) := by
  refine ⟨?_, fun e => ?_, fun _ => ?_, fun e => ?_⟩
  · rw [jn_toInt (by omega)]; omega
  · rw [jn_inj (by omega) (by omega)] at e; exact absurd e h0
  · rw [jn_toInt (by omega)]; omega
  · have : k = 3 ∨ k = 4 := by
      rcases e with e | e
      · rw [jn_inj (by omega) (by omega)] at e; exact Or.inl e
      · rw [jn_inj (by omega) (by omega)] at e; exact Or.inr e
    have := hb this
    rw [jn_toInt (by omega)]; omega
section
variable {K : KT} {f : Nat → Int32} {n R w d : Nat} {s : Int64}
/-- what the world leaves, the six strategies of the laws added -/
def Lw (K : KT) (f : Nat → Int32) (n R w d : Nat) (s : Int64) : Prop :=
  62 ≤ d ∧ (K.1.length = n ∧ 1 ≤ n ∧ n ≤ 4) ∧ (K.2.1.length = R ∧ 1 ≤ R ∧ R ≤ 4) ∧ (K.2.2.1.length = w + 7 ∧ w + 7 ≤ 24) ∧ (f 0 = jn (w + 7) ∧ f 3 = jn n ∧ f 4 = jn R) ∧
  (∀ r, r < R → K.2.2.1[r]? = some (0, jn r, jz 1)) ∧
  ((∃ q0, K.2.2.1[w]? = some q0) ∧ (∃ a b, K.2.2.1[w + 1]? = some (1, a, b)) ∧ (∃ a b, K.2.2.1[w + 2]? = some (2, a, b)) ∧ (∃ b, K.2.2.1[w + 3]? = some (5, jn w, b)) ∧ K.2.2.1[w + 4]? = some (4, jn w, jn (w + 1)) ∧ K.2.2.1[w + 5]? = some (3, jn w, jn (w + 2)) ∧ ∃ b, K.2.2.1[w + 6]? = some (13, jn w, b)) ∧
  ∀ (A : AT) (M : PM), A.1 = K → AOk A → RX A M → Bb f M → ∃ M', pcl GG laz d 73 [.ref 0, .ref 52] M = rL s M' ∧ RX A M' ∧ Hi M M'
theorem law_533 (hL : Lw K f n R w d s) : ∀ m t, t + m = n → ∀ A M u0 u3 u8, Iv K (some K) f A M → Zz (E_276 d (533, [u0, some (.ref 0), some (.ref 52), u3, some (.long s), none, some (.int (jn n)), some (.int (jn t)), u8], [], M)) := by
  obtain ⟨hd, ⟨hn, hn1, hn4⟩, ⟨hR, hR1, hR4⟩, ⟨hW, hW2⟩, ⟨f0, f3, f4⟩, hst, -, hs⟩ := hL
  intro m
  induction m with
  | zero =>
    intro t ht A M u0 u3 u8 hI
    rw [h_276_533]
    refine z_nlt (by rw [jn_lt (by omega) (by omega)]; omega) ?_
    refine iv_T hs hI (fun M1 h1 => z_eq (by rw [lg_0]) ?_)
    have x2 := x_days (d := d) (a := jn 20) (by omega) h1.2.2.1 h1.2.2.2.1
    have k2 := k_days (a := jn 20) h1.2.2.1
    rw [F_days_20 (by show A.1.2.1.length ≠ 0; rw [h1.1]; omega) (by show A.1.1.length ≠ 0; rw [h1.1]; omega)] at x2 k2
    have l2 := dayR_le 20 0 A
    refine iv_I (O' := some K) h1 x2 ⟨k2, rfl, (dayR_img 20 0 A).trans h1.2.1⟩ (fun A2 M2 h2 e2 => z_nlt (by rw [jn_lt (by omega) (by omega)]; omega) ?_)
    have x3 := x_commute (d := d) (a := jn 105) (b := jn 1) (by omega) h2.2.2.1 h2.2.2.2.1
    have c3 := F_commute_i (A := A2) (b := jn 1)
    refine iv_I (O' := some K) h2 x3 ⟨k_commute h2.2.2.1, rfl, c3.2.trans h2.2.1⟩ (fun A3 M3 h3 e3 => z_nlt (by rcases c3.1 with c | c <;> rw [c] <;> decide) ?_)
    have x4 := x_restore (d := d) (by omega) h3.2.2.1 h3.2.2.2.1
    have c4 := F_restore_at h3.2.1
    refine iv_I (K' := K) (O' := some K) h3 x4 ⟨k_restore h3.2.2.1, c4.2.1, c4.2.2⟩ (fun A4 M4 h4 e4 => z_eq (by rw [c4.1, hn]) ?_)
    refine iv_T hs h4 (fun M5 h5 => z_eq (by rw [lg_0]) ?_)
    exact ⟨M5, by unfold rZ; rw [if_pos (Or.inr rfl)]⟩
  | succ m ih =>
    intro t ht A M u0 u3 u8 hI
    rw [h_276_533]
    refine z_lt (by rw [jn_lt (by omega) (by omega)]; omega) ?_
    have hT : K.1[t]? = some K.1[t] := List.getElem?_eq_getElem (by omega)
    have inner : ∀ m' u, u + m' = n → ∀ A M, Iv K (some K) f A M → Zz (E_276 d (543, [u0, some (.ref 0), some (.ref 52), u3, some (.long s), none, some (.int (jn n)), some (.int (jn t)), some (.int (jn u))], [], M)) := by
      intro m'
      induction m' with
      | zero =>
        intro u hu A M hI
        rw [h_276_543]
        refine z_nlt (by rw [jn_lt (by omega) (by omega)]; omega) ?_
        rw [jn_add]
        exact ih (t + 1) (by omega) A M _ _ _ hI
      | succ m' ih' =>
        intro u hu A M hI
        rw [h_276_543]
        refine z_lt (by rw [jn_lt (by omega) (by omega)]; omega) ?_
        have hU : K.1[u]? = some K.1[u] := List.getElem?_eq_getElem (by omega)
        refine iv_Y hI (l_unified (T := K.1[t]) (U := K.1[u]) (by omega) hI.2.2.1 hI.2.2.2.1 (by show A.1.1.length = n; rw [hI.1]; exact hn) (by omega) (by show A.1.1[t]? = _; rw [hI.1]; exact hT) (by show A.1.1[u]? = _; rw [hI.1]; exact hU)) (fun A1 M1 h1 => z_ne (by decide) ?_)
        rw [jn_add]
        exact ih' (u + 1) (by omega) A1 M1 h1
    exact inner n 0 (by omega) A M hI
theorem law_484 (hL : Lw K f n R w d s) : ∀ m r, r + m = R → ∀ A M u0 u3 u8, Iv K (some K) f A M → Zz (E_276 d (484, [u0, some (.ref 0), some (.ref 52), u3, some (.long s), none, some (.int (jn n)), some (.int (jn r)), u8], [], M)) := by
  have hL0 := hL
  obtain ⟨hd, ⟨hn, hn1, hn4⟩, ⟨hR, hR1, hR4⟩, ⟨hW, hW2⟩, ⟨f0, f3, f4⟩, hst, -, hs⟩ := hL
  intro m
  induction m with
  | zero =>
    intro r hr A M u0 u3 u8 hI
    rw [h_276_484]
    refine iv_b hI (by omega) ?_
    rw [f4]
    refine z_nlt (by rw [jn_lt (by omega) (by omega)]; omega) ?_
    exact law_533 hL0 n 0 (by omega) A M _ _ _ hI
  | succ m ih =>
    intro r hr A M u0 u3 u8 hI
    rw [h_276_484]
    refine iv_b hI (by omega) ?_
    rw [f4]
    refine z_lt (by rw [jn_lt (by omega) (by omega)]; omega) ?_
    have inner : ∀ m' q, q + m' = R → ∀ A M, Iv K (some K) f A M → Zz (E_276 d (495, [u0, some (.ref 0), some (.ref 52), u3, some (.long s), none, some (.int (jn n)), some (.int (jn r)), some (.int (jn q))], [], M)) := by
      intro m'
      induction m' with
      | zero =>
        intro q hq A M hI
        rw [h_276_495]
        refine iv_b hI (by omega) ?_
        rw [f4]
        refine z_nlt (by rw [jn_lt (by omega) (by omega)]; omega) ?_
        rw [jn_add]
        exact ih (r + 1) (by omega) A M _ _ _ hI
      | succ m' ih' =>
        intro q hq A M hI
        rw [h_276_495]
        refine iv_b hI (by omega) ?_
        rw [f4]
        refine z_lt (by rw [jn_lt (by omega) (by omega)]; omega) ?_
        refine iv_Y hI (l_peaks (by omega) hI.2.2.1 hI.2.2.2.1 (by show A.1.1.length = n; rw [hI.1]; exact hn) (by omega) (by show r < A.1.2.1.length; rw [hI.1]; omega) (by show q < A.1.2.1.length; rw [hI.1]; omega)) (fun A1 M1 h1 => z_ne (by decide) ?_)
        rw [jn_add]
        exact ih' (q + 1) (by omega) A1 M1 h1
    exact inner R 0 (by omega) A M hI
theorem law_398 (hL : Lw K f n R w d s) : ∀ m t, t + m = n → ∀ A M u0 u8, Iv K (some K) f A M → Zz (E_276 d (398, [u0, some (.ref 0), some (.ref 52), some (.int (jn w)), some (.long s), none, some (.int (jn n)), some (.int (jn t)), u8], [], M)) := by
  have hL0 := hL
  obtain ⟨hd, ⟨hn, hn1, hn4⟩, ⟨hR, hR1, hR4⟩, ⟨hW, hW2⟩, ⟨f0, f3, f4⟩, hst, ⟨⟨q0, s0⟩, ⟨a1, b1, s1⟩, ⟨a2, b2, s2⟩, ⟨b3, s3⟩, s4, s5, ⟨b6, s6⟩⟩, hs⟩ := hL
  intro m
  induction m with
  | zero =>
    intro t ht A M u0 u8 hI
    rw [h_276_398]
    refine z_nlt (by rw [jn_lt (by omega) (by omega)]; omega) ?_
    refine iv_T hs hI (fun M1 h1 => z_eq (by rw [lg_0]) ?_)
    exact law_484 hL0 R 0 (by omega) A M1 _ _ _ h1
  | succ m ih =>
    intro t ht A M u0 u8 hI
    rw [h_276_398]
    refine z_lt (by rw [jn_lt (by omega) (by omega)]; omega) ?_
    rw [if_neg (show ¬ jn 3 = jn 0 by decide), jn_rem (by omega) (by omega) (by omega)]
    have hT : K.1[t]? = some K.1[t] := List.getElem?_eq_getElem (by omega)
    have hTA : ∀ A : AT, A.1 = K → (tsA A)[t]? = some K.1[t] := fun A e => by show A.1.1[t]? = _; rw [e]; exact hT
    have hnA : ∀ A : AT, A.1 = K → (tsA A).length = n := fun A e => by show A.1.1.length = n; rw [e]; exact hn
    have hsA : ∀ (A : AT) (k : Nat) (q : SG), A.1 = K → K.2.2.1[k]? = some q → (ssA A)[k]? = some q := fun A k q e h => by show A.1.2.2.1[k]? = _; rw [e]; exact h
    have out : ∀ A M k, w + 7 ≤ k → k < 100 → Iv K (some K) f A M → Zz (E_276 d (411, [u0, some (.ref 0), some (.ref 52), some (.int (jn w)), some (.long s), none, some (.int (jn n)), some (.int (jn t)), some (.int (jn k))], [], M)) := by
      intro A M k hk hk2 hI
      rw [h_276_411]
      refine iv_b hI (by omega) ?_
      rw [f0]
      refine z_nlt (by rw [jn_lt (by omega) (by omega)]; omega) ?_
      refine iv_Y hI (l_laws (y7 := jn 0) (by omega) hI.2.2.1 hI.2.2.2.1 (hTA A hI.1) (hsA A _ _ hI.1 s0) (hsA A _ _ hI.1 s1) (hsA A _ _ hI.1 s2) (hsA A _ _ hI.1 s3) (hsA A _ _ hI.1 s4) (hsA A _ _ hI.1 s5) (hsA A _ _ hI.1 s6)) (fun A1 M1 h1 => z_ne (by decide) ?_)
      refine iv_Y h1 (l_fitted (f := f) (by omega) h1.2.2.1 h1.2.2.2.1 (hnA A1 h1.1) (by omega) h1.2.2.2.2 f3 (by rw [f4]; show _ = jn A1.1.2.1.length; rw [h1.1, hR]) (fun r hr => hsA A1 _ _ h1.1 (hst r (by have hr : r < A1.1.2.1.length := hr; rw [h1.1] at hr; omega))) (hTA A1 h1.1)) (fun A2 M2 h2 => z_ne (by decide) ?_)
      rw [jn_add]
      exact ih (t + 1) (by omega) A2 M2 _ _ h2
    have inner : ∀ m' k, w + 7 ≤ k + 3 * m' → k < 100 → ∀ A M, Iv K (some K) f A M → Zz (E_276 d (411, [u0, some (.ref 0), some (.ref 52), some (.int (jn w)), some (.long s), none, some (.int (jn n)), some (.int (jn t)), some (.int (jn k))], [], M)) := by
      intro m'
      induction m' with
      | zero => intro k hk hk2 A M hI; exact out A M k (by omega) hk2 hI
      | succ m' ih' =>
        intro k hk hk2 A M hI
        by_cases hkw : k < w + 7
        · rw [h_276_411]
          refine iv_b hI (by omega) ?_
          rw [f0]
          refine z_lt (by rw [jn_lt (by omega) (by omega)]; omega) ?_
          have hk' : K.2.2.1[k]? = some K.2.2.1[k] := List.getElem?_eq_getElem (by omega)
          refine iv_Y hI (l_ran (by omega) hI.2.2.1 hI.2.2.2.1 (hnA A hI.1) (by omega) (hsA A _ _ hI.1 hk') (hTA A hI.1)) (fun A1 M1 h1 => z_ne (by decide) ?_)
          rw [jn_add]
          exact ih' (k + 3) (by omega) (by omega) A1 M1 h1
        · exact out A M k (by omega) hk2 hI
    exact inner 24 (t % 3) (by omega) (by omega) A M hI
/-- told twice, imaged, refused; then all else -/
theorem law_219 {O : Option KT} (hL : Lw K f n R w d s) {A : AT} {M : PM} {u0 u5 u6 u7 u8 : Option Value} (hI : Iv K O f A M) : Zz (E_276 d (129, [u0, some (.ref 0), some (.ref 52), some (.int (jn w)), some (.int (jn 6)), u5, u6, u7, u8], [], M)) := by
  have hL0 := hL
  obtain ⟨hd, ⟨hn, hn1, hn4⟩, ⟨hR, hR1, hR4⟩, ⟨hW, hW2⟩, ⟨f0, f3, f4⟩, hst, ⟨⟨q0, s0⟩, -⟩, hs⟩ := hL
  have hT : K.1[0]? = some K.1[0] := List.getElem?_eq_getElem (by omega)
  have hTA : ∀ A : AT, A.1 = K → (tsA A)[0]? = some K.1[0] := fun A e => by show A.1.1[0]? = _; rw [e]; exact hT
  have hnA : ∀ A : AT, A.1 = K → (tsA A).length = n := fun A e => by show A.1.1.length = n; rw [e]; exact hn
  have hRA : ∀ A : AT, A.1 = K → (rsA A).length = R := fun A e => by show A.1.2.1.length = R; rw [e]; exact hR
  have hSA : ∀ A : AT, A.1 = K → (ssA A).length = w + 7 := fun A e => by show A.1.2.2.1.length = w + 7; rw [e]; exact hW
  rw [h_276_129]
  refine z_nlt (by decide) ?_
  refine iv_T hs hI (fun M1 h1 => ?_)
  refine iv_b h1 (by omega) ?_
  rw [f3]
  refine iv_T hs h1 (fun M3 h3 => z_eq (by rw [lg_0]) ?_)
  have x4 := x_image (d := d) (by omega) h3.2.2.1 h3.2.2.2.1
  refine iv_I (K' := K) (O' := some K) h3 x4 ⟨k_image h3.2.2.1, h3.1, by show some A.1 = some K; rw [h3.1]⟩ (fun A4 M4 h4 _ => z_eq (by show jn A.1.1.length = jn n; rw [h3.1, hn]) ?_)
  refine iv_T hs h4 (fun M5 h5 => z_eq (by rw [lg_0]) ?_)
  refine iv_b h5 (by omega) ?_
  rw [f0]
  refine iv_R (k := 1) h5 (x_run (d := d) (by omega) h5.2.2.1 h5.2.2.2.1) (F_run_noS (by omega) (by rw [hSA _ h5.1]; omega)) (fun A7 M7 h7 => z_eq rfl ?_)
  refine iv_R (k := 1) h7 (x_run (d := d) (by omega) h7.2.2.1 h7.2.2.2.1) (F_run_noT ⟨by decide, by rw [hSA _ h7.1, jn_toInt (by omega)]; omega⟩ (by omega) (by rw [hnA _ h7.1]; omega)) (fun A8 M8 h8 => z_eq rfl ?_)
  refine iv_b h8 (by omega) ?_
  rw [f4]
  refine iv_R (k := 1) h8 (x_rewrite (d := d) (by omega) h8.2.2.1 h8.2.2.2.1) (F_rewrite_noR (by omega) (by rw [hRA _ h8.1]; omega)) (fun A10 M10 h10 => z_eq rfl ?_)
  refine iv_R (k := 5) h10 (x_rewrite (d := d) (by omega) h10.2.2.1 h10.2.2.2.1) (F_rewrite_40 h10.2.2.1 ⟨by decide, by rw [hRA _ h10.1, jn_toInt (by omega)]; omega⟩ (hTA _ h10.1)) (fun A11 M11 h11 => z_eq rfl ?_)
  refine iv_R (k := 1) h11 (x_strategy (d := d) (by omega) h11.2.2.1 h11.2.2.2.1) (F_strategy_no (fun z => absurd z.1.2 (by decide))) (fun A12 M12 h12 => z_eq rfl ?_)
  refine iv_b h12 (by omega) ?_
  rw [f0]
  refine iv_R (k := 1) h12 (x_strategy (d := d) (by omega) h12.2.2.1 h12.2.2.2.1) (F_strategy_no (fun z => by
    have z2 := (z.2.2.1 (by decide)).2
    rw [hSA _ h12.1, jn_toInt (by omega)] at z2
    omega)) (fun A14 M14 h14 => z_eq rfl ?_)
  refine iv_R (k := 1) h14 (x_commute (d := d) (by omega) h14.2.2.1 h14.2.2.2.1) F_commute_h (fun A15 M15 h15 => z_eq rfl ?_)
  refine iv_R (k := 1) h15 (x_rule (d := d) (by omega) h15.2.2.1 h15.2.2.2.1) (F_rule_no (by omega) (by rw [hnA _ h15.1]; omega)) (fun A16 M16 h16 => z_eq rfl ?_)
  refine iv_R (k := 6) h16 (x_days (d := d) (by omega) h16.2.2.1 h16.2.2.2.1) (F_days_0 (by rw [hRA _ h16.1]; omega) (by rw [hnA _ h16.1]; omega)) (fun A17 M17 h17 => z_eq rfl ?_)
  refine iv_R (k := 6) h17 (x_row (d := d) (by omega) h17.2.2.1 h17.2.2.2.1) F_row_4 (fun A18 M18 h18 => z_eq rfl ?_)
  refine iv_T hs h18 (fun M19 h19 => z_eq (by rw [lg_0]) ?_)
  exact law_398 hL0 n 0 (by omega) A18 M19 _ _ h19
end
