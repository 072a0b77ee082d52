/-! fitted: nodes at which a rule fits, one behind the other -/
theorem ya_Ih {d id : Nat} {vs : List Value} {M : PM} {ra : Int32 × AT} {Q : AT → Prop} {v : Int32} {g : Int32 → PM → PO} (hx : XI (pcl GG lay d id vs M) M ra) (h : ∀ M1, RX ra.2 M1 → Hi M M1 → Ya M1 Q v (g ra.1 M1)) : Ya M Q v (kI (pcl GG laz d id vs M) g) := by
  obtain ⟨M1, e, h1, h2⟩ := hx.up
  obtain ⟨M', A', k1, k2, k3, k4, k5⟩ := h M1 h1 h2
  exact ⟨M', A', by rw [e, kI_r]; exact k1, k2, k3, k4, h2.trans k5⟩
theorem ya_Lh {d id : Nat} {vs : List Value} {M : PM} {ra : Int64 × AT} {Q : AT → Prop} {v : Int32} {g : Int64 → PM → PO} (hx : XL (pcl GG lay d id vs M) M ra) (h : ∀ M1, RX ra.2 M1 → Hi M M1 → Ya M1 Q v (g ra.1 M1)) : Ya M Q v (kL (pcl GG laz d id vs M) g) := by
  obtain ⟨M1, e, h1, h2⟩ := hx.up
  obtain ⟨M', A', k1, k2, k3, k4, k5⟩ := h M1 h1 h2
  exact ⟨M', A', by rw [e, kL_r]; exact k1, k2, k3, k4, h2.trans k5⟩
theorem laz_52 : laz[52]? = some (.inr (false, 80)) := rfl
theorem b_ald {M : PM} {i : Nat} (hi : i < 80) : aldI laz none M 52 (jn i) = some (M.1 52 i) := by
  unfold aldI
  rw [laz_52]
  simp only [inb_j hi (by omega), if_true, jn_clamp (show i < 2147483648 by omega)]
theorem b_ast {M : PM} {i : Nat} {v : Int32} (hi : i < 80) : astI laz M 52 (jn i) v = some (sI M 52 (va_up (M.1 52) i v)) := by
  unfold astI
  rw [laz_52]
  simp only [inb_j hi (by omega), if_true, jn_clamp (show i < 2147483648 by omega)]
/-- what the law's own row holds -/
def Bb (f : Nat → Int32) (M : PM) : Prop := M.1 52 = f
theorem Bb.hi {f : Nat → Int32} {M M' : PM} (h : Bb f M) (hh : Hi M M') : Bb f M' := by unfold Bb; rw [(hh 52 (by omega)).1]; exact h
/-! the nodes that a test takes -/
def fl (f : Nat → Bool) : Nat → Nat → List Nat
  | 0, _ => []
  | m + 1, k => if f k = true then k :: fl f m (k + 1) else fl f m (k + 1)
theorem fl_cnt (f : Nat → Bool) : ∀ m k c, cnt f m k c = c + (fl f m k).length := by
  intro m
  induction m with
  | zero => intro k c; rfl
  | succ m ih =>
    intro k c
    rw [cnt, fl]
    split
    · rw [ih, List.length_cons]; omega
    · exact ih _ _
theorem fl_in (f : Nat → Bool) : ∀ m k x, x ∈ fl f m k ↔ k ≤ x ∧ x < k + m ∧ f x = true := by
  intro m
  induction m with
  | zero => intro k x; exact ⟨fun h => (by cases h), fun h => (by omega)⟩
  | succ m ih =>
    intro k x
    rw [fl]
    by_cases hk : f k = true
    · rw [if_pos hk, List.mem_cons, ih]
      constructor
      · rintro (rfl | ⟨h1, h2, h3⟩)
        · exact ⟨by omega, by omega, hk⟩
        · exact ⟨by omega, by omega, h3⟩
      · rintro ⟨h1, h2, h3⟩
        by_cases e : x = k
        · exact Or.inl e
        · exact Or.inr ⟨by omega, by omega, h3⟩
    · rw [if_neg hk, ih]
      constructor
      · rintro ⟨h1, h2, h3⟩; exact ⟨by omega, by omega, h3⟩
      · rintro ⟨h1, h2, h3⟩
        have : x ≠ k := fun e => hk (by rw [← e]; exact h3)
        exact ⟨by omega, by omega, h3⟩
theorem fl_len (f : Nat → Bool) : ∀ m k, (fl f m k).length ≤ m := by
  intro m
  induction m with
  | zero => intro k; exact Nat.le_refl _
  | succ m ih =>
    intro k
    rw [fl]
    have := ih (k + 1)
    split
    · rw [List.length_cons]; omega
    · omega
theorem fl_nth (f : Nat → Bool) : ∀ m k c j x, k + m ≤ 1000 → c + m ≤ 1000 → (fl f m k)[j]? = some x → nth f m k c (jn (c + j)) = jn x := by
  intro m
  induction m with
  | zero => intro k c j x _ _ h; cases h
  | succ m ih =>
    intro k c j x hk hc h
    rw [fl] at h
    rw [nth]
    by_cases hf : f k = true
    · rw [if_pos hf] at h ⊢
      cases j with
      | zero =>
        rw [List.getElem?_cons_zero] at h
        cases h
        rw [Nat.add_zero, if_pos rfl]
      | succ j =>
        rw [List.getElem?_cons_succ] at h
        have hl : j < (fl f m (k + 1)).length := (List.getElem?_eq_some_iff.mp h).1
        have hl2 := fl_len f m (k + 1)
        rw [if_neg (by rw [jn_inj (by omega) (by omega)]; omega), show c + (j + 1) = c + 1 + j by omega]
        exact ih _ _ _ _ (by omega) (by omega) h
    · rw [if_neg hf] at h ⊢
      exact ih _ _ _ _ (by omega) (by omega) h
theorem fl_up (f : Nat → Bool) : ∀ m k j x y, (fl f m k)[j]? = some x → (fl f m k)[j + 1]? = some y → x < y := by
  intro m
  induction m with
  | zero => intro k j x y h; cases h
  | succ m ih =>
    intro k j x y h1 h2
    rw [fl] at h1 h2
    by_cases hf : f k = true
    · rw [if_pos hf] at h1 h2
      rw [List.getElem?_cons_succ] at h2
      cases j with
      | zero =>
        rw [List.getElem?_cons_zero] at h1
        cases h1
        have := (fl_in f m (k + 1) y).mp (List.mem_of_getElem? h2)
        omega
      | succ j =>
        rw [List.getElem?_cons_succ] at h1
        exact ih _ _ _ _ h1 h2
    · rw [if_neg hf] at h1 h2
      exact ih _ _ _ _ h1 h2
theorem fl_0 {f : Nat → Bool} {m : Nat} : (fl f (m + 1) 0)[0]? = some 0 ↔ f 0 = true := by
  constructor
  · intro h
    exact ((fl_in f (m + 1) 0 0).mp (List.mem_of_getElem? h)).2.2
  · intro h
    rw [fl, if_pos h]
    rfl
/-! bits -/
theorem bit64 : ∀ k, k < 40 → ∀ j, j < 64 → tb (bitL k) j = decide (j = k) := by decide +kernel
theorem tb_ext {v w : Int64} (h : ∀ j, j < 64 → tb v j = tb w j) : v = w := by
  apply Int64.toBitVec_inj.mp
  apply BitVec.eq_of_getLsbD_eq
  intro j hj
  exact h j hj
theorem tb_msk (f : Nat → Bool) : ∀ m k v, k + m ≤ 40 → ∀ j, j < 64 → tb (msk f m k v) j = (tb v j || (decide (k ≤ j) && (decide (j < k + m) && f j))) := by
  intro m
  induction m with
  | zero =>
    intro k v hk j hj
    rw [msk]
    by_cases h : k ≤ j
    · rw [decide_eq_false (show ¬ j < k + 0 by omega), Bool.false_and, Bool.and_false, Bool.or_false]
    · rw [decide_eq_false h, Bool.false_and, Bool.or_false]
  | succ m ih =>
    intro k v hk j hj
    rw [msk]
    by_cases hf : f k = true
    · rw [if_pos hf, ih _ _ (by omega) j hj, tb_or, bit64 k (by omega) j hj]
      by_cases e : j = k
      · subst e
        simp [hf]
      · have e1 : decide (k + 1 ≤ j) = decide (k ≤ j) := by rw [decide_eq_decide]; omega
        rw [e1]
        have e2 : decide (j < k + 1 + m) = decide (j < k + (m + 1)) := by rw [decide_eq_decide]; omega
        rw [e2]
        simp [e]
    · rw [if_neg hf, ih _ _ (by omega) j hj]
      by_cases e : j = k
      · subst e
        have hf : f j = false := by simpa using hf
        simp [hf]
      · have e1 : decide (k + 1 ≤ j) = decide (k ≤ j) := by rw [decide_eq_decide]; omega
        have e2 : decide (j < k + 1 + m) = decide (j < k + (m + 1)) := by rw [decide_eq_decide]; omega
        rw [e1, e2]
theorem any_ex (f : Nat → Bool) : ∀ m k, anyF f m k = true ↔ ∃ i, k ≤ i ∧ i < k + m ∧ f i = true := by
  intro m
  induction m with
  | zero => intro k; exact ⟨fun h => (by cases h), fun ⟨i, h1, h2, _⟩ => (by omega)⟩
  | succ m ih =>
    intro k
    rw [anyF]
    by_cases hf : f k = true
    · rw [if_pos hf]
      exact ⟨fun _ => ⟨k, by omega, by omega, hf⟩, fun _ => rfl⟩
    · rw [if_neg hf, ih]
      constructor
      · rintro ⟨i, h1, h2, h3⟩; exact ⟨i, by omega, by omega, h3⟩
      · rintro ⟨i, h1, h2, h3⟩
        have : i ≠ k := fun e => hf (by rw [← e]; exact h3)
        exact ⟨i, by omega, by omega, h3⟩
section
variable {d n t : Nat} {A : AT} {M : PM} {T : Tm}
abbrev fR (A : AT) (T : Tm) (r k : Nat) : Bool := fitB (cmA A) ((rsA A).getD r (Lf, Lf)).1 T k
theorem hsR_at (hA : AOk A) {r : Nat} (hr : r < (rsA A).length) : hsR A (jn r) ∧ rlN A (jn r) = (rsA A).getD r (Lf, Lf) := by
  have h12 : (rsA A).length ≤ 12 := hA.1.2.1.1
  refine ⟨⟨?_, ?_⟩, ?_⟩
  · rw [jn_toInt (by omega)]; omega
  · rw [jn_toInt (by omega)]; omega
  · rw [rlN, jnN (by omega)]
theorem F_fits_m (hA : AOk A) {r : Nat} (hr : r < (rsA A).length) (ht : (tsA A)[t]? = some T) : F_fits A (jn r) (jn t) (jz 1) = (jn (fl (fR A T r) (sz T) 0).length, A) := by
  obtain ⟨a1, a2, -⟩ := tm_at hA ht
  obtain ⟨r1, r2⟩ := hsR_at hA hr
  unfold F_fits
  rw [if_neg (fun z => z r1), if_neg (fun z => z a1), if_pos rfl, a2, r2, fl_cnt, Nat.zero_add]
theorem F_fits_j (hA : AOk A) {r j x : Nat} (hr : r < (rsA A).length) (ht : (tsA A)[t]? = some T) (hx : (fl (fR A T r) (sz T) 0)[j]? = some x) : F_fits A (jn r) (jn t) (jn j) = (jn x, A) := by
  obtain ⟨a1, a2, a3, a4⟩ := tm_at hA ht
  obtain ⟨r1, r2⟩ := hsR_at hA hr
  have hl := fl_len (fR A T r) (sz T) 0
  have hj : j < (fl (fR A T r) (sz T) 0).length := (List.getElem?_eq_some_iff.mp hx).1
  unfold F_fits
  rw [if_neg (fun z => z r1), if_neg (fun z => z a1), if_neg (jz_ne_jn (by omega) (by omega)), a2, r2]
  have := fl_nth (fR A T r) (sz T) 0 0 j x (by omega) (by omega) hx
  rw [Nat.zero_add] at this
  rw [this]
theorem F_termOf_3 (hA : AOk A) (ht : (tsA A)[t]? = some T) : F_termOf A (jn t) (jn 3) = (if lg_cmp (msk (anyR A T) (sz T) 0 (Int64.ofNat 0)) (Int64.ofNat 0) = jn 0 then jn 1 else jn 0, A) := by
  obtain ⟨a1, a2, -⟩ := tm_at hA ht
  unfold F_termOf
  rw [if_neg (fun z => z a1), if_neg (show ¬ jn 3 = jn 0 by decide), if_neg (show ¬ jn 3 = jn 1 by decide), if_neg (show ¬ jn 3 = jn 2 by decide), if_pos rfl, a2]
theorem F_redexes_at (hA : AOk A) (ht : (tsA A)[t]? = some T) : F_redexes A (jn t) = (msk (anyR A T) (sz T) 0 (Int64.ofNat 0), A) := by
  obtain ⟨a1, a2, -⟩ := tm_at hA ht
  unfold F_redexes
  rw [if_neg (fun z => z a1), a2]
/-- rewriting where the rule fits: a new term, or too large -/
theorem fit_rwt {r x : Nat} (hf : fR A T r x = true) : (rwt (cmA A) ((rsA A).getD r (Lf, Lf)) T x).1 = 0 ∨ (rwt (cmA A) ((rsA A).getD r (Lf, Lf)) T x).1 = 7 := by
  unfold fR fitB at hf
  unfold rwt
  cases hm : mat (cmA A) ((rsA A).getD r (Lf, Lf)).1 (sub T x) with
  | none => rw [hm] at hf; cases hf
  | some e =>
    simp only
    split
    · exact Or.inr rfl
    · exact Or.inl rfl
/-- how a rule goes as a strategy -/
theorem rn_rule {k r : Nat} {y : Int32} (h : gM A (jn k) = (0, jn r, y)) (hr : r < 1000) : rnA A (jn k) T 0 0 = bck (stQ 0 0) (rulC (cmA A) ((rsA A).getD r (Lf, Lf)) r T p0S q1S) := by
  rw [rn_at h]
  show bck (stQ 0 0) (fM A (jn r) T p0S q1S) = _
  unfold fM
  rw [jnN (by omega)]
theorem rn_rule_1 {k r : Nat} {y : Int32} (h : gM A (jn k) = (0, jn r, y)) (hr : r < 1000) (hf : ¬ fR A T r 0 = true) : trlV (jn 0) (rnA A (jn k) T 0 0) = jn 1 := by
  unfold fR fitB at hf
  rw [sub_0] at hf
  rw [rn_rule h hr]
  unfold rulC
  cases hm : mat (cmA A) ((rsA A).getD r (Lf, Lf)).1 T with
  | none => rfl
  | some e => rw [hm] at hf; exact absurd rfl hf
theorem rn_rule_0 {k r : Nat} {y : Int32} (h : gM A (jn k) = (0, jn r, y)) (hr : r < 1000) (hf : fR A T r 0 = true) : trlV (jn 0) (rnA A (jn k) T 0 0) ≠ jn 1 ∧ (trlV (jn 0) (rnA A (jn k) T 0 0) = jn 0 → trlV (jn 2) (rnA A (jn k) T 0 0) = jn 1) := by
  unfold fR fitB at hf
  rw [sub_0] at hf
  rw [rn_rule h hr]
  unfold rulC
  cases hm : mat (cmA A) ((rsA A).getD r (Lf, Lf)).1 T with
  | none => rw [hm] at hf; cases hf
  | some e =>
    simp only
    rw [if_neg (show ¬ q1S.2.1 = 40 by decide)]
    split
    · refine ⟨?_, fun z => ?_⟩
      · rw [trl_02.mpr ⟨rfl, rfl⟩]; decide
      · rw [trl_02.mpr ⟨rfl, rfl⟩] at z; exact absurd z (by decide)
    · refine ⟨?_, fun _ => ?_⟩
      · rw [trl_00.mpr ⟨_, rfl⟩]; decide
      · exact trl_2s
theorem l_fitted {f : Nat → Int32} (hd : 20 ≤ d) (hA : AOk A) (h : RX A M) (hn : (tsA A).length = n) (hn4 : n ≤ 20) (hb : Bb f M) (hb3 : f 3 = jn n) (hb4 : f 4 = jn (rsA A).length) (hst : ∀ r, r < (rsA A).length → (ssA A)[r]? = some (0, jn r, jz 1)) (ht : (tsA A)[t]? = some T) : Ya M (Sm A) (jn 1) (pcl GG laz d 76 [.ref 0, .ref 52, .int (jn t)] M) := by
  obtain ⟨d, rfl⟩ := ex_add (show 1 ≤ d by omega)
  have d16 : 16 ≤ d := by omega
  obtain ⟨t1, t2, t3, t4⟩ := tm_at hA ht
  have h12 : (rsA A).length ≤ 12 := hA.1.2.1.1
  have hT0 := sz_pos T t3
  rw [q_76]
  have x1 := x_redexes (d := d) (a := jn t) (by omega) hA h
  rw [F_redexes_at hA ht] at x1
  refine ya_Lh x1 (fun M1 h1 i1 => ?_)
  have b1 := hb.hi i1
  rw [b_ald (by omega), oB_s, show M1.1 52 3 = jn n by rw [show M1.1 52 = f from b1, hb3]]
  -- the state may have had refusals since
  have outer : ∀ m r (l5 : Int64) M2 A2 u9 u10 u11 u12 u13, r + m = (rsA A).length → A2.1 = A.1 → A2.2.1 = A.2.1 → AOk A2 → RX A2 M2 → Bb f M2 → (∀ j, j < 64 → (tb l5 j = true ↔ (j < sz T ∧ ∃ r', r' < r ∧ fR A T r' j = true))) →
      Ya M2 (Sm A) (jn 1) (E_76 d (17, [some (.ref 0), some (.ref 52), some (.int (jn t)), some (.long (msk (anyR A T) (sz T) 0 (Int64.ofNat 0))), none, some (.long l5), none, some (.int (jn n)), some (.int (jn r)), u9, u10, u11, u12, u13], [], M2)) := by
    intro m
    induction m with
    | zero =>
      intro r l5 M2 A2 u9 u10 u11 u12 u13 hr e1 e2 hA2 h2 b2 hl
      have ht2 : (tsA A2)[t]? = some T := by show A2.1.1[t]? = _; rw [e1]; exact ht
      rw [h_76_17, b_ald (by omega), oB_s, show M2.1 52 4 = jn (rsA A).length by rw [show M2.1 52 = f from b2, hb4]]
      refine ya_nlt (by rw [jn_lt (by omega) (by omega)]; omega) ?_
      have e : l5 = msk (anyR A T) (sz T) 0 (Int64.ofNat 0) := by
        refine tb_ext (fun j hj => ?_)
        rw [Bool.eq_iff_iff, hl j hj, tb_msk _ _ _ _ (by omega) j hj, tb_0, Bool.false_or, Bool.and_eq_true, Bool.and_eq_true, decide_eq_true_eq, decide_eq_true_eq, any_ex]
        constructor
        · rintro ⟨z1, i, z2, z3⟩
          exact ⟨Nat.zero_le _, by omega, i, Nat.zero_le _, by omega, z3⟩
        · rintro ⟨-, z1, i, -, z2, z3⟩
          exact ⟨by omega, i, by omega, z3⟩
      refine ya_eq (by rw [lg_0]; exact e) ?_
      have x3 := x_termOf (d := d) (a := jn t) (b := jn 3) (by omega) hA2 h2
      rw [F_termOf_3 hA2 ht2] at x3
      have ea : anyR A2 T = anyR A T := by
        obtain ⟨K, x⟩ := A
        obtain ⟨K', x'⟩ := A2
        have e1 : K' = K := e1
        subst e1
        rfl
      rw [ea] at x3
      refine ya_I x3 (fun M3 h3 => ?_)
      have fin : Ya M3 (Sm A) (jn 1) (rZ (jn 1) M3) := ya_1 h3 hA2 ⟨e1, e2⟩
      simp only
      by_cases z : lg_cmp (msk (anyR A T) (sz T) 0 (Int64.ofNat 0)) (Int64.ofNat 0) = jn 0
      · rw [if_pos z, if_pos z]
        exact ya_eq rfl fin
      · rw [if_neg z, if_neg z]
        exact ya_eq rfl fin
    | succ m ihm =>
      intro r l5 M2 A2 u9 u10 u11 u12 u13 hr e1 e2 hA2 h2 b2 hl
      have ht2 : ∀ B : AT, B.1 = A.1 → (tsA B)[t]? = some T := fun B e => by show B.1.1[t]? = _; rw [e]; exact ht
      have hrl : r < (rsA A).length := by omega
      have hrB : ∀ B : AT, B.1 = A.1 → r < (rsA B).length := fun B e => by show r < B.1.2.1.length; rw [e]; exact hrl
      have hfB : ∀ B : AT, B.1 = A.1 → fR B T r = fR A T r := by
        intro B e
        obtain ⟨K, x⟩ := A
        obtain ⟨K', x'⟩ := B
        have e : K' = K := e
        subst e
        rfl
      rw [h_76_17, b_ald (by omega), oB_s, show M2.1 52 4 = jn (rsA A).length by rw [show M2.1 52 = f from b2, hb4]]
      refine ya_lt (by rw [jn_lt (by omega) (by omega)]; omega) ?_
      have x3 := x_fits (d := d) (a := jn r) (b := jn t) (c := jz 1) (by omega) hA2 h2
      rw [F_fits_m hA2 (hrB A2 e1) (ht2 A2 e1), hfB A2 e1] at x3
      refine ya_Ih x3 (fun M3 h3 i3 => ?_)
      have hLN := fl_len (fR A T r) (sz T) 0
      -- the nodes of this rule
      have inner : ∀ m' i (l5' : Int64) (had : Int32) M4 A4 u12 u13, i + m' = (fl (fR A T r) (sz T) 0).length → A4.1 = A.1 → A4.2.1 = A.2.1 → AOk A4 → RX A4 M4 → Bb f M4 → (∀ x, (fl (fR A T r) (sz T) 0)[i]? = some x → had < jn x) → (∀ j, j < 64 → (tb l5' j = true ↔ (tb l5 j = true ∨ ∃ i', i' < i ∧ (fl (fR A T r) (sz T) 0)[i']? = some j))) →
          Ya M4 (Sm A) (jn 1) (E_76 d (41, [some (.ref 0), some (.ref 52), some (.int (jn t)), some (.long (msk (anyR A T) (sz T) 0 (Int64.ofNat 0))), none, some (.long l5'), none, some (.int (jn n)), some (.int (jn r)), some (.int (jn (fl (fR A T r) (sz T) 0).length)), some (.int had), some (.int (jn i)), u12, u13], [], M4)) := by
        intro m'
        induction m' with
        | zero =>
          intro i l5' had M4 A4 u12 u13 hi f1 f2 hA4 h4 b4 hhad hl5
          rw [h_76_41]
          refine ya_nlt (by rw [jn_lt (by omega) (by omega)]; omega) ?_
          -- onto the next rule
          have next : ∀ M5 u9 u10 u11 u12 u13, RX A4 M5 → Bb f M5 → Ya M5 (Sm A) (jn 1) (E_76 d (220, [some (.ref 0), some (.ref 52), some (.int (jn t)), some (.long (msk (anyR A T) (sz T) 0 (Int64.ofNat 0))), none, some (.long l5'), none, some (.int (jn n)), some (.int (jn r)), u9, u10, u11, u12, u13], [], M5)) := by
            intro M5 u9 u10 u11 u12 u13 h5 b5
            rw [h_76_220, jn_add]
            refine ihm (r + 1) l5' M5 A4 _ _ _ _ _ (by omega) f1 f2 hA4 h5 b5 (fun j hj => ?_)
            rw [hl5 j hj, hl j hj]
            constructor
            · rintro (⟨z1, r', z2, z3⟩ | ⟨i', z1, z2⟩)
              · exact ⟨z1, r', by omega, z3⟩
              · have := (fl_in _ _ _ _).mp (List.mem_of_getElem? z2)
                exact ⟨by omega, r, by omega, this.2.2⟩
            · rintro ⟨z1, r', z2, z3⟩
              by_cases er : r' = r
              · rw [er] at z3
                obtain ⟨i', hi'⟩ := List.getElem?_of_mem ((fl_in (fR A T r) (sz T) 0 j).mpr ⟨by omega, by omega, z3⟩)
                have : i' < (fl (fR A T r) (sz T) 0).length := (List.getElem?_eq_some_iff.mp hi').1
                exact Or.inr ⟨i', by omega, hi'⟩
              · exact Or.inl ⟨z1, r', by omega, z3⟩
          have hst4 : (ssA A4)[r]? = some (0, jn r, jz 1) := by show A4.1.2.2.1[r]? = _; rw [f1]; exact hst r hrl
          have hg := gM_at hA4 hst4
          have not : ∀ M5 u9 u10 u11 u12 u13, ¬ fR A T r 0 = true → RX A4 M5 → Bb f M5 → Ya M5 (Sm A) (jn 1) (E_76 d (161, [some (.ref 0), some (.ref 52), some (.int (jn t)), some (.long (msk (anyR A T) (sz T) 0 (Int64.ofNat 0))), none, some (.long l5'), none, some (.int (jn n)), some (.int (jn r)), u9, u10, u11, u12, u13], [], M5)) := by
            intro M5 u9 u10 u11 u12 u13 hf h5 b5
            rw [h_76_161]
            have x6 := x_trial (d := d) (a := jn r) (b := jn t) (c := jn 0) d16 hA4 h5
            rw [F_trial_ok hA4 hst4 (ht2 A4 f1) (by omega), rn_rule_1 hg (by omega) (by rw [hfB A4 f1]; exact hf)] at x6
            refine ya_Ih x6 (fun M6 h6 i6 => ya_eq rfl (ya_eq rfl ?_))
            rw [h_76_185]
            refine ya_eq rfl ?_
            rw [h_76_196]
            refine ya_eq rfl ?_
            exact next M6 _ _ _ _ _ h6 (b5.hi i6)
          by_cases hz : (fl (fR A T r) (sz T) 0).length = 0
          · refine ya_nlt (by rw [jn_lt (by omega) (by omega)]; omega) ?_
            refine not M4 _ _ _ _ _ (fun hf => ?_) h4 b4
            have := (fl_in (fR A T r) (sz T) 0 0).mpr ⟨by omega, by omega, hf⟩
            rw [List.length_eq_zero_iff.mp hz] at this
            cases this
          · refine ya_lt (by rw [jn_lt (by omega) (by omega)]; omega) ?_
            have hx0 : (fl (fR A T r) (sz T) 0)[0]? = some (fl (fR A T r) (sz T) 0)[0] := List.getElem?_eq_getElem (by omega)
            have x5 := x_fits (d := d) (a := jn r) (b := jn t) (c := jn 0) (by omega) hA4 h4
            rw [F_fits_j (j := 0) (x := (fl (fR A T r) (sz T) 0)[0]) hA4 (hrB A4 f1) (ht2 A4 f1) (by rw [hfB A4 f1]; exact hx0)] at x5
            refine ya_Ih x5 (fun M5 h5 i5 => ?_)
            have hlt := ((fl_in (fR A T r) (sz T) 0 _).mp (List.mem_of_getElem? hx0)).2.1
            obtain ⟨sT, hsT⟩ : ∃ s, sz T = s + 1 := ⟨sz T - 1, by omega⟩
            by_cases hf : fR A T r 0 = true
            · have e0 : (fl (fR A T r) (sz T) 0)[0] = 0 := by
                have := (fl_0 (f := fR A T r) (m := sT)).mpr hf
                rw [← hsT, hx0] at this
                exact Option.some.inj this
              refine ya_eq (by rw [e0]) ?_
              obtain ⟨k1, k2⟩ := rn_rule_0 (T := T) hg (by omega) (by rw [hfB A4 f1]; exact hf)
              have x6 := x_trial (d := d) (a := jn r) (b := jn t) (c := jn 0) d16 hA4 h5
              rw [F_trial_ok hA4 hst4 (ht2 A4 f1) (by omega)] at x6
              refine ya_Ih x6 (fun M6 h6 i6 => ya_ne (by decide) ?_)
              rw [h_76_185]
              refine ya_ne (by decide) (ya_ne k1 ?_)
              rw [h_76_196]
              refine ya_ne (by decide) ?_
              by_cases hz0 : trlV (jn 0) (rnA A4 (jn r) T 0 0) = jn 0
              · refine ya_eq hz0 ?_
                have x7 := x_trial (d := d) (a := jn r) (b := jn t) (c := jn 2) d16 hA4 h6
                rw [F_trial_ok hA4 hst4 (ht2 A4 f1) (by omega)] at x7
                refine ya_Ih x7 (fun M7 h7 i7 => ya_eq (k2 hz0) ?_)
                exact next M7 _ _ _ _ _ h7 (((b4.hi i5).hi i6).hi i7)
              · refine ya_ne hz0 ?_
                exact next M6 _ _ _ _ _ h6 ((b4.hi i5).hi i6)
            · have e0 : (fl (fR A T r) (sz T) 0)[0] ≠ 0 := by
                intro z
                rw [z, hsT] at hx0
                exact hf (fl_0.mp hx0)
              refine ya_ne (by rw [ne_eq, jn_inj (by omega) (by omega)]; exact e0) ?_
              exact not M5 _ _ _ _ _ hf h5 (b4.hi i5)
        | succ m' ih' =>
          intro i l5' had M4 A4 u12 u13 hi f1 f2 hA4 h4 b4 hhad hl5
          have hil : i < (fl (fR A T r) (sz T) 0).length := by omega
          have hx : (fl (fR A T r) (sz T) 0)[i]? = some (fl (fR A T r) (sz T) 0)[i] := List.getElem?_eq_getElem hil
          generalize (fl (fR A T r) (sz T) 0)[i] = x at hx
          obtain ⟨-, hx1, hx2⟩ := (fl_in (fR A T r) (sz T) 0 x).mp (List.mem_of_getElem? hx)
          have hx1 : x < sz T := by omega
          rw [h_76_41]
          refine ya_lt (by rw [jn_lt (by omega) (by omega)]; omega) ?_
          have x5 := x_fits (d := d) (a := jn r) (b := jn t) (c := jn i) (by omega) hA4 h4
          rw [F_fits_j (j := i) (x := x) hA4 (hrB A4 f1) (ht2 A4 f1) (by rw [hfB A4 f1]; exact hx)] at x5
          refine ya_Ih x5 (fun M5 h5 i5 => ya_lt (hhad x hx) ?_)
          have x6 := x_termOf (d := d) (a := jn t) (b := jn 0) (by omega) hA4 h5
          rw [F_termOf_0 hA4 (ht2 A4 f1)] at x6
          refine ya_Ih x6 (fun M6 h6 i6 => ya_lt (by rw [jn_lt (by omega) (by omega)]; exact hx1) ?_)
          have x7 := x_rewrite (d := d) (a := jn r) (b := jn t) (c := jn x) (by omega) hA4 h6
          have hr4 : (rsA A4)[r]? = some ((rsA A4).getD r (Lf, Lf)) := by rw [List.getD_eq_getElem?_getD, List.getElem?_eq_getElem (hrB A4 f1)]; rfl
          have f7 := F_rewrite_at hA4 hr4 (ht2 A4 f1) hx1
          have fw := fit_rwt (A := A4) (T := T) (r := r) (x := x) (by rw [hfB A4 f1]; exact hx2)
          have hn4' : (tsA A4).length = n := by show A4.1.1.length = _; rw [f1]; exact hn
          -- behind it
          have on : ∀ (A8 : AT) M8 u12 u13, A8.1 = A.1 → A8.2.1 = A.2.1 → AOk A8 → RX A8 M8 → Bb f M8 → Ya M8 (Sm A) (jn 1) (E_76 d (135, [some (.ref 0), some (.ref 52), some (.int (jn t)), some (.long (msk (anyR A T) (sz T) 0 (Int64.ofNat 0))), none, some (.long (l5' ||| bitL x)), none, some (.int (jn n)), some (.int (jn r)), some (.int (jn (fl (fR A T r) (sz T) 0).length)), some (.int (jn x)), some (.int (jn i)), u12, u13], [], M8)) := by
            intro A8 M8 u12 u13 g1 g2 hA8 h8 b8
            rw [h_76_135, jn_add]
            refine ih' (i + 1) _ _ M8 A8 _ _ (by omega) g1 g2 hA8 h8 b8 (fun y hy => ?_) (fun j hj => ?_)
            · have hxy := fl_up _ _ _ _ _ _ hx hy
              have hy1 := ((fl_in (fR A T r) (sz T) 0 y).mp (List.mem_of_getElem? hy)).2.1
              rw [jn_lt (by omega) (by omega)]
              exact hxy
            · rw [tb_or, Bool.or_eq_true, hl5 j hj, bit64 x (by omega) j hj, decide_eq_true_eq]
              constructor
              · rintro ((z | ⟨i', z1, z2⟩) | z)
                · exact Or.inl z
                · exact Or.inr ⟨i', by omega, z2⟩
                · exact Or.inr ⟨i, by omega, by rw [z]; exact hx⟩
              · rintro (z | ⟨i', z1, z2⟩)
                · exact Or.inl (Or.inl z)
                · by_cases ei : i' = i
                  · rw [ei, hx] at z2
                    exact Or.inr (Option.some.inj z2).symm
                  · exact Or.inl (Or.inr ⟨i', by omega, z2⟩)
          rcases fw with fw | fw
          · rw [if_pos fw, addT_pt (by omega), hn4'] at f7
            obtain ⟨w1, w2⟩ := rwt_ok (hA4.1.2.1.2 _ (List.mem_of_getElem? hr4)).2.1 t3 t4 hx1 fw
            have hX := ok_pt hA4 (by omega) w1 w2
            rw [f7] at x7
            refine ya_Ih x7 (fun M7 h7 i7 => ya_eq rfl ?_)
            rw [h_76_117]
            refine ya_eq rfl ?_
            have x8 := x_drop (d := d) (by omega) hX h7
            rw [drop_pt, hn4'] at x8
            refine ya_Ih x8 (fun M8 h8 i8 => ya_eq rfl ?_)
            exact on A4 M8 _ _ f1 f2 hA4 h8 ((((b4.hi i5).hi i6).hi i7).hi i8)
          · rw [if_neg (by rw [fw]; decide), fw] at f7
            rw [f7] at x7
            refine ya_Ih x7 (fun M7 h7 i7 => ya_ne (fun z => jz_ne_jn (by omega) (by omega) z.symm) (ya_eq rfl ?_))
            rw [h_76_117]
            refine ya_ne (fun z => jz_ne_jn (by omega) (by omega) z.symm) ?_
            exact on (rfs A4 7).2 M7 _ _ f1 f2 (ok_rfs hA4) h7 (((b4.hi i5).hi i6).hi i7)
      refine inner (fl (fR A T r) (sz T) 0).length 0 l5 (jz 1) M3 A2 _ _ (by omega) e1 e2 hA2 h3 (b2.hi i3) (fun x hx => ?_) (fun j hj => ?_)
      · have := ((fl_in (fR A T r) (sz T) 0 x).mp (List.mem_of_getElem? hx)).2.1
        rw [jz_lt_jn (by omega) (by omega)]
        trivial
      · constructor
        · intro z
          exact Or.inl z
        · rintro (z | ⟨i', z, -⟩)
          · exact z
          · omega
  refine outer (rsA A).length 0 (Int64.ofNat 0) M1 A _ _ _ _ _ (by omega) rfl rfl hA h1 b1 (fun j hj => ?_)
  rw [tb_0]
  constructor
  · intro z; cases z
  · rintro ⟨-, r', z, -⟩
    omega
end
