/-! ran: a run, its trial, its trace replayed, step by step -/
theorem take_1 {α : Type} : ∀ (l : List α) (i : Nat) (h : i < l.length), l.take (i + 1) = l.take i ++ [l[i]] := by
  intro l
  induction l with
  | nil => intro i h; exact absurd h (Nat.not_lt_zero _)
  | cons x l ih =>
    intro i h
    cases i with
    | zero => rfl
    | succ i => exact congrArg (x :: ·) (ih i (Nat.lt_of_succ_lt_succ h))
theorem rnA_K {A A' : AT} (h : A'.1.2 = A.1.2) (w : Int32) (T : Tm) (b r : Nat) : rnA A' w T b r = rnA A w T b r := by
  obtain ⟨⟨ts, K⟩, x⟩ := A
  obtain ⟨⟨ts', K'⟩, x'⟩ := A'
  have h : K' = K := h
  subst h
  rfl
theorem rpl_K {A A' : AT} (h : A'.1.2 = A.1.2) (l : List (Nat × Int64)) (t : Tm) : rpl A' l t = rpl A l t := rpl_eq (by show A'.1.2.1 = A.1.2.1; rw [h]) (by show A'.1.2.2.2.1 = A.1.2.2.2.1; rw [h]) l t
theorem rpl_ok {A : AT} (hA : AOk A) : ∀ l t, wf t → sz t ≤ 40 → (rpl A l t).1 = 0 → wf (rpl A l t).2 ∧ sz (rpl A l t).2 ≤ 40 := by
  intro l
  induction l with
  | nil => intro t h1 h2 _; exact ⟨h1, h2⟩
  | cons x l ih =>
    intro t h1 h2 h
    rw [rpl] at h ⊢
    by_cases h0 : (rpO A x.1 x.2 t).1 = 0
    · rw [if_pos h0] at h ⊢
      obtain ⟨w1, w2⟩ := rpO_ok hA h1 h2 h0
      exact ih _ w1 w2 h
    · rw [if_neg h0] at h; exact absurd h h0
theorem jz_ne_jn {a b : Nat} (ha : a < 1000) (hb : 0 < b ∧ b ≤ 1000) : jn a ≠ jz b := fun h => by
  have := congrArg Int32.toInt h
  rw [jn_toInt (by omega), jz_toInt (by omega)] at this
  omega
section
variable {d n t w : Nat} {A : AT} {M : PM} {T u U : Tm} {tr : List (Nat × Int64)}
theorem F_status_6 : F_status A (jn 6) = (jn A.2.2.1.length, A) := by
  unfold F_status
  rw [if_neg (show ¬ jn 6 = jn 0 by decide), if_neg (show ¬ jn 6 = jn 1 by decide), if_neg (show ¬ jn 6 = jn 2 by decide), if_neg (show ¬ jn 6 = jn 3 by decide), if_neg (show ¬ jn 6 = jn 4 by decide), if_neg (show ¬ jn 6 = jn 5 by decide), if_pos rfl]
theorem lk_at {α : Type} {l : List α} {k : Nat} {x : α} (hk : k < 1000) (h : l[k]? = some x) : lk l (jn k) = some x := by
  unfold lk
  rw [if_neg (by rw [jn_toInt (by omega)]; omega), jnN (by omega), h]
theorem F_trace_at {i : Nat} {q : Nat × Int64} (hi : i < 1000) (h : A.2.2.1[i]? = some q) : F_trace A (jn i) = (jn q.1, A) := by
  unfold F_trace
  rw [lk_at hi h]
theorem F_tracePath_at {i : Nat} {q : Nat × Int64} (hi : i < 1000) (h : A.2.2.1[i]? = some q) : F_tracePath A (jn i) = (q.2, A) := by
  unfold F_tracePath
  rw [lk_at hi h]
theorem F_path_at {k : Nat} (hA : AOk A) (ht : (tsA A)[t]? = some T) (hk : k < sz T) : F_path A (jn t) (jn k) = (paT T k, A) := by
  obtain ⟨a1, a2, a3, a4⟩ := tm_at hA ht
  unfold F_path
  rw [if_neg (fun z => z a1), a2, if_neg (fun z => z (by rw [jn_toInt (by omega)]; omega)), jnN (by omega)]
theorem F_replay_at {m : Nat} (hA : AOk A) (ht : (tsA A)[t]? = some T) (hm : m ≤ A.2.2.1.length) : F_replay A (jn t) (jn m) = if (rpl A (A.2.2.1.take m) T).1 = 0 then addT A (rpl A (A.2.2.1.take m) T).2 else rfs A (rpl A (A.2.2.1.take m) T).1 := by
  obtain ⟨a1, a2, a3, a4⟩ := tm_at hA ht
  have h40 : A.2.2.1.length ≤ 40 := hA.2.2.1.1
  unfold F_replay
  rw [if_neg (fun z => z a1), if_neg (fun z => z (by rw [jn_toInt (by omega)]; omega)), a2, jnN (by omega), rpl_rpF m 0 T (by omega), List.drop_zero]
theorem F_rewrite_at {r k : Nat} {rl : Tm × Tm} (hA : AOk A) (hr : (rsA A)[r]? = some rl) (ht : (tsA A)[t]? = some T) (hk : k < sz T) : F_rewrite A (jn r) (jn t) (jn k) = if (rwt (cmA A) rl T k).1 = 0 then addT A (rwt (cmA A) rl T k).2 else rfs A (rwt (cmA A) rl T k).1 := by
  obtain ⟨a1, a2, a3, a4⟩ := tm_at hA ht
  have hl : r < (rsA A).length := (List.getElem?_eq_some_iff.mp hr).1
  have h12 : (rsA A).length ≤ 12 := hA.1.2.1.1
  have e : rlN A (jn r) = rl := by rw [rlN, jnN (by omega), List.getD_eq_getElem?_getD, hr]; rfl
  unfold F_rewrite
  rw [if_neg (fun z => z ⟨by rw [jn_toInt (by omega)]; omega, by rw [jn_toInt (by omega)]; omega⟩), if_neg (fun z => z a1), a2, if_neg (fun z => z (by rw [jn_toInt (by omega)]; omega)), e, jnN (by omega)]
/-- how a run goes, as the law asks -/
theorem F_run_at {q0 : SG} (hA : AOk A) (hk : (ssA A)[w]? = some q0) (ht : (tsA A)[t]? = some T) : F_run A (jn w) (jn t) = match rnA A (jn w) T 0 0 with
    | (none, q) => if q.2.2.2 = true then rfs A 7 else rfs A 6
    | (some u, q) => if (tsA A).length < 24 then addT (setTr A q.2.2.1) u else rfs A 7 := by
  obtain ⟨a1, a2, -⟩ := tm_at hA ht
  unfold F_run
  rw [if_neg (fun z => z (hsS_at hA hk)), if_neg (fun z => z a1), a2]
  cases rnA A (jn w) T 0 0 with
  | mk x q => cases x <;> rfl
theorem ya_same {a b : Nat} {Q : AT → Prop} {v : Int32} {g : Int32 → PM → PO} (hd : 60 ≤ d) (hA : AOk A) (h : RX A M) (ha : (tsA A)[a]? = some T) (hb : (tsA A)[b]? = some T) (hh : ∀ M1, RX A M1 → Ya M1 Q v (g (jn 0) M1)) : Ya M Q v (kI (pcl GG laz d 19 [.ref 0, .int (jn a), .int (jn b)] M) g) := by
  have x := x_same (a := jn a) (b := jn b) hd hA h
  rw [F_same_0 hA ha hb] at x
  exact ya_I x hh
theorem ya_drop {Q : AT → Prop} {v : Int32} {g : Int32 → PM → PO} (hd : 3 ≤ d) (hA : AOk (pt A U)) (h : RX (pt A U) M) (hh : ∀ M1, RX A M1 → Ya M1 Q v (g (jn (tsA A).length) M1)) : Ya M Q v (kI (pcl GG laz d 14 [.ref 0] M) g) := by
  have x := x_drop hd hA h
  rw [drop_pt] at x
  exact ya_I x hh
/-- the way to a node is looked for -/
theorem ran_at {Y : AT} {u1 u4 u5 : Option Value} {l2 : Int32} {l6 l7 : Int32} {N i k0 : Nat} {q : Nat × Int64} {Q : AT → Prop} {W : Tm} (hd : 18 ≤ d) (hY : AOk Y) (hN : N < 1000) (hW : (tsA Y)[N + 1]? = some W) (hi : i < 1000) (hq : Y.2.2.1[i]? = some q) (hk0 : k0 < sz W) (hp : paT W k0 = q.2)
    (hh : ∀ M1, RX Y M1 → Ya M1 Q (jn 1) (E_74 d (252, [some (.ref 0), u1, some (.int l2), some (.int (jn N)), u4, u5, some (.int l6), some (.int l7), some (.int (jn i)), some (.int (jn k0)), some (.int (jn (sz W)))], [], M1))) : ∀ m k M, k + m = sz W → RX Y M → Ya M Q (jn 1) (E_74 d (252, [some (.ref 0), u1, some (.int l2), some (.int (jn N)), u4, u5, some (.int l6), some (.int l7), some (.int (jn i)), some (.int (if k0 < k then jn k0 else jz 1)), some (.int (jn k))], [], M)) := by
  obtain ⟨-, -, w3, w4⟩ := tm_at hY hW
  intro m
  induction m with
  | zero =>
    intro k M hk h
    obtain rfl : k = sz W := by omega
    rw [if_pos hk0]
    exact hh M h
  | succ m ih =>
    intro k M hk h
    have hkW : k < sz W := by omega
    rw [h_74_252]
    simp only [jn_add]
    refine ya_size (by omega) hY h hW (fun M1 h1 => ya_lt (by rw [jn_lt (by omega) (by omega)]; exact hkW) ?_)
    have x2 := x_path (d := d) (a := jn (N + 1)) (b := jn k) (by omega) hY h1
    rw [F_path_at hY hW hkW] at x2
    refine ya_L x2 (fun M2 h2 => ?_)
    have x3 := x_tracePath (d := d) (a := jn i) (by omega) hY h2
    rw [F_tracePath_at hi hq] at x3
    refine ya_L x3 (fun M3 h3 => ?_)
    have stp := ih (k + 1) M3 (by omega) h3
    by_cases e : paT W k = q.2
    · have ek : k = k0 := pa_inj w4 hkW hk0 (e.trans hp.symm)
      refine ya_eq (by rw [lg_0]; exact e) ?_
      rw [h_74_288, jn_add]
      rw [if_pos (show k0 < k + 1 by omega)] at stp
      rw [ek] at stp ⊢
      exact stp
    · have ek : k ≠ k0 := fun z => e (by rw [z]; exact hp)
      refine ya_ne (by rw [ne_eq, lg_0]; exact e) ?_
      rw [h_74_288, jn_add]
      have : (if k0 < k + 1 then jn k0 else jz 1) = (if k0 < k then jn k0 else jz 1) := by
        by_cases z : k0 < k
        · rw [if_pos z, if_pos (by omega)]
        · rw [if_neg z, if_neg (by omega)]
      rw [this] at stp
      exact stp
/-- step by step -/
theorem ran_loop {Y : AT} {u1 u4 u5 : Option Value} {l7 : Int32} (hd : 61 ≤ d) (hX : AOk (pt Y u)) (hY : AOk Y) (hn : (tsA Y).length = n) (hn4 : n ≤ 20) (ht : (tsA Y)[t]? = some T) (htr : Y.2.2.1 = tr) (hl7 : l7 = jz 7 ∨ rpl Y tr T = (0, u)) : ∀ m i M u9 u10, i + m = tr.length → RX (pt Y u) M → Ya M (fun A' => A' = Y) (jn 1) (E_74 d (196, [some (.ref 0), u1, some (.int (jn t)), some (.int (jn n)), u4, u5, some (.int (jn tr.length)), some (.int l7), some (.int (jn i)), u9, u10], [], M)) := by
  obtain ⟨-, -, t3, t4⟩ := tm_at hY ht
  have h40 : tr.length ≤ 40 := by rw [← htr]; exact hY.2.2.1.1
  have last : ∀ M u1 u2 u4 u5 u6 u7 u8 u9 u10, RX (pt Y u) M → Ya M (fun A' => A' = Y) (jn 1) (E_74 d (368, [some (.ref 0), u1, u2, some (.int (jn n)), u4, u5, u6, u7, u8, u9, u10], [], M)) := by
    intro M u1 u2 u4 u5 u6 u7 u8 u9 u10 h
    rw [h_74_368]
    exact ya_drop (by omega) hX h (fun M1 h1 => ya_eq (by rw [hn]) (ya_1 h1 hY rfl))
  intro m
  induction m with
  | zero =>
    intro i M u9 u10 hi h
    rw [h_74_196]
    refine ya_nlt (by rw [jn_lt (by omega) (by omega)]; omega) ?_
    exact last _ _ _ _ _ _ _ _ _ _ h
  | succ m ih =>
    intro i M u9 u10 hi h
    rw [h_74_196]
    refine ya_lt (by rw [jn_lt (by omega) (by omega)]; omega) ?_
    by_cases hi3 : 3 ≤ i
    · refine ya_nlt (by rw [jn_lt (by omega) (by omega)]; omega) ?_
      exact last _ _ _ _ _ _ _ _ _ _ h
    refine ya_lt (by rw [jn_lt (by omega) (by omega)]; omega) ?_
    by_cases h7 : l7 = jz 7
    · refine ya_eq h7 ?_
      exact last _ _ _ _ _ _ _ _ _ _ h
    refine ya_ne h7 ?_
    have hr := hl7.resolve_left h7
    have hil : i < tr.length := by omega
    simp only [jn_add]
    -- what stands behind i and behind i + 1 of it
    have e0 : tr = tr.take i ++ tr.drop i := (List.take_append_drop i tr).symm
    have r0 : (rpl Y (tr.take i) T).1 = 0 := by
      rcases Nat.eq_zero_or_pos (rpl Y (tr.take i) T).1 with z | z
      · exact z
      · have := rpl_app (A := Y) (tr.take i) (tr.drop i) T
        rw [List.take_append_drop, hr, if_neg (by omega)] at this
        rw [← this] at z
        exact absurd z (Nat.lt_irrefl 0)
    have e1 : tr.take (i + 1) = tr.take i ++ [tr[i]] := take_1 tr i hil
    have r1 : (rpl Y (tr.take (i + 1)) T).1 = 0 := by
      rcases Nat.eq_zero_or_pos (rpl Y (tr.take (i + 1)) T).1 with z | z
      · exact z
      · have := rpl_app (A := Y) (tr.take (i + 1)) (tr.drop (i + 1)) T
        rw [List.take_append_drop, hr, if_neg (by omega)] at this
        rw [← this] at z
        exact absurd z (Nat.lt_irrefl 0)
    obtain ⟨W1, W1s⟩ := rpl_ok hY _ T t3 t4 r0
    obtain ⟨V1, V1s⟩ := rpl_ok hY _ T t3 t4 r1
    have r2 : rpO Y tr[i].1 tr[i].2 (rpl Y (tr.take i) T).2 = (0, (rpl Y (tr.take (i + 1)) T).2) := by
      have e2 := rpl_app (A := Y) (tr.take i) [tr[i]] T
      rw [← e1, if_pos r0, rpl] at e2
      by_cases z : (rpO Y tr[i].1 tr[i].2 (rpl Y (tr.take i) T).2).1 = 0
      · rw [if_pos z, rpl] at e2
        exact Prod.ext z (by rw [e2])
      · rw [if_neg z] at e2
        rw [e2] at r1
        exact absurd r1 z
    have hq : Y.2.2.1[i]? = some tr[i] := by rw [htr]; exact List.getElem?_eq_getElem hil
    generalize hWe : (rpl Y (tr.take i) T).2 = W at r2 W1 W1s
    generalize hVe : (rpl Y (tr.take (i + 1)) T).2 = V at r2 V1 V1s
    -- replayed to i
    have x1 := x_replay (d := d) (a := jn t) (b := jn i) (by omega) hX h
    have f1 : F_replay (pt Y u) (jn t) (jn i) = (jn (n + 1), pt (pt Y u) W) := by
      rw [F_replay_at hX (at_pt ht) (by show i ≤ Y.2.2.1.length; rw [htr]; omega), show (pt Y u).2.2.1 = tr from htr, rpl_K (A := Y) (A' := pt Y u) rfl, if_pos r0, hWe, addT_pt (by rw [len_pt]; omega), len_pt, hn]
    rw [f1] at x1
    have hX1 : AOk (pt (pt Y u) W) := ok_pt hX (by rw [len_pt]; omega) W1 W1s
    refine ya_I x1 (fun M1 h1 => ya_eq rfl ?_)
    -- replayed to i + 1
    have x2 := x_replay (d := d) (a := jn t) (b := jn (i + 1)) (by omega) hX1 h1
    have f2 : F_replay (pt (pt Y u) W) (jn t) (jn (i + 1)) = (jn (n + 2), pt (pt (pt Y u) W) V) := by
      rw [F_replay_at hX1 (at_pt (at_pt ht)) (by show i + 1 ≤ Y.2.2.1.length; rw [htr]; omega), show (pt (pt Y u) W).2.2.1 = tr from htr, rpl_K (A := Y) (A' := pt (pt Y u) W) rfl, if_pos r1, hVe, addT_pt (by rw [len_pt, len_pt]; omega), len_pt, len_pt, hn]
    rw [f2] at x2
    have hX2 : AOk (pt (pt (pt Y u) W) V) := ok_pt hX1 (by rw [len_pt, len_pt]; omega) V1 V1s
    refine ya_I x2 (fun M2 h2 => ya_eq rfl ?_)
    have aW : (tsA (pt (pt (pt Y u) W) V))[n + 1]? = some W := at_pt (by have := at_new (A := pt Y u) (t := W); rw [len_pt, hn] at this; exact this)
    have aV : (tsA (pt (pt (pt Y u) W) V))[n + 2]? = some V := by have := at_new (A := pt (pt Y u) W) (t := V); rw [len_pt, len_pt, hn] at this; exact this
    -- the node
    unfold rpO at r2
    cases hf : fstF (psF tr[i].2 W) (sz W) 0 with
    | none => rw [hf] at r2; cases r2
    | some k0 =>
      rw [hf] at r2
      simp only at r2
      by_cases hrl : tr[i].1 < (rsA Y).length
      rotate_left
      · rw [if_neg hrl] at r2; cases r2
      rw [if_pos hrl] at r2
      obtain ⟨-, hk0, hk1⟩ := fst_lt hf
      have hk0 : k0 < sz W := by omega
      have hpa : paT W k0 = tr[i].2 := by
        have : decide (lg_cmp (paT W k0) tr[i].2 = jn 0) = true := hk1
        rw [decide_eq_true_eq, lg_0] at this
        exact this
      have go := ran_at (d := d) (Y := pt (pt (pt Y u) W) V) (u1 := u1) (u4 := u4) (u5 := u5) (l2 := jn t) (l6 := jn tr.length) (l7 := l7) (N := n) (i := i) (k0 := k0) (q := tr[i]) (Q := fun A' => A' = Y) (W := W) (by omega) hX2 (by omega) aW (by omega) hq hk0 hpa (fun M3 h3 => ?_) (sz W) 0 M2 (by omega) h2
      · rw [if_neg (Nat.not_lt_zero k0)] at go
        exact go
      · rw [h_74_252]
        simp only [jn_add]
        refine ya_size (by omega) hX2 h3 aW (fun M4 h4 => ya_nlt (by rw [jn_lt (by omega) (by omega)]; omega) (ya_nlt (n_nneg (by omega)) ?_))
        have x5 := x_trace (d := d) (a := jn i) (by omega) hX2 h4
        rw [F_trace_at (by omega) (show (pt (pt (pt Y u) W) V).2.2.1[i]? = some tr[i] from hq)] at x5
        refine ya_I x5 (fun M5 h5 => ?_)
        have x6 := x_rewrite (d := d) (a := jn tr[i].1) (b := jn (n + 1)) (c := jn k0) (by omega) hX2 h5
        have hg : (rsA Y)[tr[i].1]? = some ((rsA Y).getD tr[i].1 (Lf, Lf)) := by rw [List.getD_eq_getElem?_getD, List.getElem?_eq_getElem hrl]; rfl
        have f6 : F_rewrite (pt (pt (pt Y u) W) V) (jn tr[i].1) (jn (n + 1)) (jn k0) = (jn (n + 3), pt (pt (pt (pt Y u) W) V) V) := by
          rw [F_rewrite_at (rl := (rsA Y).getD tr[i].1 (Lf, Lf)) hX2 hg aW hk0]
          rw [show cmA (pt (pt (pt Y u) W) V) = cmA Y from rfl, r2, if_pos rfl, addT_pt (by rw [len_pt, len_pt, len_pt]; omega), len_pt, len_pt, len_pt, hn]
        rw [f6] at x6
        have hX3 : AOk (pt (pt (pt (pt Y u) W) V) V) := ok_pt hX2 (by rw [len_pt, len_pt, len_pt]; omega) V1 V1s
        refine ya_I x6 (fun M6 h6 => ya_eq rfl ?_)
        have aN : (tsA (pt (pt (pt (pt Y u) W) V) V))[n + 3]? = some V := by have := at_new (A := pt (pt (pt Y u) W) V) (t := V); rw [len_pt, len_pt, len_pt, hn] at this; exact this
        refine ya_same (by omega) hX3 h6 (at_pt aV) aN (fun M7 h7 => ya_eq rfl ?_)
        rw [h_74_338]
        refine ya_lt (by decide) (ya_drop (by omega) hX3 h7 (fun M8 h8 => ya_eq (by rw [len_pt, len_pt, len_pt, hn, jn_add]) ?_))
        rw [jn_addz (show 1 ≤ 3 by omega), h_74_338]
        refine ya_lt (by decide) (ya_drop (by omega) hX2 h8 (fun M9 h9 => ya_eq (by rw [len_pt, len_pt, hn, jn_add]) ?_))
        rw [jn_addz (show 1 ≤ 3 - 1 by omega), h_74_338]
        refine ya_lt (by decide) (ya_drop (by omega) hX1 h9 (fun M10 h10 => ya_eq (by rw [len_pt, hn, jn_add]) ?_))
        rw [jn_addz (show 1 ≤ 3 - 1 - 1 by omega), h_74_338]
        refine ya_nlt (by decide) ?_
        rw [jn_add]
        exact ih (i + 1) M10 _ _ (by omega) h10
theorem l_ran {q0 : SG} (hd : 62 ≤ d) (hA : AOk A) (h : RX A M) (hn : (tsA A).length = n) (hn4 : n ≤ 20) (hk : (ssA A)[w]? = some q0) (ht : (tsA A)[t]? = some T) : Ya M (Sm A) (jn 1) (pcl GG laz d 74 [.ref 0, .int (jn w), .int (jn t), .int (jn n)] M) := by
  obtain ⟨d, rfl⟩ := ex_add (show 1 ≤ d by omega)
  have d16 : 16 ≤ d := by omega
  obtain ⟨t1, t2, t3, t4⟩ := tm_at hA ht
  have hR := rnA_ok (b := 0) (r := 0) hA (okM_t (hsS_at hA hk)) t3 t4 (by omega) (by omega)
  have fR := F_run_at hA hk ht
  rw [q_74]
  refine ya_trial d16 hA h hk ht (by omega) (fun M1 h1 => ?_)
  have x2 := x_run (d := d) (a := jn w) (b := jn t) d16 hA h1
  cases ho : rnA A (jn w) T 0 0 with
  | mk x q =>
    rw [ho] at fR hR
    cases x with
    | none =>
      simp only at fR
      -- one of the two, then the two trials
      have fin : ∀ k M2, RX (rfs A k).2 M2 → Ya M2 (Sm A) (jn 1) (kI (pcl GG laz d 35 [.ref 0, .int (jn w), .int (jn t), .int (jn 1)] M2) fun r3 M3 => (if r3 = jn 0 then (kI (pcl GG laz d 35 [.ref 0, .int (jn w), .int (jn t), .int (jn 2)] M3) fun r4 M4 => (if r4 = jn 0 then (rZ (jn 1) M4) else E_74 d (75, [some (.ref 0), some (.int (jn w)), some (.int (jn t)), some (.int (jn n)), some (.int (trlV (jn 0) ((none, q) : RnR))), some (.int (jz k)), none, none, none, none, none], [], M4))) else E_74 d (75, [some (.ref 0), some (.int (jn w)), some (.int (jn t)), some (.int (jn n)), some (.int (trlV (jn 0) ((none, q) : RnR))), some (.int (jz k)), none, none, none, none, none], [], M3))) := by
        intro k M2 h2
        have e : rnA (rfs A k).2 (jn w) T 0 0 = (none, q) := (rnA_K (A := A) (A' := (rfs A k).2) rfl _ _ _ _).trans ho
        refine ya_trial d16 (ok_rfs hA) h2 hk ht (by omega) (fun M3 h3 => ya_eq (by rw [e]; exact trl_1n) ?_)
        exact ya_trial d16 (ok_rfs hA) h3 hk ht (by omega) (fun M4 h4 => ya_eq (by rw [e]; exact trl_2n) (ya_1 h4 (ok_rfs hA) Sm.rfs))
      by_cases hv : q.2.2.2 = true
      · rw [if_pos hv] at fR
        rw [fR] at x2
        refine ya_I x2 (fun M2 h2 => ?_)
        have e0 : trlV (jn 0) ((none, q) : RnR) = jn 2 := by rw [trl_0n, if_pos hv]
        refine ya_ne (by rw [e0]; decide) (ya_ne (by rw [e0]; decide) (ya_eq rfl (ya_lt (by rw [e0]; decide) ?_)))
        exact fin 7 M2 h2
      · rw [if_neg hv] at fR
        rw [fR] at x2
        refine ya_I x2 (fun M2 h2 => ?_)
        have e0 : trlV (jn 0) ((none, q) : RnR) = jn 1 := by rw [trl_0n, if_neg hv]
        refine ya_ne (by rw [e0]; decide) (ya_eq e0 (ya_eq rfl (ya_lt (by rw [e0]; decide) ?_)))
        exact fin 6 M2 h2
    | some u =>
      obtain ⟨u1, u2, u3, -⟩ := hR
      simp only at fR
      rw [if_pos (by omega), addT_pt (by show (tsA A).length < 24; omega)] at fR
      have hB : AOk (setTr A q.2.2.1) := setTr_ok hA u3
      have hBn : (tsA (setTr A q.2.2.1)).length = n := hn
      have hBt : (tsA (setTr A q.2.2.1))[t]? = some T := ht
      have hX : AOk (pt (setTr A q.2.2.1) u) := ok_pt hB (by omega) u1 u2
      rw [fR] at x2
      have hrp := rp_rnA hA (okM_t (hsS_at hA hk)) t3 t4 ho
      have h40 : q.2.2.1.length ≤ 40 := hB.2.2.1.1
      refine ya_I x2 (fun M2 h2 => ?_)
      have e0 : trlV (jn 0) ((some u, q) : RnR) = jn 0 := trl_0s
      refine ya_eq e0 (ya_eq (by show jn (tsA (setTr A q.2.2.1)).length = _; rw [hBn]) (ya_nlt (by rw [e0]; decide) ?_))
      have aN : (tsA (pt (setTr A q.2.2.1) u))[n]? = some u := by have := at_new (A := setTr A q.2.2.1) (t := u); rw [hBn] at this; exact this
      have eX : rnA (pt (setTr A q.2.2.1) u) (jn w) T 0 0 = (some u, q) := (rnA_K (A := A) (A' := pt (setTr A q.2.2.1) u) rfl _ _ _ _).trans ho
      have d14 : 14 ≤ d := by omega
      refine ya_size d14 hX h2 aN (fun M3 h3 => ?_)
      refine ya_trial d16 hX h3 hk (at_pt hBt) (by omega) (fun M4 h4 => ya_eq (by rw [eX, trl_1s]) ?_)
      have x5 := x_status (d := d) (a := jn 6) (by omega) hX h4
      rw [F_status_6] at x5
      refine ya_I x5 (fun M5 h5 => ?_)
      refine ya_trial d16 hX h5 hk (at_pt hBt) (by omega) (fun M6 h6 => ya_eq (by rw [eX, trl_2s]; rfl) ?_)
      refine ya_size d14 hX h6 aN (fun M7 h7 => ya_nlt (by rw [jn_lt (by omega) (by omega)]; omega) ?_)
      have x8 := x_status (d := d) (a := jn 6) (by omega) hX h7
      rw [F_status_6] at x8
      refine ya_I x8 (fun M8 h8 => ?_)
      simp only [jn_add]
      have x9 := x_replay (d := d) (a := jn t) (b := jn q.2.2.1.length) (by omega) hX h8
      have f9 := F_replay_at (m := q.2.2.1.length) hX (at_pt hBt) (Nat.le_refl _)
      rw [show (pt (setTr A q.2.2.1) u).2.2.1 = q.2.2.1 from rfl, List.take_length, rpl_K (A := A) (A' := pt (setTr A q.2.2.1) u) rfl] at f9
      -- behind it: none of what was rewritten, then step by step
      have rest : ∀ (Y : AT) (l7 : Int32) M9 (u4 u5 : Option Value), AOk Y → AOk (pt Y u) → Y.1 = A.1 → Y.2.1 = A.2.1 → Y.2.2.1 = q.2.2.1 → (l7 = jz 7 ∨ rpl A q.2.2.1 T = (0, u)) → RX (pt Y u) M9 → Ya M9 (Sm A) (jn 1) (E_74 d (177, [some (.ref 0), some (.int (jn w)), some (.int (jn t)), some (.int (jn n)), u4, u5, some (.int (jn q.2.2.1.length)), some (.int l7), none, none, none], [], M9)) := by
        intro Y l7 M9 u4 u5 hY hXY y1 y2 y3 hl h9
        have yt : (tsA Y)[t]? = some T := by show Y.1.1[t]? = _; rw [y1]; exact ht
        have yn : (tsA Y).length = n := by show Y.1.1.length = _; rw [y1]; exact hn
        have go : ∀ M10, RX (pt Y u) M10 → Ya M10 (Sm A) (jn 1) (E_74 d (193, [some (.ref 0), some (.int (jn w)), some (.int (jn t)), some (.int (jn n)), u4, u5, some (.int (jn q.2.2.1.length)), some (.int l7), none, none, none], [], M10)) := by
          intro M10 h10
          rw [h_74_193]
          refine (ran_loop (by omega) hXY hY yn hn4 yt y3 ?_ q.2.2.1.length 0 M10 _ _ (by omega) h10).weak (fun A' e => by rw [e]; exact ⟨y1, y2⟩)
          rcases hl with hl | hl
          · exact Or.inl hl
          · exact Or.inr (by rw [rpl_K (A := A) (by rw [y1]), hl])
        rw [h_74_177]
        by_cases hm : q.2.2.1.length = 0
        · have e : q.2.2.1 = [] := List.length_eq_zero_iff.mp hm
          have eu : T = u := by
            rw [e, rpl] at hrp
            rcases hrp with z | z
            · exact absurd z (show ¬ (0 : Nat) = 7 by decide)
            · exact congrArg Prod.snd z
          refine ya_eq (by rw [hm]) ?_
          refine ya_same (T := u) (by omega) hXY h9 (by rw [← eu]; exact at_pt yt) (by rw [← yn]; exact at_new) (fun M10 h10 => ya_eq rfl ?_)
          exact go M10 h10
        · refine ya_ne (by rw [ne_eq, jn_inj (by omega) (by omega)]; exact hm) ?_
          exact go M9 h9
      rcases hrp with z | z
      · rw [if_neg (by rw [z]; decide), z] at f9
        rw [f9] at x9
        refine ya_I x9 (fun M9 h9 => ya_eq rfl ?_)
        exact rest (rfs (setTr A q.2.2.1) 7).2 (jz 7) M9 _ _ (ok_rfs hB) (ok_rfs hX) rfl rfl rfl (Or.inl rfl) h9
      · rw [z, if_pos rfl, addT_pt (by rw [len_pt, hBn]; omega), len_pt, hBn] at f9
        rw [f9] at x9
        have hX1 : AOk (pt (pt (setTr A q.2.2.1) u) u) := ok_pt hX (by rw [len_pt, hBn]; omega) u1 u2
        refine ya_I x9 (fun M9 h9 => ya_ne (jz_ne_jn (by omega) (by omega)) (ya_eq rfl ?_))
        refine ya_same (T := u) (by omega) hX1 h9 (at_pt aN) (by have := at_new (A := pt (setTr A q.2.2.1) u) (t := u); rw [len_pt, hBn] at this; exact this) (fun M10 h10 => ya_eq rfl ?_)
        refine ya_drop (by omega) hX1 h10 (fun M11 h11 => ya_eq (by rw [len_pt, hBn]) ?_)
        exact rest (setTr A q.2.2.1) (jn (n + 1)) M11 _ _ hB hX rfl rfl rfl (Or.inr z) h11
end
