/-! days: rules and terms that a seed picks -/
def fstF (f : Nat → Bool) : Nat → Nat → Option Nat
  | 0, _ => none
  | m + 1, k => if f k = true then some k else fstF f m (k + 1)
theorem nth_fst (f : Nat → Bool) : ∀ m k, nth f m k 0 (jn 0) = (match fstF f m k with
    | none => jz 1
    | some i => jn i) := by
  intro m
  induction m with
  | zero => intro k; rfl
  | succ m ih =>
    intro k
    rw [nth, fstF]
    by_cases h : f k = true
    · rw [if_pos h, if_pos h, if_pos rfl]
    · rw [if_neg h, if_neg h]; exact ih (k + 1)
theorem fst_lt {f : Nat → Bool} : ∀ {m k i}, fstF f m k = some i → k ≤ i ∧ i < k + m ∧ f i = true := by
  intro m
  induction m with
  | zero => intro k i h; cases h
  | succ m ih =>
    intro k i h
    rw [fstF] at h
    by_cases hf : f k = true
    · rw [if_pos hf] at h; cases h; exact ⟨by omega, by omega, hf⟩
    · rw [if_neg hf] at h
      obtain ⟨h1, h2, h3⟩ := ih h
      exact ⟨by omega, by omega, h3⟩
abbrev sdK (A : AT) (v : Int32) : AT := setK A (A.1.1, A.1.2.1, A.1.2.2.1, A.1.2.2.2.1, v)
abbrev stT (A : AT) (n : Nat) (t : Tm) : AT := setK A ((tsA A).set n t, A.1.2)
def dayF (A : AT) (l n : Nat) : Bool × AT := match fstF (fitB (cmA A) ((rsA A).getD l (Lf, Lf)).1 ((tsA A).getD n Lf)) (sz ((tsA A).getD n Lf)) 0 with
  | none => (false, A)
  | some i => if (rwt (cmA A) ((rsA A).getD l (Lf, Lf)) ((tsA A).getD n Lf) i).1 = 0 then (true, stT A n (rwt (cmA A) ((rsA A).getD l (Lf, Lf)) ((tsA A).getD n Lf) i).2) else (false, A)
abbrev bR (p : Bool × AT) : Int32 × AT := (bI (p.1 = true), p.2)
theorem bR_t (X : AT) : bR (true, X) = (jn 1, X) := by show (bI (true = true), X) = _; rw [bI_1 rfl]
theorem bR_f (X : AT) : bR (false, X) = (jn 0, X) := by show (bI (false = true), X) = _; rw [bI_n (by simp)]
def stepD (A : AT) : Bool × AT := dayF (sdK (sdK A (nxS (sdA A))) (nxS (nxS (sdA A)))) (rnN (sdA A) (rsA A).length) (rnN (nxS (sdA A)) (tsA A).length)
def dayR : Nat → Nat → AT → Nat × AT
  | 0, c, A => (c, A)
  | m + 1, c, A => if (stepD A).1 = true then dayR m (c + 1) (stepD A).2 else dayR m c (stepD A).2
def F_days (A : AT) (a : Int32) : Int32 × AT := if (rsA A).length = 0 then rfs A 5 else if (tsA A).length = 0 then rfs A 5 else if ¬ (1 ≤ a.toInt ∧ a.toInt ≤ 40) then rfs A 6 else (jn (dayR a.toInt.toNat 0 A).1, (dayR a.toInt.toNat 0 A).2)
theorem k_stT {A : AT} {n : Nat} {t : Tm} (hA : AOk A) (ht : wf t) (hs : sz t ≤ 40) : AOk (stT A n t) := by
  obtain ⟨⟨⟨k1, k2⟩, k3⟩, k4⟩ := hA
  refine ⟨⟨⟨by show ((tsA A).set n t).length ≤ 24; rw [List.length_set]; exact k1, fun u hu => ?_⟩, k3⟩, k4⟩
  rcases List.mem_or_eq_of_mem_set hu with h | h
  · exact k2 u h
  · rw [h]; exact ⟨ht, hs⟩
theorem k_dayF {A : AT} {l n : Nat} (hA : AOk A) (hl : l < (rsA A).length) (hn : n < (tsA A).length) : AOk (dayF A l n).2 ∧ (rsA (dayF A l n).2).length = (rsA A).length ∧ (tsA (dayF A l n).2).length = (tsA A).length := by
  unfold dayF
  have hr : (rsA A).getD l (Lf, Lf) ∈ rsA A := by rw [List.getD_eq_getElem?_getD, List.getElem?_eq_getElem hl]; exact List.getElem_mem hl
  have ht : (tsA A).getD n Lf ∈ tsA A := by rw [List.getD_eq_getElem?_getD, List.getElem?_eq_getElem hn]; exact List.getElem_mem hn
  generalize (rsA A).getD l (Lf, Lf) = r at hr ⊢
  generalize (tsA A).getD n Lf = t at ht ⊢
  obtain ⟨t1, t2⟩ := hA.1.1.2 t ht
  cases hf : fstF (fitB (cmA A) r.1 t) (sz t) 0 with
  | none => exact ⟨hA, rfl, rfl⟩
  | some i =>
    simp only
    obtain ⟨-, h2, -⟩ := fst_lt hf
    by_cases h0 : (rwt (cmA A) r t i).1 = 0
    · rw [if_pos h0]
      obtain ⟨w1, w2⟩ := rwt_ok (hA.1.2.1.2 r hr).2.1 t1 t2 (by omega) h0
      exact ⟨k_stT hA w1 w2, rfl, List.length_set⟩
    · rw [if_neg h0]; exact ⟨hA, rfl, rfl⟩
theorem rn_lt {s : Int32} {n : Nat} (h : 0 < n) : rnN s n < n := Nat.mod_lt _ h
theorem sdK_ok {A : AT} {v : Int32} (hA : AOk A) : AOk (sdK A v) := hA
theorem k_day2 {A : AT} {l n : Nat} {v w : Int32} (hA : AOk A) (hl : l < (rsA A).length) (hn : n < (tsA A).length) : AOk (dayF (sdK (sdK A v) w) l n).2 ∧ (rsA (dayF (sdK (sdK A v) w) l n).2).length = (rsA A).length ∧ (tsA (dayF (sdK (sdK A v) w) l n).2).length = (tsA A).length := k_dayF (A := sdK (sdK A v) w) (sdK_ok (sdK_ok hA)) hl hn
theorem k_stepD {A : AT} (hA : AOk A) (hl : 0 < (rsA A).length) (hn : 0 < (tsA A).length) : AOk (stepD A).2 ∧ (rsA (stepD A).2).length = (rsA A).length ∧ (tsA (stepD A).2).length = (tsA A).length := by
  unfold stepD
  exact k_day2 hA (rn_lt hl) (rn_lt hn)
theorem k_dayR : ∀ m c A, AOk A → 0 < (rsA A).length → 0 < (tsA A).length → AOk (dayR m c A).2 := by
  intro m
  induction m with
  | zero => intro c A hA _ _; exact hA
  | succ m ih =>
    intro c A hA hl hn
    obtain ⟨h1, h2, h3⟩ := k_stepD hA hl hn
    rw [dayR]
    split
    · exact ih _ _ h1 (by omega) (by omega)
    · exact ih _ _ h1 (by omega) (by omega)
section
variable {d : Nat} {A : AT} {M : PM} {a b c e f : Int32} {v : Int64}
theorem k_days (hA : AOk A) : AOk (F_days A a).2 := by
  unfold F_days
  split
  · exact hA
  split
  · exact hA
  split
  · exact hA
  exact k_dayR _ _ _ hA (by omega) (by omega)
theorem nx_eq (s : Int32) : s * jn 1103515245 + jn 12345 = nxS s := by unfold nxS; rfl
theorem sdK_x {w : Int32} (h : RX A M) : RX (sdK A w) (sI M 1 (va_up (M.1 1) 9 w)) := by
  refine setK_x h ?_ ((Fr.sI (k := 1) (by decide) : Fr kcX M _))
  obtain ⟨⟨⟨a1, a2, a3, a4, a5⟩, a6, a7, a8⟩, -⟩ := h
  exact ⟨⟨a1, a2, a3, a4, by rw [sI_k, up_at, if_pos rfl]⟩, a6, a7, a8⟩
theorem x_rnd {n : Nat} {s : Int32} (hd : 1 ≤ d) (h : RX A M) (hs : sdA A = s) (hn : 0 < n ∧ n < 65536) : XI (pcl GG lay d 252 [.ref 1, .int (jn n)] M) M (jn (rnN s n), sdK A (nxS s)) := by
  obtain ⟨d, rfl⟩ := ex_add hd
  have e : M.1 1 9 = s := Eq.trans h.1.1.2.2.2.2 hs
  rw [q_252, wr_e, e, nx_eq, ilt_neg (by omega) (by omega), ieq_neg (by omega) (by omega) (by omega)]
  unfold rnN
  generalize nxS s = w
  have e9 : (sI M 1 (va_up (M.1 1) 9 w)).1 1 9 = w := by rw [sI_k, up_at, if_pos rfl]
  rw [e9, rn_jn (shS_lt w) hn.2]
  exact ⟨_, rfl, sdK_x h, Hi.fr (S := [1]) (Fr.sI (by decide)) (by decide)⟩
/-- a term of the state gives way to another -/
theorem set_get {l : List Tm} {n i : Nat} {t u : Tm} (h : (l.set n t)[i]? = some u) : i = n ∧ u = t ∨ i ≠ n ∧ l[i]? = some u := by
  by_cases hi : i = n
  · subst hi
    have hlt : i < (l.set i t).length := (List.getElem?_eq_some_iff.mp h).1
    rw [List.length_set] at hlt
    rw [List.getElem?_set_self hlt] at h
    exact Or.inl ⟨rfl, (Option.some.inj h).symm⟩
  · rw [List.getElem?_set_ne (fun q => hi q.symm)] at h
    exact Or.inr ⟨hi, h⟩
theorem x_setT {n : Nat} {t t0 : Tm} {g : Nat → Int32} (hA : AOk A) (h : RX A M) (hn : (tsA A)[n]? = some t0) (hs : sz t ≤ 40) (hg : ∀ i, i < 1920 → (i < 40 * n ∨ 40 * n + 40 ≤ i) → g i = M.1 7 i) (hat : At g (40 * n) (en t)) : RX (stT A n t) (sI M 7 g) := by
  have hn24 := (tm_ok hA hn).2.2
  refine setK_x h ?_ (Fr.sI (by decide))
  obtain ⟨⟨⟨a1, a2, a3, a4, a5⟩, a6, a7, a8⟩, -⟩ := h
  refine ⟨⟨?_, a2, a3, a4, a5⟩, fun i u hi => ?_, fun i r hi => ?_, a8⟩
  · refine a1.trans ?_
    show _ = jn ((tsA A).set n t).length
    rw [List.length_set]
  · show At ((sI M 7 g).1 7) (40 * i) (en u)
    rw [sI_k]
    rcases set_get hi with ⟨h1, h2⟩ | ⟨h1, h2⟩
    · rw [h1, h2]; exact hat
    · have := tm_ok hA h2
      have hz := this.2.1
      have h24 := this.2.2
      exact AT_congr (a6 i u h2) (fun j j1 j2 => hg j (by omega) (by omega))
  · have hl := (rl_ok hA hi).2
    have hr := (rl_ok hA hi).1
    have z1 := hr.2.2.1
    have z2 := hr.2.2.2.1
    show At ((sI M 7 g).1 7) _ _ ∧ At ((sI M 7 g).1 7) _ _
    rw [sI_k]
    exact ⟨AT_congr (a7 i r hi).1 (fun j j1 j2 => hg j (by omega) (by omega)), AT_congr (a7 i r hi).2 (fun j j1 j2 => hg j (by omega) (by omega))⟩
theorem x_day {l n : Nat} (hd : 12 ≤ d) (hA : AOk A) (h : RX A M) (hl : l < (rsA A).length) (hn : n < (tsA A).length) : XI (pcl GG lay d 50 [.ref 0, .int (jn l), .int (jn (40 * n))] M) M (bR (dayF A l n)) := by
  obtain ⟨d, rfl⟩ := ex_add hd
  have hr : (rsA A)[l]? = some (rsA A)[l] := List.getElem?_eq_getElem hl
  have ht : (tsA A)[n]? = some (tsA A)[n] := List.getElem?_eq_getElem hn
  have er : (rsA A).getD l (Lf, Lf) = (rsA A)[l] := by rw [List.getD_eq_getElem?_getD, hr]; rfl
  have et : (tsA A).getD n Lf = (tsA A)[n] := by rw [List.getD_eq_getElem?_getD, ht]; rfl
  unfold dayF
  rw [er, et]
  generalize (rsA A)[l] = r at *
  generalize (tsA A)[n] = t at *
  obtain ⟨h3, h4, h5⟩ := tm_ok hA ht
  have hta : At (M.1 7) (40 * n) (en t) := h.1.2.1 n t ht
  rw [q_50, q_25, c_sizeAt (by omega) h3 hta (by omega), kI_r]
  obtain ⟨M1, e1, e2, e3⟩ := x_nth (d := d + 10) (a := jn 0) (by omega) hA hr ht (sz t) 0 0 M (by omega) h
  rw [e1, kI_r, nth_fst]
  cases hf : fstF (fitB (cmA A) r.1 t) (sz t) 0 with
  | none =>
    simp only [bR_f]
    rw [if_pos trivial, rZ_0]
    exact ⟨M1, rfl, e2, e3⟩
  | some i =>
    simp only
    obtain ⟨-, h2, -⟩ := fst_lt hf
    have hi : i < sz t := by omega
    obtain ⟨M2, f1, f2, f3⟩ := x_rew (d := d + 11) (i := i) (by omega) hA e2 hr ht hi
    have hc := rwt_le (cmA A) r t i
    have hh : Hi M M2 := e3.trans (Hi.fr f3.1 (by decide))
    rw [ieq_z (by omega) (by omega), f1, kI_r]
    by_cases h0 : (rwt (cmA A) r t i).1 = 0
    · obtain ⟨w1, w2⟩ := rwt_ok (rl_ok hA hr).1.2.1 h3 h4 hi h0
      have hat := (f3.2.2 h0).1
      rw [show (if (rwt (cmA A) r t i).1 = 0 then (true, stT A n (rwt (cmA A) r t i).2) else (false, A)) = (true, stT A n (rwt (cmA A) r t i).2) from if_pos h0, bR_t, h0, if_pos (show jz 0 = jn 0 from rfl), c_append (by omega) w1 hat (by omega) (by omega) (by omega), kI_r, rZ_1]
      refine ⟨_, rfl, x_setT hA f2 ht w2 (fun j j1 j2 => cp_out (by omega)) (AT_cp hat (by omega)), hh.trans (Hi.fr (S := [7]) (Fr.sI (by decide)) (by decide))⟩
    · rw [show (if (rwt (cmA A) r t i).1 = 0 then (true, stT A n (rwt (cmA A) r t i).2) else (false, A)) = (false, A) from if_neg h0, bR_f, if_neg (by rw [jz_jn (by omega) (by omega)]; exact id), rZ_0]
      exact ⟨M2, rfl, f2, hh⟩
theorem sd_len {w : Int32} (h : RX (sdK A w) M) : M.1 1 5 = jn (tsA A).length := h.1.1.1
theorem sd_sd {w : Int32} : sdA (sdK A w) = w := rfl
theorem x_day2 {l n : Nat} {v w : Int32} (hd : 12 ≤ d) (hA : AOk A) (h : RX (sdK (sdK A v) w) M) (hl : l < (rsA A).length) (hn : n < (tsA A).length) : XI (pcl GG lay d 50 [.ref 0, .int (jn l), .int (jn (40 * n))] M) M (bR (dayF (sdK (sdK A v) w) l n)) := x_day hd (sdK_ok (sdK_ok hA)) h hl hn
theorem x_dayR : ∀ m k c A M u4 u5, 13 ≤ d → k + m ≤ 40 → a = jn (k + m) → AOk A → RX A M → 0 < (rsA A).length → 0 < (tsA A).length → XI (E_49 d (49, [some (.ref 0), some (.int a), some (.int (jn c)), some (.int (jn k)), u4, u5], [], M)) M (jn (dayR m c A).1, (dayR m c A).2) := by
  intro m
  induction m with
  | zero =>
    intro k c A M u4 u5 hd hk ha hA h hl hn
    rw [ha, h_49_49, ilt_neg (by omega) (by omega)]
    exact ⟨M, rfl, h, Hi.rf⟩
  | succ m ih =>
    intro k c A M u4 u5 hd hk ha hA h hl hn
    have l1 : (rsA A).length ≤ 12 := hA.1.2.1.1
    have l2 : (tsA A).length ≤ 24 := hA.1.1.1
    have e6 : M.1 1 6 = jn (rsA A).length := h.1.1.2.1
    obtain ⟨M1, f1, f2, f3⟩ := x_rnd (d := d) (n := (rsA A).length) (by omega) h rfl (by omega)
    have f2 : RX (sdK A (nxS (sdA A))) M1 := f2
    have e5 : M1.1 1 5 = jn (tsA A).length := sd_len f2
    obtain ⟨M2, g1, g2, g3⟩ := x_rnd (d := d) (n := (tsA A).length) (s := nxS (sdA A)) (by omega) f2 sd_sd (by omega)
    have g2 : RX (sdK (sdK A (nxS (sdA A))) (nxS (nxS (sdA A)))) M2 := g2
    obtain ⟨M3, p1, p2, p3⟩ := x_day2 (d := d) (v := nxS (sdA A)) (w := nxS (nxS (sdA A))) (l := rnN (sdA A) (rsA A).length) (n := rnN (nxS (sdA A)) (tsA A).length) (by omega) hA g2 (rn_lt hl) (rn_lt hn)
    obtain ⟨k1, k2, k3⟩ := k_stepD hA hl hn
    have p1 : pcl GG lay d 50 [.ref 0, .int (jn (rnN (sdA A) (rsA A).length)), .int (jn (40 * rnN (nxS (sdA A)) (tsA A).length))] M2 = rI (bI ((stepD A).1 = true)) M3 := p1
    have p2 : RX (stepD A).2 M3 := p2
    have hh : Hi M M3 := (f3.trans g3).trans p3
    rw [ha, h_49_49, ilt_pos (by omega) (by omega), e6, f1, kI_r, e5, g1, kI_r, c_tp (by omega), kI_r, p1, kI_r, dayR]
    by_cases hs : (stepD A).1 = true
    · rw [bI_1 hs, ieq_neg (by omega) (by omega) (by omega), if_pos hs, jn_add, jn_add, ← ha]
      exact (ih (k + 1) (c + 1) (stepD A).2 M3 _ _ hd (by omega) (by rw [ha]; congr 1; omega) k1 p2 (by omega) (by omega)).pre hh
    · rw [bI_n hs, ieq_pos rfl, if_neg hs, jn_add, ← ha]
      exact (ih (k + 1) c (stepD A).2 M3 _ _ hd (by omega) (by rw [ha]; congr 1; omega) k1 p2 (by omega) (by omega)).pre hh
theorem x_days (hd : 14 ≤ d) (hA : AOk A) (h : RX A M) : XI (pcl GG lay d 49 [.ref 0, .int a] M) M (F_days A a) := by
  obtain ⟨d, rfl⟩ := ex_add hd
  have l1 : (rsA A).length ≤ 12 := hA.1.2.1.1
  have l2 : (tsA A).length ≤ 24 := hA.1.1.1
  have e6 : M.1 1 6 = jn (rsA A).length := h.1.1.2.1
  have e5 : M.1 1 5 = jn (tsA A).length := h.1.1.1
  unfold F_days
  rw [q_49, e6, e5]
  by_cases h1 : (rsA A).length = 0
  · rw [ieq_pos h1, if_pos h1]; exact x_ref (by omega) h (by omega)
  rw [ieq_neg h1 (by omega) (by omega), if_neg h1]
  by_cases h2 : (tsA A).length = 0
  · rw [ieq_pos h2, if_pos h2]; exact x_ref (by omega) h (by omega)
  rw [ieq_neg h2 (by omega) (by omega), if_neg h2]
  by_cases h3 : a < jn 1
  · rw [if_pos h3, if_pos (fun q => by rw [jlt (by omega)] at h3; omega)]; exact x_ref (by omega) h (by omega)
  by_cases h4 : jn 40 < a
  · rw [if_neg h3, if_pos h4, if_pos (fun q => by rw [jgt (by omega)] at h4; omega)]; exact x_ref (by omega) h (by omega)
  rw [if_neg h3, if_neg h4]
  rw [jlt (by omega)] at h3
  rw [jgt (by omega)] at h4
  rw [if_neg (by omega)]
  obtain ⟨n, hn, rfl⟩ := inn (a := a) (n := 41) (by omega)
  rw [jnN (by omega)]
  exact x_dayR n 0 0 A M none none (by omega) (by omega) (by rw [Nat.zero_add]) hA h (by omega) (by omega)
end
