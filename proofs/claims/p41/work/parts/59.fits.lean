/-! bound, fits, redexes, rewrite: what is asked, and the system's side -/
abbrev tmN (A : AT) (a : Int32) : Tm := (tsA A).getD a.toInt.toNat Lf
abbrev rlN (A : AT) (a : Int32) : Tm × Tm := (rsA A).getD a.toInt.toNat (Lf, Lf)
abbrev hsT (A : AT) (a : Int32) : Prop := 0 ≤ a.toInt ∧ a.toInt < ((tsA A).length : Nat)
abbrev hsR (A : AT) (a : Int32) : Prop := 0 ≤ a.toInt ∧ a.toInt < ((rsA A).length : Nat)
abbrev fitB (cm : Nat) (p t : Tm) (k : Nat) : Bool := (mat cm p (sub t k)).isSome
def cnt (f : Nat → Bool) : Nat → Nat → Nat → Nat
  | 0, _, c => c
  | m + 1, k, c => if f k = true then cnt f m (k + 1) (c + 1) else cnt f m (k + 1) c
def nth (f : Nat → Bool) : Nat → Nat → Nat → Int32 → Int32
  | 0, _, _, _ => jz 1
  | m + 1, k, c, l => if f k = true then (if jn c = l then jn k else nth f m (k + 1) (c + 1) l) else nth f m (k + 1) c l
def anyF (f : Nat → Bool) : Nat → Nat → Bool
  | 0, _ => false
  | m + 1, k => if f k = true then true else anyF f m (k + 1)
abbrev bitL (k : Nat) : Int64 := (Int64.ofNat 1) <<< ((jn k).toInt64 &&& 63)
def msk (f : Nat → Bool) : Nat → Nat → Int64 → Int64
  | 0, _, v => v
  | m + 1, k, v => if f k = true then msk f m (k + 1) (v ||| bitL k) else msk f m (k + 1) v
def F_bound (A : AT) (a b c e : Int32) : Int32 × AT := if ¬ hsT A a then rfs A 1 else if ¬ hsT A b then rfs A 1 else match mat (cmA A) (tmN A a) (tmN A b) with
  | none => rfs A 6
  | some E => if isV c then (match E (vi c) with
    | none => rfs A 5
    | some u => if 0 ≤ e.toInt ∧ e.toInt < (sz u : Nat) then (sgn u e.toInt.toNat, A) else rfs A 5) else rfs A 5
def F_fits (A : AT) (a b c : Int32) : Int32 × AT := if ¬ hsR A a then (jz 11, (rfs A 1).2) else if ¬ hsT A b then (jz 11, (rfs A 1).2) else
  if c = jz 1 then (jn (cnt (fitB (cmA A) (rlN A a).1 (tmN A b)) (sz (tmN A b)) 0 0), A) else (nth (fitB (cmA A) (rlN A a).1 (tmN A b)) (sz (tmN A b)) 0 0 c, A)
abbrev anyR (A : AT) (t : Tm) (k : Nat) : Bool := anyF (fun j => fitB (cmA A) ((rsA A).getD j (Lf, Lf)).1 t k) (rsA A).length 0
def F_redexes (A : AT) (a : Int32) : Int64 × AT := if ¬ hsT A a then ((jz 1).toInt64, (rfs A 1).2) else (msk (anyR A (tmN A a)) (sz (tmN A a)) 0 (Int64.ofNat 0), A)
def F_rewrite (A : AT) (a b c : Int32) : Int32 × AT := if ¬ hsR A a then rfs A 1 else if ¬ hsT A b then rfs A 1 else if ¬ (0 ≤ c.toInt ∧ c.toInt < (sz (tmN A b) : Nat)) then rfs A 5 else
  if (rwt (cmA A) (rlN A a) (tmN A b) c.toInt.toNat).1 = 0 then addT A (rwt (cmA A) (rlN A a) (tmN A b) c.toInt.toNat).2 else rfs A (rwt (cmA A) (rlN A a) (tmN A b) c.toInt.toNat).1
section
variable {d : Nat} {A : AT} {M : PM} {a b c e f : Int32} {v : Int64}
theorem ts_of (hA : AOk A) (h : hsT A a) : ∃ n t, a = jn n ∧ (tsA A)[n]? = some t ∧ tmN A a = t ∧ wf t ∧ sz t ≤ 40 ∧ n < 24 := by
  obtain ⟨n, t, rfl, h1, h2⟩ := tm_of h
  obtain ⟨h3, h4, h5⟩ := tm_ok hA h2
  refine ⟨n, t, rfl, h2, ?_, h3, h4, h5⟩
  rw [tmN, jnN (by omega), List.getD_eq_getElem?_getD, h2]; rfl
theorem rs_of (hA : AOk A) (h : hsR A a) : ∃ n r, a = jn n ∧ (rsA A)[n]? = some r ∧ rlN A a = r ∧ rlOk r ∧ n < 12 := by
  obtain ⟨n, hn, rfl⟩ := inn h
  have hl : (rsA A).length ≤ 12 := hA.1.2.1.1
  have h2 : (rsA A)[n]? = some (rsA A)[n] := by simp [hn]
  refine ⟨n, (rsA A)[n], rfl, h2, ?_, hA.1.2.1.2 _ (List.mem_of_getElem? h2), by omega⟩
  rw [rlN, jnN (by omega), List.getD_eq_getElem?_getD, h2]; rfl
theorem XL.pre {o : PO} {M M' : PM} {ra : Int64 × AT} (h : XL o M' ra) (hh : Hi M M') : XL o M ra := by
  obtain ⟨M2, e1, e2, e3⟩ := h
  exact ⟨M2, e1, e2, hh.trans e3⟩
/-- a pattern that lies below is tried at a node of a term -/
theorem x_try {P n k : Nat} {p t : Tm} (hd : 8 ≤ d) (hA : AOk A) (h : RX A M) (hp : wf p) (hps : sz p ≤ 40) (hpa : At (M.1 7) P (en p)) (hP : P + 40 ≤ 3760) (ht : (tsA A)[n]? = some t) (hk : k < sz t) : ∃ M', pcl GG lay d 188 [.ref 26, .int (jn P), .int (jn (40 * n + k)), .int (M.1 1 8)] M = rI (if fitB (cmA A) p t k = true then jn 1 else jn 0) M' ∧ RX A M' ∧ Fr [26, 27, 28] M M' ∧ ∀ e', mat (cmA A) p (sub t k) = some e' → EB (40 * n + k) (40 * n + k + sz (sub t k)) e' M' := by
  obtain ⟨h3, h4, h5⟩ := tm_ok hA ht
  have hz := sub_sz h3 hk
  have hta : At (M.1 7) (40 * n) (en t) := h.1.2.1 n t ht
  have h8 : M.1 1 8 = jn (cmA A) := h.1.1.2.2.2.1
  have hcm : cmA A < 16 := hA.1.2.2.2
  obtain ⟨M', e1, e2, e3⟩ := c_match (d := d) (M := M) (cm := cmA A) (P := P) (q := 40 * n + k) (p := p) (t := sub t k) hd hcm hP hp hps hpa (sub_wf h3 hk) (by omega) (by omega) (sub_at h3 hk hta)
  refine ⟨M', by rw [h8]; exact e1, ?_, e2, e3⟩
  have hf : Fr (7 :: scX) M M' := e2.mono (by decide)
  exact RX_sc hA.1 h hf (fun i _ => by rw [e2.1 7 (by decide)])
theorem x_tryR {l n k : Nat} {r : Tm × Tm} {t : Tm} (hd : 8 ≤ d) (hA : AOk A) (h : RX A M) (hr : (rsA A)[l]? = some r) (ht : (tsA A)[n]? = some t) (hk : k < sz t) : ∃ M', pcl GG lay d 188 [.ref 26, .int (jn (960 + 40 * l)), .int (jn (40 * n + k)), .int (M.1 1 8)] M = rI (if fitB (cmA A) r.1 t k = true then jn 1 else jn 0) M' ∧ RX A M' ∧ Fr [26, 27, 28] M M' := by
  have hro := hA.1.2.1.2 _ (List.mem_of_getElem? hr)
  have hl : l < (rsA A).length := (List.getElem?_eq_some_iff.mp hr).1
  have hl2 : (rsA A).length ≤ 12 := hA.1.2.1.1
  obtain ⟨M', h1, h2, h3, -⟩ := x_try (P := 960 + 40 * l) hd hA h hro.1 hro.2.2.1 (h.1.2.2.1 l r hr).1 (by omega) ht hk
  exact ⟨M', h1, h2, h3⟩
theorem x_cnt {l n : Nat} {r : Tm × Tm} {t : Tm} (hd : 9 ≤ d) (hA : AOk A) (hr : (rsA A)[l]? = some r) (ht : (tsA A)[n]? = some t) : ∀ m k c M, k + m = sz t → RX A M → XI (E_24 d (15, [some (.ref 0), some (.int (jn l)), some (.int (jn (40 * n))), some (.int (jn (sz t))), some (.int (jn c)), some (.int (jn k))], [], M)) M (jn (cnt (fitB (cmA A) r.1 t) m k c), A) := by
  obtain ⟨h3, h4, h5⟩ := tm_ok hA ht
  intro m
  induction m with
  | zero =>
    intro k c M hk h
    rw [h_24_15, ilt_neg (by omega) (by omega)]
    exact ⟨M, rfl, h, Hi.rf⟩
  | succ m ih =>
    intro k c M hk h
    obtain ⟨M', e1, e2, e3⟩ := x_tryR (d := d) (k := k) (by omega) hA h hr ht (by omega)
    rw [h_24_15, ilt_pos (by omega) (by omega), c_lp (by omega), kI_r, jn_add, e1, kI_r, cnt]
    have hh : Hi M M' := Hi.fr e3 (by decide)
    by_cases hf : fitB (cmA A) r.1 t k = true
    · rw [if_pos hf, ieq_neg (by omega) (by omega) (by omega), if_pos hf, jn_add, jn_add]
      exact (ih (k + 1) (c + 1) M' (by omega) e2).pre hh
    · rw [if_neg hf, ieq_pos rfl, if_neg hf, jn_add]
      exact (ih (k + 1) c M' (by omega) e2).pre hh
theorem x_nth {l n : Nat} {r : Tm × Tm} {t : Tm} (hd : 9 ≤ d) (hA : AOk A) (hr : (rsA A)[l]? = some r) (ht : (tsA A)[n]? = some t) : ∀ m k c M, k + m = sz t → RX A M → XI (E_25 d (16, [some (.ref 0), some (.int (jn l)), some (.int (jn (40 * n))), some (.int a), some (.int (jn (sz t))), some (.int (jn c)), some (.int (jn k))], [], M)) M (nth (fitB (cmA A) r.1 t) m k c a, A) := by
  obtain ⟨h3, h4, h5⟩ := tm_ok hA ht
  intro m
  induction m with
  | zero =>
    intro k c M hk h
    rw [h_25_16, ilt_neg (by omega) (by omega)]
    exact ⟨M, rfl, h, Hi.rf⟩
  | succ m ih =>
    intro k c M hk h
    obtain ⟨M', e1, e2, e3⟩ := x_tryR (d := d) (k := k) (by omega) hA h hr ht (by omega)
    rw [h_25_16, ilt_pos (by omega) (by omega), c_lp (by omega), kI_r, jn_add, e1, kI_r, nth]
    have hh : Hi M M' := Hi.fr e3 (by decide)
    by_cases hf : fitB (cmA A) r.1 t k = true
    · rw [if_pos hf, ieq_neg (by omega) (by omega) (by omega), if_pos hf]
      by_cases hc : jn c = a
      · rw [if_pos hc, if_pos hc]; exact ⟨M', rfl, e2, hh⟩
      · rw [if_neg hc, if_neg hc, jn_add, jn_add]
        exact (ih (k + 1) (c + 1) M' (by omega) e2).pre hh
    · rw [if_neg hf, ieq_pos rfl, if_neg hf, jn_add]
      exact (ih (k + 1) c M' (by omega) e2).pre hh
theorem x_any {n k : Nat} {t : Tm} (hd : 9 ≤ d) (hA : AOk A) (ht : (tsA A)[n]? = some t) (hk : k < sz t) : ∀ m j M, j + m = (rsA A).length → RX A M → XI (E_28 d (2, [some (.ref 0), some (.int (jn (40 * n + k))), some (.int (jn j))], [], M)) M (if anyF (fun j => fitB (cmA A) ((rsA A).getD j (Lf, Lf)).1 t k) m j = true then jn 1 else jn 0, A) := by
  have hl : (rsA A).length ≤ 12 := hA.1.2.1.1
  intro m
  induction m with
  | zero =>
    intro j M hj h
    have e6 : M.1 1 6 = jn (rsA A).length := h.1.1.2.1
    rw [h_28_2, e6, ilt_neg (by omega) (by omega), rZ_0]
    exact ⟨M, rfl, h, Hi.rf⟩
  | succ m ih =>
    intro j M hj h
    have e6 : M.1 1 6 = jn (rsA A).length := h.1.1.2.1
    have hjl : j < (rsA A).length := by omega
    have hr : (rsA A)[j]? = some (rsA A)[j] := by simp [hjl]
    have hrd : (rsA A).getD j (Lf, Lf) = (rsA A)[j] := by rw [List.getD_eq_getElem?_getD, hr]; rfl
    obtain ⟨M', e1, e2, e3⟩ := x_tryR (d := d) (k := k) (by omega) hA h hr ht hk
    have hh : Hi M M' := Hi.fr e3 (by decide)
    rw [h_28_2, e6, ilt_pos (by omega) (by omega), c_lp (by omega), kI_r, e1, kI_r, anyF, hrd]
    by_cases hf : fitB (cmA A) (rsA A)[j].1 t k = true
    · rw [if_pos hf, ieq_neg (by omega) (by omega) (by omega), if_pos hf, if_pos rfl, rZ_1]
      exact ⟨M', rfl, e2, hh⟩
    · rw [if_neg hf, ieq_pos rfl, if_neg hf, jn_add]
      exact (ih (j + 1) M' (by omega) e2).pre hh
theorem x_msk {n : Nat} {t : Tm} (hd : 11 ≤ d) (hA : AOk A) (ht : (tsA A)[n]? = some t) : ∀ m k v M, k + m = sz t → RX A M → XL (E_27 d (14, [some (.ref 0), some (.int (jn (40 * n))), some (.int (jn (sz t))), some (.long v), none, some (.int (jn k))], [], M)) M (msk (anyR A t) m k v, A) := by
  obtain ⟨h3, h4, h5⟩ := tm_ok hA ht
  obtain ⟨d, rfl⟩ := ex_add hd
  intro m
  induction m with
  | zero =>
    intro k v M hk h
    rw [h_27_14, ilt_neg (by omega) (by omega)]
    exact ⟨M, rfl, h, Hi.rf⟩
  | succ m ih =>
    intro k v M hk h
    rw [h_27_14, ilt_pos (by omega) (by omega), jn_add, q_28]
    obtain ⟨M', e1, e2, e3⟩ := x_any (d := d + 10) (k := k) (by omega) hA ht (by omega) (rsA A).length 0 M (by omega) h
    rw [e1, kI_r, msk]
    show XL (if (if anyR A t k = true then jn 1 else jn 0) = jn 0 then _ else _) _ _
    by_cases hf : anyR A t k = true
    · rw [if_pos hf, ieq_neg (by omega) (by omega) (by omega), if_pos hf, jn_add]
      exact (ih (k + 1) _ M' (by omega) e2).pre e3
    · rw [if_neg hf, ieq_pos rfl, if_neg hf, jn_add]
      exact (ih (k + 1) v M' (by omega) e2).pre e3
end
