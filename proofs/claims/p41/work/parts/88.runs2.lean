/-! run, trial, judge: what is asked; the model's side -/
abbrev stQ (b r : Nat) : RnS := (b, r, [], false)
def rnA (A : AT) (w : Int32) (t : Tm) (b r : Nat) : RnR := runF (gM A) (fM A) 601 w t (Int64.ofNat 0) (stQ b r)
def setTr (A : AT) (tr : List (Nat × Int64)) : AT := (A.1, A.2.1, tr, A.2.2.2)
abbrev hsS (A : AT) (a : Int32) : Prop := 0 ≤ a.toInt ∧ a.toInt < ((ssA A).length : Nat)
def F_run (A : AT) (a b : Int32) : Int32 × AT := if ¬ hsS A a then rfs A 1 else if ¬ hsT A b then rfs A 1 else match rnA A a (tmN A b) 0 0 with
  | (none, q) => if q.2.2.2 = true then rfs A 7 else rfs A 6
  | (some u, q) => if (tsA A).length < 24 then addT (setTr A q.2.2.1) u else rfs A 7
def trlV (c : Int32) (o : RnR) : Int32 := match o with
  | (none, q) => if c = jn 0 then (if q.2.2.2 = true then jn 2 else jn 1) else jn 0
  | (some u, q) => if c = jn 0 then jn 0 else if c = jn 1 then jn (sz u) else jn q.2.2.1.length
def F_trial (A : AT) (a b c : Int32) : Int32 × AT := if ¬ hsS A a then rfs A 1 else if ¬ hsT A b then rfs A 1 else if ¬ (0 ≤ c.toInt ∧ c.toInt ≤ 2) then rfs A 5 else (trlV c (rnA A a (tmN A b) 0 0), A)
def judF (A : AT) (s : Nat) (w : Int32) : Nat → Nat → Nat → Nat → Int32
  | 0, _, _, _ => jz 1
  | m + 1, k, b, r => match rnA A w (tmN A (rowI A s (2 * k))) b r with
    | (none, _) => jn k
    | (some u, q) => if en u = en (tmN A (rowI A s (2 * k + 1))) then judF A s w m (k + 1) q.1 q.2.1 else jn k
abbrev no10A (A : AT) (k : Nat) : Int32 × AT := (jz (10 + k), (rfs A k).2)
def F_judge (A : AT) (a b c : Int32) : Int32 × AT := if ¬ thr a then no10A A 1 else if ¬ hsS A b then no10A A 1 else if noR A a ≠ 0 then no10A A (noR A a) else if c.toInt < 0 then no10A A 4 else if (siz A a.toInt.toNat : Int) < 2 * c.toInt then no10A A 5 else if ¬ (∀ i, i < 2 * c.toInt.toNat → hsT A (rowI A a.toInt.toNat i)) then no10A A 6 else (judF A a.toInt.toNat b c.toInt.toNat 0 0 0, A)
theorem pa_0 {t : Tm} (ht : wf t) : paT t 0 = Int64.ofNat 0 := by
  obtain ⟨c, a, b, rfl, -⟩ := wf_cases ht
  rfl
theorem rep_0 {t s : Tm} (ht : wf t) : rep t 0 s = s := by
  obtain ⟨c, a, b, rfl, -⟩ := wf_cases ht
  rfl
theorem stQ_ok {b r : Nat} (hb : b ≤ 600) (hr : r ≤ 40) : QOk (stQ b r) := ⟨hb, hr, Nat.zero_le _, rfl, fun x hx => by cases hx⟩
theorem okM_t {A : AT} {a : Int32} (h : hsS A a) : okM A a := Or.inl ⟨a.toInt.toNat, by omega, by rw [← Int32.toInt_inj, jn_toInt (by have := a.toInt_lt; omega)]; omega⟩
theorem rnA_ok {A : AT} {w : Int32} {t : Tm} {b r : Nat} (hA : AOk A) (hw : okM A w) (ht : wf t) (hs : sz t ≤ 40) (hb : b ≤ 600) (hr : r ≤ 40) : ROk True 1 t (stQ b r) (rnA A w t b r) := runF_ok (gM_ok hA) (fM_ok hA) 601 w hw t _ _ ht hs (stQ_ok hb hr)
theorem setTr_ok {A : AT} (hA : AOk A) {q : RnS} (hq : QOk q) : AOk (setTr A q.2.2.1) := ⟨hA.1, hA.2.1, ⟨Nat.le_trans hq.2.2.1 hq.2.1, hq.2.2.2.2⟩, hA.2.2.2⟩
section
variable {d : Nat} {A : AT} {M : PM} {a b c e f : Int32} {v : Int64}
theorem k_run (hA : AOk A) : AOk (F_run A a b).2 := by
  unfold F_run
  split
  · exact hA
  rename_i h1
  split
  · exact hA
  rename_i h2
  obtain ⟨n, t, rfl, k1, k2, k3, k4, k5⟩ := ts_of hA (Classical.not_not.mp h2)
  rw [k2]
  have ho := rnA_ok (b := 0) (r := 0) hA (okM_t (Classical.not_not.mp h1)) k3 k4 (by omega) (by omega)
  rcases e : rnA A a t 0 0 with ⟨_ | u, q⟩
  · simp only; split <;> exact hA
  · rw [e] at ho
    simp only
    split
    · exact k_addT (setTr_ok hA ho.2.2.1) ho.1 ho.2.1
    · exact hA
theorem trlV0_1 {o : RnR} : (trlV (jn 0) o = jn 1) = (o.1 = none ∧ ¬ o.2.2.2.2 = true) := by
  obtain ⟨_ | u, q⟩ := o
  · unfold trlV
    simp only [if_true]
    by_cases h : q.2.2.2 = true
    · rw [if_pos h, jn_inj (by omega) (by omega)]; simp [h]
    · rw [if_neg h]; simp [h]
  · unfold trlV
    simp only [if_true]
    rw [jn_inj (by omega) (by omega)]; simp
theorem trlV0_2 {o : RnR} : (trlV (jn 0) o = jn 2) = (o.1 = none ∧ o.2.2.2.2 = true) := by
  obtain ⟨_ | u, q⟩ := o
  · unfold trlV
    simp only [if_true]
    by_cases h : q.2.2.2 = true
    · rw [if_pos h]; simp [h]
    · rw [if_neg h, jn_inj (by omega) (by omega)]; simp [h]
  · unfold trlV
    simp only [if_true]
    rw [jn_inj (by omega) (by omega)]; simp
end
