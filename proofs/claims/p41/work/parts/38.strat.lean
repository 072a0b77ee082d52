/-! rules and strategies that are told of; strategy, says, trace -/
def lk {α : Type} (l : List α) (a : Int32) : Option α := if a.toInt < 0 then none else l[a.toInt.toNat]?
theorem lk_some {α : Type} {l : List α} {a : Int32} (h : 0 ≤ a.toInt ∧ a.toInt < (l.length : Nat)) : ∃ n t, a = jn n ∧ n < l.length ∧ l[n]? = some t ∧ lk l a = some t := by
  rcases jn_or a with h1 | ⟨n, hb, rfl⟩
  · rw [jlt (by omega)] at h1; omega
  · rw [jn_toInt hb] at h
    have hn : n < l.length := by omega
    refine ⟨n, l[n], rfl, hn, by simp [hn], ?_⟩
    unfold lk
    rw [jn_toInt hb, if_neg (by omega)]
    simp [hn]
theorem lk_none {α : Type} {l : List α} {a : Int32} (h : ¬ (0 ≤ a.toInt ∧ a.toInt < (l.length : Nat))) : lk l a = none := by
  unfold lk
  split
  · rfl
  · exact List.getElem?_eq_none (by omega)
theorem lk_iff {α : Type} {l : List α} {a : Int32} : (lk l a).isSome = true ↔ (0 ≤ a.toInt ∧ a.toInt < (l.length : Nat)) := by
  by_cases h : 0 ≤ a.toInt ∧ a.toInt < (l.length : Nat)
  · obtain ⟨n, t, -, -, -, e⟩ := lk_some h
    simp [e, h]
  · rw [lk_none h]; simp; omega
def F_ruleOf (A : AT) (r is i : Int32) : Int32 × AT := match lk (rsA A) r with
  | some q => if ¬ (0 ≤ i.toInt ∧ i.toInt < (sz (if is = jn 0 then q.1 else q.2) : Nat)) then rfs A 5 else (sgn (if is = jn 0 then q.1 else q.2) i.toInt.toNat, A)
  | none => rfs A 1
def F_strategyOf (A : AT) (w x : Int32) : Int32 × AT := match lk (ssA A) w with
  | some q => if x = jn 0 then (jn q.1, A) else if x = jn 1 then (q.2.1, A) else if x = jn 2 then (q.2.2, A) else rfs A 5
  | none => rfs A 5
def F_trace (A : AT) (i : Int32) : Int32 × AT := (match lk A.2.2.1 i with
  | some q => jn q.1
  | none => jz 1, A)
def F_tracePath (A : AT) (i : Int32) : Int64 × AT := (match lk A.2.2.1 i with
  | some q => q.2
  | none => Int64.ofInt (-1), A)
theorem wtF_fuel {ss : List SG} {rn : Nat} (h : ∀ i q, ss[i]? = some q → sgOk rn i q) (hll : ss.length < 1000) : ∀ i f, i < f → wtF ss f i = wt ss i := by
  intro i
  induction i using Nat.strongRecOn with
  | _ i ih =>
    intro f hf
    cases f with
    | zero => omega
    | succ f =>
      unfold wt wtF
      cases hq : ss[i]? with
      | none => rfl
      | some q =>
        obtain ⟨k, a, b⟩ := q
        obtain ⟨h1, h2, h3, h4, h5⟩ := h i _ hq
        simp only at *
        congr 2
        · congr 1
          split
          · rename_i hk
            obtain ⟨s, hs, rfl⟩ := h4 hk
            have hl : i < ss.length := (List.getElem?_eq_some_iff.mp hq).1
            rw [jnN (by omega), ih s hs f (by omega), ih s hs i hs]
          · rfl
        · split
          · rfl
          · rename_i hb
            split at h5
            · obtain ⟨s, hs, rfl⟩ := h5
              have hl : i < ss.length := (List.getElem?_eq_some_iff.mp hq).1
              rw [jnN (by omega), ih s hs f (by omega), ih s hs i hs]
            · exact absurd h5 hb
theorem wt_eq {ss : List SG} {rn i k : Nat} {a b : Int32} (h : ∀ i q, ss[i]? = some q → sgOk rn i q) (hq : ss[i]? = some (k, a, b)) (hl : ss.length < 1000) : wt ss i = min 1000 (1 + (if 2 < k then wt ss a.toInt.toNat else 0) + (if b = jz 1 then 0 else wt ss b.toInt.toNat)) := by
  have hi : i < ss.length := (List.getElem?_eq_some_iff.mp hq).1
  obtain ⟨h1, h2, h3, h4, h5⟩ := h i _ hq
  show wtF ss (i + 1) i = _
  rw [wtF, hq]
  simp only at *
  congr 2
  · congr 1
    split
    · rename_i hk
      obtain ⟨s, hs, rfl⟩ := h4 hk
      rw [jnN (by omega), wtF_fuel h hl s i hs]
    · rfl
  · split
    · rfl
    · rename_i hb
      split at h5
      · obtain ⟨s, hs, rfl⟩ := h5
        rw [jnN (by omega), wtF_fuel h hl s i hs]
      · exact absurd h5 hb
theorem wtF_app {ss : List SG} {rn : Nat} {q : SG} (h : ∀ i q, ss[i]? = some q → sgOk rn i q) (hl : ss.length < 1000) : ∀ f i, i < ss.length → wtF (ss ++ [q]) f i = wtF ss f i := by
  intro f
  induction f with
  | zero => intro i _; rfl
  | succ f ih =>
    intro i hi
    unfold wtF
    rw [List.getElem?_append_left hi]
    cases hq : ss[i]? with
    | none => rfl
    | some q =>
      obtain ⟨k, a, b⟩ := q
      obtain ⟨h1, h2, h3, h4, h5⟩ := h i _ hq
      simp only at *
      congr 2
      · congr 1
        split
        · rename_i hk
          obtain ⟨s, hs, rfl⟩ := h4 hk
          rw [jnN (by omega), ih s (by omega)]
        · rfl
      · split
        · rfl
        · rename_i hb
          split at h5
          · obtain ⟨s, hs, rfl⟩ := h5
            rw [jnN (by omega), ih s (by omega)]
          · exact absurd h5 hb
theorem wt_le (ss : List SG) (i : Nat) : wt ss i ≤ 1000 := by
  show wtF ss (i + 1) i ≤ 1000
  rw [wtF]
  split
  · exact Nat.min_le_left _ _
  · omega
section
variable {d : Nat} {A : AT} {M : PM} {a b c e f : Int32} {v : Int64}
theorem rl_ok (hA : AOk A) {n : Nat} {q : Tm × Tm} (h : (rsA A)[n]? = some q) : rlOk q ∧ n < 12 := by
  have h1 := hA.1.2.1.2 q (List.mem_of_getElem? h)
  have h2 : n < (rsA A).length := (List.getElem?_eq_some_iff.mp h).1
  have h3 : (rsA A).length ≤ 12 := hA.1.2.1.1
  exact ⟨h1, by omega⟩
theorem sg_ok (hA : AOk A) {n : Nat} {q : SG} (h : (ssA A)[n]? = some q) : sgOk (rsA A).length n q ∧ n < 24 := by
  have h1 := hA.1.2.2.1.2 n q h
  have h2 : n < (ssA A).length := (List.getElem?_eq_some_iff.mp h).1
  have h3 : (ssA A).length ≤ 24 := hA.1.2.2.1.1
  exact ⟨h1, by omega⟩
theorem k_ruleOf (hA : AOk A) : AOk (F_ruleOf A a b c).2 := by
  unfold F_ruleOf
  split
  · repeat' split
    all_goals exact hA
  · exact hA
theorem k_strategyOf (hA : AOk A) : AOk (F_strategyOf A a b).2 := by
  unfold F_strategyOf
  split
  · repeat' split
    all_goals exact hA
  · exact hA
theorem c_kind {n : Nat} (hd : 2 ≤ d) (hn : n < 48) : pcl GG lay d 248 [.ref 1, .int (jn n)] M = rI (M.1 2 n) M := by
  obtain ⟨d, rfl⟩ := ex_add hd
  rw [q_248, c_get (n := 48) (by omega) rfl hn (by omega), kI_r]
theorem c_one {n : Nat} (hd : 2 ≤ d) (hn : n < 48) : pcl GG lay d 249 [.ref 1, .int (jn n)] M = rI (M.1 3 n) M := by
  obtain ⟨d, rfl⟩ := ex_add hd
  rw [q_249, c_get (n := 48) (by omega) rfl hn (by omega), kI_r]
theorem c_two {n : Nat} (hd : 2 ≤ d) (hn : n < 48) : pcl GG lay d 250 [.ref 1, .int (jn n)] M = rI (M.1 4 n) M := by
  obtain ⟨d, rfl⟩ := ex_add hd
  rw [q_250, c_get (n := 48) (by omega) rfl hn (by omega), kI_r]
theorem c_weight {n : Nat} (hd : 2 ≤ d) (hn : n < 48) : pcl GG lay d 251 [.ref 1, .int (jn n)] M = rI (M.1 5 n) M := by
  obtain ⟨d, rfl⟩ := ex_add hd
  rw [q_251, c_get (n := 48) (by omega) rfl hn (by omega), kI_r]
theorem x_strategyOf (hd : 6 ≤ d) (hA : AOk A) (h : RX A M) : XI (pcl GG lay d 33 [.ref 0, .int a, .int b] M) M (F_strategyOf A a b) := by
  obtain ⟨d, rfl⟩ := ex_add hd
  rw [q_33, c_hasS (by omega) hA h, kI_r]
  simp only [bI_0]
  unfold F_strategyOf
  by_cases h1 : 0 ≤ a.toInt ∧ a.toInt < (ssA A).length
  case neg => rw [if_pos h1, lk_none h1]; exact x_ref (by omega) h (by omega)
  rw [if_neg (not_not_intro h1)]
  obtain ⟨n, q, rfl, hn, hq, hlk⟩ := lk_some h1
  obtain ⟨w, h24⟩ := sg_ok hA hq
  obtain ⟨g1, g2, g3, -⟩ := h.1.2.2.2 n q hq
  have g1 : M.1 2 n = jn q.1 := g1
  have g2 : M.1 3 n = q.2.1 := g2
  have g3 : M.1 4 n = q.2.2 := g3
  rw [hlk, c_kind (by omega) (by omega), kI_r, c_one (by omega) (by omega), kI_r, c_two (by omega) (by omega), kI_r, g1, g2, g3]
  simp only
  by_cases b0 : b = jn 0
  · rw [if_pos b0, if_pos b0]; exact ⟨M, rfl, h, Hi.rf⟩
  rw [if_neg b0, if_neg b0]
  by_cases b1 : b = jn 1
  · rw [if_pos b1, if_pos b1]; exact ⟨M, rfl, h, Hi.rf⟩
  rw [if_neg b1, if_neg b1]
  by_cases b2 : b = jn 2
  · rw [if_pos b2, if_pos b2]; exact ⟨M, rfl, h, Hi.rf⟩
  rw [if_neg b2, if_neg b2]; exact x_ref (by omega) h (by omega)
/-! the trace -/
theorem x_trace (hd : 3 ≤ d) (hA : AOk A) (h : RX A M) : XI (pcl GG lay d 36 [.ref 0, .int a] M) M (F_trace A a) := by
  obtain ⟨d, rfl⟩ := ex_add hd
  refine ⟨M, ?_, h, Hi.rf⟩
  have hl := hA.2.2.1.1
  rw [q_36, q_256b, h.2.2.1.1]
  unfold F_trace
  simp (disch := omega) only [jlt]
  by_cases h1 : 0 ≤ a.toInt ∧ a.toInt < A.2.2.1.length
  · obtain ⟨n, q, rfl, hn, hq, hlk⟩ := lk_some h1
    rw [if_neg (by omega), if_pos (by omega), hlk, c_get (n := 40) (by omega) rfl (by omega) (by omega), kI_r, kI_r, (h.2.2.1.2 n q hq).1]
  · rw [lk_none h1]
    by_cases h2 : a.toInt < 0
    · rw [if_pos (by omega), kI_r]
    · rw [if_neg (by omega), if_neg (by omega), kI_r]
theorem x_tracePath (hd : 3 ≤ d) (hA : AOk A) (h : RX A M) : XL (pcl GG lay d 37 [.ref 0, .int a] M) M (F_tracePath A a) := by
  obtain ⟨d, rfl⟩ := ex_add hd
  refine ⟨M, ?_, h, Hi.rf⟩
  have hl := hA.2.2.1.1
  rw [q_37, q_257b, h.2.2.1.1]
  unfold F_tracePath
  simp (disch := omega) only [jlt]
  by_cases h1 : 0 ≤ a.toInt ∧ a.toInt < A.2.2.1.length
  · obtain ⟨n, q, rfl, hn, hq, hlk⟩ := lk_some h1
    rw [if_neg (by omega), if_pos (by omega), hlk, c_getL (n := 40) (by omega) rfl (by omega) (by omega), kL_r, kL_r, (h.2.2.1.2 n q hq).2]
  · rw [lk_none h1]
    by_cases h2 : a.toInt < 0
    · rw [if_pos (by omega), kL_r]
    · rw [if_neg (by omega), if_neg (by omega), kL_r]
end
