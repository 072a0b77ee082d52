/-! EQUATIONS OF METHODS: what stands between the pure machine and functions -/
def jn (n : Nat) : Int32 := Int32.ofInt (n : Int)
def jz (n : Nat) : Int32 := Int32.ofInt (-(n : Int))
def kI (o : PO) (k : Int32 → PM → PO) : PO := match o with
  | some (some (.int r), M) => k r M
  | _ => none
def kL (o : PO) (k : Int64 → PM → PO) : PO := match o with
  | some (some (.long r), M) => k r M
  | _ => none
def kV (o : PO) (k : PM → PO) : PO := match o with
  | some (none, M) => k M
  | _ => none
def oB {α : Type} (o : Option α) (k : α → PO) : PO := match o with
  | some x => k x
  | none => none
def wr (M : PM) (k : PM → PO) : PO := k M
abbrev rI (r : Int32) (M : PM) : PO := some (some (.int r), M)
abbrev rL (r : Int64) (M : PM) : PO := some (some (.long r), M)
abbrev rV (M : PM) : PO := some (none, M)
def rZ (r : Int32) (M : PM) : PO := if r = jn 0 ∨ r = jn 1 then rI r M else none
def rs (F : PQ → PO) (s : SR) : PO := match s with
  | .inl r => r
  | .inr q => F q
theorem J0 : jn 0 = (0 : Int32) := by decide
theorem J1 : jn 1 = (1 : Int32) := by decide
section
variable {code : List XE} {lay : List SH} {sc : Option (Nat × (Nat → Int32))} {cl : Nat → List Value → PM → PO} {rk : Nat}
def adv (code : List XE) (lay : List SH) (sc : Option (Nat × (Nat → Int32))) (cl : Nat → List Value → PM → PO) (rk : Nat) : Nat → PQ → SR
  | 0, q => .inr q
  | n + 1, q => match fet code q.1 with
    | none => stk
    | some x => match stp lay sc cl rk x q.2.1 q.2.2.1 q.2.2.2 with
      | .inl r => .inl r
      | .inr q' => adv code lay sc cl rk n q'
theorem evn_rs {q : PQ} {x : XE} (hf : fet code q.1 = some x) : evn (rnn code lay sc cl rk) q = rs (evn (rnn code lay sc cl rk)) (stp lay sc cl rk x q.2.1 q.2.2.1 q.2.2.2) := evn_stp q x hf
theorem evn_no {q : PQ} (hf : fet code q.1 = none) : evn (rnn code lay sc cl rk) q = none := by
  apply Option.ext
  intro r
  rw [evn_iff]
  constructor
  · rintro ⟨n, h⟩
    cases n with
    | zero => simp [rnn] at h
    | succ n => rw [rnn, hf] at h; simp at h
  · intro h; cases h
theorem evn_advS : ∀ (n : Nat) (q : PQ), evn (rnn code lay sc cl rk) q = rs (evn (rnn code lay sc cl rk)) (adv code lay sc cl rk n q) := by
  intro n
  induction n with
  | zero => intro q; rfl
  | succ n ih =>
    intro q
    unfold adv
    cases hf : fet code q.1 with
    | none => exact evn_no hf
    | some x =>
      rw [evn_rs hf]
      simp only
      cases hs : stp lay sc cl rk x q.2.1 q.2.2.1 q.2.2.2 with
      | inl r => rfl
      | inr q' => exact ih q'
theorem evn_adv (n : Nat) {q q' : PQ} (h : adv code lay sc cl rk n q = .inr q') : evn (rnn code lay sc cl rk) q = evn (rnn code lay sc cl rk) q' := by rw [evn_advS n q, h]; rfl
theorem evn_end (n : Nat) {q : PQ} {r : PO} (h : adv code lay sc cl rk n q = .inl r) : evn (rnn code lay sc cl rk) q = r := by rw [evn_advS n q, h]; rfl
variable {pc nx r1 r2 : Nat} {off : Int} {c : Int} {ts : List Nat} {L : LC} {st : List Value} {M : PM} {a b : Int32}
theorem e_if_eq (hf : fet code pc = some (pc, .ifCond .eq off, nx, r1, r2, c, ts)) : evn (rnn code lay sc cl rk) (pc, L, .int a :: st, M) = if a = jn 0 then evn (rnn code lay sc cl rk) (r1, L, st, M) else evn (rnn code lay sc cl rk) (nx, L, st, M) := by
  refine (evn_rs hf).trans ?_
  simp only [stp, icond, decide_eq_true_eq, ← Int32.not_lt, J0]
  by_cases h : a = 0
  · simp only [h, not_true, not_false_eq_true, if_true, if_false]; rfl
  · simp only [h, not_true, not_false_eq_true, if_true, if_false]; rfl
theorem e_ic_eq (hf : fet code pc = some (pc, .if_icmp .eq off, nx, r1, r2, c, ts)) : evn (rnn code lay sc cl rk) (pc, L, .int b :: .int a :: st, M) = if a = b then evn (rnn code lay sc cl rk) (r1, L, st, M) else evn (rnn code lay sc cl rk) (nx, L, st, M) := by
  refine (evn_rs hf).trans ?_
  simp only [stp, icond, decide_eq_true_eq, ← Int32.not_lt]
  by_cases h : a = b
  · simp only [h, not_true, not_false_eq_true, if_true, if_false]; rfl
  · simp only [h, not_true, not_false_eq_true, if_true, if_false]; rfl
theorem e_if_ne (hf : fet code pc = some (pc, .ifCond .ne off, nx, r1, r2, c, ts)) : evn (rnn code lay sc cl rk) (pc, L, .int a :: st, M) = if a = jn 0 then evn (rnn code lay sc cl rk) (nx, L, st, M) else evn (rnn code lay sc cl rk) (r1, L, st, M) := by
  refine (evn_rs hf).trans ?_
  simp only [stp, icond, decide_eq_true_eq, ← Int32.not_lt, J0]
  by_cases h : a = 0
  · simp only [h, not_true, not_false_eq_true, if_true, if_false]; rfl
  · simp only [h, not_true, not_false_eq_true, if_true, if_false]; rfl
theorem e_ic_ne (hf : fet code pc = some (pc, .if_icmp .ne off, nx, r1, r2, c, ts)) : evn (rnn code lay sc cl rk) (pc, L, .int b :: .int a :: st, M) = if a = b then evn (rnn code lay sc cl rk) (nx, L, st, M) else evn (rnn code lay sc cl rk) (r1, L, st, M) := by
  refine (evn_rs hf).trans ?_
  simp only [stp, icond, decide_eq_true_eq, ← Int32.not_lt]
  by_cases h : a = b
  · simp only [h, not_true, not_false_eq_true, if_true, if_false]; rfl
  · simp only [h, not_true, not_false_eq_true, if_true, if_false]; rfl
theorem e_if_lt (hf : fet code pc = some (pc, .ifCond .lt off, nx, r1, r2, c, ts)) : evn (rnn code lay sc cl rk) (pc, L, .int a :: st, M) = if a < jn 0 then evn (rnn code lay sc cl rk) (r1, L, st, M) else evn (rnn code lay sc cl rk) (nx, L, st, M) := by
  refine (evn_rs hf).trans ?_
  simp only [stp, icond, decide_eq_true_eq, ← Int32.not_lt, J0]
  by_cases h : a < 0
  · simp only [h, not_true, not_false_eq_true, if_true, if_false]; rfl
  · simp only [h, not_true, not_false_eq_true, if_true, if_false]; rfl
theorem e_ic_lt (hf : fet code pc = some (pc, .if_icmp .lt off, nx, r1, r2, c, ts)) : evn (rnn code lay sc cl rk) (pc, L, .int b :: .int a :: st, M) = if a < b then evn (rnn code lay sc cl rk) (r1, L, st, M) else evn (rnn code lay sc cl rk) (nx, L, st, M) := by
  refine (evn_rs hf).trans ?_
  simp only [stp, icond, decide_eq_true_eq, ← Int32.not_lt]
  by_cases h : a < b
  · simp only [h, not_true, not_false_eq_true, if_true, if_false]; rfl
  · simp only [h, not_true, not_false_eq_true, if_true, if_false]; rfl
theorem e_if_ge (hf : fet code pc = some (pc, .ifCond .ge off, nx, r1, r2, c, ts)) : evn (rnn code lay sc cl rk) (pc, L, .int a :: st, M) = if a < jn 0 then evn (rnn code lay sc cl rk) (nx, L, st, M) else evn (rnn code lay sc cl rk) (r1, L, st, M) := by
  refine (evn_rs hf).trans ?_
  simp only [stp, icond, decide_eq_true_eq, ← Int32.not_lt, J0]
  by_cases h : a < 0
  · simp only [h, not_true, not_false_eq_true, if_true, if_false]; rfl
  · simp only [h, not_true, not_false_eq_true, if_true, if_false]; rfl
theorem e_ic_ge (hf : fet code pc = some (pc, .if_icmp .ge off, nx, r1, r2, c, ts)) : evn (rnn code lay sc cl rk) (pc, L, .int b :: .int a :: st, M) = if a < b then evn (rnn code lay sc cl rk) (nx, L, st, M) else evn (rnn code lay sc cl rk) (r1, L, st, M) := by
  refine (evn_rs hf).trans ?_
  simp only [stp, icond, decide_eq_true_eq, ← Int32.not_lt]
  by_cases h : a < b
  · simp only [h, not_true, not_false_eq_true, if_true, if_false]; rfl
  · simp only [h, not_true, not_false_eq_true, if_true, if_false]; rfl
theorem e_if_gt (hf : fet code pc = some (pc, .ifCond .gt off, nx, r1, r2, c, ts)) : evn (rnn code lay sc cl rk) (pc, L, .int a :: st, M) = if jn 0 < a then evn (rnn code lay sc cl rk) (r1, L, st, M) else evn (rnn code lay sc cl rk) (nx, L, st, M) := by
  refine (evn_rs hf).trans ?_
  simp only [stp, icond, decide_eq_true_eq, ← Int32.not_lt, J0]
  by_cases h : 0 < a
  · simp only [h, not_true, not_false_eq_true, if_true, if_false]; rfl
  · simp only [h, not_true, not_false_eq_true, if_true, if_false]; rfl
theorem e_ic_gt (hf : fet code pc = some (pc, .if_icmp .gt off, nx, r1, r2, c, ts)) : evn (rnn code lay sc cl rk) (pc, L, .int b :: .int a :: st, M) = if b < a then evn (rnn code lay sc cl rk) (r1, L, st, M) else evn (rnn code lay sc cl rk) (nx, L, st, M) := by
  refine (evn_rs hf).trans ?_
  simp only [stp, icond, decide_eq_true_eq, ← Int32.not_lt]
  by_cases h : b < a
  · simp only [h, not_true, not_false_eq_true, if_true, if_false]; rfl
  · simp only [h, not_true, not_false_eq_true, if_true, if_false]; rfl
theorem e_if_le (hf : fet code pc = some (pc, .ifCond .le off, nx, r1, r2, c, ts)) : evn (rnn code lay sc cl rk) (pc, L, .int a :: st, M) = if jn 0 < a then evn (rnn code lay sc cl rk) (nx, L, st, M) else evn (rnn code lay sc cl rk) (r1, L, st, M) := by
  refine (evn_rs hf).trans ?_
  simp only [stp, icond, decide_eq_true_eq, ← Int32.not_lt, J0]
  by_cases h : 0 < a
  · simp only [h, not_true, not_false_eq_true, if_true, if_false]; rfl
  · simp only [h, not_true, not_false_eq_true, if_true, if_false]; rfl
theorem e_ic_le (hf : fet code pc = some (pc, .if_icmp .le off, nx, r1, r2, c, ts)) : evn (rnn code lay sc cl rk) (pc, L, .int b :: .int a :: st, M) = if b < a then evn (rnn code lay sc cl rk) (nx, L, st, M) else evn (rnn code lay sc cl rk) (r1, L, st, M) := by
  refine (evn_rs hf).trans ?_
  simp only [stp, icond, decide_eq_true_eq, ← Int32.not_lt]
  by_cases h : b < a
  · simp only [h, not_true, not_false_eq_true, if_true, if_false]; rfl
  · simp only [h, not_true, not_false_eq_true, if_true, if_false]; rfl
theorem e_kI {q q2 : Nat × LC × List Value} {o : PO} {k : Nat} {x : XE} (hf : fet code q.1 = some x) (hk : k = 1) (hs : stp lay sc cl rk x q.2.1 q.2.2 M = calr o k q2.1 q2.2.1 q2.2.2) : evn (rnn code lay sc cl rk) (q.1, q.2.1, q.2.2, M) = kI o (fun r M => evn (rnn code lay sc cl rk) (q2.1, q2.2.1, .int r :: q2.2.2, M)) := by
  refine (evn_rs hf).trans ?_
  simp only
  rw [hs]
  subst hk
  rcases o with _ | ⟨_ | v, M⟩
  · rfl
  · rfl
  · cases v <;> rfl
theorem e_kL {q q2 : Nat × LC × List Value} {o : PO} {k : Nat} {x : XE} (hf : fet code q.1 = some x) (hk : k = 3) (hs : stp lay sc cl rk x q.2.1 q.2.2 M = calr o k q2.1 q2.2.1 q2.2.2) : evn (rnn code lay sc cl rk) (q.1, q.2.1, q.2.2, M) = kL o (fun r M => evn (rnn code lay sc cl rk) (q2.1, q2.2.1, .long r :: q2.2.2, M)) := by
  refine (evn_rs hf).trans ?_
  simp only
  rw [hs]
  subst hk
  rcases o with _ | ⟨_ | v, M⟩
  · rfl
  · rfl
  · cases v <;> rfl
theorem e_kV {q q2 : Nat × LC × List Value} {o : PO} {k : Nat} {x : XE} (hf : fet code q.1 = some x) (hk : k = 0) (hs : stp lay sc cl rk x q.2.1 q.2.2 M = calr o k q2.1 q2.2.1 q2.2.2) : evn (rnn code lay sc cl rk) (q.1, q.2.1, q.2.2, M) = kV o (fun M => evn (rnn code lay sc cl rk) (q2.1, q2.2.1, q2.2.2, M)) := by
  refine (evn_rs hf).trans ?_
  simp only
  rw [hs]
  subst hk
  rcases o with _ | ⟨_ | v, M⟩
  · rfl
  · rfl
  · cases v <;> rfl
theorem e_oB {α : Type} {q : PQ} {x : XE} {o : Option α} {f : α → PQ} (hf : fet code q.1 = some x) (hs : stp lay sc cl rk x q.2.1 q.2.2.1 q.2.2.2 = ofo o (fun v => .inr (f v))) : evn (rnn code lay sc cl rk) q = oB o (fun v => evn (rnn code lay sc cl rk) (f v)) := by
  refine (evn_rs hf).trans ?_
  rw [hs]
  cases o <;> rfl
theorem e_rZ {x : XE} {v : Int32} (hf : fet code pc = some x) (hs : stp lay sc cl rk x L st M = if v = 0 ∨ v = 1 then .inl (some (some (.int v), M)) else stk) : evn (rnn code lay sc cl rk) (pc, L, st, M) = rZ v M := by
  refine (evn_rs hf).trans ?_
  simp only
  rw [hs]
  unfold rZ
  rw [J0, J1]
  split <;> rfl
theorem e_irem (hf : fet code pc = some (pc, .irem, nx, r1, r2, c, ts)) : evn (rnn code lay sc cl rk) (pc, L, .int b :: .int a :: st, M) = if b = jn 0 then none else evn (rnn code lay sc cl rk) (nx, L, .int (a - a / b * b) :: st, M) := by
  refine (evn_rs hf).trans ?_
  simp only [stp, J0]
  split <;> rfl
theorem e_sw0 {x : XE} {dflt : Nat} {lo : Int} (hf : fet code pc = some x) (hs : stp lay sc cl rk x L (.int a :: st) M = nxt (swch a dflt lo ts) L st M) : evn (rnn code lay sc cl rk) (pc, L, .int a :: st, M) = evn (rnn code lay sc cl rk) (swch a dflt lo ts, L, st, M) := by
  refine (evn_rs hf).trans ?_
  simp only
  rw [hs]
  rfl
end
theorem sw_nil {F : Nat → PO} {x : Int32} {d : Nat} {lo : Int} : F (swch x d lo []) = F d := rfl
theorem toInt_J_iff {x : Int32} {lo : Nat} (h : lo ≤ 2147483647) : x.toInt = (lo : Int) ↔ x = jn lo := by
  unfold jn
  constructor
  · intro e; rw [← e]; exact (Int32.ofInt_toInt x).symm
  · intro e; rw [e]; exact Int32.toInt_ofInt_of_le (by omega) (by omega)
theorem sw_cons {F : Nat → PO} {x : Int32} {d t : Nat} {lo : Nat} {ts : List Nat} {r1 r2 : PO} (h : lo ≤ 2147483647) (h1 : F t = r1) (h2 : F (swch x d ((lo + 1 : Nat) : Int) ts) = r2) : F (swch x d (lo : Int) (t :: ts)) = if x = jn lo then r1 else r2 := by
  unfold swch
  by_cases e : x = jn lo
  · rw [if_pos ((toInt_J_iff h).mpr e), if_pos e]; exact h1
  · rw [if_neg (fun q => e ((toInt_J_iff h).mp q)), if_neg e]; exact h2
theorem wr_in {f k : PM → PO} {e : PM} (h : ∀ M, f M = k M) : f e = wr e k := h e
theorem ite_in {C : Prop} [Decidable C] {a b a' b' : PO} (h1 : a = a') (h2 : b = b') : (if C then a else b) = if C then a' else b' := by rw [h1, h2]
theorem kI_in {o : PO} {k k' : Int32 → PM → PO} (h : ∀ r M, k r M = k' r M) : kI o k = kI o k' := by rw [show k = k' from funext fun r => funext fun M => h r M]
theorem kL_in {o : PO} {k k' : Int64 → PM → PO} (h : ∀ r M, k r M = k' r M) : kL o k = kL o k' := by rw [show k = k' from funext fun r => funext fun M => h r M]
theorem kV_in {o : PO} {k k' : PM → PO} (h : ∀ M, k M = k' M) : kV o k = kV o k' := by rw [show k = k' from funext fun M => h M]
theorem oB_in {α : Type} {o : Option α} {k k' : α → PO} (h : ∀ r, k r = k' r) : oB o k = oB o k' := by rw [show k = k' from funext fun r => h r]
theorem pcl_un {id d : Nat} {mt : MT} {vs : List Value} {M : PM} (h3 : 3 ≤ id) (hG : GG id = some mt) (hl : (entl vs).length ≤ mt.2.2.2.1) : pcl GG lay (d + 1) id vs M = evn (rnn mt.2.2.2.2.2.2.2 lay none (pcl GG lay d) mt.2.2.2.2.1) (0, ent mt.2.2.2.1 vs, [], M) := by
  rw [pcl, if_neg (Nat.not_lt.mpr h3), hG]
  simp only
  rw [if_neg (Nat.not_lt.mpr hl)]

section
variable {code : List XE} {lay : List SH} {sc : Option (Nat × (Nat → Int32))} {cl : Nat → List Value → PM → PO} {rk : Nat}
variable {pc nx r1 r2 : Nat} {off : Int} {c : Int} {ts : List Nat} {L : LC} {st st' : List Value} {M : PM} {a b : Int32} {k j ix : Nat} {ks : List Nat}
theorem e_iretz (hf : fet code pc = some (pc, .ireturn, nx, r1, r2, c, ts)) : evn (rnn code lay sc cl 2) (pc, L, [.int a], M) = rZ a M := by
  refine (evn_rs hf).trans ?_
  unfold rZ
  rw [J0, J1]
  by_cases h : a = 0 ∨ a = 1
  · simp [stp, h]; rfl
  · simp [stp, h]; rfl
theorem e_getr (hf : fet code pc = some (pc, .getfield ix, nx, r1, j, c, ts)) (hl : (match lay[k]? with | some (.inl (c, ks)) => decide (c = r1) && decide (ks[j]? = some 2) | _ => false) = true) : evn (rnn code lay sc cl rk) (pc, L, .ref k :: st', M) = if M.1 k j < 0 then none else evn (rnn code lay sc cl rk) (nx, L, .ref (M.1 k j).toNatClampNeg :: st', M) := by
  refine (evn_rs hf).trans ?_
  simp only [stp, getf]
  split at hl
  · rename_i c2 ks h1
    simp only [Bool.and_eq_true, decide_eq_true_eq] at hl
    rw [h1]
    simp only [hl.1, hl.2, if_true]
    by_cases h : M.1 k j < 0
    · simp only [h, if_true]; rfl
    · simp only [h, if_false]; rfl
  · cases hl
theorem e_putz {q2 : Nat × LC × List Value} {x : XE} {v : Int32} (hf : fet code pc = some x) (hl : stp lay sc cl rk x L (.int v :: .ref k :: st') M = ofo (if v = 0 ∨ v = 1 then some (sI M k (va_up (M.1 k) j v)) else none) (fun M => nxt q2.1 q2.2.1 q2.2.2 M)) : evn (rnn code lay sc cl rk) (pc, L, .int v :: .ref k :: st', M) = if v = jn 0 ∨ v = jn 1 then evn (rnn code lay sc cl rk) (q2.1, q2.2.1, q2.2.2, sI M k (va_up (M.1 k) j v)) else none := by
  refine (evn_rs hf).trans ?_
  simp only
  rw [hl, J0, J1]
  split <;> rfl
theorem e_putr {q2 : Nat × LC × List Value} {x : XE} {v : Nat} (hf : fet code pc = some x) (hl : stp lay sc cl rk x L (.ref v :: .ref k :: st') M = ofo (if v < 1000 then some (sI M k (va_up (M.1 k) j (Int32.ofNat v))) else none) (fun M => nxt q2.1 q2.2.1 q2.2.2 M)) : evn (rnn code lay sc cl rk) (pc, L, .ref v :: .ref k :: st', M) = if v < 1000 then evn (rnn code lay sc cl rk) (q2.1, q2.2.1, q2.2.2, sI M k (va_up (M.1 k) j (Int32.ofNat v))) else none := by
  refine (evn_rs hf).trans ?_
  simp only
  rw [hl]
  split <;> rfl
end
