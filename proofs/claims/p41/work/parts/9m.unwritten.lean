/-! what isn't written: one number of an object -/
def SRk (P : PM → Prop) : SR → Prop
  | .inl none => True
  | .inl (some o) => P o.2
  | .inr q => P q.2.2.2
def kpX (j0 : Nat) (S : Nat → Bool) (x : XE) : Bool := match x with
  | (_, i, _, r1, r2, _, _) => match i with
    | .putfield _ => r2 != j0
    | .invokestatic _ => S r1
    | .invokevirtual _ => S r1
    | _ => true
section
variable {P : PM → Prop} {M M' : PM} {j0 : Nat}
theorem SRk_nxt {pc : Nat} {L : LC} {st : List Value} (h : P M) : SRk P (nxt pc L st M) := h
theorem SRk_stk : SRk P stk := trivial
theorem SRk_ret {v : Option Value} (h : P M) : SRk P (.inl (some (v, M))) := h
theorem SRk_ofo {α : Type} {o : Option α} {k : α → SR} (h : ∀ x, o = some x → SRk P (k x)) : SRk P (ofo o k) := by
  cases o with
  | none => trivial
  | some x => exact h x rfl
theorem SRk_calr {o : PO} {k nx : Nat} {L : LC} {st : List Value} (h : ∀ r M', o = some (r, M') → P M') : SRk P (calr o k nx L st) := by
  unfold calr
  split
  · split
    · exact h _ _ rfl
    · trivial
  · split
    · exact h _ _ rfl
    · trivial
  · split
    · exact h _ _ rfl
    · trivial
theorem sI_at {k : Nat} {f : Nat → Int32} (h : k = 52 → f j0 = M.1 52 j0) : (sI M k f).1 52 j0 = M.1 52 j0 := by
  show (if 52 = k then f else M.1 52) j0 = M.1 52 j0
  split
  · rename_i e; exact h e.symm
  · rfl
theorem putf_kp {k ci j : Nat} {v : Value} (hj : j ≠ j0) (h : putf lay M k ci j v = some M') : M'.1 52 j0 = M.1 52 j0 := by
  have key : ∀ x, (sI M k (va_up (M.1 k) j x)).1 52 j0 = M.1 52 j0 := fun x => sI_at (fun e => by rw [e, up_at, if_neg (Ne.symm hj)])
  unfold putf at h
  split at h
  · split at h
    · split at h
      · cases h; exact key _
      · split at h
        · cases h; exact key _
        · cases h
      · split at h
        · cases h; exact key _
        · cases h
      · cases h
    · cases h
  · cases h
theorem lay52 {l : Bool} {n : Nat} (h : lay[52]? = some (.inr (l, n))) : False := by
  have e : ∃ z, lay[52]? = some (.inl z) := ⟨_, rfl⟩
  obtain ⟨z, e⟩ := e
  rw [e] at h
  cases h
theorem astI_kp {a : Nat} {i x : Int32} (h : astI lay M a i x = some M') : M'.1 52 j0 = M.1 52 j0 := by
  unfold astI at h
  split at h
  · rename_i hl
    split at h
    · cases h
      exact sI_at (fun e => (lay52 (e ▸ hl)).elim)
    · cases h
  · cases h
theorem astL_kp {a : Nat} {i : Int32} {x : Int64} (h : astL lay M a i x = some M') : M'.1 52 j0 = M.1 52 j0 := by
  unfold astL at h
  split at h
  · split at h
    · cases h; rfl
    · cases h
  · cases h
theorem nat3_kp {id : Nat} {vs : List Value} {r : Option Value} (h : nat3 lay M id vs = some (r, M')) : M'.1 52 j0 = M.1 52 j0 := by
  unfold nat3 at h
  split at h
  · unfold acpy at h
    split at h
    · split at h
      · rename_i hb
        split at h
        · cases h
        · cases h
          exact sI_at (fun e => (lay52 (e ▸ hb)).elim)
      · cases h
    · cases h
  · split at h
    · cases h; rfl
    · cases h
  · split at h
    · cases h; rfl
    · cases h
theorem stp_kp {S : Nat → Bool} {cl : Nat → List Value → PM → PO} {rk : Nat} {x : XE} {L : LC} {st : List Value} (hx : kpX j0 S x = true) (hcl : ∀ id vs r M', S id = true → cl id vs M = some (r, M') → M'.1 52 j0 = M.1 52 j0) : SRk (fun M' => M'.1 52 j0 = M.1 52 j0) (stp lay none cl rk x L st M) := by
  obtain ⟨pc, i, nx, r1, r2, c, ts⟩ := x
  unfold stp
  simp only
  split
  all_goals first
    | exact SRk_nxt rfl
    | (repeat' split) <;> first | exact SRk_nxt rfl | exact SRk_stk | exact SRk_ret rfl | exact SRk_ofo (fun v _ => SRk_nxt rfl) | exact SRk_ofo (fun v hv => SRk_nxt (astI_kp hv)) | exact SRk_ofo (fun v hv => SRk_nxt (astL_kp hv)) | exact SRk_ofo (fun v hv => SRk_nxt (putf_kp (by simpa [kpX] using hx) hv)) | exact SRk_calr (fun r M' hr => hcl _ _ r M' (by simpa [kpX] using hx) hr)
theorem rnn_kp {S : Nat → Bool} {cl : Nat → List Value → PM → PO} {rk : Nat} {code : List XE} (hx : code.all (kpX j0 S) = true) (hcl : ∀ id vs M r M', S id = true → cl id vs M = some (r, M') → M'.1 52 j0 = M.1 52 j0) : ∀ n (q : PQ) r M', rnn code lay none cl rk n q = some (r, M') → M'.1 52 j0 = q.2.2.2.1 52 j0 := by
  intro n
  induction n with
  | zero => intro q r M' h; cases h
  | succ n ih =>
    intro q r M' h
    rw [rnn] at h
    split at h
    · cases h
    · rename_i x hf
      have hm : x ∈ code := List.mem_of_find?_eq_some hf
      have hk := stp_kp (M := q.2.2.2) (rk := rk) (L := q.2.1) (st := q.2.2.1) (List.all_eq_true.mp hx x hm) (fun id vs r M' => hcl id vs q.2.2.2 r M')
      split at h
      · rename_i o he
        rw [he, h] at hk
        exact hk
      · rename_i q' he
        rw [he] at hk
        exact (ih q' r M' h).trans hk
end
def kpS (l : List Nat) (id : Nat) : Bool := decide (id < 3) || l.elem id
def kpG (j0 : Nat) (l : List Nat) : Bool := l.all (fun id => match GG id with
  | none => true
  | some mt => mt.2.2.2.2.2.2.2.all (kpX j0 (kpS l)))
theorem pcl_kp {j0 : Nat} {l : List Nat} (hl : kpG j0 l = true) : ∀ d id vs M r M', kpS l id = true → pcl GG lay d id vs M = some (r, M') → M'.1 52 j0 = M.1 52 j0 := by
  intro d
  induction d with
  | zero => intro id vs M r M' _ h; cases h
  | succ d ih =>
    intro id vs M r M' hid h
    rw [pcl] at h
    split at h
    · exact nat3_kp h
    rename_i h3
    have hm : id ∈ l := by
      unfold kpS at hid
      simp only [Bool.or_eq_true, decide_eq_true_eq] at hid
      rcases hid with z | z
      · exact absurd z h3
      · exact List.elem_iff.mp z
    split at h
    · cases h
    rename_i mt hG
    have hc := List.all_eq_true.mp hl id hm
    rw [hG] at hc
    split at h
    · cases h
    obtain ⟨n, hn⟩ := evn_iff.mp h
    exact rnn_kp hc (fun id vs M r M' => ih id vs M r M') n _ r M' hn
/-- the methods that a run of the model's calls -/
def runIds : List Nat := (List.range 82).map (· + 67) ++ [168, 273, 274, 275]
theorem run_47 : kpG 47 runIds = true := by decide +kernel
