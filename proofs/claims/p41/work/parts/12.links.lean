theorem swch_in (x : Int32) (d : Nat) : ∀ (ts : List Nat) (lo : Int), ¬ x.toInt < lo → x.toInt < lo + (ts.length : Int) → ts[(x.toInt - lo).toNat]? = some (swch x d lo ts) := by
  intro ts
  induction ts with
  | nil => intro lo h1 h2; simp at h2; omega
  | cons t ts ih =>
    intro lo h1 h2
    unfold swch
    by_cases hx : x.toInt = lo
    · rw [if_pos hx, hx]; simp
    · rw [if_neg hx]
      have h3 := ih (lo + 1) (by omega) (by simp at h2; omega)
      rw [← h3]
      have e : (x.toInt - lo).toNat = (x.toInt - (lo + 1)).toNat + 1 := by omega
      rw [e]
      simp
theorem swch_out (x : Int32) (d : Nat) : ∀ (ts : List Nat) (lo : Int), (x.toInt < lo ∨ lo + (ts.length : Int) ≤ x.toInt) → swch x d lo ts = d := by
  intro ts
  induction ts with
  | nil => intro lo _; rfl
  | cons t ts ih =>
    intro lo h
    unfold swch
    rw [if_neg (by simp at h; omega)]
    exact ih (lo + 1) (by simp at h; omega)
/-- what holds all through a method's body -/
def Fx (lay : List SH) (d : Nat) (nm : Nat → String) (TW : List Jvm.Cond) (NM : List NMT) (NF : List NFT) (o : Nat) (bytes : ByteArray) (maxL : Nat) (p : Program) (s : State) (m : MethodId) (args : Array Value) (c : Code) (R : Room) (cells slots : Nat) (A : Nat → Prop) (cI cL : ClassId) (D : va_G) (sc : Option (Nat × (Nat → Int32))) (ad : Nat → Nat) : Prop :=
  p.tables.exec = Jvm.exec ∧ c.code = bytes ∧ c.maxLocals = maxL ∧ s.vm.findClass (nm o) = some m.cls ∧ (∀ w ∈ TW, w.before args s = true) ∧ (∀ q ∈ NM, va_Nw (.methodLinkNest q.1 q.2.1 q.2.2.1 q.2.2.2) s) ∧ (∀ q ∈ NF, va_Nw (.fieldLinkNest q.1 q.2.1 q.2.2.1 q.2.2.2.1 q.2.2.2.2.1 q.2.2.2.2.2) s) ∧ va_K D vwCl [(cI, .int), (cL, .long)] s ∧ (∀ q, s.heap.size ≤ q → A q) ∧
  (∀ n xs, sc = some (n, xs) → va_X (ad lay.length) n xs s s.heap ∧ ad lay.length < s.heap.size ∧ ¬ A (ad lay.length)) ∧ cells ≤ R.cells ∧ slots ≤ R.slots ∧ d ≤ R.frames ∧ 41 * d ≤ R.locals
def Tk (lay : List SH) (nm : Nat → String) (TW : List Jvm.Cond) (NM : List NMT) (NF : List NFT) (G : Nat → Option MT) (pf : List PFT) (pm : List PMT) (pk : List PKT) : Prop :=
  (∀ q ∈ pf, FldP nm TW NF q) ∧ (∀ q ∈ pm, MthP nm TW NM G q) ∧ (∀ q ∈ pk, CstP nm TW q) ∧ ClOk TW ∧ LayOk lay ∧ (∀ w ∈ TW, goodWord w = true) ∧ (∀ id mt, G id = some mt → MtP nm TW mt ∧ ∀ x ∈ mt.2.2.2.2.2.2.2, eok pf pm pk mt.1 mt.2.2.1 x = true)
def wsM (TW : List Jvm.Cond) (mt : MT) : List Jvm.Cond := Jvm.Cond.code mt.2.1 mt.2.2.1 mt.2.2.2.1 (rty mt.2.2.2.2.1) :: TW
def rmm (d : Nat) : Room := { frames := d - 1, cells := 0, slots := 0, locals := 41 * (d - 1) }
def PreU (D : va_G) (cI cL : ClassId) (lay : List SH) (NM : List NMT) (NF : List NFT) (ad : Nat → Nat) (M : PM) (sz : Nat) (U : State) : Prop :=
  U.heap.size = sz ∧ va_P D vwCl (wld cI cL ad lay M) U.heap ∧ va_K D vwCl [(cI, .int), (cL, .long)] U ∧ va_D (fun _ => True) (wld cI cL ad lay M) ∧ (∀ q ∈ NM, va_Nw (.methodLinkNest q.1 q.2.1 q.2.2.1 q.2.2.2) U) ∧ (∀ q ∈ NF, va_Nw (.fieldLinkNest q.1 q.2.1 q.2.2.1 q.2.2.2.1 q.2.2.2.2.1 q.2.2.2.2.2) U)
def PostU (D : va_G) (cI cL : ClassId) (lay : List SH) (ad : Nat → Nat) (A : Nat → Prop) (M : PM) (t : State) : Prop :=
  va_P D vwCl (wld cI cL ad lay M) t.heap ∧ va_K D vwCl [(cI, .int), (cL, .long)] t ∧ va_D A (wld cI cL ad lay M)
def QcM (D : va_G) (cI cL : ClassId) (lay : List SH) (ad : Nat → Nat) (A : Nat → Prop) (r : Option Value × PM) : Array Value → State → Outcome → State → Prop := match r with
  | (none, M') => va_Qv (fun M2 : PM => M2 = M') (PostU D cI cL lay ad A) A
  | (some (.int x), M') => va_Qi (fun r2 (M2 : PM) => r2 = x ∧ M2 = M') (PostU D cI cL lay ad A) A
  | (some (.long x), M') => va_Ql (fun r2 (M2 : PM) => r2 = x ∧ M2 = M') (PostU D cI cL lay ad A) A
  | _ => fun _ _ _ _ => False
def MetAll (l : Launch) (D : va_G) (cI cL : ClassId) (lay : List SH) (TW : List Jvm.Cond) (NM : List NMT) (NF : List NFT) (G : Nat → Option MT) (d : Nat) : Prop :=
  ∀ id mt vs M r, 3 ≤ id → G id = some mt → pcl G lay d id vs M = some r → ∀ ad sz, Met l mt.2.1 (wsM TW mt) (rmm d) (va_Pc (vs.map (up ad)) (PreU D cI cL lay NM NF ad M sz)) (QcM D cI cL lay ad (va_A (wld cI cL ad lay M) sz) r) 0 0 (va_A (wld cI cL ad lay M) sz)
theorem nxt_inj {pc : Nat} {L : LC} {st : List Value} {M : PM} {q : PQ} (h : nxt pc L st M = .inr q) : q = (pc, L, st, M) := (Sum.inr.inj h).symm
theorem stk_no {q : PQ} (h : stk = .inr q) : False := by cases h
theorem ofo_inv {α : Type} {o : Option α} {k : α → SR} {q : PQ} (h : ofo o k = .inr q) : ∃ x, o = some x ∧ k x = .inr q := by
  cases o with
  | none => exact (stk_no h).elim
  | some x => exact ⟨x, rfl, h⟩
