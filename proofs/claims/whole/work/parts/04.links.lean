/-! LINKS: what a row of code is linked to, by small lists whose words the tables hold -/
def rty : Nat → Option FieldType
  | 0 => none
  | 1 => some .int
  | 2 => some .boolean
  | _ => some .long
def kty : Nat → FieldType
  | 0 => .int
  | 1 => .boolean
  | _ => .array .int
abbrev NFT : Type := String × Nat × String × String × String × String
abbrev NMT : Type := String × Nat × MethodName × String
abbrev PFT : Type := Nat × Nat × Nat × Nat
abbrev PMT : Type := Nat × Nat × Nat × Bool × Nat × Nat × Nat
abbrev PKT : Type := Nat × Nat × Bool × Int
def ClOk (TW : List Jvm.Cond) : Prop := ∀ (ci : Nat) (C : String) (T : u_T) (N : Nat), vwCl[ci]? = some (C, T, N) → (∀ w ∈ u_ws C T N, w ∈ TW) ∧ (∀ a, a < N → ∀ b, b < N → a ≠ b → (T a).2.1 ≠ (T b).2.1) ∧ ∃ ty : Nat → FieldType, ∀ k, k < N → parseFieldDescriptor (T k).2.2.1 = some (ty k)
def LayOk (lay : List SH) : Prop := ∀ (k ci : Nat) (ks : List Nat), lay[k]? = some (.inl (ci, ks)) → ∃ (C : String) (T : u_T) (N : Nat), vwCl[ci]? = some (C, T, N) ∧ ks.length = N ∧ ∀ (j kd : Nat), ks[j]? = some kd → kd < 3 → (T j).2.2.2 = false ∧ parseFieldDescriptor (T j).2.2.1 = some (kty kd)
def FldP (nm : Nat → String) (TW : List Jvm.Cond) (NF : List NFT) (q : PFT) : Prop := ∃ (C : String) (T : u_T) (N : Nat), vwCl[q.2.2.1]? = some (C, T, N) ∧ q.2.2.2 < N ∧ (Jvm.Cond.fieldLink (nm q.1) q.2.1 (T q.2.2.2).1 (T q.2.2.2).2.1 (T q.2.2.2).2.2.1 ∈ TW ∨ ∃ host, (nm q.1, q.2.1, (T q.2.2.2).1, (T q.2.2.2).2.1, (T q.2.2.2).2.2.1, host) ∈ NF)
def MtP (nm : Nat → String) (TW : List Jvm.Cond) (mt : MT) : Prop := nm mt.1 = mt.2.1.cls ∧ plainName mt.2.1.cls = true ∧ (mt.2.1.cls ≠ "java/lang/invoke/MethodHandle" ∧ mt.2.1.cls ≠ "java/lang/invoke/VarHandle" ∧ (parseMethodDescriptor mt.2.1.desc).map (fun d => d.parameters.length) = some mt.2.2.2.2.2.2.1) ∧ mt.2.2.2.1 ≤ 22 ∧ Jvm.Cond.code mt.2.1 mt.2.2.1 mt.2.2.2.1 (rty mt.2.2.2.2.1) ∈ TW ∧ Jvm.Cond.initialized mt.2.1.cls ∈ TW ∧ (if mt.2.2.2.2.2.1 = true then Jvm.Cond.static mt.2.1 ∈ TW else Jvm.Cond.instanceMethod mt.2.1 ∈ TW ∧ Jvm.Cond.selects mt.2.1.cls mt.2.1 mt.2.1 ∈ TW)
def rk1 (k : Nat) : Nat := if k = 2 then 1 else k
/-- own, entry, callee, static?, how many on the stack, kind of result, the receiver's -/
def MthP (nm : Nat → String) (TW : List Jvm.Cond) (NM : List NMT) (G : Nat → Option MT) (q : PMT) : Prop :=
  if q.2.2.1 = 0 then q.2.2.2.1 = true ∧ q.2.2.2.2.1 = 5 ∧ q.2.2.2.2.2.1 = 0 ∧ Jvm.Cond.methodLink (nm q.1) q.2.1 arraycopyName ∈ TW ∧ Jvm.Cond.native arraycopyName ∈ TW ∧ Jvm.Cond.static arraycopyName ∈ TW ∧ Jvm.Cond.initialized "java/lang/System" ∈ TW
  else ∃ mt, G q.2.2.1 = some mt ∧ q.2.2.2.1 = mt.2.2.2.2.2.1 ∧ q.2.2.2.2.2.1 = rk1 mt.2.2.2.2.1 ∧ (Jvm.Cond.methodLink (nm q.1) q.2.1 mt.2.1 ∈ TW ∨ ∃ host, (nm q.1, q.2.1, mt.2.1, host) ∈ NM) ∧ (if mt.2.2.2.2.2.1 = true then q.2.2.2.2.1 = mt.2.2.2.2.2.2.1 else q.2.2.2.2.1 = mt.2.2.2.2.2.2.1 + 1 ∧ ∃ (T : u_T) (N : Nat), vwCl[q.2.2.2.2.2.2]? = some (mt.2.1.cls, T, N))
def CstP (nm : Nat → String) (TW : List Jvm.Cond) (q : PKT) : Prop := if q.2.2.1 = true then Jvm.Cond.constantLong (nm q.1) q.2.1 (Int64.ofInt q.2.2.2) ∈ TW else Jvm.Cond.constant (nm q.1) q.2.1 (Int32.ofInt q.2.2.2) ∈ TW
def ilen : Instr → Nat
  | .aload _ => 2
  | .iload _ => 2
  | .lload _ => 2
  | .istore _ => 2
  | .lstore _ => 2
  | .bipush _ => 2
  | .ldc _ => 2
  | .ldc_w _ => 3
  | .ldc2_w _ => 3
  | .sipush _ => 3
  | .iinc _ _ => 3
  | .goto _ => 3
  | .ifCond _ _ => 3
  | .if_icmp _ _ => 3
  | .getfield _ => 3
  | .putfield _ => 3
  | .invokestatic _ => 3
  | .invokevirtual _ => 3
  | .tableswitch _ _ _ _ => 0
  | _ => 1
def lnk (pf : List PFT) (pm : List PMT) (pk : List PKT) (o : Nat) (x : XE) : Bool := match x with
  | (pc, i, _, r1, r2, c, ts) => match i with
    | .ldc ix => pk.contains (o, ix, false, c)
    | .ldc_w ix => pk.contains (o, ix, false, c)
    | .ldc2_w ix => pk.contains (o, ix, true, c)
    | .goto off => decide ((pc : Int) + off = (r1 : Int))
    | .ifCond _ off => decide ((pc : Int) + off = (r1 : Int))
    | .if_icmp _ off => decide ((pc : Int) + off = (r1 : Int))
    | .tableswitch dflt lo hi offs => decide ((pc : Int) + dflt = (r1 : Int)) && (decide (offs.toList.map (fun o => (pc : Int) + o) = ts.map Int.ofNat) && decide (hi = lo + (ts.length : Int) - 1))
    | .getfield ix => pf.contains (o, ix, r1, r2)
    | .putfield ix => pf.contains (o, ix, r1, r2)
    | .invokestatic ix => pm.contains (o, ix, r1, true, r2, ts.getD 0 0, ts.getD 1 0)
    | .invokevirtual ix => pm.contains (o, ix, r1, false, r2, ts.getD 0 0, ts.getD 1 0)
    | _ => true
def eok (pf : List PFT) (pm : List PMT) (pk : List PKT) (o : Nat) (bytes : ByteArray) (x : XE) : Bool :=
  decide (decode bytes x.1 = .ok (x.2.1, x.2.2.1 - x.1)) && ((ilen x.2.1 == 0 || x.2.2.1 == x.1 + ilen x.2.1) && lnk pf pm pk o x)
theorem eok_spec {pf : List PFT} {pm : List PMT} {pk : List PKT} {o : Nat} {bytes : ByteArray} {x : XE} (h : eok pf pm pk o bytes x = true) : decode bytes x.1 = .ok (x.2.1, x.2.2.1 - x.1) ∧ (ilen x.2.1 = 0 ∨ x.2.2.1 = x.1 + ilen x.2.1) ∧ lnk pf pm pk o x = true := by
  unfold eok at h
  simp only [Bool.and_eq_true, decide_eq_true_eq, Bool.or_eq_true, beq_iff_eq] at h
  exact ⟨h.1, h.2.1, h.2.2⟩
theorem swch_in (x : Int32) (d : Nat) : ∀ (ts : List Nat) (lo : Int), ¬ x.toInt < lo → x.toInt < lo + (ts.length : Int) → ts[(x.toInt - lo).toNat]? = some (swch x d lo ts) := by
  intro ts
  induction ts with
  | nil => intro lo h1 h2; simp at h2; omega
  | cons t ts ih =>
    intro lo h1 h2
    unfold swch
    by_cases hx : x.toInt = lo
    · rw [if_pos hx, hx]; simp
    · rw [if_neg hx]
      have h3 := ih (lo + 1) (by omega) (by simp at h2; omega)
      rw [← h3]
      have e : (x.toInt - lo).toNat = (x.toInt - (lo + 1)).toNat + 1 := by omega
      rw [e]
      simp
theorem swch_out (x : Int32) (d : Nat) : ∀ (ts : List Nat) (lo : Int), (x.toInt < lo ∨ lo + (ts.length : Int) ≤ x.toInt) → swch x d lo ts = d := by
  intro ts
  induction ts with
  | nil => intro lo _; rfl
  | cons t ts ih =>
    intro lo h
    unfold swch
    rw [if_neg (by simp at h; omega)]
    exact ih (lo + 1) (by simp at h; omega)
/-- what holds all through a method's body -/
def Fx (lay : List SH) (d : Nat) (nm : Nat → String) (TW : List Jvm.Cond) (NM : List NMT) (NF : List NFT) (o : Nat) (bytes : ByteArray) (maxL : Nat) (p : Program) (s : State) (m : MethodId) (args : Array Value) (c : Code) (R : Room) (cells slots : Nat) (A : Nat → Prop) (cI cL : ClassId) (D : va_G) (sc : Option (Nat × (Nat → Int32))) (ad : Nat → Nat) : Prop :=
  p.tables.exec = Jvm.exec ∧ c.code = bytes ∧ c.maxLocals = maxL ∧ s.vm.findClass (nm o) = some m.cls ∧ (∀ w ∈ TW, w.before args s = true) ∧ (∀ q ∈ NM, va_Nw (.methodLinkNest q.1 q.2.1 q.2.2.1 q.2.2.2) s) ∧ (∀ q ∈ NF, va_Nw (.fieldLinkNest q.1 q.2.1 q.2.2.1 q.2.2.2.1 q.2.2.2.2.1 q.2.2.2.2.2) s) ∧ va_K D vwCl [(cI, .int), (cL, .long)] s ∧ (∀ q, s.heap.size ≤ q → A q) ∧
  (∀ n xs, sc = some (n, xs) → va_X (ad lay.length) n xs s s.heap ∧ ad lay.length < s.heap.size ∧ ¬ A (ad lay.length)) ∧ cells ≤ R.cells ∧ slots ≤ R.slots ∧ d ≤ R.frames ∧ 41 * d ≤ R.locals
def Tk (lay : List SH) (nm : Nat → String) (TW : List Jvm.Cond) (NM : List NMT) (NF : List NFT) (G : Nat → Option MT) (pf : List PFT) (pm : List PMT) (pk : List PKT) : Prop :=
  (∀ q ∈ pf, FldP nm TW NF q) ∧ (∀ q ∈ pm, MthP nm TW NM G q) ∧ (∀ q ∈ pk, CstP nm TW q) ∧ ClOk TW ∧ LayOk lay ∧ (∀ w ∈ TW, goodWord w = true) ∧ (∀ id mt, G id = some mt → MtP nm TW mt ∧ ∀ x ∈ mt.2.2.2.2.2.2.2, eok pf pm pk mt.1 mt.2.2.1 x = true)
def wsM (TW : List Jvm.Cond) (mt : MT) : List Jvm.Cond := Jvm.Cond.code mt.2.1 mt.2.2.1 mt.2.2.2.1 (rty mt.2.2.2.2.1) :: TW
def rmm (d : Nat) : Room := { frames := d - 1, cells := 0, slots := 0, locals := 41 * (d - 1) }
def PreU (D : va_G) (cI cL : ClassId) (lay : List SH) (NM : List NMT) (NF : List NFT) (ad : Nat → Nat) (M : PM) (sz : Nat) (U : State) : Prop :=
  U.heap.size = sz ∧ va_P D vwCl (wld cI cL ad lay M) U.heap ∧ va_K D vwCl [(cI, .int), (cL, .long)] U ∧ va_D (fun _ => True) (wld cI cL ad lay M) ∧ (∀ q ∈ NM, va_Nw (.methodLinkNest q.1 q.2.1 q.2.2.1 q.2.2.2) U) ∧ (∀ q ∈ NF, va_Nw (.fieldLinkNest q.1 q.2.1 q.2.2.1 q.2.2.2.1 q.2.2.2.2.1 q.2.2.2.2.2) U)
def PostU (D : va_G) (cI cL : ClassId) (lay : List SH) (ad : Nat → Nat) (A : Nat → Prop) (M : PM) (t : State) : Prop :=
  va_P D vwCl (wld cI cL ad lay M) t.heap ∧ va_K D vwCl [(cI, .int), (cL, .long)] t ∧ va_D A (wld cI cL ad lay M)
def QcM (D : va_G) (cI cL : ClassId) (lay : List SH) (ad : Nat → Nat) (A : Nat → Prop) (r : Option Value × PM) : Array Value → State → Outcome → State → Prop := match r with
  | (none, M') => va_Qv (fun M2 : PM => M2 = M') (PostU D cI cL lay ad A) A
  | (some (.int x), M') => va_Qi (fun r2 (M2 : PM) => r2 = x ∧ M2 = M') (PostU D cI cL lay ad A) A
  | (some (.long x), M') => va_Ql (fun r2 (M2 : PM) => r2 = x ∧ M2 = M') (PostU D cI cL lay ad A) A
  | _ => fun _ _ _ _ => False
def MetAll (l : Launch) (D : va_G) (cI cL : ClassId) (lay : List SH) (TW : List Jvm.Cond) (NM : List NMT) (NF : List NFT) (G : Nat → Option MT) (d : Nat) : Prop :=
  ∀ id mt vs M r, id ≠ 0 → G id = some mt → pcl G lay d id vs M = some r → ∀ ad sz, Met l mt.2.1 (wsM TW mt) (rmm d) (va_Pc (vs.map (up ad)) (PreU D cI cL lay NM NF ad M sz)) (QcM D cI cL lay ad (va_A (wld cI cL ad lay M) sz) r) 0 0 (va_A (wld cI cL ad lay M) sz)
theorem nxt_inj {pc : Nat} {L : LC} {st : List Value} {M : PM} {q : PQ} (h : nxt pc L st M = .inr q) : q = (pc, L, st, M) := (Sum.inr.inj h).symm
theorem stk_no {q : PQ} (h : stk = .inr q) : False := by cases h
theorem ofo_inv {α : Type} {o : Option α} {k : α → SR} {q : PQ} (h : ofo o k = .inr q) : ∃ x, o = some x ∧ k x = .inr q := by
  cases o with
  | none => exact (stk_no h).elim
  | some x => exact ⟨x, rfl, h⟩
