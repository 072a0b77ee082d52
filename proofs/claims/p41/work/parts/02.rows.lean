/-! THE PURE MACHINE: an interpreter over a memory of numbers, with virtual addresses -/
abbrev PM : Type := (Nat → Nat → Int32) × (Nat → Nat → Int64)
abbrev PO : Type := Option (Option Value × PM)
/-- a cell's shape: an object (its class, its fields' kinds: 0 int, 1 boolean, 2 a reference that changes, k + 3 the cell k) or an array (of longs?, its length) -/
abbrev SH : Type := (Nat × List Nat) ⊕ (Bool × Nat)
/-- a row of code: place, instruction, place behind, what it is linked to (two numbers), a constant, targets -/
abbrev XE : Type := Nat × Instr × Nat × Nat × Nat × Int × List Nat
/-- a method: class, name, bytes, locals, kind of result (0 none, 1 int, 2 boolean, 3 long), static?, parameters, code -/
abbrev MT : Type := Nat × MethodName × ByteArray × Nat × Nat × Bool × Nat × List XE
abbrev LC : Type := List (Option Value)
abbrev PQ : Type := Nat × LC × List Value × PM
abbrev SR : Type := PO ⊕ PQ
/-! LINKS: what a row of code is linked to, by small lists whose words the tables hold -/
def rty : Nat → Option FieldType
  | 0 => none
  | 1 => some .int
  | 2 => some .boolean
  | _ => some .long
def kty : Nat → FieldType
  | 0 => .int
  | 1 => .boolean
  | _ => .array .int
abbrev NFT : Type := String × Nat × String × String × String × String
abbrev NMT : Type := String × Nat × MethodName × String
abbrev PFT : Type := Nat × Nat × Nat × Nat
abbrev PMT : Type := Nat × Nat × Nat × Bool × Nat × Nat × Nat
abbrev PKT : Type := Nat × Nat × Bool × Int
def ClOk (TW : List Jvm.Cond) : Prop := ∀ (ci : Nat) (C : String) (T : u_T) (N : Nat), vwCl[ci]? = some (C, T, N) → (∀ w ∈ u_ws C T N, w ∈ TW) ∧ (∀ a, a < N → ∀ b, b < N → a ≠ b → (T a).2.1 ≠ (T b).2.1) ∧ ∃ ty : Nat → FieldType, ∀ k, k < N → parseFieldDescriptor (T k).2.2.1 = some (ty k)
def LayOk (lay : List SH) : Prop := ∀ (k ci : Nat) (ks : List Nat), lay[k]? = some (.inl (ci, ks)) → ∃ (C : String) (T : u_T) (N : Nat), vwCl[ci]? = some (C, T, N) ∧ ks.length = N ∧ ∀ (j kd : Nat), ks[j]? = some kd → kd < 3 → (T j).2.2.2 = false ∧ parseFieldDescriptor (T j).2.2.1 = some (kty kd)
def FldP (nm : Nat → String) (TW : List Jvm.Cond) (NF : List NFT) (q : PFT) : Prop := ∃ (C : String) (T : u_T) (N : Nat), vwCl[q.2.2.1]? = some (C, T, N) ∧ q.2.2.2 < N ∧ (Jvm.Cond.fieldLink (nm q.1) q.2.1 (T q.2.2.2).1 (T q.2.2.2).2.1 (T q.2.2.2).2.2.1 ∈ TW ∨ ∃ host, (nm q.1, q.2.1, (T q.2.2.2).1, (T q.2.2.2).2.1, (T q.2.2.2).2.2.1, host) ∈ NF)
def MtP (nm : Nat → String) (TW : List Jvm.Cond) (mt : MT) : Prop := nm mt.1 = mt.2.1.cls ∧ plainName mt.2.1.cls = true ∧ (mt.2.1.cls ≠ "java/lang/invoke/MethodHandle" ∧ mt.2.1.cls ≠ "java/lang/invoke/VarHandle" ∧ (parseMethodDescriptor mt.2.1.desc).map (fun d => d.parameters.length) = some mt.2.2.2.2.2.2.1) ∧ mt.2.2.2.1 ≤ 22 ∧ Jvm.Cond.code mt.2.1 mt.2.2.1 mt.2.2.2.1 (rty mt.2.2.2.2.1) ∈ TW ∧ Jvm.Cond.initialized mt.2.1.cls ∈ TW ∧ (if mt.2.2.2.2.2.1 = true then Jvm.Cond.static mt.2.1 ∈ TW else Jvm.Cond.instanceMethod mt.2.1 ∈ TW ∧ Jvm.Cond.selects mt.2.1.cls mt.2.1 mt.2.1 ∈ TW)
def rk1 (k : Nat) : Nat := if k = 2 then 1 else k
/-- own, entry, callee, static?, how many on the stack, kind of result, the receiver's -/
def MthP (nm : Nat → String) (TW : List Jvm.Cond) (NM : List NMT) (G : Nat → Option MT) (q : PMT) : Prop :=
  if q.2.2.1 = 0 then q.2.2.2.1 = true ∧ q.2.2.2.2.1 = 5 ∧ q.2.2.2.2.2.1 = 0 ∧ Jvm.Cond.methodLink (nm q.1) q.2.1 arraycopyName ∈ TW ∧ Jvm.Cond.native arraycopyName ∈ TW ∧ Jvm.Cond.static arraycopyName ∈ TW ∧ Jvm.Cond.initialized "java/lang/System" ∈ TW
  else if q.2.2.1 = 1 then q.2.2.2.1 = true ∧ q.2.2.2.2.1 = 2 ∧ q.2.2.2.2.2.1 = 1 ∧ Jvm.Cond.methodLink (nm q.1) q.2.1 Lib.Math.max.name ∈ TW ∧ Jvm.Cond.static Lib.Math.max.name ∈ TW ∧ Jvm.Cond.initialized "java/lang/Math" ∈ TW ∧ Jvm.Cond.code Lib.Math.max.name Lib.Math.max.code 2 (some .int) ∈ TW
  else if q.2.2.1 = 2 then q.2.2.2.1 = true ∧ q.2.2.2.2.1 = 2 ∧ q.2.2.2.2.2.1 = 1 ∧ Jvm.Cond.methodLink (nm q.1) q.2.1 Lib.Math.min.name ∈ TW ∧ Jvm.Cond.static Lib.Math.min.name ∈ TW ∧ Jvm.Cond.initialized "java/lang/Math" ∈ TW ∧ Jvm.Cond.code Lib.Math.min.name Lib.Math.min.code 2 (some .int) ∈ TW
  else ∃ mt, G q.2.2.1 = some mt ∧ q.2.2.2.1 = mt.2.2.2.2.2.1 ∧ q.2.2.2.2.2.1 = rk1 mt.2.2.2.2.1 ∧ (Jvm.Cond.methodLink (nm q.1) q.2.1 mt.2.1 ∈ TW ∨ ∃ host, (nm q.1, q.2.1, mt.2.1, host) ∈ NM) ∧ (if mt.2.2.2.2.2.1 = true then q.2.2.2.2.1 = mt.2.2.2.2.2.2.1 else q.2.2.2.2.1 = mt.2.2.2.2.2.2.1 + 1 ∧ ∃ (T : u_T) (N : Nat), vwCl[q.2.2.2.2.2.2]? = some (mt.2.1.cls, T, N))
def CstP (nm : Nat → String) (TW : List Jvm.Cond) (q : PKT) : Prop := if q.2.2.1 = true then Jvm.Cond.constantLong (nm q.1) q.2.1 (Int64.ofInt q.2.2.2) ∈ TW else Jvm.Cond.constant (nm q.1) q.2.1 (Int32.ofInt q.2.2.2) ∈ TW
def ilen : Instr → Nat
  | .aload _ => 2
  | .iload _ => 2
  | .lload _ => 2
  | .istore _ => 2
  | .lstore _ => 2
  | .bipush _ => 2
  | .ldc _ => 2
  | .ldc_w _ => 3
  | .ldc2_w _ => 3
  | .sipush _ => 3
  | .iinc _ _ => 3
  | .goto _ => 3
  | .ifCond _ _ => 3
  | .if_icmp _ _ => 3
  | .getfield _ => 3
  | .putfield _ => 3
  | .invokestatic _ => 3
  | .invokevirtual _ => 3
  | .tableswitch _ _ _ _ => 0
  | _ => 1
def lnk (pf : List PFT) (pm : List PMT) (pk : List PKT) (o : Nat) (x : XE) : Bool := match x with
  | (pc, i, _, r1, r2, c, ts) => match i with
    | .ldc ix => pk.contains (o, ix, false, c)
    | .ldc_w ix => pk.contains (o, ix, false, c)
    | .ldc2_w ix => pk.contains (o, ix, true, c)
    | .goto off => decide ((pc : Int) + off = (r1 : Int))
    | .ifCond _ off => decide ((pc : Int) + off = (r1 : Int))
    | .if_icmp _ off => decide ((pc : Int) + off = (r1 : Int))
    | .tableswitch dflt lo hi offs => decide ((pc : Int) + dflt = (r1 : Int)) && (decide (offs.toList.map (fun o => (pc : Int) + o) = ts.map Int.ofNat) && decide (hi = lo + (ts.length : Int) - 1))
    | .getfield ix => pf.contains (o, ix, r1, r2)
    | .putfield ix => pf.contains (o, ix, r1, r2)
    | .invokestatic ix => pm.contains (o, ix, r1, true, r2, ts.getD 0 0, ts.getD 1 0)
    | .invokevirtual ix => pm.contains (o, ix, r1, false, r2, ts.getD 0 0, ts.getD 1 0)
    | _ => true
def eok (pf : List PFT) (pm : List PMT) (pk : List PKT) (o : Nat) (bytes : ByteArray) (x : XE) : Bool :=
  decide (decode bytes x.1 = .ok (x.2.1, x.2.2.1 - x.1)) && ((ilen x.2.1 == 0 || x.2.2.1 == x.1 + ilen x.2.1) && lnk pf pm pk o x)
theorem eok_spec {pf : List PFT} {pm : List PMT} {pk : List PKT} {o : Nat} {bytes : ByteArray} {x : XE} (h : eok pf pm pk o bytes x = true) : decode bytes x.1 = .ok (x.2.1, x.2.2.1 - x.1) ∧ (ilen x.2.1 = 0 ∨ x.2.2.1 = x.1 + ilen x.2.1) ∧ lnk pf pm pk o x = true := by
  unfold eok at h
  simp only [Bool.and_eq_true, decide_eq_true_eq, Bool.or_eq_true, beq_iff_eq] at h
  exact ⟨h.1, h.2.1, h.2.2⟩
