def sI (M : PM) (k : Nat) (f : Nat → Int32) : PM := (fun a => if a = k then f else M.1 a, M.2)
def sL (M : PM) (k : Nat) (f : Nat → Int64) : PM := (M.1, fun a => if a = k then f else M.2 a)
def lcg (L : LC) (i : Nat) : Option Value := (L[i]?).join
/-- a long stands at a place only while nothing stands behind it -/
def lcv (L : LC) (i : Nat) : Option Value := match lcg L i with
  | some v => if v.category = 2 then (if (lcg L (i + 1)).isNone = true then some v else none) else some v
  | none => none
def lcs1 (L : LC) (i : Nat) (v : Value) : LC := L.set i (some v)
def lcs2 (L : LC) (i : Nat) (v : Value) : LC := (L.set i (some v)).set (i + 1) none
def entl : List Value → LC
  | [] => []
  | v :: vs => if v.category = 2 then some v :: none :: entl vs else some v :: entl vs
def ent (n : Nat) (vs : List Value) : LC := entl vs ++ List.replicate (n - (entl vs).length) none
def cs (st : List Value) : Nat := (st.map fun v => v.category).sum
def inb (i : Int32) (n : Nat) : Bool := !(decide (i < 0) || decide (n ≤ i.toNatClampNeg))
theorem inb_iff (i : Int32) (n : Nat) : inb i n = true ↔ vp_in i n := by
  unfold inb vp_in
  simp
def nxt (pc : Nat) (L : LC) (st : List Value) (M : PM) : SR := .inr (pc, L, st, M)
def stk : SR := .inl none
def swch (x : Int32) (dflt : Nat) : Int → List Nat → Nat
  | _, [] => dflt
  | lo, t :: ts => if x.toInt = lo then t else swch x dflt (lo + 1) ts
def getf (lay : List SH) (M : PM) (k ci j : Nat) : Option Value := match lay[k]? with
  | some (.inl (c, ks)) => if c = ci then (match ks[j]? with
    | some 0 => some (.int (M.1 k j))
    | some 1 => some (.int (M.1 k j))
    | some 2 => if M.1 k j < 0 then none else some (.ref (M.1 k j).toNatClampNeg)
    | some (t + 3) => some (.ref t)
    | none => none) else none
  | _ => none
def putf (lay : List SH) (M : PM) (k ci j : Nat) (v : Value) : Option PM := match lay[k]? with
  | some (.inl (c, ks)) => if c = ci then (match ks[j]?, v with
    | some 0, .int x => some (sI M k (va_up (M.1 k) j x))
    | some 1, .int x => if x = 0 ∨ x = 1 then some (sI M k (va_up (M.1 k) j x)) else none
    | some 2, .ref t => if t < 1000 then some (sI M k (va_up (M.1 k) j (Int32.ofNat t))) else none
    | _, _ => none) else none
  | _ => none
def aldI (lay : List SH) (sc : Option (Nat × (Nat → Int32))) (M : PM) (a : Nat) (i : Int32) : Option Int32 := match lay[a]? with
  | some (.inr (false, n)) => if inb i n then some (M.1 a i.toNatClampNeg) else none
  | none => (match sc with
    | some (n, xs) => if a = lay.length then (if inb i n then some (xs i.toNatClampNeg) else none) else none
    | none => none)
  | _ => none
def aldL (lay : List SH) (M : PM) (a : Nat) (i : Int32) : Option Int64 := match lay[a]? with
  | some (.inr (true, n)) => if inb i n then some (M.2 a i.toNatClampNeg) else none
  | _ => none
def astI (lay : List SH) (M : PM) (a : Nat) (i x : Int32) : Option PM := match lay[a]? with
  | some (.inr (false, n)) => if inb i n then some (sI M a (va_up (M.1 a) i.toNatClampNeg x)) else none
  | _ => none
def astL (lay : List SH) (M : PM) (a : Nat) (i : Int32) (x : Int64) : Option PM := match lay[a]? with
  | some (.inr (true, n)) => if inb i n then some (sL M a (va_up (M.2 a) i.toNatClampNeg x)) else none
  | _ => none
def alen (lay : List SH) (sc : Option (Nat × (Nat → Int32))) (a : Nat) : Option Int32 := match lay[a]? with
  | some (.inr (_, n)) => some (Int32.ofNat n)
  | none => (match sc with
    | some (n, _) => if a = lay.length then some (Int32.ofNat n) else none
    | none => none)
  | _ => none
/-- System.arraycopy of ints between two arrays -/
def acpy (lay : List SH) (M : PM) (vs : List Value) : PO := match vs with
  | [.ref a, .int sp, .ref b, .int dp, .int n] => (match lay[a]?, lay[b]? with
    | some (.inr (false, na)), some (.inr (false, nb)) => if sp < 0 ∨ dp < 0 ∨ n < 0 ∨ na < sp.toNatClampNeg + n.toNatClampNeg ∨ nb < dp.toNatClampNeg + n.toNatClampNeg then none
      else some (none, sI M b (va_cpy (M.1 a) (M.1 b) sp.toNatClampNeg dp.toNatClampNeg n.toNatClampNeg))
    | _, _ => none)
  | _ => none
/-- what isn't walked: arraycopy, max, min -/
def nat3 (lay : List SH) (M : PM) (id : Nat) (vs : List Value) : PO := match id with
  | 0 => acpy lay M vs
  | 1 => (match vs with
    | [.int x, .int y] => some (some (.int (if x < y then y else x)), M)
    | _ => none)
  | _ => (match vs with
    | [.int x, .int y] => some (some (.int (if y < x then y else x)), M)
    | _ => none)
def icond (c : ClassFile.Cond) (x y : Int32) : Bool := match c with
  | .eq => decide (x = y)
  | .ne => decide (¬ x = y)
  | .lt => decide (x < y)
  | .ge => decide (y ≤ x)
  | .gt => decide (y < x)
  | .le => decide (x ≤ y)
def calr (o : PO) (k : Nat) (nx : Nat) (L : LC) (st : List Value) : SR := match k with
  | 0 => (match o with
    | some (none, M) => nxt nx L st M
    | _ => stk)
  | 3 => (match o with
    | some (some (.long r), M) => nxt nx L (.long r :: st) M
    | _ => stk)
  | _ => (match o with
    | some (some (.int r), M) => nxt nx L (.int r :: st) M
    | _ => stk)
def ofo {α : Type} (o : Option α) (k : α → SR) : SR := match o with
  | some x => k x
  | none => stk
/-- the receiver is an object of the class -/
def isob (lay : List SH) (v : Option Value) (ci : Nat) : Bool := match v with
  | some (.ref k) => (match lay[k]? with
    | some (.inl (c, _)) => c == ci
    | _ => false)
  | _ => false
def stp (lay : List SH) (sc : Option (Nat × (Nat → Int32))) (cl : Nat → List Value → PM → PO) (rk : Nat) (x : XE) (L : LC) (st : List Value) (M : PM) : SR :=
  match x with
  | (_, i, nx, r1, r2, c, ts) => match i with
    | .aload n => (match lcg L n with | some (.ref a) => nxt nx L (.ref a :: st) M | _ => stk)
    | .aload_n n => (match lcg L n.val with | some (.ref a) => nxt nx L (.ref a :: st) M | _ => stk)
    | .iload n => (match lcg L n with | some (.int a) => nxt nx L (.int a :: st) M | _ => stk)
    | .iload_n n => (match lcg L n.val with | some (.int a) => nxt nx L (.int a :: st) M | _ => stk)
    | .lload n => (match lcg L n with | some (.long a) => if (lcg L (n + 1)).isNone = true then nxt nx L (.long a :: st) M else stk | _ => stk)
    | .lload_n n => (match lcg L n.val with | some (.long a) => if (lcg L (n.val + 1)).isNone = true then nxt nx L (.long a :: st) M else stk | _ => stk)
    | .iconst n => nxt nx L (.int (Int32.ofInt n) :: st) M
    | .bipush n => nxt nx L (.int (Int8.ofInt n).toInt32 :: st) M
    | .sipush n => nxt nx L (.int (Int16.ofInt n).toInt32 :: st) M
    | .lconst n => nxt nx L (.long (Int64.ofNat n.val) :: st) M
    | .ldc _ => nxt nx L (.int (Int32.ofInt c) :: st) M
    | .ldc_w _ => nxt nx L (.int (Int32.ofInt c) :: st) M
    | .ldc2_w _ => nxt nx L (.long (Int64.ofInt c) :: st) M
    | .istore n => (match st with | .int a :: st => if n < L.length then nxt nx (lcs1 L n (.int a)) st M else stk | _ => stk)
    | .istore_n n => (match st with | .int a :: st => if n.val < L.length then nxt nx (lcs1 L n.val (.int a)) st M else stk | _ => stk)
    | .lstore n => (match st with | .long a :: st => if n + 1 < L.length then nxt nx (lcs2 L n (.long a)) st M else stk | _ => stk)
    | .lstore_n n => (match st with | .long a :: st => if n.val + 1 < L.length then nxt nx (lcs2 L n.val (.long a)) st M else stk | _ => stk)
    | .iinc n k => (match lcg L n with | some (.int a) => if n < L.length then nxt nx (lcs1 L n (.int (a + Int32.ofInt k))) st M else stk | _ => stk)
    | .pop => (match st with | a :: st => if a.category = 1 then nxt nx L st M else stk | _ => stk)
    | .dup => (match st with | a :: st => if a.category = 1 then nxt nx L (a :: a :: st) M else stk | _ => stk)
    | .dup_x1 => (match st with | a :: b :: st => if a.category = 1 ∧ b.category = 1 then nxt nx L (a :: b :: a :: st) M else stk | _ => stk)
    | .dup_x2 => (match st with | a :: b :: e :: st => if a.category = 1 ∧ b.category = 1 ∧ e.category = 1 then nxt nx L (a :: b :: e :: a :: st) M else stk | _ => stk)
    | .dup2 => (match st with | a :: b :: st => if a.category = 1 ∧ b.category = 1 then nxt nx L (a :: b :: a :: b :: st) M else stk | _ => stk)
    | .iadd => (match st with | .int b :: .int a :: st => nxt nx L (.int (a + b) :: st) M | _ => stk)
    | .isub => (match st with | .int b :: .int a :: st => nxt nx L (.int (a - b) :: st) M | _ => stk)
    | .imul => (match st with | .int b :: .int a :: st => nxt nx L (.int (a * b) :: st) M | _ => stk)
    | .irem => (match st with | .int b :: .int a :: st => if b = 0 then stk else nxt nx L (.int (a - a / b * b) :: st) M | _ => stk)
    | .ineg => (match st with | .int a :: st => nxt nx L (.int (-a) :: st) M | _ => stk)
    | .iand => (match st with | .int b :: .int a :: st => nxt nx L (.int (a &&& b) :: st) M | _ => stk)
    | .ior => (match st with | .int b :: .int a :: st => nxt nx L (.int (a ||| b) :: st) M | _ => stk)
    | .ixor => (match st with | .int b :: .int a :: st => nxt nx L (.int (a ^^^ b) :: st) M | _ => stk)
    | .ishl => (match st with | .int b :: .int a :: st => nxt nx L (.int (a <<< (b &&& 31)) :: st) M | _ => stk)
    | .ishr => (match st with | .int b :: .int a :: st => nxt nx L (.int (a >>> (b &&& 31)) :: st) M | _ => stk)
    | .iushr => (match st with | .int b :: .int a :: st => nxt nx L (.int (a.toUInt32 >>> (b.toUInt32 &&& Int32.toUInt32 31)).toInt32 :: st) M | _ => stk)
    | .ladd => (match st with | .long b :: .long a :: st => nxt nx L (.long (a + b) :: st) M | _ => stk)
    | .lmul => (match st with | .long b :: .long a :: st => nxt nx L (.long (a * b) :: st) M | _ => stk)
    | .land => (match st with | .long b :: .long a :: st => nxt nx L (.long (a &&& b) :: st) M | _ => stk)
    | .lor => (match st with | .long b :: .long a :: st => nxt nx L (.long (a ||| b) :: st) M | _ => stk)
    | .lshl => (match st with | .int b :: .long a :: st => nxt nx L (.long (a <<< (b.toInt64 &&& 63)) :: st) M | _ => stk)
    | .lshr => (match st with | .int b :: .long a :: st => nxt nx L (.long (a >>> (b.toInt64 &&& 63)) :: st) M | _ => stk)
    | .lcmp => (match st with | .long b :: .long a :: st => nxt nx L (.int (lg_cmp a b) :: st) M | _ => stk)
    | .i2l => (match st with | .int a :: st => nxt nx L (.long a.toInt64 :: st) M | _ => stk)
    | .l2i => (match st with | .long a :: st => nxt nx L (.int a.toInt32 :: st) M | _ => stk)
    | .i2b => (match st with | .int a :: st => nxt nx L (.int a.toInt8.toInt32 :: st) M | _ => stk)
    | .i2s => (match st with | .int a :: st => nxt nx L (.int a.toInt16.toInt32 :: st) M | _ => stk)
    | .goto _ => nxt r1 L st M
    | .ifCond cc _ => (match st with | .int a :: st => if icond cc a 0 then nxt r1 L st M else nxt nx L st M | _ => stk)
    | .if_icmp cc _ => (match st with | .int b :: .int a :: st => if icond cc a b then nxt r1 L st M else nxt nx L st M | _ => stk)
    | .tableswitch _ lo _ _ => (match st with | .int a :: st => nxt (swch a r1 lo ts) L st M | _ => stk)
    | .getfield _ => (match st with | .ref k :: st => ofo (getf lay M k r1 r2) (fun v => nxt nx L (v :: st) M) | _ => stk)
    | .putfield _ => (match st with | v :: .ref k :: st => ofo (putf lay M k r1 r2 v) (fun M => nxt nx L st M) | _ => stk)
    | .iaload => (match st with | .int j :: .ref a :: st => ofo (aldI lay sc M a j) (fun v => nxt nx L (.int v :: st) M) | _ => stk)
    | .laload => (match st with | .int j :: .ref a :: st => ofo (aldL lay M a j) (fun v => nxt nx L (.long v :: st) M) | _ => stk)
    | .iastore => (match st with | .int v :: .int j :: .ref a :: st => ofo (astI lay M a j v) (fun M => nxt nx L st M) | _ => stk)
    | .lastore => (match st with | .long v :: .int j :: .ref a :: st => ofo (astL lay M a j v) (fun M => nxt nx L st M) | _ => stk)
    | .arraylength => (match st with | .ref a :: st => ofo (alen lay sc a) (fun v => nxt nx L (.int v :: st) M) | _ => stk)
    | .invokestatic _ => if st.length < r2 ∨ 8 < cs (st.drop r2) then stk else calr (cl r1 (st.take r2).reverse M) (ts.getD 0 0) nx L (st.drop r2)
    | .invokevirtual _ => if st.length < r2 ∨ 8 < cs (st.drop r2) ∨ isob lay (st.take r2).reverse.head? (ts.getD 1 0) = false then stk else calr (cl r1 (st.take r2).reverse M) (ts.getD 0 0) nx L (st.drop r2)
    | .ireturn => (match st with | [.int v] => if rk = 1 then .inl (some (some (.int v), M)) else if rk = 2 ∧ (v = 0 ∨ v = 1) then .inl (some (some (.int v), M)) else stk | _ => stk)
    | .lreturn => (match st with | [.long v] => if rk = 3 then .inl (some (some (.long v), M)) else stk | _ => stk)
    | .return_ => (match st with | [] => if rk = 0 then .inl (some (none, M)) else stk | _ => stk)
    | _ => stk
def fet (code : List XE) (pc : Nat) : Option XE := code.find? (fun x => x.1 == pc)
def rnn (code : List XE) (lay : List SH) (sc : Option (Nat × (Nat → Int32))) (cl : Nat → List Value → PM → PO) (rk : Nat) : Nat → PQ → PO
  | 0, _ => none
  | n + 1, q => match fet code q.1 with
    | none => none
    | some x => match stp lay sc cl rk x q.2.1 q.2.2.1 q.2.2.2 with
      | .inl r => r
      | .inr q' => rnn code lay sc cl rk n q'
noncomputable def evn (f : Nat → PQ → PO) (q : PQ) : PO := @dite PO (∃ n, f n q ≠ none) (Classical.propDecidable _) (fun h => f (Classical.choose h) q) (fun _ => none)
noncomputable def pcl (G : Nat → Option MT) (lay : List SH) : Nat → Nat → List Value → PM → PO
  | 0, _, _, _ => none
  | d + 1, id, vs, M => if id < 3 then nat3 lay M id vs else match G id with
    | none => none
    | some mt => if mt.2.2.2.1 < (entl vs).length then none else evn (rnn mt.2.2.2.2.2.2.2 lay none (pcl G lay d) mt.2.2.2.2.1) (0, ent mt.2.2.2.1 vs, [], M)
theorem rnn_up {code : List XE} {lay : List SH} {sc : Option (Nat × (Nat → Int32))} {cl : Nat → List Value → PM → PO} {rk : Nat} : ∀ (n : Nat) (q : PQ) (r : Option Value × PM), rnn code lay sc cl rk n q = some r → rnn code lay sc cl rk (n + 1) q = some r := by
  intro n
  induction n with
  | zero => intro q r h; simp [rnn] at h
  | succ n ih =>
    intro q r h
    rw [rnn] at h ⊢
    cases hf : fet code q.1 with
    | none => rw [hf] at h; simp at h
    | some x =>
      rw [hf] at h
      simp only at h ⊢
      cases hs : stp lay sc cl rk x q.2.1 q.2.2.1 q.2.2.2 with
      | inl o => rw [hs] at h; exact h
      | inr q' => rw [hs] at h; exact ih q' r h
theorem rnn_le {code : List XE} {lay : List SH} {sc : Option (Nat × (Nat → Int32))} {cl : Nat → List Value → PM → PO} {rk : Nat} {n : Nat} {q : PQ} {r : Option Value × PM} (h : rnn code lay sc cl rk n q = some r) : ∀ k, rnn code lay sc cl rk (n + k) q = some r := by
  intro k
  induction k with
  | zero => exact h
  | succ k ih => exact rnn_up _ _ _ ih
theorem evn_iff {code : List XE} {lay : List SH} {sc : Option (Nat × (Nat → Int32))} {cl : Nat → List Value → PM → PO} {rk : Nat} {q : PQ} {r : Option Value × PM} : evn (rnn code lay sc cl rk) q = some r ↔ ∃ n, rnn code lay sc cl rk n q = some r := by
  constructor
  · intro h
    unfold evn at h
    split at h
    · rename_i hx; exact ⟨_, h⟩
    · simp at h
  · rintro ⟨n, h⟩
    have hx : ∃ n, rnn code lay sc cl rk n q ≠ none := ⟨n, by rw [h]; simp⟩
    unfold evn
    rw [dif_pos hx]
    obtain ⟨r2, h2⟩ := Option.ne_none_iff_exists'.mp (Classical.choose_spec hx)
    rw [h2]
    have a := rnn_le h (Classical.choose hx)
    have b := rnn_le h2 n
    rw [Nat.add_comm] at b
    rw [a] at b
    exact b.symm
theorem evn_stp {code : List XE} {lay : List SH} {sc : Option (Nat × (Nat → Int32))} {cl : Nat → List Value → PM → PO} {rk : Nat} (q : PQ) (x : XE) (hf : fet code q.1 = some x) :
    evn (rnn code lay sc cl rk) q = (match stp lay sc cl rk x q.2.1 q.2.2.1 q.2.2.2 with
      | .inl r => r
      | .inr q' => evn (rnn code lay sc cl rk) q') := by
  apply Option.ext
  intro r
  rw [evn_iff]
  constructor
  · rintro ⟨n, h⟩
    cases n with
    | zero => simp [rnn] at h
    | succ n =>
      rw [rnn, hf] at h
      simp only at h
      cases hs : stp lay sc cl rk x q.2.1 q.2.2.1 q.2.2.2 with
      | inl o => rw [hs] at h; exact h
      | inr q' => rw [hs] at h; exact evn_iff.mpr ⟨n, h⟩
  · intro h
    cases hs : stp lay sc cl rk x q.2.1 q.2.2.1 q.2.2.2 with
    | inl o =>
      rw [hs] at h
      exact ⟨1, by rw [rnn, hf]; simp only; rw [hs]; exact h⟩
    | inr q' =>
      rw [hs] at h
      obtain ⟨n, h2⟩ := evn_iff.mp h
      exact ⟨n + 1, by rw [rnn, hf]; simp only; rw [hs]; exact h2⟩
