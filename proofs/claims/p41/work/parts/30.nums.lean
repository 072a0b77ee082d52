/-! SMALL NUMBERS: jn n, the int of a number; rows to count with -/
theorem jn_toInt {n : Nat} (h : n < 2147483648) : (jn n).toInt = (n : Int) := Int32.toInt_ofInt_of_le (by omega) (by omega)
theorem jn_clamp {n : Nat} (h : n < 2147483648) : (jn n).toNatClampNeg = n := by
  unfold Int32.toNatClampNeg
  rw [jn_toInt h]; rfl
theorem jz_toInt {n : Nat} (h : n ≤ 2147483648) : (jz n).toInt = -(n : Int) := Int32.toInt_ofInt_of_le (by omega) (by omega)
theorem jn_add (a b : Nat) : jn a + jn b = jn (a + b) := by unfold jn; rw [← Int32.ofInt_add]; rfl
theorem jn_mul (a b : Nat) : jn a * jn b = jn (a * b) := by unfold jn; rw [← Int32.ofInt_mul]; rfl
theorem jn_sub {a b : Nat} (h : b ≤ a) : jn a - jn b = jn (a - b) := by
  unfold jn; rw [← Int32.ofInt_sub]; congr 1; omega
theorem jn_addz {a b : Nat} (h : b ≤ a) : jn a + jz b = jn (a - b) := by
  unfold jn jz; rw [← Int32.ofInt_add]; congr 1; omega
theorem jn_subz {a b : Nat} (h : a ≤ b) : jn a - jn b = jz (b - a) := by
  unfold jn jz; rw [← Int32.ofInt_sub]; congr 1; omega
theorem jz_0 : jz 0 = jn 0 := rfl
theorem jz_neg (n : Nat) : -jz n = jn n := by unfold jz jn; rw [← Int32.ofInt_neg]; congr 1; omega
theorem jn_neg (n : Nat) : -jn n = jz n := by unfold jz jn; rw [← Int32.ofInt_neg]
theorem jn_lt {a b : Nat} (ha : a < 2147483648) (hb : b < 2147483648) : (jn a < jn b) = (a < b) := by
  rw [Int32.lt_iff_toInt_lt, jn_toInt ha, jn_toInt hb]; simp
theorem jn_inj {a b : Nat} (ha : a < 2147483648) (hb : b < 2147483648) : (jn a = jn b) = (a = b) := by
  rw [← Int32.toInt_inj, jn_toInt ha, jn_toInt hb]; exact propext Int.ofNat_inj
theorem jn_jz {a b : Nat} (ha : a < 2147483648) (hb : 0 < b ∧ b ≤ 2147483648) : (jn a = jz b) = False := by
  rw [← Int32.toInt_inj, jn_toInt ha, jz_toInt hb.2]; simp; omega
theorem jz_jn {a b : Nat} (ha : a < 2147483648) (hb : 0 < b ∧ b ≤ 2147483648) : (jz b = jn a) = False := by
  rw [← Int32.toInt_inj, jn_toInt ha, jz_toInt hb.2]; simp; omega
theorem jz_inj {a b : Nat} (ha : a ≤ 2147483648) (hb : b ≤ 2147483648) : (jz a = jz b) = (a = b) := by
  rw [← Int32.toInt_inj, jz_toInt ha, jz_toInt hb]; exact propext ⟨fun h => by omega, fun h => by rw [h]⟩
theorem jn_lt_jz {a b : Nat} (ha : a < 2147483648) (hb : b ≤ 2147483648) : (jn a < jz b) = False := by
  rw [Int32.lt_iff_toInt_lt, jn_toInt ha, jz_toInt hb]; simp only [eq_iff_iff, iff_false]; omega
theorem jz_lt_jn {a b : Nat} (ha : a < 2147483648) (hb : 0 < b ∧ b ≤ 2147483648) : (jz b < jn a) = True := by
  rw [Int32.lt_iff_toInt_lt, jn_toInt ha, jz_toInt hb.2]; simp; omega
theorem neg_ne {a : Int32} (h : a < jn 0) {n : Nat} (hn : n < 2147483648) : a ≠ jn n := by
  intro e; rw [e, jn_lt hn (by omega)] at h; omega
theorem neg_lt {a : Int32} (h : a < jn 0) {n : Nat} (hn : n < 2147483648) : a < jn n := by
  rw [Int32.lt_iff_toInt_lt, jn_toInt (by omega)] at *; omega
/-- any int is below 0 or a number -/
theorem jn_or (a : Int32) : a < jn 0 ∨ ∃ n, n < 2147483648 ∧ a = jn n := by
  by_cases h : a < jn 0
  · exact Or.inl h
  · right
    rw [Int32.lt_iff_toInt_lt, jn_toInt (by omega)] at h
    have h2 := a.toInt_lt
    refine ⟨a.toInt.toNat, by omega, ?_⟩
    rw [← Int32.toInt_inj, jn_toInt (by omega)]; omega
theorem jn_bit0 : (jn 0 = jn 1) = False := by rw [jn_inj (by omega) (by omega)]; simp
theorem rZ_0 (M : PM) : rZ (jn 0) M = rI (jn 0) M := if_pos (Or.inl rfl)
theorem rZ_1 (M : PM) : rZ (jn 1) M = rI (jn 1) M := if_pos (Or.inr rfl)
theorem kI_r (r : Int32) (M : PM) (k : Int32 → PM → PO) : kI (rI r M) k = k r M := rfl
theorem kL_r (r : Int64) (M : PM) (k : Int64 → PM → PO) : kL (rL r M) k = k r M := rfl
theorem kV_r (M : PM) (k : PM → PO) : kV (rV M) k = k M := rfl
theorem oB_s {α : Type} (x : α) (k : α → PO) : oB (some x) k = k x := rfl
theorem wr_e (M : PM) (k : PM → PO) : wr M k = k M := rfl
/-- the answer of a question -/
abbrev bI (b : Prop) [Decidable b] : Int32 := if b then jn 1 else jn 0
theorem bI_0 {b : Prop} [Decidable b] : (bI b = jn 0) = ¬ b := by
  unfold bI; split
  · rename_i h; rw [jn_inj (by omega) (by omega)]; simp [h]
  · rename_i h; simp [h]
theorem rZ_b {b : Prop} [Decidable b] (M : PM) : rZ (bI b) M = rI (bI b) M := by
  unfold bI; split
  · exact rZ_1 M
  · exact rZ_0 M
/-! cells: arrays read and written -/
theorem inb_j {i n : Nat} (h : i < n) (hn : n < 2147483648) : inb (jn i) n = true := by
  unfold inb
  rw [jn_clamp (by omega)]
  simp [h]
  rw [Int32.le_iff_toInt_le, jn_toInt (by omega)]
  show (0 : Int) ≤ _
  omega
theorem ald_n {M : PM} {a i n : Nat} (ha : lay[a]? = some (.inr (false, n))) (h : i < n) (hn : n < 2147483648) : aldI lay none M a (jn i) = some (M.1 a i) := by
  unfold aldI
  rw [ha]
  simp only [inb_j h hn, if_true, jn_clamp (show i < 2147483648 by omega)]
theorem ald_l {M : PM} {a i n : Nat} (ha : lay[a]? = some (.inr (true, n))) (h : i < n) (hn : n < 2147483648) : aldL lay M a (jn i) = some (M.2 a i) := by
  unfold aldL
  rw [ha]
  simp only [inb_j h hn, if_true, jn_clamp (show i < 2147483648 by omega)]
theorem ast_n {M : PM} {a i n : Nat} {v : Int32} (ha : lay[a]? = some (.inr (false, n))) (h : i < n) (hn : n < 2147483648) : astI lay M a (jn i) v = some (sI M a (va_up (M.1 a) i v)) := by
  unfold astI
  rw [ha]
  simp only [inb_j h hn, if_true, jn_clamp (show i < 2147483648 by omega)]
theorem ast_l {M : PM} {a i n : Nat} {v : Int64} (ha : lay[a]? = some (.inr (true, n))) (h : i < n) (hn : n < 2147483648) : astL lay M a (jn i) v = some (sL M a (va_up (M.2 a) i v)) := by
  unfold astL
  rw [ha]
  simp only [inb_j h hn, if_true, jn_clamp (show i < 2147483648 by omega)]
theorem alen_n {a n : Nat} {b : Bool} (ha : lay[a]? = some (.inr (b, n))) : alen lay none a = some (jn n) := by
  unfold alen
  rw [ha]
  exact congrArg some Int32.ofInt_eq_ofNat.symm
theorem sI1 (M : PM) (k a : Nat) (f : Nat → Int32) : (sI M k f).1 a = if a = k then f else M.1 a := rfl
theorem sI2 (M : PM) (k a : Nat) (f : Nat → Int32) : (sI M k f).2 a = M.2 a := rfl
theorem sL1 (M : PM) (k a : Nat) (f : Nat → Int64) : (sL M k f).1 a = M.1 a := rfl
theorem sL2 (M : PM) (k a : Nat) (f : Nat → Int64) : (sL M k f).2 a = if a = k then f else M.2 a := rfl
theorem up_at {α : Type} (f : Nat → α) (i j : Nat) (v : α) : va_up f i v j = if j = i then v else f j := rfl
/-- all but the cells of S is as it was -/
def Fr (S : List Nat) (M M' : PM) : Prop := (∀ k, k ∉ S → M'.1 k = M.1 k) ∧ (∀ k, k ∉ S → M'.2 k = M.2 k)
theorem Fr.rf {S : List Nat} {M : PM} : Fr S M M := ⟨fun _ _ => rfl, fun _ _ => rfl⟩
theorem Fr.trans {S : List Nat} {M M' M'' : PM} (h1 : Fr S M M') (h2 : Fr S M' M'') : Fr S M M'' := ⟨fun k h => (h2.1 k h).trans (h1.1 k h), fun k h => (h2.2 k h).trans (h1.2 k h)⟩
theorem Fr.mono {S S' : List Nat} {M M' : PM} (h : Fr S M M') (hs : ∀ k ∈ S, k ∈ S') : Fr S' M M' := ⟨fun k h1 => h.1 k fun h2 => h1 (hs k h2), fun k h1 => h.2 k fun h2 => h1 (hs k h2)⟩
theorem Fr.sI {S : List Nat} {M : PM} {k : Nat} {f : Nat → Int32} (h : k ∈ S) : Fr S M (sI M k f) := ⟨fun a ha => if_neg fun e : a = k => ha (e ▸ h), fun _ _ => rfl⟩
theorem Fr.sL {S : List Nat} {M : PM} {k : Nat} {f : Nat → Int64} (h : k ∈ S) : Fr S M (sL M k f) := ⟨fun _ _ => rfl, fun a ha => if_neg fun e : a = k => ha (e ▸ h)⟩
theorem ex_add {d k : Nat} (h : k ≤ d) : ∃ e, d = e + k := ⟨d - k, by omega⟩
theorem pcl_max {d : Nat} {x y : Int32} {M : PM} (hd : 1 ≤ d) : pcl GG lay d 1 [.int x, .int y] M = rI (if x < y then y else x) M := by
  obtain ⟨d, rfl⟩ := ex_add hd; rfl
theorem pcl_min {d : Nat} {x y : Int32} {M : PM} (hd : 1 ≤ d) : pcl GG lay d 2 [.int x, .int y] M = rI (if y < x then y else x) M := by
  obtain ⟨d, rfl⟩ := ex_add hd; rfl
theorem ilt_pos {α : Type} {a b : Nat} {x y : α} (h : a < b) (hb : b < 2147483648) : (if jn a < jn b then x else y) = x := if_pos (by rw [jn_lt (by omega) hb]; exact h)
theorem ilt_neg {α : Type} {a b : Nat} {x y : α} (h : b ≤ a) (ha : a < 2147483648) : (if jn a < jn b then x else y) = y := if_neg (by rw [jn_lt ha (by omega)]; omega)
theorem ieq_pos {α : Type} {a b : Nat} {x y : α} (h : a = b) : (if jn a = jn b then x else y) = x := if_pos (by rw [h])
theorem ieq_neg {α : Type} {a b : Nat} {x y : α} (h : a ≠ b) (ha : a < 2147483648) (hb : b < 2147483648) : (if jn a = jn b then x else y) = y := if_neg (by rw [jn_inj ha hb]; exact h)
theorem ieq_z {α : Type} {a b : Nat} {x y : α} (ha : a < 2147483648) (hb : 0 < b ∧ b ≤ 2147483648) : (if jn a = jz b then x else y) = y := if_neg (by rw [jn_jz ha hb]; exact id)
