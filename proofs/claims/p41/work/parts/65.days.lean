/-! days: what a seed gives -/
abbrev shS (s : Int32) : UInt32 := s.toUInt32 >>> ((jn 16).toUInt32 &&& Int32.toUInt32 31)
def nxS (s : Int32) : Int32 := s * jn 1103515245 + jn 12345
def rnN (s : Int32) (n : Nat) : Nat := (shS (nxS s)).toNat % n
theorem shS_lt (s : Int32) : (shS s).toNat < 65536 := by
  have e : (jn 16).toUInt32 &&& Int32.toUInt32 31 = 16 := by decide
  unfold shS
  rw [e, UInt32.toNat_shiftRight]
  have h := UInt32.toNat_lt s.toUInt32
  rw [show (16 : UInt32).toNat % 32 = 16 from rfl, Nat.shiftRight_eq_div_pow]
  omega
theorem u_jn {x : UInt32} (h : x.toNat < 65536) : x.toInt32 = jn x.toNat := by
  apply Int32.toInt_inj.mp
  rw [jn_toInt (by omega)]
  show x.toBitVec.toInt = _
  rw [BitVec.toInt_eq_toNat_of_lt]
  · rfl
  · show 2 * x.toNat < 2 ^ 32
    omega
theorem jn_div {a b : Nat} (ha : a < 65536) (hb : b < 65536) : jn a / jn b = jn (a / b) := by
  unfold jn
  rw [← Int32.ofInt_tdiv]
  · rfl
  · show (-2147483648 : Int) ≤ _; omega
  · show (a : Int) ≤ 2147483647; omega
  · show (-2147483648 : Int) ≤ _; omega
  · show (b : Int) ≤ 2147483647; omega
theorem rn_jn {x : UInt32} {n : Nat} (h : x.toNat < 65536) (hn : n < 65536) : x.toInt32 - x.toInt32 / jn n * jn n = jn (x.toNat % n) := by
  have hle := Nat.div_mul_le_self x.toNat n
  rw [u_jn h, jn_div h hn, jn_mul, jn_sub hle]
  congr 1
  have := Nat.div_add_mod x.toNat n
  rw [Nat.mul_comm] at this
  omega
