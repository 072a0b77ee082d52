/-! bits of a long -/
theorem lg_0 (x y : Int64) : (lg_cmp x y = jn 0) = (x = y) := by
  unfold lg_cmp
  by_cases h : x = y
  · subst h
    simp
    exact J0.symm
  · refine propext ⟨fun q => absurd q ?_, fun q => absurd q h⟩
    repeat' split
    all_goals first | decide | exact absurd (by assumption) h
abbrev tb (v : Int64) (j : Nat) : Bool := v.toBitVec.getLsbD j
theorem sh_all : ∀ j, j < 64 → (jn j).toInt64 &&& 63 = Int64.ofNat j ∧ ((Int64.ofNat j).toBitVec.smod 64).toNat = j := by decide +kernel
theorem bitL_tb : ∀ k, k < 40 → ∀ j, j < 40 → tb (bitL k) j = decide (j = k) := by decide +kernel
theorem tb_or (v w : Int64) (j : Nat) : tb (v ||| w) j = (tb v j || tb w j) := by
  unfold tb
  rw [Int64.toBitVec_or, BitVec.getLsbD_or]
theorem tb_0 (j : Nat) : tb (Int64.ofNat 0) j = false := by
  show (BitVec.ofNat 64 0).getLsbD j = false
  simp
theorem tb_test (v : Int64) {j : Nat} (h : j < 40) : (lg_cmp ((v >>> ((jn j).toInt64 &&& 63)) &&& (Int64.ofNat 1)) (Int64.ofNat 0) = jn 0) = (tb v j = false) := by
  rw [lg_0, (sh_all j (by omega)).1]
  have e : ((v >>> Int64.ofNat j) &&& Int64.ofNat 1).toBitVec = if tb v j = true then 1#64 else 0#64 := by
    rw [Int64.toBitVec_and, Int64.toBitVec_shiftRight, BitVec.sshiftRight', (sh_all j (by omega)).2]
    apply BitVec.eq_of_getLsbD_eq
    intro i hi
    rw [BitVec.getLsbD_and]
    show ((v.toBitVec.sshiftRight j).getLsbD i && (1#64).getLsbD i) = _
    by_cases h0 : i = 0
    · subst h0
      rw [BitVec.getLsbD_sshiftRight]
      unfold tb
      cases v.toBitVec.getLsbD j <;> simp <;> omega
    · have : (1#64).getLsbD i = false := by simp [h0]
      rw [this]
      unfold tb
      cases v.toBitVec.getLsbD j <;> simp [h0]
  rw [← Int64.toBitVec_inj, e]
  cases tb v j
  · simp
  · simp
