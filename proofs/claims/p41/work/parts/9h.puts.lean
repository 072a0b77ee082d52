/-! the model's unifying: how many variables, what is pooled, what is written -/
def bcF (l0 : Int32) : Int32 := ((((((((l0 - ((l0.toUInt32 >>> ((jn 1).toUInt32 &&& Int32.toUInt32 31)).toInt32 &&& (jn 1431655765))) &&& (jn 858993459)) + (((l0 - ((l0.toUInt32 >>> ((jn 1).toUInt32 &&& Int32.toUInt32 31)).toInt32 &&& (jn 1431655765))).toUInt32 >>> ((jn 2).toUInt32 &&& Int32.toUInt32 31)).toInt32 &&& (jn 858993459))) + ((((l0 - ((l0.toUInt32 >>> ((jn 1).toUInt32 &&& Int32.toUInt32 31)).toInt32 &&& (jn 1431655765))) &&& (jn 858993459)) + (((l0 - ((l0.toUInt32 >>> ((jn 1).toUInt32 &&& Int32.toUInt32 31)).toInt32 &&& (jn 1431655765))).toUInt32 >>> ((jn 2).toUInt32 &&& Int32.toUInt32 31)).toInt32 &&& (jn 858993459))).toUInt32 >>> ((jn 4).toUInt32 &&& Int32.toUInt32 31)).toInt32) &&& (jn 252645135)) + ((((((l0 - ((l0.toUInt32 >>> ((jn 1).toUInt32 &&& Int32.toUInt32 31)).toInt32 &&& (jn 1431655765))) &&& (jn 858993459)) + (((l0 - ((l0.toUInt32 >>> ((jn 1).toUInt32 &&& Int32.toUInt32 31)).toInt32 &&& (jn 1431655765))).toUInt32 >>> ((jn 2).toUInt32 &&& Int32.toUInt32 31)).toInt32 &&& (jn 858993459))) + ((((l0 - ((l0.toUInt32 >>> ((jn 1).toUInt32 &&& Int32.toUInt32 31)).toInt32 &&& (jn 1431655765))) &&& (jn 858993459)) + (((l0 - ((l0.toUInt32 >>> ((jn 1).toUInt32 &&& Int32.toUInt32 31)).toInt32 &&& (jn 1431655765))).toUInt32 >>> ((jn 2).toUInt32 &&& Int32.toUInt32 31)).toInt32 &&& (jn 858993459))).toUInt32 >>> ((jn 4).toUInt32 &&& Int32.toUInt32 31)).toInt32) &&& (jn 252645135)).toUInt32 >>> ((jn 8).toUInt32 &&& Int32.toUInt32 31)).toInt32) + (((((((l0 - ((l0.toUInt32 >>> ((jn 1).toUInt32 &&& Int32.toUInt32 31)).toInt32 &&& (jn 1431655765))) &&& (jn 858993459)) + (((l0 - ((l0.toUInt32 >>> ((jn 1).toUInt32 &&& Int32.toUInt32 31)).toInt32 &&& (jn 1431655765))).toUInt32 >>> ((jn 2).toUInt32 &&& Int32.toUInt32 31)).toInt32 &&& (jn 858993459))) + ((((l0 - ((l0.toUInt32 >>> ((jn 1).toUInt32 &&& Int32.toUInt32 31)).toInt32 &&& (jn 1431655765))) &&& (jn 858993459)) + (((l0 - ((l0.toUInt32 >>> ((jn 1).toUInt32 &&& Int32.toUInt32 31)).toInt32 &&& (jn 1431655765))).toUInt32 >>> ((jn 2).toUInt32 &&& Int32.toUInt32 31)).toInt32 &&& (jn 858993459))).toUInt32 >>> ((jn 4).toUInt32 &&& Int32.toUInt32 31)).toInt32) &&& (jn 252645135)) + ((((((l0 - ((l0.toUInt32 >>> ((jn 1).toUInt32 &&& Int32.toUInt32 31)).toInt32 &&& (jn 1431655765))) &&& (jn 858993459)) + (((l0 - ((l0.toUInt32 >>> ((jn 1).toUInt32 &&& Int32.toUInt32 31)).toInt32 &&& (jn 1431655765))).toUInt32 >>> ((jn 2).toUInt32 &&& Int32.toUInt32 31)).toInt32 &&& (jn 858993459))) + ((((l0 - ((l0.toUInt32 >>> ((jn 1).toUInt32 &&& Int32.toUInt32 31)).toInt32 &&& (jn 1431655765))) &&& (jn 858993459)) + (((l0 - ((l0.toUInt32 >>> ((jn 1).toUInt32 &&& Int32.toUInt32 31)).toInt32 &&& (jn 1431655765))).toUInt32 >>> ((jn 2).toUInt32 &&& Int32.toUInt32 31)).toInt32 &&& (jn 858993459))).toUInt32 >>> ((jn 4).toUInt32 &&& Int32.toUInt32 31)).toInt32) &&& (jn 252645135)).toUInt32 >>> ((jn 8).toUInt32 &&& Int32.toUInt32 31)).toInt32).toUInt32 >>> ((jn 16).toUInt32 &&& Int32.toUInt32 31)).toInt32) &&& (jn 63))
theorem bc_all : ∀ k, k < 64 → bcF (jn k) = jn (cntP (fun i => k.testBit i) 6) := by decide +kernel
section
variable {d : Nat} {A : AT} {M M' : PM} {be : BT} {m : Nat → Tm} {ta : Nat → Nat} {s t u : Tm} {i j : Nat}
theorem c_bits (hd : 1 ≤ d) (l : List Int32) : pcl GG lay d 273 [.int (vb l)] M = rI (jn (nvr l)) M := by
  obtain ⟨d, rfl⟩ := ex_add hd
  obtain ⟨k, h1, h2, h3⟩ := vb_spec l
  rw [q_273]
  show rI (bcF (vb l)) M = _
  rw [h2, bc_all k h1]
  congr 2
  exact cntP_congr 6 (fun i hi => by
    have := h3 i hi
    by_cases e : k.testBit i = true
    · rw [e]; simp [this.mp e]
    · have e2 : k.testBit i = false := by simpa using e
      rw [e2]
      have : jn (117 + i) ∉ l := fun z => e (this.mpr z)
      simp [this])
/-- names given -/
def NM (nm : List Int32) (M : PM) : Prop := (∀ v, v < 12 → M.1 77 v = if vcd v ∈ nm then jn (nm.idxOf (vcd v)) else jz 1) ∧ M.1 52 41 = jn nm.length ∧ nm.Nodup ∧ ∀ c ∈ nm, vE c
theorem idx_snoc {nm : List Int32} {c : Int32} (h : c ∉ nm) : (nm ++ [c]).idxOf c = nm.length := by
  rw [List.idxOf_append]
  rw [if_neg h]
  simp
theorem idx_snoc2 {nm : List Int32} {c x : Int32} (h : x ∈ nm) : (nm ++ [c]).idxOf x = nm.idxOf x := by
  rw [List.idxOf_append, if_pos h]
end
