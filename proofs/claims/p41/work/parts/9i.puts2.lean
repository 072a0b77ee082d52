/-! the model's unifying: what is written -/
def PutR (x had : Nat) (nm l : List Int32) (M : PM) (X : PO) : Prop := ∃ M', X = rI (jn (if had + l.length ≤ 40 then had + l.length else 41)) M' ∧ Fr [52, 77, x] M M' ∧ (∀ j, j ≠ 41 → M'.1 52 j = M.1 52 j) ∧ (∀ j, j < had → M'.1 x j = M.1 x j) ∧ (had + l.length ≤ 40 → At (M'.1 x) had (cnS nm l).1 ∧ NM (cnS nm l).2 M') ∧ ∃ nm', NM nm' M'
theorem PutR.b {P a : Prop} {nm : List Int32} {M : PM} (h : a ∧ NM nm M) : (P → a ∧ NM nm M) ∧ ∃ nm', NM nm' M := ⟨fun _ => h, _, h.2⟩
abbrev outX (x : Nat) : Prop := lay[x]? = some (.inr (false, 41)) ∧ x ≠ 52 ∧ x ≠ 75 ∧ x ≠ 76 ∧ x ≠ 77
section
variable {d : Nat} {A : AT} {M M' : PM} {be : BT} {m : Nat → Tm} {ta : Nat → Nat} {s t u : Tm} {i j x had : Nat} {nm : List Int32}
theorem NM_le (h : NM nm M) : nm.length ≤ 12 := Nat.le_trans (nodup_cnt nm h.2.2.1 h.2.2.2) (cntP_le _ 12)
theorem BN_fr (hB : BN be M) (h75 : M'.1 75 = M.1 75) (h76 : M'.1 76 = M.1 76) : BN be M' := by
  intro v hv
  have := hB v hv
  rw [h76]
  cases hb : be v with
  | none => rw [hb] at this; exact this
  | some u =>
    rw [hb] at this
    obtain ⟨k, h1, h2⟩ := this
    exact ⟨k, h1, h2.eq h75⟩
end
