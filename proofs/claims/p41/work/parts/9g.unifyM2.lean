/-! the model's unifying of two trees -/
abbrev unbB (be : BT) : Nat := cntP (fun v => (be v).isNone) 12
def UnR (be : BT) (M : PM) (s t : Tm) (x : PO) : Prop := ∃ M', Fr [76] M M' ∧ ((x = rI (jn 1) M' ∧ ∃ be' m' ta', IMx be' m' ta' ∧ BN be' M' ∧ (be' = be ∨ unbB be' < unbB be) ∧ ∀ th, SolB be' th ↔ SolB be th ∧ ap th s = ap th t) ∨ (x = rI (jn 0) M' ∧ ∀ th, SolB be th → ap th s ≠ ap th t))
theorem UnR.z {be : BT} {M : PM} {s t : Tm} {x : PO} (h : UnR be M s t x) : UnR be M s t (kI x fun r M => if r = jn 0 then rZ (jn 0) M else rZ (jn 1) M) := by
  obtain ⟨M', h1, ⟨h2, h3⟩ | ⟨h2, h3⟩⟩ := h
  · exact ⟨M', h1, Or.inl ⟨by rw [h2, kI_r, ieq_neg (by omega) (by omega) (by omega), rZ_1], h3⟩⟩
  · exact ⟨M', h1, Or.inr ⟨by rw [h2, kI_r, ieq_pos rfl, rZ_0], h3⟩⟩
section
variable {d : Nat} {M M' : PM} {be : BT} {m : Nat → Tm} {ta : Nat → Nat} {s t u : Tm} {i j : Nat}
theorem BN.bind {v : Nat} (hB : BN be M) (hv : v < 12) (hp : PT M j u) : BN (va_up be v (some u)) (sI M 76 (va_up (M.1 76) v (jn j))) := by
  intro w hw
  have h := hB w hw
  have e : ∀ w, (sI M 76 (va_up (M.1 76) v (jn j))).1 76 w = if w = v then jn j else M.1 76 w := fun w => by rw [sI_k, up_at]
  have hp' : ∀ k x, PT M k x → PT (sI M 76 (va_up (M.1 76) v (jn j))) k x := fun k x hx => hx
  rw [e, up_at]
  by_cases ew : w = v
  · rw [if_pos ew, if_pos ew]
    exact ⟨j, rfl, hp' _ _ hp⟩
  · rw [if_neg ew, if_neg ew]
    cases hb : be w with
    | none => rw [hb] at h; exact h
    | some x =>
      rw [hb] at h
      obtain ⟨k, h1, h2⟩ := h
      exact ⟨k, h1, hp' _ _ h2⟩
end
