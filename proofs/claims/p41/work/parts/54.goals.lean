/-! THE MODEL'S MATCHING -/
abbrev GT : Type := Nat × Tm × Nat × Tm
def msG (cm : Int32 → Bool) : List GT → EV → List EV
  | [], e => [e]
  | g :: gs, e => (ms cm g.2.1 g.2.2.2 e).flatMap (fun e' => msG cm gs e')
def tot : List GT → Nat
  | [] => 0
  | g :: gs => sz g.2.1 + tot gs
def GP (M : PM) : List GT → Prop
  | [] => True
  | g :: gs => M.1 66 gs.length = jn g.1 ∧ M.1 67 gs.length = jn g.2.2.1 ∧ GP M gs
def GO (f h : Nat → Int32) (g : GT) : Prop := (wf g.2.1 ∧ sz g.2.1 ≤ 40 ∧ At f g.1 (en g.2.1) ∧ g.1 + sz g.2.1 ≤ 960) ∧ wf g.2.2.2 ∧ sz g.2.2.2 ≤ 40 ∧ At h g.2.2.1 (en g.2.2.2) ∧ g.2.2.1 + sz g.2.2.2 ≤ 8100
def EM (e : EV) (M : PM) : Prop := ∀ v, v < 6 → match e v with
  | none => M.1 68 v = jz 1
  | some u => ∃ q, M.1 68 v = jn q ∧ wf u ∧ sz u ≤ 40 ∧ q + sz u ≤ 8100 ∧ At (M.1 65) q (en u)
theorem GP_low {M M' : PM} : ∀ gs : List GT, (∀ i, i < gs.length → M'.1 66 i = M.1 66 i ∧ M'.1 67 i = M.1 67 i) → GP M gs → GP M' gs := by
  intro gs
  induction gs with
  | nil => intro _ _; trivial
  | cons g gs ih =>
    rintro h ⟨h1, h2, h3⟩
    have h4 := h gs.length (by simp)
    exact ⟨h4.1.trans h1, h4.2.trans h2, ih (fun i hi => h i (by simp; omega)) h3⟩
abbrev pG (M : PM) (i a b : Nat) : PM := sI (sI M 66 (va_up (M.1 66) i (jn a))) 67 (va_up (M.1 67) i (jn b))
theorem pG_1 (M : PM) (i a b : Nat) : (pG M i a b).1 66 = va_up (M.1 66) i (jn a) := rfl
theorem pG_2 (M : PM) (i a b : Nat) : (pG M i a b).1 67 = va_up (M.1 67) i (jn b) := rfl
theorem pG_o (M : PM) (i a b : Nat) {k : Nat} (h : k ≠ 66 ∧ k ≠ 67) : (pG M i a b).1 k = M.1 k := by rw [sI_o _ _ h.2, sI_o _ _ h.1]
theorem pG_fr (M : PM) (i a b : Nat) : Fr [66, 67, 68] M (pG M i a b) := (Fr.sI (k := 66) (by decide)).trans (Fr.sI (k := 67) (by decide))
def SRm (L : List EV) (n : Nat) (M : PM) (o : PO) : Prop := ∃ M', o = rI (if L.head?.isSome = true then jn 1 else jn 0) M' ∧ Fr [66, 67, 68] M M' ∧ (∀ e', L.head? = some e' → EM e' M') ∧ (L.head? = none → M'.1 68 = M.1 68 ∧ ∀ i, i < n → M'.1 66 i = M.1 66 i ∧ M'.1 67 i = M.1 67 i)
section
variable {d : Nat} {A : AT} {M : PM} {a b c f : Int32} {v : Int64} {e : EV}
theorem SRm_out {L : List EV} {n : Nat} {o : PO} (h : SRm L n M o) : (∃ e' M', L.head? = some e' ∧ o = rI (jn 1) M' ∧ Fr [66, 67, 68] M M' ∧ EM e' M') ∨ ∃ M', L.head? = none ∧ o = rI (jn 0) M' ∧ Fr [66, 67, 68] M M' ∧ M'.1 68 = M.1 68 ∧ ∀ i, i < n → M'.1 66 i = M.1 66 i ∧ M'.1 67 i = M.1 67 i := by
  obtain ⟨M', h1, h2, h3, h4⟩ := h
  cases hl : L.head? with
  | none => rw [hl] at h1; exact Or.inr ⟨M', rfl, h1, h2, h4 hl⟩
  | some e' => rw [hl] at h1; exact Or.inl ⟨e', M', rfl, h1, h2, h3 e' hl⟩
theorem SRm_1 {L : List EV} {n : Nat} {e' : EV} {M' : PM} (hl : L.head? = some e') (h2 : Fr [66, 67, 68] M M') (h3 : EM e' M') : SRm L n M (rI (jn 1) M') := ⟨M', by rw [hl]; rfl, h2, fun e2 h => by rw [hl] at h; cases h; exact h3, fun h => by rw [hl] at h; cases h⟩
theorem SRm_0 {L : List EV} {n : Nat} {M' : PM} (hl : L.head? = none) (h2 : Fr [66, 67, 68] M M') (h3 : M'.1 68 = M.1 68) (h4 : ∀ i, i < n → M'.1 66 i = M.1 66 i ∧ M'.1 67 i = M.1 67 i) : SRm L n M (rI (jn 0) M') := ⟨M', by rw [hl]; rfl, h2, (fun e2 h => by rw [hl] at h; cases h), fun _ => ⟨h3, h4⟩⟩
theorem SRm_from {L : List EV} {n m : Nat} {M0 : PM} {o : PO} (h : SRm L m M o) (hn : n ≤ m) (hf : Fr [66, 67, 68] M0 M) (h8 : M.1 68 = M0.1 68) (hl : ∀ i, i < n → M.1 66 i = M0.1 66 i ∧ M.1 67 i = M0.1 67 i) : SRm L n M0 o := by
  obtain ⟨M', h1, h2, h3, h4⟩ := h
  refine ⟨M', h1, hf.trans h2, h3, fun h => ?_⟩
  obtain ⟨h5, h6⟩ := h4 h
  exact ⟨h5.trans h8, fun i hi => ⟨(h6 i (by omega)).1.trans (hl i hi).1, (h6 i (by omega)).2.trans (hl i hi).2⟩⟩
theorem pG_low {n m a b : Nat} (h : n ≤ m) : ∀ i, i < n → (pG M m a b).1 66 i = M.1 66 i ∧ (pG M m a b).1 67 i = M.1 67 i := fun i hi => by
  rw [pG_1, pG_2, up_at, up_at, if_neg (by omega), if_neg (by omega)]; exact ⟨rfl, rfl⟩
theorem SRm_z {L : List EV} {n : Nat} {o : PO} (h : SRm L n M o) : SRm L n M (kI o fun r M => rZ r M) := by
  rcases SRm_out h with ⟨e', M', h1, h2, h3, h4⟩ | ⟨M', h1, h2, h3, h4, h5⟩
  · rw [h2, kI_r, rZ_1]; exact SRm_1 h1 h3 h4
  · rw [h2, kI_r, rZ_0]; exact SRm_0 h1 h3 h4 h5
end
