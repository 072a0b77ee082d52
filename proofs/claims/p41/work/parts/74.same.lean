/-! same: equal, equal by what commutes, or not -/
def eqv (cm : Int32 → Bool) : Tm → Tm → Bool
  | .leaf, _ => false
  | .inner _ c _ a b, u => match u with
    | .leaf => false
    | .inner _ c' _ a' b' => if c = c' then (if is2 c then (eqv cm a a' && eqv cm b b') || (cm c && (eqv cm a b' && eqv cm b a')) else if is1 c then eqv cm a a' else true) else false
theorem eqv_n {cm : Int32 → Bool} {c c' : Int32} {a b a' b' : Tm} : eqv cm (Nd c a b) (Nd c' a' b') = if c = c' then (if is2 c then (eqv cm a a' && eqv cm b b') || (cm c && (eqv cm a b' && eqv cm b a')) else if is1 c then eqv cm a a' else true) else false := rfl
theorem eqv_sz {cm : Int32 → Bool} : ∀ t, wf t → ∀ u, wf u → eqv cm t u = true → sz t = sz u := by
  refine wf_ind (fun c hc => ?_) (fun c a hc ha iha => ?_) (fun c a b hc ha hb iha ihb => ?_)
  · intro u hu h
    obtain ⟨c', x, y, rfl, hc'⟩ := wf_cases hu
    rw [eqv_n] at h
    by_cases hcc : c = c'
    · subst hcc
      rcases hc' with ⟨_, rfl, rfl⟩ | ⟨h1, _, _⟩ | ⟨h1, _, _⟩
      · rfl
      · omega
      · omega
    · rw [if_neg hcc] at h; cases h
  · intro u hu h
    obtain ⟨c', x, y, rfl, hc'⟩ := wf_cases hu
    rw [eqv_n] at h
    by_cases hcc : c = c'
    · subst hcc
      rw [if_pos rfl, if_neg (show ¬ is2 c by omega), if_pos hc] at h
      rcases hc' with ⟨h1, _, _⟩ | ⟨h1, hx, rfl⟩ | ⟨h1, _, _⟩
      · omega
      · rw [sz_1, sz_1, iha x hx h]
      · omega
    · rw [if_neg hcc] at h; cases h
  · intro u hu h
    obtain ⟨c', x, y, rfl, hc'⟩ := wf_cases hu
    rw [eqv_n] at h
    by_cases hcc : c = c'
    · subst hcc
      rw [if_pos rfl, if_pos hc] at h
      rcases hc' with ⟨h1, _, _⟩ | ⟨h1, _, _⟩ | ⟨h1, hx, hy⟩
      · omega
      · omega
      · rw [sz_2, sz_2]
        simp only [Bool.or_eq_true, Bool.and_eq_true] at h
        rcases h with ⟨h1, h2⟩ | ⟨-, h1, h2⟩
        · rw [iha x hx h1, ihb y hy h2]
        · rw [iha y hy h1, ihb x hx h2]; omega
    · rw [if_neg hcc] at h; cases h
def F_same (A : AT) (a b : Int32) : Int32 × AT := if ¬ hsT A a then rfs A 1 else if ¬ hsT A b then rfs A 1 else (if en (tmN A a) = en (tmN A b) then jn 0 else if eqv (cmB (cmA A)) (tmN A a) (tmN A b) = true then jn 1 else jn 2, A)
section
variable {d : Nat} {A : AT} {M : PM} {a b c e f : Int32} {v : Int64}
end
