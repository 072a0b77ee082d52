/-! what the model builds, and what it puts into its tree -/
section
variable {d : Nat} {A : AT} {M : PM} {a b c f : Int32} {v : Int64} {e : EV}
abbrev BM (M : PM) (L : Nat) (g : Nat → Int32) : PM := sI (sI M 52 (va_up (M.1 52) 26 (jn L))) 69 g
theorem va_up2 {α : Type} (f : Nat → α) (k : Nat) (x y : α) : va_up (va_up f k x) k y = va_up f k y := by
  funext j
  rw [up_at, up_at, up_at]
  by_cases h : j = k
  · rw [if_pos h, if_pos h]
  · rw [if_neg h, if_neg h, if_neg h]
theorem sI_comm (M : PM) {k l : Nat} (h : k ≠ l) (f g : Nat → Int32) : sI (sI M k f) l g = sI (sI M l g) k f := by
  refine Prod.ext ?_ rfl
  funext j
  show (if j = l then g else if j = k then f else M.1 j) = (if j = k then f else if j = l then g else M.1 j)
  by_cases h1 : j = l
  · rw [if_pos h1, if_neg (by omega), if_pos h1]
  · rw [if_neg h1, if_neg h1]
theorem BM_up (M : PM) (L : Nat) (g : Nat → Int32) (c : Int32) : sI (sI (BM M L g) 52 (va_up ((BM M L g).1 52) 26 (jn (L + 1)))) 69 (va_up g L c) = BM M (L + 1) (va_up g L c) := by
  have e1 : (BM M L g).1 52 = va_up (M.1 52) 26 (jn L) := rfl
  rw [e1, va_up2, sI_comm _ (by omega), sI_sI, BM, sI_comm _ (by omega), sI_sI]
/-- a match binds what the pattern names -/
theorem ms_bind {cm : Int32 → Bool} : ∀ p, wf p → ∀ t e e', e' ∈ ms cm p t e → (∀ v, e v ≠ none → e' v ≠ none) ∧ ∀ c, isV c → c ∈ en p → e' (vi c) ≠ none := by
  have up : ∀ (e : EV) (k : Nat) (t : Tm), (∀ v, e v ≠ none → (va_up e k (some t)) v ≠ none) ∧ (va_up e k (some t)) k ≠ none := fun e k t => ⟨fun v hv => by
    rw [up_at]
    by_cases h : v = k
    · rw [if_pos h]; simp
    · rw [if_neg h]; exact hv, by rw [up_at, if_pos rfl]; simp⟩
  have two : ∀ {a b : Tm} {t1 t2 : Tm} {e e' : EV}, (∀ t e e', e' ∈ ms cm a t e → (∀ v, e v ≠ none → e' v ≠ none) ∧ ∀ c, isV c → c ∈ en a → e' (vi c) ≠ none) → (∀ t e e', e' ∈ ms cm b t e → (∀ v, e v ≠ none → e' v ≠ none) ∧ ∀ c, isV c → c ∈ en b → e' (vi c) ≠ none) → e' ∈ (ms cm a t1 e).flatMap (fun e' => ms cm b t2 e') → (∀ v, e v ≠ none → e' v ≠ none) ∧ ∀ c, isV c → c ∈ en a ++ en b → e' (vi c) ≠ none := by
    intro a b t1 t2 e e' iha ihb h
    obtain ⟨e1, h1, h2⟩ := List.mem_flatMap.mp h
    have k1 := iha _ _ _ h1
    have k2 := ihb _ _ _ h2
    refine ⟨fun v hv => k2.1 v (k1.1 v hv), fun c hc hm => ?_⟩
    rcases List.mem_append.mp hm with hm | hm
    · exact k2.1 _ (k1.2 c hc hm)
    · exact k2.2 c hc hm
  refine wf_ind (fun c hc => ?_) (fun c a hc ha iha => ?_) (fun c a b hc ha hb iha ihb => ?_)
  · intro t e e' h
    unfold ms at h
    by_cases hv : isV c
    · rw [if_pos hv] at h
      have cmem : ∀ x, x ∈ en (Nd c Lf Lf) → x = c := fun x hx => by rw [en_0, List.mem_singleton] at hx; exact hx
      cases he : e (vi c) with
      | none =>
        rw [he] at h
        simp only [List.mem_singleton] at h
        subst h
        exact ⟨(up e (vi c) t).1, fun x _ hx => by rw [cmem x hx]; exact (up e (vi c) t).2⟩
      | some u =>
        rw [he] at h
        simp only at h
        by_cases hs : en u = en t
        · rw [if_pos hs, List.mem_singleton] at h
          subst h
          exact ⟨fun v hv => hv, fun x _ hx => by rw [cmem x hx, he]; simp⟩
        · rw [if_neg hs] at h; simp at h
    · rw [if_neg hv] at h
      have h2 : ¬ is2 c := by omega
      have h1 : ¬ is1 c := by omega
      cases t with
      | leaf => simp at h
      | inner n' c' u' t1 t2 =>
        simp only at h
        by_cases hcc : c ≠ c'
        · rw [if_pos hcc] at h; simp at h
        rw [if_neg hcc, if_neg h2, if_neg h1, List.mem_singleton] at h
        subst h
        exact ⟨fun v hv => hv, fun x hx1 hx => by rw [en_0, List.mem_singleton] at hx; rw [hx] at hx1; exact absurd hx1 hv⟩
  · intro t e e' h
    have hv : ¬ isV c := by omega
    have h2 : ¬ is2 c := by omega
    unfold ms at h
    rw [if_neg hv] at h
    cases t with
    | leaf => simp at h
    | inner n' c' u' t1 t2 =>
      simp only at h
      by_cases hcc : c ≠ c'
      · rw [if_pos hcc] at h; simp at h
      rw [if_neg hcc, if_neg h2, if_pos hc] at h
      have k := iha _ _ _ h
      refine ⟨k.1, fun x hx hm => ?_⟩
      rw [en_1, List.mem_cons] at hm
      rcases hm with rfl | hm
      · exact absurd hx hv
      · exact k.2 x hx hm
  · intro t e e' h
    have hv : ¬ isV c := by omega
    unfold ms at h
    rw [if_neg hv] at h
    cases t with
    | leaf => simp at h
    | inner n' c' u' t1 t2 =>
      simp only at h
      by_cases hcc : c ≠ c'
      · rw [if_pos hcc] at h; simp at h
      rw [if_neg hcc, if_pos hc, List.mem_append] at h
      have fin : (∀ v, e v ≠ none → e' v ≠ none) ∧ ∀ c, isV c → c ∈ en a ++ en b → e' (vi c) ≠ none := by
        rcases h with h | h
        · exact two iha ihb h
        · by_cases hm : cm c = true
          · rw [if_pos hm] at h; exact two iha ihb h
          · rw [if_neg hm] at h; simp at h
      refine ⟨fin.1, fun x hx hm => ?_⟩
      rw [en_2, List.mem_cons] at hm
      rcases hm with rfl | hm
      · exact absurd hx hv
      · exact fin.2 x hx hm
theorem mat_bind {cm : Nat} {p t : Tm} {e : EV} (hp : wf p) (h : mat cm p t = some e) {c : Int32} (hc : inV c p) : e (vi c) ≠ none := (ms_bind p hp t e0 e (List.mem_of_head? h)).2 c hc.1 hc.2
end
