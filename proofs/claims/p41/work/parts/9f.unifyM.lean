/-! the model's unifying: whether a variable is in, binding, both trees -/
/-- a tree so deep in another -/
def Sb : Nat → Tm → Tm → Prop
  | 0, a, b => a = b
  | k + 1, a, b => match a with
    | .leaf => False
    | .inner _ _ _ x y => Sb k x b ∨ Sb k y b
theorem Sb_dp : ∀ k a b, Sb k a b → k + dp b ≤ dp a := by
  intro k
  induction k with
  | zero => intro a b h; have h : a = b := h; rw [h]; omega
  | succ k ih =>
    intro a b h
    cases a with
    | leaf => exact h.elim
    | inner n c u x y =>
      have e : dp (.inner n c u x y : Tm) = max (dp x) (dp y) + 1 := rfl
      rcases h with h | h
      · have := ih x b h; omega
      · have := ih y b h; omega
theorem Sb_in : ∀ k a c x y, Sb k a (Nd c x y) → Sb (k + 1) a x ∧ Sb (k + 1) a y := by
  intro k
  induction k with
  | zero =>
    intro a c x y h
    have h : a = Nd c x y := h
    subst h
    exact ⟨Or.inl rfl, Or.inr rfl⟩
  | succ k ih =>
    intro a c x y h
    cases a with
    | leaf => exact h.elim
    | inner n c' u a b =>
      rcases h with h | h
      · obtain ⟨h1, h2⟩ := ih a c x y h
        exact ⟨Or.inl h1, Or.inl h2⟩
      · obtain ⟨h1, h2⟩ := ih b c x y h
        exact ⟨Or.inr h1, Or.inr h2⟩
theorem Sb_ap {n : Nat → Tm} : ∀ k a, wfE a → ∀ b, wfE b → Sb k a b → Sb k (ap n a) (ap n b) := by
  intro k
  induction k with
  | zero => intro a _ b _ h; have h : a = b := h; rw [h]; rfl
  | succ k ih =>
    intro a ha b hb h
    obtain ⟨c, x, y, rfl, hc⟩ := wfE_cases ha
    rcases hc with ⟨h1, rfl, rfl⟩ | ⟨h1, hx, rfl⟩ | ⟨h1, hx, hy⟩
    · exfalso
      have : Sb k Lf b := by rcases h with h | h <;> exact h
      cases k with
      | zero => have h3 : Lf = b := this; rw [← h3] at hb; exact hb.elim
      | succ k => exact this.elim
    · rw [ap_n (by omega)]
      rcases h with h | h
      · exact Or.inl (ih x hx b hb h)
      · exfalso
        cases k with
        | zero => have h3 : Lf = b := h; rw [← h3] at hb; exact hb.elim
        | succ k => exact h.elim
    · rw [ap_n (by omega)]
      rcases h with h | h
      · exact Or.inl (ih x hx b hb h)
      · exact Or.inr (ih y hy b hb h)
section
variable {d : Nat} {M M' : PM} {be : BT} {m : Nat → Tm} {ta : Nat → Nat} {s t u : Tm} {i j : Nat}
/-- one put in for a variable -/
abbrev sgl (v : Nat) (a : Tm) : Nat → Tm := fun w => if w = v then a else vr w
theorem sgl_no {v : Nat} {a : Tm} (hv : v < 12) : ∀ t, wfE t → vcd v ∉ en t → ap (sgl v a) t = t := by
  refine wfE_ind (fun c hc => ?_) (fun c b hc _ iha => ?_) (fun c b b' hc _ _ iha ihb => ?_)
  · intro h
    by_cases hvc : vE c
    · rw [ap_v hvc]
      have : vn c ≠ v := fun z => h (by rw [en_0, ← z, vcd_vn hvc]; simp)
      show (if vn c = v then a else vr (vn c)) = _
      rw [if_neg this]
      show Nd (vcd (vn c)) Lf Lf = _
      rw [vcd_vn hvc]
    · rw [ap_n hvc]; rfl
  · intro h
    rw [en_1] at h
    rw [ap_n (by omega), iha (fun z => h (by simp [z]))]; rfl
  · intro h
    rw [en_2] at h
    rw [ap_n (by omega), iha (fun z => h (by simp [z])), ihb (fun z => h (by simp [z]))]
/-- a variable that is bound to what it isn't in -/
theorem IMx.bind {v : Nat} (hI : IMx be m ta) (hv : v < 12) (hvb : be v = none) (hu : wfE u) (hus : sz u ≤ 40) (hd : dnB be u) (hn : vcd v ∉ en (ap m u)) : ∃ m' ta', IMx (va_up be v (some u)) m' ta' ∧ (∀ th, SolB (va_up be v (some u)) th ↔ SolB be th ∧ th v = ap th u) ∧ cntP (fun v' => (va_up be v (some u) v').isNone) 12 < cntP (fun v => (be v).isNone) 12 := by
  have hmv : m v = vr v := hI.2.1 v hv hvb
  have hwu := ap_wf hI.2.2.2.1 u hu
  have hS : ∀ th, SolB (va_up be v (some u)) th ↔ SolB be th ∧ th v = ap th u := by
    intro th
    constructor
    · intro h
      refine ⟨fun w x hw hx => ?_, ?_⟩
      · have : w ≠ v := fun z => by rw [z, hvb] at hx; cases hx
        exact h w x hw (by rw [up_at, if_neg this]; exact hx)
      · exact h v u hv (by rw [up_at, if_pos rfl])
    · rintro ⟨h1, h2⟩ w x hw hx
      rw [up_at] at hx
      by_cases e : w = v
      · rw [if_pos e] at hx; cases hx; rw [e]; exact h2
      · rw [if_neg e] at hx; exact h1 w x hw hx
  have hcnt := cntP_lt (p := fun w => (be w).isSome) (q := fun w => (va_up be v (some u) w).isSome) 12 v hv (fun i _ z => by
    rw [up_at]; split
    · rfl
    · exact z) (by simp [hvb]) (by rw [up_at, if_pos rfl]; rfl)
  have hcnt2 := cntP_lt (p := fun w => (va_up be v (some u) w).isNone) (q := fun w => (be w).isNone) 12 v hv (fun i _ z => by
    rw [up_at] at z; split at z
    · cases z
    · exact z) (by rw [up_at, if_pos rfl]; rfl) (by simp [hvb])
  refine ⟨fun w => ap (sgl v (ap m u)) (m w), va_up ta v (cntP (fun w => (be w).isSome) 12), ⟨?_, ?_, ?_, ?_, ?_⟩, hS, by omega⟩
  · intro w x hw hx
    rw [up_at] at hx
    by_cases e : w = v
    · rw [if_pos e] at hx
      cases hx
      refine ⟨⟨hu, hus⟩, ?_, by rw [up_at, if_pos e]; omega⟩
      show ap (sgl v (ap m u)) (m w) = _
      rw [e, hmv, ap_vr hv]
      show (if v = v then ap m u else vr v) = _
      rw [if_pos rfl]
      have h1 : ∀ t, wfE t → ap (fun w => ap (sgl v (ap m u)) (m w)) t = ap (sgl v (ap m u)) (ap m t) := by
        refine wfE_ind (fun c hc => ?_) (fun c b hc _ iha => ?_) (fun c b b' hc _ _ iha ihb => ?_)
        · by_cases hvc : vE c
          · rw [ap_v hvc, ap_v hvc]
          · rw [ap_n hvc, ap_n hvc, ap_n hvc]; rfl
        · rw [ap_n (by omega), ap_n (by omega), ap_n (by omega), iha]; rfl
        · rw [ap_n (by omega), ap_n (by omega), ap_n (by omega), iha, ihb]
      rw [h1 u hu, sgl_no hv _ hwu hn]
    · rw [if_neg e] at hx
      obtain ⟨h1, h2, h3⟩ := hI.1 w x hw hx
      refine ⟨h1, ?_, by rw [up_at, if_neg e]; omega⟩
      have h4 : ∀ t, wfE t → ap (fun w => ap (sgl v (ap m u)) (m w)) t = ap (sgl v (ap m u)) (ap m t) := by
        refine wfE_ind (fun c hc => ?_) (fun c b hc _ iha => ?_) (fun c b b' hc _ _ iha ihb => ?_)
        · by_cases hvc : vE c
          · rw [ap_v hvc, ap_v hvc]
          · rw [ap_n hvc, ap_n hvc, ap_n hvc]; rfl
        · rw [ap_n (by omega), ap_n (by omega), ap_n (by omega), iha]; rfl
        · rw [ap_n (by omega), ap_n (by omega), ap_n (by omega), iha, ihb]
      show ap (sgl v (ap m u)) (m w) = _
      rw [h4 x h1.1, ← h2]
  · intro w hw hx
    rw [up_at] at hx
    by_cases e : w = v
    · rw [if_pos e] at hx; cases hx
    · rw [if_neg e] at hx
      show ap (sgl v (ap m u)) (m w) = _
      rw [hI.2.1 w hw hx, ap_vr hw]
      exact if_neg e
  · intro w c a b hw hx hvc hb
    rw [up_at] at hx hb
    rw [up_at, up_at]
    by_cases e : w = v
    · rw [if_pos e] at hx
      cases hx
      obtain ⟨c', x, y, h1, h2⟩ := hd
      cases h1
      have h3 := h2 hvc
      by_cases e2 : vn c = v
      · exfalso
        apply hn
        rw [ap_v hvc, e2, hmv, en_0]; simp
      · rw [if_neg e2] at hb
        exact absurd h3 hb
    · rw [if_neg e] at hx
      have h1 := (hI.1 w _ hw hx).2.2
      by_cases e2 : vn c = v
      · rw [if_neg e, if_pos e2]; exact h1
      · rw [if_neg e2] at hb
        rw [if_neg e, if_neg e2]
        exact hI.2.2.1 w c a b hw hx hvc hb
  · intro w hw
    exact ap_wf (fun x hx => by
      show wfE (if x = v then ap m u else vr x)
      split
      · exact hwu
      · exact wfE_vr hx) _ (hI.2.2.2.1 w hw)
  · intro th hth w hw
    obtain ⟨h1, h2⟩ := (hS th).mp hth
    have h3 : ∀ x, x < 12 → th x = ap th (sgl v (ap m u) x) := by
      intro x hx
      show th x = ap th (if x = v then ap m u else vr x)
      by_cases e : x = v
      · rw [if_pos e, e, h2, hI.aq h1 hu]
      · rw [if_neg e, ap_vr hx]
    show th w = ap th (ap (sgl v (ap m u)) (m w))
    rw [ap_ap h3 _ (hI.2.2.2.1 w hw)]
    exact hI.2.2.2.2 th h1 w hw
theorem sol_in {v : Nat} (hv : v < 12) : ∀ t, wfE t → vcd v ∈ en t → ∀ th : Nat → Tm, sz (th v) ≤ sz (ap th t) ∧ (t ≠ vr v → sz (th v) < sz (ap th t)) := by
  refine wfE_ind (fun c hc => ?_) (fun c b hc hb iha => ?_) (fun c b b' hc hb hb' iha ihb => ?_)
  · intro h th
    rw [en_0, List.mem_singleton] at h
    subst h
    exact ⟨by rw [ap_vr hv]; exact Nat.le_refl _, fun z => absurd rfl z⟩
  · intro h th
    have hvc : ¬ vE c := by omega
    rw [en_1] at h
    rcases List.mem_cons.mp h with h | h
    · exact absurd (h ▸ vcd_E hv) hvc
    · have := (iha h th).1
      rw [ap_n hvc, sz_n]
      exact ⟨by omega, fun _ => by omega⟩
  · intro h th
    have hvc : ¬ vE c := by omega
    rw [en_2] at h
    rw [ap_n hvc, sz_n]
    rcases List.mem_cons.mp h with h | h
    · exact absurd (h ▸ vcd_E hv) hvc
    · rcases List.mem_append.mp h with h | h
      · have := (iha h th).1
        exact ⟨by omega, fun _ => by omega⟩
      · have := (ihb h th).1
        exact ⟨by omega, fun _ => by omega⟩
end
