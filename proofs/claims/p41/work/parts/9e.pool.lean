/-! the model's unifying: the pool, what variables stand for -/
abbrev sgE (c : Int32) : Prop := is0E c ∨ is1 c ∨ is2 c
theorem arN_E {c : Int32} (h : vE c) : arN c = 0 := by unfold arN; rw [if_neg (by omega), if_neg (by omega)]
theorem pre_loopE {f : Nat → Int32} {B : Nat} {G : Nat → Nat → Prop} (hs : ∀ i o, i < B → sgE (f i) → G i (o + 1) → G (i + 1) (o + arN (f i))) : ∀ t, wfE t → ∀ i o, At f i (en t) → i + sz t ≤ B → G i (o + 1) → G (i + sz t) o := by
  refine wfE_ind (fun c hc => ?_) (fun c a hc ha iha => ?_) (fun c a b hc ha hb iha ihb => ?_)
  · intro i o hA hi hG
    rw [sz_0] at *
    have h := hs i o (by omega) (by rw [hA.1]; exact Or.inl hc) hG
    have e : arN c = 0 := by unfold arN; rw [if_neg (by omega), if_neg (by omega)]
    rw [hA.1, e] at h
    exact h
  · intro i o hA hi hG
    rw [sz_1] at *
    rw [en_1] at hA
    have h := hs i o (by omega) (by rw [hA.1]; exact Or.inr (Or.inl hc)) hG
    rw [hA.1, arN_1 hc] at h
    have := iha (i + 1) o hA.2 (by omega) h
    rwa [show i + 1 + sz a = i + (sz a + 1) by omega] at this
  · intro i o hA hi hG
    rw [sz_2] at *
    rw [en_2] at hA
    obtain ⟨h1, h2, h3⟩ : _ ∧ _ ∧ _ := ⟨hA.1, (At_app _ _ _).mp hA.2⟩
    have h := hs i o (by omega) (by rw [h1]; exact Or.inr (Or.inr hc)) hG
    rw [h1, arN_2 hc] at h
    have h4 := iha (i + 1) (o + 1) h2 (by omega) h
    have := ihb (i + 1 + sz a) o h3 (by omega) h4
    rwa [show i + 1 + sz a + sz b = i + (sz a + sz b + 1) by omega] at this
section
variable {d : Nat} {A : AT} {M M' : PM} {c : Int32} {t u : Tm} {i : Nat}
/-- a tree in the pool -/
def PT (M : PM) (i : Nat) (t : Tm) : Prop := (wfE t ∧ sz t ≤ 40) ∧ i + sz t ≤ 160 ∧ At (M.1 75) i (en t)
theorem PT.eq (h : PT M i t) (h75 : M'.1 75 = M.1 75) : PT M' i t := by unfold PT; rw [h75]; exact h
theorem PT.s {c : Int32} {x y : Tm} (h : PT M i (Nd c x y)) : M.1 75 i = c ∧ sgE c ∧ i < 160 := by
  obtain ⟨⟨h1, h2⟩, h3, h4⟩ := h
  rw [en_n] at h4
  rw [sz_n] at h3
  refine ⟨h4.1, ?_, by omega⟩
  obtain ⟨-, h | h | h⟩ := h1
  · exact Or.inl h.1
  · exact Or.inr (Or.inl h.1)
  · exact Or.inr (Or.inr h.1)
theorem PT.x {c : Int32} {x y : Tm} (h : PT M i (Nd c x y)) (hx : wfE x) : PT M (i + 1) x := by
  obtain ⟨⟨h1, h2⟩, h3, h4⟩ := h
  rw [en_n] at h4
  rw [sz_n] at h3 h2
  exact ⟨⟨hx, by omega⟩, by omega, ((At_app _ _ _).mp h4.2).1⟩
theorem PT.y {c : Int32} {x y : Tm} (h : PT M i (Nd c x y)) (hy : wfE y) : PT M (i + 1 + sz x) y := by
  obtain ⟨⟨h1, h2⟩, h3, h4⟩ := h
  rw [en_n] at h4
  rw [sz_n] at h3 h2
  exact ⟨⟨hy, by omega⟩, by omega, ((At_app _ _ _).mp h4.2).2⟩
end
/-! what is bound, and what that comes to -/
abbrev BT : Type := Nat → Option Tm
def SolB (be : BT) (th : Nat → Tm) : Prop := ∀ v u, v < 12 → be v = some u → th v = ap th u
def IMx (be : BT) (m : Nat → Tm) (ta : Nat → Nat) : Prop :=
  (∀ v u, v < 12 → be v = some u → (wfE u ∧ sz u ≤ 40) ∧ m v = ap m u ∧ ta v < cntP (fun v => (be v).isSome) 12) ∧ (∀ v, v < 12 → be v = none → m v = vr v) ∧
  (∀ v c a b, v < 12 → be v = some (Nd c a b) → vE c → be (vn c) ≠ none → ta v < ta (vn c)) ∧ (∀ v, v < 12 → wfE (m v)) ∧ ∀ th, SolB be th → ∀ v, v < 12 → th v = ap th (m v)
theorem IMx.sol {be : BT} {m : Nat → Tm} {ta : Nat → Nat} (h : IMx be m ta) : SolB be m := fun v u hv hu => (h.1 v u hv hu).2.1
theorem IMx.aq {be : BT} {m : Nat → Tm} {ta : Nat → Nat} (h : IMx be m ta) {th : Nat → Tm} (hth : SolB be th) {t : Tm} (ht : wfE t) : ap th (ap m t) = ap th t := ap_ap (h.2.2.2.2 th hth) t ht
def BN (be : BT) (M : PM) : Prop := ∀ v, v < 12 → match be v with
  | none => M.1 76 v = jz 1
  | some u => ∃ i, M.1 76 v = jn i ∧ PT M i u
/-- it is what it stands for -/
def dnB (be : BT) (t : Tm) : Prop := ∃ c x y, t = Nd c x y ∧ (vE c → be (vn c) = none)
section
variable {d : Nat} {M M' : PM} {be : BT} {m : Nat → Tm} {ta : Nat → Nat} {t u : Tm} {i : Nat}
/-! how deep what is put in can be -/
theorem dp_ap {n : Nat → Tm} {K : Nat} : ∀ t, wfE t → (∀ c, c ∈ en t → vE c → dp (n (vn c)) ≤ K) → dp (ap n t) ≤ dp t + K := by
  refine wfE_ind (fun c hc => ?_) (fun c a hc _ iha => ?_) (fun c a b hc _ _ iha ihb => ?_)
  · intro h
    by_cases hv : vE c
    · rw [ap_v hv]; have := h c (by rw [en_0]; simp) hv; omega
    · rw [ap_n hv]; show dp (Nd c Lf Lf) ≤ _; omega
  · intro h
    have hv : ¬ vE c := by omega
    have := iha (fun x hx => h x (by rw [en_1]; simp [hx]))
    rw [ap_n hv]
    show max (dp (ap n a)) 0 + 1 ≤ max (dp a) 0 + 1 + K
    omega
  · intro h
    have hv : ¬ vE c := by omega
    have h1 := iha (fun x hx => h x (by rw [en_2]; simp [hx]))
    have h2 := ihb (fun x hx => h x (by rw [en_2]; simp [hx]))
    rw [ap_n hv]
    show max (dp (ap n a)) (dp (ap n b)) + 1 ≤ max (dp a) (dp b) + 1 + K
    omega
theorem sz_ap_v {n : Nat → Tm} (hn : ∀ v, v < 12 → wfE (n v)) : ∀ t, wfE t → ∀ c, c ∈ en t → vE c → sz (n (vn c)) ≤ sz (ap n t) ∧ ((∃ c' x y, t = Nd c' x y ∧ ¬ vE c') → sz (n (vn c)) < sz (ap n t)) := by
  refine wfE_ind (fun c hc => ?_) (fun c a hc ha iha => ?_) (fun c a b hc ha hb iha ihb => ?_)
  · intro x hx hv
    rw [en_0, List.mem_singleton] at hx
    subst hx
    rw [ap_v hv]
    refine ⟨Nat.le_refl _, ?_⟩
    rintro ⟨c', x', y', h, h2⟩
    cases h
    exact absurd hv h2
  · intro x hx hv
    have hc' : ¬ vE c := by omega
    rw [en_1] at hx
    rcases List.mem_cons.mp hx with rfl | hx
    · exact absurd hv hc'
    · have := (iha x hx hv).1
      rw [ap_n hc', sz_n]
      exact ⟨by omega, fun _ => by omega⟩
  · intro x hx hv
    have hc' : ¬ vE c := by omega
    rw [en_2] at hx
    rcases List.mem_cons.mp hx with rfl | hx
    · exact absurd hv hc'
    · rw [ap_n hc', sz_n]
      rcases List.mem_append.mp hx with hx | hx
      · have := (iha x hx hv).1
        exact ⟨by omega, fun _ => by omega⟩
      · have := (ihb x hx hv).1
        exact ⟨by omega, fun _ => by omega⟩
/-- deeper ones first -/
def rkB (m : Nat → Tm) (ta : Nat → Nat) (v : Nat) : Nat := sz (m v) * 16 + (15 - ta v)
theorem rkB_lt (hI : IMx be m ta) {v : Nat} {u : Tm} (hv : v < 12) (hu : be v = some u) {c : Int32} (hc : c ∈ en u) (hvc : vE c) (hb : be (vn c) ≠ none) : rkB m ta (vn c) < rkB m ta v := by
  obtain ⟨⟨h1, h2⟩, h3, h4⟩ := hI.1 v u hv hu
  have h5 := cntP_le (fun v => (be v).isSome) 12
  obtain ⟨c', x, y, rfl, -⟩ := wfE_cases h1
  obtain ⟨z1, z2⟩ := sz_ap_v hI.2.2.2.1 _ h1 c hc hvc
  rw [← h3] at z1 z2
  unfold rkB
  by_cases hv' : vE c'
  · have hx : en (Nd c' x y) = [c'] := by
      obtain ⟨-, h | h | h⟩ := h1
      · rw [h.2.1, h.2.2]; rfl
      · omega
      · omega
    rw [hx, List.mem_singleton] at hc
    subst hc
    have := hI.2.2.1 v c x y hv hu hvc hb
    omega
  · have := z2 ⟨c', x, y, rfl, hv'⟩
    omega
theorem dp_var (hI : IMx be m ta) : ∀ K v, v < 12 → rkB m ta v < K → dp (m v) ≤ 1 + 40 * cntP (fun w => (be w).isSome && decide (rkB m ta w < K)) 12 := by
  intro K
  induction K using Nat.strongRecOn with
  | ind K ih =>
    intro v hv hK
    cases hb : be v with
    | none =>
      rw [hI.2.1 v hv hb]
      show dp (Nd (vcd v) Lf Lf) ≤ _
      have : dp (Nd (vcd v) Lf Lf) = 1 := rfl
      omega
    | some u =>
      obtain ⟨⟨h1, h2⟩, h3, h4⟩ := hI.1 v u hv hb
      have hdu := dp_le u
      have key := dp_ap (n := m) (K := 1 + 40 * cntP (fun w => (be w).isSome && decide (rkB m ta w < rkB m ta v)) 12) u h1 (fun c hc hvc => by
        cases hbc : be (vn c) with
        | none =>
          rw [hI.2.1 _ (vn_lt hvc) hbc]
          have : dp (vr (vn c)) = 1 := rfl
          omega
        | some u' => exact ih (rkB m ta v) hK (vn c) (vn_lt hvc) (rkB_lt hI hv hb hc hvc (by rw [hbc]; simp)))
      have hlt := cntP_lt (p := fun w => (be w).isSome && decide (rkB m ta w < rkB m ta v)) (q := fun w => (be w).isSome && decide (rkB m ta w < K)) 12 v hv (fun i _ z => by
        simp only [Bool.and_eq_true, decide_eq_true_eq] at z ⊢
        exact ⟨z.1, by omega⟩) (by simp) (by simp [hb, hK])
      rw [h3]
      omega
theorem dp_521 (hI : IMx be m ta) {t : Tm} (ht : wfE t) (hs : sz t ≤ 40) : dp (ap m t) ≤ 521 := by
  have h1 := dp_ap (n := m) (K := 481) t ht (fun c hc hv => by
    have := dp_var hI (rkB m ta (vn c) + 1) (vn c) (vn_lt hv) (by omega)
    have h2 := cntP_le (fun w => (be w).isSome && decide (rkB m ta w < rkB m ta (vn c) + 1)) 12
    omega)
  have := dp_le t
  omega
end
