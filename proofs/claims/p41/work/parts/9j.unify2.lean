/-! unify: what is asked; the model's side -/
/-- another tree at a place of the pool -/
def fB (t : Tm) (i node : Nat) (rq : Tm) : Tm := if i ≤ node ∧ node < i + sz t then rep t (node - i) rq else t
theorem fB_n {c : Int32} {a b rq : Tm} {i node : Nat} (h1 : i < node) (h2 : node < i + (sz a + sz b + 1)) : fB (Nd c a b) i node rq = Nd c (fB a (i + 1) node rq) (fB b (i + 1 + sz a) node rq) := by
  unfold fB
  rw [if_pos (by rw [sz_n]; omega)]
  show (if node - i = 0 then rq else if node - i ≤ sz a then Nd c (rep a (node - i - 1) rq) b else Nd c a (rep b (node - i - 1 - sz a) rq)) = _
  rw [if_neg (by omega)]
  by_cases h : node - i ≤ sz a
  · rw [if_pos h, if_pos (by omega), if_neg (by omega), show node - (i + 1) = node - i - 1 by omega]
  · rw [if_neg h, if_neg (by omega), if_pos (by omega), show node - (i + 1 + sz a) = node - i - 1 - sz a by omega]
theorem fB_wf {rq : Tm} (hq : wfE rq) : ∀ t, wfE t → ∀ i node, wfE (fB t i node rq) := by
  refine wfE_ind (fun c hc => ?_) (fun c a hc ha iha => ?_) (fun c a b hc ha hb iha ihb => ?_)
  all_goals intro i node
  · by_cases h : i = node
    · unfold fB
      rw [if_pos (by rw [sz_0]; omega), h, Nat.sub_self]
      exact hq
    · unfold fB
      rw [if_neg (by rw [sz_0]; omega)]
      exact wfE_0 hc
  · by_cases h : i = node
    · unfold fB
      rw [if_pos (by rw [sz_1]; omega), h, Nat.sub_self]
      exact hq
    by_cases h2 : i < node ∧ node < i + (sz a + sz Lf + 1)
    · rw [fB_n h2.1 h2.2]
      have e : fB Lf (i + 1 + sz a) node rq = Lf := by
        unfold fB
        have zl : sz Lf = 0 := rfl
        rw [if_neg (by omega)]
      rw [e]
      exact wfE_1 hc (iha _ _)
    · unfold fB
      have zl : sz Lf = 0 := rfl
      rw [if_neg (by rw [sz_1]; omega)]
      exact wfE_1 hc ha
  · by_cases h : i = node
    · unfold fB
      rw [if_pos (by rw [sz_2]; omega), h, Nat.sub_self]
      exact hq
    by_cases h2 : i < node ∧ node < i + (sz a + sz b + 1)
    · rw [fB_n h2.1 h2.2]
      exact wfE_2 hc (iha _ _) (ihb _ _)
    · unfold fB
      rw [if_neg (by rw [sz_2]; omega)]
      exact wfE_2 hc ha hb
section
variable {d : Nat} {A : AT} {M M' : PM} {be : BT} {m : Nat → Tm} {ta : Nat → Nat} {s t u rq : Tm} {i j x had node : Nat} {nm : List Int32}
theorem PutR.k {l : List Int32} {X : PO} (h : PutR x had nm l M X) : PutR x had nm l M (kI X fun r M => rI r M) := by
  obtain ⟨M', h1, h2⟩ := h
  exact ⟨M', by rw [h1, kI_r], h2⟩
end
noncomputable def F_unify (A : AT) (a b : Int32) : Int32 × AT := if ¬ hsT A a then rfs A 1 else if ¬ hsT A b then rfs A 1 else if 3 < nvr (en (tmN A a)) then rfs A 5 else if 3 < nvr (en (tmN A b)) then rfs A 5 else match mgO (tmN A a) (apt (tmN A b)) with
  | none => rfs A 6
  | some m => if 40 < sz (ap m (tmN A a)) then rfs A 7 else addT A (treeOf (o1 m (tmN A a)).1)
theorem un_tree {m : Nat → Tm} {s t : Tm} (hs : wf s) (ht : wf t) (h3 : nvr (en s) ≤ 3) (h4 : nvr (en t) ≤ 3) (hm : Mgu m s (apt t)) (h40 : sz (ap m s) ≤ 40) : ∃ t', wf t' ∧ en t' = (o1 m s).1 ∧ sz t' ≤ 40 := by
  have hv : ∀ c ∈ en s, vE c → isV c := fun c hc hv => by have := sg_en s hs c hc; omega
  have h6 := names6 (wfE_of s hs) (apt_wf t ht) hm (p := s) (q := t) ht h3 h4 (fun c hc => hc) rfl [s] (fun u hu => by
    rw [List.mem_singleton] at hu
    subst hu
    exact ⟨wfE_of u hs, fun c hc hvc => Or.inl ⟨hc, hv c hc hvc⟩⟩) hv
  simp only [List.flatMap_cons, List.flatMap_nil, List.append_nil] at h6
  obtain ⟨t', h1, h2⟩ := named (ap m s) (ap_wf hm.1 s (wfE_of s hs)) [] h6
  refine ⟨t', h1, h2, ?_⟩
  show (en t').length ≤ 40
  rw [h2, cnS_len]; exact h40
section
variable {d : Nat} {A : AT} {M M' : PM} {a b c e f : Int32}
theorem k_unify (hA : AOk A) : AOk (F_unify A a b).2 := by
  unfold F_unify
  by_cases h1 : hsT A a
  case neg => rw [if_pos h1]; exact hA
  by_cases h2 : hsT A b
  case neg => rw [if_neg (Classical.not_not.mpr h1), if_pos h2]; exact hA
  rw [if_neg (Classical.not_not.mpr h1), if_neg (Classical.not_not.mpr h2)]
  obtain ⟨n, s, rfl, k1, k2, k3, k4, k5⟩ := ts_of hA h1
  obtain ⟨n', t, rfl, i1, i2, i3, i4, i5⟩ := ts_of hA h2
  rw [k2, i2]
  split
  · exact hA
  split
  · exact hA
  rename_i h3 h4
  cases hm : mgO s (apt t) with
  | none => exact hA
  | some m =>
    simp only
    split
    · exact hA
    · obtain ⟨w1, w2, w3⟩ := treeOf_ok (un_tree k3 i3 (by omega) (by omega) (mgO_some hm) (by omega))
      exact k_addT hA w1 w3
theorem IMx_0 : IMx (fun _ => none) vr (fun _ => 0) := ⟨fun v u _ h => (by cases h), fun _ _ _ => rfl, fun v c a b _ h => (by cases h), fun v hv => wfE_vr hv, fun th _ v hv => (ap_vr hv).symm⟩
end
