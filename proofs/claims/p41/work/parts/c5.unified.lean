/-! THE LAW'S OWN METHODS over the state: true, and the state but for refusals, trace, fault, shelves as it was -/
def Sm (A A' : AT) : Prop := A'.1 = A.1 ∧ A'.2.1 = A.2.1
theorem Sm.rf {A : AT} : Sm A A := ⟨rfl, rfl⟩
theorem Sm.tr {A A' A'' : AT} (h : Sm A A') (h' : Sm A' A'') : Sm A A'' := ⟨h'.1.trans h.1, h'.2.trans h.2⟩
theorem Sm.rfs {A : AT} {k : Nat} : Sm A (rfs A k).2 := ⟨rfl, rfl⟩
/-- it answers v, the state behind it as Q says -/
def Ya (M : PM) (Q : AT → Prop) (v : Int32) (o : PO) : Prop := ∃ M' A', o = rI v M' ∧ RX A' M' ∧ AOk A' ∧ Q A' ∧ Hi M M'
theorem Ya.weak {M : PM} {Q Q' : AT → Prop} {v : Int32} {o : PO} (h : Ya M Q v o) (hQ : ∀ A, Q A → Q' A) : Ya M Q' v o := by
  obtain ⟨M', A', h1, h2, h3, h4, h5⟩ := h
  exact ⟨M', A', h1, h2, h3, hQ _ h4, h5⟩
theorem ya_I {d id : Nat} {vs : List Value} {M : PM} {ra : Int32 × AT} {Q : AT → Prop} {v : Int32} {g : Int32 → PM → PO} (hx : XI (pcl GG lay d id vs M) M ra) (h : ∀ M1, RX ra.2 M1 → Ya M1 Q v (g ra.1 M1)) : Ya M Q v (kI (pcl GG laz d id vs M) g) := by
  obtain ⟨M1, e, h1, h2⟩ := hx.up
  obtain ⟨M', A', k1, k2, k3, k4, k5⟩ := h M1 h1
  exact ⟨M', A', by rw [e, kI_r]; exact k1, k2, k3, k4, h2.trans k5⟩
theorem ya_L {d id : Nat} {vs : List Value} {M : PM} {ra : Int64 × AT} {Q : AT → Prop} {v : Int32} {g : Int64 → PM → PO} (hx : XL (pcl GG lay d id vs M) M ra) (h : ∀ M1, RX ra.2 M1 → Ya M1 Q v (g ra.1 M1)) : Ya M Q v (kL (pcl GG laz d id vs M) g) := by
  obtain ⟨M1, e, h1, h2⟩ := hx.up
  obtain ⟨M', A', k1, k2, k3, k4, k5⟩ := h M1 h1
  exact ⟨M', A', by rw [e, kL_r]; exact k1, k2, k3, k4, h2.trans k5⟩
theorem ya_1 {M : PM} {A : AT} {Q : AT → Prop} (h : RX A M) (hA : AOk A) (hQ : Q A) : Ya M Q (jn 1) (rZ (jn 1) M) := ⟨M, A, by unfold rZ; rw [if_pos (Or.inr rfl)], h, hA, hQ, Hi.rf⟩
theorem ya_eq {M : PM} {Q : AT → Prop} {v : Int32} {a b : Int32} {x y : PO} (e : a = b) (h : Ya M Q v x) : Ya M Q v (if a = b then x else y) := by rw [if_pos e]; exact h
theorem ya_ne {M : PM} {Q : AT → Prop} {v : Int32} {a b : Int32} {x y : PO} (e : a ≠ b) (h : Ya M Q v y) : Ya M Q v (if a = b then x else y) := by rw [if_neg e]; exact h
theorem ya_lt {M : PM} {Q : AT → Prop} {v : Int32} {a b : Int32} {x y : PO} (e : a < b) (h : Ya M Q v x) : Ya M Q v (if a < b then x else y) := by rw [if_pos e]; exact h
theorem ya_nlt {M : PM} {Q : AT → Prop} {v : Int32} {a b : Int32} {x y : PO} (e : ¬ a < b) (h : Ya M Q v y) : Ya M Q v (if a < b then x else y) := by rw [if_neg e]; exact h
/-! terms by number; one more, one less -/
abbrev pt (A : AT) (t : Tm) : AT := setK A (tsA A ++ [t], A.1.2)
theorem addT_pt {A : AT} {t : Tm} (h : (tsA A).length < 24) : addT A t = (jn (tsA A).length, pt A t) := by unfold addT; rw [if_pos h]
theorem drop_pt {A : AT} {t : Tm} : F_drop (pt A t) = (jn (tsA A).length, A) := by
  unfold F_drop
  have e : (tsA (pt A t)).length = (tsA A).length + 1 := by show (tsA A ++ [t]).length = _; rw [List.length_append]; rfl
  rw [if_neg (by rw [e]; omega), e]
  have e2 : (tsA (pt A t)).dropLast = tsA A := by show (tsA A ++ [t]).dropLast = _; exact List.dropLast_concat
  rw [e2]
  rfl
theorem len_pt {A : AT} {t : Tm} : (tsA (pt A t)).length = (tsA A).length + 1 := by show (tsA A ++ [t]).length = _; rw [List.length_append]; rfl
theorem at_pt {A : AT} {t u : Tm} {k : Nat} (h : (tsA A)[k]? = some u) : (tsA (pt A t))[k]? = some u := by
  show (tsA A ++ [t])[k]? = some u
  rw [List.getElem?_append_left (List.getElem?_eq_some_iff.mp h).1]
  exact h
theorem at_new {A : AT} {t : Tm} : (tsA (pt A t))[(tsA A).length]? = some t := by
  show (tsA A ++ [t])[(tsA A).length]? = some t
  rw [List.getElem?_append_right (Nat.le_refl _), Nat.sub_self]
  rfl
theorem tm_at {A : AT} {k : Nat} {t : Tm} (hA : AOk A) (h : (tsA A)[k]? = some t) : hsT A (jn k) ∧ tmN A (jn k) = t ∧ wf t ∧ sz t ≤ 40 := by
  obtain ⟨h1, h2, h3⟩ := tm_ok hA h
  have hl : k < (tsA A).length := (List.getElem?_eq_some_iff.mp h).1
  refine ⟨⟨?_, ?_⟩, ?_, h1, h2⟩
  · rw [jn_toInt (by omega)]; omega
  · rw [jn_toInt (by omega)]; omega
  · rw [tmN, jnN (by omega), List.getD_eq_getElem?_getD, h]; rfl
theorem ok_pt {A : AT} {t : Tm} (hA : AOk A) (hl : (tsA A).length < 24) (ht : wf t) (hs : sz t ≤ 40) : AOk (pt A t) := by
  have := k_addT hA ht hs
  rw [addT_pt hl] at this
  exact this
theorem ok_rfs {A : AT} {k : Nat} (hA : AOk A) : AOk (rfs A k).2 := hA
/-! unified -/
section
variable {d n a b : Nat} {A : AT} {M : PM} {T U : Tm}
theorem F_unify_ok (hA : AOk A) (ha : (tsA A)[a]? = some T) (hb : (tsA A)[b]? = some U) : F_unify A (jn a) (jn b) = if 3 < nvr (en T) then rfs A 5 else if 3 < nvr (en U) then rfs A 5 else match mgO T (apt U) with
    | none => rfs A 6
    | some m => if 40 < sz (ap m T) then rfs A 7 else addT A (treeOf (o1 m T).1) := by
  obtain ⟨a1, a2, -⟩ := tm_at hA ha
  obtain ⟨b1, b2, -⟩ := tm_at hA hb
  unfold F_unify
  rw [if_neg (fun h => h a1), if_neg (fun h => h b1), a2, b2]
  by_cases h1 : 3 < nvr (en T)
  · rw [if_pos h1, if_pos h1]
  rw [if_neg h1, if_neg h1]
  by_cases h2 : 3 < nvr (en U)
  · rw [if_pos h2, if_pos h2]
  rw [if_neg h2, if_neg h2]
  cases mgO T (apt U) <;> rfl
theorem F_bound_a (hA : AOk A) (ha : (tsA A)[a]? = some T) (hb : (tsA A)[b]? = some U) (h : (mat (cmA A) T U).isSome = true) : F_bound A (jn a) (jn b) (jn 97) (jn 0) = rfs A 5 := by
  obtain ⟨a1, a2, -⟩ := tm_at hA ha
  obtain ⟨b1, b2, -⟩ := tm_at hA hb
  unfold F_bound
  rw [if_neg (fun h => h a1), if_neg (fun h => h b1), a2, b2]
  cases e : mat (cmA A) T U with
  | none => rw [e] at h; cases h
  | some E =>
    simp only
    rw [if_neg]
    decide +kernel
theorem F_same_0 (hA : AOk A) (ha : (tsA A)[a]? = some T) (hb : (tsA A)[b]? = some T) : F_same A (jn a) (jn b) = (jn 0, A) := by
  obtain ⟨a1, a2, -⟩ := tm_at hA ha
  obtain ⟨b1, b2, -⟩ := tm_at hA hb
  unfold F_same
  rw [if_neg (fun h => h a1), if_neg (fun h => h b1), a2, b2, if_pos rfl]
theorem z_neg {k : Nat} (h : 5 ≤ k) (h' : k ≤ 7) : jz k < jn 0 ∧ jz 8 < jz k := by
  have : k = 5 ∨ k = 6 ∨ k = 7 := by omega
  rcases this with rfl | rfl | rfl <;> decide +kernel
theorem n_nneg {n : Nat} (h : n < 1000) : ¬ jn n < jn 0 := by
  rw [Int32.lt_iff_toInt_lt, jn_toInt (by omega), jn_toInt (by omega)]
  omega
/-- refused both ways -/
theorem un_ref {k : Nat} (hd : 15 ≤ d) (hA : AOk A) (h : RX A M) (hk : 5 ≤ k) (hk' : k ≤ 7) (e1 : F_unify A (jn a) (jn b) = rfs A k) (e2 : F_unify (rfs A k).2 (jn b) (jn a) = rfs (rfs A k).2 k) : Ya M (Sm A) (jn 1) (pcl GG laz d 78 [.ref 0, .int (jn a), .int (jn b), .int (jn n)] M) := by
  obtain ⟨d, rfl⟩ := ex_add (show 1 ≤ d by omega)
  rw [q_78]
  have x1 := x_unify (a := jn a) (b := jn b) (show 14 ≤ d by omega) hA h
  rw [e1] at x1
  refine ya_I x1 (fun M1 h1 => ?_)
  obtain ⟨z1, z2⟩ := z_neg hk hk'
  refine ya_lt z1 (ya_lt z2 ?_)
  have x2 := x_unify (a := jn b) (b := jn a) (show 14 ≤ d by omega) (ok_rfs hA) h1
  rw [e2] at x2
  refine ya_I x2 (fun M2 h2 => ya_eq rfl (ya_1 h2 (ok_rfs (ok_rfs hA)) (Sm.rfs.tr Sm.rfs)))
theorem l_unified (hd : 61 ≤ d) (hA : AOk A) (h : RX A M) (hn : (tsA A).length = n) (hn4 : n ≤ 20) (ha : (tsA A)[a]? = some T) (hb : (tsA A)[b]? = some U) : Ya M (Sm A) (jn 1) (pcl GG laz d 78 [.ref 0, .int (jn a), .int (jn b), .int (jn n)] M) := by
  obtain ⟨a1, a2, a3, a4⟩ := tm_at hA ha
  obtain ⟨b1, b2, b3, b4⟩ := tm_at hA hb
  have f1 := F_unify_ok hA ha hb
  have f2 : ∀ k, F_unify (rfs A k).2 (jn b) (jn a) = _ := fun k => F_unify_ok (A := (rfs A k).2) (ok_rfs hA) hb ha
  by_cases v1 : 3 < nvr (en T)
  · rw [if_pos v1] at f1
    refine un_ref (k := 5) (by omega) hA h (by omega) (by omega) f1 ?_
    rw [f2, if_pos v1]
    split <;> rfl
  rw [if_neg v1] at f1
  by_cases v2 : 3 < nvr (en U)
  · rw [if_pos v2] at f1
    refine un_ref (k := 5) (by omega) hA h (by omega) (by omega) f1 ?_
    rw [f2, if_pos v2]
  rw [if_neg v2] at f1
  cases hm : mgO T (apt U) with
  | none =>
    rw [hm] at f1
    refine un_ref (k := 6) (by omega) hA h (by omega) (by omega) f1 ?_
    rw [f2, if_neg v2, if_neg v1, un_none a3 b3 hm]
  | some m =>
    rw [hm] at f1
    simp only at f1
    obtain ⟨m', w1, w2, w3, w4⟩ := un_some a3 b3 hm
    by_cases v4 : 40 < sz (ap m T)
    · rw [if_pos v4] at f1
      refine un_ref (k := 7) (by omega) hA h (by omega) (by omega) f1 ?_
      rw [f2, if_neg v2, if_neg v1, w1]
      simp only
      rw [w3, if_pos v4]
    rw [if_neg v4] at f1
    have hM := mgO_some hm
    obtain ⟨R1, R2, R3⟩ := treeOf_ok (un_tree a3 b3 (by omega) (by omega) hM (by omega))
    obtain ⟨th, th', i1, i2⟩ := un_inst a3 b3 (by omega) (by omega) hM (by omega)
    generalize treeOf (o1 m T).1 = R at f1 R1 R2 R3 i1 i2
    have w5 : treeOf (o1 m' U).1 = R := by
      have k := treeOf_ok (o := (o1 m' U).1) ⟨R, R1, by rw [R2, w4], R3⟩
      exact en_inj1 k.1 R1 (by rw [k.2.1, R2, w4])
    rw [addT_pt (by omega)] at f1
    have hA1 : AOk (pt A R) := ok_pt hA (by omega) R1 R3
    obtain ⟨d, rfl⟩ := ex_add (show 1 ≤ d by omega)
    rw [q_78]
    have x1 := x_unify (a := jn a) (b := jn b) (show 14 ≤ d by omega) hA h
    rw [f1] at x1
    refine ya_I x1 (fun M1 h1 => ya_nlt (n_nneg (by omega)) (ya_eq (by rw [hn]) ?_))
    have hN : (tsA (pt A R))[n]? = some R := by rw [← hn]; exact at_new
    have x2 := x_bound (a := jn a) (b := jn n) (c := jn 97) (e := jn 0) (show 10 ≤ d by omega) hA1 h1
    rw [F_bound_a hA1 (at_pt ha) hN (by rw [i1]; exact mat_inst a3)] at x2
    refine ya_I x2 (fun M2 h2 => ya_eq rfl ?_)
    have x3 := x_bound (a := jn b) (b := jn n) (c := jn 97) (e := jn 0) (show 10 ≤ d by omega) (ok_rfs (k := 5) hA1) h2
    rw [F_bound_a (A := (rfs (pt A R) 5).2) (ok_rfs hA1) (at_pt hb) hN (by rw [i2]; exact mat_inst b3)] at x3
    refine ya_I x3 (fun M3 h3 => ya_eq rfl ?_)
    have hA3 : AOk (rfs (rfs (pt A R) 5).2 5).2 := ok_rfs (ok_rfs hA1)
    have x4 := x_unify (a := jn b) (b := jn a) (show 14 ≤ d by omega) hA3 h3
    have f4 := F_unify_ok (A := (rfs (rfs (pt A R) 5).2 5).2) hA3 (at_pt hb) (at_pt ha)
    rw [if_neg v2, if_neg v1, w1] at f4
    simp only at f4
    rw [w3, if_neg v4, w5, addT_pt (by show (tsA (pt A R)).length < 24; rw [len_pt]; omega)] at f4
    rw [f4] at x4
    have e5 : (tsA (rfs (rfs (pt A R) 5).2 5).2).length = n + 1 := by show (tsA (pt A R)).length = _; rw [len_pt, hn]
    have hA4 : AOk (pt (rfs (rfs (pt A R) 5).2 5).2 R) := ok_pt hA3 (by omega) R1 R3
    refine ya_I x4 (fun M4 h4 => ya_eq (by show jn (tsA (rfs (rfs (pt A R) 5).2 5).2).length = _; rw [e5, jn_add]) ?_)
    have x5 := x_same (a := jn n) (b := jn n + jn 1) (show 60 ≤ d by omega) hA4 h4
    rw [show jn n + jn 1 = jn (n + 1) by rw [jn_add]] at x5
    rw [F_same_0 hA4 (at_pt hN) (by rw [← e5]; exact at_new)] at x5
    rw [show jn n + jn 1 = jn (n + 1) by rw [jn_add]]
    refine ya_I x5 (fun M5 h5 => ya_eq rfl ?_)
    have x6 := x_drop (show 3 ≤ d by omega) hA4 h5
    rw [drop_pt] at x6
    refine ya_I x6 (fun M6 h6 => ya_eq (by rw [e5]) ?_)
    have x7 := x_drop (show 3 ≤ d by omega) hA3 h6
    have e7 : F_drop (rfs (rfs (pt A R) 5).2 5).2 = (jn n, (rfs (rfs A 5).2 5).2) := by
      have := drop_pt (A := (rfs (rfs A 5).2 5).2) (t := R)
      rw [show (tsA (rfs (rfs A 5).2 5).2).length = n from hn] at this
      exact this
    rw [e7] at x7
    exact ya_I x7 (fun M7 h7 => ya_eq rfl (ya_1 h7 (ok_rfs (ok_rfs hA)) (Sm.rfs.tr Sm.rfs)))
end
