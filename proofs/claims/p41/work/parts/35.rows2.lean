/-! set, copy, element, show, holds -/
theorem lcmp_gt {a b c : Int32} : (jn 0 < lg_cmp (a.toInt64 + b.toInt64) c.toInt64) = (c.toInt < a.toInt + b.toInt) := by
  have h1 := a.toInt_lt; have h2 := a.le_toInt; have h3 := b.toInt_lt; have h4 := b.le_toInt; have h5 := c.toInt_lt; have h6 := c.le_toInt
  have e : (a.toInt64 + b.toInt64).toInt = a.toInt + b.toInt := by
    rw [Int64.toInt_add, Int32.toInt_toInt64, Int32.toInt_toInt64]
    exact Int.bmod_eq_of_le (by omega) (by omega)
  unfold lg_cmp
  by_cases h : c.toInt < a.toInt + b.toInt
  · rw [if_pos (show a.toInt64 + b.toInt64 > c.toInt64 from Int64.lt_iff_toInt_lt.mpr (by rw [e, Int32.toInt_toInt64]; exact h))]
    simp only [h, eq_iff_iff, iff_true]; decide
  · rw [if_neg (show ¬ a.toInt64 + b.toInt64 > c.toInt64 from fun q => h (by have := Int64.lt_iff_toInt_lt.mp q; rwa [e, Int32.toInt_toInt64] at this))]
    simp only [h, eq_iff_iff, iff_false]
    split <;> decide
theorem noR_lt (A : AT) (s : Int32) : noR A s < 4 := by unfold noR; repeat' split
                                                        all_goals omega
theorem noR_0 {A : AT} {s : Int32} (h : noR A s = 0) : thr s ∧ isR A s.toInt.toNat := by
  unfold noR at h
  split at h
  · omega
  · rename_i h1
    refine ⟨Classical.byContradiction h1, ?_⟩
    split at h
    · omega
    · split at h
      · omega
      · omega
theorem ite_nz {α : Type} {k : Nat} {x y : α} (hk : k < 4) : (if jz k = jn 0 then x else y) = if k = 0 then x else y := by
  by_cases h : k = 0
  · rw [if_pos h, h]; exact if_pos rfl
  · rw [if_neg h, if_neg (by rw [jz_jn (by omega) (by omega)]; exact id)]
theorem ite_nn {α : Type} {k : Nat} {x y : α} (hk : k < 4) : (if jz k < jn 0 then x else y) = if k = 0 then y else x := by
  by_cases h : k = 0
  · rw [if_pos h, h, if_neg (by decide)]
  · rw [if_neg h, if_pos (by rw [jz_lt_jn (by omega) (by omega)]; trivial)]
def lowB (h : Int32) (v : Int64) : Int64 := if h = jn 100 then ((v.toInt32).toInt8.toInt32).toInt64 else if h = jn 101 then ((v.toInt32).toInt16.toInt32).toInt64 else if h = jn 102 then (v.toInt32).toInt64 else v
def F_set (A : AT) (s i : Int32) (v : Int64) : Int32 × AT :=
  if noR A s = 0 then (if ¬ (0 ≤ i.toInt ∧ i.toInt < siz A s.toInt.toNat) then rfs A 5 else (jn 1, setH A (A.2.2.2.1.1, A.2.2.2.1.2.1, va_up A.2.2.2.1.2.2 s.toInt.toNat (va_up (ele A s.toInt.toNat) i.toInt.toNat (lowB (hel A s.toInt.toNat) v))))) else rfs A (noR A s)
def F_copy (A : AT) (p q i j n : Int32) : Int32 × AT :=
  if ¬ (thr p ∧ thr q) then rfs A 1 else if isW A p.toInt.toNat ∨ isW A q.toInt.toNat ∨ isR A p.toInt.toNat ∧ isR A q.toInt.toNat ∧ hel A p.toInt.toNat ≠ hel A q.toInt.toNat then rfs A 2
  else if (hel A p.toInt.toNat).toInt < 0 ∨ (hel A q.toInt.toNat).toInt < 0 then rfs A 3 else if n.toInt < 0 then rfs A 4
  else if i.toInt < 0 ∨ j.toInt < 0 ∨ (siz A p.toInt.toNat : Int) < i.toInt + n.toInt ∨ (siz A q.toInt.toNat : Int) < j.toInt + n.toInt then rfs A 5
  else (jn 1, setH A (A.2.2.2.1.1, A.2.2.2.1.2.1, va_up A.2.2.2.1.2.2 q.toInt.toNat (cp (ele A p.toInt.toNat) (ele A q.toInt.toNat) i.toInt.toNat j.toInt.toNat n.toInt.toNat)))
def F_element (A : AT) (s i : Int32) : Int64 × AT := (if thr s ∧ isR A s.toInt.toNat ∧ 0 ≤ i.toInt ∧ i.toInt < siz A s.toInt.toNat then ele A s.toInt.toNat i.toInt.toNat else 0, A)
def F_show (A : AT) (s w : Int32) : Int32 × AT :=
  if ¬ thr s ∨ w ≠ jz 1 ∧ ¬ (0 ≤ w.toInt ∧ w.toInt < A.1.2.2.1.length) then rfs A 1 else (if w = jz 1 then jn 0 else jn 1, setH A (va_up A.2.2.2.1.1 s.toInt.toNat w, A.2.2.2.1.2.1, A.2.2.2.1.2.2))
def F_holds (A : AT) (s : Int32) : Int32 × AT := (if thr s then hel A s.toInt.toNat else jz 1, A)
section
variable {d : Nat} {A : AT} {M : PM} {a b c e f : Int32} {v : Int64}
theorem k_set (hA : AOk A) : AOk (F_set A a b v).2 := by
  unfold F_set
  split
  · split
    · exact hA
    · exact setH_ok hA hA.2.2.2
  · exact hA
theorem k_copy (hA : AOk A) : AOk (F_copy A a b c e f).2 := by
  unfold F_copy
  repeat' split
  all_goals first
    | exact hA
    | exact setH_ok hA hA.2.2.2
theorem k_show (hA : AOk A) : AOk (F_show A a b).2 := by
  unfold F_show
  split
  · exact hA
  rename_i h
  refine setH_ok hA (fun s hs => ?_)
  simp only [up_at]
  refine ⟨(hA.2.2.2 s hs).1, ?_⟩
  split
  · by_cases h1 : b = jz 1
    · exact Or.inl h1
    · have h2 : 0 ≤ b.toInt ∧ b.toInt < A.1.2.2.1.length := Classical.byContradiction fun q => h (Or.inr ⟨h1, q⟩)
      obtain ⟨k, hk, rfl⟩ := inn h2
      exact Or.inr (Or.inl ⟨k, hk, rfl⟩)
  · exact (hA.2.2.2 s hs).2
theorem c_low (hd : 1 ≤ d) {o : Nat} (ho : o < 4) : pcl GG lay d 228 [.int (jn (100 + o) - jn 100), .long v] M = rL (lowB (jn (100 + o)) v) M := by
  obtain ⟨d, rfl⟩ := ex_add hd
  rw [q_228, jn_sub (by omega), Nat.add_sub_cancel_left]
  unfold lowB
  simp (disch := omega) only [jn_inj]
  repeat' split
  all_goals first
    | rfl
    | (exfalso; omega)
theorem row_o (hA : AOk A) {s : Nat} (hs : s < 8) (h : isR A s) : ∃ o, o < 4 ∧ hel A s = jn (100 + o) := by
  rcases (hA.2.2.2 s hs).2 with h1 | ⟨w, hw, h1⟩ | h1
  · have h2 : hel A s = jz 1 := h1
    rw [isR, h2, jz_toInt (by omega)] at h; omega
  · have h2 : hel A s = jn w := h1
    have := hA.1.2.2.1.1
    rw [isR, h2, jn_toInt (by omega)] at h; omega
  · exact h1
theorem SX_set {a b c : Nat} {h : HT} {s i : Nat} {w : Int64} (hs : s < 8) (hi : i < h.2.1 s) (hok : ∀ t, t < 8 → h.2.1 t ≤ 160) (hx : SX a b c h M) : SX a b c (h.1, h.2.1, va_up h.2.2 s (va_up (h.2.2 s) i w)) (sL M c (va_up (M.2 c) (160 * s + i) w)) := by
  intro t ht
  obtain ⟨g1, g2, g3⟩ := hx t ht
  refine ⟨g1, g2, fun j hj => ?_⟩
  have hj : j < h.2.1 t := hj
  have h6 := hok t ht
  have h7 := hok s hs
  rw [sL_k]
  simp only [up_at]
  by_cases e : t = s
  · subst e
    simp only [if_true, up_at]
    by_cases e2 : j = i
    · rw [if_pos (by omega), if_pos e2]
    · rw [if_neg (by omega), if_neg e2]; exact g3 j hj
  · rw [if_neg (by omega), if_neg e]; exact g3 j hj
theorem x_set (hd : 6 ≤ d) (hA : AOk A) (h : RX A M) : XI (pcl GG lay d 4 [.ref 0, .int a, .int b, .long v] M) M (F_set A a b v) := by
  obtain ⟨d, rfl⟩ := ex_add hd
  rw [q_4, c_noR (by omega) h, kI_r, ite_nz (noR_lt A a)]
  unfold F_set
  by_cases h0 : noR A a = 0
  case neg =>
    rw [if_neg h0, if_neg h0]; exact x_ref (by omega) h (by have := noR_lt A a; omega)
  rw [if_pos h0, if_pos h0]
  obtain ⟨h1, h2⟩ := noR_0 h0
  obtain ⟨s, hs, rfl⟩ := inn (n := 8) h1
  rw [jnN (by omega)] at *
  rw [c_sizeS (by omega) h hs, kI_r, if_pos h2]
  have h160 : siz A s ≤ 160 := (hA.2.2.2 s hs).1
  simp (disch := omega) only [jlt]
  by_cases h3 : 0 ≤ b.toInt ∧ b.toInt < siz A s
  case neg =>
    rw [if_pos h3]
    by_cases h4 : b.toInt < 0
    · rw [if_pos (by omega)]; exact x_ref (by omega) h (by omega)
    · rw [if_neg (by omega), if_neg (by omega)]; exact x_ref (by omega) h (by omega)
  rw [if_neg (by omega), if_pos (by omega), if_neg (not_not_intro h3)]
  obtain ⟨i, hi, rfl⟩ := inn h3
  have hi2 : i < A.2.2.2.1.2.1 s := hi
  obtain ⟨o, ho, h5⟩ := row_o hA hs h2
  rw [q_227, c_held (by omega) h hs, kI_r, h5, c_low (by omega) ho, kL_r, jn_mul, jn_add, Nat.mul_comm s 160, c_putL (n := 1280) (by omega) rfl (by omega) (by omega), kV_r, kV_r, jnN (by omega)]
  exact ⟨_, rfl, setH_x h (SX_set hs hi2 (fun t ht => (hA.2.2.2 t ht).1) h.2.2.2.1) (Fr.sL (by decide)), Hi.fr (S := [18]) (Fr.sL (by decide)) (by decide)⟩
/-- an element of a row -/
theorem c_ele {s : Nat} (hd : 5 ≤ d) (hA : AOk A) (h : RX A M) (hs : s < 8) (h2 : isR A s) {i : Nat} (hi : i < siz A s) : pcl GG lay d 225 [.ref 15, .int (jn s), .int (jn i)] M = rL (ele A s i) M := by
  obtain ⟨d, rfl⟩ := ex_add hd
  have h160 : siz A s ≤ 160 := (hA.2.2.2 s hs).1
  rw [q_225, ilt_neg (by omega) (by omega), c_sizeS (by omega) h hs, kI_r, if_pos h2, ilt_pos hi (by omega), jn_mul, jn_add, Nat.mul_comm s 160, c_getL (n := 1280) (by omega) rfl (by omega) (by omega), kL_r, (h.2.2.2.1 s hs).2.2 i hi]
end
