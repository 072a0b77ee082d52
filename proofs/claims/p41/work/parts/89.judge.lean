/-! judge by the model -/
theorem jz_sub10 (k : Nat) : jz k - jn 10 = jz (10 + k) := by
  unfold jn jz; rw [← Int32.ofInt_sub]; congr 1; omega
theorem lcmp_two {a c : Int32} : (jn 0 < lg_cmp ((Int64.ofInt 2) * a.toInt64) c.toInt64) = (c.toInt < 2 * a.toInt) := by
  have h1 := a.toInt_lt; have h2 := a.le_toInt; have h5 := c.toInt_lt; have h6 := c.le_toInt
  have e2 : (Int64.ofInt 2).toInt = 2 := by decide
  have e : ((Int64.ofInt 2) * a.toInt64).toInt = 2 * a.toInt := by
    rw [Int64.toInt_mul, Int32.toInt_toInt64, e2]
    exact Int.bmod_eq_of_le (by omega) (by omega)
  unfold lg_cmp
  by_cases h : c.toInt < 2 * a.toInt
  · rw [if_pos (show (Int64.ofInt 2) * a.toInt64 > c.toInt64 from Int64.lt_iff_toInt_lt.mpr (by rw [e, Int32.toInt_toInt64]; exact h))]
    simp only [h, eq_iff_iff, iff_true]; decide
  · rw [if_neg (show ¬ (Int64.ofInt 2) * a.toInt64 > c.toInt64 from fun q => h (by have := Int64.lt_iff_toInt_lt.mp q; rwa [e, Int32.toInt_toInt64] at this))]
    simp only [h, eq_iff_iff, iff_false]
    split <;> decide
section
variable {d : Nat} {A : AT} {M : PM} {a b c e f : Int32} {v : Int64}
theorem k_judge (hA : AOk A) : AOk (F_judge A a b c).2 := by
  unfold F_judge
  repeat' split
  all_goals exact hA
/-- two rows of as many signs are compared -/
theorem en_eq_of {u t : Tm} {f g : Nat → Int32} {p q : Nat} (hf : At f p (en u)) (hg : At g q (en t)) (hz : sz u = sz t) (h : ∀ j, j < sz u → f (p + j) = g (q + j)) : en u = en t := by
  rw [At_sz] at hf hg
  apply List.ext_getElem?
  intro i
  by_cases hi : i < sz u
  · rw [hf i hi, hg i (by omega), h i hi]
  · rw [List.getElem?_eq_none (by show sz u ≤ i; omega), List.getElem?_eq_none (by show sz t ≤ i; omega)]
theorem en_ne_of {u t : Tm} {f g : Nat → Int32} {p q j : Nat} (hf : At f p (en u)) (hg : At g q (en t)) (hj : j < sz u) (h : f (p + j) ≠ g (q + j)) : en u ≠ en t := by
  intro e
  rw [At_sz] at hf hg
  have e2 : sz u = sz t := congrArg List.length e
  have h1 := hf j hj
  rw [e, hg j (by omega)] at h1
  exact h (Option.some.inj h1).symm
theorem jn_of {x : Int32} (h : 0 ≤ x.toInt) : x = jn x.toInt.toNat := by
  rw [← Int32.toInt_inj, jn_toInt (by have := x.toInt_lt; omega)]; omega
theorem ts_at (hA : AOk A) (h : hsT A a) : ∃ t, (tsA A)[a.toInt.toNat]? = some t ∧ tmN A a = t ∧ wf t ∧ sz t ≤ 40 ∧ a = jn a.toInt.toNat := by
  obtain ⟨n, t, rfl, k1, k2, k3, k4, k5⟩ := ts_of hA h
  rw [jnN (by omega)]
  exact ⟨t, k1, k2, k3, k4, rfl⟩
end
