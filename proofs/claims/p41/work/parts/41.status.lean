/-! says, status, image, restore -/
section
variable {d : Nat} {A : AT} {M : PM} {a b c e f : Int32} {v : Int64}
/-! status -/
theorem allN_le : ∀ (l : List Tm), (∀ t ∈ l, sz t ≤ 40) → allN l ≤ 40 * l.length := by
  intro l
  induction l with
  | nil => intro _; simp [allN]
  | cons t l ih =>
    intro h
    have h1 := h t List.mem_cons_self
    have h2 := ih (fun u hu => h u (List.mem_cons_of_mem _ hu))
    have e : allN (t :: l) = sz t + allN l := by simp [allN]
    rw [e, List.length_cons]; omega
theorem allN_take {l : List Tm} {k : Nat} {t : Tm} (h : l[k]? = some t) : allN (l.take (k + 1)) = allN (l.take k) + sz t := by
  rw [List.take_add_one, h]
  simp [allN]
theorem c_allN (hd : 5 ≤ d) (hA : AOk A) (h : RX A M) : pcl GG lay d 55 [.ref 0] M = rI (jn (allN (tsA A))) M := by
  obtain ⟨d, rfl⟩ := ex_add hd
  have hl : (tsA A).length ≤ 24 := hA.1.1.1
  have e5 : M.1 1 5 = jn (tsA A).length := h.1.1.1
  rw [q_55]
  have key : ∀ m k, k + m = (tsA A).length → E_55 (d + 4) (4, [some (.ref 0), some (.int (jn (allN ((tsA A).take k)))), some (.int (jn k))], [], M) = rI (jn (allN (tsA A))) M := by
    intro m
    induction m with
    | zero =>
      intro k hk
      rw [h_55_4, e5, ilt_neg (by omega) (by omega), List.take_of_length_le (by omega)]
    | succ m ih =>
      intro k hk
      have hq : (tsA A)[k]? = some (tsA A)[k] := by simp [show k < (tsA A).length by omega]
      obtain ⟨w1, w2, w3⟩ := tm_ok hA hq
      have hat := h.1.2.1 k _ hq
      rw [h_55_4, e5, ilt_pos (by omega) (by omega), c_tp (by omega), kI_r, c_sizeAt (by omega) w1 hat (by omega), kI_r, jn_add, jn_add, ← allN_take hq]
      exact ih (k + 1) (by omega)
  have := key (tsA A).length 0 (by omega)
  rwa [show allN (List.take 0 (tsA A)) = 0 by simp [allN]] at this
theorem x_status (hd : 6 ≤ d) (hA : AOk A) (h : RX A M) : XI (pcl GG lay d 54 [.ref 0, .int a] M) M (F_status A a) := by
  obtain ⟨d, rfl⟩ := ex_add hd
  refine ⟨M, ?_, h, Hi.rf⟩
  have e5 : M.1 1 5 = jn (tsA A).length := h.1.1.1
  have e6 : M.1 1 6 = jn (rsA A).length := h.1.1.2.1
  have e7 : M.1 1 7 = jn (ssA A).length := h.1.1.2.2.1
  have e8 : M.1 1 8 = jn (cmA A) := h.1.1.2.2.2.1
  have e9 : M.1 1 9 = sdA A := h.1.1.2.2.2.2
  have et : M.1 48 2 = jn A.2.2.1.length := h.2.2.1.1
  rw [q_54, e5, e6, e7, e8, e9, et, c_allN (by omega) hA h, kI_r]
  unfold F_status
  by_cases n0 : a = jn 0
  · rw [if_pos n0, if_pos n0]
  rw [if_neg n0, if_neg n0]
  by_cases n1 : a = jn 1
  · rw [if_pos n1, if_pos n1]
  rw [if_neg n1, if_neg n1]
  by_cases n2 : a = jn 2
  · rw [if_pos n2, if_pos n2]
  rw [if_neg n2, if_neg n2]
  by_cases n3 : a = jn 3
  · rw [if_pos n3, if_pos n3]
  rw [if_neg n3, if_neg n3]
  by_cases n4 : a = jn 4
  · rw [if_pos n4, if_pos n4]
  rw [if_neg n4, if_neg n4]
  by_cases n5 : a = jn 5
  · rw [if_pos n5, if_pos n5]
  rw [if_neg n5, if_neg n5]
  by_cases n6 : a = jn 6
  · rw [if_pos n6, if_pos n6]
  rw [if_neg n6, if_neg n6]
  simp (disch := omega) only [jgt]
  by_cases h1 : 10 < a.toInt ∧ a.toInt < 18
  · rw [if_pos (by omega), if_neg (by omega), if_pos h1]
    obtain ⟨n, hn, rfl⟩ := inn (a := a) (n := 18) (by omega)
    rw [jn_toInt (by omega)] at h1
    rw [jn_sub (by omega), c_get (n := 8) (by omega) rfl (by omega) (by omega), kI_r, jnN (by omega), h.2.2.2.2.2 _ (by omega)]
  · rw [if_neg h1]
    by_cases h2 : 10 < a.toInt
    · rw [if_pos (by omega), if_pos (by omega)]
    · rw [if_neg (by omega)]
end
