/-! copy, show -/
theorem cp_back {α : Type} (g f : Nat → α) (sp dp n m : Nat) (h : m < n) : (fun j => if dp + m ≤ j ∧ j < dp + n then g (sp + (j - dp)) else f j) = va_up (fun j => if dp + (m + 1) ≤ j ∧ j < dp + n then g (sp + (j - dp)) else f j) (dp + m) (g (sp + m)) := by
  funext j
  unfold va_up
  by_cases e : j = dp + m
  · rw [if_pos e, if_pos (by omega)]; congr 1; omega
  · rw [if_neg e]
    by_cases h2 : dp + m ≤ j ∧ j < dp + n
    · rw [if_pos h2]
      show _ = if dp + (m + 1) ≤ j ∧ j < dp + n then g (sp + (j - dp)) else f j
      rw [if_pos (by omega)]
    · rw [if_neg h2]
      show _ = if dp + (m + 1) ≤ j ∧ j < dp + n then g (sp + (j - dp)) else f j
      rw [if_neg (by omega)]
theorem cp_bk0 {α : Type} (g f : Nat → α) (sp dp n : Nat) : (fun j => if dp + 0 ≤ j ∧ j < dp + n then g (sp + (j - dp)) else f j) = cp g f sp dp n := rfl
theorem cp_bkn {α : Type} (g f : Nat → α) (sp dp n : Nat) : (fun j => if dp + n ≤ j ∧ j < dp + n then g (sp + (j - dp)) else f j) = f := by
  funext j; rw [if_neg (by omega)]
section
variable {d : Nat} {A : AT} {M : PM} {a b c e f : Int32} {v : Int64}
theorem SX_copy {x y z : Nat} {h : HT} {s t i j n : Nat} (hs : s < 8) (ht : t < 8) (hi : i + n ≤ h.2.1 s) (hj : j + n ≤ h.2.1 t) (hok : ∀ t, t < 8 → h.2.1 t ≤ 160) (hx : SX x y z h M) : SX x y z (h.1, h.2.1, va_up h.2.2 t (cp (h.2.2 s) (h.2.2 t) i j n)) (sL M z (cp (M.2 z) (M.2 z) (160 * s + i) (160 * t + j) n)) := by
  intro r hr
  obtain ⟨g1, g2, g3⟩ := hx r hr
  obtain ⟨-, -, g4⟩ := hx s hs
  refine ⟨g1, g2, fun k hk => ?_⟩
  have hk : k < h.2.1 r := hk
  have h6 := hok r hr
  have h7 := hok s hs
  have h8 := hok t ht
  rw [sL_k]
  simp only [up_at]
  by_cases e : r = t
  · subst e
    simp only [if_true]
    by_cases e2 : j ≤ k ∧ k < j + n
    · rw [cp_in (by omega), cp_in e2, show 160 * s + i + (160 * r + k - (160 * r + j)) = 160 * s + (i + (k - j)) by omega, g4 _ (by omega)]
    · rw [cp_out (by omega), cp_out (by omega)]; exact g3 k hk
  · rw [cp_out (by omega), if_neg e]; exact g3 k hk
theorem c_hasS {w : Int32} (hd : 1 ≤ d) (hA : AOk A) (h : RX A M) : pcl GG lay d 242 [.ref 1, .int w] M = rI (bI (0 ≤ w.toInt ∧ w.toInt < A.1.2.2.1.length)) M := by
  obtain ⟨d, rfl⟩ := ex_add hd
  have := hA.1.2.2.1.1
  rw [q_242, h.1.1.2.2.1]
  simp (disch := omega) only [rZ_0, rZ_1, jlt]
  unfold bI
  repeat' split
  all_goals first
    | rfl
    | (exfalso; omega)
theorem SX_hold {x y z : Nat} {h : HT} {s : Nat} {w : Int32} (hx : SX x y z h M) (hz : y ≠ x) : SX x y z (va_up h.1 s w, h.2.1, h.2.2) (sI M x (va_up (M.1 x) s w)) := by
  intro t ht
  obtain ⟨g1, g2, g3⟩ := hx t ht
  refine ⟨?_, by rw [sI_o _ _ hz]; exact g2, g3⟩
  rw [sI_k]
  simp only [up_at]
  by_cases e : t = s
  · rw [if_pos e, if_pos e]
  · rw [if_neg e, if_neg e]; exact g1
end
