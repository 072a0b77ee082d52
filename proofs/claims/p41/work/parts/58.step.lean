/-! the system's rewriting of a tree at a node -/
section
variable {d : Nat} {A : AT} {M : PM} {a b c f : Int32} {v : Int64} {e : EV} {lo hi : Nat}
theorem EB_up {g : Nat → Int32} (h : EB lo hi e M) (hg : ∀ i, lo ≤ i → i < hi → g i = M.1 7 i) : EB lo hi e (sI M 7 g) := by
  intro v hv
  have := h v hv
  cases he : e v with
  | none => rw [he] at this; exact this
  | some u =>
    rw [he] at this
    obtain ⟨q, q1, q2, q3, q4, q5⟩ := this
    refine ⟨q, q1, q2, q3, q4, ?_⟩
    rw [sI_k]
    exact AT_congr q5 (fun i i1 i2 => hg i (by omega) (by omega))
def RwX (n : Nat × Tm) (M M' : PM) : Prop := Fr [7, 26, 27, 28] M M' ∧ (n.1 ≠ 0 → M'.1 7 = M.1 7) ∧ (n.1 = 0 → At (M'.1 7) 1920 (en n.2) ∧ ∀ j, j < 1920 ∨ 1960 ≤ j → M'.1 7 j = M.1 7 j)
theorem rwt_le (cm : Nat) (rl : Tm × Tm) (t : Tm) (i : Nat) : (rwt cm rl t i).1 = 0 ∨ (rwt cm rl t i).1 = 6 ∨ (rwt cm rl t i).1 = 7 := by
  unfold rwt
  split
  · exact Or.inr (Or.inl rfl)
  · split
    · exact Or.inr (Or.inr rfl)
    · exact Or.inl rfl
theorem c_rew {cm n P i : Nat} {rl : Tm × Tm} {t : Tm} (hd : 10 ≤ d) (hcm : cm < 16) (hn : n < 12) (h8 : M.1 1 8 = jn cm) (hr : wf rl.1 ∧ wf rl.2 ∧ sz rl.1 ≤ 40 ∧ sz rl.2 ≤ 40) (hl : At (M.1 7) (960 + 40 * n) (en rl.1)) (hrr : At (M.1 7) (1440 + 40 * n) (en rl.2)) (ht : wf t) (hts : sz t ≤ 40) (hta : At (M.1 7) P (en t)) (hP : P + sz t ≤ 1920 ∨ 1960 ≤ P ∧ P + sz t ≤ 3760) (hi : i < sz t) :
    ∃ M', pcl GG lay d 30 [.ref 0, .int (jn n), .int (jn P), .int (jn i)] M = rI (jz (rwt cm rl t i).1) M' ∧ RwX (rwt cm rl t i) M M' := by
  obtain ⟨d, rfl⟩ := ex_add hd
  obtain ⟨r1, r2, r3, r4⟩ := hr
  have hw := sub_wf ht hi
  have hz := sub_sz ht hi
  have hsa := sub_at ht hi hta
  obtain ⟨M1, m1, m2, m3⟩ := c_match (d := d + 9) (M := M) (cm := cm) (P := 960 + 40 * n) (q := P + i) (p := rl.1) (t := sub t i) (by omega) hcm (by omega) r1 r3 hl hw (by omega) (by omega) hsa
  have s7 : M1.1 7 = M.1 7 := m2.1 7 (by decide)
  rw [q_30, c_lp (by omega), kI_r, jn_add, h8, m1, kI_r]
  cases hm : mat cm rl.1 (sub t i) with
  | none =>
    have e1 : rwt cm rl t i = (6, Lf) := by unfold rwt; rw [hm]
    simp only [Option.isSome_none, Bool.false_eq_true, if_false]
    rw [if_pos trivial, e1]
    exact ⟨M1, rfl, m2.mono (by decide), fun _ => s7, fun h => absurd h (by decide)⟩
  | some e =>
    have hE := m3 e hm
    have hok := mat_ok hw (by omega) hm
    simp only [Option.isSome_some, if_true]
    rw [ieq_neg (by omega) (by omega) (by omega), c_sizeAt (by omega) ht (by rw [s7]; exact hta) (by omega), kI_r, c_sizeAt (by omega) hw (by rw [s7]; exact hsa) (by omega), kI_r, c_rp (by omega), kI_r, c_sizeOf (by omega) (by omega) hE r2 r4 (by rw [s7]; exact hrr) (by omega), kI_r, jn_sub (by omega), jn_add]
    have hbig : sz (sbT e rl.2) ≤ 1600 := by
      have := fm_le hok (en rl.2)
      rw [← sb_en e rl.2 r2] at this
      have e2 : (en rl.2).length = sz rl.2 := rfl
      show (en (sbT e rl.2)).length ≤ 1600
      omega
    by_cases h7 : 40 < sz t - sz (sub t i) + sz (sbT e rl.2)
    · have e1 : rwt cm rl t i = (7, Lf) := by unfold rwt; rw [hm]; exact if_pos h7
      rw [ilt_pos h7 (by omega), e1]
      exact ⟨M1, rfl, m2.mono (by decide), fun _ => s7, fun h => absurd h (by decide)⟩
    · have e1 : rwt cm rl t i = (0, rep t i (sbT e rl.2)) := by unfold rwt; rw [hm]; exact if_neg h7
      rw [ilt_neg (by omega) (by omega), e1, c_appendCells (n := i) (by omega) (by omega) (by omega) (by omega), kI_r, c_rp (by omega), kI_r]
      have hE2 : EB (P + i) (P + i + sz (sub t i)) e (sI M1 7 (cp (M1.1 7) (M1.1 7) P 1920 i)) := EB_up hE (fun j j1 j2 => cp_out (by omega))
      have hrr2 : At ((sI M1 7 (cp (M1.1 7) (M1.1 7) P 1920 i)).1 7) (1440 + 40 * n) (en rl.2) := by
        rw [sI_k]
        exact AT_congr hrr (fun j j1 j2 => by rw [cp_out (by omega), s7])
      obtain ⟨g, g1, g2, g3⟩ := c_put_in (d := d + 9) (to := 1920 + i) (by omega) (by omega) hE2 r2 r4 hrr2 (by omega) (by omega) (by omega)
      rw [sI_sI] at g1
      rw [sI_k] at g3
      rw [g1, kI_r]
      have g4 : ∀ j, (j < 1920 ∨ 1960 ≤ j) → g j = M.1 7 j := fun j hj => by rw [g3 j (by omega), cp_out (by omega), s7]
      have hta2 : At ((sI M1 7 g).1 7) P (en t) := by
        rw [sI_k]
        exact AT_congr hta (fun j j1 j2 => g4 j (by omega))
      have hsa2 : At ((sI M1 7 g).1 7) (P + i) (en (sub t i)) := by
        rw [sI_k]
        exact AT_congr hsa (fun j j1 j2 => g4 j (by omega))
      have hlen : P + sz t = P + i + sz (sub t i) + (sz t - i - sz (sub t i)) := by omega
      rw [c_end (by omega) hw hsa2 (by omega), kI_r, c_end (by omega) ht hta2 (by omega), kI_r, hlen, c_appendCells (by omega) (by omega) (by omega) (by omega), kI_r, sI_sI, sI_k]
      refine ⟨_, rfl, (m2.mono (by decide)).trans (Fr.sI (by decide)), fun h => absurd rfl h, fun _ => ⟨?_, fun j hj => ?_⟩⟩
      · rw [sI_k]
        show At _ 1920 (en (rep t i (sbT e rl.2)))
        refine rep_at ht hi hta (fun j hj => ?_) ?_ (fun j j1 j2 => ?_)
        · rw [cp_out (by omega), g3 _ (by omega), cp_in (by omega), s7]
          exact congrArg (M.1 7) (by omega)
        · exact AT_congr g2 (fun j j1 j2 => cp_out (by omega))
        · rw [cp_in (by omega), g4 _ (by omega)]
          exact congrArg (M.1 7) (by omega)
      · rw [sI_k, cp_out (by omega), g4 j hj]
end
