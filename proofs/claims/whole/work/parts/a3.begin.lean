/-! the beginning: what the cells hold when both are made -/
def A0 : AT := (([], [], [], 0, jn 1), none, [], (fun _ => jz 1, fun _ => 0, fun _ _ => 0), jz 1, fun _ => jn 0)
def M0 : PM := (fun k j => if k = 16 ∨ k = 61 then (if j < 8 then jz 1 else jn 0) else if k = 1 ∧ j = 9 ∨ k = 8 ∧ j = 9 ∨ k = 52 ∧ j = 12 then jn 1 else if k = 0 ∧ j = 13 ∨ k = 29 ∧ j = 15 ∨ k = 52 ∧ j = 16 ∨ k = 52 ∧ j = 20 then jz 1 else if k = 29 ∧ j = 14 then jn 2120 else jn 0, fun _ _ => 0)
theorem k_0 : AOk A0 := by
  refine ⟨⟨⟨Nat.zero_le _, fun t ht => (by simp [A0] at ht)⟩, ⟨Nat.zero_le _, fun r hr => (by simp [A0] at hr)⟩, ⟨Nat.zero_le _, fun i q hq => (by simp [A0] at hq)⟩, by decide⟩, fun K hK => (by simp [A0] at hK), ⟨Nat.zero_le _, fun q hq => (by simp [A0] at hq)⟩, fun s hs => ⟨Nat.zero_le _, Or.inl rfl⟩⟩
theorem x_0 : RX A0 M0 := by
  refine ⟨⟨⟨rfl, rfl, rfl, rfl, rfl⟩, fun i t h => (by simp [A0] at h), fun i r h => (by simp [A0] at h), fun i q h => (by simp [A0] at h)⟩, ⟨?_, fun K hK => (by simp [A0] at hK)⟩, ⟨rfl, fun i q h => (by simp [A0] at h)⟩, fun s hs => ⟨?_, rfl, fun i hi => absurd hi (Nat.not_lt_zero _)⟩, rfl, fun k hk => rfl⟩
  · exact (bI_n (by simp [A0])).symm
  · show (if s < 8 then jz 1 else jn 0) = jz 1
    rw [if_pos hs]
theorem m_0 : RM A0 M0 := by
  refine ⟨⟨⟨rfl, rfl, rfl, rfl, rfl⟩, fun i t h => (by simp [A0] at h), fun i r h => (by simp [A0] at h), fun i q h => (by simp [A0] at h)⟩, ⟨?_, fun K hK => (by simp [A0] at hK)⟩, ⟨rfl, fun i q h => (by simp [A0] at h)⟩, fun s hs => ⟨?_, rfl, fun i hi => absurd hi (Nat.not_lt_zero _)⟩, rfl, fun k hk => rfl⟩
  · exact (bI_n (by simp [A0])).symm
  · show (if s < 8 then jz 1 else jn 0) = jz 1
    rw [if_pos hs]
/-- from the beginning the law's loop comes to its end and answers true -/
theorem law_true (nS : Nat) (xs : Nat → Int32) (hS : nS ≤ 3072) : ∃ M' n, rnn k_276 lay (some (nS, xs)) (pcl GG lay 2040) 2 n (18, [some (.ref 88), some (.ref 0), some (.ref 52), some (.int (jn 0))], [], M0) = rI (jn 1) M' := by
  obtain ⟨M', h⟩ := law_loop (nS := nS) (xs := xs) (d := 2040) (by omega) hS 520 0 A0 M0 (by omega) (by omega) k_0 x_0 m_0
  obtain ⟨n, hn⟩ := evn_iff.mp h
  exact ⟨M', n, hn⟩
