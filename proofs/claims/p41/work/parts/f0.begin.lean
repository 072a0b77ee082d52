/-! the beginning: what the cells hold when a new object is made (laid by wip/p41/gen/con5.py) -/
def Ab : AT := (([], [], [], 0, jn 1), none, [], (fun _ => jz 1, fun _ => 0, fun _ _ => 0), jz 1, fun _ => jn 0)
def Mb : PM := (fun k j => if k = 16 then (if j < 8 then jz 1 else jn 0) else if k = 1 ∧ j = 9 ∨ k = 8 ∧ j = 9 then jn 1 else if k = 0 ∧ j = 13 ∨ k = 29 ∧ j = 15 then jz 1 else if k = 29 ∧ j = 14 then jn 2120 else jn 0, fun _ _ => 0)
theorem k_b : AOk Ab := by
  refine ⟨⟨⟨Nat.zero_le _, fun t ht => (by simp [Ab] at ht)⟩, ⟨Nat.zero_le _, fun r hr => (by simp [Ab] at hr)⟩, ⟨Nat.zero_le _, fun i q hq => (by simp [Ab] at hq)⟩, by decide⟩, fun K hK => (by simp [Ab] at hK), ⟨Nat.zero_le _, fun q hq => (by simp [Ab] at hq)⟩, fun s hs => ⟨Nat.zero_le _, Or.inl rfl⟩⟩
theorem x_b : RX Ab Mb := by
  refine ⟨⟨⟨rfl, rfl, rfl, rfl, rfl⟩, fun i t h => (by simp [Ab] at h), fun i r h => (by simp [Ab] at h), fun i q h => (by simp [Ab] at h)⟩, ⟨?_, fun K hK => (by simp [Ab] at hK)⟩, ⟨rfl, fun i q h => (by simp [Ab] at h)⟩, fun s hs => ⟨?_, rfl, fun i hi => absurd hi (Nat.not_lt_zero _)⟩, rfl, fun k hk => rfl⟩
  · exact (bI_n (by simp [Ab])).symm
  · show (if s < 8 then jz 1 else jn 0) = jz 1
    rw [if_pos hs]
theorem ceb_0 (cI cL : ClassId) (ad : Nat → Nat) : cel cI cL ad lay Mb 0 = .inr (10, [.ref (ad 1), .ref (ad 8), .ref (ad 6), .ref (ad 15), .ref (ad 19), .ref (ad 21), .ref (ad 24), .ref (ad 26), .ref (ad 29), .ref (ad 40), .ref (ad 48), .ref (ad 51), .int 0, .int (-1)]) := rfl
theorem cez_0 (cI cL : ClassId) (ad : Nat → Nat) : cel cI cL ad laz Mb 0 = .inr (10, [.ref (ad 1), .ref (ad 8), .ref (ad 6), .ref (ad 15), .ref (ad 19), .ref (ad 21), .ref (ad 24), .ref (ad 26), .ref (ad 29), .ref (ad 40), .ref (ad 48), .ref (ad 51), .int 0, .int (-1)]) := rfl
theorem ceb_1 (cI cL : ClassId) (ad : Nat → Nat) : cel cI cL ad lay Mb 1 = .inr (7, [.ref (ad 6), .ref (ad 2), .ref (ad 3), .ref (ad 4), .ref (ad 5), .int 0, .int 0, .int 0, .int 0, .int 1]) := rfl
theorem cez_1 (cI cL : ClassId) (ad : Nat → Nat) : cel cI cL ad laz Mb 1 = .inr (7, [.ref (ad 6), .ref (ad 2), .ref (ad 3), .ref (ad 4), .ref (ad 5), .int 0, .int 0, .int 0, .int 0, .int 1]) := rfl
theorem ceb_2 (cI cL : ClassId) (ad : Nat → Nat) : cel cI cL ad lay Mb 2 = .inl (cI, 48, .inl (fun _ => 0)) := rfl
theorem cez_2 (cI cL : ClassId) (ad : Nat → Nat) : cel cI cL ad laz Mb 2 = .inl (cI, 48, .inl (fun _ => 0)) := rfl
theorem ceb_3 (cI cL : ClassId) (ad : Nat → Nat) : cel cI cL ad lay Mb 3 = .inl (cI, 48, .inl (fun _ => 0)) := rfl
theorem cez_3 (cI cL : ClassId) (ad : Nat → Nat) : cel cI cL ad laz Mb 3 = .inl (cI, 48, .inl (fun _ => 0)) := rfl
theorem ceb_4 (cI cL : ClassId) (ad : Nat → Nat) : cel cI cL ad lay Mb 4 = .inl (cI, 48, .inl (fun _ => 0)) := rfl
theorem cez_4 (cI cL : ClassId) (ad : Nat → Nat) : cel cI cL ad laz Mb 4 = .inl (cI, 48, .inl (fun _ => 0)) := rfl
theorem ceb_5 (cI cL : ClassId) (ad : Nat → Nat) : cel cI cL ad lay Mb 5 = .inl (cI, 48, .inl (fun _ => 0)) := rfl
theorem cez_5 (cI cL : ClassId) (ad : Nat → Nat) : cel cI cL ad laz Mb 5 = .inl (cI, 48, .inl (fun _ => 0)) := rfl
theorem ceb_6 (cI cL : ClassId) (ad : Nat → Nat) : cel cI cL ad lay Mb 6 = .inr (6, [.ref (ad 7)]) := rfl
theorem cez_6 (cI cL : ClassId) (ad : Nat → Nat) : cel cI cL ad laz Mb 6 = .inr (6, [.ref (ad 7)]) := rfl
theorem ceb_7 (cI cL : ClassId) (ad : Nat → Nat) : cel cI cL ad lay Mb 7 = .inl (cI, 3760, .inl (fun _ => 0)) := rfl
theorem cez_7 (cI cL : ClassId) (ad : Nat → Nat) : cel cI cL ad laz Mb 7 = .inl (cI, 3760, .inl (fun _ => 0)) := rfl
theorem ceb_8 (cI cL : ClassId) (ad : Nat → Nat) : cel cI cL ad lay Mb 8 = .inr (7, [.ref (ad 13), .ref (ad 9), .ref (ad 10), .ref (ad 11), .ref (ad 12), .int 0, .int 0, .int 0, .int 0, .int 1]) := rfl
theorem cez_8 (cI cL : ClassId) (ad : Nat → Nat) : cel cI cL ad laz Mb 8 = .inr (7, [.ref (ad 13), .ref (ad 9), .ref (ad 10), .ref (ad 11), .ref (ad 12), .int 0, .int 0, .int 0, .int 0, .int 1]) := rfl
theorem ceb_9 (cI cL : ClassId) (ad : Nat → Nat) : cel cI cL ad lay Mb 9 = .inl (cI, 48, .inl (fun _ => 0)) := rfl
theorem cez_9 (cI cL : ClassId) (ad : Nat → Nat) : cel cI cL ad laz Mb 9 = .inl (cI, 48, .inl (fun _ => 0)) := rfl
theorem ceb_10 (cI cL : ClassId) (ad : Nat → Nat) : cel cI cL ad lay Mb 10 = .inl (cI, 48, .inl (fun _ => 0)) := rfl
theorem cez_10 (cI cL : ClassId) (ad : Nat → Nat) : cel cI cL ad laz Mb 10 = .inl (cI, 48, .inl (fun _ => 0)) := rfl
theorem ceb_11 (cI cL : ClassId) (ad : Nat → Nat) : cel cI cL ad lay Mb 11 = .inl (cI, 48, .inl (fun _ => 0)) := rfl
theorem cez_11 (cI cL : ClassId) (ad : Nat → Nat) : cel cI cL ad laz Mb 11 = .inl (cI, 48, .inl (fun _ => 0)) := rfl
theorem ceb_12 (cI cL : ClassId) (ad : Nat → Nat) : cel cI cL ad lay Mb 12 = .inl (cI, 48, .inl (fun _ => 0)) := rfl
theorem cez_12 (cI cL : ClassId) (ad : Nat → Nat) : cel cI cL ad laz Mb 12 = .inl (cI, 48, .inl (fun _ => 0)) := rfl
theorem ceb_13 (cI cL : ClassId) (ad : Nat → Nat) : cel cI cL ad lay Mb 13 = .inr (6, [.ref (ad 14)]) := rfl
theorem cez_13 (cI cL : ClassId) (ad : Nat → Nat) : cel cI cL ad laz Mb 13 = .inr (6, [.ref (ad 14)]) := rfl
theorem ceb_14 (cI cL : ClassId) (ad : Nat → Nat) : cel cI cL ad lay Mb 14 = .inl (cI, 1920, .inl (fun _ => 0)) := rfl
theorem cez_14 (cI cL : ClassId) (ad : Nat → Nat) : cel cI cL ad laz Mb 14 = .inl (cI, 1920, .inl (fun _ => 0)) := rfl
theorem ceb_15 (cI cL : ClassId) (ad : Nat → Nat) : cel cI cL ad lay Mb 15 = .inr (5, [.ref (ad 16), .ref (ad 17), .ref (ad 18)]) := rfl
theorem cez_15 (cI cL : ClassId) (ad : Nat → Nat) : cel cI cL ad laz Mb 15 = .inr (5, [.ref (ad 16), .ref (ad 17), .ref (ad 18)]) := rfl
theorem ceb_16 (cI cL : ClassId) (ad : Nat → Nat) : cel cI cL ad lay Mb 16 = .inl (cI, 8, .inl (fl8 (-1))) := rfl
theorem cez_16 (cI cL : ClassId) (ad : Nat → Nat) : cel cI cL ad laz Mb 16 = .inl (cI, 8, .inl (fl8 (-1))) := rfl
theorem ceb_17 (cI cL : ClassId) (ad : Nat → Nat) : cel cI cL ad lay Mb 17 = .inl (cI, 8, .inl (fun _ => 0)) := rfl
theorem cez_17 (cI cL : ClassId) (ad : Nat → Nat) : cel cI cL ad laz Mb 17 = .inl (cI, 8, .inl (fun _ => 0)) := rfl
theorem ceb_18 (cI cL : ClassId) (ad : Nat → Nat) : cel cI cL ad lay Mb 18 = .inl (cL, 1280, .inr (.inl (fun _ => 0))) := rfl
theorem cez_18 (cI cL : ClassId) (ad : Nat → Nat) : cel cI cL ad laz Mb 18 = .inl (cL, 1280, .inr (.inl (fun _ => 0))) := rfl
theorem ceb_19 (cI cL : ClassId) (ad : Nat → Nat) : cel cI cL ad lay Mb 19 = .inr (3, [.ref (ad 15), .ref (ad 6), .ref (ad 20), .int 0, .int 0]) := rfl
theorem cez_19 (cI cL : ClassId) (ad : Nat → Nat) : cel cI cL ad laz Mb 19 = .inr (3, [.ref (ad 15), .ref (ad 6), .ref (ad 20), .int 0, .int 0]) := rfl
theorem ceb_20 (cI cL : ClassId) (ad : Nat → Nat) : cel cI cL ad lay Mb 20 = .inl (cI, 40, .inl (fun _ => 0)) := rfl
theorem cez_20 (cI cL : ClassId) (ad : Nat → Nat) : cel cI cL ad laz Mb 20 = .inl (cI, 40, .inl (fun _ => 0)) := rfl
theorem ceb_21 (cI cL : ClassId) (ad : Nat → Nat) : cel cI cL ad lay Mb 21 = .inr (1, [.ref (ad 6), .ref (ad 22), .ref (ad 23), .int 0]) := rfl
theorem cez_21 (cI cL : ClassId) (ad : Nat → Nat) : cel cI cL ad laz Mb 21 = .inr (1, [.ref (ad 6), .ref (ad 22), .ref (ad 23), .int 0]) := rfl
theorem ceb_22 (cI cL : ClassId) (ad : Nat → Nat) : cel cI cL ad lay Mb 22 = .inl (cI, 40, .inl (fun _ => 0)) := rfl
theorem cez_22 (cI cL : ClassId) (ad : Nat → Nat) : cel cI cL ad laz Mb 22 = .inl (cI, 40, .inl (fun _ => 0)) := rfl
theorem ceb_23 (cI cL : ClassId) (ad : Nat → Nat) : cel cI cL ad lay Mb 23 = .inl (cL, 40, .inr (.inl (fun _ => 0))) := rfl
theorem cez_23 (cI cL : ClassId) (ad : Nat → Nat) : cel cI cL ad laz Mb 23 = .inl (cL, 40, .inr (.inl (fun _ => 0))) := rfl
theorem ceb_24 (cI cL : ClassId) (ad : Nat → Nat) : cel cI cL ad lay Mb 24 = .inr (0, [.ref (ad 6), .ref (ad 25), .int 0, .int 0]) := rfl
theorem cez_24 (cI cL : ClassId) (ad : Nat → Nat) : cel cI cL ad laz Mb 24 = .inr (0, [.ref (ad 6), .ref (ad 25), .int 0, .int 0]) := rfl
theorem ceb_25 (cI cL : ClassId) (ad : Nat → Nat) : cel cI cL ad lay Mb 25 = .inl (cL, 40, .inr (.inl (fun _ => 0))) := rfl
theorem cez_25 (cI cL : ClassId) (ad : Nat → Nat) : cel cI cL ad laz Mb 25 = .inl (cL, 40, .inr (.inl (fun _ => 0))) := rfl
theorem ceb_26 (cI cL : ClassId) (ad : Nat → Nat) : cel cI cL ad lay Mb 26 = .inr (2, [.ref (ad 6), .ref (ad 27), .ref (ad 28), .int 0, .int 0, .int 0]) := rfl
theorem cez_26 (cI cL : ClassId) (ad : Nat → Nat) : cel cI cL ad laz Mb 26 = .inr (2, [.ref (ad 6), .ref (ad 27), .ref (ad 28), .int 0, .int 0, .int 0]) := rfl
theorem ceb_27 (cI cL : ClassId) (ad : Nat → Nat) : cel cI cL ad lay Mb 27 = .inl (cI, 6, .inl (fun _ => 0)) := rfl
theorem cez_27 (cI cL : ClassId) (ad : Nat → Nat) : cel cI cL ad laz Mb 27 = .inl (cI, 6, .inl (fun _ => 0)) := rfl
theorem ceb_28 (cI cL : ClassId) (ad : Nat → Nat) : cel cI cL ad lay Mb 28 = .inl (cI, 40, .inl (fun _ => 0)) := rfl
theorem cez_28 (cI cL : ClassId) (ad : Nat → Nat) : cel cI cL ad laz Mb 28 = .inl (cI, 40, .inl (fun _ => 0)) := rfl
theorem ceb_29 (cI cL : ClassId) (ad : Nat → Nat) : cel cI cL ad lay Mb 29 = .inr (4, [.ref (ad 1), .ref (ad 6), .ref (ad 26), .ref (ad 30), .ref (ad 33), .ref (ad 34), .ref (ad 35), .ref (ad 36), .ref (ad 37), .ref (ad 38), .ref (ad 39), .int 0, .int 0, .int 0, .int (jn 2120), .int (-1), .int 0]) := rfl
theorem cez_29 (cI cL : ClassId) (ad : Nat → Nat) : cel cI cL ad laz Mb 29 = .inr (4, [.ref (ad 1), .ref (ad 6), .ref (ad 26), .ref (ad 30), .ref (ad 33), .ref (ad 34), .ref (ad 35), .ref (ad 36), .ref (ad 37), .ref (ad 38), .ref (ad 39), .int 0, .int 0, .int 0, .int (jn 2120), .int (-1), .int 0]) := rfl
theorem ceb_30 (cI cL : ClassId) (ad : Nat → Nat) : cel cI cL ad lay Mb 30 = .inr (8, [.ref (ad 31), .ref (ad 32), .int 0]) := rfl
theorem cez_30 (cI cL : ClassId) (ad : Nat → Nat) : cel cI cL ad laz Mb 30 = .inr (8, [.ref (ad 31), .ref (ad 32), .int 0]) := rfl
theorem ceb_31 (cI cL : ClassId) (ad : Nat → Nat) : cel cI cL ad lay Mb 31 = .inl (cI, 40, .inl (fun _ => 0)) := rfl
theorem cez_31 (cI cL : ClassId) (ad : Nat → Nat) : cel cI cL ad laz Mb 31 = .inl (cI, 40, .inl (fun _ => 0)) := rfl
theorem ceb_32 (cI cL : ClassId) (ad : Nat → Nat) : cel cI cL ad lay Mb 32 = .inl (cL, 40, .inr (.inl (fun _ => 0))) := rfl
theorem cez_32 (cI cL : ClassId) (ad : Nat → Nat) : cel cI cL ad laz Mb 32 = .inl (cL, 40, .inr (.inl (fun _ => 0))) := rfl
theorem ceb_33 (cI cL : ClassId) (ad : Nat → Nat) : cel cI cL ad lay Mb 33 = .inl (cI, 600, .inl (fun _ => 0)) := rfl
theorem cez_33 (cI cL : ClassId) (ad : Nat → Nat) : cel cI cL ad laz Mb 33 = .inl (cI, 600, .inl (fun _ => 0)) := rfl
theorem ceb_34 (cI cL : ClassId) (ad : Nat → Nat) : cel cI cL ad lay Mb 34 = .inl (cI, 600, .inl (fun _ => 0)) := rfl
theorem cez_34 (cI cL : ClassId) (ad : Nat → Nat) : cel cI cL ad laz Mb 34 = .inl (cI, 600, .inl (fun _ => 0)) := rfl
theorem ceb_35 (cI cL : ClassId) (ad : Nat → Nat) : cel cI cL ad lay Mb 35 = .inl (cL, 600, .inr (.inl (fun _ => 0))) := rfl
theorem cez_35 (cI cL : ClassId) (ad : Nat → Nat) : cel cI cL ad laz Mb 35 = .inl (cL, 600, .inr (.inl (fun _ => 0))) := rfl
theorem ceb_36 (cI cL : ClassId) (ad : Nat → Nat) : cel cI cL ad lay Mb 36 = .inl (cI, 600, .inl (fun _ => 0)) := rfl
theorem cez_36 (cI cL : ClassId) (ad : Nat → Nat) : cel cI cL ad laz Mb 36 = .inl (cI, 600, .inl (fun _ => 0)) := rfl
theorem ceb_37 (cI cL : ClassId) (ad : Nat → Nat) : cel cI cL ad lay Mb 37 = .inl (cI, 600, .inl (fun _ => 0)) := rfl
theorem cez_37 (cI cL : ClassId) (ad : Nat → Nat) : cel cI cL ad laz Mb 37 = .inl (cI, 600, .inl (fun _ => 0)) := rfl
theorem ceb_38 (cI cL : ClassId) (ad : Nat → Nat) : cel cI cL ad lay Mb 38 = .inl (cI, 600, .inl (fun _ => 0)) := rfl
theorem cez_38 (cI cL : ClassId) (ad : Nat → Nat) : cel cI cL ad laz Mb 38 = .inl (cI, 600, .inl (fun _ => 0)) := rfl
theorem ceb_39 (cI cL : ClassId) (ad : Nat → Nat) : cel cI cL ad lay Mb 39 = .inl (cI, 600, .inl (fun _ => 0)) := rfl
theorem cez_39 (cI cL : ClassId) (ad : Nat → Nat) : cel cI cL ad laz Mb 39 = .inl (cI, 600, .inl (fun _ => 0)) := rfl
theorem ceb_40 (cI cL : ClassId) (ad : Nat → Nat) : cel cI cL ad lay Mb 40 = .inr (9, [.ref (ad 6), .ref (ad 41), .ref (ad 42), .ref (ad 43), .ref (ad 44), .ref (ad 45), .ref (ad 46), .ref (ad 47), .int 0, .int 0, .int 0, .int 0, .int 0]) := rfl
theorem cez_40 (cI cL : ClassId) (ad : Nat → Nat) : cel cI cL ad laz Mb 40 = .inr (9, [.ref (ad 6), .ref (ad 41), .ref (ad 42), .ref (ad 43), .ref (ad 44), .ref (ad 45), .ref (ad 46), .ref (ad 47), .int 0, .int 0, .int 0, .int 0, .int 0]) := rfl
theorem ceb_41 (cI cL : ClassId) (ad : Nat → Nat) : cel cI cL ad lay Mb 41 = .inl (cI, 80, .inl (fun _ => 0)) := rfl
theorem cez_41 (cI cL : ClassId) (ad : Nat → Nat) : cel cI cL ad laz Mb 41 = .inl (cI, 80, .inl (fun _ => 0)) := rfl
theorem ceb_42 (cI cL : ClassId) (ad : Nat → Nat) : cel cI cL ad lay Mb 42 = .inl (cI, 80, .inl (fun _ => 0)) := rfl
theorem cez_42 (cI cL : ClassId) (ad : Nat → Nat) : cel cI cL ad laz Mb 42 = .inl (cI, 80, .inl (fun _ => 0)) := rfl
theorem ceb_43 (cI cL : ClassId) (ad : Nat → Nat) : cel cI cL ad lay Mb 43 = .inl (cI, 92, .inl (fun _ => 0)) := rfl
theorem cez_43 (cI cL : ClassId) (ad : Nat → Nat) : cel cI cL ad laz Mb 43 = .inl (cI, 92, .inl (fun _ => 0)) := rfl
theorem ceb_44 (cI cL : ClassId) (ad : Nat → Nat) : cel cI cL ad lay Mb 44 = .inl (cI, 92, .inl (fun _ => 0)) := rfl
theorem cez_44 (cI cL : ClassId) (ad : Nat → Nat) : cel cI cL ad laz Mb 44 = .inl (cI, 92, .inl (fun _ => 0)) := rfl
theorem ceb_45 (cI cL : ClassId) (ad : Nat → Nat) : cel cI cL ad lay Mb 45 = .inl (cI, 92, .inl (fun _ => 0)) := rfl
theorem cez_45 (cI cL : ClassId) (ad : Nat → Nat) : cel cI cL ad laz Mb 45 = .inl (cI, 92, .inl (fun _ => 0)) := rfl
theorem ceb_46 (cI cL : ClassId) (ad : Nat → Nat) : cel cI cL ad lay Mb 46 = .inl (cI, 92, .inl (fun _ => 0)) := rfl
theorem cez_46 (cI cL : ClassId) (ad : Nat → Nat) : cel cI cL ad laz Mb 46 = .inl (cI, 92, .inl (fun _ => 0)) := rfl
theorem ceb_47 (cI cL : ClassId) (ad : Nat → Nat) : cel cI cL ad lay Mb 47 = .inl (cI, 368, .inl (fun _ => 0)) := rfl
theorem cez_47 (cI cL : ClassId) (ad : Nat → Nat) : cel cI cL ad laz Mb 47 = .inl (cI, 368, .inl (fun _ => 0)) := rfl
theorem ceb_48 (cI cL : ClassId) (ad : Nat → Nat) : cel cI cL ad lay Mb 48 = .inr (8, [.ref (ad 49), .ref (ad 50), .int 0]) := rfl
theorem cez_48 (cI cL : ClassId) (ad : Nat → Nat) : cel cI cL ad laz Mb 48 = .inr (8, [.ref (ad 49), .ref (ad 50), .int 0]) := rfl
theorem ceb_49 (cI cL : ClassId) (ad : Nat → Nat) : cel cI cL ad lay Mb 49 = .inl (cI, 40, .inl (fun _ => 0)) := rfl
theorem cez_49 (cI cL : ClassId) (ad : Nat → Nat) : cel cI cL ad laz Mb 49 = .inl (cI, 40, .inl (fun _ => 0)) := rfl
theorem ceb_50 (cI cL : ClassId) (ad : Nat → Nat) : cel cI cL ad lay Mb 50 = .inl (cL, 40, .inr (.inl (fun _ => 0))) := rfl
theorem cez_50 (cI cL : ClassId) (ad : Nat → Nat) : cel cI cL ad laz Mb 50 = .inl (cL, 40, .inr (.inl (fun _ => 0))) := rfl
theorem ceb_51 (cI cL : ClassId) (ad : Nat → Nat) : cel cI cL ad lay Mb 51 = .inl (cI, 8, .inl (fun _ => 0)) := rfl
theorem cez_51 (cI cL : ClassId) (ad : Nat → Nat) : cel cI cL ad laz Mb 51 = .inl (cI, 8, .inl (fun _ => 0)) := rfl
theorem cez_52 (cI cL : ClassId) (ad : Nat → Nat) : cel cI cL ad laz Mb 52 = .inl (cI, 80, .inl (fun _ => 0)) := rfl
theorem wlb (cI cL : ClassId) (ad : Nat → Nat) : wld cI cL ad lay Mb = [(ad 0, .inr (10, [.ref (ad 1), .ref (ad 8), .ref (ad 6), .ref (ad 15), .ref (ad 19), .ref (ad 21), .ref (ad 24), .ref (ad 26), .ref (ad 29), .ref (ad 40), .ref (ad 48), .ref (ad 51), .int 0, .int (-1)])), (ad 1, .inr (7, [.ref (ad 6), .ref (ad 2), .ref (ad 3), .ref (ad 4), .ref (ad 5), .int 0, .int 0, .int 0, .int 0, .int 1])), (ad 2, .inl (cI, 48, .inl (fun _ => 0))), (ad 3, .inl (cI, 48, .inl (fun _ => 0))), (ad 4, .inl (cI, 48, .inl (fun _ => 0))), (ad 5, .inl (cI, 48, .inl (fun _ => 0))), (ad 6, .inr (6, [.ref (ad 7)])), (ad 7, .inl (cI, 3760, .inl (fun _ => 0))), (ad 8, .inr (7, [.ref (ad 13), .ref (ad 9), .ref (ad 10), .ref (ad 11), .ref (ad 12), .int 0, .int 0, .int 0, .int 0, .int 1])), (ad 9, .inl (cI, 48, .inl (fun _ => 0))), (ad 10, .inl (cI, 48, .inl (fun _ => 0))), (ad 11, .inl (cI, 48, .inl (fun _ => 0))), (ad 12, .inl (cI, 48, .inl (fun _ => 0))), (ad 13, .inr (6, [.ref (ad 14)])), (ad 14, .inl (cI, 1920, .inl (fun _ => 0))), (ad 15, .inr (5, [.ref (ad 16), .ref (ad 17), .ref (ad 18)])), (ad 16, .inl (cI, 8, .inl (fl8 (-1)))), (ad 17, .inl (cI, 8, .inl (fun _ => 0))), (ad 18, .inl (cL, 1280, .inr (.inl (fun _ => 0)))), (ad 19, .inr (3, [.ref (ad 15), .ref (ad 6), .ref (ad 20), .int 0, .int 0])), (ad 20, .inl (cI, 40, .inl (fun _ => 0))), (ad 21, .inr (1, [.ref (ad 6), .ref (ad 22), .ref (ad 23), .int 0])), (ad 22, .inl (cI, 40, .inl (fun _ => 0))), (ad 23, .inl (cL, 40, .inr (.inl (fun _ => 0)))), (ad 24, .inr (0, [.ref (ad 6), .ref (ad 25), .int 0, .int 0])), (ad 25, .inl (cL, 40, .inr (.inl (fun _ => 0)))), (ad 26, .inr (2, [.ref (ad 6), .ref (ad 27), .ref (ad 28), .int 0, .int 0, .int 0])), (ad 27, .inl (cI, 6, .inl (fun _ => 0))), (ad 28, .inl (cI, 40, .inl (fun _ => 0))), (ad 29, .inr (4, [.ref (ad 1), .ref (ad 6), .ref (ad 26), .ref (ad 30), .ref (ad 33), .ref (ad 34), .ref (ad 35), .ref (ad 36), .ref (ad 37), .ref (ad 38), .ref (ad 39), .int 0, .int 0, .int 0, .int (jn 2120), .int (-1), .int 0])), (ad 30, .inr (8, [.ref (ad 31), .ref (ad 32), .int 0])), (ad 31, .inl (cI, 40, .inl (fun _ => 0))), (ad 32, .inl (cL, 40, .inr (.inl (fun _ => 0)))), (ad 33, .inl (cI, 600, .inl (fun _ => 0))), (ad 34, .inl (cI, 600, .inl (fun _ => 0))), (ad 35, .inl (cL, 600, .inr (.inl (fun _ => 0)))), (ad 36, .inl (cI, 600, .inl (fun _ => 0))), (ad 37, .inl (cI, 600, .inl (fun _ => 0))), (ad 38, .inl (cI, 600, .inl (fun _ => 0))), (ad 39, .inl (cI, 600, .inl (fun _ => 0))), (ad 40, .inr (9, [.ref (ad 6), .ref (ad 41), .ref (ad 42), .ref (ad 43), .ref (ad 44), .ref (ad 45), .ref (ad 46), .ref (ad 47), .int 0, .int 0, .int 0, .int 0, .int 0])), (ad 41, .inl (cI, 80, .inl (fun _ => 0))), (ad 42, .inl (cI, 80, .inl (fun _ => 0))), (ad 43, .inl (cI, 92, .inl (fun _ => 0))), (ad 44, .inl (cI, 92, .inl (fun _ => 0))), (ad 45, .inl (cI, 92, .inl (fun _ => 0))), (ad 46, .inl (cI, 92, .inl (fun _ => 0))), (ad 47, .inl (cI, 368, .inl (fun _ => 0))), (ad 48, .inr (8, [.ref (ad 49), .ref (ad 50), .int 0])), (ad 49, .inl (cI, 40, .inl (fun _ => 0))), (ad 50, .inl (cL, 40, .inr (.inl (fun _ => 0)))), (ad 51, .inl (cI, 8, .inl (fun _ => 0)))] := by
  unfold wld
  have hl : lay.length = 52 := by decide
  rw [hl]
  rw [show List.range 52 = [0, 1, 2, 3, 4, 5, 6, 7, 8, 9, 10, 11, 12, 13, 14, 15, 16, 17, 18, 19, 20, 21, 22, 23, 24, 25, 26, 27, 28, 29, 30, 31, 32, 33, 34, 35, 36, 37, 38, 39, 40, 41, 42, 43, 44, 45, 46, 47, 48, 49, 50, 51] from by decide]
  simp only [List.map_cons, List.map_nil]
  rw [ceb_0, ceb_1, ceb_2, ceb_3, ceb_4, ceb_5, ceb_6, ceb_7, ceb_8, ceb_9, ceb_10, ceb_11, ceb_12, ceb_13, ceb_14, ceb_15, ceb_16, ceb_17, ceb_18, ceb_19, ceb_20, ceb_21, ceb_22, ceb_23, ceb_24, ceb_25, ceb_26, ceb_27, ceb_28, ceb_29, ceb_30, ceb_31, ceb_32, ceb_33, ceb_34, ceb_35, ceb_36, ceb_37, ceb_38, ceb_39, ceb_40, ceb_41, ceb_42, ceb_43, ceb_44, ceb_45, ceb_46, ceb_47, ceb_48, ceb_49, ceb_50, ceb_51]
theorem wlz (cI cL : ClassId) (ad : Nat → Nat) : wld cI cL ad laz Mb = [(ad 0, .inr (10, [.ref (ad 1), .ref (ad 8), .ref (ad 6), .ref (ad 15), .ref (ad 19), .ref (ad 21), .ref (ad 24), .ref (ad 26), .ref (ad 29), .ref (ad 40), .ref (ad 48), .ref (ad 51), .int 0, .int (-1)])), (ad 1, .inr (7, [.ref (ad 6), .ref (ad 2), .ref (ad 3), .ref (ad 4), .ref (ad 5), .int 0, .int 0, .int 0, .int 0, .int 1])), (ad 2, .inl (cI, 48, .inl (fun _ => 0))), (ad 3, .inl (cI, 48, .inl (fun _ => 0))), (ad 4, .inl (cI, 48, .inl (fun _ => 0))), (ad 5, .inl (cI, 48, .inl (fun _ => 0))), (ad 6, .inr (6, [.ref (ad 7)])), (ad 7, .inl (cI, 3760, .inl (fun _ => 0))), (ad 8, .inr (7, [.ref (ad 13), .ref (ad 9), .ref (ad 10), .ref (ad 11), .ref (ad 12), .int 0, .int 0, .int 0, .int 0, .int 1])), (ad 9, .inl (cI, 48, .inl (fun _ => 0))), (ad 10, .inl (cI, 48, .inl (fun _ => 0))), (ad 11, .inl (cI, 48, .inl (fun _ => 0))), (ad 12, .inl (cI, 48, .inl (fun _ => 0))), (ad 13, .inr (6, [.ref (ad 14)])), (ad 14, .inl (cI, 1920, .inl (fun _ => 0))), (ad 15, .inr (5, [.ref (ad 16), .ref (ad 17), .ref (ad 18)])), (ad 16, .inl (cI, 8, .inl (fl8 (-1)))), (ad 17, .inl (cI, 8, .inl (fun _ => 0))), (ad 18, .inl (cL, 1280, .inr (.inl (fun _ => 0)))), (ad 19, .inr (3, [.ref (ad 15), .ref (ad 6), .ref (ad 20), .int 0, .int 0])), (ad 20, .inl (cI, 40, .inl (fun _ => 0))), (ad 21, .inr (1, [.ref (ad 6), .ref (ad 22), .ref (ad 23), .int 0])), (ad 22, .inl (cI, 40, .inl (fun _ => 0))), (ad 23, .inl (cL, 40, .inr (.inl (fun _ => 0)))), (ad 24, .inr (0, [.ref (ad 6), .ref (ad 25), .int 0, .int 0])), (ad 25, .inl (cL, 40, .inr (.inl (fun _ => 0)))), (ad 26, .inr (2, [.ref (ad 6), .ref (ad 27), .ref (ad 28), .int 0, .int 0, .int 0])), (ad 27, .inl (cI, 6, .inl (fun _ => 0))), (ad 28, .inl (cI, 40, .inl (fun _ => 0))), (ad 29, .inr (4, [.ref (ad 1), .ref (ad 6), .ref (ad 26), .ref (ad 30), .ref (ad 33), .ref (ad 34), .ref (ad 35), .ref (ad 36), .ref (ad 37), .ref (ad 38), .ref (ad 39), .int 0, .int 0, .int 0, .int (jn 2120), .int (-1), .int 0])), (ad 30, .inr (8, [.ref (ad 31), .ref (ad 32), .int 0])), (ad 31, .inl (cI, 40, .inl (fun _ => 0))), (ad 32, .inl (cL, 40, .inr (.inl (fun _ => 0)))), (ad 33, .inl (cI, 600, .inl (fun _ => 0))), (ad 34, .inl (cI, 600, .inl (fun _ => 0))), (ad 35, .inl (cL, 600, .inr (.inl (fun _ => 0)))), (ad 36, .inl (cI, 600, .inl (fun _ => 0))), (ad 37, .inl (cI, 600, .inl (fun _ => 0))), (ad 38, .inl (cI, 600, .inl (fun _ => 0))), (ad 39, .inl (cI, 600, .inl (fun _ => 0))), (ad 40, .inr (9, [.ref (ad 6), .ref (ad 41), .ref (ad 42), .ref (ad 43), .ref (ad 44), .ref (ad 45), .ref (ad 46), .ref (ad 47), .int 0, .int 0, .int 0, .int 0, .int 0])), (ad 41, .inl (cI, 80, .inl (fun _ => 0))), (ad 42, .inl (cI, 80, .inl (fun _ => 0))), (ad 43, .inl (cI, 92, .inl (fun _ => 0))), (ad 44, .inl (cI, 92, .inl (fun _ => 0))), (ad 45, .inl (cI, 92, .inl (fun _ => 0))), (ad 46, .inl (cI, 92, .inl (fun _ => 0))), (ad 47, .inl (cI, 368, .inl (fun _ => 0))), (ad 48, .inr (8, [.ref (ad 49), .ref (ad 50), .int 0])), (ad 49, .inl (cI, 40, .inl (fun _ => 0))), (ad 50, .inl (cL, 40, .inr (.inl (fun _ => 0)))), (ad 51, .inl (cI, 8, .inl (fun _ => 0)))] ++ [(ad 52, .inl (cI, 80, .inl (fun _ => 0)))] := by
  unfold wld
  have hl : laz.length = 53 := by decide
  rw [hl]
  rw [show List.range 53 = [0, 1, 2, 3, 4, 5, 6, 7, 8, 9, 10, 11, 12, 13, 14, 15, 16, 17, 18, 19, 20, 21, 22, 23, 24, 25, 26, 27, 28, 29, 30, 31, 32, 33, 34, 35, 36, 37, 38, 39, 40, 41, 42, 43, 44, 45, 46, 47, 48, 49, 50, 51, 52] from by decide]
  simp only [List.map_cons, List.map_nil]
  rw [cez_0, cez_1, cez_2, cez_3, cez_4, cez_5, cez_6, cez_7, cez_8, cez_9, cez_10, cez_11, cez_12, cez_13, cez_14, cez_15, cez_16, cez_17, cez_18, cez_19, cez_20, cez_21, cez_22, cez_23, cez_24, cez_25, cez_26, cez_27, cez_28, cez_29, cez_30, cez_31, cez_32, cez_33, cez_34, cez_35, cez_36, cez_37, cez_38, cez_39, cez_40, cez_41, cez_42, cez_43, cez_44, cez_45, cez_46, cez_47, cez_48, cez_49, cez_50, cez_51, cez_52]
  rfl
theorem wl_up (cI cL : ClassId) (ad : Nat → Nat) (b : Nat) : wld cI cL ad lay Mb ++ [(b, .inl (cI, 80, .inl (fun _ => 0)))] = wld cI cL (fun k => if k = 52 then b else ad k) laz Mb := by
  rw [wlb, wlz]
  rfl
