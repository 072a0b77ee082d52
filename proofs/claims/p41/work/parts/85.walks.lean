/-! the model's run: arguments -/
section
variable {d : Nat} {A : AT} {M M1 M' : PM} {a b c e f : Int32} {v : Int64} {T : Tm} {q : RnS} {K i : Nat}
theorem OutM.arg2 {s : Prop} {x x' y : Tm} {q1 q2 : RnS} (hT : wf T) (hi : i < sz T) (h2 : wf (Nd c x' y)) (wy : wf y) (hk : Kp K M M1) (g : sz x' + 39 * q.2.1 ≤ sz x + 39 * q1.2.1) (g2 : ∃ tr, q1.2.2.1 = q.2.2.1 ++ tr) (h : OutM s A (rep T i (Nd c x' y)) (i + 1 + sz x') y q1 K M1 (none, q2) M') : OutM False A T i (Nd c x y) q K M (none, q2) M' := by
  rcases h with ⟨h, h1, h3⟩ | ⟨h0, h1, u2, tr, _, h3, h4, h5⟩
  · exact Or.inl ⟨h, hk.1.trans h1, h3⟩
  · obtain ⟨tr', g2⟩ := g2
    have hT1 := rep_wf hT hi h2
    have hi1 := rep_lt hT hi h2
    have hu1 := sub_rep hT hi h2
    refine Or.inr ⟨h0, hk.trans h1, Nd c x' u2, tr' ++ tr, fun z => z.elim, wf_n2 h2 wy h3, by rw [sz_n, sz_n]; omega, RunM_t (RunM_eq h5 (by rw [g2, List.append_assoc])) ?_⟩
    rw [rep_c2 hT1 hi1 hu1 wy h3, rep_rep hT hi h2 (wf_n2 h2 wy h3)]
theorem OutM.dry {u : Tm} {q2 : RnS} (hT : wf T) (hi : i < sz T) (hu : sub T i = u) (hk : Kp K M M1) (h : RunM A T q2 K M1) (ho : ¬ q2.2.2.2 = true) (g1 : q.2.1 ≤ q2.2.1) (g2 : ∃ tr, q2.2.2.1 = q.2.2.1 ++ tr) : OutM False A T i u q K M (none, q2) M1 := by
  obtain ⟨tr, g2⟩ := g2
  have ho : q2.2.2.2 = false := by simpa using ho
  refine Or.inr ⟨ho, hk, u, tr, fun z => z.elim, hu ▸ sub_wf hT hi, by omega, RunM_t (RunM_eq h ?_) (by rw [← hu, rep_self hT hi])⟩
  rw [← g2, ← ho]
theorem sg65 {x y : Tm} (hT : wf T) (hi : i < sz T) (hu : sub T i = Nd c x y) (h : RunM A T q K M) : M.1 65 i = c := by
  have := sub_at hT hi h.1.2.2
  rw [hu, Nat.zero_add, en_n] at this
  exact this.1
theorem at65 {x : Tm} {j : Nat} (hT : wf T) (hj : j < sz T) (hu : sub T j = x) (h : RunM A T q K M) : At (M.1 65) j (en x) := by
  have := sub_at hT hj h.1.2.2
  rw [hu, Nat.zero_add] at this
  exact this
theorem rZ_if {b : Prop} [Decidable b] (M : PM) : (if bI b = jn 0 then rZ (jn 0) M else rZ (jn 1) M) = rI (bI b) M := by
  by_cases h : b
  · rw [bI_1 h, ieq_neg (by omega) (by omega) (by omega), rZ_1]
  · rw [bI_n h, ieq_pos rfl, rZ_0]
end
