/-! strategy and says of the model; status -/
section
variable {d : Nat} {A : AT} {M : PM} {a b c e f : Int32} {v : Int64}
theorem hel_lk (hA : AOk A) {s : Nat} (hs : s < 8) (hr : ¬ isR A s) : (hel A s = jz 1 ∧ lk (ssA A) (hel A s) = none) ∨ ∃ n q, n < 24 ∧ hel A s = jn n ∧ (ssA A)[n]? = some q ∧ lk (ssA A) (hel A s) = some q := by
  rcases (hA.2.2.2 s hs).2 with q | ⟨w, hw, q⟩ | ⟨o, ho, q⟩
  · have q2 : hel A s = jz 1 := q
    refine Or.inl ⟨q2, ?_⟩
    rw [q2]
    exact lk_none (by rw [jz_toInt (by omega)]; omega)
  · have q2 : hel A s = jn w := q
    have hw : w < (ssA A).length := hw
    have hl : (ssA A).length ≤ 24 := hA.1.2.2.1.1
    obtain ⟨n, t, h1, h2, h3, h4⟩ := lk_some (l := ssA A) (a := jn w) (by rw [jn_toInt (by omega)]; omega)
    exact Or.inr ⟨n, t, by omega, by rw [q2, h1], h3, by rw [q2, h4]⟩
  · have q2 : hel A s = jn (100 + o) := q
    rw [isR, q2, jn_toInt (by omega)] at hr; omega
end
