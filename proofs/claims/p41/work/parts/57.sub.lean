/-! what stands at a node, and what another tree there makes -/
def sub : Tm → Nat → Tm
  | .leaf, _ => .leaf
  | .inner n c u a b, i => if i = 0 then .inner n c u a b else if i ≤ sz a then sub a (i - 1) else sub b (i - 1 - sz a)
def rep : Tm → Nat → Tm → Tm
  | .leaf, _, s => s
  | .inner n c u a b, i, s => if i = 0 then s else if i ≤ sz a then .inner n c u (rep a (i - 1) s) b else .inner n c u a (rep b (i - 1 - sz a) s)
theorem sub_pieces : ∀ t, wf t → ∀ i, i < sz t → wf (sub t i) ∧ (∀ s, wf s → wf (rep t i s)) ∧ ∃ x y, x.length = i ∧ en t = x ++ (en (sub t i) ++ y) ∧ ∀ s, en (rep t i s) = x ++ (en s ++ y) := by
  have e0 : ∀ c a b, sub (Nd c a b) 0 = Nd c a b := fun c a b => if_pos rfl
  have r0 : ∀ c a b s, rep (Nd c a b) 0 s = s := fun c a b s => if_pos rfl
  have e1 : ∀ c a b i, i < sz a → sub (Nd c a b) (i + 1) = sub a i := fun c a b i h => by
    show (if i + 1 = 0 then _ else if i + 1 ≤ sz a then _ else _) = _
    rw [if_neg (by omega), if_pos (by omega), Nat.add_sub_cancel]
  have r1 : ∀ c a b i s, i < sz a → rep (Nd c a b) (i + 1) s = Nd c (rep a i s) b := fun c a b i s h => by
    show (if i + 1 = 0 then _ else if i + 1 ≤ sz a then _ else _) = _
    rw [if_neg (by omega), if_pos (by omega), Nat.add_sub_cancel]
  have e2 : ∀ c a b i, sub (Nd c a b) (sz a + 1 + i) = sub b i := fun c a b i => by
    show (if sz a + 1 + i = 0 then _ else if sz a + 1 + i ≤ sz a then _ else _) = _
    rw [if_neg (by omega), if_neg (by omega)]
    congr 1; omega
  have r2 : ∀ c a b i s, rep (Nd c a b) (sz a + 1 + i) s = Nd c a (rep b i s) := fun c a b i s => by
    show (if sz a + 1 + i = 0 then _ else if sz a + 1 + i ≤ sz a then _ else _) = _
    rw [if_neg (by omega), if_neg (by omega)]
    congr 2; omega
  refine wf_ind (fun c hc => ?_) (fun c a hc ha iha => ?_) (fun c a b hc ha hb iha ihb => ?_)
  · intro i hi
    have hi : i = 0 := by rw [sz_0] at hi; omega
    subst hi
    rw [e0]
    exact ⟨wf_0 hc, fun s hs => by rw [r0]; exact hs, [], [], rfl, by simp, fun s => by rw [r0]; simp⟩
  · intro i hi
    rw [sz_1] at hi
    cases i with
    | zero =>
      rw [e0]
      exact ⟨wf_1 hc ha, fun s hs => by rw [r0]; exact hs, [], [], rfl, by simp, fun s => by rw [r0]; simp⟩
    | succ i =>
      obtain ⟨h1, h2, x, y, h3, h4, h5⟩ := iha i (by omega)
      rw [e1 _ _ _ _ (by omega)]
      refine ⟨h1, fun s hs => by rw [r1 _ _ _ _ _ (by omega)]; exact wf_1 hc (h2 s hs), c :: x, y, by simp [h3], ?_, fun s => ?_⟩
      · rw [en_1, h4]; rfl
      · rw [r1 _ _ _ _ _ (by omega), en_1, h5 s]; rfl
  · intro i hi
    rw [sz_2] at hi
    cases i with
    | zero =>
      rw [e0]
      exact ⟨wf_2 hc ha hb, fun s hs => by rw [r0]; exact hs, [], [], rfl, by simp, fun s => by rw [r0]; simp⟩
    | succ i =>
      by_cases hia : i < sz a
      · obtain ⟨h1, h2, x, y, h3, h4, h5⟩ := iha i hia
        rw [e1 _ _ _ _ hia]
        refine ⟨h1, fun s hs => by rw [r1 _ _ _ _ _ hia]; exact wf_2 hc (h2 s hs) hb, c :: x, y ++ en b, by simp [h3], ?_, fun s => ?_⟩
        · rw [en_2, h4]; simp
        · rw [r1 _ _ _ _ _ hia, en_2, h5 s]; simp
      · obtain ⟨j, rfl⟩ : ∃ j, i = sz a + j := ⟨i - sz a, by omega⟩
        obtain ⟨h1, h2, x, y, h3, h4, h5⟩ := ihb j (by omega)
        rw [show sz a + j + 1 = sz a + 1 + j by omega, e2]
        refine ⟨h1, fun s hs => by rw [r2]; exact wf_2 hc ha (h2 s hs), c :: (en a ++ x), y, ?_, ?_, fun s => ?_⟩
        · rw [List.length_cons, List.length_append, h3]; show sz a + j + 1 = _; omega
        · rw [en_2, h4]; simp
        · rw [r2, en_2, h5 s]; simp
theorem sub_wf {t : Tm} {i : Nat} (ht : wf t) (hi : i < sz t) : wf (sub t i) := (sub_pieces t ht i hi).1
theorem sub_sz {t : Tm} {i : Nat} (ht : wf t) (hi : i < sz t) : i + sz (sub t i) ≤ sz t := by
  obtain ⟨-, -, x, y, h1, h2, -⟩ := sub_pieces t ht i hi
  have : (en t).length = x.length + ((en (sub t i)).length + y.length) := by rw [h2, List.length_append, List.length_append]
  show i + (en (sub t i)).length ≤ (en t).length
  omega
theorem sub_at {f : Nat → Int32} {t : Tm} {i p : Nat} (ht : wf t) (hi : i < sz t) (h : At f p (en t)) : At f (p + i) (en (sub t i)) := by
  obtain ⟨-, -, x, y, h1, h2, -⟩ := sub_pieces t ht i hi
  rw [h2, At_app, At_app, h1] at h
  exact h.2.1
theorem rep_wf {t s : Tm} {i : Nat} (ht : wf t) (hi : i < sz t) (hs : wf s) : wf (rep t i s) := (sub_pieces t ht i hi).2.1 s hs
theorem rep_sz {t s : Tm} {i : Nat} (ht : wf t) (hi : i < sz t) : sz (rep t i s) = sz t - sz (sub t i) + sz s := by
  obtain ⟨-, -, x, y, h1, h2, h3⟩ := sub_pieces t ht i hi
  have e1 : (en t).length = x.length + ((en (sub t i)).length + y.length) := by rw [h2, List.length_append, List.length_append]
  have e2 : (en (rep t i s)).length = x.length + ((en s).length + y.length) := by rw [h3, List.length_append, List.length_append]
  show (en (rep t i s)).length = (en t).length - (en (sub t i)).length + (en s).length
  omega
/-- the other tree lies there when its three pieces do -/
theorem rep_at {f g : Nat → Int32} {t s : Tm} {i p q : Nat} (ht : wf t) (hi : i < sz t) (h : At f p (en t)) (h1 : ∀ j, j < i → g (q + j) = f (p + j)) (h2 : At g (q + i) (en s)) (h3 : ∀ j, i + sz (sub t i) ≤ j → j < sz t → g (q + (j - sz (sub t i) + sz s)) = f (p + j)) : At g q (en (rep t i s)) := by
  obtain ⟨-, -, x, y, k1, k2, k3⟩ := sub_pieces t ht i hi
  have e1 : (en t).length = x.length + ((en (sub t i)).length + y.length) := by rw [k2, List.length_append, List.length_append]
  rw [k3, At_app, At_app]
  rw [k2, At_app, At_app] at h
  obtain ⟨w1, w2, w3⟩ := h
  refine ⟨?_, by rw [k1]; exact h2, ?_⟩
  · rw [At_iff] at w1 ⊢
    intro j hj
    rw [w1 j hj, h1 j (by omega)]
  · rw [At_iff] at w3 ⊢
    intro j hj
    have e2 : (en (sub t i)).length = sz (sub t i) := rfl
    have e3 : (en s).length = sz s := rfl
    have e4 : (en t).length = sz t := rfl
    rw [w3 j hj, k1]
    have := h3 (i + sz (sub t i) + j) (by omega) (by omega)
    rw [show i + sz (sub t i) + j - sz (sub t i) + sz s = i + sz s + j by omega] at this
    rw [show q + i + (en s).length + j = q + (i + sz s + j) by omega, this]
    congr 2; omega
theorem EVok_up {e : EV} {k : Nat} {t : Tm} (h : EVok e) (ht : wf t) (hs : sz t ≤ 40) : EVok (va_up e k (some t)) := by
  intro v u hv hu
  rw [up_at] at hu
  by_cases hk : v = k
  · rw [if_pos hk] at hu; cases hu; exact ⟨ht, hs⟩
  · rw [if_neg hk] at hu; exact h v u hv hu
theorem e0_ok : EVok e0 := fun v u _ h => by cases h
theorem ms_ok {cm : Int32 → Bool} : ∀ p t e e', wf t → sz t ≤ 40 → EVok e → e' ∈ ms cm p t e → EVok e' := by
  intro p
  induction p with
  | leaf => intro t e e' _ _ _ h; simp [ms] at h
  | inner n c u a b iha ihb =>
    intro t e e' ht hs he h
    unfold ms at h
    split at h
    · split at h
      · rw [List.mem_singleton] at h; rw [h]; exact EVok_up he ht hs
      · split at h
        · rw [List.mem_singleton] at h; rw [h]; exact he
        · simp at h
    · cases t with
      | leaf => simp at h
      | inner n' c' u' t1 t2 =>
        simp only at h
        have hs : sz t1 + sz t2 + 1 ≤ 40 := by
          have : sz (Std.DTreeMap.Internal.Impl.inner n' c' u' t1 t2) = sz t1 + sz t2 + 1 := by simp [sz, en]
          omega
        have ht2 : (is1 c' → wf t1) ∧ (is2 c' → wf t1 ∧ wf t2) := by
          obtain ⟨-, ⟨h1, -, -⟩ | ⟨h1, h2, -⟩ | ⟨h1, h2, h3⟩⟩ := ht
          · exact ⟨fun q => by omega, fun q => by omega⟩
          · exact ⟨fun _ => h2, fun q => by omega⟩
          · exact ⟨fun q => by omega, fun _ => ⟨h2, h3⟩⟩
        by_cases hcc : c ≠ c'
        · rw [if_pos hcc] at h; simp at h
        rw [if_neg hcc] at h
        have hcc : c = c' := by simpa using hcc
        subst hcc
        split at h
        · rename_i h2
          obtain ⟨w1, w2⟩ := ht2.2 h2
          rw [List.mem_append] at h
          rcases h with h | h
          · obtain ⟨e1, h3, h4⟩ := List.mem_flatMap.mp h
            exact ihb _ _ _ w2 (by omega) (iha _ _ _ w1 (by omega) he h3) h4
          · split at h
            · obtain ⟨e1, h3, h4⟩ := List.mem_flatMap.mp h
              exact ihb _ _ _ w1 (by omega) (iha _ _ _ w2 (by omega) he h3) h4
            · simp at h
        · split at h
          · rename_i h1
            exact iha _ _ _ (ht2.1 h1) (by omega) he h
          · rw [List.mem_singleton] at h; rw [h]; exact he
theorem mat_ok {cm : Nat} {p t : Tm} {e : EV} (ht : wf t) (hs : sz t ≤ 40) (h : mat cm p t = some e) : EVok e := ms_ok p t e0 e ht hs e0_ok (List.mem_of_head? h)
/-- one rewriting of a tree: 0 and the tree, or why not -/
def rwt (cm : Nat) (rl : Tm × Tm) (t : Tm) (i : Nat) : Nat × Tm := match mat cm rl.1 (sub t i) with
  | none => (6, Lf)
  | some e => if 40 < sz t - sz (sub t i) + sz (sbT e rl.2) then (7, Lf) else (0, rep t i (sbT e rl.2))
theorem rwt_ok {cm : Nat} {rl : Tm × Tm} {t : Tm} {i : Nat} (hr : wf rl.2) (ht : wf t) (hs : sz t ≤ 40) (hi : i < sz t) (h : (rwt cm rl t i).1 = 0) : wf (rwt cm rl t i).2 ∧ sz (rwt cm rl t i).2 ≤ 40 := by
  have hw := sub_wf ht hi
  have hz := sub_sz ht hi
  unfold rwt at h ⊢
  cases hm : mat cm rl.1 (sub t i) with
  | none => rw [hm] at h; simp at h
  | some e =>
    rw [hm] at h
    simp only at h ⊢
    split at h
    · simp at h
    · rename_i h7
      rw [if_neg h7]
      refine ⟨rep_wf ht hi (sb_wf (mat_ok hw (by omega) hm) _ hr), ?_⟩
      show sz (rep t i (sbT e rl.2)) ≤ 40
      rw [rep_sz ht hi]; omega
