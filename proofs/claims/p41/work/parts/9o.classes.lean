/-! the system's unifying: classes of spots and variables -/
def hdc : Tm → Int32
  | .leaf => 0
  | .inner _ c _ _ _ => c
/-- spots, their trees, their second arguments -/
def Pool (K : Nat → Prop) (T : Nat → Tm) (sc : Nat → Nat) : Prop := ∀ k, K k → k < 80 ∧ wfE (T k) ∧ (is0E (hdc (T k)) ∧ T k = Nd (hdc (T k)) Lf Lf ∨ is1 (hdc (T k)) ∧ K (k + 1) ∧ T k = Nd (hdc (T k)) (T (k + 1)) Lf ∨ is2 (hdc (T k)) ∧ K (k + 1) ∧ K (sc k) ∧ T k = Nd (hdc (T k)) (T (k + 1)) (T (sc k)))
abbrev vT (T : Nat → Tm) (k : Nat) : Prop := vE (hdc (T k))
def ido (T : Nat → Tm) (k : Nat) : Nat := if vT T k then vn (hdc (T k)) else 12 + k
def valU (T : Nat → Tm) (th : Nat → Tm) (x : Nat) : Tm := if x < 12 then th x else ap th (T (x - 12))
def viU (K : Nat → Prop) (T : Nat → Tm) (x : Nat) : Prop := x < 12 ∨ ∃ k, x = 12 + k ∧ K k ∧ ¬ vT T k
def UIr (K : Nat → Prop) (T : Nat → Tm) (R : Nat → Nat) : Prop := ∀ x, viU K T x → viU K T (R x) ∧ R (R x) = R x
def UIs (K : Nat → Prop) (T : Nat → Tm) (R : Nat → Nat) (sh : Nat → Option Nat) : Prop := ∀ x k, viU K T x → R x = x → sh x = some k → K k ∧ ¬ vT T k ∧ R (12 + k) = x
def UIh (K : Nat → Prop) (T : Nat → Tm) (R : Nat → Nat) (sh : Nat → Option Nat) : Prop := ∀ k, K k → ¬ vT T k → ∃ k', sh (R (12 + k)) = some k'
def UIt (K : Nat → Prop) (td : List (Nat × Nat)) : Prop := ∀ p ∈ td, K p.1 ∧ K p.2
def UIo (K : Nat → Prop) (T : Nat → Tm) (i0 j0 : Nat) (R : Nat → Nat) (td : List (Nat × Nat)) : Prop := ∀ th, ap th (T i0) = ap th (T j0) → (∀ x, viU K T x → valU T th (R x) = valU T th x) ∧ ∀ p ∈ td, ap th (T p.1) = ap th (T p.2)
def UIc (K : Nat → Prop) (T : Nat → Tm) (sc : Nat → Nat) (i0 j0 : Nat) (R : Nat → Nat) (td : List (Nat × Nat)) : Prop := ∀ Q : Nat → Nat → Prop, (∀ x y, Q x y → Q y x) → (∀ x y z, Q x y → Q y z → Q x z) → (∀ x y, viU K T x → viU K T y → R x = R y → Q x y) → (∀ p ∈ td, Q (ido T p.1) (ido T p.2)) →
    Q (ido T i0) (ido T j0) ∧ ∀ k k', K k → K k' → ¬ vT T k → ¬ vT T k' → R (12 + k) = R (12 + k') → hdc (T k) = hdc (T k') ∧ (is1 (hdc (T k)) ∨ is2 (hdc (T k)) → Q (ido T (k + 1)) (ido T (k' + 1))) ∧ (is2 (hdc (T k)) → Q (ido T (sc k)) (ido T (sc k')))
def UI (K : Nat → Prop) (T : Nat → Tm) (sc : Nat → Nat) (i0 j0 : Nat) (R : Nat → Nat) (sh : Nat → Option Nat) (td : List (Nat × Nat)) : Prop := UIr K T R ∧ UIs K T R sh ∧ UIh K T R sh ∧ UIt K td ∧ UIo K T i0 j0 R td ∧ UIc K T sc i0 j0 R td
def mrg (R : Nat → Nat) (a b x : Nat) : Nat := if R x = a then b else R x
theorem Nd_inj {c c' : Int32} {x x' y y' : Tm} (h : Nd c x y = Nd c' x' y') : x = x' ∧ y = y' := by cases h; exact ⟨rfl, rfl⟩
section
variable {K : Nat → Prop} {T : Nat → Tm} {sc : Nat → Nat} {i0 j0 i j k a b : Nat} {R : Nat → Nat} {sh : Nat → Option Nat} {td np : List (Nat × Nat)} {th : Nat → Tm}
theorem UI.root (h : UI K T sc i0 j0 R sh td) : UIr K T R := h.1
theorem UI.shp (h : UI K T sc i0 j0 R sh td) : UIs K T R sh := h.2.1
theorem UI.has (h : UI K T sc i0 j0 R sh td) : UIh K T R sh := h.2.2.1
theorem UI.todo (h : UI K T sc i0 j0 R sh td) : UIt K td := h.2.2.2.1
theorem UI.sols (h : UI K T sc i0 j0 R sh td) : UIo K T i0 j0 R td := h.2.2.2.2.1
theorem UI.clos (h : UI K T sc i0 j0 R sh td) : UIc K T sc i0 j0 R td := h.2.2.2.2.2
theorem ido_v (h : vT T k) : ido T k = vn (hdc (T k)) := if_pos h
theorem ido_n (h : ¬ vT T k) : ido T k = 12 + k := if_neg h
theorem ido_vi (hk : K k) : viU K T (ido T k) := by
  by_cases h : vT T k
  · rw [ido_v h]; exact Or.inl (vn_lt h)
  · rw [ido_n h]; exact Or.inr ⟨k, rfl, hk, h⟩
theorem ido_lt (hP : Pool K T sc) (hk : K k) : ido T k < 92 := by
  by_cases h : vT T k
  · rw [ido_v h]; have := vn_lt h; omega
  · rw [ido_n h]; have := (hP k hk).1; omega
theorem viU_lt (hP : Pool K T sc) {x : Nat} (h : viU K T x) : x < 92 := by
  rcases h with h | ⟨k, rfl, h, -⟩
  · omega
  · have := (hP k h).1; omega
theorem val_ido (hP : Pool K T sc) (hk : K k) : valU T th (ido T k) = ap th (T k) := by
  unfold valU
  by_cases h : vT T k
  · rw [ido_v h, if_pos (vn_lt h)]
    obtain ⟨-, -, ⟨h1, h2⟩ | ⟨h1, h2, h3⟩ | ⟨h1, h2, h3, h4⟩⟩ := hP k hk
    · exact ((congrArg (ap th) h2).trans (ap_v h)).symm
    · omega
    · omega
  · rw [ido_n h, if_neg (by omega), Nat.add_sub_cancel_left]
theorem val_n : valU T th (12 + k) = ap th (T k) := by
  unfold valU
  rw [if_neg (by omega), Nat.add_sub_cancel_left]
/-- at the beginning -/
theorem UI_0 (hP : Pool K T sc) (hi : K i0) (hj : K j0) : UI K T sc i0 j0 (fun x => x) (fun x => if x < 12 then none else some (x - 12)) [(i0, j0)] := by
  refine ⟨fun x hx => ⟨hx, rfl⟩, fun x k hx _ hs => ?_, fun k hk hv => ⟨k, ?_⟩, fun p hp => ?_, fun th hth => ⟨fun x _ => rfl, fun p hp => ?_⟩, fun Q hs ht hR htd => ⟨htd (i0, j0) (by simp), fun k k' hk hk' hv hv' e => ?_⟩⟩
  · rcases hx with hx | ⟨k', rfl, h1, h2⟩
    · simp only [if_pos hx] at hs; cases hs
    · simp only at hs
      rw [if_neg (by omega), Nat.add_sub_cancel_left] at hs
      cases hs
      exact ⟨h1, h2, rfl⟩
  · simp only
    rw [if_neg (by omega), Nat.add_sub_cancel_left]
  · rw [List.mem_singleton] at hp; rw [hp]; exact ⟨hi, hj⟩
  · rw [List.mem_singleton] at hp; rw [hp]; exact hth
  · have e : k = k' := by simpa using e
    subst e
    refine ⟨rfl, fun h => hR _ _ ?_ ?_ rfl, fun h => hR _ _ ?_ ?_ rfl⟩
    all_goals
      obtain ⟨-, -, ⟨h1, h2⟩ | ⟨h1, h2, h3⟩ | ⟨h1, h2, h3, h4⟩⟩ := hP k hk
      · omega
      · first | exact ido_vi h2 | omega
      · first | exact ido_vi h2 | exact ido_vi h3
/-- already one -/
theorem UI.same (hP : Pool K T sc) (h : UI K T sc i0 j0 R sh ((i, j) :: td)) (e : R (ido T i) = R (ido T j)) : UI K T sc i0 j0 R sh td := by
  obtain ⟨hi, hj⟩ := h.todo (i, j) (by simp)
  refine ⟨h.root, h.shp, h.has, fun p hp => h.todo p (by simp [hp]), fun th hth => ⟨(h.sols th hth).1, fun p hp => (h.sols th hth).2 p (by simp [hp])⟩, fun Q hs ht hR htd => h.clos Q hs ht hR (fun p hp => ?_)⟩
  rcases List.mem_cons.mp hp with rfl | hp
  · exact hR _ _ (ido_vi hi) (ido_vi hj) e
  · exact htd p hp
/-- a pair has no solution -/
theorem UI.clash (hP : Pool K T sc) (h : UI K T sc i0 j0 R sh ((i, j) :: td)) {ka kb : Nat} (ha : sh (R (ido T i)) = some ka) (hb : sh (R (ido T j)) = some kb) (hne : hdc (T ka) ≠ hdc (T kb)) : ∀ th, ap th (T i0) ≠ ap th (T j0) := by
  intro th hth
  obtain ⟨hi, hj⟩ := h.todo (i, j) (by simp)
  obtain ⟨h1, h2⟩ := h.sols th hth
  have e := h2 (i, j) (by simp)
  obtain ⟨ra1, ra2⟩ := h.root _ (ido_vi hi)
  obtain ⟨rb1, rb2⟩ := h.root _ (ido_vi hj)
  obtain ⟨a1, a2, a3⟩ := h.shp _ ka ra1 ra2 ha
  obtain ⟨b1, b2, b3⟩ := h.shp _ kb rb1 rb2 hb
  have ea : ap th (T ka) = ap th (T i) := by
    rw [← val_n (T := T) (k := ka), ← val_ido hP hi, ← h1 _ (Or.inr ⟨ka, rfl, a1, a2⟩), a3, h1 _ (ido_vi hi)]
  have eb : ap th (T kb) = ap th (T j) := by
    rw [← val_n (T := T) (k := kb), ← val_ido hP hj, ← h1 _ (Or.inr ⟨kb, rfl, b1, b2⟩), b3, h1 _ (ido_vi hj)]
  have e2 : ap th (T ka) = ap th (T kb) := by rw [ea, eb]; exact e
  have hh : ∀ k, K k → ¬ vT T k → hdc (ap th (T k)) = hdc (T k) := by
    intro k hk hv
    obtain ⟨-, -, ⟨-, h2⟩ | ⟨-, -, h2⟩ | ⟨-, -, -, h2⟩⟩ := hP k hk
    · rw [h2, ap_n hv]; rfl
    · rw [h2, ap_n hv]; rfl
    · rw [h2, ap_n hv]; rfl
  exact hne (by rw [← hh ka a1 a2, ← hh kb b1 b2, e2])
theorem UI.shape_eq (hP : Pool K T sc) (h : UI K T sc i0 j0 R sh ((i, j) :: td)) (hth : ap th (T i0) = ap th (T j0)) {ka kb : Nat} (ha : sh (R (ido T i)) = some ka) (hb : sh (R (ido T j)) = some kb) : ap th (T ka) = ap th (T kb) := by
  obtain ⟨hi, hj⟩ := h.todo (i, j) (by simp)
  obtain ⟨h1, h2⟩ := h.sols th hth
  have e := h2 (i, j) (by simp)
  obtain ⟨ra1, ra2⟩ := h.root _ (ido_vi hi)
  obtain ⟨rb1, rb2⟩ := h.root _ (ido_vi hj)
  obtain ⟨a1, a2, a3⟩ := h.shp _ ka ra1 ra2 ha
  obtain ⟨b1, b2, b3⟩ := h.shp _ kb rb1 rb2 hb
  have ea : ap th (T ka) = ap th (T i) := by
    rw [← val_n (T := T) (k := ka), ← val_ido hP hi, ← h1 _ (Or.inr ⟨ka, rfl, a1, a2⟩), a3, h1 _ (ido_vi hi)]
  have eb : ap th (T kb) = ap th (T j) := by
    rw [← val_n (T := T) (k := kb), ← val_ido hP hj, ← h1 _ (Or.inr ⟨kb, rfl, b1, b2⟩), b3, h1 _ (ido_vi hj)]
  rw [ea, eb]; exact e
/-- two become one -/
theorem UI.join (hP : Pool K T sc) (h : UI K T sc i0 j0 R sh ((i, j) :: td)) (ha : R (ido T i) = a) (hb : R (ido T j) = b) (hab : a ≠ b)
    (n1 : ∀ ka kb, sh a = some ka → sh b = some kb → hdc (T ka) = hdc (T kb) ∧ (is1 (hdc (T ka)) ∨ is2 (hdc (T ka)) → (ka + 1, kb + 1) ∈ np) ∧ (is2 (hdc (T ka)) → (sc ka, sc kb) ∈ np))
    (n2 : ∀ p ∈ np, ∃ ka kb, sh a = some ka ∧ sh b = some kb ∧ hdc (T ka) = hdc (T kb) ∧ ((p = (ka + 1, kb + 1) ∧ (is1 (hdc (T ka)) ∨ is2 (hdc (T ka)))) ∨ p = (sc ka, sc kb) ∧ is2 (hdc (T ka)))) :
    UI K T sc i0 j0 (mrg R a b) (fun x => if x = b ∧ sh b = none then sh a else sh x) (np ++ td) := by
  obtain ⟨hi, hj⟩ := h.todo (i, j) (by simp)
  obtain ⟨va, ra⟩ := h.root _ (ido_vi hi)
  obtain ⟨vb, rb⟩ := h.root _ (ido_vi hj)
  rw [ha] at va ra
  rw [hb] at vb rb
  have mb : mrg R a b b = b := by unfold mrg; rw [rb, if_neg (Ne.symm hab)]
  have mne : ∀ x, viU K T x → mrg R a b x ≠ a := by
    intro x hx
    unfold mrg
    split
    · exact Ne.symm hab
    · rename_i e; exact e
  have mroot : ∀ x, viU K T x → mrg R a b x = x → R x = x := by
    intro x hx e
    unfold mrg at e
    split at e
    · rw [← e]; exact rb
    · exact e
  -- what holds of the arguments of two alike
  have args : ∀ ka, K ka → ¬ vT T ka → (is1 (hdc (T ka)) ∨ is2 (hdc (T ka)) → K (ka + 1)) ∧ (is2 (hdc (T ka)) → K (sc ka)) := by
    intro ka hk hv
    obtain ⟨-, -, ⟨h1, h2⟩ | ⟨h1, h2, h3⟩ | ⟨h1, h2, h3, h4⟩⟩ := hP ka hk
    · exact ⟨fun z => by omega, fun z => by omega⟩
    · exact ⟨fun z => h2, fun z => by omega⟩
    · exact ⟨fun z => h2, fun z => h3⟩
  refine ⟨fun x hx => ?_, fun x k hx he hs => ?_, fun k hk hv => ?_, fun p hp => ?_, fun th hth => ⟨fun x hx => ?_, fun p hp => ?_⟩, fun Q hs ht hR htd => ?_⟩
  · obtain ⟨r1, r2⟩ := h.root x hx
    by_cases e : R x = a
    · have e2 : mrg R a b x = b := if_pos e
      rw [e2]; exact ⟨vb, mb⟩
    · have e2 : mrg R a b x = R x := if_neg e
      rw [e2]
      refine ⟨r1, ?_⟩
      unfold mrg
      rw [r2, if_neg e]
  · have hr := mroot x hx he
    have hxa : x ≠ a := fun z => mne x hx (by rw [he, z])
    simp only at hs
    by_cases e : x = b ∧ sh b = none
    · rw [if_pos e] at hs
      obtain ⟨q1, q2, q3⟩ := h.shp a k va ra hs
      refine ⟨q1, q2, ?_⟩
      unfold mrg
      rw [if_pos q3, e.1]
    · rw [if_neg e] at hs
      obtain ⟨q1, q2, q3⟩ := h.shp x k hx hr hs
      refine ⟨q1, q2, ?_⟩
      unfold mrg
      rw [q3, if_neg hxa]
  · obtain ⟨k', hk'⟩ := h.has k hk hv
    by_cases e : R (12 + k) = a
    · have e2 : mrg R a b (12 + k) = b := if_pos e
      rw [e2]
      rw [e] at hk'
      by_cases hsb : sh b = none
      · exact ⟨k', (if_pos ⟨rfl, hsb⟩).trans hk'⟩
      · obtain ⟨kb, hkb⟩ := Option.ne_none_iff_exists'.mp hsb
        exact ⟨kb, (if_neg (fun z => hsb z.2)).trans hkb⟩
    · have e2 : mrg R a b (12 + k) = R (12 + k) := if_neg e
      rw [e2]
      refine ⟨k', ?_⟩
      simp only
      rw [if_neg (fun z => by rw [z.1, z.2] at hk'; cases hk')]
      exact hk'
  · rcases List.mem_append.mp hp with hp | hp
    · obtain ⟨ka, kb, s1, s2, s3, s4⟩ := n2 p hp
      obtain ⟨a1, a2, a3⟩ := h.shp a ka va ra s1
      obtain ⟨b1, b2, b3⟩ := h.shp b kb vb rb s2
      obtain ⟨x1, x2⟩ := args ka a1 a2
      obtain ⟨y1, y2⟩ := args kb b1 b2
      rw [s3] at x1 x2 s4
      rcases s4 with ⟨rfl, s4⟩ | ⟨rfl, s4⟩
      · exact ⟨x1 s4, y1 s4⟩
      · exact ⟨x2 s4, y2 s4⟩
    · exact h.todo p (by simp [hp])
  · obtain ⟨h1, h2⟩ := h.sols th hth
    unfold mrg
    split
    · rename_i e
      rw [← h1 x hx, e, ← ha, h1 _ (ido_vi hi), val_ido hP hi, ← hb, h1 _ (ido_vi hj), val_ido hP hj]
      exact (h2 (i, j) (by simp)).symm
    · exact h1 x hx
  · rcases List.mem_append.mp hp with hp | hp
    · obtain ⟨ka, kb, s1, s2, s3, s4⟩ := n2 p hp
      have e := h.shape_eq hP hth (by rw [ha]; exact s1) (by rw [hb]; exact s2)
      obtain ⟨a1, a2, a3⟩ := h.shp a ka va ra s1
      obtain ⟨b1, b2, b3⟩ := h.shp b kb vb rb s2
      have fa : ∀ ka, K ka → ¬ vT T ka → (is1 (hdc (T ka)) → T ka = Nd (hdc (T ka)) (T (ka + 1)) Lf) ∧ (is2 (hdc (T ka)) → T ka = Nd (hdc (T ka)) (T (ka + 1)) (T (sc ka))) := by
        intro ka hk hv
        obtain ⟨-, -, ⟨h1, h2⟩ | ⟨h1, h2, h3⟩ | ⟨h1, h2, h3, h4⟩⟩ := hP ka hk
        · exact ⟨fun z => by omega, fun z => by omega⟩
        · exact ⟨fun z => h3, fun z => by omega⟩
        · exact ⟨fun z => by omega, fun z => h4⟩
      obtain ⟨x1, x2⟩ := fa ka a1 a2
      obtain ⟨y1, y2⟩ := fa kb b1 b2
      have two : is2 (hdc (T ka)) → ap th (T (ka + 1)) = ap th (T (kb + 1)) ∧ ap th (T (sc ka)) = ap th (T (sc kb)) := by
        intro z
        rw [x2 z, y2 (s3 ▸ z), ap_n a2, ap_n b2] at e
        exact Nd_inj e
      have one : is1 (hdc (T ka)) → ap th (T (ka + 1)) = ap th (T (kb + 1)) := by
        intro z
        rw [x1 z, y1 (s3 ▸ z), ap_n a2, ap_n b2] at e
        exact (Nd_inj e).1
      rcases s4 with ⟨rfl, s4 | s4⟩ | ⟨rfl, s4⟩
      · exact one s4
      · exact (two s4).1
      · exact (two s4).2
    · exact (h.sols th hth).2 p (by simp [hp])
  · have hQ := h.clos Q hs ht (fun x y hx hy e => hR x y hx hy (by unfold mrg; rw [e])) (fun p hp => by
      rcases List.mem_cons.mp hp with rfl | hp
      · exact hR _ _ (ido_vi hi) (ido_vi hj) (by unfold mrg; rw [if_pos ha, if_neg (by rw [hb]; exact Ne.symm hab), hb])
      · exact htd p (by simp [hp]))
    refine ⟨hQ.1, ?_⟩
    -- of the two classes
    have two : ∀ k k', K k → K k' → ¬ vT T k → ¬ vT T k' → R (12 + k) = a → R (12 + k') = b → hdc (T k) = hdc (T k') ∧ (is1 (hdc (T k)) ∨ is2 (hdc (T k)) → Q (ido T (k + 1)) (ido T (k' + 1))) ∧ (is2 (hdc (T k)) → Q (ido T (sc k)) (ido T (sc k'))) := by
      intro k k' hk hk' hv hv' e e'
      obtain ⟨ka, hka⟩ := h.has k hk hv
      obtain ⟨kb, hkb⟩ := h.has k' hk' hv'
      rw [e] at hka
      rw [e'] at hkb
      obtain ⟨a1, a2, a3⟩ := h.shp a ka va ra hka
      obtain ⟨b1, b2, b3⟩ := h.shp b kb vb rb hkb
      obtain ⟨s1, s2, s3⟩ := n1 ka kb hka hkb
      obtain ⟨p1, p2, p3⟩ := hQ.2 k ka hk a1 hv a2 (by rw [e, a3])
      obtain ⟨q1, q2, q3⟩ := hQ.2 kb k' b1 hk' b2 hv' (by rw [e', b3])
      refine ⟨by rw [p1, s1, q1], fun z => ?_, fun z => ?_⟩
      · refine ht _ _ _ (p2 z) (ht _ _ _ (htd (ka + 1, kb + 1) (by simp [s2 (p1 ▸ z)])) (q2 ?_))
        rw [← s1, ← p1]; exact z
      · refine ht _ _ _ (p3 z) (ht _ _ _ (htd (sc ka, sc kb) (by simp [s3 (p1 ▸ z)])) (q3 ?_))
        rw [← s1, ← p1]; exact z
    intro k k' hk hk' hv hv' e
    unfold mrg at e
    by_cases e1 : R (12 + k) = a
    · by_cases e2 : R (12 + k') = a
      · exact hQ.2 k k' hk hk' hv hv' (by rw [e1, e2])
      · rw [if_pos e1, if_neg e2] at e
        exact two k k' hk hk' hv hv' e1 e.symm
    · by_cases e2 : R (12 + k') = a
      · rw [if_neg e1, if_pos e2] at e
        obtain ⟨t1, t2, t3⟩ := two k' k hk' hk hv' hv e2 e
        exact ⟨t1.symm, fun z => hs _ _ (t2 (t1 ▸ z)), fun z => hs _ _ (t3 (t1 ▸ z))⟩
      · rw [if_neg e1, if_neg e2] at e
        exact hQ.2 k k' hk hk' hv hv' e
end
