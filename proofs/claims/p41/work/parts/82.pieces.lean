/-! pieces of a tree: what stands at a node, what comes there, its path -/
theorem sub_of {T u : Tm} {i : Nat} {x y : List Int32} (hT : wf T) (hu : wf u) (hi : i < sz T) (hx : x.length = i) (h : en T = x ++ (en u ++ y)) : sub T i = u ∧ ∀ s, en (rep T i s) = x ++ (en s ++ y) := by
  obtain ⟨h1, -, x', y', h3, h4, h5⟩ := sub_pieces T hT i hi
  rw [h] at h4
  have e := List.append_inj h4 (by rw [hx, h3])
  obtain ⟨e1, e2⟩ := e
  obtain ⟨e3, e4⟩ := en_inj _ hu _ h1 _ _ e2
  refine ⟨e3.symm, fun s => ?_⟩
  rw [h5, e1, e4]
theorem rep_self {T : Tm} {i : Nat} (hT : wf T) (hi : i < sz T) : rep T i (sub T i) = T := by
  obtain ⟨h1, h2, x', y', h3, h4, h5⟩ := sub_pieces T hT i hi
  exact en_inj1 (h2 _ h1) hT (by rw [h5, h4])
theorem rep_lt {T s : Tm} {i : Nat} (hT : wf T) (hi : i < sz T) (hs : wf s) : i < sz (rep T i s) := by
  have := sub_sz hT hi
  have := sz_pos s hs
  rw [rep_sz hT hi]
  omega
theorem sub_rep {T s : Tm} {i : Nat} (hT : wf T) (hi : i < sz T) (hs : wf s) : sub (rep T i s) i = s := by
  obtain ⟨h1, h2, x', y', h3, h4, h5⟩ := sub_pieces T hT i hi
  exact (sub_of (h2 s hs) hs (rep_lt hT hi hs) h3 (h5 s)).1
theorem rep_rep {T u s : Tm} {i : Nat} (hT : wf T) (hi : i < sz T) (hu : wf u) (hs : wf s) : rep (rep T i u) i s = rep T i s := by
  obtain ⟨h1, h2, x', y', h3, h4, h5⟩ := sub_pieces T hT i hi
  have := (sub_of (h2 u hu) hu (rep_lt hT hi hu) h3 (h5 u)).2 s
  exact en_inj1 (rep_wf (h2 u hu) (rep_lt hT hi hu) hs) (h2 s hs) (by rw [this, h5])
theorem wf_n1 {c : Int32} {a b s : Tm} (h : wf (Nd c a b)) (ha : wf a) (hs : wf s) : wf (Nd c s b) := by
  obtain ⟨-, ⟨-, rfl, -⟩ | ⟨h1, -, rfl⟩ | ⟨h1, -, h2⟩⟩ := h
  · exact ha.elim
  · exact wf_1 h1 hs
  · exact wf_2 h1 hs h2
theorem wf_n2 {c : Int32} {a b s : Tm} (h : wf (Nd c a b)) (hb : wf b) (hs : wf s) : wf (Nd c a s) := by
  obtain ⟨-, ⟨-, -, rfl⟩ | ⟨-, -, rfl⟩ | ⟨h1, h2, -⟩⟩ := h
  · exact hb.elim
  · exact hb.elim
  · exact wf_2 h1 h2 hs
theorem n1_lt {T a b : Tm} {c : Int32} {i : Nat} (hT : wf T) (hi : i < sz T) (h : sub T i = Nd c a b) (ha : wf a) : i + 1 < sz T := by
  have h1 := sub_sz hT hi
  rw [h, sz_n] at h1
  have := sz_pos a ha
  omega
theorem n2_lt {T a b : Tm} {c : Int32} {i : Nat} (hT : wf T) (hi : i < sz T) (h : sub T i = Nd c a b) (hb : wf b) : i + 1 + sz a < sz T := by
  have h1 := sub_sz hT hi
  rw [h, sz_n] at h1
  have := sz_pos b hb
  omega
theorem rep_c1 {T a b s : Tm} {c : Int32} {i : Nat} (hT : wf T) (hi : i < sz T) (h : sub T i = Nd c a b) (ha : wf a) (hs : wf s) : rep T (i + 1) s = rep T i (Nd c s b) := by
  obtain ⟨h1, h2, x, y, h3, h4, h5⟩ := sub_pieces T hT i hi
  rw [h] at h4 h1
  have e := (sub_of (x := x ++ [c]) (y := en b ++ y) (i := i + 1) hT ha (n1_lt hT hi h ha) (by simp [h3]) (by rw [h4, en_n]; simp)).2 s
  exact en_inj1 (rep_wf hT (n1_lt hT hi h ha) hs) (h2 _ (wf_n1 h1 ha hs)) (by rw [e, h5, en_n]; simp)
theorem rep_c2 {T a b s : Tm} {c : Int32} {i : Nat} (hT : wf T) (hi : i < sz T) (h : sub T i = Nd c a b) (hb : wf b) (hs : wf s) : rep T (i + 1 + sz a) s = rep T i (Nd c a s) := by
  obtain ⟨h1, h2, x, y, h3, h4, h5⟩ := sub_pieces T hT i hi
  rw [h] at h4 h1
  have e := (sub_of (x := x ++ (c :: en a)) (y := y) (i := i + 1 + sz a) hT hb (n2_lt hT hi h hb) (by rw [List.length_append, List.length_cons, h3]; show i + (sz a + 1) = _; omega) (by rw [h4, en_n]; simp)).2 s
  exact en_inj1 (rep_wf hT (n2_lt hT hi h hb) hs) (h2 _ (wf_n2 h1 hb hs)) (by rw [e, h5, en_n]; simp)
theorem inf_pieces : ∀ (t : Tm) (i : Nat), i < sz t → ∀ (l : Nat) (p : Int64), ∃ x y l' q, x.length = i ∧ inf l p t = x ++ (inf l' q (sub t i) ++ y) ∧ ∀ s, inf l p (rep t i s) = x ++ (inf l' q s ++ y) := by
  intro t
  induction t with
  | leaf => intro i hi; exact absurd hi (Nat.not_lt_zero _)
  | inner n c u a b iha ihb =>
    intro i hi l p
    have hz : sz (Std.DTreeMap.Internal.Impl.inner n c u a b) = sz a + sz b + 1 := by simp [sz, en]
    by_cases h0 : i = 0
    · subst h0
      exact ⟨[], [], l, p, rfl, by simp [sub], fun s => by simp [rep]⟩
    by_cases h1 : i ≤ sz a
    · obtain ⟨x, y, l', q, e1, e2, e3⟩ := iha (i - 1) (by omega) (l + 1) (pth p 1)
      refine ⟨(l, p) :: x, y ++ inf (l + 1) (pth p 2) b, l', q, by rw [List.length_cons, e1]; omega, ?_, fun s => ?_⟩
      · rw [sub, if_neg h0, if_pos h1, inf, e2]; simp
      · rw [rep, if_neg h0, if_pos h1, inf, e3]; simp
    · obtain ⟨x, y, l', q, e1, e2, e3⟩ := ihb (i - 1 - sz a) (by omega) (l + 1) (pth p 2)
      refine ⟨(l, p) :: (inf (l + 1) (pth p 1) a ++ x), y, l', q, by rw [List.length_cons, List.length_append, inf_len, e1]; omega, ?_, fun s => ?_⟩
      · rw [sub, if_neg h0, if_neg h1, inf, e2]; simp
      · rw [rep, if_neg h0, if_neg h1, inf, e3]; simp
theorem inf_at {x y : List (Nat × Int64)} {i l : Nat} {q : Int64} {c : Int32} {a b : Tm} (hx : x.length = i) : ((x ++ (inf l q (Nd c a b) ++ y)).getD i (0, 0)).2 = q := by
  rw [getD_r (by omega), hx, Nat.sub_self]
  rfl
theorem pa_rep {T s : Tm} {i : Nat} (hT : wf T) (hi : i < sz T) (hs : wf s) : paT (rep T i s) i = paT T i := by
  obtain ⟨x, y, l', q, e1, e2, e3⟩ := inf_pieces T i hi 1 (Int64.ofNat 0)
  obtain ⟨c, a, b, h, -⟩ := wf_cases (sub_wf hT hi)
  obtain ⟨c', a', b', h', -⟩ := wf_cases hs
  show ((inf 1 (Int64.ofNat 0) (rep T i s)).getD i (0, 0)).2 = ((inf 1 (Int64.ofNat 0) T).getD i (0, 0)).2
  rw [e3, e2, h, h', inf_at e1, inf_at e1]
theorem pa_c1 {T a b : Tm} {c : Int32} {i : Nat} (hi : i < sz T) (h : sub T i = Nd c a b) (ha : wf a) : paT T (i + 1) = pth (paT T i) 1 := by
  obtain ⟨x, y, l', q, e1, e2, e3⟩ := inf_pieces T i hi 1 (Int64.ofNat 0)
  obtain ⟨c', a', b', h', -⟩ := wf_cases ha
  show ((inf 1 (Int64.ofNat 0) T).getD (i + 1) (0, 0)).2 = pth ((inf 1 (Int64.ofNat 0) T).getD i (0, 0)).2 1
  rw [e2, h, inf_at e1, h']
  have : x ++ (inf l' q (Nd c (Nd c' a' b') b) ++ y) = (x ++ [(l', q)]) ++ (inf (l' + 1) (pth q 1) (Nd c' a' b') ++ (inf (l' + 1) (pth q 2) b ++ y)) := by simp [inf]
  rw [this, inf_at (by simp [e1])]
theorem pa_c2 {T a b : Tm} {c : Int32} {i : Nat} (hi : i < sz T) (h : sub T i = Nd c a b) (hb : wf b) : paT T (i + 1 + sz a) = pth (paT T i) 2 := by
  obtain ⟨x, y, l', q, e1, e2, e3⟩ := inf_pieces T i hi 1 (Int64.ofNat 0)
  obtain ⟨c', a', b', h', -⟩ := wf_cases hb
  show ((inf 1 (Int64.ofNat 0) T).getD (i + 1 + sz a) (0, 0)).2 = pth ((inf 1 (Int64.ofNat 0) T).getD i (0, 0)).2 2
  rw [e2, h, inf_at e1, h']
  have : x ++ (inf l' q (Nd c a (Nd c' a' b')) ++ y) = (x ++ ((l', q) :: inf (l' + 1) (pth q 1) a)) ++ (inf (l' + 1) (pth q 2) (Nd c' a' b') ++ y) := by simp [inf]
  rw [this, inf_at (by rw [List.length_append, List.length_cons, inf_len, e1]; omega)]
/-! what a run keeps -/
abbrev QOk (q : RnS) : Prop := q.1 ≤ 600 ∧ q.2.1 ≤ 40 ∧ q.2.2.1.length ≤ q.2.1 ∧ q.2.2.2 = false ∧ ∀ x ∈ q.2.2.1, x.1 < 12
def ROk (s : Prop) (k : Nat) (t : Tm) (q : RnS) (o : RnR) : Prop := match o with
  | (some u, q') => wf u ∧ sz u ≤ 40 ∧ QOk q' ∧ q.1 + k ≤ q'.1 ∧ q.2.1 ≤ q'.2.1 ∧ sz u + 39 * q.2.1 ≤ sz t + 39 * q'.2.1 ∧ ∃ tr, q'.2.2.1 = q.2.2.1 ++ tr
  | (none, q') => q'.2.2.2 = true ∨ QOk q' ∧ q.1 + k ≤ q'.1 ∧ q.2.1 ≤ q'.2.1 ∧ ∃ tr, q'.2.2.1 = q.2.2.1 ++ tr ∧ (s → tr = [])
def RFun (s : Prop) (k : Nat) (R : Tm → Int64 → RnS → RnR) : Prop := ∀ t p q, wf t → sz t ≤ 40 → QOk q → ROk s k t q (R t p q)
theorem ROk.over {s : Prop} {k : Nat} {t : Tm} {q : RnS} (q' : RnS) : ROk s k t q (ovr q') := Or.inl rfl
theorem ROk.loose {s : Prop} {k : Nat} {t : Tm} {q : RnS} {o : RnR} (h : ROk s k t q o) : ROk False 0 t q o := by
  obtain ⟨o, q'⟩ := o
  cases o with
  | some u => obtain ⟨h1, h2, h3, h4, h5⟩ := h; exact ⟨h1, h2, h3, by omega, h5⟩
  | none =>
    rcases h with h | ⟨h3, h4, h5, tr, h6, -⟩
    · exact Or.inl h
    · exact Or.inr ⟨h3, by omega, h5, tr, h6, fun q => q.elim⟩
/-- one behind another -/
theorem ROk.seq {s s' : Prop} {k k' : Nat} {t u : Tm} {q q1 : RnS} {o : RnR} (h : ROk s k t q (some u, q1)) (h' : ROk s' k' u q1 o) : ROk False (k + k') t q o := by
  obtain ⟨o, q'⟩ := o
  obtain ⟨h1, h2, h3, h4, h5, h6, tr, h7⟩ := h
  cases o with
  | some v =>
    obtain ⟨g1, g2, g3, g4, g5, g6, tr', g7⟩ := h'
    exact ⟨g1, g2, g3, by omega, by omega, by omega, tr ++ tr', by rw [g7, h7, List.append_assoc]⟩
  | none =>
    rcases h' with h' | ⟨g3, g4, g5, tr', g6, -⟩
    · exact Or.inl h'
    · exact Or.inr ⟨g3, by omega, by omega, tr ++ tr', by rw [g6, h7, List.append_assoc], fun q => q.elim⟩
/-- one behind another that failed -/
theorem ROk.els {s' : Prop} {k k' : Nat} {t : Tm} {q q1 : RnS} {o : RnR} (h : ROk True k t q (none, q1)) (ho : ¬ q1.2.2.2 = true) (h' : ROk s' k' t q1 o) : ROk s' (k + k') t q o := by
  obtain ⟨o, q'⟩ := o
  rcases h with h | ⟨h3, h4, h5, tr, h6, h7⟩
  · exact absurd h ho
  have : tr = [] := h7 trivial
  rw [this, List.append_nil] at h6
  cases o with
  | some v =>
    obtain ⟨g1, g2, g3, g4, g5, g6, tr', g7⟩ := h'
    exact ⟨g1, g2, g3, by omega, by omega, by omega, tr', by rw [g7, h6]⟩
  | none =>
    rcases h' with h' | ⟨g3, g4, g5, tr', g6, g7⟩
    · exact Or.inl h'
    · exact Or.inr ⟨g3, by omega, by omega, tr', by rw [g6, h6], g7⟩
theorem ROk.q1 {s : Prop} {k : Nat} {t : Tm} {q q1 : RnS} (h : ROk s k t q (none, q1)) (ho : ¬ q1.2.2.2 = true) : QOk q1 := by
  rcases h with h | h
  · exact absurd h ho
  · exact h.1
theorem ROk.rf {s : Prop} {t : Tm} {q : RnS} (ht : wf t) (hs : sz t ≤ 40) (hq : QOk q) : ROk s 0 t q (some t, q) := ⟨ht, hs, hq, by omega, by omega, by omega, [], by simp⟩
theorem ROk.fl {s : Prop} {t : Tm} {q : RnS} (hq : QOk q) : ROk s 0 t q (none, q) := Or.inr ⟨hq, by omega, by omega, [], by simp, fun _ => rfl⟩
theorem ROk.bck {s : Prop} {k : Nat} {t : Tm} {q : RnS} {o : RnR} (hq : QOk q) (h : ROk s k t (bgn q) o) : ROk True 1 t q (bck q o) := by
  obtain ⟨o, q'⟩ := o
  cases o with
  | some v =>
    obtain ⟨g1, g2, g3, g4, g5, g6, tr', g7⟩ := h
    have g4 : q.1 + 1 + k ≤ q'.1 := g4
    exact ⟨g1, g2, g3, by omega, g5, g6, tr', g7⟩
  | none =>
    rcases h with h | ⟨g3, g4, g5, tr', g6, g7⟩
    · exact Or.inl h
    · have g4 : q.1 + 1 + k ≤ q'.1 := g4
      have g5 : q.2.1 ≤ q'.2.1 := g5
      exact Or.inr ⟨⟨g3.1, g3.2.1, Nat.le_trans hq.2.2.1 g5, g3.2.2.2.1, hq.2.2.2.2⟩, (by show q.1 + 1 ≤ q'.1; omega), g5, [], by simp, fun _ => rfl⟩
theorem chk_ok {s : Prop} {t u : Tm} {q q' : RnS} (hu : wf u) (hq : QOk q') (h1 : q.1 ≤ q'.1) (h2 : q.2.1 ≤ q'.2.1) (h3 : sz u + 39 * q.2.1 ≤ sz t + 39 * q'.2.1) (h4 : ∃ tr, q'.2.2.1 = q.2.2.1 ++ tr) : ROk s 0 t q (chk u q') := by
  unfold chk
  split
  · exact ROk.over _
  · exact ⟨hu, by omega, hq, by omega, h2, h3, h4⟩
theorem Nd_eta {n : Nat} {c : Int32} {u : Unit} {a b : Tm} (h : wf (.inner n c u a b)) : (Std.DTreeMap.Internal.Impl.inner n c u a b : Tm) = Nd c a b := by
  obtain ⟨h, -⟩ := h
  subst h
  rfl
theorem wf_a {c : Int32} {a b : Tm} (h : wf (Nd c a b)) : (is2 c → wf a ∧ wf b) ∧ (¬ is2 c → is1 c → wf a ∧ b = Lf) ∧ (¬ is2 c → ¬ is1 c → is0 c ∧ a = Lf ∧ b = Lf) := by
  obtain ⟨-, ⟨h1, h2, h3⟩ | ⟨h1, h2, h3⟩ | ⟨h1, h2, h3⟩⟩ := h
  · exact ⟨fun q => by omega, fun _ q => by omega, fun _ _ => ⟨h1, h2, h3⟩⟩
  · exact ⟨fun q => by omega, fun _ _ => ⟨h2, h3⟩, fun _ q => absurd h1 q⟩
  · exact ⟨fun _ => ⟨h2, h3⟩, fun q => absurd h1 q, fun q => absurd h1 q⟩
