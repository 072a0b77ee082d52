/-! written terms, and what reading makes of them; what comes, rule, drop answer there -/
def txt : Tm → List Int32
  | .leaf => []
  | .inner _ c _ a b => if is2 c then c :: jn 40 :: (txt a ++ jn 44 :: (txt b ++ [jn 41])) else if is1 c then c :: jn 40 :: (txt a ++ [jn 41]) else [c]
theorem txt_0 {c : Int32} (h : is0 c) : txt (Nd c Lf Lf) = [c] := by
  rw [txt, if_neg (by omega), if_neg (by omega)]
theorem txt_1 {c : Int32} {a : Tm} (h : is1 c) : txt (Nd c a Lf) = c :: jn 40 :: (txt a ++ [jn 41]) := by
  rw [txt, if_neg (by omega), if_pos h]
theorem txt_2 {c : Int32} {a b : Tm} (h : is2 c) : txt (Nd c a b) = c :: jn 40 :: (txt a ++ jn 44 :: (txt b ++ [jn 41])) := by
  rw [txt, if_pos h]
theorem txt_len : ∀ t, wf t → (txt t).length ≤ 4 * sz t ∧ 0 < (txt t).length := by
  refine wf_ind (fun c hc => ?_) (fun c a hc ha iha => ?_) (fun c a b hc ha hb iha ihb => ?_)
  · rw [txt_0 hc, sz_0]; simp
  · rw [txt_1 hc, sz_1]; simp only [List.length_cons, List.length_append, List.length_nil]; omega
  · rw [txt_2 hc, sz_2]; simp only [List.length_cons, List.length_append, List.length_nil]; omega
/-- signs of what is written -/
def chO (c : Int32) : Prop := ∃ k, c = jn k ∧ 1 ≤ k ∧ k < 128 ∧ k ≠ 33 ∧ k ≠ 59 ∧ k ≠ 62
theorem ch_sg {c : Int32} (h : sg c) : chO c := by
  refine ⟨c.toInt.toNat, ?_, ?_⟩
  · apply Int32.toInt_inj.mp
    rw [jn_toInt (by omega)]
    omega
  · omega
theorem txt_ch : ∀ t, wf t → ∀ c ∈ txt t, chO c := by
  have h40 : chO (jn 40) := ⟨40, rfl, by decide⟩
  have h41 : chO (jn 41) := ⟨41, rfl, by decide⟩
  have h44 : chO (jn 44) := ⟨44, rfl, by decide⟩
  refine wf_ind (fun c hc => ?_) (fun c a hc ha iha => ?_) (fun c a b hc ha hb iha ihb => ?_)
  · rw [txt_0 hc]
    intro x hx
    rw [List.mem_singleton] at hx
    rw [hx]; exact ch_sg (Or.inl hc)
  · rw [txt_1 hc]
    intro x hx
    simp only [List.mem_cons, List.mem_append, List.not_mem_nil, or_false] at hx
    rcases hx with rfl | rfl | hx | rfl
    · exact ch_sg (Or.inr (Or.inl hc))
    · exact h40
    · exact iha x hx
    · exact h41
  · rw [txt_2 hc]
    intro x hx
    simp only [List.mem_cons, List.mem_append, List.not_mem_nil, or_false] at hx
    rcases hx with rfl | rfl | hx | rfl | hx | rfl
    · exact ch_sg (Or.inr (Or.inr hc))
    · exact h40
    · exact iha x hx
    · exact h44
    · exact ihb x hx
    · exact h41
theorem en_ch : ∀ t, wf t → ∀ c ∈ en t, sg c := by
  refine wf_ind (fun c hc => ?_) (fun c a hc ha iha => ?_) (fun c a b hc ha hb iha ihb => ?_)
  · intro x hx
    rw [en_0, List.mem_singleton] at hx
    rw [hx]; exact Or.inl hc
  · intro x hx
    rw [en_1] at hx
    rcases List.mem_cons.mp hx with rfl | hx
    · exact Or.inr (Or.inl hc)
    · exact iha x hx
  · intro x hx
    rw [en_2] at hx
    rcases List.mem_cons.mp hx with rfl | hx
    · exact Or.inr (Or.inr hc)
    rcases List.mem_append.mp hx with hx | hx
    · exact iha x hx
    · exact ihb x hx
/-! reading -/
def rdL : List Int32 → RS → Option RS
  | [], s => some s
  | c :: l, s => match rdS s c with
    | none => none
    | some s' => rdL l s'
theorem rdL_app : ∀ (l l' : List Int32) (s s' : RS), rdL l s = some s' → rdL (l ++ l') s = rdL l' s' := by
  intro l
  induction l with
  | nil => intro l' s s' h; cases h; rfl
  | cons c l ih =>
    intro l' s s' h
    rw [List.cons_append, rdL]
    rw [rdL] at h
    cases e : rdS s c with
    | none => rw [e] at h; cases h
    | some s1 =>
      rw [e] at h
      exact ih l' s1 s' h
theorem rdR_L {g : Nat → Int32} : ∀ (l : List Int32) (m i : Nat) (s s' : RS), (∀ j c, l[j]? = some c → g (i + j) = c) → rdL l s = some s' → rdR g (l.length + m) i s = rdR g m (i + l.length) s' := by
  intro l
  induction l with
  | nil => intro m i s s' _ h; cases h; rw [List.length_nil, Nat.zero_add, Nat.add_zero]
  | cons c l ih =>
    intro m i s s' hg h
    rw [rdL] at h
    rw [List.length_cons, show l.length + 1 + m = (l.length + m) + 1 by omega, rdR, show g i = c from hg 0 c rfl]
    cases e : rdS s c with
    | none => rw [e] at h; cases h
    | some s1 =>
      rw [e] at h
      simp only
      rw [ih m (i + 1) s1 s' (fun j x hj => by rw [show i + 1 + j = i + (j + 1) by omega]; exact hg (j + 1) x hj) h, show i + 1 + l.length = i + (l.length + 1) by omega]
theorem rd_txt : ∀ t, wf t → ∀ (k : List Nat) (o : List Int32), o.length + sz t ≤ 40 → rdL (txt t) (0, k, o) = some (2, k, o ++ en t) := by
  refine wf_ind (fun c hc => ?_) (fun c a hc ha iha => ?_) (fun c a b hc ha hb iha ihb => ?_)
  · intro k o h
    rw [sz_0] at h
    rw [txt_0 hc, en_0, rdL]
    rw [show rdS (0, k, o) c = some (2, k, o ++ [c]) by
      rw [rdS, if_neg (by omega), if_pos hc]]
    rfl
  · intro k o h
    rw [sz_1] at h
    have e0 : rdS (0, k, o) c = some (1, 1 :: k, o ++ [c]) := by
      rw [rdS, if_neg (by omega), if_neg (by omega), if_neg (by omega)]
    have e1 : rdS (1, 1 :: k, o ++ [c]) (jn 40) = some (0, 1 :: k, o ++ [c]) := by rw [rdS, if_pos rfl]
    have e2 := iha (1 :: k) (o ++ [c]) (by rw [List.length_append, List.length_singleton]; omega)
    have e3 : rdS (2, 1 :: k, (o ++ [c]) ++ en a) (jn 41) = some (2, k, (o ++ [c]) ++ en a) := by
      show (if (1 : Nat) = 2 then (if jn 41 = jn 44 then some (0, 1 :: k, (o ++ [c]) ++ en a) else none) else (if jn 41 = jn 41 then some (2, k, (o ++ [c]) ++ en a) else none)) = _
      rw [if_neg (by decide), if_pos rfl]
    rw [txt_1 hc, rdL, e0]
    simp only
    rw [rdL, e1]
    simp only
    rw [rdL_app _ _ _ _ e2, rdL, e3, en_1]
    simp only [rdL, List.append_assoc, List.cons_append, List.nil_append]
  · intro k o h
    rw [sz_2] at h
    have e0 : rdS (0, k, o) c = some (1, 2 :: k, o ++ [c]) := by
      rw [rdS, if_neg (by omega), if_neg (by omega), if_pos hc]
    have e1 : rdS (1, 2 :: k, o ++ [c]) (jn 40) = some (0, 2 :: k, o ++ [c]) := by rw [rdS, if_pos rfl]
    have e2 := iha (2 :: k) (o ++ [c]) (by rw [List.length_append, List.length_singleton]; omega)
    have e3 : rdS (2, 2 :: k, (o ++ [c]) ++ en a) (jn 44) = some (0, 1 :: k, (o ++ [c]) ++ en a) := by
      show (if (2 : Nat) = 2 then (if jn 44 = jn 44 then some (0, 1 :: k, (o ++ [c]) ++ en a) else none) else (if jn 44 = jn 41 then some (2, k, (o ++ [c]) ++ en a) else none)) = _
      rw [if_pos rfl, if_pos rfl]
    have e4 := ihb (1 :: k) ((o ++ [c]) ++ en a) (by rw [List.length_append, List.length_append, List.length_singleton, sz_en]; omega)
    have e5 : rdS (2, 1 :: k, ((o ++ [c]) ++ en a) ++ en b) (jn 41) = some (2, k, ((o ++ [c]) ++ en a) ++ en b) := by
      show (if (1 : Nat) = 2 then (if jn 41 = jn 44 then some (0, 1 :: k, ((o ++ [c]) ++ en a) ++ en b) else none) else (if jn 41 = jn 41 then some (2, k, ((o ++ [c]) ++ en a) ++ en b) else none)) = _
      rw [if_neg (by decide), if_pos rfl]
    rw [txt_2 hc, rdL, e0]
    simp only
    rw [rdL, e1]
    simp only
    rw [rdL_app _ _ _ _ e2, rdL, e3]
    simp only
    rw [rdL_app _ _ _ _ e4, rdL, e5, en_2]
    simp only [rdL, List.append_assoc, List.cons_append, List.nil_append]
theorem tree_en {t : Tm} (ht : wf t) (hs : sz t ≤ 40) : treeOf (en t) = t := by
  obtain ⟨h1, h2, -⟩ := treeOf_ok (o := en t) ⟨t, ht, rfl, hs⟩
  exact en_inj1 h1 ht h2
/-! the shelf that a term comes by -/
theorem low_ch : ∀ k, k < 128 → (lowB (jn 100) (jn k).toInt64).toInt32 = jn k := by decide +kernel
def Sh7 (A : AT) (n : Nat) : Prop := hel A 7 = jn 100 ∧ siz A 7 = n
theorem F_row_7 {A : AT} {n : Nat} (hn : n ≤ 160) : ∃ A', F_row A (jn 7) (jn 0) (jn n) = (jn 1, A') ∧ A'.1 = A.1 ∧ Sh7 A' n := by
  refine ⟨setH A (va_up A.2.2.2.1.1 7 (jn 100), va_up A.2.2.2.1.2.1 7 n, va_up A.2.2.2.1.2.2 7 (fun _ => 0)), ?_, rfl, ?_, ?_⟩
  · unfold F_row
    rw [if_neg (fun z => z (show thr (jn 7) by decide)), if_neg (by rw [jn_toInt (by omega)]; omega), if_neg (fun z => z (by decide)), if_neg (by rw [jn_toInt (by omega)]; omega), jnN (n := 7) (by omega), jnN (n := 0) (by omega), jnN (n := n) (by omega)]
  · show va_up A.2.2.2.1.1 7 (jn 100) 7 = jn 100
    rw [up_at, if_pos rfl]
  · show va_up A.2.2.2.1.2.1 7 n 7 = n
    rw [up_at, if_pos rfl]
theorem noR_7 {A : AT} {n : Nat} (h : Sh7 A n) : noR A (jn 7) = 0 := by
  have e : hel A (jn 7).toInt.toNat = jn 100 := by rw [jnN (by omega)]; exact h.1
  unfold noR
  rw [if_neg (fun z => z (show thr (jn 7) by decide)), if_neg (show ¬ isW A (jn 7).toInt.toNat by unfold isW; rw [e]; decide), if_neg (by rw [e]; decide)]
theorem F_set_7 {A : AT} {n i : Nat} {v : Int64} (h : Sh7 A n) (hi : i < n) (hn : n ≤ 160) : ∃ A', F_set A (jn 7) (jn i) v = (jn 1, A') ∧ A'.1 = A.1 ∧ Sh7 A' n ∧ ∀ j, ele A' 7 j = if j = i then lowB (jn 100) v else ele A 7 j := by
  refine ⟨setH A (A.2.2.2.1.1, A.2.2.2.1.2.1, va_up A.2.2.2.1.2.2 7 (va_up (ele A 7) i (lowB (jn 100) v))), ?_, rfl, h, fun j => ?_⟩
  · unfold F_set
    rw [if_pos (noR_7 h), if_neg (fun z => z (by rw [jnN (n := 7) (by omega), h.2, jn_toInt (by omega)]; omega)), jnN (n := 7) (by omega), jnN (n := i) (by omega), h.1]
  · show (va_up A.2.2.2.1.2.2 7 (va_up (ele A 7) i (lowB (jn 100) v))) 7 j = _
    rw [up_at, if_pos rfl, up_at]
theorem F_term_7 {A : AT} {t : Tm} (ht : wf t) (hs : sz t ≤ 40) (h : Sh7 A (txt t).length) (he : ∀ j c, (txt t)[j]? = some c → ele A 7 j = lowB (jn 100) c.toInt64) (hl : (tsA A).length < 24) : F_term A (jn 7) = (jn (tsA A).length, pt (setF A (jz 1)) t) := by
  have er : rdR (rowI A 7) ((txt t).length + 0) 0 (0, [], []) = .inr (en t) := by
    rw [rdR_L (txt t) 0 0 (0, [], []) (2, [], en t) (fun j c hj => by
      rw [Nat.zero_add]
      show (ele A 7 j).toInt32 = c
      rw [he j c hj]
      obtain ⟨k, rfl, -, hk, -⟩ := txt_ch t ht c (List.mem_of_getElem? hj)
      exact low_ch k hk) (by rw [rd_txt t ht [] [] (by simpa using hs)]; rfl), rdR, if_pos ⟨rfl, rfl⟩]
  unfold F_term
  rw [if_pos (noR_7 h), jnN (by omega), h.2]
  rw [Nat.add_zero] at er
  rw [er]
  simp only
  rw [tree_en ht hs, addT_pt (A := setF A (jz 1)) hl]
  rfl
