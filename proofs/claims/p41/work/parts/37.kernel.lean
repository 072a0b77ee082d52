/-! the kernel: terms, numbers -/
def setK (A : AT) (K : KT) : AT := (K, A.2)
abbrev kcX : List Nat := 1 :: 2 :: 3 :: 4 :: 5 :: 7 :: scX
abbrev kcM : List Nat := 52 :: 53 :: 54 :: 55 :: 56 :: 57 :: 58 :: 59 :: scM
theorem setK_x {A : AT} {K : KT} {M M' : PM} (h : RX A M) (hK : KX 1 K M') (hf : Fr kcX M M') : RX (setK A K) M' := by
  obtain ⟨a, ⟨b1, b2⟩, c, e, f, g⟩ := h
  refine ⟨hK, ⟨?_, fun K hK => ?_⟩, ?_, ?_, ?_, ?_⟩
  · rw [hf.1 0 (by decide)]; exact b1
  · exact KX_eq (b2 K hK) (hf.1 _ (by decide)) (hf.1 _ (by decide)) (hf.1 _ (by decide)) (hf.1 _ (by decide)) (hf.1 _ (by decide)) (hf.1 _ (by decide))
  · exact TX_eq c (by rw [hf.1 48 (by decide)]) (hf.1 _ (by decide)) (hf.2 _ (by decide))
  · exact SX_eq e (hf.1 _ (by decide)) (hf.1 _ (by decide)) (hf.2 _ (by decide))
  · rw [hf.1 0 (by decide)]; exact f
  · exact CX_eq g (hf.1 _ (by decide))
abbrev tsA (A : AT) : List Tm := A.1.1
abbrev rsA (A : AT) : List (Tm × Tm) := A.1.2.1
abbrev ssA (A : AT) : List SG := A.1.2.2.1
abbrev cmA (A : AT) : Nat := A.1.2.2.2.1
abbrev sdA (A : AT) : Int32 := A.1.2.2.2.2
theorem getLast_of {α : Type} {l : List α} {i : Nat} {t : α} (h : l.dropLast[i]? = some t) : l[i]? = some t := by
  rw [List.getElem?_dropLast] at h
  split at h
  · exact h
  · cases h
theorem app_get {α : Type} {l : List α} {x : α} {i : Nat} {y : α} (h : (l ++ [x])[i]? = some y) : i < l.length ∧ l[i]? = some y ∨ i = l.length ∧ y = x := by
  by_cases hi : i < l.length
  · rw [List.getElem?_append_left hi] at h; exact Or.inl ⟨hi, h⟩
  · rw [List.getElem?_append_right (by omega)] at h
    right
    have h2 : i - l.length = 0 := by
      apply Classical.byContradiction
      intro q
      rw [List.getElem?_eq_none (by simp; omega)] at h
      cases h
    rw [h2] at h
    simp at h
    exact ⟨by omega, h.symm⟩
def F_fault (A : AT) : Int32 × AT := (A.2.2.2.2.1, A)
def F_drop (A : AT) : Int32 × AT := if (tsA A).length = 0 then rfs A 6 else (jn ((tsA A).length - 1), setK A ((tsA A).dropLast, A.1.2))
def F_seed (A : AT) (v : Int32) : Int32 × AT := (sdA A, setK A (A.1.1, A.1.2.1, A.1.2.2.1, A.1.2.2.2.1, v))
def cmN (cm : Nat) (s : Int32) (is : Int32) : Int32 := if is = jn 0 then jn cm &&& ((jn 1 <<< ((s - jn 105) &&& 31)) ^^^ jz 1) else jn cm ||| (jn 1 <<< ((s - jn 105) &&& 31))
def F_commute (A : AT) (s is : Int32) : Int32 × AT := if ¬ is2 s then rfs A 1 else (if jn (cmA A) &&& (jn 1 <<< ((s - jn 105) &&& 31)) = jn 0 then jn 0 else jn 1, setK A (A.1.1, A.1.2.1, A.1.2.2.1, (cmN (cmA A) s is).toInt.toNat, A.1.2.2.2.2))
def addT (A : AT) (t : Tm) : Int32 × AT := if (tsA A).length < 24 then (jn (tsA A).length, setK A (tsA A ++ [t], A.1.2)) else rfs A 7
/-- the sign of a node -/
abbrev sgn (t : Tm) (i : Nat) : Int32 := (en t).getD i 0
def F_node (A : AT) (t i : Int32) : Int32 × AT := match (tsA A)[t.toInt.toNat]? with
  | some u => if t.toInt < 0 then rfs A 1 else if ¬ (0 ≤ i.toInt ∧ i.toInt < sz u) then rfs A 5 else (sgn u i.toInt.toNat, A)
  | none => rfs A 1
theorem cm_all : ∀ cm, cm < 16 → ∀ k, k < 4 → ∀ b, b < 2 → cmN cm (jn (105 + k)) (jn b) = jn (cmN cm (jn (105 + k)) (jn b)).toInt.toNat ∧ (cmN cm (jn (105 + k)) (jn b)).toInt.toNat < 16 := by decide +kernel
theorem cm_ok {cm : Nat} (h : cm < 16) {s is : Int32} (hs : is2 s) : cmN cm s is = jn (cmN cm s is).toInt.toNat ∧ (cmN cm s is).toInt.toNat < 16 := by
  obtain ⟨k, hk, e⟩ : ∃ k, k < 4 ∧ s = jn (105 + k) := by
    obtain ⟨k, hk, rfl⟩ := inn (a := s) (n := 109) (by omega)
    rw [is2, jn_toInt (by omega)] at hs
    exact ⟨k - 105, by omega, by congr 1; omega⟩
  subst e
  by_cases h0 : is = jn 0
  · rw [h0]; exact cm_all cm h k hk 0 (by omega)
  · have e : cmN cm (jn (105 + k)) is = cmN cm (jn (105 + k)) (jn 1) := by unfold cmN; rw [if_neg h0, if_neg (by decide)]
    rw [e]; exact cm_all cm h k hk 1 (by omega)
section
variable {d : Nat} {A : AT} {M : PM} {a b c e f : Int32} {v : Int64}
theorem k_drop (hA : AOk A) : AOk (F_drop A).2 := by
  unfold F_drop
  split
  · exact hA
  · obtain ⟨⟨⟨k1, k2⟩, k3⟩, k4⟩ := hA
    exact ⟨⟨⟨by have h1 : (tsA A).length ≤ 24 := k1; show (tsA A).dropLast.length ≤ 24; rw [List.length_dropLast]; omega, fun t ht => k2 t (List.dropLast_subset _ ht)⟩, k3⟩, k4⟩
theorem k_seed (hA : AOk A) : AOk (F_seed A a).2 := hA
theorem k_commute (hA : AOk A) : AOk (F_commute A a b).2 := by
  unfold F_commute
  split
  · exact hA
  · rename_i h
    obtain ⟨⟨k1, k2, k3, k4⟩, k5⟩ := hA
    exact ⟨⟨k1, k2, k3, (cm_ok k4 (Classical.byContradiction h)).2⟩, k5⟩
theorem k_addT (hA : AOk A) {t : Tm} (ht : wf t) (hs : sz t ≤ 40) : AOk (addT A t).2 := by
  unfold addT
  split
  · obtain ⟨⟨⟨k1, k2⟩, k3⟩, k4⟩ := hA
    refine ⟨⟨⟨by show (tsA A ++ [t]).length ≤ 24; rw [List.length_append, List.length_singleton]; omega, fun u hu => ?_⟩, k3⟩, k4⟩
    rcases List.mem_append.mp hu with h | h
    · exact k2 u h
    · rw [List.mem_singleton.mp h]; exact ⟨ht, hs⟩
  · exact hA
theorem k_node (hA : AOk A) : AOk (F_node A a b).2 := by
  unfold F_node
  split
  · split
    · exact hA
    split
    · exact hA
    · exact hA
  · exact hA
theorem x_fault (hd : 1 ≤ d) (h : RX A M) : XI (pcl GG lay d 13 [.ref 0] M) M (F_fault A) := by
  obtain ⟨d, rfl⟩ := ex_add hd
  exact ⟨M, by rw [q_13, h.2.2.2.2.1]; rfl, h, Hi.rf⟩
theorem x_drop (hd : 3 ≤ d) (hA : AOk A) (h : RX A M) : XI (pcl GG lay d 14 [.ref 0] M) M (F_drop A) := by
  obtain ⟨d, rfl⟩ := ex_add hd
  have hl : (tsA A).length ≤ 24 := hA.1.1.1
  have e : M.1 1 5 = jn (tsA A).length := h.1.1.1
  rw [q_14, e]
  unfold F_drop
  by_cases h0 : (tsA A).length = 0
  · rw [if_pos h0, h0, ieq_pos rfl]; exact x_ref (by omega) h (by omega)
  rw [if_neg h0, ieq_neg h0 (by omega) (by omega), jn_sub (by omega), wr_e, sI_k, up_at, if_pos rfl]
  refine ⟨_, rfl, setK_x h ?_ ((Fr.sI (k := 1) (by decide) : Fr kcX M _)), Hi.fr (S := [1]) (Fr.sI (by decide)) (by decide)⟩
  obtain ⟨⟨⟨a1, a2, a3, a4, a5⟩, a6, a7, a8⟩, -⟩ := h
  refine ⟨⟨?_, a2, a3, a4, a5⟩, fun i t hi => a6 i t (getLast_of hi), a7, a8⟩
  rw [sI_k, up_at, if_pos rfl, List.length_dropLast]
theorem x_seed (hd : 1 ≤ d) (h : RX A M) : XI (pcl GG lay d 51 [.ref 0, .int a] M) M (F_seed A a) := by
  obtain ⟨d, rfl⟩ := ex_add hd
  have e : M.1 1 9 = sdA A := h.1.1.2.2.2.2
  rw [q_51, wr_e, e]
  refine ⟨_, rfl, setK_x h ?_ ((Fr.sI (k := 1) (by decide) : Fr kcX M _)), Hi.fr (S := [1]) (Fr.sI (by decide)) (by decide)⟩
  obtain ⟨⟨⟨a1, a2, a3, a4, a5⟩, a6, a7, a8⟩, -⟩ := h
  exact ⟨⟨a1, a2, a3, a4, by rw [sI_k, up_at, if_pos rfl]⟩, a6, a7, a8⟩
theorem is2_arR : (arR a = jn 2) = is2 a := by
  by_cases h : is2 a
  · rw [arR_2 h]; exact propext ⟨fun _ => h, fun _ => rfl⟩
  · refine propext ⟨fun q => absurd q ?_, fun q => absurd q h⟩
    unfold arR
    rw [if_neg h]
    split
    · decide
    · split <;> decide
theorem x_commute (hd : 3 ≤ d) (hA : AOk A) (h : RX A M) : XI (pcl GG lay d 15 [.ref 0, .int a, .int b] M) M (F_commute A a b) := by
  obtain ⟨d, rfl⟩ := ex_add hd
  have e : M.1 1 8 = jn (cmA A) := h.1.1.2.2.2.1
  rw [q_15, c_arity (by omega), kI_r, e]
  unfold F_commute
  simp only [is2_arR]
  by_cases h1 : is2 a
  case neg => rw [if_neg h1, if_pos h1]; exact x_ref (by omega) h (by omega)
  rw [if_pos h1, if_neg (not_not_intro h1)]
  have key : ∀ r, XI (rI r (sI M 1 (va_up (M.1 1) 8 (cmN (cmA A) a b)))) M (r, setK A (A.1.1, A.1.2.1, A.1.2.2.1, (cmN (cmA A) a b).toInt.toNat, A.1.2.2.2.2)) := fun r => by
    refine ⟨_, rfl, setK_x h ?_ ((Fr.sI (k := 1) (by decide) : Fr kcX M _)), Hi.fr (S := [1]) (Fr.sI (by decide)) (by decide)⟩
    obtain ⟨⟨⟨a1, a2, a3, a4, a5⟩, a6, a7, a8⟩, -⟩ := h
    exact ⟨⟨a1, a2, a3, by rw [sI_k, up_at, if_pos rfl]; exact (cm_ok hA.1.2.2.2 h1).1, a5⟩, a6, a7, a8⟩
  unfold cmN at *
  by_cases h2 : jn (cmA A) &&& (jn 1 <<< ((a - jn 105) &&& 31)) = jn 0
  · rw [if_pos h2, if_pos h2]
    by_cases h3 : b = jn 0
    · rw [if_pos h3] at key; simp only [if_pos h3] at key ⊢; exact key _
    · simp only [if_neg h3] at key ⊢; exact key _
  · rw [if_neg h2, if_neg h2]
    by_cases h3 : b = jn 0
    · simp only [if_pos h3] at key ⊢; exact key _
    · simp only [if_neg h3] at key ⊢; exact key _
/-! terms: which there are -/
theorem c_hasT (hd : 1 ≤ d) (hA : AOk A) (h : RX A M) : pcl GG lay d 240 [.ref 1, .int a] M = rI (bI (0 ≤ a.toInt ∧ a.toInt < (tsA A).length)) M := by
  obtain ⟨d, rfl⟩ := ex_add hd
  have hl : (tsA A).length ≤ 24 := hA.1.1.1
  have e : M.1 1 5 = jn (tsA A).length := h.1.1.1
  rw [q_240, e]
  simp (disch := omega) only [rZ_0, rZ_1, jlt]
  unfold bI
  repeat' split
  all_goals first
    | rfl
    | (exfalso; omega)
theorem c_hasR (hd : 1 ≤ d) (hA : AOk A) (h : RX A M) : pcl GG lay d 241 [.ref 1, .int a] M = rI (bI (0 ≤ a.toInt ∧ a.toInt < (rsA A).length)) M := by
  obtain ⟨d, rfl⟩ := ex_add hd
  have hl : (rsA A).length ≤ 12 := hA.1.2.1.1
  have e : M.1 1 6 = jn (rsA A).length := h.1.1.2.1
  rw [q_241, e]
  simp (disch := omega) only [rZ_0, rZ_1, jlt]
  unfold bI
  repeat' split
  all_goals first
    | rfl
    | (exfalso; omega)
theorem c_tp {n : Nat} (hd : 1 ≤ d) : pcl GG lay d 59 [.int (jn n)] M = rI (jn (40 * n)) M := by
  obtain ⟨d, rfl⟩ := ex_add hd
  rw [q_59, jn_mul, Nat.mul_comm]
theorem c_lp {n : Nat} (hd : 1 ≤ d) : pcl GG lay d 60 [.int (jn n)] M = rI (jn (960 + 40 * n)) M := by
  obtain ⟨d, rfl⟩ := ex_add hd
  rw [q_60, jn_mul, jn_add, Nat.mul_comm]
theorem c_rp {n : Nat} (hd : 1 ≤ d) : pcl GG lay d 61 [.int (jn n)] M = rI (jn (1440 + 40 * n)) M := by
  obtain ⟨d, rfl⟩ := ex_add hd
  rw [q_61, jn_mul, jn_add, Nat.mul_comm]
/-- a term that there is -/
theorem tm_of (h : 0 ≤ a.toInt ∧ a.toInt < ((tsA A).length : Nat)) : ∃ n t, a = jn n ∧ n < (tsA A).length ∧ (tsA A)[n]? = some t := by
  obtain ⟨n, hn, e⟩ := inn h
  exact ⟨n, (tsA A)[n], e, hn, by simp [hn]⟩
theorem tm_ok (hA : AOk A) {n : Nat} {t : Tm} (h : (tsA A)[n]? = some t) : wf t ∧ sz t ≤ 40 ∧ n < 24 := by
  have h1 := hA.1.1.2 t (List.mem_of_getElem? h)
  have h2 : n < (tsA A).length := (List.getElem?_eq_some_iff.mp h).1
  have h3 : (tsA A).length ≤ 24 := hA.1.1.1
  exact ⟨h1.1, h1.2, by omega⟩
theorem c_hasN {p : Nat} {t : Tm} (hd : 4 ≤ d) (ht : wf t) (hs : At (M.1 7) p (en t)) (hp : p + sz t ≤ 3760) : pcl GG lay d 58 [.ref 0, .int (jn p), .int a] M = rI (bI (0 ≤ a.toInt ∧ a.toInt < (sz t : Nat))) M := by
  obtain ⟨d, rfl⟩ := ex_add hd
  rw [q_58, c_sizeAt (by omega) ht hs hp, kI_r]
  simp (disch := omega) only [rZ_0, rZ_1, jlt]
  unfold bI
  repeat' split
  all_goals first
    | rfl
    | (exfalso; omega)
theorem sgn_at {g : Nat → Int32} {p i : Nat} {t : Tm} (h : At g p (en t)) (hi : i < sz t) : g (p + i) = sgn t i := by
  have := At_sz.mp h i hi
  rw [sgn, List.getD_eq_getElem?_getD, this]; rfl
theorem x_node (hd : 6 ≤ d) (hA : AOk A) (h : RX A M) : XI (pcl GG lay d 16 [.ref 0, .int a, .int b] M) M (F_node A a b) := by
  obtain ⟨d, rfl⟩ := ex_add hd
  rw [q_16, c_hasT (by omega) hA h, kI_r]
  simp only [bI_0]
  unfold F_node
  by_cases h1 : 0 ≤ a.toInt ∧ a.toInt < (tsA A).length
  case neg =>
    rw [if_pos h1]
    have : XI (kI (pcl GG lay (d + 5) 56 [.ref 0, .int (jz 1)] M) fun r M => rI r M) M (rfs A 1) := x_ref (by omega) h (by omega)
    split
    · rename_i u hu
      have : a.toInt.toNat < (tsA A).length := (List.getElem?_eq_some_iff.mp hu).1
      rw [if_pos (show a.toInt < 0 by omega)]; assumption
    · exact this
  rw [if_neg (not_not_intro h1)]
  obtain ⟨n, t, rfl, hn, ht⟩ := tm_of h1
  obtain ⟨w1, w2, w3⟩ := tm_ok hA ht
  have hat := h.1.2.1 n t ht
  rw [c_tp (by omega), kI_r, c_hasN (by omega) w1 hat (by omega), kI_r, c_tp (by omega), kI_r, jnN (by omega), ht]
  simp only [bI_0]
  rw [if_neg (show ¬ (jn n).toInt < 0 by omega)]
  by_cases h2 : 0 ≤ b.toInt ∧ b.toInt < (sz t : Nat)
  case neg => rw [if_pos h2, if_pos h2]; exact x_ref (by omega) h (by omega)
  rw [if_neg (not_not_intro h2), if_neg (not_not_intro h2)]
  obtain ⟨i, hi, rfl⟩ := inn h2
  rw [jn_add, c_at (by omega) (by omega), kI_r, jnN (by omega)]
  exact ⟨M, by rw [sgn_at hat hi], h, Hi.rf⟩
end
