/-! the system's unifying: joining -/
def shI (o : Option Nat) : Int32 := match o with
  | none => jz 1
  | some k => jn k
def TDm (f : Nat → Int32) : List (Nat × Nat) → Prop
  | [] => True
  | p :: td => f (2 * td.length) = jn p.1 ∧ f (2 * td.length + 1) = jn p.2 ∧ TDm f td
def US (s t : Tm) (R : Nat → Nat) (sh : Nat → Option Nat) (td : List (Nat × Nat)) (n : Nat) (M : PM) : Prop := TXT s t M ∧ (∀ x, x < 92 → R x < 92 ∧ Pth (M.1 43) n x (R x)) ∧ (∀ x, x < 92 → M.1 44 x = shI (sh x)) ∧ (M.1 40 8 = jn (2 * td.length) ∧ TDm (M.1 47) td) ∧ n + cntP (fun x => decide (R x = x)) 92 ≤ 92
def JF (M M' : PM) : Prop := Fr [40, 43, 44, 47] M M' ∧ ∀ j, j ≠ 8 → M'.1 40 j = M.1 40 j
theorem JF.rf {M : PM} : JF M M := ⟨Fr.rf, fun _ _ => rfl⟩
theorem JF.trans {M M' M'' : PM} (h : JF M M') (h' : JF M' M'') : JF M M'' := ⟨h.1.trans h'.1, fun j hj => (h'.2 j hj).trans (h.2 j hj)⟩
theorem JF.sI {M : PM} {k : Nat} {f : Nat → Int32} (h : k ∈ [43, 44, 47]) : JF M (sI M k f) := by
  have h2 : k = 43 ∨ k = 44 ∨ k = 47 := by simpa using h
  rcases h2 with rfl | rfl | rfl
  · exact ⟨Fr.sI (by decide), fun j _ => by rw [sI_o _ _ (by decide)]⟩
  · exact ⟨Fr.sI (by decide), fun j _ => by rw [sI_o _ _ (by decide)]⟩
  · exact ⟨Fr.sI (by decide), fun j _ => by rw [sI_o _ _ (by decide)]⟩
theorem TDm_up {f : Nat → Int32} {x : Nat} {v : Int32} : ∀ td : List (Nat × Nat), 2 * td.length ≤ x → TDm f td → TDm (va_up f x v) td := by
  intro td
  induction td with
  | nil => intro _ _; trivial
  | cons p td ih =>
    intro hx h
    rw [List.length_cons] at hx
    obtain ⟨h1, h2, h3⟩ := h
    exact ⟨by rw [up_at, if_neg (by omega)]; exact h1, by rw [up_at, if_neg (by omega)]; exact h2, ih (by omega) h3⟩
theorem Pth_end {f : Nat → Int32} : ∀ c x r, Pth f c x r → f r = jn r := by
  intro c
  induction c with
  | zero => intro x r h; exact h.2
  | succ c ih =>
    intro x r h
    rcases h with h | ⟨y, h1, h2, h3, h4⟩
    · exact h.2
    · exact ih y r h4
theorem shI_none {o : Option Nat} (h : ∀ k, o = some k → k < 80) : (shI o = jz 1) = (o = none) := by
  cases o with
  | none => simp [shI]
  | some k =>
    have := h k rfl
    show (jn k = jz 1) = _
    rw [jn_jz (by omega) (by omega)]
    simp
section
variable {d i j i0 j0 n : Nat} {s t : Tm} {M M' : PM} {R : Nat → Nat} {sh : Nat → Option Nat} {td : List (Nat × Nat)}
theorem c_push (hd : 2 ≤ d) (hl : 2 * td.length + 1 < 368) (h8 : M.1 40 8 = jn (2 * td.length)) : ∃ M', pcl GG lay d 262 [.ref 40, .int (jn i), .int (jn j)] M = rV M' ∧ Fr [40, 47] M M' ∧ (∀ j, j ≠ 8 → M'.1 40 j = M.1 40 j) ∧ M'.1 40 8 = jn (2 * ((i, j) :: td).length) ∧ (TDm (M.1 47) td → TDm (M'.1 47) ((i, j) :: td)) := by
  obtain ⟨d, rfl⟩ := ex_add (show 1 ≤ d by omega)
  rw [q_262, h8, c_put (n := 368) (by omega) rfl (by omega) (by omega), kV_r]
  generalize hM1 : sI M 47 (va_up (M.1 47) (2 * td.length) (jn i)) = M1
  have f1 : Fr [40, 47] M M1 := by rw [← hM1]; exact Fr.sI (by decide)
  have a40 : M1.1 40 = M.1 40 := by rw [← hM1, sI_o _ _ (by decide)]
  have a47 : M1.1 47 = va_up (M.1 47) (2 * td.length) (jn i) := by rw [← hM1, sI_k]
  clear hM1
  rw [a40, h8, jn_add, c_put (n := 368) (by omega) rfl (by omega) (by omega), kV_r, wr_e]
  generalize hM2 : sI M1 47 (va_up (M1.1 47) (2 * td.length + 1) (jn j)) = M2
  have f2 : Fr [40, 47] M M2 := by rw [← hM2]; exact f1.trans (Fr.sI (by decide))
  have b40 : M2.1 40 = M.1 40 := by rw [← hM2, sI_o _ _ (by decide), a40]
  have b47 : M2.1 47 = va_up (M1.1 47) (2 * td.length + 1) (jn j) := by rw [← hM2, sI_k]
  clear hM2
  rw [b40, h8, jn_add]
  refine ⟨_, rfl, f2.trans (Fr.sI (by decide)), fun k hk => ?_, ?_, fun h => ?_⟩
  · rw [sI_k, up_at, if_neg hk]
  · rw [sI_k, up_at, if_pos rfl, List.length_cons]; congr 1
  · refine ⟨?_, ?_, ?_⟩
    · rw [sI_o _ _ (by decide), b47, up_at, if_neg (by omega), a47, up_at, if_pos rfl]
    · rw [sI_o _ _ (by decide), b47, up_at, if_pos rfl]
    · rw [sI_o _ _ (by decide), b47, a47]
      exact TDm_up td (by omega) (TDm_up td (by omega) h)
theorem US.eq {M2 : PM} (h : US s t R sh td n M) (hf : Fr [40, 47] M M2) {td' : List (Nat × Nat)} (h8 : M2.1 40 8 = jn (2 * td'.length)) (ht : TDm (M2.1 47) td') : US s t R sh td' n M2 :=
  ⟨h.1.eq (hf.1 41 (by decide)) (hf.1 42 (by decide)), by rw [hf.1 43 (by decide)]; exact h.2.1, by rw [hf.1 44 (by decide)]; exact h.2.2.1, ⟨h8, ht⟩, h.2.2.2.2⟩
theorem US.lt (h : US s t R sh td n M) {x : Nat} (hx : x < 92) (hr : R x = x) : n < 92 := by
  have := cntP_lt (p := fun _ => false) (q := fun x => decide (R x = x)) 92 x hx (fun _ _ z => by cases z) rfl (by simpa using hr)
  have h5 := h.2.2.2.2
  omega
theorem c_join (hd : 6 ≤ d) (hs : wf s) (ht : wf t) (hs4 : sz s ≤ 40) (ht4 : sz t ≤ 40) (h : UI (kS s t) (tSp s t) (scS s t) i0 j0 R sh ((i, j) :: td)) (hu : US s t R sh td n M) (hl : td.length ≤ 182) :
    (∃ M' R' sh' td' n', pcl GG lay d 263 [.ref 40, .int (jn i), .int (jn j)] M = rI (jn 1) M' ∧ UI (kS s t) (tSp s t) (scS s t) i0 j0 R' sh' td' ∧ US s t R' sh' td' n' M' ∧ JF M M' ∧ td'.length + 2 * n ≤ td.length + 2 * n') ∨ ∃ M', pcl GG lay d 263 [.ref 40, .int (jn i), .int (jn j)] M = rI (jn 0) M' ∧ JF M M' ∧ ∀ th, ap th (tSp s t i0) ≠ ap th (tSp s t j0) := by
  obtain ⟨d, rfl⟩ := ex_add (show 1 ≤ d by omega)
  have hP := pool_st hs ht hs4 ht4
  obtain ⟨hi, hj⟩ := h.todo (i, j) (by simp)
  have hi : kS s t i := hi
  have hj : kS s t j := hj
  obtain ⟨u1, u2, u3, ⟨u4, u5⟩, u6⟩ := hu
  have hu : US s t R sh td n M := ⟨u1, u2, u3, ⟨u4, u5⟩, u6⟩
  generalize hT : tSp s t = T at *
  have li := ido_lt (T := T) hP hi
  have lj := ido_lt (T := T) hP hj
  obtain ⟨la, pa⟩ := u2 _ li
  obtain ⟨lb, pb⟩ := u2 _ lj
  obtain ⟨va, ra⟩ := h.root _ (ido_vi hi)
  obtain ⟨vb, rb⟩ := h.root _ (ido_vi hj)
  have hn := hu.lt la ra
  rw [q_263, c_ido (by omega) hs ht hs4 ht4 u1 hi, kI_r, hT, c_root (by omega) li hn pa, kI_r, c_ido (by omega) hs ht hs4 ht4 u1 hj, kI_r, hT, c_root (by omega) lj hn pb, kI_r]
  by_cases hab : R (ido T i) = R (ido T j)
  · rw [ieq_pos hab, rZ_1]
    exact Or.inl ⟨M, R, sh, td, n, rfl, h.same hP hab, hu, JF.rf, by omega⟩
  rw [ieq_neg hab (by omega) (by omega)]
  generalize ha : R (ido T i) = a at *
  generalize hb : R (ido T j) = b at *
  have ba : ∀ k, sh a = some k → k < 80 := fun k e => (hP k (h.shp a k va ra e).1).1
  have bb : ∀ k, sh b = some k → k < 80 := fun k e => (hP k (h.shp b k vb rb e).1).1
  have fa : M.1 43 a = jn a := Pth_end _ _ _ pa
  have fb : M.1 43 b = jn b := Pth_end _ _ _ pb
  rw [c_get (n := 92) (by omega) rfl la (by omega), kI_r, u3 a la, c_get (n := 92) (by omega) rfl lb (by omega), kI_r, u3 b lb, c_put (n := 92) (by omega) rfl la (by omega), kV_r]
  -- behind the link
  have hcnt : (n + 1) + cntP (fun x => decide (mrg R a b x = x)) 92 ≤ 92 := by
    have := cntP_lt (p := fun x => decide (mrg R a b x = x)) (q := fun x => decide (R x = x)) 92 a la (fun x hx z => by
      simp only [decide_eq_true_eq] at z ⊢
      unfold mrg at z
      split at z
      · rw [← z]; exact rb
      · exact z) (by
        simp only [decide_eq_false_iff_not]
        unfold mrg
        rw [if_pos ra]
        exact Ne.symm hab) (by simpa using ra)
    omega
  have hpth : ∀ x, x < 92 → mrg R a b x < 92 ∧ Pth (va_up (M.1 43) a (jn b)) (n + 1) x (mrg R a b x) := by
    intro x hx
    obtain ⟨w1, w2⟩ := u2 x hx
    refine ⟨by unfold mrg; split; exact lb; exact w1, Pth_link hab fa fb la lb n x _ hx w1 w2⟩
  have xb := shI_none bb
  have xa := shI_none ba
  -- without two shapes
  have one : sh a = none ∨ sh b = none → ∀ M1 : PM, JF M M1 → M1.1 43 = va_up (M.1 43) a (jn b) → (∀ x, x < 92 → M1.1 44 x = shI (if x = b ∧ sh b = none then sh a else sh x)) → M1.1 40 8 = M.1 40 8 → M1.1 47 = M.1 47 → ∃ M' R' sh' td' n', (rI (jn 1) M1 : PO) = rI (jn 1) M' ∧ UI (kS s t) T (scS s t) i0 j0 R' sh' td' ∧ US s t R' sh' td' n' M' ∧ JF M M' ∧ td'.length + 2 * n ≤ td.length + 2 * n' := by
    intro hno M1 hf e43 e44 e8 e47
    refine ⟨M1, mrg R a b, _, [] ++ td, n + 1, rfl, h.join hP ha hb hab (np := []) (fun ka kb s1 s2 => ?_) (fun p hp => by cases hp), ⟨u1.eq (hf.1.1 41 (by decide)) (hf.1.1 42 (by decide)), by rw [e43]; exact hpth, e44, ⟨by rw [e8]; exact u4, by rw [e47]; exact u5⟩, hcnt⟩, hf, by rw [List.nil_append]; omega⟩
    rcases hno with z | z
    · rw [z] at s1; cases s1
    · rw [z] at s2; cases s2
  by_cases nb : sh b = none
  · rw [if_pos (xb ▸ nb), c_put (n := 92) (by omega) rfl lb (by omega), kV_r]
    have f2 : JF M (sI (sI M 43 (va_up (M.1 43) a (jn b))) 44 (va_up ((sI M 43 (va_up (M.1 43) a (jn b))).1 44) b (shI (sh a)))) := (JF.sI (by decide)).trans (JF.sI (by decide))
    have fin := one (Or.inr nb) _ f2 (by rw [sI_o _ _ (by decide), sI_k]) (fun x hx => by
      rw [sI_k, up_at]
      by_cases e : x = b
      · rw [if_pos e, if_pos ⟨e, nb⟩]
      · rw [if_neg e, if_neg (fun z => e z.1), sI_o _ _ (by decide), u3 x hx]) (by rw [sI_o _ _ (by decide), sI_o _ _ (by decide)]) (by rw [sI_o _ _ (by decide), sI_o _ _ (by decide)])
    by_cases na : sh a = none
    · rw [if_pos (xa ▸ na), rZ_1]; exact Or.inl fin
    · rw [if_neg (fun z => na (xa ▸ z)), if_pos (xb ▸ nb), rZ_1]; exact Or.inl fin
  rw [if_neg (fun z => nb (xb ▸ z))]
  have sb : ∀ x, (if x = b ∧ sh b = none then sh a else sh x) = sh x := fun x => if_neg (fun z => nb z.2)
  generalize hM1 : sI M 43 (va_up (M.1 43) a (jn b)) = M1
  have f1 : JF M M1 := by rw [← hM1]; exact JF.sI (by decide)
  have a43 : M1.1 43 = va_up (M.1 43) a (jn b) := by rw [← hM1, sI_k]
  have a44 : M1.1 44 = M.1 44 := by rw [← hM1, sI_o _ _ (by decide)]
  have a47 : M1.1 47 = M.1 47 := by rw [← hM1, sI_o _ _ (by decide)]
  have a40 : M1.1 40 = M.1 40 := by rw [← hM1, sI_o _ _ (by decide)]
  clear hM1
  by_cases na : sh a = none
  · rw [if_pos (xa ▸ na), rZ_1]
    exact Or.inl (one (Or.inl na) M1 f1 a43 (fun x hx => by rw [sb, a44]; exact u3 x hx) (by rw [a40]) a47)
  rw [if_neg (fun z => na (xa ▸ z)), if_neg (fun z => nb (xb ▸ z))]
  obtain ⟨ka, hka⟩ := Option.ne_none_iff_exists'.mp na
  obtain ⟨kb, hkb⟩ := Option.ne_none_iff_exists'.mp nb
  obtain ⟨a1, a2, a3⟩ := h.shp a ka va ra hka
  obtain ⟨b1, b2, b3⟩ := h.shp b kb vb rb hkb
  have lka := ba ka hka
  have lkb := bb kb hkb
  have eA : shI (sh a) = jn ka := by rw [hka]; rfl
  have eB : shI (sh b) = jn kb := by rw [hkb]; rfl
  have hra := raw_hd hs ht a1
  have hrb := raw_hd hs ht b1
  rw [hT] at hra hrb
  obtain ⟨q1, q2, q3, -⟩ := hra
  obtain ⟨p1, p2, p3, -⟩ := hrb
  have hva : ¬ isV (rawS s t ka) := fun z => a2 (q1.mp z)
  have hvb : ¬ isV (rawS s t kb) := fun z => b2 (p1.mp z)
  have g41a : M1.1 41 ka = rawS s t ka := by rw [f1.1.1 41 (by decide)]; exact ((u1 ka lka).1 a1).1
  have g41b : M1.1 41 kb = rawS s t kb := by rw [f1.1.1 41 (by decide)]; exact ((u1 kb lkb).1 b1).1
  rw [eA, eB, c_get (n := 80) (by omega) rfl lka (by omega), kI_r, g41a, c_get (n := 80) (by omega) rfl lkb (by omega), kI_r, g41b]
  by_cases hc : rawS s t ka = rawS s t kb
  case neg =>
    rw [if_neg hc, rZ_0]
    exact Or.inr ⟨M1, rfl, f1, h.clash hP (by rw [ha]; exact hka) (by rw [hb]; exact hkb) (by rw [q2 hva, p2 hvb]; exact hc)⟩
  have hhd : hdc (T ka) = hdc (T kb) := by rw [q2 hva, p2 hvb]; exact hc
  have hr := q2 hva
  rw [if_pos hc, c_arity (by omega), kI_r]
  have u43 : ∀ M' : PM, Fr [40, 47] M1 M' → ∀ x, x < 92 → mrg R a b x < 92 ∧ Pth (M'.1 43) (n + 1) x (mrg R a b x) := fun M' hf => by rw [hf.1 43 (by decide), a43]; exact hpth
  have u44 : ∀ M' : PM, Fr [40, 47] M1 M' → ∀ x, x < 92 → M'.1 44 x = shI (if x = b ∧ sh b = none then sh a else sh x) := fun M' hf x hx => by rw [sb, hf.1 44 (by decide), a44]; exact u3 x hx
  have u41 : ∀ M' : PM, Fr [40, 47] M1 M' → TXT s t M' := fun M' hf => u1.eq (by rw [hf.1 41 (by decide), f1.1.1 41 (by decide)]) (by rw [hf.1 42 (by decide), f1.1.1 42 (by decide)])
  have e8 : M1.1 40 8 = jn (2 * td.length) := by rw [a40]; exact u4
  have e47 : TDm (M1.1 47) td := by rw [a47]; exact u5
  have jf : ∀ M' : PM, Fr [40, 47] M1 M' → (∀ j, j ≠ 8 → M'.1 40 j = M1.1 40 j) → JF M M' := fun M' hf hj => f1.trans ⟨hf.mono (by decide), hj⟩
  have fin : ∀ (np : List (Nat × Nat)) (M' : PM), np.length ≤ 2 → Fr [40, 47] M1 M' → (∀ j, j ≠ 8 → M'.1 40 j = M1.1 40 j) → M'.1 40 8 = jn (2 * (np ++ td).length) → TDm (M'.1 47) (np ++ td) →
      (is1 (hdc (T ka)) ∨ is2 (hdc (T ka)) → (ka + 1, kb + 1) ∈ np) → (is2 (hdc (T ka)) → (scS s t ka, scS s t kb) ∈ np) → (∀ p ∈ np, (p = (ka + 1, kb + 1) ∧ (is1 (hdc (T ka)) ∨ is2 (hdc (T ka)))) ∨ p = (scS s t ka, scS s t kb) ∧ is2 (hdc (T ka))) →
      ∃ M2 R' sh' td' n', (rI (jn 1) M' : PO) = rI (jn 1) M2 ∧ UI (kS s t) T (scS s t) i0 j0 R' sh' td' ∧ US s t R' sh' td' n' M2 ∧ JF M M2 ∧ td'.length + 2 * n ≤ td.length + 2 * n' := by
    intro np M' hnp hf hj h8 h47 n1 n2 n3
    refine ⟨M', mrg R a b, _, np ++ td, n + 1, rfl, h.join hP ha hb hab (np := np) (fun ka' kb' s1 s2 => ?_) (fun p hp => ?_), ⟨u41 M' hf, u43 M' hf, u44 M' hf, ⟨h8, h47⟩, hcnt⟩, jf M' hf hj, by rw [List.length_append]; omega⟩
    · rw [hka] at s1; rw [hkb] at s2
      cases s1; cases s2
      exact ⟨hhd, n1, n2⟩
    · exact ⟨ka, kb, hka, hkb, hhd, n3 p hp⟩
  rcases q3 with h0 | h1 | h2
  · rw [arR_0 h0, ilt_pos (by omega) (by omega), c_arity (by omega), kI_r, arR_0 h0, ieq_neg (by omega) (by omega) (by omega), rZ_1]
    exact Or.inl (fin [] M1 (by simp) Fr.rf (fun _ _ => rfl) e8 e47 (fun z => by rw [hr] at z; omega) (fun z => by rw [hr] at z; omega) (fun p hp => by cases hp))
  · obtain ⟨M2, v1, v2, v3, v4, v5⟩ := c_push (d := d) (i := ka + 1) (j := kb + 1) (M := M1) (td := td) (by omega) (by omega) e8
    rw [arR_1 h1, ilt_neg (by omega) (by omega), jn_add, jn_add, v1, kV_r, c_arity (by omega), kI_r, arR_1 h1, ieq_neg (by omega) (by omega) (by omega), rZ_1]
    exact Or.inl (fin [(ka + 1, kb + 1)] M2 (by simp) v2 v3 v4 (v5 e47) (fun _ => by simp) (fun z => by rw [hr] at z; omega) (fun p hp => by rw [List.mem_singleton] at hp; exact Or.inl ⟨hp, Or.inl (by rw [hr]; exact h1)⟩))
  · obtain ⟨M2, v1, v2, v3, v4, v5⟩ := c_push (d := d) (i := ka + 1) (j := kb + 1) (M := M1) (td := td) (by omega) (by omega) e8
    have s42a : M2.1 42 ka = jn (scS s t ka) := by rw [v2.1 42 (by decide), f1.1.1 42 (by decide)]; exact ((u1 ka lka).1 a1).2 h2
    have s42b : M2.1 42 kb = jn (scS s t kb) := by rw [v2.1 42 (by decide), f1.1.1 42 (by decide)]; exact ((u1 kb lkb).1 b1).2 (hc ▸ h2)
    obtain ⟨M3, w1, w2, w3, w4, w5⟩ := c_push (d := d) (i := scS s t ka) (j := scS s t kb) (M := M2) (td := (ka + 1, kb + 1) :: td) (by omega) (by rw [List.length_cons]; omega) v4
    rw [arR_2 h2, ilt_neg (by omega) (by omega), jn_add, jn_add, v1, kV_r, c_arity (by omega), kI_r, arR_2 h2, ieq_pos rfl, c_get (n := 80) (by omega) rfl lka (by omega), kI_r, s42a, c_get (n := 80) (by omega) rfl lkb (by omega), kI_r, s42b, w1, kV_r, rZ_1]
    exact Or.inl (fin [(scS s t ka, scS s t kb), (ka + 1, kb + 1)] M3 (by simp) (v2.trans w2) (fun j hj => (w3 j hj).trans (v3 j hj)) w4 (w5 (v5 e47)) (fun _ => by simp) (fun _ => by simp) (fun p hp => by
      rcases List.mem_cons.mp hp with rfl | hp
      · exact Or.inr ⟨rfl, by rw [hr]; exact h2⟩
      · rw [List.mem_singleton] at hp
        exact Or.inl ⟨hp, Or.inr (by rw [hr]; exact h2)⟩))
/-- the pairs, one after another -/
theorem c_pairs {u1 u2 u3 : Option Value} (hd : 6 ≤ d) (hs : wf s) (ht : wf t) (hs4 : sz s ≤ 40) (ht4 : sz t ≤ 40) : ∀ m l R sh td n M, l + m = 184 → UI (kS s t) (tSp s t) (scS s t) i0 j0 R sh td → US s t R sh td n M → l + td.length ≤ 1 + 2 * n →
    (∃ M' R' sh' n', E_259 d (27, [some (.ref 40), u1, u2, u3, some (.int (jn l))], [], M) = (kI (pcl GG lay d 266 [.ref 40] M') fun r1 M1 => (rZ r1 M1)) ∧ UI (kS s t) (tSp s t) (scS s t) i0 j0 R' sh' [] ∧ US s t R' sh' [] n' M' ∧ JF M M') ∨ ∃ M', E_259 d (27, [some (.ref 40), u1, u2, u3, some (.int (jn l))], [], M) = rI (jn 0) M' ∧ JF M M' ∧ ∀ th, ap th (tSp s t i0) ≠ ap th (tSp s t j0) := by
  intro m
  induction m with
  | zero =>
    intro l R sh td n M hl h hu hm
    obtain ⟨v, r⟩ := h.root 0 (Or.inl (by omega))
    have hP := pool_st hs ht hs4 ht4
    have := cntP_lt (p := fun _ => false) (q := fun x => decide (R x = x)) 92 (R 0) (viU_lt hP v) (fun _ _ z => by cases z) rfl (by simpa using r)
    have h5 := hu.2.2.2.2
    omega
  | succ m ih =>
    intro l R sh td n M hl h hu hm
    obtain ⟨v, r⟩ := h.root 0 (Or.inl (by omega))
    have hP := pool_st hs ht hs4 ht4
    have hcn := cntP_lt (p := fun _ => false) (q := fun x => decide (R x = x)) 92 (R 0) (viU_lt hP v) (fun _ _ z => by cases z) rfl (by simpa using r)
    have h5 := hu.2.2.2.2
    have e8 := hu.2.2.2.1.1
    rw [h_259_27, ilt_pos (by omega) (by omega), e8]
    match td, h, hu, hm, e8 with
    | [], h, hu, hm, e8 =>
      rw [ilt_neg (by simp) (by simp)]
      exact Or.inl ⟨M, R, sh, n, rfl, h, hu, JF.rf⟩
    | (i, j) :: td, h, hu, hm, e8 =>
      rw [List.length_cons] at hm e8
      obtain ⟨k1, k2, k3⟩ := hu.2.2.2.1.2
      rw [ilt_pos (by rw [List.length_cons]; omega) (by rw [List.length_cons]; omega), wr_e, jn_sub (by rw [List.length_cons]; omega), List.length_cons, show 2 * (td.length + 1) - 2 = 2 * td.length by omega]
      generalize hM1 : sI M 40 (va_up (M.1 40) 8 (jn (2 * td.length))) = M1
      have f1 : Fr [40] M M1 := by rw [← hM1]; exact Fr.sI (by decide)
      have a40 : M1.1 40 = va_up (M.1 40) 8 (jn (2 * td.length)) := by rw [← hM1, sI_k]
      clear hM1
      have b8 : M1.1 40 8 = jn (2 * td.length) := by rw [a40, up_at, if_pos rfl]
      have b47 : M1.1 47 = M.1 47 := f1.1 47 (by decide)
      have j1 : JF M M1 := ⟨f1.mono (by decide), fun j hj => by rw [a40, up_at, if_neg hj]⟩
      have hu1 : US s t R sh td n M1 := hu.eq (f1.mono (by decide)) b8 (by rw [b47]; exact k3)
      rw [b8, c_get (n := 368) (by omega) rfl (by omega) (by omega), kI_r, b47, k1, b8, jn_add, c_get (n := 368) (by omega) rfl (by omega) (by omega), kI_r, b47, k2]
      rcases c_join (d := d) (M := M1) hd hs ht hs4 ht4 h hu1 (by omega) with ⟨M2, R2, sh2, td2, n2, g1, g2, g3, g4, g5⟩ | ⟨M2, g1, g2, g3⟩
      · rw [g1, kI_r, ieq_neg (by omega) (by omega) (by omega), jn_add]
        rcases ih (l + 1) R2 sh2 td2 n2 M2 (by omega) g2 g3 (by omega) with ⟨M3, R3, sh3, n3, w1, w2, w3, w4⟩ | ⟨M3, w1, w2, w3⟩
        · exact Or.inl ⟨M3, R3, sh3, n3, w1, w2, w3, j1.trans (g4.trans w4)⟩
        · exact Or.inr ⟨M3, w1, j1.trans (g4.trans w2), w3⟩
      · rw [g1, kI_r, ieq_pos rfl, rZ_0]
        exact Or.inr ⟨M2, rfl, j1.trans g2, g3⟩
end
