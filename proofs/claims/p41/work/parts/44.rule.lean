/-! new terms; the variables of a term; rule -/
theorem sz_en (t : Tm) : (en t).length = sz t := rfl
abbrev vbS (b c : Int32) : Int32 := if isV c then b ||| (jn 1 <<< ((c - jn 117) &&& 31)) else b
def vb (l : List Int32) : Int32 := l.foldl vbS (jn 0)
theorem vb_take {l : List Int32} {k : Nat} {c : Int32} (h : l[k]? = some c) : vb (l.take (k + 1)) = vbS (vb (l.take k)) c := by
  unfold vb
  rw [List.take_add_one, h, List.foldl_append]
  rfl
theorem isV_k {c : Int32} (h : isV c) : ∃ k, k < 6 ∧ c = jn (117 + k) := by
  obtain ⟨k, hk, rfl⟩ := inn (a := c) (n := 123) (by omega)
  rw [isV, jn_toInt (by omega)] at h
  exact ⟨k - 117, by omega, by congr 1; omega⟩
theorem k_isV {k : Nat} (h : k < 6) : isV (jn (117 + k)) := by
  rw [isV, jn_toInt (by omega)]; omega
theorem vb_all : ∀ a, a < 64 → ∀ k, k < 6 → jn a ||| (jn 1 <<< ((jn (117 + k) - jn 117) &&& 31)) = jn (a ||| 1 <<< k) ∧ a ||| 1 <<< k < 64 ∧ ∀ i, i < 6 → (a ||| 1 <<< k).testBit i = (a.testBit i || decide (i = k)) := by decide +kernel
theorem vb_fold : ∀ (l : List Int32) (a : Nat), a < 64 → ∃ m, m < 64 ∧ l.foldl vbS (jn a) = jn m ∧ ∀ i, i < 6 → m.testBit i = (a.testBit i || decide (jn (117 + i) ∈ l)) := by
  intro l
  induction l with
  | nil => intro a ha; exact ⟨a, ha, rfl, fun i _ => by simp⟩
  | cons c l ih =>
    intro a ha
    rw [List.foldl_cons]
    by_cases hc : isV c
    · obtain ⟨k, hk, rfl⟩ := isV_k hc
      obtain ⟨v1, v2, v3⟩ := vb_all a ha k hk
      obtain ⟨m, h1, h2, h3⟩ := ih _ v2
      refine ⟨m, h1, ?_, fun i hi => ?_⟩
      · rw [show vbS (jn a) (jn (117 + k)) = jn (a ||| 1 <<< k) by unfold vbS; rw [if_pos hc, v1]]; exact h2
      · rw [h3 i hi, v3 i hi, Bool.or_assoc]
        congr 1
        have e : (jn (117 + i) = jn (117 + k)) = (i = k) := by rw [jn_inj (by omega) (by omega)]; exact propext ⟨fun q => by omega, fun q => by omega⟩
        by_cases h5 : i = k
        · simp [h5]
        · simp [h5, List.mem_cons, e]
    · obtain ⟨m, h1, h2, h3⟩ := ih a ha
      refine ⟨m, h1, ?_, fun i hi => ?_⟩
      · rw [show vbS (jn a) c = jn a from if_neg hc]; exact h2
      · rw [h3 i hi]
        congr 1
        have : jn (117 + i) ≠ c := fun q => hc (q ▸ k_isV hi)
        simp [List.mem_cons, this]
theorem vb_spec (l : List Int32) : ∃ m, m < 64 ∧ vb l = jn m ∧ ∀ i, i < 6 → (m.testBit i = true ↔ jn (117 + i) ∈ l) := by
  obtain ⟨m, h1, h2, h3⟩ := vb_fold l 0 (by omega)
  exact ⟨m, h1, h2, fun i hi => by rw [h3 i hi]; simp⟩
theorem sub_all : ∀ a, a < 64 → ∀ b, b < 64 → jn a &&& (jn b ^^^ jz 1) = jn 0 → ∀ i, i < 6 → a.testBit i = true → b.testBit i = true := by decide +kernel
theorem vb_sub {l l' : List Int32} (h : vb l &&& (vb l' ^^^ jz 1) = jn 0) {c : Int32} (hc : isV c) (hm : c ∈ l) : c ∈ l' := by
  obtain ⟨a, a1, a2, a3⟩ := vb_spec l
  obtain ⟨b, b1, b2, b3⟩ := vb_spec l'
  obtain ⟨k, hk, rfl⟩ := isV_k hc
  rw [a2, b2] at h
  exact (b3 k hk).mp (sub_all a a1 b b1 h k hk ((a3 k hk).mpr hm))
noncomputable def F_rule (A : AT) (l r : Int32) : Int32 × AT := match lk (tsA A) l, lk (tsA A) r with
  | some t, some u => if isV (sgn t 0) ∨ vb (en u) &&& (vb (en t) ^^^ jz 1) ≠ jn 0 then rfs A 6 else if 12 ≤ (rsA A).length then rfs A 7 else (jn (rsA A).length, setK A (tsA A, rsA A ++ [(t, u)], A.1.2.2))
  | _, _ => rfs A 1
section
variable {d : Nat} {A : AT} {M : PM} {a b c e f : Int32} {v : Int64}
theorem k_rule (hA : AOk A) : AOk (F_rule A a b).2 := by
  unfold F_rule
  split
  · rename_i t u ht hu
    split
    · exact hA
    rename_i h1
    split
    · exact hA
    rename_i h2
    have l1 : 0 ≤ a.toInt ∧ a.toInt < ((tsA A).length : Nat) := lk_iff.mp (by rw [ht]; rfl)
    have l2 : 0 ≤ b.toInt ∧ b.toInt < ((tsA A).length : Nat) := lk_iff.mp (by rw [hu]; rfl)
    obtain ⟨n, t', -, -, hn, e1⟩ := lk_some l1
    obtain ⟨m, u', -, -, hm, e2⟩ := lk_some l2
    rw [ht] at e1
    rw [hu] at e2
    cases e1
    cases e2
    obtain ⟨w1, w2, -⟩ := tm_ok hA hn
    obtain ⟨w3, w4, -⟩ := tm_ok hA hm
    obtain ⟨⟨k1, ⟨k2, k3⟩, ⟨k4, k5⟩, k6⟩, k7⟩ := hA
    refine ⟨⟨k1, ⟨?_, fun r hr => ?_⟩, ⟨k4, fun i q hq => ?_⟩, k6⟩, k7⟩
    · show (rsA A ++ [(t, u)]).length ≤ 12
      rw [List.length_append, List.length_singleton]; omega
    · rcases List.mem_append.mp hr with h | h
      · exact k3 r h
      · rw [List.mem_singleton.mp h]
        refine ⟨w1, w3, w2, w4, fun c l hl hv => h1 (Or.inl ?_), fun c hc => ⟨hc.1, ?_⟩⟩
        · have hl : en t = c :: l := hl
          rw [sgn, hl]; exact hv
        · exact vb_sub (Classical.byContradiction fun q => h1 (Or.inr q)) hc.1 hc.2
    · obtain ⟨g1, g2, g3, g4, g5⟩ := k5 i q hq
      refine ⟨g1, fun h0 => ?_, g3, g4, g5⟩
      obtain ⟨r, hr, hr2⟩ := g2 h0
      refine ⟨r, ?_, hr2⟩
      show r < (rsA A ++ [(t, u)]).length
      rw [List.length_append]
      have : r < (rsA A).length := hr
      omega
  · exact hA
theorem c_vars {p : Nat} {t : Tm} (hd : 3 ≤ d) (ht : wf t) (hat : At (M.1 7) p (en t)) (hp : p + sz t ≤ 3760) : pcl GG lay d 236 [.ref 6, .int (jn p)] M = rI (vb (en t)) M := by
  obtain ⟨d, rfl⟩ := ex_add hd
  rw [q_236, c_end (by omega) ht hat hp, kI_r]
  have key : ∀ m k u1, k + m = sz t → E_236 (d + 2) (11, [some (.ref 6), u1, some (.int (jn (p + sz t))), some (.int (vb ((en t).take k))), some (.int (jn (p + k)))], [], M) = rI (vb (en t)) M := by
    intro m
    induction m with
    | zero =>
      intro k u1 hk
      rw [h_236_11, ilt_neg (by omega) (by omega), List.take_of_length_le (by rw [sz_en]; omega)]
    | succ m ih =>
      intro k u1 hk
      have hc := At_sz.mp hat k (by omega)
      rw [h_236_11, ilt_pos (by omega) (by omega), c_at (by omega) (by omega), kI_r, c_isV (by omega), kI_r, c_at (by omega) (by omega), kI_r, jn_add, ← ih (k + 1) u1 (by omega), vb_take hc]
      by_cases hv : isV (M.1 7 (p + k))
      · rw [bI_1 hv, ieq_neg (by omega) (by omega) (by omega), vbS, if_pos hv]; rfl
      · rw [bI_n hv, ieq_pos rfl, vbS, if_neg hv]; rfl
  have := key (sz t) 0 (some (.int (jn p))) (by omega)
  exact this
/-! a term more -/
theorem KX_add {t : Tm} (hA : AOk A) (h : KX 1 A.1 M) (hl : (tsA A).length < 24) (hs : sz t ≤ 40) {M' : PM} (h1 : M'.1 1 = va_up (M.1 1) 5 (jn ((tsA A).length + 1))) (h7 : ∀ i, i < 1920 → (i < 40 * (tsA A).length ∨ 40 * (tsA A).length + 40 ≤ i) → M'.1 7 i = M.1 7 i) (hat : At (M'.1 7) (40 * (tsA A).length) (en t)) (hf : Fr kcX M M') (hf2 : M'.1 2 = M.1 2 ∧ M'.1 3 = M.1 3 ∧ M'.1 4 = M.1 4 ∧ M'.1 5 = M.1 5) : KX 1 (tsA A ++ [t], A.1.2) M' := by
  obtain ⟨⟨a1, a2, a3, a4, a5⟩, a6, a7, a8⟩ := h
  obtain ⟨f1, f2, f3, f4⟩ := hf2
  have e : ∀ j, j ≠ 5 → M'.1 1 j = M.1 1 j := fun j hj => by rw [h1, up_at, if_neg hj]
  refine ⟨⟨?_, (e 6 (by omega)).trans a2, (e 7 (by omega)).trans a3, (e 8 (by omega)).trans a4, (e 9 (by omega)).trans a5⟩, fun i u hi => ?_, fun i r hi => ?_, fun i q hi => ?_⟩
  · rw [h1, up_at, if_pos rfl]; simp
  · rcases app_get hi with ⟨h3, h4⟩ | ⟨h3, h4⟩
    · have h40 := (tm_ok hA h4).2.1
      exact AT_congr (a6 i u h4) (fun j g1 g2 => h7 j (by omega) (by omega))
    · subst h4; subst h3; exact hat
  · obtain ⟨w, h12⟩ := rl_ok hA hi
    have w1 := w.2.2.1
    have w2 := w.2.2.2.1
    exact ⟨AT_congr (a7 i r hi).1 (fun j g1 g2 => h7 j (by omega) (by omega)), AT_congr (a7 i r hi).2 (fun j g1 g2 => h7 j (by omega) (by omega))⟩
  · obtain ⟨b1, b2, b3, b4⟩ := a8 i q hi
    exact ⟨(congrFun f1 i).trans b1, (congrFun f2 i).trans b2, (congrFun f3 i).trans b3, (congrFun f4 i).trans b4⟩
/-- State.addTerm: a term that lies behind what is kept -/
theorem x_addT {p : Nat} {t : Tm} (hd : 5 ≤ d) (hA : AOk A) (h : RX A M) (hl : (tsA A).length < 24) (ht : wf t) (hs : sz t ≤ 40) (hat : At (M.1 7) p (en t)) (hp : p + sz t ≤ 3760) (hpl : 40 * (tsA A).length ≤ p ∨ p + sz t ≤ 40 * (tsA A).length) : XI (pcl GG lay d 243 [.ref 1, .int (jn p)] M) M (jn (tsA A).length, setK A (tsA A ++ [t], A.1.2)) := by
  obtain ⟨d, rfl⟩ := ex_add hd
  have e5 : M.1 1 5 = jn (tsA A).length := h.1.1.1
  rw [q_243, e5, c_tp (by omega), kI_r, c_append (by omega) ht hat hp (by omega) (by omega), kI_r, wr_e]
  have e6 : (sI M 7 (cp (M.1 7) (M.1 7) p (40 * (tsA A).length) (sz t))).1 1 5 = jn (tsA A).length := e5
  rw [e6, jn_add, sI_k, up_at, if_pos rfl, jn_sub (by omega), Nat.add_sub_cancel]
  have hf : Fr [1, 7] M (sI (sI M 7 (cp (M.1 7) (M.1 7) p (40 * (tsA A).length) (sz t))) 1 (va_up ((sI M 7 (cp (M.1 7) (M.1 7) p (40 * (tsA A).length) (sz t))).1 1) 5 (jn ((tsA A).length + 1)))) := (Fr.sI (by decide)).trans (Fr.sI (by decide))
  refine ⟨_, rfl, setK_x h (KX_add hA h.1 hl hs ?_ (fun i h1 h2 => ?_) ?_ (hf.mono (by decide)) ⟨rfl, rfl, rfl, rfl⟩) (hf.mono (by decide)), Hi.fr hf (by decide)⟩
  · rw [sI_k]; rfl
  · rw [sI_o _ _ (by omega), sI_k, cp_out (by omega)]
  · rw [sI_o _ _ (by omega), sI_k]; exact AT_cp hat (by omega)
theorem x_newT {p : Nat} {t : Tm} (hd : 6 ≤ d) (hA : AOk A) (h : RX A M) (ht : wf t) (hs : sz t ≤ 40) (hat : At (M.1 7) p (en t)) (hp : p + sz t ≤ 3760) (hpl : 1920 ≤ p) : XI (pcl GG lay d 57 [.ref 0, .int (jn p)] M) M (addT A t) := by
  obtain ⟨d, rfl⟩ := ex_add hd
  have hl : (tsA A).length ≤ 24 := hA.1.1.1
  have e5 : M.1 1 5 = jn (tsA A).length := h.1.1.1
  rw [q_57, e5]
  unfold addT
  by_cases h24 : (tsA A).length < 24
  · rw [ilt_pos h24 (by omega), if_pos h24]
    obtain ⟨M', e, h1, h2⟩ := x_addT (d := d + 5) (by omega) hA h h24 ht hs hat hp (by omega)
    exact ⟨M', by rw [e, kI_r], h1, h2⟩
  · rw [ilt_neg (by omega) (by omega), if_neg h24]; exact x_ref (by omega) h (by omega)
end
