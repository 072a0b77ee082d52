/-! MATCHES of the system -/
theorem list_diff : ∀ (l l' : List Int32), (∃ i, i < l.length ∧ i < l'.length ∧ (∀ j, j < i → l[j]? = l'[j]?) ∧ l[i]? ≠ l'[i]?) ∨ (∃ x, l ++ x = l') ∨ ∃ x, l' ++ x = l := by
  intro l
  induction l with
  | nil => intro l'; exact Or.inr (Or.inl ⟨l', rfl⟩)
  | cons c l ih =>
    intro l'
    cases l' with
    | nil => exact Or.inr (Or.inr ⟨c :: l, rfl⟩)
    | cons c' l' =>
      by_cases h : c = c'
      · subst h
        rcases ih l' with ⟨i, h1, h2, h3, h4⟩ | ⟨x, h⟩ | ⟨x, h⟩
        · refine Or.inl ⟨i + 1, by simp; omega, by simp; omega, fun j hj => ?_, by simpa using h4⟩
          cases j with
          | zero => rfl
          | succ j => simpa using h3 j (by omega)
        · exact Or.inr (Or.inl ⟨x, by rw [List.cons_append, h]⟩)
        · exact Or.inr (Or.inr ⟨x, by rw [List.cons_append, h]⟩)
      · exact Or.inl ⟨0, by simp, by simp, fun j hj => by omega, by simpa using h⟩
theorem first_diff {t u : Tm} (ht : wf t) (hu : wf u) (h : en t ≠ en u) : ∃ i, i < sz t ∧ i < sz u ∧ (∀ j, j < i → (en t)[j]? = (en u)[j]?) ∧ (en t)[i]? ≠ (en u)[i]? := by
  rcases list_diff (en t) (en u) with q | ⟨x, q⟩ | ⟨x, q⟩
  · exact q
  · exact absurd (congrArg en (en_inj t ht u hu x [] (by rw [q, List.append_nil])).1) h
  · exact absurd (congrArg en (en_inj u hu t ht x [] (by rw [q, List.append_nil])).1).symm h
section
variable {d : Nat} {A : AT} {M : PM} {a b c e f : Int32} {v : Int64}
theorem c_alike2 {p q : Nat} {t u : Tm} (hd : 2 ≤ d) (ht : wf t) (hu : wf u) (hA : At (M.1 7) p (en t)) (hB : At (M.1 7) q (en u)) (hs : sz t ≤ 40) (hp : p + sz t ≤ 3760) (hq : q + sz u ≤ 3760) :
    pcl GG lay d 235 [.ref 6, .int (jn p), .int (jn q)] M = rI (bI (en t = en u)) M := by
  by_cases h : en t = en u
  · exact c_alike hd ht hu hA hB hs hp (by rw [show sz t = sz u from congrArg List.length h]; exact hq)
  obtain ⟨i0, g1, g2, g3, g4⟩ := first_diff ht hu h
  obtain ⟨d, rfl⟩ := ex_add hd
  rw [q_235, bI_n h]
  have rd : ∀ i, i < sz t → i < sz u → (M.1 7 (p + i) = M.1 7 (q + i)) = ((en t)[i]? = (en u)[i]?) := fun i h1 h2 => by
    rw [At_sz.mp hA i h1, At_sz.mp hB i h2, Option.some.injEq]
  have key := pre_loop (f := fun i => M.1 7 (p + i)) (B := sz t) (G := fun i o => (o < 5000 - 2 * (40 - i) ∧ i ≤ sz t) ∧ ((i ≤ i0 ∧ ∃ u5, E_235 (d + 1) (5, [some (.ref 6), some (.int (jn p)), some (.int (jn q)), some (.int (jn 1)), some (.int (jn 0)), none], [], M) = E_235 (d + 1) (5, [some (.ref 6), some (.int (jn p)), some (.int (jn q)), some (.int (jn o)), some (.int (jn i)), u5], [], M)) ∨ E_235 (d + 1) (5, [some (.ref 6), some (.int (jn p)), some (.int (jn q)), some (.int (jn 1)), some (.int (jn 0)), none], [], M) = rI (jn 0) M)) ?_ t ht 0 0 ?_ (by omega) ⟨⟨by omega, by omega⟩, Or.inl ⟨by omega, _, rfl⟩⟩
  · obtain ⟨-, ⟨h1, -⟩ | h1⟩ := key
    · omega
    · exact h1
  · rintro i o hi hsg ⟨ho, ⟨hle, u5, hE⟩ | hE⟩
    · have harn := arN_le (M.1 7 (p + i))
      refine ⟨⟨by have := ho.1; omega, by omega⟩, ?_⟩
      have hrd := rd i hi (by omega)
      by_cases e : i = i0
      · refine Or.inr ?_
        subst e
        have e2 : ¬ M.1 7 (p + i) = M.1 7 (q + i) := by rw [hrd]; exact g4
        rw [hE, h_235_5, ilt_pos (by omega) (by omega), ilt_pos (by omega) (by omega), jn_add, c_at (by omega) (by omega), kI_r, jn_add, c_at (by omega) (by omega), kI_r, if_neg e2, rZ_0]
      · refine Or.inl ⟨by omega, some (.int (M.1 7 (p + i))), ?_⟩
        have e2 : M.1 7 (p + i) = M.1 7 (q + i) := by rw [hrd]; exact g3 i (by omega)
        rw [hE, h_235_5, ilt_pos (by omega) (by omega), ilt_pos (by omega) (by omega), jn_add, c_at (by omega) (by omega), kI_r, jn_add, c_at (by omega) (by omega), kI_r, if_pos e2, c_arity (by omega), kI_r, arR_due hsg, jn_add]
    · have harn := arN_le (M.1 7 (p + i))
      exact ⟨⟨by have := ho.1; omega, by omega⟩, Or.inr hE⟩
  · rw [At_sz] at *
    intro i hi
    simpa using hA i hi
theorem c_fill {x n : Nat} (hd : 1 ≤ d) (hx : lay[x]? = some (.inr (false, n))) (hn : n < 1000000) : pcl GG lay d 274 [.ref x, .int a] M = rV (sI M x (fun i => if i < n then a else M.1 x i)) := by
  obtain ⟨d, rfl⟩ := ex_add hd
  have key : ∀ m k, k + m = n → E_274 d (5, [some (.ref x), some (.int a), some (.int (jn k)), some (.int (jn n))], [], sI M x (fun i => if i < k then a else M.1 x i)) = rV (sI M x (fun i => if i < n then a else M.1 x i)) := by
    intro m
    induction m with
    | zero =>
      intro k hk
      obtain rfl : k = n := by omega
      rw [h_274_5, ilt_neg (by omega) (by omega)]
    | succ m ih =>
      intro k hk
      rw [h_274_5, ilt_pos (by omega) (by omega), ast_n hx (by omega) (by omega), oB_s, sI_sI, sI_k, jn_add]
      have : va_up (fun i => if i < k then a else M.1 x i) k a = fun i => if i < k + 1 then a else M.1 x i := by
        funext i
        rw [up_at]
        by_cases e : i = k
        · rw [if_pos e, if_pos (by omega)]
        · rw [if_neg e]
          by_cases e2 : i < k
          · rw [if_pos e2, if_pos (by omega)]
          · rw [if_neg e2, if_neg (by omega)]
      rw [this]
      exact ih (k + 1) (by omega)
  rw [q_274, alen_n hx, oB_s]
  have := key n 0 (by omega)
  rwa [show (fun i => if i < 0 then a else M.1 x i) = M.1 x by funext i; rw [if_neg (by omega)], sI_self] at this
def cmB (T : Nat) (c : Int32) : Bool := decide (is2 c) && T.testBit (c.toInt.toNat - 105)
theorem may_all : ∀ T, T < 16 → ∀ k, k < 4 → ((jn T >>> ((jn (105 + k) - jn 105) &&& 31)) &&& jn 1 = jn 0 ↔ T.testBit k = false) ∧ ((jn T >>> ((jn (105 + k) - jn 105) &&& 31)) &&& jn 1 = jn 1 ↔ T.testBit k = true) := by decide +kernel
theorem may_bit {T : Nat} {c : Int32} (hT : T < 16) (h : is2 c) : ((jn T >>> ((c - jn 105) &&& 31)) &&& jn 1 = jn 0) = (cmB T c = false) ∧ ((jn T >>> ((c - jn 105) &&& 31)) &&& jn 1 = jn 1) = (cmB T c = true) := by
  obtain ⟨k, hk, rfl⟩ := inn (a := c) (n := 109) (by omega)
  have h2 := h
  rw [is2, jn_toInt (by omega)] at h2
  have := may_all T hT (k - 105) (by omega)
  rw [show 105 + (k - 105) = k by omega] at this
  have e : cmB T (jn k) = T.testBit (k - 105) := by
    unfold cmB
    rw [decide_eq_true h, jn_toInt (by omega)]; rfl
  rw [e]
  exact ⟨propext this.1, propext this.2⟩
theorem c_may {T : Nat} (hd : 1 ≤ d) (hT : T < 16) (h : M.1 26 3 = jn T) : pcl GG lay d 190 [.ref 26, .int c] M = rI (bI (cmB T c = true)) M := by
  obtain ⟨d, rfl⟩ := ex_add hd
  rw [q_190, h]
  simp only [rZ_0, rZ_1]
  by_cases h2 : is2 c
  · rw [if_neg (by rw [jlt (by omega)]; omega), if_neg (by rw [jgt (by omega)]; omega)]
    simp only [(may_bit hT h2).1]
    by_cases h3 : cmB T c = true
    · rw [bI_1 h3, if_neg (by rw [h3]; simp)]
    · rw [bI_n h3, if_pos (by simpa using h3)]
  · have h3 : ¬ cmB T c = true := by unfold cmB; simp [h2]
    rw [bI_n h3]
    by_cases h4 : c < jn 105
    · rw [if_pos h4]
    · rw [if_neg h4, if_pos]
      rw [jlt (by omega)] at h4
      rw [jgt (by omega)]; omega
/-- what variables are bound to: places in the signs -/
def EB (lo hi : Nat) (e : EV) (M : PM) : Prop := ∀ v, v < 6 → match e v with
  | none => M.1 27 v = jz 1
  | some u => ∃ q, M.1 27 v = jn q ∧ wf u ∧ sz u ≤ 40 ∧ (lo ≤ q ∧ q + sz u ≤ hi) ∧ At (M.1 7) q (en u)
theorem EB_eq {lo hi : Nat} {e : EV} {M M' : PM} (h : EB lo hi e M) (h27 : M'.1 27 = M.1 27) (h7 : M'.1 7 = M.1 7) : EB lo hi e M' := by
  intro v hv
  have := h v hv
  rw [h27, h7]; exact this
theorem shr_all : ∀ w, w < 64 → ∀ s, s < 6 → ((jn w >>> (jn s &&& 31)) &&& jn 1 = jn 0 ↔ w.testBit s = false) := by decide +kernel
abbrev wayB (n w : Nat) : Nat → Bool := fun i => w.testBit (n - 1 - i)
/-- what the arguments face -/
theorem c_face {T n w k j P q : Nat} {a b : Tm} {x1 x2 : Tm} (hd : 4 ≤ d) (hT : T < 16) (hn : n ≤ 6) (hw : w < 64) (hj : cmB T c = true → j < n) (h3 : M.1 26 3 = jn T) (h4 : M.1 26 4 = jn n) (h5 : M.1 26 5 = jn j) (hc : is2 c) (ha : wf a) (hb : wf b) (hP : P + 40 ≤ 3760) (hk : k + (sz a + sz b + 1) ≤ 40) (hat : At (M.1 7) (P + k) (en (Nd c a b))) (hx1 : wf x1) (hx2 : wf x2) (hq : At (M.1 7) q (c :: (en x1 ++ en x2))) (hqs : q + (sz x1 + sz x2 + 1) ≤ 3760) :
    ∃ M', pcl GG lay d 192 [.ref 26, .int (jn P), .int (jn k), .int (jn q), .int (jn w)] M = rV M' ∧ Fr [26, 28] M M' ∧ M'.1 26 3 = jn T ∧ M'.1 26 4 = jn n ∧ M'.1 26 5 = jn (if cmB T c = true then j + 1 else j) ∧
      M'.1 28 = va_up (va_up (M.1 28) (k + 1) (jn (if cmB T c = true ∧ wayB n w j = true then q + 1 + sz x1 else q + 1))) (k + 1 + sz a) (jn (if cmB T c = true ∧ wayB n w j = true then q + 1 else q + 1 + sz x1)) := by
  obtain ⟨d, rfl⟩ := ex_add hd
  have szb := sz_pos b hb
  rw [en_2] at hat
  have hc0 : M.1 7 (P + k) = c := hat.1
  have hata := ((At_app _ _ _).mp hat.2).1
  have hqa := ((At_app _ _ _).mp hq.2).1
  rw [q_192, jn_add, c_at (by omega) (by omega), kI_r, hc0, c_arity (by omega), kI_r, arR_2 hc, ieq_neg (by omega) (by omega) (by omega), h_192_38, ilt_neg (by omega) (by omega), jn_add, jn_add, c_end (by omega) ha hata (by omega), kI_r, c_may (by omega) hT h3, kI_r, jn_sub (by omega), show P + k + 1 + sz a - P = k + 1 + sz a by omega]
  by_cases hm : cmB T c = true
  · have hjn := hj hm
    rw [bI_1 hm, ieq_neg (by omega) (by omega) (by omega), wr_e, h5, jn_add]
    have e4 : ∀ f, (sI M 26 (va_up (M.1 26) 5 f)).1 26 4 = jn n := fun f => by rw [sI_k, up_at, if_neg (by omega)]; exact h4
    have e5 : ∀ f, (sI M 26 (va_up (M.1 26) 5 f)).1 26 5 = f := fun f => by rw [sI_k, up_at, if_pos rfl]
    have e3 : ∀ f, (sI M 26 (va_up (M.1 26) 5 f)).1 26 3 = jn T := fun f => by rw [sI_k, up_at, if_neg (by omega)]; exact h3
    rw [e4, e5, jn_sub (by omega)]
    have hbit := shr_all w hw (n - (j + 1)) (by omega)
    simp only [hbit, hm, true_and, if_true]
    have hwb : wayB n w j = w.testBit (n - (j + 1)) := by unfold wayB; congr 1; omega
    rw [hwb]
    have qa : At ((sI M 26 (va_up (M.1 26) 5 (jn (j + 1)))).1 7) (q + 1) (en x1) := hqa
    by_cases hbt : w.testBit (n - (j + 1)) = true
    · rw [if_neg (by rw [hbt]; simp), h_192_107, ieq_neg (by omega) (by omega) (by omega), jn_add, c_end (by omega) hx1 qa (by omega), kI_r, jn_add, c_put (n := 40) (by omega) rfl (by omega) (by omega), kV_r, ieq_neg (by omega) (by omega) (by omega), c_put (n := 40) (by omega) rfl (by omega) (by omega), kV_r, sI_sI, sI_k, sI_o _ _ (by omega)]
      refine ⟨_, rfl, (Fr.sI (k := 26) (by decide)).trans (Fr.sI (k := 28) (by decide)), e3 (jn (j + 1)), e4 (jn (j + 1)), e5 (jn (j + 1)), ?_⟩
      rw [sI_k, if_pos hbt, if_pos hbt]
    · rw [if_pos (by simpa using hbt), h_192_107, ieq_pos rfl, jn_add, jn_add, c_put (n := 40) (by omega) rfl (by omega) (by omega), kV_r, ieq_pos rfl]
      have qa2 : At ((sI (sI M 26 (va_up (M.1 26) 5 (jn (j + 1)))) 28 (va_up ((sI M 26 (va_up (M.1 26) 5 (jn (j + 1)))).1 28) (k + 1) (jn (q + 1)))).1 7) (q + 1) (en x1) := hqa
      rw [c_end (by omega) hx1 qa2 (by omega), kI_r, c_put (n := 40) (by omega) rfl (by omega) (by omega), kV_r, sI_sI, sI_k, sI_o _ _ (by omega)]
      refine ⟨_, rfl, (Fr.sI (k := 26) (by decide)).trans (Fr.sI (k := 28) (by decide)), e3 (jn (j + 1)), e4 (jn (j + 1)), e5 (jn (j + 1)), ?_⟩
      rw [sI_k, if_neg hbt, if_neg hbt]
  · rw [bI_n hm, ieq_pos rfl, h_192_107, ieq_pos rfl, jn_add, jn_add, c_put (n := 40) (by omega) rfl (by omega) (by omega), kV_r, ieq_pos rfl]
    have qa2 : At ((sI M 28 (va_up (M.1 28) (k + 1) (jn (q + 1)))).1 7) (q + 1) (en x1) := hqa
    rw [c_end (by omega) hx1 qa2 (by omega), kI_r, c_put (n := 40) (by omega) rfl (by omega) (by omega), kV_r, sI_sI, sI_k]
    refine ⟨_, rfl, Fr.sI (k := 28) (by decide), h3, h4, ?_, ?_⟩
    · rw [if_neg hm]; exact h5
    · rw [sI_k, if_neg (fun q => hm q.1), if_neg (fun q => hm q.1)]
theorem c_face1 {T k P q : Nat} {a : Tm} {w : Int32} (hd : 4 ≤ d) (hc : is1 c) (hP : P + 40 ≤ 3760) (hk : k + (sz a + 1) ≤ 40) (ha : wf a) (hat : At (M.1 7) (P + k) (en (Nd c a Lf))) (hq : q < 3760) :
    pcl GG lay d 192 [.ref 26, .int (jn P), .int (jn k), .int (jn q), .int w] M = rV (sI M 28 (va_up (M.1 28) (k + 1) (jn (q + 1)))) := by
  obtain ⟨d, rfl⟩ := ex_add hd
  have sza := sz_pos a ha
  rw [en_1] at hat
  have hc0 : M.1 7 (P + k) = c := hat.1
  rw [q_192, jn_add, c_at (by omega) (by omega), kI_r, hc0, c_arity (by omega), kI_r, arR_1 hc, ieq_pos rfl, jn_add, jn_add, c_put (n := 40) (by omega) rfl (by omega) (by omega), kV_r, h_192_38, ilt_pos (by omega) (by omega)]
theorem c_face0 {k P : Nat} {q w : Int32} (hd : 2 ≤ d) (hc : is0 c) (hp : P + k < 3760) (hat : M.1 7 (P + k) = c) :
    pcl GG lay d 192 [.ref 26, .int (jn P), .int (jn k), .int q, .int w] M = rV M := by
  obtain ⟨d, rfl⟩ := ex_add hd
  rw [q_192, jn_add, c_at (by omega) (by omega), kI_r, hat, c_arity (by omega), kI_r, arR_0 hc, ieq_neg (by omega) (by omega) (by omega), h_192_38, ilt_pos (by omega) (by omega)]
end
