/-! one attempt by a way; the search through the ways -/
theorem wf_cases {t : Tm} (h : wf t) : ∃ c x y, t = Nd c x y ∧ (is0 c ∧ x = Lf ∧ y = Lf ∨ is1 c ∧ wf x ∧ y = Lf ∨ is2 c ∧ wf x ∧ wf y) := by
  cases t with
  | leaf => exact h.elim
  | inner n c u x y =>
    obtain ⟨rfl, h⟩ := h
    exact ⟨c, x, y, rfl, h⟩
theorem en_n (c : Int32) (x y : Tm) : en (Nd c x y) = c :: (en x ++ en y) := rfl
theorem sz_n (c : Int32) (x y : Tm) : sz (Nd c x y) = sz x + sz y + 1 := by simp [sz, en]
theorem mtD_n {cm : Int32 → Bool} {w : Nat → Bool} {c c' : Int32} {a b x y : Tm} {e : EV} {k : Nat} (hv : ¬ isV c) : mtD cm w (Nd c a b) (Nd c' x y) e k = if c ≠ c' then (none, k) else if is2 c then
          (match mtD cm w a (if cm c = true ∧ w k = true then y else x) e (if cm c = true then k + 1 else k) with
            | (none, k') => (none, k')
            | (some e', k') => mtD cm w b (if cm c = true ∧ w k = true then x else y) e' k')
        else if is1 c then mtD cm w a x e k else (some e, k) := by
  show (if isV c then _ else _) = _
  rw [if_neg hv]
  rfl
theorem mtD_v {cm : Int32 → Bool} {w : Nat → Bool} {c : Int32} {a b t : Tm} {e : EV} {k : Nat} (hv : isV c) : mtD cm w (Nd c a b) t e k = (match e (vi c) with
      | none => (some (va_up e (vi c) (some t)), k)
      | some u => if en u = en t then (some e, k) else (none, k)) := by
  show (if isV c then _ else _) = _
  rw [if_pos hv]
  rfl
theorem vi_k {v : Nat} (h : v < 6) : vi (jn (117 + v)) = v := by
  unfold vi; rw [jn_toInt (by omega)]; omega
section
variable {d : Nat} {A : AT} {M : PM} {a b c e f : Int32} {v : Int64}
theorem att_go {T n w P S lo hi : Nat} {u3 : Option Value} (hhi : hi ≤ 3760) (hT : T < 16) (hn : n ≤ 6) (hw : w < 64) (hP : P + 40 ≤ 3760) (hS : S ≤ 40) : ∀ p, wf p → ∀ (t : Tm) (q k j : Nat) (e : EV) (M : PM) (u6 u7 : Option Value), wf t → sz t ≤ 40 → (lo ≤ q ∧ q + sz t ≤ hi) → At (M.1 7) q (en t) → At (M.1 7) (P + k) (en p) → k + sz p ≤ S → M.1 28 k = jn q → EB lo hi e M → M.1 26 3 = jn T → M.1 26 4 = jn n → M.1 26 5 = jn j → j + tn (cmB T) p ≤ n →
    ∃ M', Fr [26, 27, 28] M M' ∧ M'.1 26 3 = jn T ∧ M'.1 26 4 = jn n ∧ M'.1 26 5 = jn (mtD (cmB T) (wayB n w) p t e j).2 ∧
      (match (mtD (cmB T) (wayB n w) p t e j).1 with
        | none => E_191 (d + 5) (25, [some (.ref 26), some (.int (jn P)), some (.int (jn S)), u3, some (.int (jn w)), some (.int (jn k)), u6, u7], [], M) = rI (jn 0) M'
        | some e' => EB lo hi e' M' ∧ (∀ i, (i < k ∨ k + sz p ≤ i) → M'.1 28 i = M.1 28 i) ∧ ∃ u6' u7', E_191 (d + 5) (25, [some (.ref 26), some (.int (jn P)), some (.int (jn S)), u3, some (.int (jn w)), some (.int (jn k)), u6, u7], [], M) = E_191 (d + 5) (25, [some (.ref 26), some (.int (jn P)), some (.int (jn S)), u3, some (.int (jn w)), some (.int (jn (k + sz p))), u6', u7'], [], M')) := by
  -- a sign that is no variable, and isn't the same
  have mism : ∀ (p t : Tm) (c c' : Int32) (a b x y : Tm), p = Nd c a b → t = Nd c' x y → ¬ isV c → c ≠ c' → ∀ (q k j : Nat) (e : EV) (M : PM) (u6 u7 : Option Value), q + sz t ≤ 3760 → At (M.1 7) q (en t) → At (M.1 7) (P + k) (en p) → k + sz p ≤ S → M.1 28 k = jn q → M.1 26 3 = jn T → M.1 26 4 = jn n → M.1 26 5 = jn j → 0 < sz p →
      ∃ M', Fr [26, 27, 28] M M' ∧ M'.1 26 3 = jn T ∧ M'.1 26 4 = jn n ∧ M'.1 26 5 = jn (mtD (cmB T) (wayB n w) p t e j).2 ∧
      (match (mtD (cmB T) (wayB n w) p t e j).1 with
        | none => E_191 (d + 5) (25, [some (.ref 26), some (.int (jn P)), some (.int (jn S)), u3, some (.int (jn w)), some (.int (jn k)), u6, u7], [], M) = rI (jn 0) M'
        | some e' => EB lo hi e' M' ∧ (∀ i, (i < k ∨ k + sz p ≤ i) → M'.1 28 i = M.1 28 i) ∧ ∃ u6' u7', E_191 (d + 5) (25, [some (.ref 26), some (.int (jn P)), some (.int (jn S)), u3, some (.int (jn w)), some (.int (jn k)), u6, u7], [], M) = E_191 (d + 5) (25, [some (.ref 26), some (.int (jn P)), some (.int (jn S)), u3, some (.int (jn w)), some (.int (jn (k + sz p))), u6', u7'], [], M')) := by
    rintro p t c c' a b x y rfl rfl hv hcc q k j e M u6 u7 hq hqa hpa hk h28 h3 h4 h5 hsz
    rw [mtD_n hv, if_pos hcc]
    rw [sz_n] at hq hk
    refine ⟨M, Fr.rf, h3, h4, h5, ?_⟩
    simp only
    rw [h_191_25, ilt_pos (by omega) (by omega), jn_add, c_at (by omega) (by omega), kI_r, show M.1 7 (P + k) = c from hpa.1, c_get (n := 40) (by omega) rfl (by omega) (by omega), kI_r, h28, c_isV (by omega), kI_r, bI_n hv, ieq_pos rfl, c_at (by omega) (by omega), kI_r, show M.1 7 q = c' from hqa.1, if_neg (fun h => hcc h.symm), rZ_0]
  refine wf_ind (fun c hc => ?_) (fun c a hc ha iha => ?_) (fun c a b hc ha hb iha ihb => ?_)
  · intro t q k j e M u6 u7 ht hts hq hqa hpa hk h28 hE h3 h4 h5 hj
    rw [sz_0] at *
    by_cases hv : isV c
    · -- a variable
      obtain ⟨v, hv6, rfl⟩ := isV_k hv
      rw [mtD_v hv, vi_k hv6]
      have hb := hE v hv6
      have st : E_191 (d + 5) (25, [some (.ref 26), some (.int (jn P)), some (.int (jn S)), u3, some (.int (jn w)), some (.int (jn k)), u6, u7], [], M) = (if M.1 27 v = jz 1 then E_191 (d + 5) (25, [some (.ref 26), some (.int (jn P)), some (.int (jn S)), u3, some (.int (jn w)), some (.int (jn (k + 1))), some (.int (jn (117 + v))), some (.int (jn q))], [], sI M 27 (va_up (M.1 27) v (jn q))) else kI (pcl GG lay (d + 5) 235 [.ref 6, .int (M.1 27 v), .int (jn q)] M) fun r6 M6 => if r6 = jn 0 then rZ (jn 0) M6 else E_191 (d + 5) (25, [some (.ref 26), some (.int (jn P)), some (.int (jn S)), u3, some (.int (jn w)), some (.int (jn k + jn 1)), some (.int (jn (117 + v))), some (.int (jn q))], [], M6)) := by
        rw [h_191_25, ilt_pos (by omega) (by omega), jn_add, c_at (by omega) (by omega), kI_r, show M.1 7 (P + k) = jn (117 + v) from hpa.1, c_get (n := 40) (by omega) rfl (by omega) (by omega), kI_r, h28, c_isV (by omega), kI_r, bI_1 hv, ieq_neg (by omega) (by omega) (by omega), jn_sub (by omega), Nat.add_sub_cancel_left, c_get (n := 6) (by omega) rfl hv6 (by omega), kI_r, c_put (n := 6) (by omega) rfl hv6 (by omega), kV_r, c_get (n := 6) (by omega) rfl hv6 (by omega), kI_r, jn_add]
      cases he : e v with
      | none =>
        rw [he] at hb
        simp only at hb ⊢
        rw [st, if_pos hb]
        refine ⟨_, Fr.sI (k := 27) (by decide), h3, h4, h5, fun v' hv' => ?_, fun _ _ => rfl, _, _, rfl⟩
        rw [up_at, sI_k, up_at]
        by_cases e2 : v' = v
        · rw [if_pos e2, if_pos e2]; exact ⟨q, rfl, ht, hts, hq, hqa⟩
        · rw [if_neg e2, if_neg e2]; exact hE v' hv'
      | some u =>
        rw [he] at hb
        obtain ⟨q2, b1, b2, b3, b4, b5⟩ := hb
        simp only
        rw [st, b1, if_neg (show ¬ jn q2 = jz 1 by rw [jn_jz (by omega) (by omega)]; exact id), c_alike2 (by omega) b2 ht b5 hqa b3 (by omega) (by omega), kI_r]
        refine ⟨M, Fr.rf, h3, h4, ?_, ?_⟩
        · split <;> exact h5
        · by_cases huu : en u = en t
          · rw [if_pos huu, bI_1 huu, ieq_neg (by omega) (by omega) (by omega), jn_add]
            exact ⟨hE, fun _ _ => rfl, _, _, rfl⟩
          · rw [if_neg huu, bI_n huu, ieq_pos rfl, rZ_0]
    · obtain ⟨c', x, y, rfl, hx⟩ := wf_cases ht
      by_cases hcc : c ≠ c'
      · exact mism (Nd c Lf Lf) (Nd c' x y) c c' Lf Lf x y rfl rfl hv hcc q k j e M u6 u7 (by omega) hqa hpa hk h28 h3 h4 h5 (by rw [sz_0]; omega)
      have hcc : c = c' := Classical.byContradiction hcc
      subst hcc
      rw [mtD_n hv, if_neg (not_not_intro rfl), if_neg (show ¬ is2 c by omega), if_neg (show ¬ is1 c by omega)]
      rw [sz_n] at hq
      refine ⟨M, Fr.rf, h3, h4, h5, hE, fun _ _ => rfl, some (.int c), some (.int (jn q)), ?_⟩
      rw [h_191_25, ilt_pos (by omega) (by omega), jn_add, c_at (by omega) (by omega), kI_r, show M.1 7 (P + k) = c from hpa.1, c_get (n := 40) (by omega) rfl (by omega) (by omega), kI_r, h28, c_isV (by omega), kI_r, bI_n hv, ieq_pos rfl, c_at (by omega) (by omega), kI_r, show M.1 7 q = c from hqa.1, if_pos rfl, c_face0 (by omega) hc (by omega) hpa.1, kV_r, jn_add]
  · intro t q k j e M u6 u7 ht hts hq hqa hpa hk h28 hE h3 h4 h5 hj
    have hv : ¬ isV c := by omega
    have h2 : ¬ is2 c := by omega
    have sza := sz_pos a ha
    obtain ⟨c', x, y, rfl, hx⟩ := wf_cases ht
    by_cases hcc : c ≠ c'
    · exact mism (Nd c a Lf) (Nd c' x y) c c' a Lf x y rfl rfl hv hcc q k j e M u6 u7 (by omega) hqa hpa hk h28 h3 h4 h5 (by rw [sz_1]; omega)
    have hcc : c = c' := Classical.byContradiction hcc
    subst hcc
    have hxy : wf x ∧ y = Lf := by
      rcases hx with q | q | q
      · omega
      · exact q.2
      · omega
    clear hx
    obtain ⟨hx, rfl⟩ := hxy
    have e0 : tn (cmB T) (Nd c a Lf) = tn (cmB T) a := by simp only [tn, h2, false_and, if_false]; omega
    rw [e0] at hj
    rw [mtD_n hv, if_neg (not_not_intro rfl), if_neg h2, if_pos hc]
    rw [sz_1] at hk hq hts ⊢
    have st : E_191 (d + 5) (25, [some (.ref 26), some (.int (jn P)), some (.int (jn S)), u3, some (.int (jn w)), some (.int (jn k)), u6, u7], [], M) = E_191 (d + 5) (25, [some (.ref 26), some (.int (jn P)), some (.int (jn S)), u3, some (.int (jn w)), some (.int (jn (k + 1))), some (.int c), some (.int (jn q))], [], sI M 28 (va_up (M.1 28) (k + 1) (jn (q + 1)))) := by
      rw [h_191_25, ilt_pos (by omega) (by omega), jn_add, c_at (by omega) (by omega), kI_r, show M.1 7 (P + k) = c from hpa.1, c_get (n := 40) (by omega) rfl (by omega) (by omega), kI_r, h28, c_isV (by omega), kI_r, bI_n hv, ieq_pos rfl, c_at (by omega) (by omega), kI_r, show M.1 7 q = c from hqa.1, if_pos rfl, c_face1 (a := a) (T := T) (by omega) hc (by omega) (by omega) ha hpa (by omega), kV_r, jn_add]
    rw [en_1] at hqa hpa
    obtain ⟨M', f1, f2, f3, f4, f5⟩ := iha x (q + 1) (k + 1) j e (sI M 28 (va_up (M.1 28) (k + 1) (jn (q + 1)))) (some (.int c)) (some (.int (jn q))) hx (by omega) (by omega) hqa.2 (by rw [← Nat.add_assoc]; exact hpa.2) (by omega) (by rw [sI_k, up_at, if_pos rfl]) (EB_eq hE rfl rfl) h3 h4 h5 hj
    refine ⟨M', (Fr.sI (by decide)).trans f1, f2, f3, f4, ?_⟩
    rw [st]
    cases hq2 : (mtD (cmB T) (wayB n w) a x e j).1 with
    | none => rw [hq2] at f5; exact f5
    | some e' =>
      rw [hq2] at f5
      obtain ⟨g1, g2, u6', u7', g3⟩ := f5
      refine ⟨g1, fun i hi => ?_, u6', u7', ?_⟩
      · rw [g2 i (by omega), sI_k, up_at, if_neg (by omega)]
      · rw [g3, show k + 1 + sz a = k + (sz a + 1) by omega]
  · intro t q k j e M u6 u7 ht hts hq hqa hpa hk h28 hE h3 h4 h5 hj
    have hv : ¬ isV c := by omega
    have sza := sz_pos a ha
    have szb := sz_pos b hb
    obtain ⟨c', x, y, rfl, hx⟩ := wf_cases ht
    by_cases hcc : c ≠ c'
    · exact mism (Nd c a b) (Nd c' x y) c c' a b x y rfl rfl hv hcc q k j e M u6 u7 (by omega) hqa hpa hk h28 h3 h4 h5 (by rw [sz_2]; omega)
    have hcc : c = c' := Classical.byContradiction hcc
    subst hcc
    have hx : wf x ∧ wf y := by
      rcases hx with q | q | q
      · omega
      · omega
      · exact q.2
    obtain ⟨hx, hy⟩ := hx
    have e0 : tn (cmB T) (Nd c a b) = (if cmB T c = true then 1 else 0) + tn (cmB T) a + tn (cmB T) b := by
      show (if is2 c ∧ cmB T c = true then 1 else 0) + _ + _ = _
      by_cases hm : cmB T c = true
      · rw [if_pos ⟨hc, hm⟩, if_pos hm]
      · rw [if_neg (fun q => hm q.2), if_neg hm]
    rw [e0] at hj
    rw [mtD_n hv, if_neg (not_not_intro rfl), if_pos hc]
    rw [sz_2] at hk hq hts ⊢
    obtain ⟨M1, m1, m2, m3, m4, m5, m6⟩ := c_face (d := d + 5) (M := M) (T := T) (n := n) (w := w) (k := k) (j := j) (P := P) (q := q) (a := a) (b := b) (x1 := x) (x2 := y) (c := c) (by omega) hT hn hw (fun hm => by rw [if_pos hm] at hj; omega) h3 h4 h5 hc ha hb hP (by omega) hpa hx hy hqa (by omega)
    have st : E_191 (d + 5) (25, [some (.ref 26), some (.int (jn P)), some (.int (jn S)), u3, some (.int (jn w)), some (.int (jn k)), u6, u7], [], M) = E_191 (d + 5) (25, [some (.ref 26), some (.int (jn P)), some (.int (jn S)), u3, some (.int (jn w)), some (.int (jn (k + 1))), some (.int c), some (.int (jn q))], [], M1) := by
      rw [h_191_25, ilt_pos (by omega) (by omega), jn_add, c_at (by omega) (by omega), kI_r, show M.1 7 (P + k) = c from hpa.1, c_get (n := 40) (by omega) rfl (by omega) (by omega), kI_r, h28, c_isV (by omega), kI_r, bI_n hv, ieq_pos rfl, c_at (by omega) (by omega), kI_r, show M.1 7 q = c from hqa.1, if_pos rfl, m1, kV_r, jn_add]
    rw [en_2] at hqa hpa
    have hqx := ((At_app _ _ _).mp hqa.2).1
    have hqy := ((At_app _ _ _).mp hqa.2).2
    have hpA := ((At_app _ _ _).mp hpa.2).1
    have hpB := ((At_app _ _ _).mp hpa.2).2
    have s7 : M1.1 7 = M.1 7 := m2.1 7 (by decide)
    -- what the first and the second argument of the pattern face
    have fx : ∃ q1, M1.1 28 (k + 1) = jn q1 ∧ (lo ≤ q1 ∧ q1 + sz (if cmB T c = true ∧ wayB n w j = true then y else x) ≤ hi) ∧ wf (if cmB T c = true ∧ wayB n w j = true then y else x) ∧ sz (if cmB T c = true ∧ wayB n w j = true then y else x) ≤ 40 ∧ At (M.1 7) q1 (en (if cmB T c = true ∧ wayB n w j = true then y else x)) := by
      rw [m6]
      simp only [up_at]
      rw [if_neg (by omega), if_pos trivial]
      by_cases hh : cmB T c = true ∧ wayB n w j = true
      · simp only [if_pos hh]; exact ⟨_, rfl, by omega, hy, by omega, hqy⟩
      · simp only [if_neg hh]; exact ⟨_, rfl, by omega, hx, by omega, hqx⟩
    have fy : ∃ q2, M1.1 28 (k + 1 + sz a) = jn q2 ∧ (lo ≤ q2 ∧ q2 + sz (if cmB T c = true ∧ wayB n w j = true then x else y) ≤ hi) ∧ wf (if cmB T c = true ∧ wayB n w j = true then x else y) ∧ sz (if cmB T c = true ∧ wayB n w j = true then x else y) ≤ 40 ∧ At (M.1 7) q2 (en (if cmB T c = true ∧ wayB n w j = true then x else y)) := by
      rw [m6]
      simp only [up_at]
      rw [if_pos trivial]
      by_cases hh : cmB T c = true ∧ wayB n w j = true
      · simp only [if_pos hh]; exact ⟨_, rfl, by omega, hx, by omega, hqx⟩
      · simp only [if_neg hh]; exact ⟨_, rfl, by omega, hy, by omega, hqy⟩
    have f28 : ∀ i, (i < k + 1 ∨ k + 1 + sz a + sz b ≤ i) → M1.1 28 i = M.1 28 i := fun i hi => by
      rw [m6, up_at, if_neg (by omega), up_at, if_neg (by omega)]
    generalize (if cmB T c = true ∧ wayB n w j = true then y else x) = X at fx ⊢
    generalize (if cmB T c = true ∧ wayB n w j = true then x else y) = Y at fy ⊢
    obtain ⟨q1, x1, x2, x3, x4, x5⟩ := fx
    obtain ⟨q2, y1, y2, y3, y4, y5⟩ := fy
    have jj : (if cmB T c = true then j + 1 else j) = j + (if cmB T c = true then 1 else 0) := by split <;> omega
    obtain ⟨M2, f1, f2, f3, f4, f5⟩ := iha X q1 (k + 1) (if cmB T c = true then j + 1 else j) e M1 (some (.int c)) (some (.int (jn q))) x3 x4 x2 (by rw [s7]; exact x5) (by rw [s7, ← Nat.add_assoc]; exact hpA) (by omega) x1 (EB_eq hE (m2.1 27 (by decide)) s7) m3 m4 m5 (by omega)
    have hbd := mtD_bd (cm := cmB T) (w := wayB n w) a ha X e (if cmB T c = true then j + 1 else j)
    rw [st]
    cases hq2 : mtD (cmB T) (wayB n w) a X e (if cmB T c = true then j + 1 else j) with
    | mk r j' =>
      rw [hq2] at f4 f5 hbd
      cases r with
      | none => exact ⟨M2, (m2.mono (by decide)).trans f1, f2, f3, f4, f5⟩
      | some e' =>
        simp only at f4 f5 hbd ⊢
        obtain ⟨g1, g2, u6', u7', g3⟩ := f5
        have s72 : M2.1 7 = M.1 7 := (f1.1 7 (by decide)).trans s7
        obtain ⟨M3, r1, r2, r3, r4, r5⟩ := ihb Y q2 (k + 1 + sz a) j' e' M2 u6' u7' y3 y4 y2 (by rw [s72]; exact y5) (by rw [s72, show P + (k + 1 + sz a) = P + k + 1 + (en a).length by show _ = P + k + 1 + sz a; omega]; exact hpB) (by omega) (by rw [g2 _ (by omega)]; exact y1) g1 f2 f3 f4 (by omega)
        refine ⟨M3, ((m2.mono (by decide)).trans f1).trans r1, r2, r3, r4, ?_⟩
        rw [g3]
        cases hq3 : (mtD (cmB T) (wayB n w) b Y e' j').1 with
        | none => rw [hq3] at r5; exact r5
        | some e2 =>
          rw [hq3] at r5
          obtain ⟨p1, p2, v6, v7, p3⟩ := r5
          refine ⟨p1, fun i hi => ?_, v6, v7, ?_⟩
          · rw [p2 i (by omega), g2 i (by omega), f28 i (by omega)]
          · rw [p3, show k + 1 + sz a + sz b = k + (sz a + sz b + 1) by omega]
end
