/-! what the model builds, and what it puts into its tree -/
section
variable {d : Nat} {A : AT} {M : PM} {a b c f : Int32} {v : Int64} {e : EV}
abbrev BM (M : PM) (L : Nat) (g : Nat → Int32) : PM := sI (sI M 52 (va_up (M.1 52) 26 (jn L))) 69 g
theorem va_up2 {α : Type} (f : Nat → α) (k : Nat) (x y : α) : va_up (va_up f k x) k y = va_up f k y := by
  funext j
  rw [up_at, up_at, up_at]
  by_cases h : j = k
  · rw [if_pos h, if_pos h]
  · rw [if_neg h, if_neg h, if_neg h]
theorem sI_comm (M : PM) {k l : Nat} (h : k ≠ l) (f g : Nat → Int32) : sI (sI M k f) l g = sI (sI M l g) k f := by
  refine Prod.ext ?_ rfl
  funext j
  show (if j = l then g else if j = k then f else M.1 j) = (if j = k then f else if j = l then g else M.1 j)
  by_cases h1 : j = l
  · rw [if_pos h1, if_neg (by omega), if_pos h1]
  · rw [if_neg h1, if_neg h1]
theorem BM_up (M : PM) (L : Nat) (g : Nat → Int32) (c : Int32) : sI (sI (BM M L g) 52 (va_up ((BM M L g).1 52) 26 (jn (L + 1)))) 69 (va_up g L c) = BM M (L + 1) (va_up g L c) := by
  have e1 : (BM M L g).1 52 = va_up (M.1 52) 26 (jn L) := rfl
  rw [e1, va_up2, sI_comm _ (by omega), sI_sI, BM, sI_comm _ (by omega), sI_sI]
/-- a match binds what the pattern names -/
theorem ms_bind {cm : Int32 → Bool} : ∀ p, wf p → ∀ t e e', e' ∈ ms cm p t e → (∀ v, e v ≠ none → e' v ≠ none) ∧ ∀ c, isV c → c ∈ en p → e' (vi c) ≠ none := by
  have up : ∀ (e : EV) (k : Nat) (t : Tm), (∀ v, e v ≠ none → (va_up e k (some t)) v ≠ none) ∧ (va_up e k (some t)) k ≠ none := fun e k t => ⟨fun v hv => by
    rw [up_at]
    by_cases h : v = k
    · rw [if_pos h]; simp
    · rw [if_neg h]; exact hv, by rw [up_at, if_pos rfl]; simp⟩
  have two : ∀ {a b : Tm} {t1 t2 : Tm} {e e' : EV}, (∀ t e e', e' ∈ ms cm a t e → (∀ v, e v ≠ none → e' v ≠ none) ∧ ∀ c, isV c → c ∈ en a → e' (vi c) ≠ none) → (∀ t e e', e' ∈ ms cm b t e → (∀ v, e v ≠ none → e' v ≠ none) ∧ ∀ c, isV c → c ∈ en b → e' (vi c) ≠ none) → e' ∈ (ms cm a t1 e).flatMap (fun e' => ms cm b t2 e') → (∀ v, e v ≠ none → e' v ≠ none) ∧ ∀ c, isV c → c ∈ en a ++ en b → e' (vi c) ≠ none := by
    intro a b t1 t2 e e' iha ihb h
    obtain ⟨e1, h1, h2⟩ := List.mem_flatMap.mp h
    have k1 := iha _ _ _ h1
    have k2 := ihb _ _ _ h2
    refine ⟨fun v hv => k2.1 v (k1.1 v hv), fun c hc hm => ?_⟩
    rcases List.mem_append.mp hm with hm | hm
    · exact k2.1 _ (k1.2 c hc hm)
    · exact k2.2 c hc hm
  refine wf_ind (fun c hc => ?_) (fun c a hc ha iha => ?_) (fun c a b hc ha hb iha ihb => ?_)
  · intro t e e' h
    unfold ms at h
    by_cases hv : isV c
    · rw [if_pos hv] at h
      have cmem : ∀ x, x ∈ en (Nd c Lf Lf) → x = c := fun x hx => by rw [en_0, List.mem_singleton] at hx; exact hx
      cases he : e (vi c) with
      | none =>
        rw [he] at h
        simp only [List.mem_singleton] at h
        subst h
        exact ⟨(up e (vi c) t).1, fun x _ hx => by rw [cmem x hx]; exact (up e (vi c) t).2⟩
      | some u =>
        rw [he] at h
        simp only at h
        by_cases hs : en u = en t
        · rw [if_pos hs, List.mem_singleton] at h
          subst h
          exact ⟨fun v hv => hv, fun x _ hx => by rw [cmem x hx, he]; simp⟩
        · rw [if_neg hs] at h; simp at h
    · rw [if_neg hv] at h
      have h2 : ¬ is2 c := by omega
      have h1 : ¬ is1 c := by omega
      cases t with
      | leaf => simp at h
      | inner n' c' u' t1 t2 =>
        simp only at h
        by_cases hcc : c ≠ c'
        · rw [if_pos hcc] at h; simp at h
        rw [if_neg hcc, if_neg h2, if_neg h1, List.mem_singleton] at h
        subst h
        exact ⟨fun v hv => hv, fun x hx1 hx => by rw [en_0, List.mem_singleton] at hx; rw [hx] at hx1; exact absurd hx1 hv⟩
  · intro t e e' h
    have hv : ¬ isV c := by omega
    have h2 : ¬ is2 c := by omega
    unfold ms at h
    rw [if_neg hv] at h
    cases t with
    | leaf => simp at h
    | inner n' c' u' t1 t2 =>
      simp only at h
      by_cases hcc : c ≠ c'
      · rw [if_pos hcc] at h; simp at h
      rw [if_neg hcc, if_neg h2, if_pos hc] at h
      have k := iha _ _ _ h
      refine ⟨k.1, fun x hx hm => ?_⟩
      rw [en_1, List.mem_cons] at hm
      rcases hm with rfl | hm
      · exact absurd hx hv
      · exact k.2 x hx hm
  · intro t e e' h
    have hv : ¬ isV c := by omega
    unfold ms at h
    rw [if_neg hv] at h
    cases t with
    | leaf => simp at h
    | inner n' c' u' t1 t2 =>
      simp only at h
      by_cases hcc : c ≠ c'
      · rw [if_pos hcc] at h; simp at h
      rw [if_neg hcc, if_pos hc, List.mem_append] at h
      have fin : (∀ v, e v ≠ none → e' v ≠ none) ∧ ∀ c, isV c → c ∈ en a ++ en b → e' (vi c) ≠ none := by
        rcases h with h | h
        · exact two iha ihb h
        · by_cases hm : cm c = true
          · rw [if_pos hm] at h; exact two iha ihb h
          · rw [if_neg hm] at h; simp at h
      refine ⟨fin.1, fun x hx hm => ?_⟩
      rw [en_2, List.mem_cons] at hm
      rcases hm with rfl | hm
      · exact absurd hx hv
      · exact fin.2 x hx hm
theorem mat_bind {cm : Nat} {p t : Tm} {e : EV} (hp : wf p) (h : mat cm p t = some e) {c : Int32} (hc : inV c p) : e (vi c) ≠ none := (ms_bind p hp t e0 e (List.mem_of_head? h)).2 c hc.1 hc.2
/-- builds: the right side with what is bound put in -/
theorem c_builds {l : Nat} {r : Tm} (hd : 5 ≤ d) (hl : l < 12) (hE : EM e M) (hB : ∀ c, inV c r → e (vi c) ≠ none) (hr : wf r) (hrs : sz r ≤ 40) (h55 : M.1 55 (2 * l + 1) = jn (sz r)) (hra : At (M.1 56) (80 * l + 40) (en r)) :
    ∃ g, pcl GG lay d 120 [.ref 52, .int (jn l)] M = rV (BM M (sz (sbT e r)) g) ∧ At g 0 (en (sbT e r)) := by
  obtain ⟨d, rfl⟩ := ex_add hd
  have hok : EVok e := fun v u hv hu => by
    have := hE v hv
    rw [hu] at this
    obtain ⟨q, -, h1, h2, -⟩ := this
    exact ⟨h1, h2⟩
  rw [q_120, wr_e]
  have hlen : ∀ k, (((en r).take k).flatMap (sbC e)).length ≤ 1600 := by
    intro k
    have := fm_le hok ((en r).take k)
    have h2 : ((en r).take k).length ≤ sz r := by rw [List.length_take]; exact Nat.min_le_right _ _
    omega
  have inner : ∀ (u : Tm) (q : Nat) (u3 : Option Value) (k L : Nat) (g0 : Nat → Int32), wf u → sz u ≤ 40 → q + sz u ≤ 8100 → At (M.1 65) q (en u) → L + sz u ≤ 1600 → ∀ m i g, i + m = sz u → (∀ j, j < L → g j = g0 j) → At g L ((en u).take i) → ∃ g', E_120 (d + 4) (88, [some (.ref 52), some (.int (jn l)), some (.int (jn k)), u3, some (.int (jn q)), some (.int (jn (sz u))), some (.int (jn i))], [], BM M (L + i) g) = E_120 (d + 4) (7, [some (.ref 52), some (.int (jn l)), some (.int (jn (k + 1))), u3, some (.int (jn q)), some (.int (jn (sz u))), some (.int (jn (sz u)))], [], BM M (L + sz u) g') ∧ (∀ j, j < L → g' j = g0 j) ∧ At g' L (en u) := by
    intro u q u3 k L g0 hu hus hqu hqa hL m
    induction m with
    | zero =>
      intro i g hi hg hat
      rw [h_120_88, ilt_neg (by omega) (by omega), show i = sz u by omega, jn_add]
      rw [List.take_of_length_le (by show sz u ≤ i; omega)] at hat
      exact ⟨g, rfl, hg, hat⟩
    | succ m ih =>
      intro i g hi hg hat
      have hc := At_sz.mp hqa i (by omega)
      have e26 : (BM M (L + i) g).1 52 26 = jn (L + i) := by show va_up (M.1 52) 26 (jn (L + i)) 26 = _; rw [up_at, if_pos rfl]
      have e65 : (sI (BM M (L + i) g) 52 (va_up ((BM M (L + i) g).1 52) 26 (jn (L + i + 1)))).1 65 = M.1 65 := rfl
      rw [h_120_88, ilt_pos (by omega) (by omega), e26, jn_add, wr_e, jn_add, ald_n (n := 8100) rfl (by omega) (by omega), oB_s, e65, ast_n (n := 1700) rfl (by omega) (by omega), oB_s]
      rw [show (sI (BM M (L + i) g) 52 (va_up ((BM M (L + i) g).1 52) 26 (jn (L + i + 1)))).1 69 = g from rfl, BM_up, jn_add]
      refine ih (i + 1) _ (by omega) (fun j hj => ?_) ?_
      · rw [up_at, if_neg (by omega)]; exact hg j hj
      · rw [List.take_add_one, hc, At_app]
        have hln : ((en u).take i).length = i := by rw [List.length_take]; exact Nat.min_eq_left (by show i ≤ sz u; omega)
        refine ⟨At_congr hat (fun j j1 j2 => by rw [up_at, if_neg (by omega)]), ?_⟩
        rw [hln]
        exact ⟨by rw [up_at, if_pos rfl], trivial⟩
  have key : ∀ m k u3 u4 u5 u6 g, k + m = sz r → At g 0 (((en r).take k).flatMap (sbC e)) → ∃ g', E_120 (d + 4) (7, [some (.ref 52), some (.int (jn l)), some (.int (jn k)), u3, u4, u5, u6], [], BM M (((en r).take k).flatMap (sbC e)).length g) = rV (BM M (sz (sbT e r)) g') ∧ At g' 0 (en (sbT e r)) := by
    intro m
    induction m with
    | zero =>
      intro k u3 u4 u5 u6 g hk hat
      have e55 : (BM M (((en r).take k).flatMap (sbC e)).length g).1 55 = M.1 55 := rfl
      rw [h_120_7, jn_mul, jn_add, ald_n (n := 24) rfl (by omega) (by omega), oB_s, e55, h55, ilt_neg (by omega) (by omega)]
      rw [List.take_of_length_le (by rw [sz_en]; omega), ← sb_en e r hr] at hat ⊢
      exact ⟨g, rfl, hat⟩
    | succ m ih =>
      intro k u3 u4 u5 u6 g hk hat
      have hc := At_sz.mp hra k (by omega)
      have hnx := fm_take (e := e) hc
      have hl0 := hlen k
      have hl1 := hlen (k + 1)
      have e55 : (BM M (((en r).take k).flatMap (sbC e)).length g).1 55 = M.1 55 := rfl
      have e56 : (BM M (((en r).take k).flatMap (sbC e)).length g).1 56 = M.1 56 := rfl
      have e68 : (BM M (((en r).take k).flatMap (sbC e)).length g).1 68 = M.1 68 := rfl
      have e26 : (BM M (((en r).take k).flatMap (sbC e)).length g).1 52 26 = jn (((en r).take k).flatMap (sbC e)).length := by
        show va_up (M.1 52) 26 (jn (((en r).take k).flatMap (sbC e)).length) 26 = _
        rw [up_at, if_pos rfl]
      rw [h_120_7, jn_mul, jn_add, ald_n (n := 24) rfl (by omega) (by omega), oB_s, e55, h55, ilt_pos (by omega) (by omega), jn_mul, jn_add, jn_add, ald_n (n := 960) rfl (by omega) (by omega), oB_s, e56, c_isVm (by omega), kI_r]
      have plain : ¬ isV (M.1 56 (80 * l + 40 + k)) → sbC e (M.1 56 (80 * l + 40 + k)) = [M.1 56 (80 * l + 40 + k)] := fun hv => by unfold sbC; rw [if_neg hv]
      by_cases hv : isV (M.1 56 (80 * l + 40 + k))
      · rw [bI_1 hv, ieq_neg (by omega) (by omega) (by omega)]
        obtain ⟨j, hj, hjv⟩ := isV_k hv
        have hEj := hE j hj
        have bnd : ∃ u, e j = some u := by
          have hmem : M.1 56 (80 * l + 40 + k) ∈ en r := List.mem_of_getElem? hc
          have := hB _ ⟨hv, hmem⟩
          rw [hjv, vi_k hj] at this
          cases he : e j with
          | none => exact absurd he this
          | some u => exact ⟨u, rfl⟩
        obtain ⟨u, hu⟩ := bnd
        rw [hu] at hEj
        obtain ⟨q, k1, k2, k3, k4, k5⟩ := hEj
        have hsb : sbC e (M.1 56 (80 * l + 40 + k)) = en u := by
          unfold sbC
          rw [if_pos hv, hjv, vi_k hj, hu]
        have e65 : At ((BM M (((en r).take k).flatMap (sbC e)).length g).1 65) q (en u) := k5
        have hsum : (((en r).take k).flatMap (sbC e)).length + sz u = (((en r).take (k + 1)).flatMap (sbC e)).length := by rw [hnx, List.length_append, hsb]
        rw [hjv, jn_sub (by omega), Nat.add_sub_cancel_left, ald_n (n := 6) rfl hj (by omega), oB_s, e68, k1, c_span (n := 8100) (by omega) rfl (by omega) k2 e65 k4, kI_r]
        obtain ⟨g', g1, g2, g3⟩ := inner u q (some (.int (jn (117 + j)))) k (((en r).take k).flatMap (sbC e)).length g k2 k3 k4 k5 (by omega) (sz u) 0 g (by omega) (fun _ _ => rfl) (by simp [At])
        simp only [Nat.add_zero] at g1
        rw [g1, hsum]
        refine ih (k + 1) _ _ _ _ g' (by omega) ?_
        rw [hnx, hsb, At_app]
        refine ⟨At_congr hat (fun i i1 i2 => g2 i (by omega)), ?_⟩
        rw [Nat.zero_add]; exact g3
      · have hsb := plain hv
        have hsum : (((en r).take k).flatMap (sbC e)).length + 1 = (((en r).take (k + 1)).flatMap (sbC e)).length := by rw [hnx, List.length_append, hsb]; rfl
        rw [bI_n hv, ieq_pos rfl, e26, jn_add, wr_e, ast_n (n := 1700) rfl (by omega) (by omega), oB_s]
        rw [show (sI (BM M (((en r).take k).flatMap (sbC e)).length g) 52 (va_up ((BM M (((en r).take k).flatMap (sbC e)).length g).1 52) 26 (jn ((((en r).take k).flatMap (sbC e)).length + 1)))).1 69 = g from rfl, BM_up, jn_add, hsum]
        refine ih (k + 1) _ _ _ _ _ (by omega) ?_
        rw [hnx, hsb, At_app]
        refine ⟨At_congr hat (fun i i1 i2 => by rw [up_at, if_neg (by omega)]), ?_, trivial⟩
        rw [up_at, if_pos (by omega)]
  have h0 := key (sz r) 0 none none none none (M.1 69) (by omega) (by simp [At])
  rw [show BM M (((en r).take 0).flatMap (sbC e)).length (M.1 69) = sI M 52 (va_up (M.1 52) 26 (jn 0)) from sI_self (sI M 52 (va_up (M.1 52) 26 (jn 0))) 69] at h0
  exact h0
end
