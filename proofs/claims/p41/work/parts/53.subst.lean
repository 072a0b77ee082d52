/-! what a match puts in -/
def sbT (e : EV) : Tm → Tm
  | .leaf => .leaf
  | .inner n c u a b => if isV c then (match e (vi c) with
      | some x => x
      | none => .inner n c u a b) else .inner n c u (sbT e a) (sbT e b)
def sbC (e : EV) (c : Int32) : List Int32 := if isV c then (match e (vi c) with
  | some x => en x
  | none => [c]) else [c]
theorem sb_en (e : EV) : ∀ r, wf r → en (sbT e r) = (en r).flatMap (sbC e) := by
  refine wf_ind (fun c hc => ?_) (fun c a hc ha iha => ?_) (fun c a b hc ha hb iha ihb => ?_)
  · rw [en_0, List.flatMap_cons, List.flatMap_nil, List.append_nil]
    show en (if isV c then _ else _) = sbC e c
    unfold sbC
    split
    · cases e (vi c) <;> rfl
    · rfl
  · have hv : ¬ isV c := by omega
    rw [en_1, List.flatMap_cons, ← iha]
    show en (if isV c then _ else _) = sbC e c ++ _
    unfold sbC
    rw [if_neg hv, if_neg hv]
    show en (Nd c (sbT e a) Lf) = _
    rw [en_1]; rfl
  · have hv : ¬ isV c := by omega
    rw [en_2, List.flatMap_cons, List.flatMap_append, ← iha, ← ihb]
    show en (if isV c then _ else _) = sbC e c ++ _
    unfold sbC
    rw [if_neg hv, if_neg hv]
    rfl
def EVok (e : EV) : Prop := ∀ v u, v < 6 → e v = some u → wf u ∧ sz u ≤ 40
theorem vi_lt {c : Int32} (h : isV c) : vi c < 6 := by
  obtain ⟨k, hk, rfl⟩ := isV_k h
  rw [vi_k hk]; exact hk
theorem sb_wf {e : EV} (h : EVok e) : ∀ r, wf r → wf (sbT e r) := by
  refine wf_ind (fun c hc => ?_) (fun c a hc ha iha => ?_) (fun c a b hc ha hb iha ihb => ?_)
  · show wf (if isV c then _ else _)
    split
    · rename_i hv
      cases he : e (vi c) with
      | none => exact wf_0 hc
      | some u => exact (h _ u (vi_lt hv) he).1
    · exact wf_0 hc
  · show wf (if isV c then _ else _)
    rw [if_neg (show ¬ isV c by omega)]
    exact wf_1 hc iha
  · show wf (if isV c then _ else _)
    rw [if_neg (show ¬ isV c by omega)]
    exact wf_2 hc iha ihb
theorem sbC_le {e : EV} (h : EVok e) (c : Int32) : (sbC e c).length ≤ 40 := by
  unfold sbC
  split
  · rename_i hv
    cases he : e (vi c) with
    | none => simp
    | some u => exact (h _ u (vi_lt hv) he).2
  · simp
theorem fm_le {e : EV} (h : EVok e) : ∀ (l : List Int32), (l.flatMap (sbC e)).length ≤ 40 * l.length := by
  intro l
  induction l with
  | nil => simp
  | cons c l ih =>
    rw [List.flatMap_cons, List.length_append, List.length_cons]
    have := sbC_le h c
    omega
theorem fm_take {e : EV} {l : List Int32} {k : Nat} {c : Int32} (h : l[k]? = some c) : (l.take (k + 1)).flatMap (sbC e) = (l.take k).flatMap (sbC e) ++ sbC e c := by
  rw [List.take_add_one, h, List.flatMap_append]
  simp
section
variable {d : Nat} {A : AT} {M : PM} {a b c f : Int32} {v : Int64} {e : EV} {lo hi : Nat}
theorem EB_ok (h : EB lo hi e M) : EVok e := fun v u hv hu => by
  have := h v hv
  rw [hu] at this
  obtain ⟨q, -, h1, h2, -⟩ := this
  exact ⟨h1, h2⟩
theorem c_boundTo (hd : 2 ≤ d) (h : EB lo hi e M) : (∃ u q, isV c ∧ e (vi c) = some u ∧ sbC e c = en u ∧ wf u ∧ sz u ≤ 40 ∧ (lo ≤ q ∧ q + sz u ≤ hi) ∧ At (M.1 7) q (en u) ∧ q < 2147483648 ∧ pcl GG lay d 193 [.ref 26, .int c] M = rI (jn q) M) ∨ (sbC e c = [c] ∧ (isV c → e (vi c) = none) ∧ pcl GG lay d 193 [.ref 26, .int c] M = rI (jz 1) M) ∨ 2147483648 ≤ hi := by
  by_cases hhi : 2147483648 ≤ hi
  · exact Or.inr (Or.inr hhi)
  obtain ⟨d, rfl⟩ := ex_add hd
  rw [q_193, c_isV (by omega), kI_r]
  by_cases hv : isV c
  · obtain ⟨k, hk, rfl⟩ := isV_k hv
    rw [bI_1 hv, ieq_neg (by omega) (by omega) (by omega), jn_sub (by omega), Nat.add_sub_cancel_left, c_get (n := 6) (by omega) rfl hk (by omega), kI_r, vi_k hk]
    have hE := h k hk
    cases he : e k with
    | none =>
      rw [he] at hE
      simp only at hE
      refine Or.inr (Or.inl ⟨?_, fun _ => rfl, by rw [hE]⟩)
      unfold sbC; rw [if_pos hv, vi_k hk, he]
    | some u =>
      rw [he] at hE
      obtain ⟨q, h1, h2, h3, h4, h5⟩ := hE
      refine Or.inl ⟨u, q, hv, rfl, ?_, h2, h3, h4, h5, by omega, by rw [h1]⟩
      unfold sbC; rw [if_pos hv, vi_k hk, he]
  · rw [bI_n hv, ieq_pos rfl]
    refine Or.inr (Or.inl ⟨?_, fun q => absurd q hv, rfl⟩)
    unfold sbC; rw [if_neg hv]
theorem c_sizeOf {P : Nat} {r : Tm} (hd : 4 ≤ d) (hhi : hi ≤ 3760) (h : EB lo hi e M) (hr : wf r) (hrs : sz r ≤ 40) (hra : At (M.1 7) P (en r)) (hP : P + sz r ≤ 3760) : pcl GG lay d 194 [.ref 26, .int (jn P)] M = rI (jn (sz (sbT e r))) M := by
  obtain ⟨d, rfl⟩ := ex_add hd
  rw [q_194, c_end (by omega) hr hra hP, kI_r]
  have key : ∀ m k u1 u5, k + m = sz r → E_194 (d + 3) (14, [some (.ref 26), u1, some (.int (jn (P + sz r))), some (.int (jn (((en r).take k).flatMap (sbC e)).length)), some (.int (jn (P + k))), u5], [], M) = rI (jn (sz (sbT e r))) M := by
    intro m
    induction m with
    | zero =>
      intro k u1 u5 hk
      rw [h_194_14, ilt_neg (by omega) (by omega), List.take_of_length_le (by rw [sz_en]; omega), ← sb_en e r hr]
    | succ m ih =>
      intro k u1 u5 hk
      have hc := At_sz.mp hra k (by omega)
      rw [h_194_14, ilt_pos (by omega) (by omega), c_at (by omega) (by omega), kI_r]
      have hnx := fm_take (e := e) hc
      rcases c_boundTo (d := d + 3) (c := M.1 7 (P + k)) (by omega) h with ⟨u, q, -, -, h3, h4, h5, h6, h7, -, h8⟩ | ⟨h3, -, h8⟩ | h3
      · rw [h8, kI_r, if_neg (by rw [jn_jz (by omega) (by omega)]; exact id), c_sizeAt (by omega) h4 h7 (by omega), kI_r, jn_add, jn_add]
        have e2 : (((en r).take k).flatMap (sbC e)).length + sz u = (((en r).take (k + 1)).flatMap (sbC e)).length := by rw [hnx, List.length_append, h3]
        rw [e2]
        exact ih (k + 1) u1 _ (by omega)
      · rw [h8, kI_r, if_pos rfl, jn_add, jn_add]
        have e2 : (((en r).take k).flatMap (sbC e)).length + 1 = (((en r).take (k + 1)).flatMap (sbC e)).length := by rw [hnx, List.length_append, h3]; rfl
        rw [e2]
        exact ih (k + 1) u1 _ (by omega)
      · omega
  exact key (sz r) 0 _ _ (by omega)
/-- Matching.append: what is put in comes to a place that lies behind all that is bound, or ahead of it -/
theorem c_put_in {P to : Nat} {r : Tm} (hd : 5 ≤ d) (hhi : hi ≤ 3760) (h : EB lo hi e M) (hr : wf r) (hrs : sz r ≤ 40) (hra : At (M.1 7) P (en r)) (hP : P + sz r ≤ to) (hto : to + sz (sbT e r) ≤ 3760) (hfar : hi ≤ to ∨ to + sz (sbT e r) ≤ lo) :
    ∃ g, pcl GG lay d 195 [.ref 26, .int (jn P), .int (jn to)] M = rI (jn (to + sz (sbT e r))) (sI M 7 g) ∧ At g to (en (sbT e r)) ∧ ∀ i, (i < to ∨ to + sz (sbT e r) ≤ i) → g i = M.1 7 i := by
  obtain ⟨d, rfl⟩ := ex_add hd
  have hlen : ∀ k, (((en r).take k).flatMap (sbC e)).length ≤ sz (sbT e r) := by
    intro k
    have e1 : en r = (en r).take k ++ (en r).drop k := (List.take_append_drop k _).symm
    have e2 : (en (sbT e r)).length = (((en r).take k).flatMap (sbC e)).length + (((en r).drop k).flatMap (sbC e)).length := by
      rw [sb_en e r hr, ← List.length_append, ← List.flatMap_append, List.take_append_drop]
    show _ ≤ (en (sbT e r)).length
    omega
  rw [q_195, c_end (by omega) hr hra (by omega), kI_r]
  have key : ∀ m k g u1 u2 u6, k + m = sz r → At g to (((en r).take k).flatMap (sbC e)) → (∀ i, (i < to ∨ to + sz (sbT e r) ≤ i) → g i = M.1 7 i) → ∃ g', E_195 (d + 4) (15, [some (.ref 26), u1, u2, some (.int (jn (P + sz r))), some (.int (jn (to + (((en r).take k).flatMap (sbC e)).length))), some (.int (jn (P + k))), u6], [], sI M 7 g) = rI (jn (to + sz (sbT e r))) (sI M 7 g') ∧ At g' to (en (sbT e r)) ∧ ∀ i, (i < to ∨ to + sz (sbT e r) ≤ i) → g' i = M.1 7 i := by
    intro m
    induction m with
    | zero =>
      intro k g u1 u2 u6 hk hA hB
      rw [List.take_of_length_le (by rw [sz_en]; omega), ← sb_en e r hr] at hA ⊢
      exact ⟨g, by rw [h_195_15, ilt_neg (by omega) (by omega)], hA, hB⟩
    | succ m ih =>
      intro k g u1 u2 u6 hk hA hB
      have hc := At_sz.mp hra k (by omega)
      have hnx := fm_take (e := e) hc
      have hl0 := hlen k
      have hl1 := hlen (k + 1)
      have hgc : (sI M 7 g).1 7 (P + k) = M.1 7 (P + k) := by rw [sI_k]; exact hB _ (by omega)
      rw [h_195_15, ilt_pos (by omega) (by omega), c_at (by omega) (by omega), kI_r, hgc]
      have hE : EB lo hi e (sI M 7 g) := by
        intro v hv
        have := h v hv
        cases he : e v with
        | none => rw [he] at this; exact this
        | some u =>
          rw [he] at this
          obtain ⟨q, q1, q2, q3, q4, q5⟩ := this
          refine ⟨q, q1, q2, q3, q4, ?_⟩
          rw [sI_k]
          exact AT_congr q5 (fun i i1 i2 => hB i (by omega))
      rcases c_boundTo (d := d + 4) (c := M.1 7 (P + k)) (by omega) hE with ⟨u, q, -, -, h3, h4, h5, h6, h7, -, h8⟩ | ⟨h3, -, h8⟩ | h3
      · have e2 : (((en r).take k).flatMap (sbC e)).length + sz u = (((en r).take (k + 1)).flatMap (sbC e)).length := by rw [hnx, List.length_append, h3]
        rw [h8, kI_r, if_neg (by rw [jn_jz (by omega) (by omega)]; exact id), c_append (by omega) h4 h7 (by omega) (by omega) (by omega), kI_r, sI_sI, sI_k, jn_add, show to + (((en r).take k).flatMap (sbC e)).length + sz u = to + (((en r).take (k + 1)).flatMap (sbC e)).length by omega]
        rw [sI_k] at h7
        refine ih (k + 1) _ u1 u2 _ (by omega) ?_ (fun i hi2 => ?_)
        · rw [hnx, At_app]
          refine ⟨At_congr hA (fun i i1 i2 => cp_out (by omega)), ?_⟩
          rw [h3]
          exact AT_cp h7 (Nat.le_refl _)
        · rw [cp_out (by omega)]; exact hB i hi2
      · have e2 : (((en r).take k).flatMap (sbC e)).length + 1 = (((en r).take (k + 1)).flatMap (sbC e)).length := by rw [hnx, List.length_append, h3]; rfl
        rw [h8, kI_r, if_pos rfl, c_at (by omega) (by omega), kI_r, hgc, c_write (by omega) (by omega), kV_r, sI_sI, sI_k, jn_add, jn_add, show to + (((en r).take k).flatMap (sbC e)).length + 1 = to + (((en r).take (k + 1)).flatMap (sbC e)).length by omega]
        refine ih (k + 1) _ u1 u2 _ (by omega) ?_ (fun i hi2 => ?_)
        · rw [hnx, At_app, h3]
          refine ⟨At_congr hA (fun i i1 i2 => by rw [up_at, if_neg (by omega)]), ?_, trivial⟩
          rw [up_at, if_pos rfl]
        · rw [up_at, if_neg (by omega)]; exact hB i hi2
      · omega
  have := key (sz r) 0 (M.1 7) (some (.int (jn P))) (some (.int (jn to))) none (by omega) (by simp [At]) (fun _ _ => rfl)
  rw [sI_self] at this
  exact this
end
