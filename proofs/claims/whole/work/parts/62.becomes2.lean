/-! what the model puts into its tree -/
section
variable {d : Nat} {A : AT} {M : PM} {a b c f : Int32} {v : Int64} {e : EV}
abbrev TM (M : PM) (g : Nat → Int32) : PM := sI M 65 g
theorem c_becomes {x p i nx : Nat} {t s : Tm} (hd : 5 ≤ d) (hx : lay[x]? = some (.inr (false, nx))) (hnx : nx < 1000000) (hx2 : x ≠ 65 ∧ x ≠ 52) (h19 : M.1 52 19 = jn (sz t)) (ht : wf t) (hta : At (M.1 65) 0 (en t)) (hi : i < sz t) (hsa : At (M.1 x) p (en s)) (hp : p + sz s ≤ nx) (hbig : sz t + sz s ≤ 8100) :
    ∃ M', pcl GG lay d 121 [.ref 52, .int (jn i), .ref x, .int (jn p), .int (jn (sz s))] M = rV M' ∧ Fr [52, 65] M M' ∧ M'.1 52 = va_up (M.1 52) 19 (jn (sz (rep t i s))) ∧ At (M'.1 65) 0 (en (rep t i s)) := by
  obtain ⟨d, rfl⟩ := ex_add hd
  have hw := sub_wf ht hi
  have hz := sub_sz ht hi
  have zz := sz_pos _ hw
  have hst := sub_at ht hi hta
  rw [Nat.zero_add] at hst
  have hrs := rep_sz (s := s) ht hi
  generalize hzz : sz (sub t i) = z at hz zz hrs
  -- the last loop
  have fin : ∀ (M1 : PM) (g : Nat → Int32) (u5 u6 : Option Value), Fr [52, 65] M M1 → M1.1 52 = va_up (M.1 52) 19 (jn (sz (rep t i s))) → M1.1 65 = g → (∀ j, j < i → g j = M.1 65 j) → (∀ j, i + z ≤ j → j < sz t → g (j - z + sz s) = M.1 65 j) → ∃ M', E_121 (d + 4) (119, [some (.ref 52), some (.int (jn i)), some (.ref x), some (.int (jn p)), some (.int (jn (sz s))), u5, u6, some (.int (jn 0))], [], M1) = rV M' ∧ Fr [52, 65] M M' ∧ M'.1 52 = va_up (M.1 52) 19 (jn (sz (rep t i s))) ∧ At (M'.1 65) 0 (en (rep t i s)) := by
    intro M1 g u5 u6 hf h52 hg g1 g2
    have lp : ∀ m k h', k + m = sz s → (∀ j, j < i ∨ i + k ≤ j → h' j = g j) → (∀ j, j < k → h' (i + j) = M.1 x (p + j)) → ∃ h'', E_121 (d + 4) (119, [some (.ref 52), some (.int (jn i)), some (.ref x), some (.int (jn p)), some (.int (jn (sz s))), u5, u6, some (.int (jn k))], [], sI M1 65 h') = rV (sI M1 65 h'') ∧ (∀ j, j < i ∨ i + sz s ≤ j → h'' j = g j) ∧ (∀ j, j < sz s → h'' (i + j) = M.1 x (p + j)) := by
      intro m
      induction m with
      | zero =>
        intro k h' hk q1 q2
        rw [h_121_119, ilt_neg (by omega) (by omega)]
        have : k = sz s := by omega
        subst this
        exact ⟨h', rfl, q1, q2⟩
      | succ m ih =>
        intro k h' hk q1 q2
        have ex : (sI M1 65 h').1 x = M.1 x := by
          rw [sI_o _ _ hx2.1]
          exact hf.1 x (by simp only [List.mem_cons, List.not_mem_nil, or_false]; omega)
        rw [h_121_119, ilt_pos (by omega) (by omega), jn_add, ald_n hx (by omega) (by omega), oB_s, ex, jn_add, ast_n (n := 8100) rfl (by omega) (by omega), oB_s, sI_sI, sI_k, jn_add]
        refine ih (k + 1) _ (by omega) (fun j hj => ?_) (fun j hj => ?_)
        · rw [up_at, if_neg (by omega)]; exact q1 j (by omega)
        · rw [up_at]
          by_cases hjk : j = k
          · rw [if_pos (by omega), hjk]
          · rw [if_neg (by omega)]; exact q2 j (by omega)
    obtain ⟨h'', l1, l2, l3⟩ := lp (sz s) 0 g (by omega) (fun _ _ => rfl) (fun j hj => by omega)
    rw [← hg, sI_self] at l1
    refine ⟨_, l1, hf.trans (Fr.sI (by decide)), h52, ?_⟩
    rw [sI_k]
    refine rep_at ht hi hta (fun j hj => ?_) ?_ (fun j j1 j2 => ?_)
    · rw [Nat.zero_add, l2 j (Or.inl hj), g1 j hj]
    · rw [At_sz] at hsa ⊢
      intro j hj
      rw [hsa j hj, Nat.zero_add, l3 j hj]
    · rw [hzz] at j1 ⊢
      rw [Nat.zero_add, Nat.zero_add, l2 _ (by omega), g2 j j1 j2]
  have h52 : ∀ (g : Nat → Int32) (y : Int32), y = jn (sz (rep t i s)) → (sI (sI M 65 g) 52 (va_up ((sI M 65 g).1 52) 19 y)).1 52 = va_up (M.1 52) 19 (jn (sz (rep t i s))) := fun g y hy => by rw [sI_k, hy]; rfl
  have h65 : ∀ (g : Nat → Int32) (y : Int32), (sI (sI M 65 g) 52 (va_up ((sI M 65 g).1 52) 19 y)).1 65 = g := fun g y => by rw [sI_o _ _ (by omega), sI_k]
  have hF : ∀ (g : Nat → Int32) (y : Int32), Fr [52, 65] M (sI (sI M 65 g) 52 (va_up ((sI M 65 g).1 52) 19 y)) := fun g y => (Fr.sI (by decide)).trans (Fr.sI (by decide))
  have e19 : ∀ g : Nat → Int32, (sI M 65 g).1 52 19 = jn (sz t) := fun g => h19
  rw [q_121, c_span (n := 8100) (by omega) rfl (by omega) hw hst (by omega), kI_r, hzz]
  by_cases hlt : z < sz s
  · rw [jn_sub (by omega), ilt_pos (by omega) (by omega), h19]
    have up : ∀ k g, i + z + k ≤ sz t → (∀ j, j < i + z + k → g j = M.1 65 j) → (∀ j, i + z + k ≤ j → j < sz t → g (j + (sz s - z)) = M.1 65 j) → ∃ M', E_121 (d + 4) (30, [some (.ref 52), some (.int (jn i)), some (.ref x), some (.int (jn p)), some (.int (jn (sz s))), some (.int (jn z)), some (.int (jn (sz s - z))), some (.int (jn (i + z + k) + jz 1))], [], sI M 65 g) = rV M' ∧ Fr [52, 65] M M' ∧ M'.1 52 = va_up (M.1 52) 19 (jn (sz (rep t i s))) ∧ At (M'.1 65) 0 (en (rep t i s)) := by
      intro k
      induction k with
      | zero =>
        intro g hk g1 g2
        rw [h_121_30, jn_add, Nat.add_zero, if_pos (pred_lt (by omega)), ilt_neg (by omega) (by omega), wr_e, e19, jn_add]
        refine fin _ g _ _ (hF _ _) (h52 _ _ (by rw [hrs]; congr 1; omega)) (h65 _ _) (fun j hj => g1 j (by omega)) (fun j j1 j2 => ?_)
        rw [← g2 j (by omega) j2]
        congr 1; omega
      | succ k ih =>
        intro g hk g1 g2
        rw [h_121_30, jn_add, show jn (i + z + (k + 1)) + jz 1 = jn (i + z + k) by rw [jn_addz (by omega)]; congr 1, ilt_neg (by omega) (by omega), ald_n (n := 8100) rfl (by omega) (by omega), oB_s, jn_add, ast_n (n := 8100) rfl (by omega) (by omega), oB_s, sI_sI, sI_k]
        refine ih _ (by omega) (fun j hj => ?_) (fun j j1 j2 => ?_)
        · rw [up_at, if_neg (by omega)]; exact g1 j (by omega)
        · rw [up_at]
          by_cases hj : j = i + z + k
          · rw [if_pos (by omega), hj, g1 _ (by omega)]
          · rw [if_neg (by omega)]; exact g2 j (by omega) j2
    have := up (sz t - (i + z)) (M.1 65) (by omega) (fun _ _ => rfl) (fun j j1 j2 => by omega)
    rw [sI_self, show i + z + (sz t - (i + z)) = sz t by omega] at this
    rw [show jn (sz t) - jn 1 = jn (sz t) + jz 1 by rw [jn_sub (by omega), jn_addz (by omega)]]
    exact this
  by_cases hgt : sz s < z
  · have e6 : jn (sz s) - jn z = jz (z - sz s) := jn_subz (by omega)
    rw [e6, if_neg (by rw [show (jn 0 < jz (z - sz s)) = False from jn_lt_jz (by omega) (by omega)]; exact id), if_pos (by rw [show (jz (z - sz s) < jn 0) = True from jz_lt_jn (by omega) (by omega)]; trivial), jn_add]
    have dn : ∀ m k g u5, i + z + k + m = sz t → (∀ j, j < i ∨ i + z + k ≤ j → g j = M.1 65 j) → (∀ j, i + z ≤ j → j < i + z + k → g (j - z + sz s) = M.1 65 j) → ∃ M', E_121 (d + 4) (73, [some (.ref 52), some (.int (jn i)), some (.ref x), some (.int (jn p)), some (.int (jn (sz s))), u5, some (.int (jz (z - sz s))), some (.int (jn (i + z + k)))], [], sI M 65 g) = rV M' ∧ Fr [52, 65] M M' ∧ M'.1 52 = va_up (M.1 52) 19 (jn (sz (rep t i s))) ∧ At (M'.1 65) 0 (en (rep t i s)) := by
      intro m
      induction m with
      | zero =>
        intro k g u5 hk g1 g2
        rw [h_121_73, e19, ilt_neg (by omega) (by omega), wr_e, jn_addz (by omega)]
        exact fin _ g _ _ (hF _ _) (h52 _ _ (by rw [hrs]; congr 1; omega)) (h65 _ _) (fun j hj => g1 j (by omega)) (fun j j1 j2 => g2 j j1 (by omega))
      | succ m ih =>
        intro k g u5 hk g1 g2
        rw [h_121_73, e19, ilt_pos (by omega) (by omega), ald_n (n := 8100) rfl (by omega) (by omega), oB_s, jn_addz (by omega), ast_n (n := 8100) rfl (by omega) (by omega), oB_s, sI_sI, sI_k, jn_add]
        refine ih (k + 1) _ u5 (by omega) (fun j hj => ?_) (fun j j1 j2 => ?_)
        · rw [up_at, if_neg (by omega)]; exact g1 j (by omega)
        · rw [up_at]
          by_cases hj : j = i + z + k
          · rw [if_pos (by omega), hj, g1 _ (by omega)]
          · rw [if_neg (by omega)]; exact g2 j j1 (by omega)
    have := dn (sz t - (i + z)) 0 (M.1 65) (some (.int (jn z))) (by omega) (fun _ _ => rfl) (fun j j1 j2 => by omega)
    rw [sI_self] at this
    exact this
  · have hsz : sz s = z := by omega
    have e6 : jn (sz s) - jn z = jn 0 := by rw [jn_sub (by omega)]; congr 1; omega
    rw [e6, ilt_neg (by omega) (by omega), ilt_neg (by omega) (by omega), wr_e, h19, jn_add]
    refine fin _ (M.1 65) _ _ (Fr.sI (by decide)) ?_ rfl (fun _ _ => rfl) (fun j j1 j2 => congrArg (M.1 65) (by omega))
    rw [sI_k, hrs]
    congr 2; omega
end
