/-! the model's match of a pattern and a term; what grows -/
section
variable {d : Nat} {A : AT} {M : PM} {a b c f : Int32} {v : Int64} {e : EV}
theorem c_comm {cm : Nat} (hd : 2 ≤ d) (hcm : cm < 16) (h : M.1 52 11 = jn cm) : pcl GG lay d 97 [.ref 52, .int c] M = rI (bI (cmB cm c = true)) M := by
  obtain ⟨d, rfl⟩ := ex_add hd
  rw [q_97, c_within_n (by omega) (by omega) (by omega), kI_r]
  by_cases h2 : is2 c
  · rw [bI_1 (show ((105 : Nat) : Int) ≤ c.toInt ∧ c.toInt ≤ ((108 : Nat) : Int) from ⟨by omega, by omega⟩), ieq_neg (by omega) (by omega) (by omega), h]
    by_cases hm : cmB cm c = true
    · rw [if_pos (Eq.mpr (may_bit hcm h2).2 hm), bI_1 hm, rZ_1]
    · rw [if_neg (fun z => hm (Eq.mp (may_bit hcm h2).2 z)), bI_n hm, rZ_0]
  · have h3 : ¬ cmB cm c = true := by unfold cmB; simp [h2]
    rw [bI_n (show ¬ (((105 : Nat) : Int) ≤ c.toInt ∧ c.toInt ≤ ((108 : Nat) : Int)) from fun z => h2 ⟨by omega, by omega⟩), ieq_pos rfl, bI_n h3, rZ_0]
theorem pred_lt {P : Nat} (h : P < 2147483648) : jn P + jz 1 < jn P := by
  cases P with
  | zero => decide
  | succ P => rw [jn_addz (by omega), jn_lt (by omega) (by omega)]; omega
theorem msG_1 (cm : Int32 → Bool) (P q : Nat) (p t : Tm) (e : EV) : msG cm [(P, p, q, t)] e = ms cm p t e := by
  show (ms cm p t e).flatMap (fun e' => [e']) = _
  induction ms cm p t e with
  | nil => rfl
  | cons x l ih => rw [List.flatMap_cons, ih]; rfl
theorem ofNat_R {R : Nat} (hR : R = 54 ∨ R = 56) : Int32.ofNat R = jn R := by rcases hR with rfl | rfl <;> rfl
/-- whether a term is a pattern's case; then what is bound -/
theorem c_isMatch {R cm P q : Nat} {p t : Tm} (hd : 90 ≤ d) (hR : R = 54 ∨ R = 56) (hcm : cm < 16) (h11 : M.1 52 11 = jn cm) (hp : wf p) (hps : sz p ≤ 40) (hpa : At (M.1 R) P (en p)) (hpP : P + sz p ≤ 960) (ht : wf t) (hts : sz t ≤ 40) (hta : At (M.1 65) q (en t)) (htq : q + sz t ≤ 8100) :
    ∃ M', pcl GG lay d 113 [.ref 52, .ref R, .int (jn P), .int (jn q)] M = rI (if (mat cm p t).isSome = true then jn 1 else jn 0) M' ∧ Fr [52, 66, 67, 68] M M' ∧ (∀ j, j ≠ 20 → j ≠ 21 → M'.1 52 j = M.1 52 j) ∧ ∀ e', mat cm p t = some e' → EM e' M' := by
  obtain ⟨d, rfl⟩ := ex_add hd
  have hR1 : R < 1000 := by omega
  have zp := sz_pos p hp
  have r3 := off_R hR
  have qR : ∀ f, (sI M 52 f).1 R = M.1 R := fun f => sI_o _ _ (by omega)
  rw [q_113, if_pos hR1, wr_e, ofNat_R hR, c_span (n := 960) (by omega) (lay_R hR) (by omega) hp (by rw [qR]; exact hpa) hpP, kI_r, jn_add, show jn (P + sz p) - jn 1 = jn (P + sz p) + jz 1 by rw [jn_sub (by omega), jn_addz (by omega)]]
  -- the counting
  have last : ∀ M1, Fr [52, 66, 67, 68] M M1 → (∀ j, j ≠ 20 → j ≠ 21 → M1.1 52 j = M.1 52 j) → M1.1 52 20 = jn R → M1.1 52 21 = jn (tE cm p) → ∀ m k u1 u4 g, k + m = 6 → (∀ v, v < k → g v = jz 1) → ∃ M', E_113 (d + 89) (74, [some (.ref 52), u1, some (.int (jn P)), some (.int (jn q)), u4, some (.int (jn k))], [], sI M1 68 g) = rI (if (mat cm p t).isSome = true then jn 1 else jn 0) M' ∧ Fr [52, 66, 67, 68] M M' ∧ (∀ j, j ≠ 20 → j ≠ 21 → M'.1 52 j = M.1 52 j) ∧ ∀ e', mat cm p t = some e' → EM e' M' := by
    intro M1 hf hj h20 h21 m
    induction m with
    | zero =>
      intro k u1 u4 g hk hg
      rw [h_113_74, ilt_neg (by omega) (by omega), c_goal (by omega) (by omega), kV_r]
      have q65 : M1.1 65 = M.1 65 := hf.1 65 (by decide)
      have qR2 : M1.1 R = M.1 R := hf.1 R (by rcases hR with rfl | rfl <;> decide)
      have hS := sol_go (tE_lt hcm p) hR (sz p) [(P, p, q, t)] e0 (pG (sI M1 68 g) 0 P q) (d + 89) (by show sz p + 0 ≤ _; omega) (by omega) (by show 1 + _ ≤ _; omega) h20 h21 ⟨by rw [pG_1, List.length_nil, up_at, if_pos rfl], by rw [pG_2, List.length_nil, up_at, if_pos rfl], trivial⟩ (fun x hx => by
        rw [List.mem_singleton] at hx
        rw [hx, pG_o _ _ _ _ ⟨r3.2.1, r3.2.2.1⟩, sI_o _ _ r3.2.2.2, qR2]
        refine ⟨⟨hp, hps, hpa, hpP⟩, ht, hts, ?_, htq⟩
        show At (M1.1 65) q (en t)
        rw [q65]; exact hta) (fun v hv => by
        show g v = jz 1
        exact hg v (by omega))
      have hS := SRm_z hS
      rw [msG_1] at hS
      obtain ⟨M', s1, s2, s3, -⟩ := hS
      refine ⟨M', s1, (hf.trans ((Fr.sI (by decide)).trans ((pG_fr _ _ _ _).mono (by decide)))).trans (s2.mono (by decide)), fun j j1 j2 => ?_, s3⟩
      rw [s2.1 52 (by decide)]
      exact hj j j1 j2
    | succ m ih =>
      intro k u1 u4 g hk hg
      rw [h_113_74, ilt_pos (by omega) (by omega), ast_n (n := 6) rfl (by omega) (by omega), oB_s, jn_add, sI_sI, sI_k]
      refine ih (k + 1) u1 u4 _ (by omega) (fun v hv => ?_)
      rw [up_at]
      by_cases hvk : v = k
      · rw [if_pos hvk]
      · rw [if_neg hvk]; exact hg v (by omega)
  have key : ∀ k, k ≤ sz p → ∃ M', E_113 (d + 89) (19, [some (.ref 52), some (.ref R), some (.int (jn P)), some (.int (jn q)), some (.int (jn (((en p).drop k).countP (cmB cm)))), some (.int (jn (P + k) + jz 1))], [], sI M 52 (va_up (M.1 52) 20 (jn R))) = rI (if (mat cm p t).isSome = true then jn 1 else jn 0) M' ∧ Fr [52, 66, 67, 68] M M' ∧ (∀ j, j ≠ 20 → j ≠ 21 → M'.1 52 j = M.1 52 j) ∧ ∀ e', mat cm p t = some e' → EM e' M' := by
    intro k
    induction k with
    | zero =>
      intro _
      have hc : (en p).countP (cmB cm) ≤ sz p := List.countP_le_length
      rw [h_113_19, Nat.add_zero, if_pos (pred_lt (by omega)), List.drop_zero]
      have fin : ∀ f, f = jn (tE cm p) → ∃ M', E_113 (d + 89) (74, [some (.ref 52), some (.ref R), some (.int (jn P)), some (.int (jn q)), some (.int (jn ((en p).countP (cmB cm)))), some (.int (jn 0))], [], sI (sI M 52 (va_up (M.1 52) 20 (jn R))) 52 (va_up ((sI M 52 (va_up (M.1 52) 20 (jn R))).1 52) 21 f)) = rI (if (mat cm p t).isSome = true then jn 1 else jn 0) M' ∧ Fr [52, 66, 67, 68] M M' ∧ (∀ j, j ≠ 20 → j ≠ 21 → M'.1 52 j = M.1 52 j) ∧ ∀ e', mat cm p t = some e' → EM e' M' := by
        intro f hf
        have := last (sI (sI M 52 (va_up (M.1 52) 20 (jn R))) 52 (va_up ((sI M 52 (va_up (M.1 52) 20 (jn R))).1 52) 21 f)) ((Fr.sI (by decide)).trans (Fr.sI (by decide))) (fun j j1 j2 => by rw [sI_k, up_at, if_neg j2, sI_k, up_at, if_neg j1]) (by rw [sI_k, up_at, if_neg (by omega), sI_k, up_at, if_pos rfl]) (by rw [sI_k, up_at, if_pos rfl, hf]) 6 0 (some (.ref R)) (some (.int (jn ((en p).countP (cmB cm))))) (M.1 68) (by omega) (fun v hv => by omega)
        rw [show sI (sI (sI M 52 (va_up (M.1 52) 20 (jn R))) 52 (va_up ((sI M 52 (va_up (M.1 52) 20 (jn R))).1 52) 21 f)) 68 (M.1 68) = sI (sI M 52 (va_up (M.1 52) 20 (jn R))) 52 (va_up ((sI M 52 (va_up (M.1 52) 20 (jn R))).1 52) 21 f) from sI_self (sI (sI M 52 (va_up (M.1 52) 20 (jn R))) 52 (va_up ((sI M 52 (va_up (M.1 52) 20 (jn R))).1 52) 21 f)) 68] at this
        exact this
      by_cases h6 : 6 < (en p).countP (cmB cm)
      · rw [ilt_pos h6 (by omega), wr_e]
        exact fin _ (by unfold tE; rw [tn_count cm p hp, if_pos h6])
      · rw [ilt_neg (by omega) (by omega), wr_e]
        exact fin _ (by unfold tE; rw [tn_count cm p hp, if_neg h6]; rw [sI_k, up_at, if_neg (by omega)]; exact h11)
    | succ k ih =>
      intro hk
      have hc := At_sz.mp hpa k (by omega)
      have hnx : ((en p).drop k).countP (cmB cm) = ((en p).drop (k + 1)).countP (cmB cm) + (if cmB cm (M.1 R (P + k)) = true then 1 else 0) := by
        have hlt : k < (en p).length := by show k < sz p; omega
        rw [List.drop_eq_getElem_cons hlt, List.countP_cons]
        have : (en p)[k] = M.1 R (P + k) := by
          have := List.getElem?_eq_getElem hlt
          rw [hc] at this
          exact (Option.some.inj this).symm
        rw [this]
      rw [h_113_19, show jn (P + (k + 1)) + jz 1 = jn (P + k) by rw [jn_addz (by omega)]; congr 1, ilt_neg (by omega) (by omega), ald_n (lay_R hR) (by omega) (by omega), oB_s, qR, c_comm (by omega) hcm (by rw [sI_k, up_at, if_neg (by omega)]; exact h11), kI_r]
      by_cases hm : cmB cm (M.1 R (P + k)) = true
      · rw [bI_1 hm, ieq_neg (by omega) (by omega) (by omega), jn_add]
        rw [if_pos hm] at hnx
        rw [← hnx]
        exact ih (by omega)
      · rw [bI_n hm, ieq_pos rfl, jn_add]
        rw [if_neg hm] at hnx
        rw [← hnx]
        exact ih (by omega)
  have := key (sz p) (Nat.le_refl _)
  rw [List.drop_of_length_le (by show sz p ≤ sz p; omega)] at this
  exact this
theorem c_fit {cm i q : Nat} {p t : Tm} (hd : 91 ≤ d) (hcm : cm < 16) (h11 : M.1 52 11 = jn cm) (hp : wf p) (hps : sz p ≤ 40) (hi : i < 12) (hpa : At (M.1 56) (80 * i) (en p)) (ht : wf t) (hts : sz t ≤ 40) (hta : At (M.1 65) q (en t)) (htq : q + sz t ≤ 8100) :
    ∃ M', pcl GG lay d 114 [.ref 52, .int (jn i), .int (jn q)] M = rI (if (mat cm p t).isSome = true then jn 1 else jn 0) M' ∧ Fr [52, 66, 67, 68] M M' ∧ (∀ j, j ≠ 20 → j ≠ 21 → M'.1 52 j = M.1 52 j) ∧ ∀ e', mat cm p t = some e' → EM e' M' := by
  obtain ⟨d, rfl⟩ := ex_add hd
  obtain ⟨M', h1, h2, h3, h4⟩ := c_isMatch (d := d + 90) (M := M) (R := 56) (P := 80 * i) (by omega) (Or.inr rfl) hcm h11 hp hps hpa (by omega) ht hts hta htq
  refine ⟨M', ?_, h2, h3, h4⟩
  rw [q_114, jn_mul, h1, kI_r]
  cases (mat cm p t).isSome
  · exact rZ_0 _
  · exact rZ_1 _
/-- a subject is laid -/
theorem c_grow {i : Nat} {t : Tm} (hd : 1 ≤ d) (hi : i < 24) (hs : sz t ≤ 40) (h53 : M.1 53 i = jn (sz t)) : pcl GG lay d 115 [.ref 52, .int (jn i)] M = rV (sI (sI M 52 (va_up (M.1 52) 19 (jn (sz t)))) 65 (cp (M.1 54) (M.1 65) (40 * i) 0 (sz t))) := by
  obtain ⟨d, rfl⟩ := ex_add hd
  rw [q_115, ald_n (n := 24) rfl hi (by omega), oB_s, wr_e, h53]
  have key : ∀ m k, k + m = sz t → E_115 d (12, [some (.ref 52), some (.int (jn i)), some (.int (jn k))], [], sI (sI M 52 (va_up (M.1 52) 19 (jn (sz t)))) 65 (cp (M.1 54) (M.1 65) (40 * i) 0 k)) = rV (sI (sI M 52 (va_up (M.1 52) 19 (jn (sz t)))) 65 (cp (M.1 54) (M.1 65) (40 * i) 0 (sz t))) := by
    intro m
    induction m with
    | zero =>
      intro k hk
      have e1 : (sI (sI M 52 (va_up (M.1 52) 19 (jn (sz t)))) 65 (cp (M.1 54) (M.1 65) (40 * i) 0 k)).1 52 19 = jn (sz t) := by rw [sI_o _ _ (by omega), sI_k, up_at, if_pos rfl]
      rw [h_115_12, e1, ilt_neg (by omega) (by omega), show k = sz t by omega]
    | succ m ih =>
      intro k hk
      have e1 : (sI (sI M 52 (va_up (M.1 52) 19 (jn (sz t)))) 65 (cp (M.1 54) (M.1 65) (40 * i) 0 k)).1 52 19 = jn (sz t) := by rw [sI_o _ _ (by omega), sI_k, up_at, if_pos rfl]
      rw [h_115_12, e1, ilt_pos (by omega) (by omega), jn_mul, jn_add, ald_n (n := 960) rfl (by omega) (by omega), oB_s, ast_n (n := 8100) rfl (by omega) (by omega), oB_s, sI_sI, sI_k, jn_add]
      have e2 := cp_succ (M.1 54) (M.1 65) (40 * i) 0 k
      rw [Nat.zero_add] at e2
      rw [show (sI (sI M 52 (va_up (M.1 52) 19 (jn (sz t)))) 65 (cp (M.1 54) (M.1 65) (40 * i) 0 k)).1 54 (40 * i + k) = M.1 54 (40 * i + k) from rfl, e2]
      exact ih (k + 1) (by omega)
  have := key (sz t) 0 (by omega)
  rw [cp_0, show sI (sI M 52 (va_up (M.1 52) 19 (jn (sz t)))) 65 (M.1 65) = sI M 52 (va_up (M.1 52) 19 (jn (sz t))) from sI_self (sI M 52 (va_up (M.1 52) 19 (jn (sz t)))) 65] at this
  exact this
end
