/-! strategy and says of the model; status -/
section
variable {d : Nat} {A : AT} {M : PM} {a b c e f : Int32} {v : Int64}
theorem m_strategy (hd : 7 ≤ d) (hA : AOk A) (h : RM A M) : MI (pcl GG lay d 123 [.ref 52, .int a, .int b, .int c] M) M (F_strategy A a b c) := by
  obtain ⟨d, rfl⟩ := ex_add hd
  have hl : (ssA A).length ≤ 24 := hA.1.2.2.1.1
  have e6 : M.1 52 6 = jn (ssA A).length := h.1.1.2.2.1
  have E52 : ∀ u1 u2 u3, MI (E_123 (d + 6) (52, [some (.ref 52), u1, u2, u3], [], M)) M (rfs A 1) := fun u1 u2 u3 => by rw [h_123_52]; exact m_ref (by omega) h (by omega)
  have hns : AOk (F_strategy A a b c).2 := k_strategy hA
  unfold F_strategy at *
  rw [q_123, c_within_n (by omega) (by omega) (by omega), kI_r, d_hasR (by omega) hA h, kI_r]
  simp only [bI_0]
  by_cases hk0 : 0 ≤ a.toInt ∧ a.toInt < 14
  case neg => rw [if_pos (by omega), if_pos (fun q => hk0 q.1)]; exact E52 _ _ _
  rw [if_neg (by omega)]
  obtain ⟨k, hk, rfl⟩ := inn (n := 14) hk0
  have E58 : stOk A (jn k) b c → MI (E_123 (d + 6) (58, [some (.ref 52), some (.int (jn k)), some (.int b), some (.int c)], [], M)) M (if ¬ stOk A (jn k) b c then rfs A 1 else if 24 ≤ (ssA A).length then rfs A 7 else (jn (ssA A).length, setK A (tsA A, rsA A, ssA A ++ [sgNew (jn k) b c], cmA A, sdA A))) := by
    intro hst
    rw [if_neg (not_not_intro hst), h_123_58, e6]
    by_cases h2 : 24 ≤ (ssA A).length
    · have h3 : (ssA A).length = 24 := by omega
      rw [if_pos h2, ieq_pos h3]; exact m_ref (by omega) h (by omega)
    rw [if_neg h2, ieq_neg (by omega) (by omega) (by omega), ast_n (n := 24) rfl (by omega) (by omega), oB_s]
    have fin : ∀ (x y : Int32), sgNew (jn k) b c = (k, x, y) → ∀ o : PO, o = rI (jn (ssA A).length) (sI (sI (sI (sI M 57 (va_up (M.1 57) (ssA A).length (jn k))) 58 (va_up (M.1 58) (ssA A).length x)) 59 (va_up (M.1 59) (ssA A).length y)) 52 (va_up (M.1 52) 6 (jn ((ssA A).length + 1)))) → MI o M (jn (ssA A).length, setK A (tsA A, rsA A, ssA A ++ [sgNew (jn k) b c], cmA A, sdA A)) := by
      intro x y hxy o ho
      have hfr : Fr [52, 57, 58, 59] M (sI (sI (sI (sI M 57 (va_up (M.1 57) (ssA A).length (jn k))) 58 (va_up (M.1 58) (ssA A).length x)) 59 (va_up (M.1 59) (ssA A).length y)) 52 (va_up (M.1 52) 6 (jn ((ssA A).length + 1)))) := ((((Fr.sI (by decide)).trans (Fr.sI (by decide))).trans (Fr.sI (by decide))).trans (Fr.sI (by decide)))
      refine ⟨_, ho, setK_m h ?_ (hfr.mono (by decide)) (fun j hj => ?_), Lo.fr hfr (by decide)⟩
      · obtain ⟨⟨⟨a1, a2, a3, a4, a5⟩, a6, a7, a8⟩, -⟩ := h
        refine ⟨⟨a1, a2, ?_, a4, a5⟩, a6, a7, fun i q hi => ?_⟩
        · refine Eq.trans (b := jn ((ssA A).length + 1)) ?_ (by simp [setK])
          exact (congrFun (sI_k _ _ _) 6).trans (if_pos rfl)
        · rw [hxy] at hi
          have hlt : ∀ (f : Nat → Int32) (x : Int32), i < (ssA A).length → va_up f (ssA A).length x i = f i := fun f x hi => by rw [up_at, if_neg (by omega)]
          have hat : ∀ (f : Nat → Int32) (x : Int32), i = (ssA A).length → va_up f (ssA A).length x i = x := fun f x hi => by rw [up_at, if_pos hi]
          rcases app_get hi with ⟨h3, h4⟩ | ⟨h3, h4⟩
          · obtain ⟨b1, b2, b3⟩ := a8 i q h4
            refine ⟨?_, ?_, ?_⟩
            · show va_up (M.1 57) _ _ i = _
              rw [hlt _ _ h3]; exact b1
            · show va_up (M.1 58) _ _ i = _
              rw [hlt _ _ h3]; exact b2
            · show va_up (M.1 59) _ _ i = _
              rw [hlt _ _ h3]; exact b3
          · subst h4
            refine ⟨?_, ?_, ?_⟩
            · show va_up (M.1 57) _ _ i = _
              rw [hat _ _ h3]
            · show va_up (M.1 58) _ _ i = _
              rw [hat _ _ h3]
            · show va_up (M.1 59) _ _ i = _
              rw [hat _ _ h3]
      · show va_up (M.1 52) 6 _ j = _
        rw [up_at, if_neg (by revert j hj; decide)]
    have hsg : sgNew (jn k) b c = (k, if k = 1 ∨ k = 2 then jz 1 else b, if k = 3 ∨ k = 4 then c else jz 1) := by
      unfold sgNew
      rw [jnN (by omega)]
      simp only [overB_n hk, jn_inj (show k < 2147483648 by omega) (show 1 < 2147483648 by omega), jn_inj (show k < 2147483648 by omega) (show 2 < 2147483648 by omega)]
    have seg : ∀ x, MI (oB (astI lay (sI M 57 (va_up (M.1 57) (ssA A).length (jn k))) 58 ((sI M 57 (va_up (M.1 57) (ssA A).length (jn k))).1 52 6) x) fun M2 => kI (pcl GG lay (d + 6) 71 [.int (jn k), .int (jn 3), .int (jn 4)] M2) fun r3 M3 => if r3 = jn 0 then oB (astI lay M3 59 (M2.1 52 6) (jz 1)) fun M4 => wr (sI M4 52 (va_up (M4.1 52) 6 (M4.1 52 6 + jn 1))) fun M5 => rI (M4.1 52 6) M5 else oB (astI lay M3 59 (M2.1 52 6) c) fun M4 => wr (sI M4 52 (va_up (M4.1 52) 6 (M4.1 52 6 + jn 1))) fun M5 => rI (M4.1 52 6) M5) M (jn (ssA A).length, setK A (tsA A, rsA A, ssA A ++ [sgNew (jn k) b c], cmA A, sdA A)) ∨ x ≠ (if k = 1 ∨ k = 2 then jz 1 else b) := by
      intro x
      by_cases hx : x = (if k = 1 ∨ k = 2 then jz 1 else b)
      case neg => exact Or.inr hx
      left
      rw [← hx] at hsg
      have e1 : (sI M 57 (va_up (M.1 57) (ssA A).length (jn k))).1 52 6 = jn (ssA A).length := e6
      rw [e1, ast_n (n := 24) rfl (by omega) (by omega), oB_s, c_within_n (by omega) (by omega) (by omega), kI_r]
      have e2 : (sI (sI M 57 (va_up (M.1 57) (ssA A).length (jn k))) 58 (va_up ((sI M 57 (va_up (M.1 57) (ssA A).length (jn k))).1 58) (ssA A).length x)).1 52 6 = jn (ssA A).length := e6
      rw [e2, ast_n (n := 24) rfl (by omega) (by omega), oB_s, ast_n (n := 24) rfl (by omega) (by omega), oB_s]
      simp only [wr_e, bI_0, jn_toInt (show k < 2147483648 by omega)]
      have e3 : ∀ (z : Int32), (sI (sI (sI M 57 (va_up (M.1 57) (ssA A).length (jn k))) 58 (va_up ((sI M 57 (va_up (M.1 57) (ssA A).length (jn k))).1 58) (ssA A).length x)) 59 (va_up ((sI (sI M 57 (va_up (M.1 57) (ssA A).length (jn k))) 58 (va_up ((sI M 57 (va_up (M.1 57) (ssA A).length (jn k))).1 58) (ssA A).length x)).1 59) (ssA A).length z)).1 52 6 = jn (ssA A).length := fun z => e6
      by_cases h5 : k = 3 ∨ k = 4
      · rw [if_pos h5] at hsg
        rw [if_neg (by omega), e3, jn_add]
        exact fin _ _ hsg _ rfl
      · rw [if_neg h5] at hsg
        rw [if_pos (by omega), e3, jn_add]
        exact fin _ _ hsg _ rfl
    by_cases k1 : k = 1
    · rw [ieq_pos k1]
      exact (seg (jz 1)).resolve_right (fun q => q (if_pos (Or.inl k1)).symm)
    rw [ieq_neg k1 (by omega) (by omega)]
    by_cases k2 : k = 2
    · rw [ieq_pos k2]
      exact (seg (jz 1)).resolve_right (fun q => q (if_pos (Or.inr k2)).symm)
    rw [ieq_neg k2 (by omega) (by omega)]
    exact (seg b).resolve_right (fun q => q (if_neg (fun q => q.elim k1 k2)).symm)
  have E35 : (k = 0 → 0 ≤ b.toInt ∧ b.toInt < (rsA A).length) → (2 < k → 0 ≤ b.toInt ∧ b.toInt < (ssA A).length) → MI (E_123 (d + 6) (35, [some (.ref 52), some (.int (jn k)), some (.int b), some (.int c)], [], M)) M (if ¬ stOk A (jn k) b c then rfs A 1 else if 24 ≤ (ssA A).length then rfs A 7 else (jn (ssA A).length, setK A (tsA A, rsA A, ssA A ++ [sgNew (jn k) b c], cmA A, sdA A))) := by
    intro g1 g2
    have st : ∀ (q : overB (jn k) → 0 ≤ c.toInt ∧ c.toInt < (ssA A).length), stOk A (jn k) b c := fun q => ⟨hk0, fun z => g1 (by rwa [jn_inj (by omega) (by omega)] at z), fun z => g2 (by rw [jn_toInt (by omega)] at z; omega), q⟩
    rw [h_123_35, c_within_n (by omega) (by omega) (by omega), kI_r, d_hasS (by omega) hA h, kI_r]
    simp only [bI_0, jn_toInt (show k < 2147483648 by omega)]
    by_cases h5 : k = 3 ∨ k = 4
    case neg =>
      rw [if_pos (by clear g1 g2 E58 hns; omega)]
      exact E58 (st (fun z => absurd (by rwa [overB_n hk] at z) h5))
    rw [if_neg (by clear g1 g2 E58 hns; omega)]
    by_cases h6 : 0 ≤ c.toInt ∧ c.toInt < (ssA A).length
    · rw [if_neg (not_not_intro h6)]
      exact E58 (st (fun z => h6))
    · rw [if_pos h6, if_pos (fun q : stOk A (jn k) b c => h6 (q.2.2.2 (by rw [overB_n hk]; exact h5)))]; exact E52 _ _ _
  have E22 : (k = 0 → 0 ≤ b.toInt ∧ b.toInt < (rsA A).length) → MI (E_123 (d + 6) (22, [some (.ref 52), some (.int (jn k)), some (.int b), some (.int c)], [], M)) M (if ¬ stOk A (jn k) b c then rfs A 1 else if 24 ≤ (ssA A).length then rfs A 7 else (jn (ssA A).length, setK A (tsA A, rsA A, ssA A ++ [sgNew (jn k) b c], cmA A, sdA A))) := by
    intro g1
    rw [h_123_22, d_hasS (by omega) hA h, kI_r]
    simp only [bI_0]
    by_cases h2 : 2 < k
    · rw [ilt_pos h2 (by omega)]
      by_cases h3 : 0 ≤ b.toInt ∧ b.toInt < (ssA A).length
      · rw [if_neg (not_not_intro h3)]; exact E35 g1 (fun _ => h3)
      · rw [if_pos h3, if_pos (fun q : stOk A (jn k) b c => h3 (q.2.2.1 (by rw [jn_toInt (by omega)]; omega)))]; exact E52 _ _ _
    · rw [ilt_neg (by omega) (by omega)]; exact E35 g1 (fun q => absurd q h2)
  by_cases h0 : k = 0
  · rw [ieq_pos h0]
    by_cases h3 : 0 ≤ b.toInt ∧ b.toInt < (rsA A).length
    · rw [if_neg (not_not_intro h3)]; exact E22 (fun _ => h3)
    · rw [if_pos h3, if_pos (fun q : stOk A (jn k) b c => h3 (q.2.1 (by rw [h0])))]; exact E52 _ _ _
  · rw [ieq_neg h0 (by omega) (by omega)]; exact E22 (fun q => absurd q h0)
theorem hel_lk (hA : AOk A) {s : Nat} (hs : s < 8) (hr : ¬ isR A s) : (hel A s = jz 1 ∧ lk (ssA A) (hel A s) = none) ∨ ∃ n q, n < 24 ∧ hel A s = jn n ∧ (ssA A)[n]? = some q ∧ lk (ssA A) (hel A s) = some q := by
  rcases (hA.2.2.2 s hs).2 with q | ⟨w, hw, q⟩ | ⟨o, ho, q⟩
  · have q2 : hel A s = jz 1 := q
    refine Or.inl ⟨q2, ?_⟩
    rw [q2]
    exact lk_none (by rw [jz_toInt (by omega)]; omega)
  · have q2 : hel A s = jn w := q
    have hw : w < (ssA A).length := hw
    have hl : (ssA A).length ≤ 24 := hA.1.2.2.1.1
    obtain ⟨n, t, h1, h2, h3, h4⟩ := lk_some (l := ssA A) (a := jn w) (by rw [jn_toInt (by omega)]; omega)
    exact Or.inr ⟨n, t, by omega, by rw [q2, h1], h3, by rw [q2, h4]⟩
  · have q2 : hel A s = jn (100 + o) := q
    rw [isR, q2, jn_toInt (by omega)] at hr; omega
theorem c_such (hd : 2 ≤ d) {k : Nat} (hk : k < 14) (ha : 0 ≤ a.toInt ∧ a.toInt < 5) : pcl GG lay d 11 [.int (jn k), .int a] M = rI (@bI (such k a) (Classical.propDecidable _)) M := by
  obtain ⟨d, rfl⟩ := ex_add hd
  rw [q_11, c_over (by omega), kI_r]
  simp only [rZ_0, rZ_1, rZ_b]
  obtain ⟨n, hn, rfl⟩ := inn (n := 5) ha
  have key : ∀ (P : Prop) [i1 : Decidable P] (i2 : Decidable (such k (jn n))), (such k (jn n) ↔ P) → @bI (such k (jn n)) i2 = bI P := fun P i1 i2 hp => by
    unfold bI
    by_cases q : P
    · rw [if_pos q, if_pos (hp.mpr q)]
    · rw [if_neg q, if_neg (fun z => q (hp.mp z))]
  have hs : ∀ m, m < 5 → (jn n = jn m) = (n = m) := fun m hm => jn_inj (by omega) (by omega)
  by_cases n0 : n = 0
  · subst n0
    rw [ieq_pos rfl, key True _ (by unfold such; simp [hs])]; rfl
  rw [ieq_neg n0 (by omega) (by omega)]
  by_cases n1 : n = 1
  · subst n1
    rw [ieq_pos rfl, key (k ≤ 2) _ (by unfold such; simp)]
    by_cases q : 2 < k
    · rw [ilt_pos q (by omega), bI_n (by omega)]
    · rw [ilt_neg (by omega) (by omega), bI_1 (by omega)]
  rw [ieq_neg n1 (by omega) (by omega)]
  by_cases n2 : n = 2
  · subst n2
    rw [ieq_pos rfl, key (5 ≤ k) _ (by unfold such; simp [hs])]
    by_cases q : k < 5
    · rw [ilt_pos q (by omega), bI_n (by omega)]
    · rw [ilt_neg (by omega) (by omega), bI_1 (by omega)]
  rw [ieq_neg n2 (by omega) (by omega)]
  by_cases n3 : n = 3
  · subst n3
    rw [ieq_pos rfl, key (overB (jn k)) _ (by rw [overB_n hk]; unfold such; simp [hs])]
  rw [ieq_neg n3 (by omega) (by omega), key (6 ≤ k ∧ k ≤ 12) _ (by obtain rfl : n = 4 := by omega
                                                                   unfold such; simp [hs])]
  by_cases q : k < 6
  · rw [ilt_pos q (by omega), bI_n (by omega)]
  rw [ilt_neg (by omega) (by omega)]
  by_cases q2 : 12 < k
  · rw [ilt_pos q2 (by omega), bI_n (by omega)]
  · rw [ilt_neg (by omega) (by omega), bI_1 (by omega)]
theorem d_such (hd : 2 ≤ d) {k : Nat} (hk : k < 14) (ha : 0 ≤ a.toInt ∧ a.toInt < 5) : pcl GG lay d 87 [.int (jn k), .int a] M = rI (@bI (such k a) (Classical.propDecidable _)) M := by
  rw [← c_such (M := M) hd hk ha]
  obtain ⟨d, rfl⟩ := ex_add hd
  rw [q_11, q_87, c_over (by omega), kI_r, c_within_n (by omega) (by omega) (by omega), kI_r]
  simp only [rZ_0, rZ_1, rZ_b]
  obtain ⟨n, hn, rfl⟩ := inn (n := 5) ha
  by_cases n0 : n = 0
  · subst n0; rw [ieq_neg (by omega) (by omega) (by omega), ieq_neg (by omega) (by omega) (by omega), ieq_neg (by omega) (by omega) (by omega), ieq_neg (by omega) (by omega) (by omega), ieq_pos rfl]
  rw [ieq_neg n0 (by omega) (by omega)]
  by_cases n1 : n = 1
  · subst n1
    rw [ieq_pos rfl, ieq_pos rfl]
    by_cases q : 2 < k
    · rw [ilt_pos q (by omega), ilt_neg (by omega) (by omega)]
    · rw [ilt_pos (show k < 3 by omega) (by omega), ilt_neg (by omega) (by omega)]
  rw [ieq_neg n1 (by omega) (by omega), ieq_neg n1 (by omega) (by omega)]
  by_cases n2 : n = 2
  · subst n2
    rw [ieq_pos rfl, ieq_pos rfl]
    by_cases q : k < 5
    · rw [ilt_neg (by omega) (by omega), ilt_pos q (by omega)]
    · rw [ilt_pos (show 4 < k by omega) (by omega), ilt_neg (by omega) (by omega)]
  rw [ieq_neg n2 (by omega) (by omega), ieq_neg n2 (by omega) (by omega)]
  by_cases n3 : n = 3
  · subst n3
    rw [ieq_pos rfl, ieq_pos rfl]
    unfold bI
    by_cases q : k = 3
    · rw [ieq_pos q, if_pos (Or.inl (by rw [q]))]
    rw [ieq_neg q (by omega) (by omega)]
    by_cases q2 : k = 4
    · rw [ieq_pos q2, if_pos (Or.inr (by rw [q2]))]
    rw [ieq_neg q2 (by omega) (by omega), if_neg]
    rw [overB_n hk]; omega
  rw [ieq_neg n3 (by omega) (by omega), ieq_neg n3 (by omega) (by omega), ieq_pos (by omega)]
  unfold bI
  rw [jn_toInt (by omega)]
  by_cases q : k < 6
  · rw [ilt_pos q (by omega), if_neg (by omega)]
  rw [ilt_neg (by omega) (by omega)]
  by_cases q2 : 12 < k
  · rw [ilt_pos q2 (by omega), if_neg (by omega)]
  · rw [ilt_neg (by omega) (by omega), if_pos (by omega)]
end
