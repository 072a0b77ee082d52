/-! same: equal, equal by what commutes, or not -/
def eqv (cm : Int32 → Bool) : Tm → Tm → Bool
  | .leaf, _ => false
  | .inner _ c _ a b, u => match u with
    | .leaf => false
    | .inner _ c' _ a' b' => if c = c' then (if is2 c then (eqv cm a a' && eqv cm b b') || (cm c && (eqv cm a b' && eqv cm b a')) else if is1 c then eqv cm a a' else true) else false
theorem eqv_n {cm : Int32 → Bool} {c c' : Int32} {a b a' b' : Tm} : eqv cm (Nd c a b) (Nd c' a' b') = if c = c' then (if is2 c then (eqv cm a a' && eqv cm b b') || (cm c && (eqv cm a b' && eqv cm b a')) else if is1 c then eqv cm a a' else true) else false := rfl
theorem eqv_sz {cm : Int32 → Bool} : ∀ t, wf t → ∀ u, wf u → eqv cm t u = true → sz t = sz u := by
  refine wf_ind (fun c hc => ?_) (fun c a hc ha iha => ?_) (fun c a b hc ha hb iha ihb => ?_)
  · intro u hu h
    obtain ⟨c', x, y, rfl, hc'⟩ := wf_cases hu
    rw [eqv_n] at h
    by_cases hcc : c = c'
    · subst hcc
      rcases hc' with ⟨_, rfl, rfl⟩ | ⟨h1, _, _⟩ | ⟨h1, _, _⟩
      · rfl
      · omega
      · omega
    · rw [if_neg hcc] at h; cases h
  · intro u hu h
    obtain ⟨c', x, y, rfl, hc'⟩ := wf_cases hu
    rw [eqv_n] at h
    by_cases hcc : c = c'
    · subst hcc
      rw [if_pos rfl, if_neg (show ¬ is2 c by omega), if_pos hc] at h
      rcases hc' with ⟨h1, _, _⟩ | ⟨h1, hx, rfl⟩ | ⟨h1, _, _⟩
      · omega
      · rw [sz_1, sz_1, iha x hx h]
      · omega
    · rw [if_neg hcc] at h; cases h
  · intro u hu h
    obtain ⟨c', x, y, rfl, hc'⟩ := wf_cases hu
    rw [eqv_n] at h
    by_cases hcc : c = c'
    · subst hcc
      rw [if_pos rfl, if_pos hc] at h
      rcases hc' with ⟨h1, _, _⟩ | ⟨h1, _, _⟩ | ⟨h1, hx, hy⟩
      · omega
      · omega
      · rw [sz_2, sz_2]
        simp only [Bool.or_eq_true, Bool.and_eq_true] at h
        rcases h with ⟨h1, h2⟩ | ⟨-, h1, h2⟩
        · rw [iha x hx h1, ihb y hy h2]
        · rw [iha y hy h1, ihb x hx h2]; omega
    · rw [if_neg hcc] at h; cases h
def F_same (A : AT) (a b : Int32) : Int32 × AT := if ¬ hsT A a then rfs A 1 else if ¬ hsT A b then rfs A 1 else (if en (tmN A a) = en (tmN A b) then jn 0 else if eqv (cmB (cmA A)) (tmN A a) (tmN A b) = true then jn 1 else jn 2, A)
section
variable {d : Nat} {A : AT} {M : PM} {a b c e f : Int32} {v : Int64}
theorem m_eqv {cm : Nat} (hcm : cm < 16) (h11 : M.1 52 11 = jn cm) : ∀ t, wf t → ∀ u, wf u → ∀ p q d, sz t + 8 ≤ d → At (M.1 54) p (en t) → p + sz t ≤ 960 → At (M.1 54) q (en u) → q + sz u ≤ 960 → pcl GG lay d 105 [.ref 52, .int (jn p), .int (jn q)] M = rI (bI (eqv (cmB cm) t u = true)) M := by
  have nosz : ∀ t, wf t → ∀ u, wf u → sz t ≠ sz u → ¬ eqv (cmB cm) t u = true := fun t ht u hu h q => h (eqv_sz t ht u hu q)
  refine wf_ind (fun c hc => ?_) (fun c a hc ha iha => ?_) (fun c a b hc ha hb iha ihb => ?_)
  · intro u hu p q d hd hat hp hatu hq
    obtain ⟨d, rfl⟩ := ex_add (k := 1) (show 1 ≤ d by omega)
    have ht := wf_0 hc
    have zu := sz_pos u hu
    have zt := sz_pos _ ht
    obtain ⟨c', x, y, rfl, hc'⟩ := wf_cases hu
    have hp0 : M.1 54 p = c := by rw [en_n] at hat; exact hat.1
    have hq0 : M.1 54 q = c' := by rw [en_n] at hatu; exact hatu.1
    rw [q_105, ald_n (n := 960) rfl (by omega) (by omega), oB_s, ald_n (n := 960) rfl (by omega) (by omega), oB_s, hp0, hq0]
    by_cases hcc : c = c'
    case neg =>
      rw [if_neg hcc, bI_n (by rw [eqv_n, if_neg hcc]; simp), rZ_0]
    subst hcc
    rw [if_pos rfl, c_span (n := 960) (by omega) rfl (by omega) ht hat hp, kI_r, c_span (n := 960) (by omega) rfl (by omega) hu hatu hq, kI_r]
    rcases hc' with ⟨_, rfl, rfl⟩ | ⟨h1, _, _⟩ | ⟨h1, _, _⟩
    · rw [ieq_pos rfl, c_aritym (by omega), kI_r, arR_0 hc, ieq_pos rfl, rZ_1, bI_1]
      rw [eqv_n, if_pos rfl, if_neg (show ¬ is2 c by omega), if_neg (show ¬ is1 c by omega)]
    · omega
    · omega
  · intro u hu p q d hd hat hp hatu hq
    obtain ⟨d, rfl⟩ := ex_add (k := 1) (show 1 ≤ d by omega)
    have ht := wf_1 hc ha
    have zu := sz_pos u hu
    have zt := sz_pos _ ht
    have st : sz (Nd c a Lf) = sz a + 1 := sz_1 c a
    obtain ⟨c', x, y, rfl, hc'⟩ := wf_cases hu
    have hp0 : M.1 54 p = c := by rw [en_n] at hat; exact hat.1
    have hq0 : M.1 54 q = c' := by rw [en_n] at hatu; exact hatu.1
    rw [q_105, ald_n (n := 960) rfl (by omega) (by omega), oB_s, ald_n (n := 960) rfl (by omega) (by omega), oB_s, hp0, hq0]
    by_cases hcc : c = c'
    case neg =>
      rw [if_neg hcc, bI_n (by rw [eqv_n, if_neg hcc]; simp), rZ_0]
    subst hcc
    rw [if_pos rfl, c_span (n := 960) (by omega) rfl (by omega) ht hat hp, kI_r, c_span (n := 960) (by omega) rfl (by omega) hu hatu hq, kI_r]
    by_cases hsz : sz (Nd c a Lf) = sz (Nd c x y)
    case neg => rw [ieq_neg hsz (by omega) (by omega), bI_n (nosz _ ht _ hu hsz), rZ_0]
    rcases hc' with ⟨h1, _, _⟩ | ⟨h1, hx, rfl⟩ | ⟨h1, _, _⟩
    · omega
    · have su : sz (Nd c x Lf) = sz x + 1 := sz_1 c x
      have hata : At (M.1 54) (p + 1) (en a) := by rw [en_1] at hat; exact hat.2
      have hatx : At (M.1 54) (q + 1) (en x) := by rw [en_1] at hatu; exact hatu.2
      rw [ieq_pos hsz, c_aritym (by omega), kI_r, arR_1 hc, ieq_neg (by omega) (by omega) (by omega), c_arg0 (by omega), kI_r, c_arg0 (by omega), kI_r, ieq_pos rfl, iha x hx (p + 1) (q + 1) d (by omega) hata (by omega) hatx (by omega), kI_r, rZ_b, eqv_n, if_pos rfl, if_neg (show ¬ is2 c by omega), if_pos hc]
    · omega
  · intro u hu p q d hd hat hp hatu hq
    obtain ⟨d, rfl⟩ := ex_add (k := 1) (show 1 ≤ d by omega)
    have ht := wf_2 hc ha hb
    have zu := sz_pos u hu
    have zt := sz_pos _ ht
    have za := sz_pos a ha
    have zb := sz_pos b hb
    have st : sz (Nd c a b) = sz a + sz b + 1 := sz_2 c a b
    obtain ⟨c', x, y, rfl, hc'⟩ := wf_cases hu
    have hp0 : M.1 54 p = c := by rw [en_n] at hat; exact hat.1
    have hq0 : M.1 54 q = c' := by rw [en_n] at hatu; exact hatu.1
    rw [q_105, ald_n (n := 960) rfl (by omega) (by omega), oB_s, ald_n (n := 960) rfl (by omega) (by omega), oB_s, hp0, hq0]
    by_cases hcc : c = c'
    case neg =>
      rw [if_neg hcc, bI_n (by rw [eqv_n, if_neg hcc]; simp), rZ_0]
    subst hcc
    rw [if_pos rfl, c_span (n := 960) (by omega) rfl (by omega) ht hat hp, kI_r, c_span (n := 960) (by omega) rfl (by omega) hu hatu hq, kI_r]
    by_cases hsz : sz (Nd c a b) = sz (Nd c x y)
    case neg => rw [ieq_neg hsz (by omega) (by omega), bI_n (nosz _ ht _ hu hsz), rZ_0]
    rcases hc' with ⟨h1, _, _⟩ | ⟨h1, _, _⟩ | ⟨h1, hx, hy⟩
    · omega
    · omega
    have su : sz (Nd c x y) = sz x + sz y + 1 := sz_2 c x y
    have zx := sz_pos x hx
    have zy := sz_pos y hy
    rw [en_2] at hat hatu
    obtain ⟨hata, hatb⟩ := (At_app _ _ _).mp hat.2
    obtain ⟨hatx, haty⟩ := (At_app _ _ _).mp hatu.2
    have hata : At (M.1 54) (p + 1) (en a) := hata
    have hatb : At (M.1 54) (p + 1 + sz a) (en b) := hatb
    have hatx : At (M.1 54) (q + 1) (en x) := hatx
    have haty : At (M.1 54) (q + 1 + sz x) (en y) := haty
    have eAX := iha x hx (p + 1) (q + 1) d (by omega) hata (by omega) hatx (by omega)
    have eBY := ihb y hy (p + 1 + sz a) (q + 1 + sz x) d (by omega) hatb (by omega) haty (by omega)
    have eAY := iha y hy (p + 1) (q + 1 + sz x) d (by omega) hata (by omega) haty (by omega)
    have eBX := ihb x hx (p + 1 + sz a) (q + 1) d (by omega) hatb (by omega) hatx (by omega)
    rw [ieq_pos hsz, c_aritym (by omega), kI_r, arR_2 hc, ieq_neg (by omega) (by omega) (by omega), c_arg0 (by omega), kI_r, c_arg0 (by omega), kI_r, ieq_neg (by omega) (by omega) (by omega), c_arg1 (n := 960) (by omega) rfl (by omega) ha hata (by omega), kI_r, c_arg1 (n := 960) (by omega) rfl (by omega) hx hatx (by omega), kI_r, eAX, kI_r, eqv_n, if_pos rfl, if_pos hc]
    have tail : (kI (pcl GG lay d 97 [.ref 52, .int c] M) fun r11 M11 => (if r11 = jn 0 then (rZ (jn 0) M11) else (kI (pcl GG lay d 105 [.ref 52, .int (jn (p + 1)), .int (jn (q + 1 + sz x))] M11) fun r12 M12 => (if r12 = jn 0 then (rZ (jn 0) M12) else (kI (pcl GG lay d 105 [.ref 52, .int (jn (p + 1 + sz a)), .int (jn (q + 1))] M12) fun r13 M13 => (if r13 = jn 0 then (rZ (jn 0) M13) else (rZ (jn 1) M13))))))) = rI (bI ((cmB cm c && (eqv (cmB cm) a y && eqv (cmB cm) b x)) = true)) M := by
      rw [c_comm (by omega) hcm h11, kI_r]
      by_cases k1 : cmB cm c = true
      case neg => rw [bI_n k1, ieq_pos rfl, rZ_0, bI_n (by simp [k1])]
      rw [bI_1 k1, ieq_neg (by omega) (by omega) (by omega), eAY, kI_r]
      by_cases k2 : eqv (cmB cm) a y = true
      case neg => rw [bI_n k2, ieq_pos rfl, rZ_0, bI_n (by simp [k2])]
      rw [bI_1 k2, ieq_neg (by omega) (by omega) (by omega), eBX, kI_r]
      by_cases k3 : eqv (cmB cm) b x = true
      case neg => rw [bI_n k3, ieq_pos rfl, rZ_0, bI_n (by simp [k3])]
      rw [bI_1 k3, ieq_neg (by omega) (by omega) (by omega), rZ_1, bI_1 (by simp [k1, k2, k3])]
    by_cases k1 : eqv (cmB cm) a x = true
    · rw [bI_1 k1, ieq_neg (by omega) (by omega) (by omega), eBY, kI_r]
      by_cases k2 : eqv (cmB cm) b y = true
      · rw [bI_1 k2, ieq_neg (by omega) (by omega) (by omega), rZ_1, bI_1 (by simp [k1, k2])]
      · rw [bI_n k2, ieq_pos rfl, tail]
        have k2 : eqv (cmB cm) b y = false := by simpa using k2
        rw [k1, k2]; rfl
    · rw [bI_n k1, ieq_pos rfl, tail]
      have k1 : eqv (cmB cm) a x = false := by simpa using k1
      rw [k1]; rfl
theorem m_same (hd : 60 ≤ d) (hA : AOk A) (h : RM A M) : MI (pcl GG lay d 106 [.ref 52, .int a, .int b] M) M (F_same A a b) := by
  obtain ⟨d, rfl⟩ := ex_add hd
  unfold F_same
  rw [q_106, d_hasT (by omega) hA h, kI_r]
  by_cases h1 : hsT A a
  case neg => rw [bI_n h1, ieq_pos rfl, if_pos h1]; exact m_ref (by omega) h (by omega)
  rw [bI_1 h1, ieq_neg (by omega) (by omega) (by omega), if_neg (Classical.not_not.mpr h1), d_hasT (by omega) hA h, kI_r]
  by_cases h2 : hsT A b
  case neg => rw [bI_n h2, ieq_pos rfl, if_pos h2]; exact m_ref (by omega) h (by omega)
  rw [bI_1 h2, ieq_neg (by omega) (by omega) (by omega), if_neg (Classical.not_not.mpr h2)]
  obtain ⟨n, t, rfl, g1, g2, g3, g4, g5⟩ := ts_of hA h1
  obtain ⟨m, u, rfl, k1, k2, k3, k4, k5⟩ := ts_of hA h2
  have e1 : At (M.1 54) (40 * n) (en t) := (h.1.2.1 n t g1).2
  have e2 : At (M.1 54) (40 * m) (en u) := (h.1.2.1 m u k1).2
  have e11 : M.1 52 11 = jn (cmA A) := h.1.1.2.2.2.1
  rw [g2, k2, jn_mul, jn_mul, c_same (n := 960) (m := 960) (by omega) rfl (by omega) rfl (by omega) g3 k3 e1 e2 (by omega) (by omega), kI_r]
  by_cases hs : en t = en u
  · rw [bI_1 hs, ieq_neg (by omega) (by omega) (by omega), if_pos hs]
    exact ⟨M, rfl, h, Lo.rf⟩
  rw [bI_n hs, ieq_pos rfl, if_neg hs, m_eqv hA.1.2.2.2 e11 t g3 u k3 (40 * n) (40 * m) (d + 59) (by omega) e1 (by omega) e2 (by omega), kI_r]
  by_cases hq : eqv (cmB (cmA A)) t u = true
  · rw [bI_1 hq, ieq_neg (by omega) (by omega) (by omega), if_pos hq]
    exact ⟨M, rfl, h, Lo.rf⟩
  · rw [bI_n hq, ieq_pos rfl, if_neg hq]
    exact ⟨M, rfl, h, Lo.rf⟩
end
