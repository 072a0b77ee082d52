/-! copy, show -/
theorem cp_back {α : Type} (g f : Nat → α) (sp dp n m : Nat) (h : m < n) : (fun j => if dp + m ≤ j ∧ j < dp + n then g (sp + (j - dp)) else f j) = va_up (fun j => if dp + (m + 1) ≤ j ∧ j < dp + n then g (sp + (j - dp)) else f j) (dp + m) (g (sp + m)) := by
  funext j
  unfold va_up
  by_cases e : j = dp + m
  · rw [if_pos e, if_pos (by omega)]; congr 1; omega
  · rw [if_neg e]
    by_cases h2 : dp + m ≤ j ∧ j < dp + n
    · rw [if_pos h2]
      show _ = if dp + (m + 1) ≤ j ∧ j < dp + n then g (sp + (j - dp)) else f j
      rw [if_pos (by omega)]
    · rw [if_neg h2]
      show _ = if dp + (m + 1) ≤ j ∧ j < dp + n then g (sp + (j - dp)) else f j
      rw [if_neg (by omega)]
theorem cp_bk0 {α : Type} (g f : Nat → α) (sp dp n : Nat) : (fun j => if dp + 0 ≤ j ∧ j < dp + n then g (sp + (j - dp)) else f j) = cp g f sp dp n := rfl
theorem cp_bkn {α : Type} (g f : Nat → α) (sp dp n : Nat) : (fun j => if dp + n ≤ j ∧ j < dp + n then g (sp + (j - dp)) else f j) = f := by
  funext j; rw [if_neg (by omega)]
section
variable {d : Nat} {A : AT} {M : PM} {a b c e f : Int32} {v : Int64}
theorem back_x {u1 u2 u3 u4 u5 : Option Value} {p q n : Nat} (hp : p + n ≤ 1280) (hq : q + n ≤ 1280) (hpq : p ≤ q) : ∀ m, m ≤ n → E_229 (d + 1) (32, [some (.ref 15), u1, u2, u3, u4, u5, some (.int (jn p)), some (.int (jn q)), some (.int (jn m - jn 1))], [], sL M 18 (fun j => if q + m ≤ j ∧ j < q + n then M.2 18 (p + (j - q)) else M.2 18 j)) = rV (sL M 18 (cp (M.2 18) (M.2 18) p q n)) := by
  intro m
  induction m with
  | zero =>
    intro hm
    rw [jn_subz (by omega), h_229_32, if_pos (by decide), cp_bk0]
  | succ m ih =>
    intro hm
    rw [jn_sub (by omega), Nat.add_sub_cancel, h_229_32, ilt_neg (by omega) (by omega), jn_add, c_getL (n := 1280) (by omega) rfl (by omega) (by omega), kL_r, jn_add, c_putL (n := 1280) (by omega) rfl (by omega) (by omega), kV_r, sL_k, sL_sL]
    have e1 : (if q + (m + 1) ≤ p + m ∧ p + m < q + n then M.2 18 (p + (p + m - q)) else M.2 18 (p + m)) = M.2 18 (p + m) := by rw [if_neg (by omega)]
    rw [e1, ← cp_back _ _ _ _ _ _ (by omega)]
    have e2 : jn m + jz 1 = jn m - jn 1 := by
      unfold jn jz; rw [← Int32.ofInt_add, ← Int32.ofInt_sub]; congr 1
    rw [e2, ih (by omega)]
theorem forw_x {u1 u2 u3 u4 : Option Value} {p q n : Nat} (hp : p + n ≤ 1280) (hq : q + n ≤ 1280) (hpq : q ≤ p) : ∀ m k, k + m = n → E_229 (d + 1) (73, [some (.ref 15), u1, u2, u3, u4, some (.int (jn n)), some (.int (jn p)), some (.int (jn q)), some (.int (jn k))], [], sL M 18 (cp (M.2 18) (M.2 18) p q k)) = rV (sL M 18 (cp (M.2 18) (M.2 18) p q n)) := by
  intro m
  induction m with
  | zero =>
    intro k hk
    obtain rfl : k = n := by omega
    rw [h_229_73, ilt_neg (by omega) (by omega)]
  | succ m ih =>
    intro k hk
    rw [h_229_73, ilt_pos (by omega) (by omega), jn_add, c_getL (n := 1280) (by omega) rfl (by omega) (by omega), kL_r, jn_add, c_putL (n := 1280) (by omega) rfl (by omega) (by omega), kV_r, sL_k, sL_sL, cp_out (by omega), cp_succ, jn_add, ih (k + 1) (by omega)]
theorem c_move {s t i j n : Nat} (hd : 2 ≤ d) (hs : s < 8) (ht : t < 8) (hi : i + n ≤ 160) (hj : j + n ≤ 160) : pcl GG lay d 229 [.ref 15, .int (jn s), .int (jn t), .int (jn i), .int (jn j), .int (jn n)] M = rV (sL M 18 (cp (M.2 18) (M.2 18) (160 * s + i) (160 * t + j) n)) := by
  obtain ⟨d, rfl⟩ := ex_add hd
  rw [q_229, jn_mul, jn_mul, jn_add, jn_add, Nat.mul_comm s 160, Nat.mul_comm t 160]
  by_cases h : 160 * s + i < 160 * t + j
  · rw [ilt_pos h (by omega)]
    have := back_x (d := d) (M := M) (u1 := some (.int (jn s))) (u2 := some (.int (jn t))) (u3 := some (.int (jn i))) (u4 := some (.int (jn j))) (u5 := some (.int (jn n))) (p := 160 * s + i) (q := 160 * t + j) (n := n) (by omega) (by omega) (by omega) n (by omega)
    rwa [cp_bkn, sL_self] at this
  · rw [ilt_neg (by omega) (by omega)]
    have := forw_x (d := d) (M := M) (u1 := some (.int (jn s))) (u2 := some (.int (jn t))) (u3 := some (.int (jn i))) (u4 := some (.int (jn j))) (p := 160 * s + i) (q := 160 * t + j) (n := n) (by omega) (by omega) (by omega) n 0 (by omega)
    rwa [cp_0, sL_self] at this
theorem back_m {u5 : Option Value} {s t i j n : Nat} (hs : s < 8) (ht : t < 8) (hi : i + n ≤ 160) (hj : j + n ≤ 160) (hpq : 160 * s + i ≤ 160 * t + j) : ∀ m, m ≤ n → E_83 d (203, [some (.ref 52), some (.int (jn s)), some (.int (jn t)), some (.int (jn i)), some (.int (jn j)), u5, some (.int (jn m - jn 1))], [], sL M 63 (fun k => if 160 * t + j + m ≤ k ∧ k < 160 * t + j + n then M.2 63 (160 * s + i + (k - (160 * t + j))) else M.2 63 k)) = rI (jn 1) (sL M 63 (cp (M.2 63) (M.2 63) (160 * s + i) (160 * t + j) n)) := by
  intro m
  induction m with
  | zero =>
    intro hm
    rw [jn_subz (by omega), h_83_203, if_pos (by decide), h_83_295, cp_bk0]
  | succ m ih =>
    intro hm
    rw [jn_sub (by omega), Nat.add_sub_cancel, h_83_203, ilt_neg (by omega) (by omega), jn_mul, jn_mul, jn_add, jn_add, jn_add, jn_add, ald_l (n := 1280) rfl (by omega) (by omega), oB_s, ast_l (n := 1280) rfl (by omega) (by omega), oB_s, sL_k, sL_sL]
    have e1 : (if 160 * t + j + (m + 1) ≤ 160 * s + i + m ∧ 160 * s + i + m < 160 * t + j + n then M.2 63 (160 * s + i + (160 * s + i + m - (160 * t + j))) else M.2 63 (160 * s + i + m)) = M.2 63 (160 * s + i + m) := by rw [if_neg (by omega)]
    rw [e1, ← cp_back _ _ _ _ _ _ (by omega)]
    have e2 : jn m + jz 1 = jn m - jn 1 := by
      unfold jn jz; rw [← Int32.ofInt_add, ← Int32.ofInt_sub]; congr 1
    rw [e2, ih (by omega)]
theorem forw_m {s t i j n : Nat} (hs : s < 8) (ht : t < 8) (hi : i + n ≤ 160) (hj : j + n ≤ 160) (hpq : 160 * t + j ≤ 160 * s + i ∨ 160 * s + i + n ≤ 160 * t + j) : ∀ m k, k + m = n → E_83 d (251, [some (.ref 52), some (.int (jn s)), some (.int (jn t)), some (.int (jn i)), some (.int (jn j)), some (.int (jn n)), some (.int (jn k))], [], sL M 63 (cp (M.2 63) (M.2 63) (160 * s + i) (160 * t + j) k)) = rI (jn 1) (sL M 63 (cp (M.2 63) (M.2 63) (160 * s + i) (160 * t + j) n)) := by
  intro m
  induction m with
  | zero =>
    intro k hk
    obtain rfl : k = n := by omega
    rw [h_83_251, ilt_neg (by omega) (by omega), h_83_295]
  | succ m ih =>
    intro k hk
    rw [h_83_251, ilt_pos (by omega) (by omega), jn_mul, jn_mul, jn_add, jn_add, jn_add, jn_add, ald_l (n := 1280) rfl (by omega) (by omega), oB_s, ast_l (n := 1280) rfl (by omega) (by omega), oB_s, sL_k, sL_sL, cp_out (by omega), cp_succ, jn_add, ih (k + 1) (by omega)]
theorem SX_copy {x y z : Nat} {h : HT} {s t i j n : Nat} (hs : s < 8) (ht : t < 8) (hi : i + n ≤ h.2.1 s) (hj : j + n ≤ h.2.1 t) (hok : ∀ t, t < 8 → h.2.1 t ≤ 160) (hx : SX x y z h M) : SX x y z (h.1, h.2.1, va_up h.2.2 t (cp (h.2.2 s) (h.2.2 t) i j n)) (sL M z (cp (M.2 z) (M.2 z) (160 * s + i) (160 * t + j) n)) := by
  intro r hr
  obtain ⟨g1, g2, g3⟩ := hx r hr
  obtain ⟨-, -, g4⟩ := hx s hs
  refine ⟨g1, g2, fun k hk => ?_⟩
  have hk : k < h.2.1 r := hk
  have h6 := hok r hr
  have h7 := hok s hs
  have h8 := hok t ht
  rw [sL_k]
  simp only [up_at]
  by_cases e : r = t
  · subst e
    simp only [if_true]
    by_cases e2 : j ≤ k ∧ k < j + n
    · rw [cp_in (by omega), cp_in e2, show 160 * s + i + (160 * r + k - (160 * r + j)) = 160 * s + (i + (k - j)) by omega, g4 _ (by omega)]
    · rw [cp_out (by omega), cp_out (by omega)]; exact g3 k hk
  · rw [cp_out (by omega), if_neg e]; exact g3 k hk
theorem c_copyR (hd : 5 ≤ d) (hA : AOk A) (h : RX A M) : pcl GG lay d 6 [.ref 0, .int a, .int b] M = rI (jz (if ¬ (thr a ∧ thr b) then 1 else if isW A a.toInt.toNat ∨ isW A b.toInt.toNat ∨ isR A a.toInt.toNat ∧ isR A b.toInt.toNat ∧ hel A a.toInt.toNat ≠ hel A b.toInt.toNat then 2 else if (hel A a.toInt.toNat).toInt < 0 ∨ (hel A b.toInt.toNat).toInt < 0 then 3 else 0)) M := by
  obtain ⟨d, rfl⟩ := ex_add hd
  rw [q_6, c_thr (by omega), kI_r, c_thr (by omega), kI_r]
  simp only [bI_0]
  by_cases h1 : thr a
  case neg => rw [if_pos h1, if_pos (fun q => h1 q.1)]
  rw [if_neg (not_not_intro h1)]
  by_cases h2 : thr b
  case neg => rw [if_pos h2, if_pos (fun q => h2 q.2)]
  rw [if_neg (not_not_intro h2), if_neg (not_not_intro ⟨h1, h2⟩)]
  obtain ⟨s, hs, rfl⟩ := inn (n := 8) h1
  obtain ⟨t, ht, rfl⟩ := inn (n := 8) h2
  rw [jnN (by omega), jnN (by omega), c_isW (by omega) h hs, kI_r, c_isW (by omega) h ht, kI_r, c_held (by omega) h hs, kI_r, c_held (by omega) h ht, kI_r, c_held (by omega) h hs, kI_r, c_held (by omega) h ht, kI_r]
  simp only [bI_0]
  by_cases h3 : isW A s
  · rw [if_neg (not_not_intro h3), if_pos (Or.inl h3)]
  rw [if_pos h3]
  by_cases h4 : isW A t
  · rw [if_neg (not_not_intro h4), if_pos (Or.inr (Or.inl h4))]
  rw [if_pos h4]
  have hn : ∀ s, s < 8 → ¬ isW A s → (hel A s = jz 1 ↔ (hel A s).toInt < 0) := by
    intro s hs hw
    rcases (hA.2.2.2 s hs).2 with q | ⟨w, hw2, q⟩ | ⟨o, ho, q⟩
    · have q2 : hel A s = jz 1 := q
      rw [q2, jz_toInt (by omega)]; simp
    · have q2 : hel A s = jn w := q
      have := hA.1.2.2.1.1
      rw [isW, q2, jn_toInt (by omega)] at hw; omega
    · have q2 : hel A s = jn (100 + o) := q
      rw [q2, jn_jz (by omega) (by omega), jn_toInt (by omega)]
      simp only [false_iff]; omega
  by_cases h5 : hel A s = jz 1
  · have h5' := (hn s hs h3).mp h5
    rw [if_pos h5, if_neg (by omega), if_pos (Or.inl h5')]
  rw [if_neg h5]
  have h5' : ¬ (hel A s).toInt < 0 := fun q => h5 ((hn s hs h3).mpr q)
  by_cases h6 : hel A t = jz 1
  · have h6' := (hn t ht h4).mp h6
    rw [if_pos h6, if_neg (by omega), if_pos (Or.inr h6')]
  rw [if_neg h6]
  have h6' : ¬ (hel A t).toInt < 0 := fun q => h6 ((hn t ht h4).mpr q)
  by_cases h7 : hel A s = hel A t
  · rw [if_pos h7, if_neg (fun q => q.elim h3 (fun q => q.elim h4 (fun q => q.2.2 h7))), if_neg (by omega)]; rfl
  · rw [if_neg h7, if_pos (Or.inr (Or.inr ⟨by omega, by omega, h7⟩))]
theorem x_copy (hd : 6 ≤ d) (hA : AOk A) (h : RX A M) : XI (pcl GG lay d 5 [.ref 0, .int a, .int b, .int c, .int e, .int f] M) M (F_copy A a b c e f) := by
  obtain ⟨d, rfl⟩ := ex_add hd
  rw [q_5, c_copyR (by omega) hA h, kI_r]
  unfold F_copy
  by_cases h1 : thr a ∧ thr b
  case neg => rw [if_pos h1, if_pos h1, ite_nz (by omega), if_neg (by omega)]; exact x_ref (by omega) h (by omega)
  rw [if_neg (not_not_intro h1), if_neg (not_not_intro h1)]
  split
  · rw [ite_nz (by omega), if_neg (by omega)]; exact x_ref (by omega) h (by omega)
  rename_i h2
  split
  · rw [ite_nz (by omega), if_neg (by omega)]; exact x_ref (by omega) h (by omega)
  rename_i h3
  rw [ite_nz (by omega), if_pos rfl]
  obtain ⟨ha, hb⟩ := h1
  obtain ⟨s, hs, rfl⟩ := inn (n := 8) ha
  obtain ⟨t, ht, rfl⟩ := inn (n := 8) hb
  rw [jnN (by omega), jnN (by omega)] at *
  have r1 : isR A s := by have : ¬ isW A s := fun q => h2 (Or.inl q); omega
  have r2 : isR A t := by have : ¬ isW A t := fun q => h2 (Or.inr (Or.inl q)); omega
  rw [c_sizeS (by omega) h hs, kI_r, c_sizeS (by omega) h ht, kI_r, if_pos r1, if_pos r2]
  have s1 : siz A s ≤ 160 := (hA.2.2.2 s hs).1
  have s2 : siz A t ≤ 160 := (hA.2.2.2 t ht).1
  simp (disch := omega) only [lcmp_gt, jn_toInt, jlt]
  by_cases h4 : f.toInt < 0
  · rw [if_pos (by omega), if_pos h4]; exact x_ref (by omega) h (by omega)
  rw [if_neg (by omega), if_neg h4]
  by_cases h5 : c.toInt < 0 ∨ e.toInt < 0 ∨ (siz A s : Int) < c.toInt + f.toInt ∨ (siz A t : Int) < e.toInt + f.toInt
  · rw [if_pos h5]
    by_cases g1 : c.toInt < 0
    · rw [if_pos (by omega)]; exact x_ref (by omega) h (by omega)
    rw [if_neg (by omega)]
    by_cases g2 : e.toInt < 0
    · rw [if_pos (by omega)]; exact x_ref (by omega) h (by omega)
    rw [if_neg (by omega)]
    by_cases g3 : (siz A s : Int) < c.toInt + f.toInt
    · rw [if_pos (by omega)]; exact x_ref (by omega) h (by omega)
    rw [if_neg (by omega), if_pos (by omega)]; exact x_ref (by omega) h (by omega)
  rw [if_neg (by omega), if_neg (by omega), if_neg (by omega), if_neg (by omega), if_neg h5]
  obtain ⟨i, hi, rfl⟩ := inn (a := c) (n := 161) (by omega)
  obtain ⟨j, hj, rfl⟩ := inn (a := e) (n := 161) (by omega)
  obtain ⟨n, hn, rfl⟩ := inn (a := f) (n := 161) (by omega)
  rw [jn_toInt (by omega), jn_toInt (by omega), jn_toInt (by omega)] at h5
  rw [jnN (by omega), jnN (by omega), jnN (by omega), c_move (by omega) hs ht (by omega) (by omega), kV_r]
  exact ⟨_, rfl, setH_x h (SX_copy hs ht (show i + n ≤ siz A s by omega) (show j + n ≤ siz A t by omega) (fun t ht => (hA.2.2.2 t ht).1) h.2.2.2.1) (Fr.sL (by decide)), Hi.fr (S := [18]) (Fr.sL (by decide)) (by decide)⟩
theorem m_copy (hd : 6 ≤ d) (hA : AOk A) (h : RM A M) : MI (pcl GG lay d 83 [.ref 52, .int a, .int b, .int c, .int e, .int f] M) M (F_copy A a b c e f) := by
  obtain ⟨d, rfl⟩ := ex_add hd
  rw [q_83, thr_m (by omega), kI_r, thr_m (by omega), kI_r]
  unfold F_copy
  simp only [bI_0]
  by_cases h1 : thr a ∧ thr b
  case neg =>
    rw [if_pos h1]
    by_cases h2 : thr a
    · rw [if_neg (not_not_intro h2), if_pos (fun q => h1 ⟨h2, q⟩), h_83_20]; exact m_ref (by omega) h (by omega)
    · rw [if_pos h2, h_83_20]; exact m_ref (by omega) h (by omega)
  rw [if_neg (not_not_intro h1.1), if_neg (not_not_intro h1.2), if_neg (not_not_intro h1)]
  obtain ⟨ha, hb⟩ := h1
  obtain ⟨s, hs, rfl⟩ := inn (n := 8) ha
  obtain ⟨t, ht, rfl⟩ := inn (n := 8) hb
  rw [jnN (by omega), jnN (by omega)] at *
  have s1 : siz A s ≤ 160 := (hA.2.2.2 s hs).1
  have s2 : siz A t ≤ 160 := (hA.2.2.2 t ht).1
  have E2 : ∀ u6, MI (E_83 (d + 5) (91, [some (.ref 52), some (.int (jn s)), some (.int (jn t)), some (.int c), some (.int e), some (.int f), u6], [], M)) M (rfs A 2) := fun u6 => by rw [h_83_91]; exact m_ref (by omega) h (by omega)
  have E98 : ∀ u6, (¬ isW A s) → (¬ isW A t) → MI (E_83 (d + 5) (98, [some (.ref 52), some (.int (jn s)), some (.int (jn t)), some (.int c), some (.int e), some (.int f), u6], [], M)) M (if (hel A s).toInt < 0 ∨ (hel A t).toInt < 0 then rfs A 3 else if f.toInt < 0 then rfs A 4
      else if c.toInt < 0 ∨ e.toInt < 0 ∨ (siz A s : Int) < c.toInt + f.toInt ∨ (siz A t : Int) < e.toInt + f.toInt then rfs A 5
      else (jn 1, setH A (A.2.2.2.1.1, A.2.2.2.1.2.1, va_up A.2.2.2.1.2.2 t (cp (ele A s) (ele A t) c.toInt.toNat e.toInt.toNat f.toInt.toNat)))) := by
    intro u6 w1 w2
    rw [h_83_98, d_hel h hs, oB_s, d_hel h ht, oB_s, d_siz h hs, oB_s, d_siz h ht, oB_s]
    simp only [lcmp_gt, jlt (show 0 < 2147483648 by omega), jn_toInt (show siz A s < 2147483648 by omega), jn_toInt (show siz A t < 2147483648 by omega)]
    by_cases g1 : (hel A s).toInt < 0
    · rw [if_pos (by omega), if_pos (Or.inl g1), h_83_116]; exact m_ref (by omega) h (by omega)
    rw [if_neg (by omega)]
    by_cases g2 : (hel A t).toInt < 0
    · rw [if_pos (by omega), if_pos (Or.inr g2), h_83_116]; exact m_ref (by omega) h (by omega)
    rw [if_neg (by omega), if_neg (show ¬ ((hel A s).toInt < 0 ∨ (hel A t).toInt < 0) by omega)]
    by_cases h4 : f.toInt < 0
    · rw [if_pos (by omega), if_pos h4]; exact m_ref (by omega) h (by omega)
    rw [if_neg (by omega), if_neg h4]
    have E5 : ∀ u6, MI (E_83 (d + 5) (179, [some (.ref 52), some (.int (jn s)), some (.int (jn t)), some (.int c), some (.int e), some (.int f), u6], [], M)) M (rfs A 5) := fun u6 => by rw [h_83_179]; exact m_ref (by omega) h (by omega)
    by_cases h5 : c.toInt < 0 ∨ e.toInt < 0 ∨ (siz A s : Int) < c.toInt + f.toInt ∨ (siz A t : Int) < e.toInt + f.toInt
    · rw [if_pos h5]
      by_cases g1 : c.toInt < 0
      · rw [if_pos (by omega)]; exact E5 _
      rw [if_neg (by omega)]
      by_cases g2 : e.toInt < 0
      · rw [if_pos (by omega)]; exact E5 _
      rw [if_neg (by omega)]
      by_cases g3 : (siz A s : Int) < c.toInt + f.toInt
      · rw [if_pos (by omega)]; exact E5 _
      rw [if_neg (by omega), if_pos (by omega)]; exact E5 _
    rw [if_neg (by omega), if_neg (by omega), if_neg (by omega), if_neg (by omega), if_neg h5]
    obtain ⟨i, hi, rfl⟩ := inn (a := c) (n := 161) (by omega)
    obtain ⟨j, hj, rfl⟩ := inn (a := e) (n := 161) (by omega)
    obtain ⟨n, hn, rfl⟩ := inn (a := f) (n := 161) (by omega)
    rw [jn_toInt (by omega), jn_toInt (by omega), jn_toInt (by omega)] at h5
    rw [jnN (by omega), jnN (by omega), jnN (by omega)]
    have fin : ∀ o : PO, o = rI (jn 1) (sL M 63 (cp (M.2 63) (M.2 63) (160 * s + i) (160 * t + j) n)) → MI o M (jn 1, setH A (A.2.2.2.1.1, A.2.2.2.1.2.1, va_up A.2.2.2.1.2.2 t (cp (ele A s) (ele A t) i j n))) := fun o ho =>
      ⟨_, ho, setH_m h (SX_copy hs ht (show i + n ≤ siz A s by omega) (show j + n ≤ siz A t by omega) (fun t ht => (hA.2.2.2 t ht).1) h.2.2.2.1) (Fr.sL (by decide)), Lo.fr (S := [63]) (Fr.sL (by decide)) (by decide)⟩
    have F0 : ∀ u6, (160 * t + j ≤ 160 * s + i ∨ 160 * s + i + n ≤ 160 * t + j) → MI (E_83 (d + 5) (248, [some (.ref 52), some (.int (jn s)), some (.int (jn t)), some (.int (jn i)), some (.int (jn j)), some (.int (jn n)), u6], [], M)) M (jn 1, setH A (A.2.2.2.1.1, A.2.2.2.1.2.1, va_up A.2.2.2.1.2.2 t (cp (ele A s) (ele A t) i j n))) := by
      intro u6 hh
      refine fin _ ?_
      rw [h_83_248]
      have := forw_m (d := d + 5) (M := M) hs ht (i := i) (j := j) (n := n) (by omega) (by omega) hh n 0 (by omega)
      rwa [cp_0, sL_self] at this
    by_cases g4 : s = t
    · rw [ieq_pos g4]
      by_cases g5 : i < j
      · rw [ilt_pos g5 (by omega)]
        refine fin _ ?_
        have := back_m (d := d + 5) (M := M) (u5 := some (.int (jn n))) hs ht (i := i) (j := j) (n := n) (by omega) (by omega) (by omega) n (by omega)
        rwa [cp_bkn, sL_self] at this
      · rw [ilt_neg (by omega) (by omega)]
        exact F0 _ (by omega)
    · rw [ieq_neg g4 (by omega) (by omega)]
      exact F0 _ (by omega)
  have E60 : ∀ u6, (¬ isW A s) → (¬ isW A t) → MI (E_83 (d + 5) (60, [some (.ref 52), some (.int (jn s)), some (.int (jn t)), some (.int c), some (.int e), some (.int f), u6], [], M)) M (if isW A s ∨ isW A t ∨ isR A s ∧ isR A t ∧ hel A s ≠ hel A t then rfs A 2 else if (hel A s).toInt < 0 ∨ (hel A t).toInt < 0 then rfs A 3 else if f.toInt < 0 then rfs A 4
      else if c.toInt < 0 ∨ e.toInt < 0 ∨ (siz A s : Int) < c.toInt + f.toInt ∨ (siz A t : Int) < e.toInt + f.toInt then rfs A 5
      else (jn 1, setH A (A.2.2.2.1.1, A.2.2.2.1.2.1, va_up A.2.2.2.1.2.2 t (cp (ele A s) (ele A t) c.toInt.toNat e.toInt.toNat f.toInt.toNat)))) := by
    intro u6 w1 w2
    rw [h_83_60, d_isR (by omega) h hs, kI_r, d_isR (by omega) h ht, kI_r, d_hel h hs, oB_s, d_hel h ht, oB_s]
    simp only [bI_0]
    by_cases r1 : isR A s
    case neg => rw [if_pos r1, if_neg (fun q => q.elim w1 (fun q => q.elim w2 (fun q => r1 q.1)))]; exact E98 _ w1 w2
    rw [if_neg (not_not_intro r1)]
    by_cases r2 : isR A t
    case neg => rw [if_pos r2, if_neg (fun q => q.elim w1 (fun q => q.elim w2 (fun q => r2 q.2.1)))]; exact E98 _ w1 w2
    rw [if_neg (not_not_intro r2)]
    by_cases r3 : hel A s = hel A t
    · rw [if_pos r3, if_neg (fun q => q.elim w1 (fun q => q.elim w2 (fun q => q.2.2 r3)))]; exact E98 _ w1 w2
    · rw [if_neg r3, if_pos (Or.inr (Or.inr ⟨r1, r2, r3⟩))]; exact E2 _
  have E43 : ∀ u6, (¬ isW A s) → MI (E_83 (d + 5) (43, [some (.ref 52), some (.int (jn s)), some (.int (jn t)), some (.int c), some (.int e), some (.int f), u6], [], M)) M (if isW A s ∨ isW A t ∨ isR A s ∧ isR A t ∧ hel A s ≠ hel A t then rfs A 2 else if (hel A s).toInt < 0 ∨ (hel A t).toInt < 0 then rfs A 3 else if f.toInt < 0 then rfs A 4
      else if c.toInt < 0 ∨ e.toInt < 0 ∨ (siz A s : Int) < c.toInt + f.toInt ∨ (siz A t : Int) < e.toInt + f.toInt then rfs A 5
      else (jn 1, setH A (A.2.2.2.1.1, A.2.2.2.1.2.1, va_up A.2.2.2.1.2.2 t (cp (ele A s) (ele A t) c.toInt.toNat e.toInt.toNat f.toInt.toNat)))) := by
    intro u6 w1
    rw [h_83_43, d_hel h ht, oB_s, d_isR (by omega) h ht, kI_r]
    simp (disch := omega) only [bI_0, jlt]
    by_cases g1 : (hel A t).toInt < 0
    · rw [if_pos (by omega)]; exact E60 _ w1 (by omega)
    rw [if_neg (by omega)]
    by_cases g2 : isR A t
    · rw [if_neg (not_not_intro g2)]; exact E60 _ w1 (by omega)
    · rw [if_pos g2, if_pos (Or.inr (Or.inl (by omega)))]; exact E2 _
  rw [d_hel h hs, oB_s, d_isR (by omega) h hs, kI_r]
  simp (disch := omega) only [bI_0, jlt]
  by_cases g1 : (hel A s).toInt < 0
  · rw [if_pos (by omega)]; exact E43 _ (by omega)
  rw [if_neg (by omega)]
  by_cases g2 : isR A s
  · rw [if_neg (not_not_intro g2)]; exact E43 _ (by omega)
  · rw [if_pos g2, if_pos (Or.inl (by omega))]; exact E2 _
theorem c_hasS {w : Int32} (hd : 1 ≤ d) (hA : AOk A) (h : RX A M) : pcl GG lay d 242 [.ref 1, .int w] M = rI (bI (0 ≤ w.toInt ∧ w.toInt < A.1.2.2.1.length)) M := by
  obtain ⟨d, rfl⟩ := ex_add hd
  have := hA.1.2.2.1.1
  rw [q_242, h.1.1.2.2.1]
  simp (disch := omega) only [rZ_0, rZ_1, jlt]
  unfold bI
  repeat' split
  all_goals first
    | rfl
    | (exfalso; omega)
theorem d_hasS {w : Int32} (hd : 2 ≤ d) (hA : AOk A) (h : RM A M) : pcl GG lay d 74 [.ref 52, .int w] M = rI (bI (0 ≤ w.toInt ∧ w.toInt < A.1.2.2.1.length)) M := by
  obtain ⟨d, rfl⟩ := ex_add hd
  have := hA.1.2.2.1.1
  have e : M.1 52 6 = jn A.1.2.2.1.length := h.1.1.2.2.1
  rw [q_74, e, d_in (by omega) (by omega), kI_r, rZ_b]
theorem SX_hold {x y z : Nat} {h : HT} {s : Nat} {w : Int32} (hx : SX x y z h M) (hz : y ≠ x) : SX x y z (va_up h.1 s w, h.2.1, h.2.2) (sI M x (va_up (M.1 x) s w)) := by
  intro t ht
  obtain ⟨g1, g2, g3⟩ := hx t ht
  refine ⟨?_, by rw [sI_o _ _ hz]; exact g2, g3⟩
  rw [sI_k]
  simp only [up_at]
  by_cases e : t = s
  · rw [if_pos e, if_pos e]
  · rw [if_neg e, if_neg e]; exact g1
theorem x_show (hd : 4 ≤ d) (hA : AOk A) (h : RX A M) : XI (pcl GG lay d 8 [.ref 0, .int a, .int b] M) M (F_show A a b) := by
  obtain ⟨d, rfl⟩ := ex_add hd
  rw [q_8, c_thr (by omega), kI_r, c_hasS (by omega) hA h, kI_r]
  unfold F_show
  simp only [bI_0]
  by_cases h1 : thr a
  case neg => rw [if_pos h1, if_pos (Or.inl h1)]; exact x_ref (by omega) h (by omega)
  rw [if_neg (not_not_intro h1)]
  obtain ⟨s, hs, rfl⟩ := inn (n := 8) h1
  have fin : XI (kV (pcl GG lay (d + 3) 224 [.ref 15, .int (jn s), .int b] M) fun M2 => if b = jz 1 then rI (jn 0) M2 else rI (jn 1) M2) M (if b = jz 1 then jn 0 else jn 1, setH A (va_up A.2.2.2.1.1 (jn s).toInt.toNat b, A.2.2.2.1.2.1, A.2.2.2.1.2.2)) := by
    rw [q_224, c_put (n := 8) (by omega) rfl hs (by omega), kV_r, kV_r, jnN (by omega)]
    refine ⟨_, ?_, setH_x h (SX_hold (s := s) (w := b) h.2.2.2.1 (by omega)) (Fr.sI (by decide)), Hi.fr (S := [16]) (Fr.sI (by decide)) (by decide)⟩
    split <;> rfl
  by_cases h2 : b = jz 1
  · have hc : ¬ (¬thr (jn s) ∨ b ≠ jz 1 ∧ ¬ (0 ≤ b.toInt ∧ b.toInt < A.1.2.2.1.length)) := by
      rintro (q | q)
      · exact q h1
      · exact q.1 h2
    rw [if_neg hc, if_pos h2]
    exact fin
  rw [if_neg h2]
  by_cases h3 : 0 ≤ b.toInt ∧ b.toInt < A.1.2.2.1.length
  · have hc : ¬ (¬thr (jn s) ∨ b ≠ jz 1 ∧ ¬ (0 ≤ b.toInt ∧ b.toInt < A.1.2.2.1.length)) := by
      rintro (q | q)
      · exact q h1
      · exact q.2 h3
    rw [if_neg hc, if_neg (not_not_intro h3)]
    exact fin
  · rw [if_pos h3, if_pos (Or.inr ⟨h2, h3⟩)]; exact x_ref (by omega) h (by omega)
theorem m_show (hd : 4 ≤ d) (hA : AOk A) (h : RM A M) : MI (pcl GG lay d 85 [.ref 52, .int a, .int b] M) M (F_show A a b) := by
  obtain ⟨d, rfl⟩ := ex_add hd
  rw [q_85, thr_m (by omega), kI_r, d_hasS (by omega) hA h, kI_r]
  unfold F_show
  simp only [bI_0]
  by_cases h1 : thr a
  case neg => rw [if_pos h1, if_pos (Or.inl h1)]; exact m_ref (by omega) h (by omega)
  rw [if_neg (not_not_intro h1)]
  obtain ⟨s, hs, rfl⟩ := inn (n := 8) h1
  have fin : MI (oB (astI lay M 61 (jn s) b) fun M2 => if b = jz 1 then rI (jn 0) M2 else rI (jn 1) M2) M (if b = jz 1 then jn 0 else jn 1, setH A (va_up A.2.2.2.1.1 (jn s).toInt.toNat b, A.2.2.2.1.2.1, A.2.2.2.1.2.2)) := by
    rw [ast_n (n := 8) rfl hs (by omega), oB_s, jnN (by omega)]
    refine ⟨_, ?_, setH_m h (SX_hold (s := s) (w := b) h.2.2.2.1 (by omega)) (Fr.sI (by decide)), Lo.fr (S := [61]) (Fr.sI (by decide)) (by decide)⟩
    split <;> rfl
  by_cases h2 : b = jz 1
  · have hc : ¬ (¬thr (jn s) ∨ b ≠ jz 1 ∧ ¬ (0 ≤ b.toInt ∧ b.toInt < A.1.2.2.1.length)) := by
      rintro (q | q)
      · exact q h1
      · exact q.1 h2
    rw [if_neg hc, if_pos h2]
    exact fin
  rw [if_neg h2]
  by_cases h3 : 0 ≤ b.toInt ∧ b.toInt < A.1.2.2.1.length
  · have hc : ¬ (¬thr (jn s) ∨ b ≠ jz 1 ∧ ¬ (0 ≤ b.toInt ∧ b.toInt < A.1.2.2.1.length)) := by
      rintro (q | q)
      · exact q h1
      · exact q.2 h3
    rw [if_neg hc, if_neg (not_not_intro h3)]
    exact fin
  · rw [if_pos h3, if_pos (Or.inr ⟨h2, h3⟩)]; exact m_ref (by omega) h (by omega)
end
