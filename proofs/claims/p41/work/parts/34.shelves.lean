/-! SHELVES -/
theorem inn {a : Int32} {n : Nat} (h : 0 ≤ a.toInt ∧ a.toInt < (n : Int)) : ∃ k, k < n ∧ a = jn k := by
  rcases jn_or a with h1 | ⟨k, hk, rfl⟩
  · rw [jlt (by omega)] at h1; omega
  · rw [jn_toInt hk] at h; exact ⟨k, by omega, rfl⟩
theorem jnN {n : Nat} (h : n < 2147483648) : (jn n).toInt.toNat = n := by rw [jn_toInt h]; rfl
theorem jeqn {c : Int32} {n : Nat} (hn : n < 2147483648) : (c = jn n) = (c.toInt = (n : Int)) := by rw [← Int32.toInt_inj, jn_toInt hn]
theorem jeqz {c : Int32} {n : Nat} (hn : n ≤ 2147483648) : (c = jz n) = (c.toInt = -(n : Int)) := by rw [← Int32.toInt_inj, jz_toInt hn]
abbrev thr (s : Int32) : Prop := 0 ≤ s.toInt ∧ s.toInt < 8
abbrev hel (A : AT) (s : Nat) : Int32 := A.2.2.2.1.1 s
abbrev siz (A : AT) (s : Nat) : Nat := A.2.2.2.1.2.1 s
abbrev ele (A : AT) (s i : Nat) : Int64 := A.2.2.2.1.2.2 s i
/-- a shelf that holds a row, or one of the strategies -/
abbrev isR (A : AT) (s : Nat) : Prop := 100 ≤ (hel A s).toInt
abbrev isW (A : AT) (s : Nat) : Prop := 0 ≤ (hel A s).toInt ∧ (hel A s).toInt < 100
def setH (A : AT) (h : HT) : AT := (A.1, A.2.1, A.2.2.1, h, A.2.2.2.2.1, A.2.2.2.2.2)
def noR (A : AT) (s : Int32) : Nat := if ¬ thr s then 1 else if isW A s.toInt.toNat then 2 else if (hel A s.toInt.toNat).toInt < 0 then 3 else 0
theorem setH_x {A : AT} {M M' : PM} {h : HT} (hx : RX A M) (hs : SX 16 17 18 h M') (hf : Fr [16, 17, 18] M M') : RX (setH A h) M' := by
  obtain ⟨a, b, c, e, f, g⟩ := hx
  refine ⟨?_, ⟨?_, fun K hK => ?_⟩, ?_, hs, ?_, ?_⟩
  · exact KX_eq a (hf.1 _ (by decide)) (hf.1 _ (by decide)) (hf.1 _ (by decide)) (hf.1 _ (by decide)) (hf.1 _ (by decide)) (hf.1 _ (by decide))
  · rw [hf.1 0 (by decide)]; exact b.1
  · exact KX_eq (b.2 K hK) (hf.1 _ (by decide)) (hf.1 _ (by decide)) (hf.1 _ (by decide)) (hf.1 _ (by decide)) (hf.1 _ (by decide)) (hf.1 _ (by decide))
  · exact TX_eq c (by rw [hf.1 48 (by decide)]) (hf.1 _ (by decide)) (hf.2 _ (by decide))
  · rw [hf.1 0 (by decide)]; exact f
  · exact CX_eq g (hf.1 _ (by decide))
theorem setH_ok {A : AT} {h : HT} (hA : AOk A) (hs : SOk A.1.2.2.1.length h) : AOk (setH A h) := ⟨hA.1, hA.2.1, hA.2.2.1, hs⟩
section
variable {d : Nat} {A : AT} {M : PM}
theorem c_thr {c : Int32} (hd : 1 ≤ d) : pcl GG lay d 217 [.int c] M = rI (bI (thr c)) M := by
  obtain ⟨d, rfl⟩ := ex_add hd
  rw [q_217]
  simp (disch := omega) only [jlt, jgt, rZ_0, rZ_1]
  unfold bI
  repeat' split
  all_goals first
    | rfl
    | (exfalso; omega)
theorem bI_1 {b : Prop} [Decidable b] (h : b) : bI b = jn 1 := if_pos h
theorem bI_n {b : Prop} [Decidable b] (h : ¬ b) : bI b = jn 0 := if_neg h
theorem c_held {s : Nat} (hd : 2 ≤ d) (h : RX A M) (hs : s < 8) : pcl GG lay d 218 [.ref 15, .int (jn s)] M = rI (hel A s) M := by
  obtain ⟨d, rfl⟩ := ex_add hd
  rw [q_218, c_thr (by omega), kI_r, bI_1 (by rw [thr, jn_toInt (by omega)]; omega), ieq_neg (by omega) (by omega) (by omega), c_get (n := 8) (by omega) rfl hs (by omega), kI_r, (h.2.2.2.1 s hs).1]
theorem c_held_no {s : Int32} (hd : 2 ≤ d) (hs : ¬ thr s) : pcl GG lay d 218 [.ref 15, .int s] M = rI (jz 1) M := by
  obtain ⟨d, rfl⟩ := ex_add hd
  rw [q_218, c_thr (by omega), kI_r, bI_n hs, ieq_pos rfl]
theorem c_isR {s : Nat} (hd : 3 ≤ d) (h : RX A M) (hs : s < 8) : pcl GG lay d 219 [.ref 15, .int (jn s)] M = rI (bI (isR A s)) M := by
  obtain ⟨d, rfl⟩ := ex_add hd
  rw [q_219, c_held (by omega) h hs, kI_r, rZ_0, rZ_1]
  simp (disch := omega) only [jlt]
  unfold bI
  split
  · rw [if_neg (by omega)]
  · rw [if_pos (by omega)]
theorem c_isR_no {s : Int32} (hd : 3 ≤ d) (hs : ¬ thr s) : pcl GG lay d 219 [.ref 15, .int s] M = rI (jn 0) M := by
  obtain ⟨d, rfl⟩ := ex_add hd
  rw [q_219, c_held_no (by omega) hs, kI_r, rZ_0, if_pos (by rw [jlt (by omega), jz_toInt (by omega)]; omega)]
theorem c_isW {s : Nat} (hd : 3 ≤ d) (h : RX A M) (hs : s < 8) : pcl GG lay d 220 [.ref 15, .int (jn s)] M = rI (bI (isW A s)) M := by
  obtain ⟨d, rfl⟩ := ex_add hd
  rw [q_220, c_held (by omega) h hs, kI_r, c_held (by omega) h hs, kI_r, rZ_0, rZ_1]
  simp (disch := omega) only [jlt]
  unfold bI
  repeat' split
  all_goals first
    | rfl
    | (exfalso; omega)
theorem c_noR {s : Int32} (hd : 4 ≤ d) (h : RX A M) : pcl GG lay d 221 [.ref 15, .int s] M = rI (jz (noR A s)) M := by
  obtain ⟨d, rfl⟩ := ex_add hd
  rw [q_221, c_thr (by omega), kI_r]
  unfold noR
  by_cases h1 : thr s
  · obtain ⟨s, hs, rfl⟩ := inn (n := 8) h1
    rw [bI_1 h1, ieq_neg (by omega) (by omega) (by omega), c_isW (by omega) h hs, kI_r, if_neg (not_not_intro h1), jnN (by omega)]
    by_cases h2 : isW A s
    · rw [bI_1 h2, ieq_neg (by omega) (by omega) (by omega), if_pos h2]
    · rw [bI_n h2, ieq_pos rfl, c_isR (by omega) h hs, kI_r, if_neg h2]
      by_cases h3 : isR A s
      · rw [bI_1 h3, ieq_neg (by omega) (by omega) (by omega), if_neg (by omega)]; rfl
      · rw [bI_n h3, ieq_pos rfl, if_pos (by omega)]
  · rw [bI_n h1, ieq_pos rfl, if_pos h1]
theorem c_sizeS {s : Nat} (hd : 4 ≤ d) (h : RX A M) (hs : s < 8) : pcl GG lay d 222 [.ref 15, .int (jn s)] M = rI (jn (if isR A s then siz A s else 0)) M := by
  obtain ⟨d, rfl⟩ := ex_add hd
  rw [q_222, c_isR (by omega) h hs, kI_r]
  by_cases h3 : isR A s
  · rw [bI_1 h3, ieq_neg (by omega) (by omega) (by omega), c_get (n := 8) (by omega) rfl hs (by omega), kI_r, (h.2.2.2.1 s hs).2.1, if_pos h3]
  · rw [bI_n h3, ieq_pos rfl, if_neg h3]
/-! the model's -/
end
/-! row -/
def F_row (A : AT) (s o n : Int32) : Int32 × AT :=
  if ¬ thr s then rfs A 1 else if n.toInt < 0 then rfs A 4 else if ¬ (0 ≤ o.toInt ∧ o.toInt < 4) then rfs A 6 else if 160 < n.toInt then rfs A 7
  else (jn 1, setH A (va_up A.2.2.2.1.1 s.toInt.toNat (jn (100 + o.toInt.toNat)), va_up A.2.2.2.1.2.1 s.toInt.toNat n.toInt.toNat, va_up A.2.2.2.1.2.2 s.toInt.toNat (fun _ => 0)))
section
variable {d : Nat} {A : AT} {M : PM} {a b c e f : Int32}
theorem k_row (hA : AOk A) : AOk (F_row A a b c).2 := by
  unfold F_row
  split
  · exact hA
  split
  · exact hA
  split
  · exact hA
  split
  · exact hA
  rename_i h1 h2 h3 h4
  refine setH_ok hA (fun s hs => ?_)
  simp only [up_at]
  by_cases e : s = a.toInt.toNat
  · simp only [if_pos e]
    exact ⟨by omega, Or.inr (Or.inr ⟨b.toInt.toNat, by omega, rfl⟩)⟩
  · simp only [if_neg e]
    exact hA.2.2.2 s hs
theorem fill_x {s : Nat} {u1 u2 : Option Value} (hs : s < 8) : ∀ m k n M, k + m = n → n ≤ 160 → ∃ M', E_223 (d + 1) (24, [some (.ref 15), some (.int (jn s)), u2, some (.int (jn n)), some (.int (jn k))], [], M) = rV M' ∧ Fr [18] M M' ∧ (∀ j, j < 160 * s + k ∨ 160 * s + n ≤ j → M'.2 18 j = M.2 18 j) ∧ ∀ i, k ≤ i → i < n → M'.2 18 (160 * s + i) = 0 := by
  intro m
  induction m with
  | zero =>
    intro k n M hk hn
    refine ⟨M, ?_, Fr.rf, fun _ _ => rfl, fun i h1 h2 => by omega⟩
    rw [h_223_24, ilt_neg (by omega) (by omega)]
  | succ m ih =>
    intro k n M hk hn
    obtain ⟨M', h1, h2, h3, h4⟩ := ih (k + 1) n (sL M 18 (va_up (M.2 18) (160 * s + k) (Int64.ofNat 0))) (by omega) hn
    refine ⟨M', ?_, Fr.trans (Fr.sL (by decide)) h2, fun j hj => ?_, fun i h5 h6 => ?_⟩
    · rw [h_223_24, ilt_pos (by omega) (by omega), jn_mul, jn_add, jn_add, Nat.mul_comm s 160, c_putL (n := 1280) (by omega) rfl (by omega) (by omega), kV_r, h1]
    · rw [h3 j (by omega), sL_k, up_at, if_neg (by omega)]
    · by_cases h7 : i = k
      · subst h7
        rw [h3 _ (by omega), sL_k, up_at, if_pos rfl]; rfl
      · exact h4 i (by omega) h6
theorem x_row (hd : 5 ≤ d) (hA : AOk A) (h : RX A M) : XI (pcl GG lay d 3 [.ref 0, .int a, .int b, .int c] M) M (F_row A a b c) := by
  obtain ⟨d, rfl⟩ := ex_add hd
  rw [q_3, c_thr (by omega), kI_r]
  unfold F_row
  simp (disch := omega) only [bI_0, jlt, jgt]
  by_cases h1 : thr a
  case neg => simp only [if_pos h1]; exact x_ref (by omega) h (by omega)
  simp only [if_neg (not_not_intro h1)]
  by_cases h2 : c.toInt < 0
  · rw [if_pos (by omega), if_pos h2]; exact x_ref (by omega) h (by omega)
  rw [if_neg (by omega), if_neg h2]
  by_cases h3 : 0 ≤ b.toInt ∧ b.toInt < 4
  case neg =>
    rw [if_pos h3]
    by_cases h4 : b.toInt < 0
    · rw [if_pos (by omega)]; exact x_ref (by omega) h (by omega)
    · rw [if_neg (by omega), if_neg (by omega)]; exact x_ref (by omega) h (by omega)
  rw [if_neg (by omega), if_pos (by omega), if_neg (not_not_intro h3)]
  by_cases h4 : 160 < c.toInt
  · rw [if_pos (by omega), if_pos h4]; exact x_ref (by omega) h (by omega)
  rw [if_neg (by omega), if_neg h4]
  obtain ⟨s, hs, rfl⟩ := inn (n := 8) h1
  obtain ⟨o, ho, rfl⟩ := inn (n := 4) h3
  obtain ⟨n, hn, rfl⟩ := inn (a := c) (n := 161) (by omega)
  rw [jnN (by omega), jnN (by omega), jnN (by omega)]
  obtain ⟨M', e1, e2, e3, e4⟩ := fill_x (d := d + 2) (u1 := none) (u2 := some (.int (jn o))) hs n 0 n (sI (sI M 16 (va_up (M.1 16) s (jn (100 + o)))) 17 (va_up (M.1 17) s (jn n))) (by omega) (by omega)
  refine ⟨M', ?_, setH_x h ?_ (Fr.trans (Fr.trans (Fr.sI (k := 16) (by decide)) (Fr.sI (k := 17) (by decide))) (e2.mono (by decide))), Hi.fr (S := [16, 17, 18]) (Fr.trans (Fr.trans (Fr.sI (k := 16) (by decide)) (Fr.sI (k := 17) (by decide))) (e2.mono (by decide))) (by decide)⟩
  · rw [q_223, jn_add, c_put (n := 8) (by omega) rfl hs (by omega), kV_r, c_put (n := 8) (by omega) rfl hs (by omega), kV_r, sI_o _ _ (by omega), e1, kV_r]
  · intro t ht
    obtain ⟨g1, g2, g3⟩ := h.2.2.2.1 t ht
    have g4 := (hA.2.2.2 t ht).1
    rw [e2.1 16 (by decide), e2.1 17 (by decide), sI_k, sI_o _ _ (by omega), sI_k]
    simp only [up_at]
    by_cases e : t = s
    · subst e
      simp only [if_true]
      exact ⟨trivial, trivial, fun i hi => e4 i (by omega) hi⟩
    · simp only [if_neg e]
      exact ⟨g1, g2, fun i hi => (e3 _ (by omega)).trans (g3 i hi)⟩
end
