/-! term, both sides -/
section
variable {d : Nat} {A : AT} {M : PM} {a b c e f : Int32} {v : Int64}
theorem read_x {s : Nat} {f : Nat → Int32} (hs8 : s < 8) (hn : siz A s ≤ 160) (hI : ∀ M', Fr [7, 19, 20] M M' → ∀ i, i < siz A s → pcl GG lay (d + 5) 226 [.ref 15, .int (jn s), .int (jn i)] M' = rI (rowI A s i) M') : ∀ m i st M', i + m = siz A s → rdI st → rdX M' st f → Fr [7, 19, 20] M M' → ∃ M2, Fr [7, 19, 20] M M2 ∧ (∀ i, i < 1920 → M2.1 7 i = f i) ∧
    (match rdR (rowI A s) m i st with
      | .inl k => k ≤ siz A s ∧ E_196 (d + 5) (25, [some (.ref 19), some (.int (jn s)), some (.int (jn 1920)), some (.int (jn (siz A s))), some (.int (jn st.1)), some (.int (jn i))], [], M') = rI (jn k) M2
      | .inr o => E_196 (d + 5) (25, [some (.ref 19), some (.int (jn s)), some (.int (jn 1920)), some (.int (jn (siz A s))), some (.int (jn st.1)), some (.int (jn i))], [], M') = rI (jz 1) M2 ∧ At (M2.1 7) 1920 o) := by
  intro m
  induction m with
  | zero =>
    intro i st M' hi hst hX hf
    refine ⟨M', hf, hX.2.2.2.2, ?_⟩
    unfold rdR
    rw [h_196_25, ilt_neg (by omega) (by omega), hX.1]
    obtain ⟨w, k, o⟩ := st
    have hw := hst.1
    have hk : k.length ≤ o.length := hst.2.1
    have ho : o.length ≤ 40 := hst.2.2.1
    simp only at hw ⊢
    by_cases h2 : w = 2
    · rw [ieq_pos h2]
      by_cases hk0 : k = []
      · subst hk0
        rw [if_pos ⟨h2, rfl⟩]
        exact ⟨ieq_pos rfl, hX.2.2.2.1⟩
      · rw [if_neg (fun q => hk0 q.2), ieq_neg (by cases k with | nil => exact absurd rfl hk0 | cons _ _ => simp) (by omega) (by omega)]
        have : i = siz A s := by omega
        subst this
        exact ⟨by omega, rfl⟩
    · rw [ieq_neg h2 (by omega) (by omega), if_neg (fun q => h2 q.1)]
      have : i = siz A s := by omega
      subst this
      exact ⟨by omega, rfl⟩
  | succ m ih =>
    intro i st M' hi hst hX hf
    obtain ⟨M2, n1, n2, n3⟩ := next_x (d := d + 5) (c := rowI A s i) (by omega) hst rfl hX
    rw [h_196_25, ilt_pos (by omega) (by omega), hI M' hf i (by omega), kI_r, jn_add]
    unfold rdR
    cases hq : rdS st (rowI A s i) with
    | none =>
      rw [hq] at n3
      simp only at n3 ⊢
      exact ⟨M2, hf.trans n1, n2, by omega, by rw [n3, kI_r, if_pos rfl]⟩
    | some st' =>
      rw [hq] at n3
      simp only at n3 ⊢
      have hst' := rdI_step hst hq
      have hw' : st'.1 ≤ 2 := hst'.1
      obtain ⟨M3, f1, f2, f3⟩ := ih (i + 1) st' M2 (by omega) hst' n3.2 (hf.trans n1)
      refine ⟨M3, f1, f2, ?_⟩
      rw [n3.1, kI_r, if_neg (by rw [jn_jz (by omega) (by omega)]; exact id)]
      exact f3
theorem setF_x {A : AT} {M M' : PM} {x : Int32} (hA : AOk A) (h : RX A M) (h0 : M'.1 0 = va_up (M.1 0) 13 x) (hf : Fr (0 :: 7 :: scX) M M') (h7 : ∀ i, i < 1920 → M'.1 7 i = M.1 7 i) : RX (setF A x) M' := by
  obtain ⟨a, ⟨b1, b2⟩, c, e, f, g⟩ := h
  refine ⟨?_, ⟨?_, fun K hK => ?_⟩, ?_, ?_, ?_, ?_⟩
  · refine KX_congr hA.1 a (fun j _ _ => by rw [hf.1 1 (by decide)]) (fun i _ => ?_) h7
    rw [hf.1 (1 + 1) (by decide), hf.1 (1 + 2) (by decide), hf.1 (1 + 3) (by decide), hf.1 (1 + 4) (by decide)]
    exact ⟨rfl, rfl, rfl, rfl⟩
  · rw [h0, up_at, if_neg (by omega)]; exact b1
  · exact KX_eq (b2 K hK) (hf.1 _ (by decide)) (hf.1 _ (by decide)) (hf.1 _ (by decide)) (hf.1 _ (by decide)) (hf.1 _ (by decide)) (hf.1 _ (by decide))
  · exact TX_eq c (by rw [hf.1 48 (by decide)]) (hf.1 _ (by decide)) (hf.2 _ (by decide))
  · exact SX_eq e (hf.1 _ (by decide)) (hf.1 _ (by decide)) (hf.2 _ (by decide))
  · rw [h0, up_at, if_pos rfl]; rfl
  · exact CX_eq g (hf.1 _ (by decide))
theorem XI.pre {o : PO} {M M' : PM} {ra : Int32 × AT} (h : XI o M' ra) (hh : Hi M M') : XI o M ra := by
  obtain ⟨M2, e1, e2, e3⟩ := h
  exact ⟨M2, e1, e2, hh.trans e3⟩
theorem XI.k {o : PO} {M : PM} {ra : Int32 × AT} (h : XI o M ra) : XI (kI o fun r M => rI r M) M ra := by
  obtain ⟨M2, e1, e2, e3⟩ := h
  exact ⟨M2, by rw [e1, kI_r], e2, e3⟩
theorem x_term (hd : 9 ≤ d) (hA : AOk A) (h : RX A M) : XI (pcl GG lay d 12 [.ref 0, .int a] M) M (F_term A a) := by
  obtain ⟨d, rfl⟩ := ex_add hd
  rw [q_12, c_noR (by omega) h, kI_r, ite_nz (noR_lt A a)]
  unfold F_term
  by_cases h0 : noR A a = 0
  case neg => rw [if_neg h0, if_neg h0]; exact x_ref (by omega) h (by have := noR_lt A a; omega)
  rw [if_pos h0, if_pos h0]
  obtain ⟨h1, h2⟩ := noR_0 h0
  obtain ⟨s, hs, rfl⟩ := inn (n := 8) h1
  rw [jnN (by omega)] at *
  have h160 : siz A s ≤ 160 := (hA.2.2.2 s hs).1
  rw [q_196, c_sizeS (by omega) h hs, kI_r, if_pos h2, wr_e, wr_e, sI_sI, sI_k]
  have hM1 : Fr [7, 19, 20] M (sI M 19 (va_up (va_up (M.1 19) 3 (jn 0)) 4 (jn 0))) := Fr.sI (by decide)
  obtain ⟨M2, f1, f2, f3⟩ := read_x (d := d + 2) (A := A) (M := M) (s := s) (f := M.1 7) hs h160 (fun M' hf i hi => by
    have hR : RX A M' ∨ True := Or.inr trivial
    have e16 : M'.1 16 = M.1 16 := hf.1 16 (by decide)
    have e17 : M'.1 17 = M.1 17 := hf.1 17 (by decide)
    have e18 : M'.2 18 = M.2 18 := hf.2 18 (by decide)
    have g : SX 16 17 18 A.2.2.2.1 M' := SX_eq h.2.2.2.1 e16 e17 e18
    have gh : ∀ d, pcl GG lay (d + 2) 218 [.ref 15, .int (jn s)] M' = rI (hel A s) M' := fun d => by
      rw [q_218, c_thr (by omega), kI_r, bI_1 (by rw [thr, jn_toInt (by omega)]; omega), ieq_neg (by omega) (by omega) (by omega), c_get (n := 8) (by omega) rfl hs (by omega), kI_r, (g s hs).1]
    rw [q_226, q_225, ilt_neg (by omega) (by omega), q_222, q_219, gh, kI_r, rZ_0, rZ_1, if_neg (by rw [jlt (by omega)]; omega), kI_r, ieq_neg (by omega) (by omega) (by omega), c_get (n := 8) (by omega) rfl hs (by omega), kI_r, (g s hs).2.1, kI_r]
    have hi2 : i < siz A s := hi
    rw [ilt_pos hi2 (by omega), jn_mul, jn_add, Nat.mul_comm s 160, c_getL (n := 1280) (by omega) rfl (by omega) (by omega), kL_r, kL_r, (g s hs).2.2 i hi]) (siz A s) 0 (0, [], []) (sI M 19 (va_up (va_up (M.1 19) 3 (jn 0)) 4 (jn 0))) (by omega) rdI_0 ⟨by rw [sI_k, up_at, if_neg (by omega), up_at, if_pos rfl]; rfl, by rw [sI_k, up_at, if_pos rfl]; rfl, trivial, trivial, fun _ _ => rfl⟩ hM1
  have hRF : ∀ x, RX (setF A x) (sI M2 0 (va_up (M2.1 0) 13 x)) := fun x => setF_x hA h (by rw [sI_k, f1.1 0 (by decide)]) ((f1.mono (by decide)).trans (Fr.sI (by decide))) (fun i hi => by rw [sI_o _ _ (by omega)]; exact f2 i hi)
  have hHi : ∀ x, Hi M (sI M2 0 (va_up (M2.1 0) 13 x)) := fun x => Hi.fr (S := [0, 7, 19, 20]) ((f1.mono (by decide)).trans (Fr.sI (by decide))) (by decide)
  cases hq : rdR (rowI A s) (siz A s) 0 (0, [], []) with
  | inl k =>
    rw [hq] at f3
    simp only at f3 ⊢
    rw [f3.2, kI_r, wr_e, sI_k, up_at, if_pos rfl, if_neg (by rw [jn_jz (by omega) (by omega)]; exact id)]
    exact (x_ref (by omega) (hRF (jn k)) (by omega)).pre (hHi _)
  | inr o =>
    rw [hq] at f3
    simp only at f3 ⊢
    obtain ⟨w1, w2, w3⟩ := treeOf_ok (rdR_ok _ _ _ _ rdI_0 hq)
    rw [f3.1, kI_r, wr_e, sI_k, up_at, if_pos rfl, if_pos rfl]
    refine (x_newT (A := setF A (jz 1)) (t := treeOf o) (by omega) hA (hRF (jz 1)) w1 w3 ?_ (by omega) (by omega)).k.pre (hHi _)
    rw [sI_o _ _ (by omega), w2]; exact f3.2
/-! the model's reading -/
def rdM (M : PM) (s : RS) : Prop := Stk (fun i => M.1 66 i + jn 1) s.2.1 ∧ At (M.1 69) 0 s.2.2
end
