/-! the system's unifying: settled or not; the whole -/
theorem cntP_ex {p : Nat → Bool} : ∀ n, 0 < cntP p n → ∃ i, i < n ∧ p i = true := by
  intro n
  induction n with
  | zero => intro h; exact absurd h (Nat.lt_irrefl 0)
  | succ n ih =>
    intro h
    rw [cntP_s] at h
    by_cases e : p n = true
    · exact ⟨n, by omega, e⟩
    · rw [if_neg e] at h
      obtain ⟨i, h1, h2⟩ := ih h
      exact ⟨i, by omega, h2⟩
abbrev frU : List Nat := [40, 41, 42, 43, 44, 45, 46, 47]
/-- what is ready to be written -/
def WU (s t : Tm) (R : Nat → Nat) (sh : Nat → Option Nat) (N : Nat) (S : Nat → Prop) (M : PM) : Prop := ∃ i0 j0 n rk, UI (kS s t) (tSp s t) (scS s t) i0 j0 R sh [] ∧ US s t R sh [] n M ∧ Rkd (tSp s t) (scS s t) R sh S rk N ∧ ∀ k, kS s t k → S (R (ido (tSp s t) k))
section
variable {d i0 j0 n : Nat} {s t : Tm} {M M' : PM} {R : Nat → Nat} {sh : Nat → Option Nat}
theorem c_settled {u : Option Value} (hd : 5 ≤ d) (hs : wf s) (ht : wf t) (hs4 : sz s ≤ 40) (ht4 : sz t ≤ 40) (h : UI (kS s t) (tSp s t) (scS s t) i0 j0 R sh []) : ∀ m cp l3 (S U : Nat → Bool) rk N M u, cp ≤ m → US s t R sh [] n M → SB S M → Rkd (tSp s t) (scS s t) R sh (fun x => S x = true) rk N → (∀ k, kS s t k → U k = false → S (R (ido (tSp s t) k)) = true) → 1 ≤ cp → l3 + cp ≤ 81 → (cntP U 80 < cp ∨ cntP U 80 = 0 ∨ ∀ th, ap th (tSp s t i0) ≠ ap th (tSp s t j0)) →
    (∃ M' S' rk' N', E_266 d (8, [some (.ref 40), some (.int (jn (cntP U 80))), some (.int (jn cp)), some (.int (jn l3)), u], [], M) = rI (jn 1) M' ∧ Fr [45] M M' ∧ Rkd (tSp s t) (scS s t) R sh S' rk' N' ∧ ∀ k, kS s t k → S' (R (ido (tSp s t) k))) ∨ ∃ M', E_266 d (8, [some (.ref 40), some (.int (jn (cntP U 80))), some (.int (jn cp)), some (.int (jn l3)), u], [], M) = rI (jn 0) M' ∧ Fr [45] M M' ∧ ∀ th, ap th (tSp s t i0) ≠ ap th (tSp s t j0) := by
  have hP := pool_st hs ht hs4 ht4
  intro m
  induction m with
  | zero => intro cp l3 S U rk N M u hm _ _ _ _ h1; omega
  | succ m ih =>
    intro cp l3 S U rk N M u hm hu hb hS hU h1 h81 hc
    have hc80 := cntP_le U 80
    rw [h_266_8, ilt_neg (by omega) (by omega)]
    by_cases h0 : cntP U 80 = 0
    · rw [h0, ilt_neg (by omega) (by omega), ieq_pos rfl, rZ_1]
      refine Or.inl ⟨M, _, rk, N, rfl, Fr.rf, hS, fun k hk => hU k hk ?_⟩
      cases e : U k with
      | false => rfl
      | true =>
        have := cntP_lt (p := fun _ => false) (q := U) 80 k (hP k hk).1 (fun _ _ z => by cases z) rfl e
        omega
    rw [ilt_pos (show 0 < cntP U 80 by omega) (by omega)]
    by_cases hcp : cntP U 80 < cp
    case neg =>
      rw [ilt_neg (by omega) (by omega), ieq_neg h0 (by omega) (by omega), rZ_0]
      exact Or.inr ⟨M, rfl, Fr.rf, (hc.resolve_left hcp).resolve_left h0⟩
    rw [ilt_pos hcp (by omega)]
    obtain ⟨M1, S1, U1, rk1, N1, u1, g1, g2, g3, g4, g5, g6, g7⟩ := c_pass (l2 := cntP U 80) (l3 := l3) hd hs ht hs4 ht4 h 80 0 S rk N M (Nat.le_refl _) hu hb hS
    have g1 : E_266 d (31, [some (.ref 40), some (.int (jn 0)), some (.int (jn (cntP U 80))), some (.int (jn l3)), some (.int (jn 79))], [], M) = _ := g1
    rw [g1, Nat.zero_add]
    have good : ∀ r, S r = true → chkS (tSp s t) (scS s t) R sh S r := fun r hr k hk c hcc => ((hS r hr).2 k hk c hcc).1
    have sub : ∀ k, k < 80 → U1 k = true → U k = true := by
      intro k hk hk1
      obtain ⟨w1, w2⟩ := g5 k hk hk1
      cases e : U k with
      | true => rfl
      | false => exact absurd (good _ (hU k w1 e)) w2
    have hle := cntP_mono (p := U1) (q := U) 80 sub
    have hnext : cntP U1 80 < cntP U 80 ∨ cntP U1 80 = 0 ∨ ∀ th, ap th (tSp s t i0) ≠ ap th (tSp s t j0) := by
      by_cases hlt : cntP U1 80 < cntP U 80
      · exact Or.inl hlt
      by_cases hz : cntP U1 80 = 0
      · exact Or.inr (Or.inl hz)
      refine Or.inr (Or.inr (h.circle hP (fun r => ¬ S r = true) ?_ (fun k hk hsr => ?_)))
      · obtain ⟨k, k1, k2⟩ := cntP_ex 80 (show 0 < cntP U1 80 by omega)
        obtain ⟨w1, w2⟩ := g5 k k1 k2
        exact ⟨k, w1, fun z => w2 (good _ z)⟩
      · have k80 := (hP k hk).1
        have hUk : U k = true := by
          cases e : U k with
          | true => rfl
          | false => exact absurd (hU k hk e) hsr
        have hU1 : U1 k = true := by
          cases e : U1 k with
          | true => rfl
          | false =>
            have := cntP_lt (p := U1) (q := U) 80 k k80 sub e hUk
            omega
        obtain ⟨-, w2⟩ := g5 k k80 hU1
        apply Classical.byContradiction
        intro hno
        apply w2
        intro k' hk' c hcc
        apply Classical.byContradiction
        intro hns
        exact hno ⟨k', c, hk', hcc, hns⟩
    rcases ih (cntP U 80) (l3 + 1) S1 U1 rk1 N1 M1 u1 (by omega) (hu.fr g7) g2 g3 (fun k hk => g6 k (hP k hk).1 hk) (by omega) (by omega) hnext with ⟨M2, S2, rk2, N2, w1, w2, w3, w4⟩ | ⟨M2, w1, w2, w3⟩
    · exact Or.inl ⟨M2, S2, rk2, N2, w1, g7.trans w2, w3, w4⟩
    · exact Or.inr ⟨M2, w1, g7.trans w2, w3⟩
/-- everything is taken up anew -/
theorem c_anew (hd : 2 ≤ d) : ∃ M', pcl GG lay d 260 [.ref 40] M = rV M' ∧ Fr frU M M' ∧ (M'.1 40 8 = jn 0 ∧ M'.1 40 9 = jn 0 ∧ M'.1 40 12 = jn 0) ∧ (∀ k, k < 80 → M'.1 41 k = jn 0) ∧ (∀ x, x < 92 → M'.1 45 x = jn 0 ∧ M'.1 46 x = jn 0 ∧ M'.1 43 x = jn x ∧ M'.1 44 x = shI (if x < 12 then none else some (x - 12))) := by
  obtain ⟨d, rfl⟩ := ex_add (show 1 ≤ d by omega)
  have lp : ∀ m k M0, k + m = 92 → ∃ M', E_260 d (41, [some (.ref 40), some (.int (jn k))], [], M0) = rV M' ∧ Fr [43, 44] M0 M' ∧ (∀ x, k ≤ x → x < 92 → M'.1 43 x = jn x ∧ M'.1 44 x = shI (if x < 12 then none else some (x - 12))) ∧ ∀ x, x < k → M'.1 43 x = M0.1 43 x ∧ M'.1 44 x = M0.1 44 x := by
    intro m
    induction m with
    | zero =>
      intro k M0 hk
      rw [h_260_41, ilt_neg (by omega) (by omega)]
      exact ⟨M0, rfl, Fr.rf, fun x _ _ => by omega, fun _ _ => ⟨rfl, rfl⟩⟩
    | succ m ih =>
      intro k M0 hk
      have go : ∀ v : Int32, v = shI (if k < 12 then none else some (k - 12)) → ∃ M', (kV (pcl GG lay d 66 [.ref 44, .int (jn k), .int v] (sI M0 43 (va_up (M0.1 43) k (jn k)))) fun M2 => E_260 d (41, [some (.ref 40), some (.int (jn k + jn 1))], [], M2)) = rV M' ∧ Fr [43, 44] M0 M' ∧ (∀ x, k ≤ x → x < 92 → M'.1 43 x = jn x ∧ M'.1 44 x = shI (if x < 12 then none else some (x - 12))) ∧ ∀ x, x < k → M'.1 43 x = M0.1 43 x ∧ M'.1 44 x = M0.1 44 x := by
        intro v hv
        rw [c_put (n := 92) (by omega) rfl (by omega) (by omega), kV_r, jn_add]
        generalize hM2 : sI (sI M0 43 (va_up (M0.1 43) k (jn k))) 44 _ = M2
        have f2 : Fr [43, 44] M0 M2 := by rw [← hM2]; exact (Fr.sI (by decide)).trans (Fr.sI (by decide))
        have a43 : M2.1 43 = va_up (M0.1 43) k (jn k) := by rw [← hM2, sI_o _ _ (by decide), sI_k]
        have a44 : M2.1 44 = va_up (M0.1 44) k v := by rw [← hM2, sI_k, sI_o _ _ (by decide)]
        clear hM2
        obtain ⟨M', g1, g2, g3, g4⟩ := ih (k + 1) M2 (by omega)
        refine ⟨M', g1, f2.trans g2, fun x h1 h2 => ?_, fun x hx => ?_⟩
        · by_cases e : x = k
          · obtain ⟨q1, q2⟩ := g4 x (by omega)
            rw [q1, q2, a43, a44, up_at, up_at, if_pos e, if_pos e, e]
            exact ⟨rfl, hv⟩
          · exact g3 x (by omega) h2
        · obtain ⟨q1, q2⟩ := g4 x (by omega)
          rw [q1, q2, a43, a44, up_at, up_at, if_neg (by omega), if_neg (by omega)]
          exact ⟨rfl, rfl⟩
      rw [h_260_41, ilt_pos (by omega) (by omega), c_put (n := 92) (by omega) rfl (by omega) (by omega), kV_r]
      by_cases h12 : k < 12
      · rw [ilt_pos h12 (by omega)]
        exact go _ (by rw [if_pos h12]; rfl)
      · rw [ilt_neg (by omega) (by omega), jn_sub (by omega)]
        exact go _ (by rw [if_neg h12]; rfl)
  rw [q_260, wr_e, wr_e, wr_e]
  generalize hM1 : sI (sI (sI M 40 _) 40 _) 40 _ = M1
  have f1 : Fr frU M M1 := by rw [← hM1]; exact ((Fr.sI (by decide)).trans (Fr.sI (by decide))).trans (Fr.sI (by decide))
  have a40 : M1.1 40 8 = jn 0 ∧ M1.1 40 9 = jn 0 ∧ M1.1 40 12 = jn 0 := by
    rw [← hM1]
    refine ⟨?_, ?_, ?_⟩
    · rw [sI_k, up_at, if_neg (by omega), sI_k, up_at, if_neg (by omega), sI_k, up_at, if_pos rfl]
    · rw [sI_k, up_at, if_neg (by omega), sI_k, up_at, if_pos rfl]
    · rw [sI_k, up_at, if_pos rfl]
  clear hM1
  rw [c_fill (n := 80) (by omega) rfl (by omega), kV_r, c_fill (n := 92) (by omega) rfl (by omega), kV_r, c_fill (n := 92) (by omega) rfl (by omega), kV_r]
  generalize hM2 : sI (sI (sI M1 41 _) 46 _) 45 _ = M2
  have f2 : Fr frU M M2 := by rw [← hM2]; exact f1.trans (((Fr.sI (by decide)).trans (Fr.sI (by decide))).trans (Fr.sI (by decide)))
  have b40 : M2.1 40 = M1.1 40 := by rw [← hM2, sI_o _ _ (by decide), sI_o _ _ (by decide), sI_o _ _ (by decide)]
  have b41 : ∀ k, k < 80 → M2.1 41 k = jn 0 := fun k hk => by
    rw [← hM2, sI_o _ _ (by decide), sI_o _ _ (by decide), sI_k]; exact if_pos hk
  have b45 : ∀ k, k < 92 → M2.1 45 k = jn 0 := fun k hk => by
    rw [← hM2, sI_k]; exact if_pos hk
  have b46 : ∀ k, k < 92 → M2.1 46 k = jn 0 := fun k hk => by
    rw [← hM2, sI_o _ _ (by decide), sI_k]; exact if_pos hk
  clear hM2
  obtain ⟨M', g1, g2, g3, -⟩ := lp 92 0 M2 (by omega)
  refine ⟨M', g1, f2.trans (g2.mono (by decide)), by rw [g2.1 40 (by decide), b40]; exact a40, fun k hk => by rw [g2.1 41 (by decide)]; exact b41 k hk, fun x hx => ⟨by rw [g2.1 45 (by decide)]; exact b45 x hx, by rw [g2.1 46 (by decide)]; exact b46 x hx, (g3 x (Nat.zero_le _) hx).1, (g3 x (Nat.zero_le _) hx).2⟩⟩
theorem kS_l (hs4 : sz s ≤ 40) {k : Nat} (hk : k < sz s) : kS s t k := Or.inl ⟨by omega, hk⟩
theorem c_unif {p q node : Nat} (hd : 8 ≤ d) (hs : wf s) (ht : wf t) (hs4 : sz s ≤ 40) (ht4 : sz t ≤ 40) (h1 : At (M.1 7) p (en s)) (hp : p + sz s ≤ 3760) (h2 : At (M.1 7) q (en t)) (hq : q + sz t ≤ 3760) (hn : node < sz s) :
    (∃ M' R sh N S, pcl GG lay d 259 [.ref 40, .int (jn p), .int (jn q), .int (jn node)] M = rI (jn 1) M' ∧ Fr frU M M' ∧ Mgu (fun v => TR (tSp s t) (scS s t) R sh N (R v)) (sub s node) (apt t) ∧ WU s t R sh N S M' ∧ (∀ x, x < 92 → M'.1 46 x = jn 0) ∧ M'.1 40 9 = jn 0 ∧ M'.1 40 12 = jn 0) ∨
    ∃ M', pcl GG lay d 259 [.ref 40, .int (jn p), .int (jn q), .int (jn node)] M = rI (jn 0) M' ∧ Fr frU M M' ∧ ∀ th, ap th (sub s node) ≠ ap th (apt t) := by
  obtain ⟨d, rfl⟩ := ex_add (show 1 ≤ d by omega)
  have hP := pool_st hs ht hs4 ht4
  have zt := sz_pos t ht
  have ki : kS s t node := kS_l hs4 hn
  have kj : kS s t 40 := Or.inr ⟨Nat.le_refl _, by omega⟩
  have ei : tSp s t node = sub s node := if_pos (by omega)
  have ej : tSp s t 40 = apt t := by
    unfold tSp
    rw [if_neg (by omega), Nat.sub_self, sub_0]
  rw [← ei, ← ej]
  obtain ⟨M1, a1, a2, ⟨a3, a4, a5⟩, a6, a7⟩ := c_anew (d := d) (M := M) (by omega)
  obtain ⟨M2, b1, b2, b3, b4⟩ := c_text (d := d) (M := M1) (b := 0) (by omega) hs hs4 (by rw [a2.1 7 (by decide)]; exact h1) hp (by omega)
  obtain ⟨M3, c1, c2, c3, c4⟩ := c_text (d := d) (M := M2) (b := 40) (by omega) ht ht4 (by rw [b2.1 7 (by decide), a2.1 7 (by decide)]; exact h2) hq (by omega)
  obtain ⟨M4, e1, e2, e3, e4, e5⟩ := c_push (d := d) (i := node) (j := 40) (M := M3) (td := []) (by omega) (by simp) (by rw [c2.1 40 (by decide), b2.1 40 (by decide), a3]; rfl)
  have f3 : Fr [41, 42] M1 M3 := b2.trans c2
  have f4 : Fr frU M M4 := a2.trans ((f3.mono (by decide)).trans (e2.mono (by decide)))
  have hT : TXT s t M4 := by
    intro k hk
    have x41 : M4.1 41 = M3.1 41 := e2.1 41 (by decide)
    have x42 : M4.1 42 = M3.1 42 := e2.1 42 (by decide)
    rw [x41, x42]
    by_cases hk4 : k < 40
    · have c41 : M3.1 41 k = M2.1 41 k := (c4 k (by omega)).1
      refine ⟨fun hkk => ?_, fun hkk => ?_⟩
      · have hks : k < sz s := by rcases hkk with hkk | hkk <;> omega
        obtain ⟨w1, w2⟩ := b3 k hks
        rw [Nat.zero_add] at w1 w2
        have er : rawS s t k = sgn s k := if_pos hk4
        rw [er]
        refine ⟨by rw [c41]; exact w1, fun z => ?_⟩
        have hks2 : sgn s k = hdc (sub s k) := sgn_hdc hs hks
        obtain ⟨c, x, y, e, hc⟩ := wf_cases (sub_wf hs hks)
        have hz := sub_sz hs hks
        rw [e, sz_n] at hz
        rw [hks2, e] at z
        have z : is2 c := z
        have hx : wf x := by
          rcases hc with ⟨h, -⟩ | ⟨h, -⟩ | ⟨-, h, -⟩
          · omega
          · omega
          · exact h
        have hzx := sz_pos x hx
        rw [(c4 k (by omega)).2, w2 (by rw [hks2, e]; exact z)]
        unfold scS tSp
        rw [if_pos (by omega)]
      · rw [c41, (b4 k (by right; rw [Nat.zero_add]; apply Classical.byContradiction; intro z; exact hkk (Or.inl ⟨hk4, by omega⟩))).1]
        exact a6 k hk
    · refine ⟨fun hkk => ?_, fun hkk => ?_⟩
      · have hks : k - 40 < sz t := by rcases hkk with hkk | hkk <;> omega
        obtain ⟨w1, w2⟩ := c3 (k - 40) hks
        rw [show 40 + (k - 40) = k by omega] at w1 w2
        have er : rawS s t k = sgn t (k - 40) := if_neg hk4
        rw [er]
        refine ⟨w1, fun z => ?_⟩
        rw [w2 z]
        unfold scS tSp
        rw [if_neg (by omega), apt_sz, show k + 1 - 40 = k - 40 + 1 by omega]
      · rw [(c4 k (by right; apply Classical.byContradiction; intro z; exact hkk (Or.inr ⟨by omega, by omega⟩))).1, (b4 k (by omega)).1]
        exact a6 k hk
  have hu : US s t (fun x => x) (fun x => if x < 12 then none else some (x - 12)) [(node, 40)] 0 M4 := by
    refine ⟨hT, fun x hx => ⟨hx, rfl, ?_⟩, fun x hx => ?_, ⟨e4, e5 trivial⟩, ?_⟩
    · rw [e2.1 43 (by decide), f3.1 43 (by decide)]; exact (a7 x hx).2.2.1
    · rw [e2.1 44 (by decide), f3.1 44 (by decide)]; exact (a7 x hx).2.2.2
    · rw [Nat.zero_add]; exact cntP_le _ 92
  have k45 : ∀ x, x < 92 → M4.1 45 x = jn 0 := fun x hx => by rw [e2.1 45 (by decide), f3.1 45 (by decide)]; exact (a7 x hx).1
  have k46 : ∀ x, x < 92 → M4.1 46 x = jn 0 := fun x hx => by rw [e2.1 46 (by decide), f3.1 46 (by decide)]; exact (a7 x hx).2.1
  have k9 : M4.1 40 9 = jn 0 := by rw [e3 9 (by omega), f3.1 40 (by decide)]; exact a4
  have k12 : M4.1 40 12 = jn 0 := by rw [e3 12 (by omega), f3.1 40 (by decide)]; exact a5
  rw [q_259, a1, kV_r, b1, kV_r, c1, kV_r, e1, kV_r]
  rcases c_pairs (d := d) (u1 := some (.int (jn p))) (u2 := some (.int (jn q))) (u3 := some (.int (jn node))) (by omega) hs ht hs4 ht4 184 0 _ _ _ 0 M4 rfl (UI_0 hP ki kj) hu (by simp) with ⟨M5, R, sh, n, g1, g2, g3, g4⟩ | ⟨M5, g1, g2, g3⟩
  · obtain ⟨d, rfl⟩ := ex_add (show 1 ≤ d by omega)
    have hb : SB (fun _ => false) M5 := fun x hx => by rw [g4.1.1 45 (by decide)]; exact k45 x hx
    have h80 : cntP (fun _ => true) 80 = 80 := by decide
    rw [g1, q_266]
    rcases c_settled (d := d) (n := n) (u := none) (by omega) hs ht hs4 ht4 g2 81 81 0 (fun _ => false) (fun _ => true) (fun _ => 0) 0 M5 none (Nat.le_refl _) g3 hb (fun r hr => by cases hr) (fun k _ hk => by cases hk) (by omega) (by omega) (Or.inl (by rw [h80]; omega)) with ⟨M6, S, rk, N, w1, w2, w3, w4⟩ | ⟨M6, w1, w2, w3⟩
    · rw [h80] at w1
      rw [w1, kI_r, rZ_1]
      refine Or.inl ⟨M6, R, sh, N, S, rfl, f4.trans ((g4.1.mono (by decide)).trans (w2.mono (by decide))), g2.mgu hP ki kj w3 w4, ⟨_, _, n, rk, g2, g3.fr w2, w3, w4⟩, fun x hx => ?_, ?_, ?_⟩
      · rw [w2.1 46 (by decide), g4.1.1 46 (by decide)]; exact k46 x hx
      · rw [w2.1 40 (by decide), g4.2 9 (by omega)]; exact k9
      · rw [w2.1 40 (by decide), g4.2 12 (by omega)]; exact k12
    · rw [h80] at w1
      rw [w1, kI_r, rZ_0]
      exact Or.inr ⟨M6, rfl, f4.trans ((g4.1.mono (by decide)).trans (w2.mono (by decide))), w3⟩
  · rw [g1]
    exact Or.inr ⟨M5, rfl, f4.trans (g2.1.mono (by decide)), g3⟩
end
