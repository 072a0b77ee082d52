/-! the system's unifying: settling -/
def chkS (T : Nat → Tm) (sc : Nat → Nat) (R : Nat → Nat) (sh : Nat → Option Nat) (S : Nat → Bool) (r : Nat) : Prop := ∀ k, sh r = some k → ∀ c, isch T sc k c → S (R (ido T c)) = true
def SB (S : Nat → Bool) (M : PM) : Prop := ∀ x, x < 92 → M.1 45 x = jn (if S x = true then 1 else 0)
def posI (j : Nat) : Int32 := match j with
  | 0 => jz 1
  | k + 1 => jn k
theorem posI_dec (k : Nat) : jn k + jz 1 = posI k := by
  cases k with
  | zero => decide
  | succ k =>
    rw [jn_addz (by omega)]
    show jn (k + 1 - 1) = jn k
    rfl
def stS (S : Nat → Bool) (r : Nat) (x : Nat) : Bool := if x = r then true else S x
theorem stS_at (S : Nat → Bool) (r x : Nat) : stS S r x = if x = r then true else S x := rfl
theorem Rkd_set {T : Nat → Tm} {sc : Nat → Nat} {R : Nat → Nat} {sh : Nat → Option Nat} {S : Nat → Bool} {rk : Nat → Nat} {N r : Nat} (h : Rkd T sc R sh (fun x => S x = true) rk N) (hc : chkS T sc R sh S r) : ∃ rk' N', Rkd T sc R sh (fun x => stS S r x = true) rk' N' := by
  by_cases hr : S r = true
  · have e : stS S r = S := by
      funext x
      rw [stS_at]
      split
      · rename_i z; rw [z, hr]
      · rfl
    rw [e]
    exact ⟨rk, N, h⟩
  · refine ⟨va_up rk r N, N + 1, fun x hx => ?_⟩
    by_cases e : x = r
    · rw [e]
      refine ⟨by rw [up_at, if_pos rfl]; omega, fun k hk c hcc => ?_⟩
      have hs := hc k hk c hcc
      have hne : R (ido T c) ≠ r := fun z => hr (z ▸ hs)
      refine ⟨by show stS S r _ = true; rw [stS_at, if_neg hne]; exact hs, ?_⟩
      rw [up_at, up_at, if_neg hne, if_pos rfl]
      exact (h _ hs).1
    · have hx : S x = true := by
        have : stS S r x = true := hx
        rw [stS_at, if_neg e] at this
        exact this
      obtain ⟨h1, h2⟩ := h x hx
      refine ⟨by rw [up_at, if_neg e]; omega, fun k hk c hcc => ?_⟩
      obtain ⟨h3, h4⟩ := h2 k hk c hcc
      have hne : R (ido T c) ≠ r := fun z => hr (z ▸ h3)
      refine ⟨by show stS S r _ = true; rw [stS_at, if_neg hne]; exact h3, ?_⟩
      rw [up_at, up_at, if_neg hne, if_neg e]
      exact h4
theorem chkS_mono {T : Nat → Tm} {sc : Nat → Nat} {R : Nat → Nat} {sh : Nat → Option Nat} {S S' : Nat → Bool} {r : Nat} (h : ∀ x, S x = true → S' x = true) (hc : chkS T sc R sh S r) : chkS T sc R sh S' r := fun k hk c hcc => h _ (hc k hk c hcc)
section
variable {d i0 j0 n : Nat} {s t : Tm} {M M' : PM} {R : Nat → Nat} {sh : Nat → Option Nat}
theorem c_settle {r : Nat} {S : Nat → Bool} (hd : 4 ≤ d) (hs : wf s) (ht : wf t) (hs4 : sz s ≤ 40) (ht4 : sz t ≤ 40) (h : UI (kS s t) (tSp s t) (scS s t) i0 j0 R sh []) (hu : US s t R sh [] n M) (hb : SB S M) (hr : viU (kS s t) (tSp s t) r) (hrr : R r = r) :
    (chkS (tSp s t) (scS s t) R sh S r ∧ pcl GG lay d 267 [.ref 40, .int (jn r)] M = rI (jn 1) (sI M 45 (va_up (M.1 45) r (jn 1)))) ∨ (¬ chkS (tSp s t) (scS s t) R sh S r ∧ pcl GG lay d 267 [.ref 40, .int (jn r)] M = rI (jn 0) M) := by
  obtain ⟨d, rfl⟩ := ex_add (show 1 ≤ d by omega)
  have hP := pool_st hs ht hs4 ht4
  have hu' := hu
  obtain ⟨u1, u2, u3, -, -⟩ := hu'
  have lr := viU_lt hP hr
  have hn := hu.lt lr hrr
  rw [q_267, c_get (n := 92) (by omega) rfl lr (by omega), kI_r, u3 r lr]
  have z02 : ¬ (jn 0 = jn 2) := by rw [jn_inj (by omega) (by omega)]; omega
  have z12 : ¬ (jn 1 = jn 2) := by rw [jn_inj (by omega) (by omega)]; omega
  cases e : sh r with
  | none =>
    refine Or.inl ⟨fun k hk => (by rw [e] at hk; cases hk), ?_⟩
    rw [if_pos (show shI none = jz 1 from rfl), ilt_pos (by omega) (by omega), if_neg z02, c_put (n := 92) (by omega) rfl lr (by omega), kV_r, rZ_1]
  | some k =>
    obtain ⟨k1, k2, k3⟩ := h.shp r k hr hrr e
    have k80 := (hP k k1).1
    have eA : shI (some k) = jn k := rfl
    have nA : ¬ (jn k = jz 1) := by rw [jn_jz (by omega) (by omega)]; exact id
    obtain ⟨t1, t2⟩ := (u1 k k80).1 k1
    obtain ⟨q1, q2, q3, -⟩ := raw_hd hs ht k1
    have hv : ¬ isV (rawS s t k) := fun z => k2 (q1.mp z)
    have hh := q2 hv
    rw [eA, if_neg nA, c_get (n := 80) (by omega) rfl k80 (by omega), kI_r, t1, c_arity (by omega), kI_r]
    -- an argument's class
    have arg : ∀ c, isch (tSp s t) (scS s t) k c → kS s t c ∧ ido (tSp s t) c < 92 ∧ R (ido (tSp s t) c) < 92 ∧ pcl GG lay d 264 [.ref 40, .int (jn c)] M = rI (jn (ido (tSp s t) c)) M ∧ pcl GG lay d 265 [.ref 40, .int (jn (ido (tSp s t) c))] M = rI (jn (R (ido (tSp s t) c))) M := by
      intro c hc
      have kc := (isch_K hP k1 hc).1
      have l1 := ido_lt hP kc
      obtain ⟨l2, l3⟩ := u2 _ l1
      exact ⟨kc, l1, l2, c_ido (by omega) hs ht hs4 ht4 u1 kc, c_root (by omega) l1 hn l3⟩
    have put : (kV (pcl GG lay d 66 [.ref 45, .int (jn r), .int (jn 1)] M) fun M => rZ (jn 1) M) = rI (jn 1) (sI M 45 (va_up (M.1 45) r (jn 1))) := by
      rw [c_put (n := 92) (by omega) rfl lr (by omega), kV_r, rZ_1]
    rcases q3 with h0 | h1 | h2
    · have hz : ¬ (jn 0 = jn 2) := z02
      refine Or.inl ⟨fun k' hk' c hc => ?_, ?_⟩
      · rw [e] at hk'; cases hk'
        unfold isch at hc
        rw [hh] at hc
        rcases hc with ⟨-, hc | hc⟩ | ⟨-, hc⟩ <;> omega
      · rw [arR_0 h0, ilt_pos (by omega) (by omega), if_neg hz, put]
    · have c1 : isch (tSp s t) (scS s t) k (k + 1) := Or.inl ⟨rfl, Or.inl (by rw [hh]; exact h1)⟩
      obtain ⟨a1, a2, a3, a4, a5⟩ := arg (k + 1) c1
      rw [arR_1 h1, ilt_neg (by omega) (by omega), jn_add, a4, kI_r, a5, kI_r, c_get (n := 92) (by omega) rfl a3 (by omega), kI_r, hb _ a3]
      by_cases hS : S (R (ido (tSp s t) (k + 1))) = true
      · refine Or.inl ⟨fun k' hk' c hc => ?_, ?_⟩
        · rw [e] at hk'; cases hk'
          rcases hc with ⟨rfl, -⟩ | ⟨-, hc⟩
          · exact hS
          · rw [hh] at hc; omega
        · rw [if_pos hS, ieq_neg (by omega) (by omega) (by omega), if_neg z12, put]
      · refine Or.inr ⟨fun z => hS (z k e _ c1), ?_⟩
        rw [if_neg hS, ieq_pos rfl, rZ_0]
    · have c1 : isch (tSp s t) (scS s t) k (k + 1) := Or.inl ⟨rfl, Or.inr (by rw [hh]; exact h2)⟩
      have c2 : isch (tSp s t) (scS s t) k (scS s t k) := Or.inr ⟨rfl, by rw [hh]; exact h2⟩
      obtain ⟨a1, a2, a3, a4, a5⟩ := arg (k + 1) c1
      obtain ⟨b1, b2, b3, b4, b5⟩ := arg (scS s t k) c2
      rw [arR_2 h2, ilt_neg (by omega) (by omega), jn_add, a4, kI_r, a5, kI_r, c_get (n := 92) (by omega) rfl a3 (by omega), kI_r, hb _ a3]
      by_cases hS : S (R (ido (tSp s t) (k + 1))) = true
      · rw [if_pos hS, ieq_neg (by omega) (by omega) (by omega), ieq_pos rfl, c_get (n := 80) (by omega) rfl k80 (by omega), kI_r, t2 h2, b4, kI_r, b5, kI_r, c_get (n := 92) (by omega) rfl b3 (by omega), kI_r, hb _ b3]
        by_cases hS2 : S (R (ido (tSp s t) (scS s t k))) = true
        · refine Or.inl ⟨fun k' hk' c hc => ?_, ?_⟩
          · rw [e] at hk'; cases hk'
            rcases hc with ⟨rfl, -⟩ | ⟨rfl, -⟩
            · exact hS
            · exact hS2
          · rw [if_pos hS2, ieq_neg (by omega) (by omega) (by omega), put]
        · refine Or.inr ⟨fun z => hS2 (z k e _ c2), ?_⟩
          rw [if_neg hS2, ieq_pos rfl, rZ_0]
      · refine Or.inr ⟨fun z => hS (z k e _ c1), ?_⟩
        rw [if_neg hS, ieq_pos rfl, rZ_0]
theorem US.fr {td : List (Nat × Nat)} (h : US s t R sh td n M) (hf : Fr [45] M M') : US s t R sh td n M' :=
  ⟨h.1.eq (hf.1 41 (by decide)) (hf.1 42 (by decide)), by rw [hf.1 43 (by decide)]; exact h.2.1, by rw [hf.1 44 (by decide)]; exact h.2.2.1, ⟨by rw [hf.1 40 (by decide)]; exact h.2.2.2.1.1, by rw [hf.1 47 (by decide)]; exact h.2.2.2.1.2⟩, h.2.2.2.2⟩
theorem cntP_s (p : Nat → Bool) (k : Nat) : cntP p (k + 1) = cntP p k + if p k = true then 1 else 0 := rfl
/-- once through all spots -/
theorem c_pass {l2 l3 : Nat} (hd : 5 ≤ d) (hs : wf s) (ht : wf t) (hs4 : sz s ≤ 40) (ht4 : sz t ≤ 40) (h : UI (kS s t) (tSp s t) (scS s t) i0 j0 R sh []) : ∀ j c (S : Nat → Bool) rk N M, j ≤ 80 → US s t R sh [] n M → SB S M → Rkd (tSp s t) (scS s t) R sh (fun x => S x = true) rk N →
    ∃ M' S' U rk' N' u, E_266 d (31, [some (.ref 40), some (.int (jn c)), some (.int (jn l2)), some (.int (jn l3)), some (.int (posI j))], [], M) = E_266 d (8, [some (.ref 40), some (.int (jn (c + cntP U j))), some (.int (jn l2)), some (.int (jn (l3 + 1))), u], [], M') ∧ SB S' M' ∧ Rkd (tSp s t) (scS s t) R sh (fun x => S' x = true) rk' N' ∧ (∀ x, S x = true → S' x = true) ∧ (∀ k, k < j → U k = true → kS s t k ∧ ¬ chkS (tSp s t) (scS s t) R sh S (R (ido (tSp s t) k))) ∧ (∀ k, k < j → kS s t k → U k = false → S' (R (ido (tSp s t) k)) = true) ∧ Fr [45] M M' := by
  have hP := pool_st hs ht hs4 ht4
  intro j
  induction j with
  | zero =>
    intro c S rk N M _ hu hb hS
    rw [h_266_31, if_pos (show posI 0 < jn 0 by decide), jn_add]
    exact ⟨M, S, fun _ => false, rk, N, some (.int (posI 0)), rfl, hb, hS, fun _ z => z, fun k hk => by omega, fun k hk => by omega, Fr.rf⟩
  | succ k ih =>
    intro c S rk N M hj hu hb hS
    have e41 := hu.1 k (by omega)
    rw [show posI (k + 1) = jn k from rfl, h_266_31, ilt_neg (by omega) (by omega), c_get (n := 80) (by omega) rfl (by omega) (by omega), kI_r]
    -- what's behind this spot
    have nx : ∀ (c' : Nat) (S1 : Nat → Bool) rk1 N1 (M1 : PM) (v : Bool), US s t R sh [] n M1 → SB S1 M1 → Rkd (tSp s t) (scS s t) R sh (fun x => S1 x = true) rk1 N1 → (∀ x, S x = true → S1 x = true) → Fr [45] M M1 → c' = c + (if v = true then 1 else 0) → (v = true → kS s t k ∧ ¬ chkS (tSp s t) (scS s t) R sh S (R (ido (tSp s t) k))) → (v = false → kS s t k → S1 (R (ido (tSp s t) k)) = true) →
        ∃ M' S' U rk' N' u, E_266 d (31, [some (.ref 40), some (.int (jn c')), some (.int (jn l2)), some (.int (jn l3)), some (.int (jn k + jz 1))], [], M1) = E_266 d (8, [some (.ref 40), some (.int (jn (c + cntP U (k + 1)))), some (.int (jn l2)), some (.int (jn (l3 + 1))), u], [], M') ∧ SB S' M' ∧ Rkd (tSp s t) (scS s t) R sh (fun x => S' x = true) rk' N' ∧ (∀ x, S x = true → S' x = true) ∧ (∀ i, i < k + 1 → U i = true → kS s t i ∧ ¬ chkS (tSp s t) (scS s t) R sh S (R (ido (tSp s t) i))) ∧ (∀ i, i < k + 1 → kS s t i → U i = false → S' (R (ido (tSp s t) i)) = true) ∧ Fr [45] M M' := by
      intro c' S1 rk1 N1 M1 v hu1 hb1 hS1 hm hf hc' hv1 hv2
      obtain ⟨M', S', U, rk', N', u, g1, g2, g3, g4, g5, g6, g7⟩ := ih c' S1 rk1 N1 M1 (by omega) hu1 hb1 hS1
      refine ⟨M', S', va_up U k v, rk', N', u, ?_, g2, g3, fun x hx => g4 x (hm x hx), fun i hi hU => ?_, fun i hi hk hU => ?_, hf.trans g7⟩
      · have ec : cntP (va_up U k v) k = cntP U k := cntP_congr k (fun i hi => by rw [up_at, if_neg (by omega)])
        rw [posI_dec, g1, cntP_s, up_at, if_pos rfl, ec, hc', show c + (if v = true then 1 else 0) + cntP U k = c + (cntP U k + if v = true then 1 else 0) by omega]
      · by_cases e : i = k
        · rw [e, up_at, if_pos rfl] at hU
          rw [e]; exact hv1 hU
        · rw [up_at, if_neg e] at hU
          obtain ⟨w1, w2⟩ := g5 i (by omega) hU
          exact ⟨w1, fun z => w2 (chkS_mono hm z)⟩
      · by_cases e : i = k
        · rw [e, up_at, if_pos rfl] at hU
          rw [e] at hk ⊢
          exact g4 _ (hv2 hU hk)
        · rw [up_at, if_neg e] at hU
          exact g6 i (by omega) hk hU
    by_cases hk : kS s t k
    case neg =>
      rw [e41.2 hk, ieq_pos rfl]
      exact nx c S rk N M false hu hb hS (fun _ z => z) Fr.rf (by simp) (fun z => by cases z) (fun _ z => absurd z hk)
    obtain ⟨q1, q2, q3, -⟩ := raw_hd hs ht hk
    have hne : ¬ (rawS s t k = jn 0) := by
      intro z
      rw [z] at q3
      have : (jn 0).toInt = 0 := by decide
      rcases q3 with q3 | q3 | q3 <;> omega
    have l1 := ido_lt hP hk
    obtain ⟨l2', l3'⟩ := hu.2.1 _ l1
    obtain ⟨v1, v2⟩ := h.root _ (ido_vi hk)
    have hn := hu.lt l2' v2
    rw [(e41.1 hk).1, if_neg hne, c_ido (by omega) hs ht hs4 ht4 hu.1 hk, kI_r, c_root (by omega) l1 hn l3', kI_r]
    rcases c_settle (d := d) (by omega) hs ht hs4 ht4 h hu hb v1 v2 with ⟨g1, g2⟩ | ⟨g1, g2⟩
    · rw [g2, kI_r, ieq_neg (by omega) (by omega) (by omega)]
      obtain ⟨rk', N', hS'⟩ := Rkd_set hS g1
      have hf : Fr [45] M (sI M 45 (va_up (M.1 45) (R (ido (tSp s t) k)) (jn 1))) := Fr.sI (by decide)
      refine nx c (stS S (R (ido (tSp s t) k))) rk' N' _ false (hu.fr hf) (fun x hx => ?_) hS' (fun x z => by rw [stS_at]; split; rfl; exact z) hf (by simp) (fun z => by cases z) (fun _ _ => by rw [stS_at, if_pos rfl])
      rw [sI_k, up_at, stS_at]
      split
      · rfl
      · exact hb x hx
    · rw [g2, kI_r, ieq_pos rfl, jn_add]
      exact nx (c + 1) S rk N M true hu hb hS (fun _ z => z) Fr.rf (by simp) (fun _ => ⟨hk, g1⟩) (fun z => by cases z)
end
