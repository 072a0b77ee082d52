/-! the system's run: any strategy -/
section
variable {g : Int32 → Nat × Int32 × Int32} {f : Int32 → Tm → Int64 → RnS → RnR} {n : Nat} {s : Int32} {t t1 : Tm} {p : Int64} {q q1 : RnS}
theorem bod_0 : bodF g f n s 0 t p q = f (g s).2.1 t p q := rfl
theorem bod_1 : bodF g f n s 1 t p q = (some t, q) := rfl
theorem bod_2 : bodF g f n s 2 t p q = (none, q) := rfl
theorem bod_3n (e : runF g f n (g s).2.1 t p q = (none, q1)) : bodF g f n s 3 t p q = (none, q1) := by unfold bodF; simp only [e]
theorem bod_3s (e : runF g f n (g s).2.1 t p q = (some t1, q1)) : bodF g f n s 3 t p q = runF g f n (g s).2.2 t1 p q1 := by unfold bodF; simp only [e]
theorem bod_4o (e : runF g f n (g s).2.1 t p q = (none, q1)) (ho : q1.2.2.2 = true) : bodF g f n s 4 t p q = (none, q1) := by unfold bodF; simp only [e, if_pos ho]
theorem bod_4n (e : runF g f n (g s).2.1 t p q = (none, q1)) (ho : ¬ q1.2.2.2 = true) : bodF g f n s 4 t p q = runF g f n (g s).2.2 t p q1 := by unfold bodF; simp only [e, if_neg ho]
theorem bod_4s (e : runF g f n (g s).2.1 t p q = (some t1, q1)) : bodF g f n s 4 t p q = (some t1, q1) := by unfold bodF; simp only [e]
theorem bod_5o (e : runF g f n (g s).2.1 t p q = (none, q1)) (ho : q1.2.2.2 = true) : bodF g f n s 5 t p q = (none, q1) := by unfold bodF; simp only [e, if_pos ho]
theorem bod_5n (e : runF g f n (g s).2.1 t p q = (none, q1)) (ho : ¬ q1.2.2.2 = true) : bodF g f n s 5 t p q = (some t, q1) := by unfold bodF; simp only [e, if_neg ho]
theorem bod_5s (e : runF g f n (g s).2.1 t p q = (some t1, q1)) : bodF g f n s 5 t p q = (some t1, q1) := by unfold bodF; simp only [e]
theorem bod_6 : bodF g f n s 6 t p q = allC (runF g f n (g s).2.1) t p q := rfl
theorem bod_7 : bodF g f n s 7 t p q = onC 7 (runF g f n (g s).2.1) t p q := rfl
theorem bod_8 : bodF g f n s 8 t p q = onC 8 (runF g f n (g s).2.1) t p q := rfl
theorem bod_10n (e : runF g f n (g s).2.1 t p q = (none, q1)) : bodF g f n s 10 t p q = (none, q1) := by unfold bodF; simp only [e]
theorem bod_10s (e : runF g f n (g s).2.1 t p q = (some t1, q1)) : bodF g f n s 10 t p q = allC (runF g f n s) t1 p q1 := by unfold bodF; simp only [e]
theorem bod_11o (e : runF g f n (g s).2.1 t p q = (none, q1)) (ho : q1.2.2.2 = true) : bodF g f n s 11 t p q = (none, q1) := by unfold bodF; simp only [e, if_pos ho]
theorem bod_11n (e : runF g f n (g s).2.1 t p q = (none, q1)) (ho : ¬ q1.2.2.2 = true) : bodF g f n s 11 t p q = onC 11 (runF g f n s) t p q1 := by unfold bodF; simp only [e, if_neg ho]; rfl
theorem bod_11s (e : runF g f n (g s).2.1 t p q = (some t1, q1)) : bodF g f n s 11 t p q = (some t1, q1) := by unfold bodF; simp only [e]
theorem bod_12 : bodF g f n s 12 t p q = innC (runF g f n s) (runF g f n (g s).2.1) 601 t p q := rfl
theorem bod_13 : bodF g f n s 13 t p q = repC (runF g f n (g s).2.1) 601 t p q := rfl
end
def upO (A : AT) (n : Nat) (w : Int32) (P : Int64) (o : RnR) : RnR := match o with
  | (none, q1) => (none, q1)
  | (some t1, q1) => runF (gM A) (fM A) n (gM A w).2.1 t1 P q1
theorem bod_9 {A : AT} {n : Nat} {w : Int32} {t : Tm} {P : Int64} {q : RnS} : bodF (gM A) (fM A) n w 9 t P q = upO A n w P (allC (runF (gM A) (fM A) n w) t P q) := rfl
def inO (R S : Tm → Int64 → RnS → RnR) (m : Nat) (P : Int64) (o : RnR) : RnR := match o with
  | (none, q1) => (none, q1)
  | (some t1, q1) => match S t1 P q1 with
    | (none, q2) => if q2.2.2.2 = true then (none, q2) else (some t1, q2)
    | (some t2, q2) => if q2.1 = 600 then ovr q2 else innC R S m t2 P (bgn q2)
theorem innC_s {R S : Tm → Int64 → RnS → RnR} {m : Nat} {t : Tm} {P : Int64} {q : RnS} : innC R S (m + 1) t P q = inO R S m P (allC R t P q) := rfl
section
variable {d dd n k s s0 : Nat} {u1 u2 u4 : Option Value} {A : AT} {M M' M0 : PM} {V : Int32 → Prop} {f : Nat} {w w' : Int32} {P P' : Int64} {q0 q q' q1 q2 : RnS} {b p0 top top' top1 top2 p p' p1 st st' : Nat} {u0 u u' x x' v : Tm}
theorem Md_lt (hC : FC f q0 b p0 u0) (h : Md q0 b p0 u0 q top p u) (ht : top ≤ 3760) : p < 3760 := by
  obtain ⟨c1, c2, c3, ⟨c4, c5⟩, c6, c7, c8⟩ := hC
  have z0 := sz_pos u0 c4
  have z1 := sz_pos u h.1.1
  have c9 := c1.2.1
  rcases h.2 with ⟨e, -⟩ | ⟨-, e, -⟩ <;> omega
theorem hjz {n : Nat} (hn : n < 3760) : ¬ jn n = jz 1 := by rw [jn_jz (by omega) (by omega)]; exact id
/-- again and again -/
theorem x_repL (hdd : 12 ≤ dd) (hA : AOk A) (hV : GOk V (okR A) (gM A)) (ih : Tn A V dd u1 u2 n) (hC : FC f q0 b p0 u0) (hw : V w) (hk0 : (gM A w).1 = 13) : ∀ m u q1 k1 u41 M1 M2 top2 p2 st, 601 ≤ m + q1.1 → 601 ≤ n + q1.1 → XR A V f w P q0 b p0 u0 M0 q1 top2 p2 u st M2 → Kid A V dd u1 u2 f w P q0 b p0 u0 M0 q1 top2 p2 u 1 M2 (s0 + 2) p2 u (E_200 dd (36, [some (.ref 29), u1, u2, some (.int (jn k1)), u41], [], M1)) (runF (gM A) (fM A) n (gM A w).2.1 u P q1) →
    Gl A V dd u1 u2 f q0 b p0 u0 M0 s0 (E_200 dd (36, [some (.ref 29), u1, u2, some (.int (jn k1)), u41], [], M1)) (bck q0 (repC (runF (gM A) (fM A) n (gM A w).2.1) m u P q1)) := by
  have hf : f < 600 := by have := hC.2.1; have := hC.2.2.1; omega
  obtain ⟨d, rfl⟩ := ex_add (show 1 ≤ dd by omega)
  intro m
  induction m with
  | zero => intro u q1 k1 u41 M1 M2 top2 p2 st hm _ h; have := h.ev.1.1; omega
  | succ m ihm =>
    intro u q1 k1 u41 M1 M2 top2 p2 st hm hn h kd1
    rcases e : runF (gM A) (fM A) n (gM A w).2.1 u P q1 with ⟨_ | t, q2⟩
    · rw [e] at kd1
      rcases kd1 with ⟨z1, M', z2, z3, z4, z5⟩ | ⟨z1, k', u4', M', top', z2, ⟨z3, z4, z5⟩, z6, z7, z8, z9, z10, z11, z12⟩
      · have ea : repC (runF (gM A) (fM A) n (gM A w).2.1) (m + 1) u P q1 = (none, q2) := by unfold repC; simp only [e]; exact if_pos z1
        rw [ea]
        exact Or.inl ⟨z1, M', z2, z3, z4, z5⟩
      · have z1 : q2.2.2.2 = false := z1
        have z3 : k' + (s0 + 2) + 1 ≤ 3 * q2.1 := z3
        have z6 : XR A V f w P q0 b p0 u0 M0 q2 top' p2 u 1 M' := z6
        have z8 : top' ≤ 2120 + 40 * q2.2.1 := z8
        have q11 := z6.ev.1.1
        have q12 := z6.ev.1.2.1
        have ea : repC (runF (gM A) (fM A) n (gM A w).2.1) (m + 1) u P q1 = (some u, q2) := by unfold repC; simp only [e]; exact if_neg (by rw [z1]; simp)
        obtain ⟨M3, p3, top3, e3, v1, v2, v3, v4, v5⟩ := x_fin (d := d) (by omega) hA hC z6 z6.md z6.2.2.1.1 (by omega)
        rw [ea, z2, round_x (by omega) hf z6 (by omega) (by omega), if_neg (by decide), if_pos rfl, q_208, g33 (by omega) hf z6, kI_r, g34 (by omega) hf z6, kI_r, if_pos z11, x_kd (by omega) z6.tb hw, kI_r, ieq_neg (by omega) (by omega) (by omega), ieq_neg (by omega) (by omega) (by omega), ieq_neg (by omega) (by omega) (by omega), ieq_neg (by omega) (by omega) (by omega), ieq_neg (by omega) (by omega) (by omega), ieq_neg (by omega) (by omega) (by omega), ieq_neg (by omega) (by omega) (by omega), ieq_neg (by omega) (by omega) (by omega), ieq_neg (by omega) (by omega) (by omega), ieq_neg (by omega) (by omega) (by omega), ieq_pos hk0, ieq_neg (by omega) (by omega) (by omega), e3, kV_r, h_208_317, kV_r]
        exact Gl.done z6.ev v1 v2 v3 v4 v5 (by omega)
    · rw [e] at kd1
      have hro := runF_ok hV (fM_ok hA) n _ ((hV w hw).2.1 (by omega)) u P q1 h.2.2.1.2.1 h.2.2.1.2.2 h.ev.1
      rw [e] at hro
      rcases kd1 with ⟨z1, -⟩ | ⟨z1, k', u4', M', top', z2, ⟨z3, z4, z5⟩, z6, z7, z8, z9, z10, z11, p1, z13, z14, z15⟩
      · have z1 : q2.2.2.2 = true := z1
        rw [hro.2.2.1.2.2.2.1] at z1; cases z1
      · have z3 : k' + (s0 + 2) + 1 ≤ 3 * q2.1 := z3
        have z4 : q1.1 + 1 ≤ q2.1 := z4
        have z6 : XR A V f w P q0 b p0 u0 M0 q2 top' p2 u 1 M' := z6
        have z8 : top' ≤ 2120 + 40 * q2.2.1 := z8
        have q11 := z6.ev.1.1
        have q12 := z6.ev.1.2.1
        have hm := Md_kid h z11 z15 z5
        have hp1 := Md_lt hC hm (show top' ≤ 3760 by omega)
        have ea : repC (runF (gM A) (fM A) n (gM A w).2.1) (m + 1) u P q1 = repC (runF (gM A) (fM A) n (gM A w).2.1) m t P q2 := by rw [repC]; simp only [e]
        obtain ⟨M3, M4, top3, p3, e3, y3, kd2⟩ := x_askW (d := d) (st' := 1) (w' := (gM A w).2.1) (k := k' + 1) (s := s0 + 2) (u4 := some (.int (jn f))) (by omega) hA hV ih hC z6 hm z14 (by omega) ((hV w hw).2.1 (by omega)) (by omega) (by omega)
        rw [ea, z2, round_x (by omega) hf z6 (by omega) (by omega), if_neg (by decide), if_pos rfl, q_208, g33 (by omega) hf z6, kI_r, g34 (by omega) hf z6, kI_r, z13, if_neg (hjz hp1), x_kd (by omega) z6.tb hw, kI_r, ieq_neg (by omega) (by omega) (by omega), ieq_neg (by omega) (by omega) (by omega), ieq_neg (by omega) (by omega) (by omega), ieq_neg (by omega) (by omega) (by omega), ieq_neg (by omega) (by omega) (by omega), ieq_neg (by omega) (by omega) (by omega), ieq_neg (by omega) (by omega) (by omega), ieq_neg (by omega) (by omega) (by omega), ieq_neg (by omega) (by omega) (by omega), ieq_neg (by omega) (by omega) (by omega), ieq_pos hk0, ieq_pos rfl, x_on (by omega) z6.tb hw (by omega), kI_r, z13, e3, kV_r, h_208_317, kV_r]
        exact ihm t q2 _ _ M3 M4 top3 p3 1 (by omega) (by omega) y3 kd2
/-- one more of an INNERMOST is begun -/
theorem x_more (hd : 1 ≤ d) (hA : AOk A) (hb : 1920 ≤ b) (h : XR A V f w P q0 b p0 u0 M0 q top p u st M) (hq : q.1 < 600) : ∃ M', pcl GG lay d 202 [.ref 29] M = rI (jn 1) M' ∧ XR A V f w P q0 b p0 u0 M0 (bgn q) top p u st M' ∧ M'.1 29 15 = M.1 29 15 ∧ M'.1 7 = M.1 7 := by
  obtain ⟨d, rfl⟩ := ex_add hd
  obtain ⟨h11, h12, h13, h14, h16, h30⟩ := h.1.2.2.1
  have hE := h.ev
  rw [q_202, h12, ilt_pos hq (by omega), wr_e, rZ_1, jn_add]
  have hf : Fr [29] M (sI M 29 (va_up (M.1 29) 12 (jn (q.1 + 1)))) := Fr.sI (by decide)
  refine ⟨_, rfl, h.upd hA hb (hf.mono (by decide)) (fun _ _ => rfl) ⟨h11, ?_, h13, h14, h16, h30⟩ h.1.2.2.2 (Nat.le_refl _) ⟨⟨by show q.1 + 1 ≤ 600; omega, hE.1.2⟩, by show q0.1 + 1 ≤ q.1 + 1; have := hE.2.1; omega, hE.2.2.1, hE.2.2.2⟩ (Nat.le_refl _), rfl, rfl⟩
  rw [sI_k, up_at, if_pos rfl]
/-- arguments, the whole, and all again -/
theorem x_innL (hdd : 12 ≤ dd) (hA : AOk A) (hV : GOk V (okR A) (gM A)) (ih : Tn A V dd u1 u2 n) (hC : FC f q0 b p0 u0) (hw : V w) (hk0 : (gM A w).1 = 12) : ∀ m u q1 k1 u41 M2 top2 p2 d' st, XR A V f w P q0 b p0 u0 M0 q1 top2 p2 u st M2 → top2 ≤ 2120 + 40 * q1.2.1 → k1 + s0 + 2 ≤ 3 * q1.1 → 601 ≤ m + q1.1 → 601 ≤ n + q1.1 → 9 ≤ d' →
    Gl A V dd u1 u2 f q0 b p0 u0 M0 s0 (kV (pcl GG lay d' 209 [.ref 29, .int (jn f)] M2) fun M2 => E_200 dd (36, [some (.ref 29), u1, u2, some (.int (jn k1)), u41], [], M2)) (bck q0 (innC (runF (gM A) (fM A) n w) (runF (gM A) (fM A) n (gM A w).2.1) m u P q1)) := by
  have hf : f < 600 := by have := hC.2.1; have := hC.2.2.1; omega
  have hb := hC.2.2.2.2.2.1
  have hwk : wkr A w = w := if_pos (by omega)
  obtain ⟨d, rfl⟩ := ex_add (show 1 ≤ dd by omega)
  intro m
  induction m with
  | zero => intro u q1 k1 u41 M2 top2 p2 d' st h _ _ hm; have := h.ev.1.1; omega
  | succ m ihm =>
    intro u q1 k1 u41 M2 top2 p2 d' st h ht hk hm hn hd'
    rw [innC_s]
    have z := x_walkA (d := d') (dd := d + 1) (k := k1) (u4 := u41) hd' (by omega) hA hV ih hC hw (by omega) (by unfold mayB; omega) h ht hk hn (fun o => bck q0 (inO (runF (gM A) (fM A) n w) (runF (gM A) (fM A) n (gM A w).2.1) m P o)) (fun _ => rfl) (fun v q2 k2 u42 M3 hW h1 h2 h2' => by
      obtain ⟨X, M4, top4, p4, e1, y1, kd1⟩ := walkedW (st' := 1) (by omega) hA hV ih hC hw (Or.inr ⟨hk0, rfl⟩) hW h1 (by omega)
      rw [e1]
      rcases e : runF (gM A) (fM A) n (gM A w).2.1 v P q2 with ⟨_ | t, q3⟩
      · rw [e] at kd1
        rcases kd1 with ⟨z1, M', z2, z3, z4, z5⟩ | ⟨z1, k', u4', M', top', z2, ⟨z3, z4, z5⟩, z6, z7, z8, z9, z10, z11, z12⟩
        · have ea : inO (runF (gM A) (fM A) n w) (runF (gM A) (fM A) n (gM A w).2.1) m P (some v, q2) = (none, q3) := by unfold inO; simp only [e]; exact if_pos z1
          show Gl _ _ _ _ _ _ _ _ _ _ _ _ _ (bck q0 (inO _ _ m P (some v, q2)))
          rw [ea]
          exact Or.inl ⟨z1, M', z2, z3, z4, z5⟩
        · have z1 : q3.2.2.2 = false := z1
          have z3 : k' + (s0 + 1) + 1 ≤ 3 * q3.1 := z3
          have z6 : XR A V f w P q0 b p0 u0 M0 q3 top' p4 v 1 M' := z6
          have z8 : top' ≤ 2120 + 40 * q3.2.1 := z8
          have q11 := z6.ev.1.1
          have q12 := z6.ev.1.2.1
          have ea : inO (runF (gM A) (fM A) n w) (runF (gM A) (fM A) n (gM A w).2.1) m P (some v, q2) = (some v, q3) := by unfold inO; simp only [e]; exact if_neg (by rw [z1]; simp)
          obtain ⟨M5, p5, top5, e3, v1, v2, v3, v4, v5⟩ := x_fin (d := d) (by omega) hA hC z6 z6.md z6.2.2.1.1 (by omega)
          show Gl _ _ _ _ _ _ _ _ _ _ _ _ _ (bck q0 (inO _ _ m P (some v, q2)))
          rw [ea, z2, round_x (by omega) hf z6 (by omega) (by omega), if_neg (by decide), if_pos rfl, q_208, g33 (by omega) hf z6, kI_r, g34 (by omega) hf z6, kI_r, if_pos z11, x_kd (by omega) z6.tb hw, kI_r, ieq_neg (by omega) (by omega) (by omega), ieq_neg (by omega) (by omega) (by omega), ieq_neg (by omega) (by omega) (by omega), ieq_neg (by omega) (by omega) (by omega), ieq_neg (by omega) (by omega) (by omega), ieq_neg (by omega) (by omega) (by omega), ieq_neg (by omega) (by omega) (by omega), ieq_neg (by omega) (by omega) (by omega), ieq_neg (by omega) (by omega) (by omega), ieq_pos hk0, ieq_neg (by omega) (by omega) (by omega), e3, kV_r, h_208_317, kV_r]
          exact Gl.done z6.ev v1 v2 v3 v4 v5 (by omega)
      · rw [e] at kd1
        have hro := runF_ok hV (fM_ok hA) n _ ((hV w hw).2.1 (by omega)) v P q2 y1.2.2.1.2.1 y1.2.2.1.2.2 y1.ev.1
        rw [e] at hro
        rcases kd1 with ⟨z1, -⟩ | ⟨z1, k', u4', M', top', z2, ⟨z3, z4, z5⟩, z6, z7, z8, z9, z10, z11, p1, z13, z14, z15⟩
        · have z1 : q3.2.2.2 = true := z1
          rw [hro.2.2.1.2.2.2.1] at z1; cases z1
        · have z3 : k' + (s0 + 1) + 1 ≤ 3 * q3.1 := z3
          have z4 : q2.1 + 1 ≤ q3.1 := z4
          have z6 : XR A V f w P q0 b p0 u0 M0 q3 top' p4 v 1 M' := z6
          have z8 : top' ≤ 2120 + 40 * q3.2.1 := z8
          have q11 := z6.ev.1.1
          have q12 := z6.ev.1.2.1
          have hm := Md_kid y1 z11 z15 z5
          have hp1 := Md_lt hC hm (show top' ≤ 3760 by omega)
          show Gl _ _ _ _ _ _ _ _ _ _ _ _ _ (bck q0 (inO _ _ m P (some v, q2)))
          rw [z2, round_x (by omega) hf z6 (by omega) (by omega), if_neg (by decide), if_pos rfl, q_208, g33 (by omega) hf z6, kI_r, g34 (by omega) hf z6, kI_r, z13, if_neg (hjz hp1), x_kd (by omega) z6.tb hw, kI_r, ieq_neg (by omega) (by omega) (by omega), ieq_neg (by omega) (by omega) (by omega), ieq_neg (by omega) (by omega) (by omega), ieq_neg (by omega) (by omega) (by omega), ieq_neg (by omega) (by omega) (by omega), ieq_neg (by omega) (by omega) (by omega), ieq_neg (by omega) (by omega) (by omega), ieq_neg (by omega) (by omega) (by omega), ieq_neg (by omega) (by omega) (by omega), ieq_pos hk0, ieq_pos rfl]
          by_cases h6 : q3.1 = 600
          · have ea : inO (runF (gM A) (fM A) n w) (runF (gM A) (fM A) n (gM A w).2.1) m P (some v, q2) = ovr q3 := by unfold inO; simp only [e]; exact if_pos h6
            have h12 : M'.1 29 12 = jn q3.1 := z6.1.2.2.1.2.1
            have hO := x_over hA z6
            obtain ⟨d, rfl⟩ := ex_add (show 1 ≤ d by omega)
            rw [ea, q_202, h12, ilt_neg (by omega) (by omega), wr_e, rZ_0, kI_r, ieq_pos rfl, h_208_317, kV_r]
            exact Gl.ended rfl hO.1 hO.2.1 hO.2.2.1 hO.2.2.2
          · have ea : inO (runF (gM A) (fM A) n w) (runF (gM A) (fM A) n (gM A w).2.1) m P (some v, q2) = innC (runF (gM A) (fM A) n w) (runF (gM A) (fM A) n (gM A w).2.1) m t P (bgn q3) := by unfold inO; simp only [e]; exact if_neg h6
            obtain ⟨M5, a1, a2, a3, a4⟩ := x_more (d := d) (by omega) hA (by omega) z6 (by omega)
            have hm2 : Md q0 b p0 u0 (bgn q3) top' p1 t := hm
            have z14' : At (M5.1 7) p1 (en t) := by rw [a4]; exact z14
            obtain ⟨M6, p6, top6, e3, v1, v2, -⟩ := x_gow (d := d) (by omega) hA hC a2 hm2 z14' (by omega)
            rw [ea, a1, kI_r, ieq_neg (by omega) (by omega) (by omega), a3, z13, e3, kV_r]
            simp only [h_208_317]
            rw [kV_id]
            exact ihm t (bgn q3) (k' + 1) _ M6 top6 p6 d 1 v1 v2 (by show k' + 1 + s0 + 2 ≤ 3 * (q3.1 + 1); omega) (by show 601 ≤ m + (q3.1 + 1); omega) (by show 601 ≤ n + (q3.1 + 1); omega) (by omega))
    rw [hwk] at z
    exact z
theorem Tn_all (hdd : 12 ≤ dd) (hA : AOk A) (hV : GOk V (okR A) (gM A)) : ∀ n, Tn A V dd u1 u2 n := by
  intro n
  induction n with
  | zero => intro w f P q b p u M k s u4 hw hC h hk hn; have := hC.2.1; omega
  | succ n ih =>
  intro w f P q b p u M k s u4 hw hC h hk hn
  have hq6 := hC.2.1
  have hf : f < 600 := by have := hC.2.2.1; omega
  have hb7 := hC.2.2.2.2.2.2
  have hb6 := hC.2.2.2.2.2.1
  have hq2 := hC.1.2.1
  have hkd := kd_le h.tb hw
  have hk1 : k + 1 + s + 2 ≤ 3 * (bgn q).1 := by show _ ≤ 3 * (q.1 + 1); omega
  have hn1 : 601 ≤ n + (bgn q).1 := by show _ ≤ n + (q.1 + 1); omega
  have htb : b ≤ 2120 + 40 * (bgn q).2.1 := hb7
  obtain ⟨d, rfl⟩ := ex_add (show 1 ≤ dd by omega)
  rw [runF_succ (show ¬ q.1 = 600 by omega)]
  rcases (show (gM A w).1 = 0 ∨ (gM A w).1 = 1 ∨ (gM A w).1 = 2 ∨ (gM A w).1 = 3 ∨ (gM A w).1 = 4 ∨ (gM A w).1 = 5 ∨ (gM A w).1 = 6 ∨ (gM A w).1 = 7 ∨ (gM A w).1 = 8 ∨ (gM A w).1 = 9 ∨ (gM A w).1 = 10 ∨ (gM A w).1 = 11 ∨ (gM A w).1 = 12 ∨ (gM A w).1 = 13 by omega) with hk0 | hk0 | hk0 | hk0 | hk0 | hk0 | hk0 | hk0 | hk0 | hk0 | hk0 | hk0 | hk0 | hk0
  · -- a rule
    obtain ⟨l, hl, el⟩ := (hV w hw).1 hk0
    obtain ⟨r, r1, r2, r3, r4⟩ := rl_at hA hl
    have e3' : M.1 3 (phi w) = jn l := by rw [(h.tb w hw).2.2.1 hk0, el]
    have ef : fM A (gM A w).2.1 = rulC (cmA A) r l := by rw [el]; unfold fM; rw [jnN (by omega), r2]
    rw [round_x (by omega) hf h (by omega) (by omega), if_pos rfl, q_206, g33 (by omega) hf h, kI_r, g34 (by omega) hf h, kI_r, x_kd (by omega) h.tb hw, kI_r, ieq_pos hk0, c_one (by omega) (h.tb w hw).1.1, e3', kI_r, g35 (by omega) hf h, kL_r, hk0, bod_0, ef]
    rcases x_rul (d := d) (by omega) hA hC r1 h htb with ⟨v, q', e, M', e1, y1, y2, y3, y4, y5⟩ | ⟨e, M', e1, y1⟩ | ⟨e, M', e1, y1⟩
    · have y5 : q'.1 = q.1 + 1 := y5
      have y4 : q.2.1 < q'.2.1 := y4
      have q12 := y1.ev.1.2.1
      obtain ⟨M3, p3, top3, e3, v1, v2, v3, v4, v5⟩ := x_fin (d := d) (p' := b) (u' := v) (by omega) hA hC y1 ⟨y3, Or.inr ⟨Nat.le_refl _, Nat.le_refl _, y4⟩⟩ y2 (by omega)
      rw [e, e1, kI_r, e3, kV_r, kV_r]
      exact Gl.done y1.ev v1 v2 v3 v4 v5 (by omega)
    · obtain ⟨M3, e3, v1, v2, v3⟩ := x_fail (d := d) (by omega) hA hC y1
      rw [e, e1, kI_r, e3, kV_r, kV_r]
      exact Gl.dead y1.ev v1 v2 v3 (by omega)
    · obtain ⟨M3, e3, v1⟩ := x_failO (d := d) (by omega) hA hC y1
      rw [e, e1, kI_r, e3, kV_r, kV_r]
      exact Gl.ended rfl v1.1 v1.2.1 v1.2.2.1 v1.2.2.2
  · -- the same
    obtain ⟨M3, p3, top3, e3, v1, v2, v3, v4, v5⟩ := x_fin (d := d) (by omega) hA hC h h.md h.2.2.1.1 (by omega)
    rw [round_x (by omega) hf h (by omega) (by omega), if_pos rfl, q_206, g33 (by omega) hf h, kI_r, g34 (by omega) hf h, kI_r, x_kd (by omega) h.tb hw, kI_r, ieq_neg (by omega) (by omega) (by omega), ieq_pos hk0, e3, kV_r, kV_r, hk0, bod_1]
    exact Gl.done h.ev v1 v2 v3 v4 v5 (by omega)
  · -- fails
    obtain ⟨M3, e3, v1, v2, v3⟩ := x_fail (d := d) (by omega) hA hC h
    rw [round_x (by omega) hf h (by omega) (by omega), if_pos rfl, q_206, g33 (by omega) hf h, kI_r, g34 (by omega) hf h, kI_r, x_kd (by omega) h.tb hw, kI_r, ieq_neg (by omega) (by omega) (by omega), ieq_neg (by omega) (by omega) (by omega), ieq_pos hk0, e3, kV_r, kV_r, hk0, bod_2]
    exact Gl.dead h.ev v1 v2 v3 (by omega)
  · -- then
    obtain ⟨M1, M2, top2, p2, e1, y1, kd1⟩ := x_askW (d := d) (st' := 1) (s := s + 2) (k := k + 1) (u4 := some (.int (jn f))) (w' := (gM A w).2.1) (by omega) hA hV ih hC h h.md h.2.2.1.1 (by omega) ((hV w hw).2.1 (by omega)) hn1 hk1
    rw [round_x (by omega) hf h (by omega) (by omega), if_pos rfl, q_206, g33 (by omega) hf h, kI_r, g34 (by omega) hf h, kI_r, x_kd (by omega) h.tb hw, kI_r, ieq_neg (by omega) (by omega) (by omega), ieq_neg (by omega) (by omega) (by omega), ieq_neg (by omega) (by omega) (by omega), ieq_pos hk0, x_on (by omega) h.tb hw (by omega), kI_r, e1, kV_r, kV_r]
    rcases e : runF (gM A) (fM A) n (gM A w).2.1 u P (bgn q) with ⟨_ | t, q1⟩
    · rw [e] at kd1
      rcases kd1 with ⟨z1, M', z2, z3, z4, z5⟩ | ⟨z1, k', u4', M', top', z2, ⟨z3, z4, z5⟩, z6, z7, z8, z9, z10, z11, z12⟩
      · rw [hk0, bod_3n e]
        exact Or.inl ⟨z1, M', z2, z3, z4, z5⟩
      · have z1 : q1.2.2.2 = false := z1
        have z3 : k' + (s + 2) + 1 ≤ 3 * q1.1 := z3
        have z4 : (bgn q).1 + 1 ≤ q1.1 := z4
        have z6 : XR A V f w P q b p u M q1 top' p2 u 1 M' := z6
        have z8 : top' ≤ 2120 + 40 * q1.2.1 := z8
        have q11 := z6.ev.1.1
        have q12 := z6.ev.1.2.1
        have z1' : ¬ q1.2.2.2 = true := by rw [z1]; simp
        rw [hk0, bod_3n e, z2]
        obtain ⟨M3, e3, v1, v2, v3⟩ := x_fail (d := d) (by omega) hA hC z6
        rw [round_x (by omega) hf z6 (by omega) (by omega), if_neg (by decide), if_pos rfl, q_208, g33 (by omega) hf z6, kI_r, g34 (by omega) hf z6, kI_r, if_pos z11, x_kd (by omega) z6.tb hw, kI_r, ieq_pos hk0, ieq_neg (by omega) (by omega) (by omega), e3, kV_r, h_208_317, kV_r]
        exact Gl.dead z6.ev v1 v2 v3 (by omega)
    · rw [e] at kd1
      have hro := runF_ok hV (fM_ok hA) n _ ((hV w hw).2.1 (by omega)) u P (bgn q) h.2.2.1.2.1 h.2.2.1.2.2 h.ev.1
      rw [e] at hro
      rcases kd1 with ⟨z1, -⟩ | ⟨z1, k', u4', M', top', z2, ⟨z3, z4, z5⟩, z6, z7, z8, z9, z10, z11, p1, z13, z14, z15⟩
      · have z1 : q1.2.2.2 = true := z1
        rw [hro.2.2.1.2.2.2.1] at z1; cases z1
      · have z3 : k' + (s + 2) + 1 ≤ 3 * q1.1 := z3
        have z4 : (bgn q).1 + 1 ≤ q1.1 := z4
        have z6 : XR A V f w P q b p u M q1 top' p2 u 1 M' := z6
        have z8 : top' ≤ 2120 + 40 * q1.2.1 := z8
        have q11 := z6.ev.1.1
        have q12 := z6.ev.1.2.1
        have hm := Md_kid y1 z11 z15 z5
        have hp1 := Md_lt hC hm (show top' ≤ 3760 by omega)
        rw [hk0, bod_3s e, z2]
        obtain ⟨M3, M4, top3, p3, e3, y3, kd2⟩ := x_askW (d := d) (st' := 5) (w' := (gM A w).2.2) (k := k' + 1) (s := s + 1) (u4 := some (.int (jn f))) (by omega) hA hV ih hC z6 hm z14 (by omega) ((hV w hw).2.2 (by omega)) (by omega) (by omega)
        rw [round_x (by omega) hf z6 (by omega) (by omega), if_neg (by decide), if_pos rfl, q_208, g33 (by omega) hf z6, kI_r, g34 (by omega) hf z6, kI_r, z13, if_neg (hjz hp1), x_kd (by omega) z6.tb hw, kI_r, ieq_pos hk0, ieq_pos rfl, x_tw (by omega) z6.tb hw (by omega), kI_r, z13, e3, kV_r, h_208_317, kV_r]
        exact last5 (by omega) hA hC y3 kd2
  · -- else
    obtain ⟨M1, M2, top2, p2, e1, y1, kd1⟩ := x_askW (d := d) (st' := 1) (s := s + 2) (k := k + 1) (u4 := some (.int (jn f))) (w' := (gM A w).2.1) (by omega) hA hV ih hC h h.md h.2.2.1.1 (by omega) ((hV w hw).2.1 (by omega)) hn1 hk1
    rw [round_x (by omega) hf h (by omega) (by omega), if_pos rfl, q_206, g33 (by omega) hf h, kI_r, g34 (by omega) hf h, kI_r, x_kd (by omega) h.tb hw, kI_r, ieq_neg (by omega) (by omega) (by omega), ieq_neg (by omega) (by omega) (by omega), ieq_neg (by omega) (by omega) (by omega), ieq_neg (by omega) (by omega) (by omega), ieq_pos hk0, x_on (by omega) h.tb hw (by omega), kI_r, e1, kV_r, kV_r]
    rcases e : runF (gM A) (fM A) n (gM A w).2.1 u P (bgn q) with ⟨_ | t, q1⟩
    · rw [e] at kd1
      rcases kd1 with ⟨z1, M', z2, z3, z4, z5⟩ | ⟨z1, k', u4', M', top', z2, ⟨z3, z4, z5⟩, z6, z7, z8, z9, z10, z11, z12⟩
      · rw [hk0, bod_4o e z1]
        exact Or.inl ⟨z1, M', z2, z3, z4, z5⟩
      · have z1 : q1.2.2.2 = false := z1
        have z3 : k' + (s + 2) + 1 ≤ 3 * q1.1 := z3
        have z4 : (bgn q).1 + 1 ≤ q1.1 := z4
        have z6 : XR A V f w P q b p u M q1 top' p2 u 1 M' := z6
        have z8 : top' ≤ 2120 + 40 * q1.2.1 := z8
        have q11 := z6.ev.1.1
        have q12 := z6.ev.1.2.1
        have z1' : ¬ q1.2.2.2 = true := by rw [z1]; simp
        rw [hk0, bod_4n e z1', z2]
        obtain ⟨M3, M4, top3, p3, e3, y3, kd2⟩ := x_askW (d := d) (st' := 5) (w' := (gM A w).2.2) (k := k' + 1) (s := s + 1) (u4 := some (.int (jn f))) (by omega) hA hV ih hC z6 z6.md z6.2.2.1.1 (by omega) ((hV w hw).2.2 (by omega)) (by omega) (by omega)
        rw [round_x (by omega) hf z6 (by omega) (by omega), if_neg (by decide), if_pos rfl, q_208, g33 (by omega) hf z6, kI_r, g34 (by omega) hf z6, kI_r, if_pos z11, x_kd (by omega) z6.tb hw, kI_r, ieq_neg (by omega) (by omega) (by omega), ieq_pos hk0, ieq_neg (by omega) (by omega) (by omega), x_tw (by omega) z6.tb hw (by omega), kI_r, e3, kV_r, h_208_317, kV_r]
        exact last5 (by omega) hA hC y3 kd2
    · rw [e] at kd1
      have hro := runF_ok hV (fM_ok hA) n _ ((hV w hw).2.1 (by omega)) u P (bgn q) h.2.2.1.2.1 h.2.2.1.2.2 h.ev.1
      rw [e] at hro
      rcases kd1 with ⟨z1, -⟩ | ⟨z1, k', u4', M', top', z2, ⟨z3, z4, z5⟩, z6, z7, z8, z9, z10, z11, p1, z13, z14, z15⟩
      · have z1 : q1.2.2.2 = true := z1
        rw [hro.2.2.1.2.2.2.1] at z1; cases z1
      · have z3 : k' + (s + 2) + 1 ≤ 3 * q1.1 := z3
        have z4 : (bgn q).1 + 1 ≤ q1.1 := z4
        have z6 : XR A V f w P q b p u M q1 top' p2 u 1 M' := z6
        have z8 : top' ≤ 2120 + 40 * q1.2.1 := z8
        have q11 := z6.ev.1.1
        have q12 := z6.ev.1.2.1
        have hm := Md_kid y1 z11 z15 z5
        have hp1 := Md_lt hC hm (show top' ≤ 3760 by omega)
        rw [hk0, bod_4s e, z2]
        obtain ⟨M3, p3, top3, e3, v1, v2, v3, v4, v5⟩ := x_fin (d := d) (by omega) hA hC z6 hm z14 (by omega)
        rw [round_x (by omega) hf z6 (by omega) (by omega), if_neg (by decide), if_pos rfl, q_208, g33 (by omega) hf z6, kI_r, g34 (by omega) hf z6, kI_r, z13, if_neg (hjz hp1), x_kd (by omega) z6.tb hw, kI_r, ieq_neg (by omega) (by omega) (by omega), ieq_pos hk0, ieq_pos rfl, z13, e3, kV_r, h_208_317, kV_r]
        exact Gl.done z6.ev v1 v2 v3 v4 v5 (by omega)
  · -- try
    obtain ⟨M1, M2, top2, p2, e1, y1, kd1⟩ := x_askW (d := d) (st' := 1) (s := s + 2) (k := k + 1) (u4 := some (.int (jn f))) (w' := (gM A w).2.1) (by omega) hA hV ih hC h h.md h.2.2.1.1 (by omega) ((hV w hw).2.1 (by omega)) hn1 hk1
    rw [round_x (by omega) hf h (by omega) (by omega), if_pos rfl, q_206, g33 (by omega) hf h, kI_r, g34 (by omega) hf h, kI_r, x_kd (by omega) h.tb hw, kI_r, ieq_neg (by omega) (by omega) (by omega), ieq_neg (by omega) (by omega) (by omega), ieq_neg (by omega) (by omega) (by omega), ieq_neg (by omega) (by omega) (by omega), ieq_neg (by omega) (by omega) (by omega), ieq_pos hk0, x_on (by omega) h.tb hw (by omega), kI_r, e1, kV_r, kV_r]
    rcases e : runF (gM A) (fM A) n (gM A w).2.1 u P (bgn q) with ⟨_ | t, q1⟩
    · rw [e] at kd1
      rcases kd1 with ⟨z1, M', z2, z3, z4, z5⟩ | ⟨z1, k', u4', M', top', z2, ⟨z3, z4, z5⟩, z6, z7, z8, z9, z10, z11, z12⟩
      · rw [hk0, bod_5o e z1]
        exact Or.inl ⟨z1, M', z2, z3, z4, z5⟩
      · have z1 : q1.2.2.2 = false := z1
        have z3 : k' + (s + 2) + 1 ≤ 3 * q1.1 := z3
        have z4 : (bgn q).1 + 1 ≤ q1.1 := z4
        have z6 : XR A V f w P q b p u M q1 top' p2 u 1 M' := z6
        have z8 : top' ≤ 2120 + 40 * q1.2.1 := z8
        have q11 := z6.ev.1.1
        have q12 := z6.ev.1.2.1
        have z1' : ¬ q1.2.2.2 = true := by rw [z1]; simp
        rw [hk0, bod_5n e z1', z2]
        obtain ⟨M3, p3, top3, e3, v1, v2, v3, v4, v5⟩ := x_fin (d := d) (by omega) hA hC z6 z6.md z6.2.2.1.1 (by omega)
        rw [round_x (by omega) hf z6 (by omega) (by omega), if_neg (by decide), if_pos rfl, q_208, g33 (by omega) hf z6, kI_r, g34 (by omega) hf z6, kI_r, if_pos z11, x_kd (by omega) z6.tb hw, kI_r, ieq_neg (by omega) (by omega) (by omega), ieq_neg (by omega) (by omega) (by omega), ieq_pos hk0, h_208_299, ieq_neg (by omega) (by omega) (by omega), e3, kV_r, h_208_317, kV_r]
        exact Gl.done z6.ev v1 v2 v3 v4 v5 (by omega)
    · rw [e] at kd1
      have hro := runF_ok hV (fM_ok hA) n _ ((hV w hw).2.1 (by omega)) u P (bgn q) h.2.2.1.2.1 h.2.2.1.2.2 h.ev.1
      rw [e] at hro
      rcases kd1 with ⟨z1, -⟩ | ⟨z1, k', u4', M', top', z2, ⟨z3, z4, z5⟩, z6, z7, z8, z9, z10, z11, p1, z13, z14, z15⟩
      · have z1 : q1.2.2.2 = true := z1
        rw [hro.2.2.1.2.2.2.1] at z1; cases z1
      · have z3 : k' + (s + 2) + 1 ≤ 3 * q1.1 := z3
        have z4 : (bgn q).1 + 1 ≤ q1.1 := z4
        have z6 : XR A V f w P q b p u M q1 top' p2 u 1 M' := z6
        have z8 : top' ≤ 2120 + 40 * q1.2.1 := z8
        have q11 := z6.ev.1.1
        have q12 := z6.ev.1.2.1
        have hm := Md_kid y1 z11 z15 z5
        have hp1 := Md_lt hC hm (show top' ≤ 3760 by omega)
        rw [hk0, bod_5s e, z2]
        obtain ⟨M3, p3, top3, e3, v1, v2, v3, v4, v5⟩ := x_fin (d := d) (by omega) hA hC z6 hm z14 (by omega)
        rw [round_x (by omega) hf z6 (by omega) (by omega), if_neg (by decide), if_pos rfl, q_208, g33 (by omega) hf z6, kI_r, g34 (by omega) hf z6, kI_r, z13, if_neg (hjz hp1), x_kd (by omega) z6.tb hw, kI_r, ieq_neg (by omega) (by omega) (by omega), ieq_neg (by omega) (by omega) (by omega), ieq_pos hk0, h_208_299, ieq_pos rfl, z13, e3, kV_r, h_208_317, kV_r]
        exact Gl.done z6.ev v1 v2 v3 v4 v5 (by omega)
  · -- all
    have hwk : wkr A w = (gM A w).2.1 := if_neg (by omega)
    rw [round_x (by omega) hf h (by omega) (by omega), if_pos rfl, q_206, g33 (by omega) hf h, kI_r, g34 (by omega) hf h, kI_r, x_kd (by omega) h.tb hw, kI_r, ieq_neg (by omega) (by omega) (by omega), ieq_neg (by omega) (by omega) (by omega), ieq_neg (by omega) (by omega) (by omega), ieq_neg (by omega) (by omega) (by omega), ieq_neg (by omega) (by omega) (by omega), ieq_neg (by omega) (by omega) (by omega), ieq_pos hk0, kV_id]
    have z := x_walkA (d := d) (dd := d + 1) (k := k + 1) (u4 := some (.int (jn f))) (by omega) (by omega) hA hV ih hC hw (by omega) (by unfold mayB; omega) h htb hk1 hn1 (bck q) (fun _ => rfl) (fun v q1 k' u4' M' hW h1 _ _ => walked (by omega) hA hC hw (by omega) (by omega) hW h1)
    rw [hwk] at z
    rw [hk0, bod_6]
    exact z
  · -- one
    have hwk : wkr A w = (gM A w).2.1 := if_neg (by omega)
    rw [round_x (by omega) hf h (by omega) (by omega), if_pos rfl, q_206, g33 (by omega) hf h, kI_r, g34 (by omega) hf h, kI_r, x_kd (by omega) h.tb hw, kI_r, ieq_neg (by omega) (by omega) (by omega), ieq_neg (by omega) (by omega) (by omega), ieq_neg (by omega) (by omega) (by omega), ieq_neg (by omega) (by omega) (by omega), ieq_neg (by omega) (by omega) (by omega), ieq_neg (by omega) (by omega) (by omega), ieq_neg (by omega) (by omega) (by omega), ieq_pos hk0, kV_id]
    have z := x_walkO (d := d) (dd := d + 1) (k := k + 1) (u4 := some (.int (jn f))) (by omega) (by omega) hA hV ih hC hw (by omega) (by unfold mayB; omega) h htb hk1 hn1 (bck q) (fun _ hq => hq) (fun v q1 k' u4' M' hW h1 => walked (by omega) hA hC hw (by omega) (by omega) hW h1) (fun q1 k' u4' top' M' hX h15 h1 => walkedF (by omega) hA hC hw (by omega) (by omega) hX h15 h1)
    rw [hwk, hk0] at z
    rw [hk0, bod_7]
    exact z
  · -- some
    have hwk : wkr A w = (gM A w).2.1 := if_neg (by omega)
    rw [round_x (by omega) hf h (by omega) (by omega), if_pos rfl, q_206, g33 (by omega) hf h, kI_r, g34 (by omega) hf h, kI_r, x_kd (by omega) h.tb hw, kI_r, ieq_neg (by omega) (by omega) (by omega), ieq_neg (by omega) (by omega) (by omega), ieq_neg (by omega) (by omega) (by omega), ieq_neg (by omega) (by omega) (by omega), ieq_neg (by omega) (by omega) (by omega), ieq_neg (by omega) (by omega) (by omega), ieq_neg (by omega) (by omega) (by omega), ieq_neg (by omega) (by omega) (by omega), ieq_pos hk0, kV_id]
    have z := x_walkO (d := d) (dd := d + 1) (k := k + 1) (u4 := some (.int (jn f))) (by omega) (by omega) hA hV ih hC hw (by omega) (by unfold mayB; omega) h htb hk1 hn1 (bck q) (fun _ hq => hq) (fun v q1 k' u4' M' hW h1 => walked (by omega) hA hC hw (by omega) (by omega) hW h1) (fun q1 k' u4' top' M' hX h15 h1 => walkedF (by omega) hA hC hw (by omega) (by omega) hX h15 h1)
    rw [hwk, hk0] at z
    rw [hk0, bod_8]
    exact z
  · -- up
    have hwk : wkr A w = w := if_pos (by omega)
    rw [round_x (by omega) hf h (by omega) (by omega), if_pos rfl, q_206, g33 (by omega) hf h, kI_r, g34 (by omega) hf h, kI_r, x_kd (by omega) h.tb hw, kI_r, ieq_neg (by omega) (by omega) (by omega), ieq_neg (by omega) (by omega) (by omega), ieq_neg (by omega) (by omega) (by omega), ieq_neg (by omega) (by omega) (by omega), ieq_neg (by omega) (by omega) (by omega), ieq_neg (by omega) (by omega) (by omega), ieq_neg (by omega) (by omega) (by omega), ieq_neg (by omega) (by omega) (by omega), ieq_neg (by omega) (by omega) (by omega), ieq_pos hk0, kV_id]
    have z := x_walkA (d := d) (dd := d + 1) (k := k + 1) (u4 := some (.int (jn f))) (by omega) (by omega) hA hV ih hC hw (by omega) (by unfold mayB; omega) h htb hk1 hn1 (fun o => bck q (upO A n w P o)) (fun _ => rfl) (fun v q1 k' u4' M' hW h1 h2 _ => by
      have h2 : q.1 + 1 ≤ q1.1 := h2
      obtain ⟨X, M2, top2, p2, e1, y1, kd1⟩ := walkedW (st' := 5) (by omega) hA hV ih hC hw (Or.inl ⟨hk0, rfl⟩) hW h1 (by omega)
      rw [e1]
      exact last5 (by omega) hA hC y1 kd1)
    rw [hwk] at z
    rw [hk0, bod_9]
    exact z
  · -- down
    obtain ⟨M1, M2, top2, p2, e1, y1, kd1⟩ := x_askW (d := d) (st' := 1) (s := s + 2) (k := k + 1) (u4 := some (.int (jn f))) (w' := (gM A w).2.1) (by omega) hA hV ih hC h h.md h.2.2.1.1 (by omega) ((hV w hw).2.1 (by omega)) hn1 hk1
    rw [round_x (by omega) hf h (by omega) (by omega), if_pos rfl, q_206, g33 (by omega) hf h, kI_r, g34 (by omega) hf h, kI_r, x_kd (by omega) h.tb hw, kI_r, ieq_neg (by omega) (by omega) (by omega), ieq_neg (by omega) (by omega) (by omega), ieq_neg (by omega) (by omega) (by omega), ieq_neg (by omega) (by omega) (by omega), ieq_neg (by omega) (by omega) (by omega), ieq_neg (by omega) (by omega) (by omega), ieq_neg (by omega) (by omega) (by omega), ieq_neg (by omega) (by omega) (by omega), ieq_neg (by omega) (by omega) (by omega), ieq_neg (by omega) (by omega) (by omega), ieq_pos hk0, x_on (by omega) h.tb hw (by omega), kI_r, e1, kV_r, kV_r]
    rcases e : runF (gM A) (fM A) n (gM A w).2.1 u P (bgn q) with ⟨_ | t, q1⟩
    · rw [e] at kd1
      rcases kd1 with ⟨z1, M', z2, z3, z4, z5⟩ | ⟨z1, k', u4', M', top', z2, ⟨z3, z4, z5⟩, z6, z7, z8, z9, z10, z11, z12⟩
      · rw [hk0, bod_10n e]
        exact Or.inl ⟨z1, M', z2, z3, z4, z5⟩
      · have z1 : q1.2.2.2 = false := z1
        have z3 : k' + (s + 2) + 1 ≤ 3 * q1.1 := z3
        have z4 : (bgn q).1 + 1 ≤ q1.1 := z4
        have z6 : XR A V f w P q b p u M q1 top' p2 u 1 M' := z6
        have z8 : top' ≤ 2120 + 40 * q1.2.1 := z8
        have q11 := z6.ev.1.1
        have q12 := z6.ev.1.2.1
        have z1' : ¬ q1.2.2.2 = true := by rw [z1]; simp
        rw [hk0, bod_10n e, z2]
        obtain ⟨M3, e3, v1, v2, v3⟩ := x_fail (d := d) (by omega) hA hC z6
        rw [round_x (by omega) hf z6 (by omega) (by omega), if_neg (by decide), if_pos rfl, q_208, g33 (by omega) hf z6, kI_r, g34 (by omega) hf z6, kI_r, if_pos z11, x_kd (by omega) z6.tb hw, kI_r, ieq_neg (by omega) (by omega) (by omega), ieq_neg (by omega) (by omega) (by omega), ieq_neg (by omega) (by omega) (by omega), ieq_neg (by omega) (by omega) (by omega), ieq_neg (by omega) (by omega) (by omega), ieq_neg (by omega) (by omega) (by omega), ieq_neg (by omega) (by omega) (by omega), ieq_pos hk0, ieq_neg (by omega) (by omega) (by omega), e3, kV_r, h_208_317, kV_r]
        exact Gl.dead z6.ev v1 v2 v3 (by omega)
    · rw [e] at kd1
      have hro := runF_ok hV (fM_ok hA) n _ ((hV w hw).2.1 (by omega)) u P (bgn q) h.2.2.1.2.1 h.2.2.1.2.2 h.ev.1
      rw [e] at hro
      rcases kd1 with ⟨z1, -⟩ | ⟨z1, k', u4', M', top', z2, ⟨z3, z4, z5⟩, z6, z7, z8, z9, z10, z11, p1, z13, z14, z15⟩
      · have z1 : q1.2.2.2 = true := z1
        rw [hro.2.2.1.2.2.2.1] at z1; cases z1
      · have z3 : k' + (s + 2) + 1 ≤ 3 * q1.1 := z3
        have z4 : (bgn q).1 + 1 ≤ q1.1 := z4
        have z6 : XR A V f w P q b p u M q1 top' p2 u 1 M' := z6
        have z8 : top' ≤ 2120 + 40 * q1.2.1 := z8
        have q11 := z6.ev.1.1
        have q12 := z6.ev.1.2.1
        have hm := Md_kid y1 z11 z15 z5
        have hp1 := Md_lt hC hm (show top' ≤ 3760 by omega)
        rw [hk0, bod_10s e, z2]
        obtain ⟨M3, p3, top3, e3, v1, v2, -⟩ := x_gow (d := d) (by omega) hA hC z6 hm z14 (by omega)
        have hwk : wkr A w = w := if_pos (by omega)
        have zz := x_walkA (d := d) (dd := d + 1) (k := k' + 1) (s0 := s) (u4 := some (.int (jn f))) (by omega) (by omega) hA hV ih hC hw (by omega) (by unfold mayB; omega) v1 v2 (by omega) (by omega) (bck q) (fun _ => rfl) (fun v q1 k' u4' M' hW h1 _ _ => walked (by omega) hA hC hw (by omega) (by omega) hW h1)
        rw [round_x (by omega) hf z6 (by omega) (by omega), if_neg (by decide), if_pos rfl, q_208, g33 (by omega) hf z6, kI_r, g34 (by omega) hf z6, kI_r, z13, if_neg (hjz hp1), x_kd (by omega) z6.tb hw, kI_r, ieq_neg (by omega) (by omega) (by omega), ieq_neg (by omega) (by omega) (by omega), ieq_neg (by omega) (by omega) (by omega), ieq_neg (by omega) (by omega) (by omega), ieq_neg (by omega) (by omega) (by omega), ieq_neg (by omega) (by omega) (by omega), ieq_neg (by omega) (by omega) (by omega), ieq_pos hk0, ieq_pos rfl, z13, e3, kV_r]
        simp only [h_208_317]
        rw [kV_id]
        rw [hwk] at zz
        exact zz
  · -- once
    obtain ⟨M1, M2, top2, p2, e1, y1, kd1⟩ := x_askW (d := d) (st' := 1) (s := s + 2) (k := k + 1) (u4 := some (.int (jn f))) (w' := (gM A w).2.1) (by omega) hA hV ih hC h h.md h.2.2.1.1 (by omega) ((hV w hw).2.1 (by omega)) hn1 hk1
    rw [round_x (by omega) hf h (by omega) (by omega), if_pos rfl, q_206, g33 (by omega) hf h, kI_r, g34 (by omega) hf h, kI_r, x_kd (by omega) h.tb hw, kI_r, ieq_neg (by omega) (by omega) (by omega), ieq_neg (by omega) (by omega) (by omega), ieq_neg (by omega) (by omega) (by omega), ieq_neg (by omega) (by omega) (by omega), ieq_neg (by omega) (by omega) (by omega), ieq_neg (by omega) (by omega) (by omega), ieq_neg (by omega) (by omega) (by omega), ieq_neg (by omega) (by omega) (by omega), ieq_neg (by omega) (by omega) (by omega), ieq_neg (by omega) (by omega) (by omega), ieq_neg (by omega) (by omega) (by omega), ieq_pos hk0, x_on (by omega) h.tb hw (by omega), kI_r, e1, kV_r, kV_r]
    rcases e : runF (gM A) (fM A) n (gM A w).2.1 u P (bgn q) with ⟨_ | t, q1⟩
    · rw [e] at kd1
      rcases kd1 with ⟨z1, M', z2, z3, z4, z5⟩ | ⟨z1, k', u4', M', top', z2, ⟨z3, z4, z5⟩, z6, z7, z8, z9, z10, z11, z12⟩
      · rw [hk0, bod_11o e z1]
        exact Or.inl ⟨z1, M', z2, z3, z4, z5⟩
      · have z1 : q1.2.2.2 = false := z1
        have z3 : k' + (s + 2) + 1 ≤ 3 * q1.1 := z3
        have z4 : (bgn q).1 + 1 ≤ q1.1 := z4
        have z6 : XR A V f w P q b p u M q1 top' p2 u 1 M' := z6
        have z8 : top' ≤ 2120 + 40 * q1.2.1 := z8
        have q11 := z6.ev.1.1
        have q12 := z6.ev.1.2.1
        have z1' : ¬ q1.2.2.2 = true := by rw [z1]; simp
        rw [hk0, bod_11n e z1', z2]
        have hwk : wkr A w = w := if_pos (by omega)
        have zz := x_walkO (d := d) (dd := d + 1) (k := k' + 1) (s0 := s) (u4 := some (.int (jn f))) (by omega) (by omega) hA hV ih hC hw (by omega) (by unfold mayB; omega) z6 z8 (by omega) (by omega) (bck q) (fun _ hq => hq) (fun v q1 k' u4' M' hW h1 => walked (by omega) hA hC hw (by omega) (by omega) hW h1) (fun q1 k' u4' top' M' hX h15 h1 => walkedF (by omega) hA hC hw (by omega) (by omega) hX h15 h1)
        rw [round_x (by omega) hf z6 (by omega) (by omega), if_neg (by decide), if_pos rfl, q_208, g33 (by omega) hf z6, kI_r, g34 (by omega) hf z6, kI_r, if_pos z11, x_kd (by omega) z6.tb hw, kI_r, ieq_neg (by omega) (by omega) (by omega), ieq_neg (by omega) (by omega) (by omega), ieq_neg (by omega) (by omega) (by omega), ieq_neg (by omega) (by omega) (by omega), ieq_neg (by omega) (by omega) (by omega), ieq_neg (by omega) (by omega) (by omega), ieq_neg (by omega) (by omega) (by omega), ieq_neg (by omega) (by omega) (by omega), ieq_pos hk0, ieq_neg (by omega) (by omega) (by omega)]
        simp only [h_208_317]
        rw [kV_id]
        rw [hwk, hk0] at zz
        exact zz
    · rw [e] at kd1
      have hro := runF_ok hV (fM_ok hA) n _ ((hV w hw).2.1 (by omega)) u P (bgn q) h.2.2.1.2.1 h.2.2.1.2.2 h.ev.1
      rw [e] at hro
      rcases kd1 with ⟨z1, -⟩ | ⟨z1, k', u4', M', top', z2, ⟨z3, z4, z5⟩, z6, z7, z8, z9, z10, z11, p1, z13, z14, z15⟩
      · have z1 : q1.2.2.2 = true := z1
        rw [hro.2.2.1.2.2.2.1] at z1; cases z1
      · have z3 : k' + (s + 2) + 1 ≤ 3 * q1.1 := z3
        have z4 : (bgn q).1 + 1 ≤ q1.1 := z4
        have z6 : XR A V f w P q b p u M q1 top' p2 u 1 M' := z6
        have z8 : top' ≤ 2120 + 40 * q1.2.1 := z8
        have q11 := z6.ev.1.1
        have q12 := z6.ev.1.2.1
        have hm := Md_kid y1 z11 z15 z5
        have hp1 := Md_lt hC hm (show top' ≤ 3760 by omega)
        rw [hk0, bod_11s e, z2]
        obtain ⟨M3, p3, top3, e3, v1, v2, v3, v4, v5⟩ := x_fin (d := d) (by omega) hA hC z6 hm z14 (by omega)
        rw [round_x (by omega) hf z6 (by omega) (by omega), if_neg (by decide), if_pos rfl, q_208, g33 (by omega) hf z6, kI_r, g34 (by omega) hf z6, kI_r, z13, if_neg (hjz hp1), x_kd (by omega) z6.tb hw, kI_r, ieq_neg (by omega) (by omega) (by omega), ieq_neg (by omega) (by omega) (by omega), ieq_neg (by omega) (by omega) (by omega), ieq_neg (by omega) (by omega) (by omega), ieq_neg (by omega) (by omega) (by omega), ieq_neg (by omega) (by omega) (by omega), ieq_neg (by omega) (by omega) (by omega), ieq_neg (by omega) (by omega) (by omega), ieq_pos hk0, ieq_pos rfl, z13, e3, kV_r, h_208_317, kV_r]
        exact Gl.done z6.ev v1 v2 v3 v4 v5 (by omega)
  · -- innermost
    have hwk : wkr A w = w := if_pos (by omega)
    rw [round_x (by omega) hf h (by omega) (by omega), if_pos rfl, q_206, g33 (by omega) hf h, kI_r, g34 (by omega) hf h, kI_r, x_kd (by omega) h.tb hw, kI_r, ieq_neg (by omega) (by omega) (by omega), ieq_neg (by omega) (by omega) (by omega), ieq_neg (by omega) (by omega) (by omega), ieq_neg (by omega) (by omega) (by omega), ieq_neg (by omega) (by omega) (by omega), ieq_neg (by omega) (by omega) (by omega), ieq_neg (by omega) (by omega) (by omega), ieq_neg (by omega) (by omega) (by omega), ieq_neg (by omega) (by omega) (by omega), ieq_neg (by omega) (by omega) (by omega), ieq_neg (by omega) (by omega) (by omega), ieq_neg (by omega) (by omega) (by omega), ieq_pos hk0, kV_id, hk0, bod_12]
    exact x_innL hdd hA hV ih hC hw hk0 601 u (bgn q) (k + 1) _ M b p d 0 h htb hk1 (by omega) hn1 (by omega)
  · -- again and again
    obtain ⟨M1, M2, top2, p2, e1, y1, kd1⟩ := x_askW (d := d) (st' := 1) (s := s + 2) (k := k + 1) (u4 := some (.int (jn f))) (w' := (gM A w).2.1) (by omega) hA hV ih hC h h.md h.2.2.1.1 (by omega) ((hV w hw).2.1 (by omega)) hn1 hk1
    rw [round_x (by omega) hf h (by omega) (by omega), if_pos rfl, q_206, g33 (by omega) hf h, kI_r, g34 (by omega) hf h, kI_r, x_kd (by omega) h.tb hw, kI_r, ieq_neg (by omega) (by omega) (by omega), ieq_neg (by omega) (by omega) (by omega), ieq_neg (by omega) (by omega) (by omega), ieq_neg (by omega) (by omega) (by omega), ieq_neg (by omega) (by omega) (by omega), ieq_neg (by omega) (by omega) (by omega), ieq_neg (by omega) (by omega) (by omega), ieq_neg (by omega) (by omega) (by omega), ieq_neg (by omega) (by omega) (by omega), ieq_neg (by omega) (by omega) (by omega), ieq_neg (by omega) (by omega) (by omega), ieq_neg (by omega) (by omega) (by omega), ieq_neg (by omega) (by omega) (by omega), x_on (by omega) h.tb hw (by omega), kI_r, e1, kV_r, kV_r]
    rw [hk0, bod_13]
    exact x_repL hdd hA hV ih hC hw hk0 601 u (bgn q) (k + 1) _ M1 M2 top2 p2 0 (by omega) hn1 y1 kd1
end
