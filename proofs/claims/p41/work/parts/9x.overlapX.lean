/-! an overlap by the system -/
def HolX (o : Tm × Tm × Tm) (M : PM) : Prop := At (M.1 7) 2000 (en o.1) ∧ At (M.1 7) 2040 (en o.2.1) ∧ At (M.1 7) 2080 (en o.2.2)
section
variable {d P o : Nat} {A : AT} {M M' M1 : PM} {nm l : List Int32} {r q : Tm × Tm} {i j node : Nat}
theorem WS_start (h : WS P 0 nm o M) (ho : o = 0 ∨ o = 1) : WR P 0 nm [] M M ∨ FW P M M ∧ WO P M := by
  rcases ho with rfl | rfl
  · exact Or.inl (WR.nil h)
  · exact Or.inr ⟨FW.rf, 0, nm, h⟩
/-- what a place's writing leaves for the next place -/
theorem WR_next (ho : o = 0 ∨ o = 1) (h0 : o = 0 → WR P 0 nm l M M1) (h1 : o = 1 → WO P M1) : ∃ o' nm', (o' = 0 ∨ o' = 1) ∧ M1.1 40 12 = jn o' ∧ NSx nm' M1 ∧ ((o' = 0 ∧ o = 0 ∧ l.length ≤ 40 ∧ nm' = (cnS nm l).2 ∧ At (M1.1 7) P (cnS nm l).1) ∨ (o' = 1 ∧ (o = 1 ∨ 40 < l.length))) := by
  rcases ho with rfl | rfl
  · obtain ⟨-, ⟨a1, a2, a3, -⟩ | ⟨a1, c2, n2, a2⟩⟩ := h0 rfl
    · exact ⟨0, _, Or.inl rfl, a2.2.2.1, a2.2.2.2.1, Or.inl ⟨rfl, rfl, by omega, rfl, a3⟩⟩
    · exact ⟨1, _, Or.inr rfl, a2.2.2.1, a2.2.2.2.1, Or.inr ⟨rfl, Or.inr (by omega)⟩⟩
  · obtain ⟨c2, n2, a2⟩ := h1 rfl
    exact ⟨1, _, Or.inr rfl, a2.2.2.1, a2.2.2.2.1, Or.inr ⟨rfl, Or.inl rfl⟩⟩
theorem x_ovA (hd : 14 ≤ d) (hA : AOk A) (h : RX A M) (hr : (rsA A)[i]? = some r) (hq : (rsA A)[j]? = some q) (hn : node < sz r.1) (h3 : nvr (en r.1) ≤ 3) (h4 : nvr (en q.1) ≤ 3) :
    ∃ M', pcl GG lay d 46 [.ref 0, .int (jn i), .int (jn j), .int (jn node)] M = rI (if isV (sgn r.1 node) then jn 0 else bI ((ovA r q node).isSome = true)) M' ∧ RX A M' ∧ Hi M M' ∧ ∀ o, ¬ isV (sgn r.1 node) → ovA r q node = some o → HolX o M' := by
  obtain ⟨d, rfl⟩ := ex_add (show 1 ≤ d by omega)
  obtain ⟨r1, hi⟩ := rl_ok hA hr
  obtain ⟨q1, hj⟩ := rl_ok hA hq
  have rl7 : At (M.1 7) (960 + 40 * i) (en r.1) := (h.1.2.2.1 i r hr).1
  have rr7 : At (M.1 7) (1440 + 40 * i) (en r.2) := (h.1.2.2.1 i r hr).2
  have ql7 : At (M.1 7) (960 + 40 * j) (en q.1) := (h.1.2.2.1 j q hq).1
  have qr7 : At (M.1 7) (1440 + 40 * j) (en q.2) := (h.1.2.2.1 j q hq).2
  have zr1 := r1.2.2.1
  have zr2 := r1.2.2.2.1
  have zq1 := q1.2.2.1
  have zq2 := q1.2.2.2.1
  have hfit := sub_sz r1.1 hn
  obtain ⟨hw, -, x, y, hx, he, hrep⟩ := sub_pieces r.1 r1.1 node hn
  have e7 : M.1 7 (960 + 40 * i + node) = sgn r.1 node := sgn_at rl7 hn
  rw [q_46, c_lp (by omega), kI_r, jn_add, c_at (by omega) (by omega), kI_r, e7, c_isV (by omega), kI_r]
  by_cases hv : isV (sgn r.1 node)
  · rw [bI_1 hv, ieq_neg (by omega) (by omega) (by omega), if_pos hv, rZ_0]
    exact ⟨M, rfl, h, Hi.rf, fun o z => absurd hv z⟩
  rw [bI_n hv, ieq_pos rfl, if_neg hv, c_lp (by omega), kI_r]
  rcases c_unif (d := d) (M := M) (node := node) (by omega) r1.1 q1.1 zr1 zq1 rl7 (by omega) ql7 (by omega) hn with ⟨M1, R, sh, N, S, g1, g2, g3, g4, g5, g6, g7⟩ | ⟨M1, g1, g2, g3⟩
  case inr =>
    have hf1 : Fr (7 :: scX) M M1 := g2.mono (by decide)
    have hR1 : RX A M1 := RX_sc hA.1 h hf1 (fun i hi => by rw [g2.1 7 (by decide)])
    rw [g1, kI_r, ieq_pos rfl, rZ_0, ovA_no g3, bI_n (by simp)]
    exact ⟨M1, rfl, hR1, Hi.fr hf1 (by decide), fun o _ ho => by cases ho⟩
  have g3 : Mgu (muU r.1 q.1 R sh N) (sub r.1 node) (apt q.1) := g3
  have hov := ovA_of r1 q1 hn g3
  generalize hm : muU r.1 q.1 R sh N = m at g3 hov
  -- the peak
  obtain ⟨M2, a1, a2, a3, a4⟩ := c_place (d := d) (P' := 2000) (by omega) g7 (NSx_0 g5 g6)
  have hw2 : WU r.1 q.1 R sh N S M2 := g4.fr (a3.mono (by decide)) (a4 8 (by omega) (by omega))
  have f2 : M2.1 7 = M.1 7 := by rw [a3.1 7 (by decide), g2.1 7 (by decide)]
  have ll : (en r.1).length = sz r.1 := rfl
  have lr : (en r.2).length = sz r.2 := rfl
  have lq : (en q.2).length = sz q.2 := rfl
  obtain ⟨M3, b1, b2, b3, b4⟩ := c_on (d := d) (P := 2000) (cnt := 0) (nm := []) (l := []) (M := M2) (M1 := M2) (p := 960 + 40 * i) (raw := en r.1) (b := 0) (by omega) (by omega) r1.1 q1.1 zr1 zq1 (by omega) (sg_en _ r1.1) (by omega) (by rw [f2]; exact rl7) (Or.inl (WR.nil a2)) hw2
  rw [List.nil_append, em0_t r1.1, hm] at b2
  rw [ll] at b1
  obtain ⟨o2, nm2, ho2, e2, hN2, c2⟩ := WR_next (Or.inl rfl) (fun _ => b2 (WR.nil a2)) (fun z => by cases z)
  have hw3 := hw2.fw b4
  -- the way of the first
  obtain ⟨M4, p1, p2, p3, p4⟩ := c_place (d := d) (P' := 2040) (by omega) e2 hN2
  have hw4 : WU r.1 q.1 R sh N S M4 := hw3.fr (p3.mono (by decide)) (p4 8 (by omega) (by omega))
  have f4 : ∀ k, k < 2000 → M4.1 7 k = M.1 7 k := fun k hk => by rw [p3.1 7 (by decide), b4.2.1 k (by omega), f2]
  obtain ⟨M5, s1, s2, s3, s4⟩ := c_on (d := d) (P := 2040) (cnt := 0) (nm := nm2) (l := []) (M := M4) (M1 := M4) (p := 1440 + 40 * i) (raw := en r.2) (b := 0) (by omega) (by omega) r1.1 q1.1 zr1 zq1 (by omega) (sg_en _ r1.2.1) (by omega) (At_congr rr7 (fun k _ k2 => f4 k (by omega))) (WS_start p2 ho2) hw4
  rw [List.nil_append, em0_t r1.2.1, hm] at s2
  rw [lr] at s1
  obtain ⟨o3, nm3, ho3, e3, hN3, c3⟩ := WR_next (M1 := M5) ho2 (fun z => s2 (by subst z; exact WR.nil p2)) (fun z => s3 (by subst z; exact ⟨0, nm2, p2⟩))
  have hw5 := hw4.fw s4
  -- the way of the second
  obtain ⟨M6, t1, t2, t3, t4⟩ := c_place (d := d) (P' := 2080) (by omega) e3 hN3
  have hw6 : WU r.1 q.1 R sh N S M6 := hw5.fr (t3.mono (by decide)) (t4 8 (by omega) (by omega))
  have f6 : ∀ k, k < 2000 → M6.1 7 k = M.1 7 k := fun k hk => by rw [t3.1 7 (by decide), s4.2.1 k (by omega), f4 k hk]
  have rl6 : At (M6.1 7) (960 + 40 * i) (en r.1) := At_congr rl7 (fun k _ k2 => f6 k (by omega))
  have rl6' := rl6
  rw [he] at rl6'
  obtain ⟨atx, aty⟩ := (At_app _ _ _).mp rl6'
  obtain ⟨ats, aty⟩ := (At_app _ _ _).mp aty
  rw [hx] at ats aty
  have lsub : (en (sub r.1 node)).length = sz (sub r.1 node) := rfl
  rw [lsub] at aty
  have hylen : node + sz (sub r.1 node) + y.length = sz r.1 := by
    have := congrArg List.length he
    rw [List.length_append, List.length_append, ll, hx, lsub] at this
    omega
  have sgx : ∀ c ∈ x, sg c := fun c hc => sg_en _ r1.1 c (by rw [he]; simp [hc])
  have sgy : ∀ c ∈ y, sg c := fun c hc => sg_en _ r1.1 c (by rw [he]; simp [hc])
  obtain ⟨M7, u1, u2, u3, u4⟩ := c_on (d := d) (P := 2080) (cnt := 0) (nm := nm3) (l := []) (M := M6) (M1 := M6) (p := 960 + 40 * i) (raw := x) (b := 0) (by omega) (by omega) r1.1 q1.1 zr1 zq1 (by omega) sgx (by omega) atx (WS_start t2 ho3) hw6
  rw [hx] at u1
  have h7 : WR 2080 0 nm3 ([] ++ x.flatMap (emW r.1 q.1 R sh N 0)) M6 M7 ∨ FW 2080 M6 M7 ∧ WO 2080 M7 := by
    rcases WS_start t2 ho3 with z | z
    · exact Or.inl (u2 z)
    · exact Or.inr ⟨u4, u3 z.2⟩
  obtain ⟨M8, v1, v2, v3, v4⟩ := c_on (d := d) (P := 2080) (cnt := 0) (nm := nm3) (M := M6) (M1 := M7) (p := 1440 + 40 * j) (raw := en q.2) (b := 6) (by omega) (by omega) r1.1 q1.1 zr1 zq1 (by omega) (sg_en _ q1.2.1) (by omega) (At_congr qr7 (fun k _ k2 => f6 k (by omega))) h7 hw6
  rw [lq] at v1
  have h8 : WR 2080 0 nm3 ([] ++ x.flatMap (emW r.1 q.1 R sh N 0) ++ (en q.2).flatMap (emW r.1 q.1 R sh N 6)) M6 M8 ∨ FW 2080 M6 M8 ∧ WO 2080 M8 := by
    rcases h7 with z | z
    · exact Or.inl (v2 z)
    · exact Or.inr ⟨v4, v3 z.2⟩
  obtain ⟨M9, w1, w2, w3, w4⟩ := c_on (d := d) (P := 2080) (cnt := 0) (nm := nm3) (M := M6) (M1 := M8) (p := 960 + 40 * i + node + sz (sub r.1 node)) (raw := y) (b := 0) (by omega) (by omega) r1.1 q1.1 zr1 zq1 (by omega) sgy (by omega) aty h8 hw6
  rw [show 960 + 40 * i + node + sz (sub r.1 node) + y.length = 960 + 40 * i + sz r.1 by omega] at w1
  have eB : [] ++ x.flatMap (emW r.1 q.1 R sh N 0) ++ (en q.2).flatMap (emW r.1 q.1 R sh N 6) ++ y.flatMap (emW r.1 q.1 R sh N 0) = en (ap m (fB r.1 0 node (apt q.2))) := by
    rw [fB_0 _ _ hn, ap_en _ (by rw [← fB_0 _ _ hn]; exact wfE_ov r1 q1), hrep, List.flatMap_append, List.flatMap_append, em0_l sgx, em0_l sgy, em6_l (sg_en _ q1.2.1), apt_en, hm, List.nil_append, List.append_assoc]
  rw [eB] at w2
  obtain ⟨o4, nm4, ho4, e4, hN4, c4⟩ := WR_next (M1 := M9) ho3 (fun z => w2 (v2 (u2 (by subst z; exact WR.nil t2)))) (fun z => w3 (v3 (u3 (by subst z; exact ⟨0, nm3, t2⟩))))
  -- the ends of the stretches
  have x2 : pcl GG lay d 233 [.ref 6, .int (jn (960 + 40 * i))] M2 = rI (jn (960 + 40 * i + sz r.1)) M2 := c_end (by omega) r1.1 (by rw [f2]; exact rl7) (by omega)
  have x4 : pcl GG lay d 233 [.ref 6, .int (jn (1440 + 40 * i))] M4 = rI (jn (1440 + 40 * i + sz r.2)) M4 := c_end (by omega) r1.2.1 (At_congr rr7 (fun k _ k2 => f4 k (by omega))) (by omega)
  have f7 : ∀ k, k < 2000 → M7.1 7 k = M.1 7 k := fun k hk => by rw [u4.2.1 k (by omega), f6 k hk]
  have f8 : ∀ k, k < 2000 → M8.1 7 k = M.1 7 k := fun k hk => by rw [v4.2.1 k (by omega), f6 k hk]
  have x7 : pcl GG lay d 233 [.ref 6, .int (jn (1440 + 40 * j))] M7 = rI (jn (1440 + 40 * j + sz q.2)) M7 := c_end (by omega) q1.2.1 (At_congr qr7 (fun k _ k2 => f7 k (by omega))) (by omega)
  have rl8 : At (M8.1 7) (960 + 40 * i) (en r.1) := At_congr rl7 (fun k _ k2 => f8 k (by omega))
  have x8 : pcl GG lay d 233 [.ref 6, .int (jn (960 + 40 * i + node))] M8 = rI (jn (960 + 40 * i + node + sz (sub r.1 node))) M8 := c_end (by omega) hw (sub_at r1.1 hn rl8) (by omega)
  have x8' : pcl GG lay d 233 [.ref 6, .int (jn (960 + 40 * i))] M8 = rI (jn (960 + 40 * i + sz r.1)) M8 := c_end (by omega) r1.1 rl8 (by omega)
  rw [g1, kI_r, ieq_neg (by omega) (by omega) (by omega), a1, kV_r, x2, kI_r, b1, kV_r, p1, kV_r, c_rp (by omega), kI_r, c_rp (by omega), kI_r, x4, kI_r, s1, kV_r, t1, kV_r, u1, kV_r, c_rp (by omega), kI_r, c_rp (by omega), kI_r, x7, kI_r, v1, kV_r, x8, kI_r, x8', kI_r, w1, kV_r, e4]
  have hf9 : Fr (7 :: scX) M M9 := (g2.mono (by decide)).trans ((a3.mono (by decide)).trans ((b4.1.mono (by decide)).trans ((p3.mono (by decide)).trans ((s4.1.mono (by decide)).trans ((t3.mono (by decide)).trans (w4.1.mono (by decide)))))))
  have hR9 : RX A M9 := RX_sc hA.1 h hf9 (fun k hk => by rw [w4.2.1 k (by omega), f6 k (by omega)])
  have hH9 : Hi M M9 := Hi.fr hf9 (by decide)
  have l1 : (en (ap m r.1)).length = sz (ap m r.1) := rfl
  have l2 : (en (ap m r.2)).length = sz (ap m r.2) := rfl
  have l3 : (en (ap m (fB r.1 0 node (apt q.2)))).length = sz (ap m (fB r.1 0 node (apt q.2))) := rfl
  rw [l1] at c2
  rw [l2] at c3
  rw [l3] at c4
  rcases c4 with ⟨rfl, rfl, z3, -, at3⟩ | ⟨rfl, hover⟩
  · rcases c3 with ⟨-, rfl, z2, rfl, at2⟩ | ⟨hbad, -⟩
    case inr => omega
    rcases c2 with ⟨-, -, z1, rfl, at1⟩ | ⟨hbad, -⟩
    case inr => omega
    rw [ieq_pos rfl, rZ_1]
    rw [if_neg (by omega), if_neg (by omega), if_neg (by omega)] at hov
    rw [hov, bI_1 (by simp)]
    refine ⟨M9, rfl, hR9, hH9, fun o _ ho => ?_⟩
    cases ho
    obtain ⟨y1, y2, y3⟩ := ov_trees r1 q1 h3 h4 hn g3 z1 z2 z3
    refine ⟨?_, ?_, ?_⟩
    · show At (M9.1 7) 2000 (en (treeOf _))
      rw [(treeOf_ok y1).2.1]
      refine At_congr at1 (fun k k1 k2 => ?_)
      rw [cnS_len, l1] at k2
      rw [w4.2.1 k (by omega), t3.1 7 (by decide), s4.2.1 k (by omega), p3.1 7 (by decide)]
    · show At (M9.1 7) 2040 (en (treeOf _))
      rw [(treeOf_ok y2).2.1]
      refine At_congr at2 (fun k k1 k2 => ?_)
      rw [cnS_len, l2] at k2
      rw [w4.2.1 k (by omega), t3.1 7 (by decide)]
    · show At (M9.1 7) 2080 (en (treeOf _))
      rw [(treeOf_ok y3).2.1]
      exact at3
  · rw [ieq_neg (by omega) (by omega) (by omega), rZ_0]
    have hno : ovA r q node = none := by
      rw [hov]
      by_cases k1 : 40 < sz (ap m r.1)
      · rw [if_pos k1]
      by_cases k2 : 40 < sz (ap m r.2)
      · rw [if_neg k1, if_pos k2]
      by_cases k3 : 40 < sz (ap m (fB r.1 0 node (apt q.2)))
      · rw [if_neg k1, if_neg k2, if_pos k3]
      exfalso
      rcases hover with rfl | z
      · rcases c3 with ⟨hbad, -⟩ | ⟨-, rfl | z⟩
        · omega
        · rcases c2 with ⟨hbad, -⟩ | ⟨-, z | z⟩
          · omega
          · omega
          · omega
        · omega
      · omega
    rw [hno, bI_n (by simp)]
    exact ⟨M9, rfl, hR9, hH9, fun o _ ho => by cases ho⟩
end
