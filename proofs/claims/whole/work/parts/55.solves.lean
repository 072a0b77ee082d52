/-! the model's search through the goals -/
section
variable {d : Nat} {A : AT} {M : PM} {a b c f : Int32} {v : Int64} {e : EV}
theorem clamp_R {R : Nat} (hR : R = 54 ∨ R = 56) : (jn R).toNatClampNeg = R ∧ ¬ jn R < 0 := by rcases hR with rfl | rfl <;> decide
theorem lay_R {R : Nat} (hR : R = 54 ∨ R = 56) : lay[R]? = some (.inr (false, 960)) := by rcases hR with rfl | rfl <;> rfl
theorem off_R {R : Nat} (hR : R = 54 ∨ R = 56) : R ∉ [66, 67, 68] ∧ R ≠ 66 ∧ R ≠ 67 ∧ R ≠ 68 := by rcases hR with rfl | rfl <;> decide
theorem c_args_0 {R n P q : Nat} {x t1 : Tm} (hd : 6 ≤ d) (hR : R = 54 ∨ R = 56) (h20 : M.1 52 20 = jn R) (hn : n + 1 < 90) (hx : wf x) (ht : wf t1) (hxa : At (M.1 R) (P + 1) (en x)) (hxP : P + 1 + sz x ≤ 960) (hta : At (M.1 65) (q + 1) (en t1)) (htq : q + 1 + sz t1 ≤ 8100) :
    pcl GG lay d 111 [.ref 52, .int (jn n), .int (jn P), .int (jn q), .int (jn 0)] M = kI (pcl GG lay (d - 1) 112 [.ref 52, .int (jn (n + 2))] (pG (pG M n (P + 1 + sz x) (q + 1 + sz t1)) (n + 1) (P + 1) (q + 1))) fun r M => rZ r M := by
  obtain ⟨d, rfl⟩ := ex_add hd
  obtain ⟨r1, r2⟩ := clamp_R hR
  have r3 := off_R hR
  rw [q_111, h20, if_neg r2, r1, c_arg1 (n := 960) (by omega) (lay_R hR) (by omega) hx hxa hxP, kI_r, ieq_pos rfl, c_arg1 (n := 8100) (by omega) rfl (by omega) ht hta htq, kI_r, c_goal (by omega) (by omega), kV_r, pG_o _ _ _ _ (by omega), h20, if_neg r2, r1, c_arg0 (by omega), kI_r, ieq_pos rfl, c_arg0 (by omega), kI_r, jn_add, c_goal (by omega) (by omega), kV_r, jn_add]
  rfl
theorem c_args_1 {R n P q : Nat} {x t1 : Tm} (hd : 6 ≤ d) (hR : R = 54 ∨ R = 56) (h20 : M.1 52 20 = jn R) (hn : n + 1 < 90) (hx : wf x) (ht : wf t1) (hxa : At (M.1 R) (P + 1) (en x)) (hxP : P + 1 + sz x ≤ 960) (hta : At (M.1 65) (q + 1) (en t1)) (htq : q + 1 + sz t1 ≤ 8100) :
    pcl GG lay d 111 [.ref 52, .int (jn n), .int (jn P), .int (jn q), .int (jn 1)] M = kI (pcl GG lay (d - 1) 112 [.ref 52, .int (jn (n + 2))] (pG (pG M n (P + 1 + sz x) (q + 1)) (n + 1) (P + 1) (q + 1 + sz t1))) fun r M => rZ r M := by
  obtain ⟨d, rfl⟩ := ex_add hd
  obtain ⟨r1, r2⟩ := clamp_R hR
  have r3 := off_R hR
  have hta2 : At ((pG M n (P + 1 + sz x) (q + 1)).1 65) (q + 1) (en t1) := hta
  rw [q_111, h20, if_neg r2, r1, c_arg1 (n := 960) (by omega) (lay_R hR) (by omega) hx hxa hxP, kI_r, ieq_neg (by omega) (by omega) (by omega), c_arg0 (by omega), kI_r, c_goal (by omega) (by omega), kV_r, pG_o _ _ _ _ (by omega), h20, if_neg r2, r1, c_arg0 (by omega), kI_r, ieq_neg (by omega) (by omega) (by omega), c_arg1 (n := 8100) (by omega) rfl (by omega) ht hta2 htq, kI_r, jn_add, c_goal (by omega) (by omega), kV_r, jn_add]
  rfl
theorem mtMs {cm : Int32 → Bool} {c c' : Int32} {x y t1 t2 : Tm} {e : EV} (hv : ¬ isV c) : ms cm (Nd c x y) (Nd c' t1 t2) e = if c ≠ c' then [] else if is2 c then (ms cm x t1 e).flatMap (fun e' => ms cm y t2 e') ++ (if cm c = true then (ms cm x t2 e).flatMap (fun e' => ms cm y t1 e') else []) else if is1 c then ms cm x t1 e else [e] := if_neg hv
theorem EM_eq {e : EV} {M M' : PM} (h : EM e M) (h68 : M'.1 68 = M.1 68) (h65 : M'.1 65 = M.1 65) : EM e M' := by
  intro v hv
  have := h v hv
  rw [h68, h65]; exact this
theorem head_app {l l' : List EV} : (l ++ l').head? = match l.head? with
  | some x => some x
  | none => l'.head? := by cases l <;> rfl
theorem sol_go {T R : Nat} (hT : T < 16) (hR : R = 54 ∨ R = 56) : ∀ N (gs : List GT) (e : EV) (M : PM) (d : Nat), tot gs ≤ N → 2 * N + 8 ≤ d → gs.length + N ≤ 90 → M.1 52 20 = jn R → M.1 52 21 = jn T → GP M gs → (∀ g ∈ gs, GO (M.1 R) (M.1 65) g) → EM e M → SRm (msG (cmB T) gs e) gs.length M (pcl GG lay d 112 [.ref 52, .int (jn gs.length)] M) := by
  obtain ⟨r1, r2⟩ := clamp_R hR
  have r3 := off_R hR
  intro N
  induction N using Nat.strongRecOn with
  | _ N ih =>
    intro gs e M d htot hd hlen h20 h21 hGP hGO hE
    obtain ⟨d, rfl⟩ := ex_add (k := 1) (show 1 ≤ d by omega)
    cases gs with
    | nil =>
      rw [q_112, List.length_nil, ieq_pos rfl, rZ_1]
      exact SRm_1 rfl Fr.rf hE
    | cons g gs =>
      obtain ⟨P, p, q, t⟩ := g
      obtain ⟨g66, g67, hGP⟩ := hGP
      have g66 : M.1 66 gs.length = jn P := g66
      have g67 : M.1 67 gs.length = jn q := g67
      have htot : sz p + tot gs ≤ N := htot
      rw [List.length_cons] at hlen ⊢
      obtain ⟨⟨⟨hp, hps, hpa, hpP⟩, ht, hts, hta, htq⟩, hGO2⟩ := List.forall_mem_cons.mp hGO
      have hp : wf p := hp
      have hps : sz p ≤ 40 := hps
      have hpa : At (M.1 R) P (en p) := hpa
      have hpP : P + sz p ≤ 960 := hpP
      have ht : wf t := ht
      have hts : sz t ≤ 40 := hts
      have hta : At (M.1 65) q (en t) := hta
      have htq : q + sz t ≤ 8100 := htq
      have zp := sz_pos p hp
      have zt := sz_pos t ht
      rw [q_112, ieq_neg (by omega) (by omega) (by omega), jn_sub (by omega), Nat.add_sub_cancel, ald_n (n := 90) rfl (by omega) (by omega), oB_s, ald_n (n := 90) rfl (by omega) (by omega), oB_s, h20, if_neg r2, r1, g66, g67, ald_n (lay_R hR) (by omega) (by omega), oB_s, c_isVm (by omega), kI_r]
      show SRm ((ms (cmB T) p t e).flatMap (fun e' => msG (cmB T) gs e')) _ _ _
      obtain ⟨c, x, y, rfl, hc⟩ := wf_cases hp
      rw [en_n] at hpa
      obtain ⟨hpc, hpb⟩ := hpa
      rw [hpc]
      by_cases hv : isV c
      · rw [bI_1 hv, ieq_neg (by omega) (by omega) (by omega)]
        refine SRm_fin (by omega) (by omega) g66 g67 ?_
        obtain ⟨k, hk, rfl⟩ := isV_k hv
        have hEk := hE k hk
        obtain ⟨d, rfl⟩ := ex_add (k := 1) (show 1 ≤ d by omega)
        rw [jn_sub (by omega), Nat.add_sub_cancel_left, q_109, ald_n (n := 6) rfl hk (by omega), oB_s]
        have e1 : ms (cmB T) (Nd (jn (117 + k)) x y) t e = match e k with
            | none => [va_up e k (some t)]
            | some u => if en u = en t then [e] else [] := by
          show (if isV _ then _ else _) = _
          rw [if_pos hv, vi_k hk]
          cases e k <;> rfl
        rw [e1]
        cases he : e k with
        | none =>
          rw [he] at hEk
          simp only at hEk ⊢
          rw [if_pos hEk, ast_n (n := 6) rfl hk (by omega), oB_s, List.flatMap_cons, List.flatMap_nil, List.append_nil]
          have hE2 : EM (va_up e k (some t)) (sI M 68 (va_up (M.1 68) k (jn q))) := by
            intro v hv
            rw [up_at, sI_k, up_at]
            by_cases hvk : v = k
            · rw [if_pos hvk, if_pos hvk]; exact ⟨q, rfl, ht, hts, htq, hta⟩
            · rw [if_neg hvk, if_neg hvk]; exact hE v hv
          have hS := ih (N - 1) (by omega) gs (va_up e k (some t)) (sI M 68 (va_up (M.1 68) k (jn q))) d (by omega) (by omega) (by omega) h20 h21 (GP_low (M := M) gs (fun _ _ => ⟨rfl, rfl⟩) hGP) (by rw [sI_o _ _ r3.2.2.2]; exact hGO2) hE2
          rcases SRm_out hS with ⟨e', M', h1, h2, h3, h4⟩ | ⟨M', h1, h2, h3, h4, h5⟩
          · rw [h2, kI_r, ieq_neg (by omega) (by omega) (by omega), rZ_1]
            exact SRm_1 h1 ((Fr.sI (by decide)).trans h3) h4
          · rw [h2, kI_r, ieq_pos rfl, ast_n (n := 6) rfl hk (by omega), oB_s, rZ_0]
            refine SRm_0 h1 (((Fr.sI (by decide)).trans h3).trans (Fr.sI (by decide))) ?_ h5
            rw [sI_k, h4, sI_k]
            funext j
            rw [up_at, up_at]
            by_cases hj : j = k
            · rw [if_pos hj, hj, hEk]
            · rw [if_neg hj, if_neg hj]
        | some u =>
          rw [he] at hEk
          obtain ⟨qu, k1, k2, k3, k4, k5⟩ := hEk
          rw [k1, ieq_z (by omega) (by omega), oB_s, c_same (n := 8100) (m := 8100) (by omega) rfl (by omega) rfl (by omega) k2 ht k5 hta k4 htq, kI_r]
          simp only
          by_cases hs : en u = en t
          · rw [bI_1 hs, ieq_neg (by omega) (by omega) (by omega), if_pos hs, List.flatMap_cons, List.flatMap_nil, List.append_nil]
            have hS := ih (N - 1) (by omega) gs e M d (by omega) (by omega) (by omega) h20 h21 hGP hGO2 hE
            rcases SRm_out hS with ⟨e', M', h1, h2, h3, h4⟩ | ⟨M', h1, h2, h3, h4, h5⟩
            · rw [h2, kI_r, ieq_neg (by omega) (by omega) (by omega), rZ_1]
              exact SRm_1 h1 h3 h4
            · rw [h2, kI_r, ieq_pos rfl, rZ_0]
              exact SRm_0 h1 h3 h4 h5
          · rw [bI_n hs, ieq_pos rfl, if_neg hs, rZ_0]
            exact SRm_0 rfl Fr.rf rfl (fun _ _ => ⟨rfl, rfl⟩)
      · rw [bI_n hv, ieq_pos rfl, ald_n (n := 8100) rfl (by omega) (by omega), oB_s]
        obtain ⟨c', t1, t2, rfl, hc'⟩ := wf_cases ht
        rw [en_n] at hta
        obtain ⟨htc, htb⟩ := hta
        rw [htc, mtMs hv]
        by_cases hcc : c = c'
        case neg =>
          rw [if_neg hcc, if_pos hcc, ieq_pos rfl, c_goal (by omega) (by omega), kV_r, rZ_0, List.flatMap_nil]
          refine SRm_0 rfl (pG_fr _ _ _ _) rfl (fun i hi => ?_)
          rw [pG_1, pG_2, up_at, up_at]
          by_cases hin : i = gs.length
          · rw [if_pos hin, if_pos hin, hin, g66, g67]; exact ⟨rfl, rfl⟩
          · rw [if_neg hin, if_neg hin]; exact ⟨rfl, rfl⟩
        subst hcc
        rw [if_pos rfl, if_neg (by simp), c_aritym (by omega), kI_r]
        rcases hc with ⟨hc, rfl, rfl⟩ | ⟨hc, hx, rfl⟩ | ⟨hc, hx, hy⟩
        · rw [arR_0 hc, ieq_pos rfl, if_neg (show ¬ is2 c by omega), if_neg (show ¬ is1 c by omega), List.flatMap_cons, List.flatMap_nil, List.append_nil]
          refine SRm_fin (by omega) (by omega) g66 g67 ?_
          exact ih (N - 1) (by omega) gs e M d (by omega) (by omega) (by omega) h20 h21 hGP hGO2 hE
        · have hc2 : wf t1 ∧ sz t2 = 0 := by
            rcases hc' with ⟨h, -, -⟩ | ⟨-, h, rfl⟩ | ⟨h, -, -⟩
            · omega
            · exact ⟨h, rfl⟩
            · omega
          have sx : sz (Nd c x Lf) = sz x + 1 := sz_1 c x
          have st : sz (Nd c t1 t2) = sz t1 + sz t2 + 1 := sz_n c t1 t2
          rw [arR_1 hc, ieq_neg (by omega) (by omega) (by omega), c_aritym (by omega), kI_r, arR_1 hc, ieq_pos rfl, jn_add, jn_add, c_goal (by omega) (by omega), kV_r, if_neg (show ¬ is2 c by omega), if_pos hc]
          refine SRm_fin (by omega) (by omega) g66 g67 ?_
          refine SRm_from (ih (N - 1) (by omega) ((P + 1, x, q + 1, t1) :: gs) e (pG M gs.length (P + 1) (q + 1)) d (by show sz x + tot gs ≤ N - 1; omega) (by omega) (by rw [List.length_cons]; omega) h20 h21 ⟨?_, ?_, GP_low (M := M) gs (pG_low (Nat.le_refl _)) hGP⟩ (List.forall_mem_cons.mpr ⟨?_, ?_⟩) (EM_eq hE rfl rfl)) (by rw [List.length_cons]; omega) (pG_fr _ _ _ _) rfl (pG_low (Nat.le_refl _))
          · rw [pG_1, up_at, if_pos rfl]
          · rw [pG_2, up_at, if_pos rfl]
          · rw [pG_o _ _ _ _ ⟨r3.2.1, r3.2.2.1⟩]
            exact ⟨⟨hx, by show sz x ≤ 40; omega, ((At_app _ _ _).mp hpb).1, by show P + 1 + sz x ≤ 960; omega⟩, hc2.1, by show sz t1 ≤ 40; omega, ((At_app _ _ _).mp htb).1, by show q + 1 + sz t1 ≤ 8100; omega⟩
          · rw [pG_o _ _ _ _ ⟨r3.2.1, r3.2.2.1⟩]; exact hGO2
        · have hc2 : wf t1 ∧ wf t2 := by
            rcases hc' with ⟨h, -, -⟩ | ⟨h, -, -⟩ | ⟨-, h1, h2⟩
            · omega
            · omega
            · exact ⟨h1, h2⟩
          have sx : sz (Nd c x y) = sz x + sz y + 1 := sz_n c x y
          have st : sz (Nd c t1 t2) = sz t1 + sz t2 + 1 := sz_n c t1 t2
          have zx := sz_pos x hx
          have zy := sz_pos y hy
          have z1 := sz_pos t1 hc2.1
          have z2 := sz_pos t2 hc2.2
          obtain ⟨hxa, hya⟩ := (At_app _ _ _).mp hpb
          obtain ⟨h1a, h2a⟩ := (At_app _ _ _).mp htb
          have h2a : At (M.1 65) (q + 1 + sz t1) (en t2) := h2a
          have h1a : At (M.1 65) (q + 1) (en t1) := h1a
          have hxa : At (M.1 R) (P + 1) (en x) := hxa
          have hya : At (M.1 R) (P + 1 + sz x) (en y) := hya
          have two : ∀ (u1 u2 : Tm) (q1 q2 : Nat) (M1 : PM), Fr [66, 67, 68] M M1 → M1.1 68 = M.1 68 → GP M1 gs → (wf u1 ∧ sz u1 ≤ 40 ∧ At (M.1 65) q1 (en u1) ∧ q1 + sz u1 ≤ 8100) → (wf u2 ∧ sz u2 ≤ 40 ∧ At (M.1 65) q2 (en u2) ∧ q2 + sz u2 ≤ 8100) → SRm (((ms (cmB T) x u1 e).flatMap (fun e' => ms (cmB T) y u2 e')).flatMap (fun e' => msG (cmB T) gs e')) gs.length M1 (pcl GG lay (d - 1) 112 [.ref 52, .int (jn (gs.length + 2))] (pG (pG M1 gs.length (P + 1 + sz x) q2) (gs.length + 1) (P + 1) q1)) := by
            intro u1 u2 q1 q2 M1 hf hf8 hg w1 w2
            rw [List.flatMap_assoc]
            have q20 : M1.1 52 = M.1 52 := hf.1 52 (by decide)
            have qR : M1.1 R = M.1 R := hf.1 R r3.1
            have q65 : M1.1 65 = M.1 65 := hf.1 65 (by decide)
            refine SRm_from (ih (N - 1) (by omega) ((P + 1, x, q1, u1) :: (P + 1 + sz x, y, q2, u2) :: gs) e (pG (pG M1 gs.length (P + 1 + sz x) q2) (gs.length + 1) (P + 1) q1) (d - 1) (by show sz x + (sz y + tot gs) ≤ N - 1; omega) (by omega) (by rw [List.length_cons, List.length_cons]; omega) (by show M1.1 52 20 = _; rw [q20]; exact h20) (by show M1.1 52 21 = _; rw [q20]; exact h21) ⟨?_, ?_, ?_, ?_, ?_⟩ (List.forall_mem_cons.mpr ⟨?_, List.forall_mem_cons.mpr ⟨?_, ?_⟩⟩) (EM_eq hE hf8 q65)) (by rw [List.length_cons, List.length_cons]; omega) ((pG_fr _ _ _ _).trans (pG_fr _ _ _ _)) rfl (fun i hi => ?_)
            · rw [pG_1, List.length_cons, up_at, if_pos rfl]
            · rw [pG_2, List.length_cons, up_at, if_pos rfl]
            · rw [pG_1, up_at, if_neg (by omega), pG_1, up_at, if_pos rfl]
            · rw [pG_2, up_at, if_neg (by omega), pG_2, up_at, if_pos rfl]
            · exact GP_low (M := M1) gs (fun i hi => ⟨(pG_low (by omega) i hi).1.trans (pG_low (Nat.le_refl _) i hi).1, (pG_low (by omega) i hi).2.trans (pG_low (Nat.le_refl _) i hi).2⟩) hg
            · rw [pG_o _ _ _ _ ⟨r3.2.1, r3.2.2.1⟩, pG_o _ _ _ _ ⟨r3.2.1, r3.2.2.1⟩, qR]
              refine ⟨⟨hx, by show sz x ≤ 40; omega, hxa, by show P + 1 + sz x ≤ 960; omega⟩, w1.1, w1.2.1, ?_, w1.2.2.2⟩
              show At (M1.1 65) _ _
              rw [q65]; exact w1.2.2.1
            · rw [pG_o _ _ _ _ ⟨r3.2.1, r3.2.2.1⟩, pG_o _ _ _ _ ⟨r3.2.1, r3.2.2.1⟩, qR]
              refine ⟨⟨hy, by show sz y ≤ 40; omega, hya, by show P + 1 + sz x + sz y ≤ 960; omega⟩, w2.1, w2.2.1, ?_, w2.2.2.2⟩
              show At (M1.1 65) _ _
              rw [q65]; exact w2.2.2.1
            · rw [pG_o _ _ _ _ ⟨r3.2.1, r3.2.2.1⟩, pG_o _ _ _ _ ⟨r3.2.1, r3.2.2.1⟩, qR]
              show ∀ x, x ∈ gs → GO (M.1 R) (M1.1 65) x
              rw [q65]; exact hGO2
            · exact ⟨(pG_low (by omega) i hi).1.trans (pG_low (Nat.le_refl _) i hi).1, (pG_low (by omega) i hi).2.trans (pG_low (Nat.le_refl _) i hi).2⟩
          have W1 : wf t1 ∧ sz t1 ≤ 40 ∧ At (M.1 65) (q + 1) (en t1) ∧ q + 1 + sz t1 ≤ 8100 := ⟨hc2.1, by omega, h1a, by omega⟩
          have W2 : wf t2 ∧ sz t2 ≤ 40 ∧ At (M.1 65) (q + 1 + sz t1) (en t2) ∧ q + 1 + sz t1 + sz t2 ≤ 8100 := ⟨hc2.2, by omega, h2a, by omega⟩
          have SA := SRm_z (two t1 t2 (q + 1) (q + 1 + sz t1) M Fr.rf rfl hGP W1 W2)
          rw [← c_args_0 (d := d) (by omega) hR h20 (by omega) hx hc2.1 hxa (by omega) h1a (by omega)] at SA
          rw [arR_2 hc, ieq_neg (by omega) (by omega) (by omega), c_aritym (by omega), kI_r, arR_2 hc, ieq_neg (by omega) (by omega) (by omega), if_pos hc, List.flatMap_append]
          rcases SRm_out SA with ⟨e', M', k1, k2, k3, k4⟩ | ⟨M', k1, k2, k3, k4, k5⟩
          · rw [k2, kI_r, ieq_neg (by omega) (by omega) (by omega), ieq_neg (by omega) (by omega) (by omega), rZ_1]
            refine SRm_1 ?_ k3 k4
            rw [head_app, k1]
          · have q20 : M'.1 52 = M.1 52 := k3.1 52 (by decide)
            have q65 : M'.1 65 = M.1 65 := k3.1 65 (by decide)
            have qR : M'.1 R = M.1 R := k3.1 R r3.1
            rw [k2, kI_r, ieq_pos rfl, q20, h21]
            by_cases hm : cmB T c = true
            · rw [if_pos (Eq.mpr (may_bit hT hc).2 hm), if_pos hm]
              have SB := SRm_z (two t2 t1 (q + 1 + sz t1) (q + 1) M' k3 k4 (GP_low (M := M) gs (fun i hi => k5 i hi) hGP) W2 W1)
              rw [← c_args_1 (d := d) (by omega) hR (by rw [q20]; exact h20) (by omega) hx hc2.1 (by rw [qR]; exact hxa) (by omega) (by rw [q65]; exact h1a) (by omega)] at SB
              rcases SRm_out SB with ⟨e', M'', l1, l2, l3, l4⟩ | ⟨M'', l1, l2, l3, l4, l5⟩
              · rw [l2, kI_r, ieq_neg (by omega) (by omega) (by omega), ieq_neg (by omega) (by omega) (by omega), rZ_1]
                refine SRm_1 ?_ (k3.trans l3) l4
                rw [head_app, k1, l1]
              · rw [l2, kI_r, ieq_pos rfl, ieq_pos rfl, c_goal (by omega) (by omega), kV_r, rZ_0]
                refine SRm_0 ?_ ((k3.trans l3).trans (pG_fr _ _ _ _)) (l4.trans k4) (fun i hi => ?_)
                · rw [head_app, k1, l1]
                rw [pG_1, pG_2, up_at, up_at]
                by_cases hin : i = gs.length
                · rw [if_pos hin, if_pos hin, hin, g66, g67]; exact ⟨rfl, rfl⟩
                · rw [if_neg hin, if_neg hin]
                  exact ⟨(l5 i (by omega)).1.trans (k5 i (by omega)).1, (l5 i (by omega)).2.trans (k5 i (by omega)).2⟩
            · rw [if_neg (fun z => hm (Eq.mp (may_bit hT hc).2 z)), if_neg hm, ieq_pos rfl, c_goal (by omega) (by omega), kV_r, rZ_0, List.flatMap_nil, List.append_nil]
              refine SRm_0 k1 (k3.trans (pG_fr _ _ _ _)) k4 (fun i hi => ?_)
              rw [pG_1, pG_2, up_at, up_at]
              by_cases hin : i = gs.length
              · rw [if_pos hin, if_pos hin, hin, g66, g67]; exact ⟨rfl, rfl⟩
              · rw [if_neg hin, if_neg hin]; exact k5 i (by omega)
end
