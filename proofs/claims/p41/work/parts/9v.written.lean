/-! the system's unifying: a class's tree is written; a text is written -/
noncomputable abbrev GU (s t : Tm) (R : Nat → Nat) (sh : Nat → Option Nat) (N r : Nat) : Tm := TR (tSp s t) (scS s t) R sh N r
noncomputable def remX (s t : Tm) (R : Nat → Nat) (sh : Nat → Option Nat) (N : Nat) (X : List Nat) : List Int32 := X.flatMap (fun x => en (GU s t R sh N (R x)))
def STm (f : Nat → Int32) : List Nat → Prop
  | [] => True
  | x :: X => f X.length = jn x ∧ STm f X
theorem STm_up {f : Nat → Int32} {y : Nat} {v : Int32} : ∀ X : List Nat, X.length ≤ y → STm f X → STm (va_up f y v) X := by
  intro X
  induction X with
  | nil => intro _ _; trivial
  | cons x X ih =>
    intro hy h
    rw [List.length_cons] at hy
    exact ⟨by rw [up_at, if_neg (by omega)]; exact h.1, ih (by omega) h.2⟩
noncomputable def emW (s t : Tm) (R : Nat → Nat) (sh : Nat → Option Nat) (N b : Nat) (c : Int32) : List Int32 := if isV c then en (GU s t R sh N (R (b + (c.toInt - 117).toNat))) else [c]
section
variable {d P cnt N b : Nat} {s t : Tm} {nm l : List Int32} {M M1 M' : PM} {c : Int32} {R : Nat → Nat} {sh : Nat → Option Nat} {S : Nat → Prop} {u1 u2 u3 u4 : Option Value}
theorem WU.fr (h : WU s t R sh N S M) (hf : Fr [7, 40, 46, 47] M M') (h8 : M'.1 40 8 = M.1 40 8) : WU s t R sh N S M' := by
  obtain ⟨i0, j0, n, rk, h1, h2, h3, h4⟩ := h
  exact ⟨i0, j0, n, rk, h1, ⟨h2.1.eq (hf.1 41 (by decide)) (hf.1 42 (by decide)), by rw [hf.1 43 (by decide)]; exact h2.2.1, by rw [hf.1 44 (by decide)]; exact h2.2.2.1, ⟨by rw [h8]; exact h2.2.2.2.1.1, trivial⟩, h2.2.2.2.2⟩, h3, h4⟩
theorem WU.fw (h : WU s t R sh N S M) (hf : FW P M M') : WU s t R sh N S M' := h.fr hf.1 (hf.2.2 8 (by omega) (by omega) (by omega))
theorem FW.of47 (hf : Fr [47] M M') : FW P M M' := ⟨hf.mono (by decide), fun j _ => by rw [hf.1 7 (by decide)], fun j _ _ _ => by rw [hf.1 40 (by decide)]⟩
theorem WS.of47 {o : Nat} (h : WS P cnt nm o M) (hf : Fr [47] M M') : WS P cnt nm o M' := by
  obtain ⟨h1, h2, h3, h4, h5⟩ := h
  have e40 : M'.1 40 = M.1 40 := hf.1 40 (by decide)
  exact ⟨by rw [e40]; exact h1, by rw [e40]; exact h2, by rw [e40]; exact h3, ⟨by rw [hf.1 46 (by decide)]; exact h4.1, by rw [e40]; exact h4.2.1, h4.2.2⟩, h5⟩
theorem WR.of47 (h : WR P cnt nm l M M1) (hf : Fr [47] M1 M') : WR P cnt nm l M M' := by
  obtain ⟨h1, ⟨a1, a2, a3, a4⟩ | ⟨a1, n2, m2, a2⟩⟩ := h
  · have e7 : M'.1 7 = M1.1 7 := hf.1 7 (by decide)
    exact ⟨h1.trans (FW.of47 hf), Or.inl ⟨a1, a2.of47 hf, by rw [e7]; exact a3, fun j hj => by rw [e7]; exact a4 j hj⟩⟩
  · exact ⟨h1.trans (FW.of47 hf), Or.inr ⟨a1, n2, m2, a2.of47 hf⟩⟩
theorem c_stop {L l3 : Nat} (h : WS P cnt nm 1 M) : E_271 d (13, [some (.ref 40), u1, some (.int (jn L)), some (.int (jn l3)), u2, u3, u4], [], M) = rV M := by
  rw [h_271_13]
  split
  · rfl
  split
  · rw [h.2.2.1, ieq_neg (by omega) (by omega) (by omega)]
  · rfl
theorem c_walk (hd : 5 ≤ d) (hP : P + 40 ≤ 3760) (hs : wf s) (ht : wf t) (hs4 : sz s ≤ 40) (ht4 : sz t ≤ 40) : ∀ m l3 X cnt nm M u2 u3 u4, l3 + m = 41 → WS P cnt nm 0 M → WU s t R sh N S M → STm (M.1 47) X → (∀ x ∈ X, viU (kS s t) (tSp s t) x) → X.length ≤ l3 + 1 → l3 ≤ cnt →
    ∃ M', E_271 d (13, [some (.ref 40), u1, some (.int (jn X.length)), some (.int (jn l3)), u2, u3, u4], [], M) = rV M' ∧ WR P cnt nm (remX s t R sh N X) M M' := by
  have hPl := pool_st hs ht hs4 ht4
  intro m
  induction m with
  | zero =>
    intro l3 X cnt nm M u2 u3 u4 hm h
    have := h.2.2.2.2
    omega
  | succ m ih =>
    intro l3 X cnt nm M u2 u3 u4 hm h hw hX hv hl hc
    have hc40 := h.2.2.2.2
    match X, hX, hv, hl with
    | [], _, _, _ =>
      rw [h_271_13, ilt_neg (by omega) (by omega), ilt_neg (by simp) (by simp)]
      exact ⟨M, rfl, WR.nil h⟩
    | x :: X, hX, hv, hl =>
      rw [List.length_cons] at hl
      obtain ⟨i0, j0, n, rk, ui, us, hrk, hall⟩ := hw
      have hw : WU s t R sh N S M := ⟨i0, j0, n, rk, ui, us, hrk, hall⟩
      have hvx := hv x (by simp)
      have hvX : ∀ y ∈ X, viU (kS s t) (tSp s t) y := fun y hy => hv y (by simp [hy])
      have lx := viU_lt hPl hvx
      obtain ⟨lr, pr⟩ := us.2.1 x lx
      obtain ⟨vr1, vr2⟩ := ui.root x hvx
      have hn := us.lt lr vr2
      obtain ⟨x1, x2⟩ := hX
      have eR : remX s t R sh N (x :: X) = en (GU s t R sh N (R x)) ++ remX s t R sh N X := by unfold remX; rw [List.flatMap_cons]
      have eL : jn (X.length + 1) + jz 1 = jn X.length := by rw [jn_addz (by omega)]; rfl
      -- the walk goes on
      have go : ∀ (c : Int32) (X2 : List Nat) (M2 M3 : PM) (u2 u3 u4 : Option Value), WR P cnt nm [c] M M2 → Fr [47] M2 M3 → STm (M3.1 47) X2 → (∀ y ∈ X2, viU (kS s t) (tSp s t) y) → X2.length ≤ l3 + 1 + 1 → remX s t R sh N (x :: X) = [c] ++ remX s t R sh N X2 → ∃ M', E_271 d (13, [some (.ref 40), u1, some (.int (jn X2.length)), some (.int (jn (l3 + 1))), u2, u3, u4], [], M3) = rV M' ∧ WR P cnt nm (remX s t R sh N (x :: X)) M M' := by
        intro c X2 M2 M3 u2 u3 u4 w1 hf hX2 hv2 hl2 er
        have w3 := w1.of47 hf
        rw [er]
        have w3' := w3
        obtain ⟨f3, ⟨a1, a2, a3, a4⟩ | ⟨a1, c2, n2, a2⟩⟩ := w3'
        · have a1 : cnt + 1 ≤ 40 := a1
          obtain ⟨M', g1, g2⟩ := ih (l3 + 1) X2 (cnt + 1) _ M3 u2 u3 u4 (by omega) a2 (hw.fw f3) hX2 hv2 hl2 (by omega)
          exact ⟨M', g1, WR.app w3 (fun _ => g2) (fun z => by have : 40 < cnt + 1 := z; omega)⟩
        · have a1 : 40 < cnt + 1 := a1
          exact ⟨M3, c_stop a2, WR.app w3 (fun z => by have : cnt + 1 ≤ 40 := z; omega) (fun _ => ⟨FW.rf, c2, n2, a2⟩)⟩
      rw [h_271_13, ilt_neg (by omega) (by omega), List.length_cons, ilt_pos (by omega) (by omega), h.2.2.1, ieq_pos rfl, eL, c_get (n := 368) (by omega) rfl (by omega) (by omega), kI_r, x1, c_root (by omega) lx hn pr, kI_r, c_get (n := 92) (by omega) rfl lr (by omega), kI_r, us.2.2.1 _ lr]
      cases e : sh (R x) with
      | none =>
        have hr := ui.bare hPl vr1 vr2 e
        have eG : en (GU s t R sh N (R x)) = [vcd (R x)] := by rw [GU, TR_none e, en_0]
        obtain ⟨M1, y, M2, p1, p2, p3, p4, p5⟩ := WR.var (d := d) (by omega) hP hr h
        have hay : arR y = jn 0 ∨ arR y = jz 1 := by
          unfold arR
          rw [if_neg (by omega), if_neg (by omega)]
          split
          · exact Or.inl rfl
          · exact Or.inr rfl
        rw [if_pos (show shI none = jz 1 from rfl), p1, kI_r, p2, kV_r, c_arity (by omega), kI_r]
        have n2 : ¬ arR y = jn 2 := by
          rcases hay with z | z
          · rw [z, jn_inj (by omega) (by omega)]; omega
          · rw [z]; intro q; exact absurd q.symm (by rw [jn_jz (by omega) (by omega)]; exact id)
        have n1 : arR y < jn 1 := by
          rcases hay with z | z
          · rw [z]; decide
          · rw [z]; decide
        rw [if_neg n2, c_arity (by omega), kI_r, if_pos n1, jn_add]
        exact go (vcd (R x)) X M2 M2 _ _ _ p3 Fr.rf (by rw [p4]; exact x2) hvX (by omega) (by rw [eR, eG])
      | some k =>
        obtain ⟨k1, k2, k3⟩ := ui.shp _ k vr1 vr2 e
        have k80 := (hPl k k1).1
        have hS : S (R x) := by
          have := hall k k1
          rw [ido_n k2, k3] at this
          exact this
        obtain ⟨t1, t2⟩ := (us.1 k k80).1 k1
        obtain ⟨q1, q2, q3, -⟩ := raw_hd hs ht k1
        have hvk : ¬ isV (rawS s t k) := fun z => k2 (q1.mp z)
        have hh := q2 hvk
        have nvE : ¬ vE (rawS s t k) := by rw [← hh]; exact k2
        have eG := TR_some (N := N) hrk hS e
        rw [hh] at eG
        obtain ⟨M2, p1, p2, p3⟩ := WR.one (d := d) (by omega) hP nvE h
        have hw2 : WU s t R sh N S M2 := hw.fw p2.1
        have us2 : TXT s t M2 := us.1.eq (p2.1.1.1 41 (by decide)) (p2.1.1.1 42 (by decide))
        rw [if_neg (show ¬ shI (some k) = jz 1 by show ¬ jn k = jz 1; rw [jn_jz (by omega) (by omega)]; exact id), show shI (some k) = jn k from rfl, c_get (n := 80) (by omega) rfl k80 (by omega), kI_r, t1, p1, kV_r, c_arity (by omega), kI_r]
        rcases q3 with h0 | h1 | h2
        · rw [if_neg (by omega), if_neg (by omega)] at eG
          rw [arR_0 h0, ieq_neg (by omega) (by omega) (by omega), c_arity (by omega), kI_r, arR_0 h0, ilt_pos (by omega) (by omega), jn_add]
          exact go _ X M2 M2 _ _ _ p2 Fr.rf (by rw [p3]; exact x2) hvX (by omega) (by rw [eR, GU, eG, en_0])
        · have c1 : isch (tSp s t) (scS s t) k (k + 1) := Or.inl ⟨rfl, Or.inl (by rw [hh]; exact h1)⟩
          have kc := (isch_K hPl k1 c1).1
          rw [if_pos (Or.inl h1), if_neg (by omega)] at eG
          rw [arR_1 h1, ieq_neg (by omega) (by omega) (by omega), c_arity (by omega), kI_r, arR_1 h1, ilt_neg (by omega) (by omega), jn_add, c_ido (by omega) hs ht hs4 ht4 us2 kc, kI_r, c_put (n := 368) (by omega) rfl (by omega) (by omega), kV_r, jn_add, jn_add]
          refine go _ (ido (tSp s t) (k + 1) :: X) M2 _ _ _ _ p2 (Fr.sI (by decide)) ⟨?_, ?_⟩ (fun y hy => ?_) (by rw [List.length_cons]; omega) ?_
          · rw [sI_k, up_at, if_pos rfl]
          · rw [sI_k]; exact STm_up X (Nat.le_refl _) (by rw [p3]; exact x2)
          · rcases List.mem_cons.mp hy with rfl | hy
            · exact ido_vi kc
            · exact hvX y hy
          · rw [eR, GU, eG, en_1]
            unfold remX
            rw [List.flatMap_cons]
            simp
        · have c1 : isch (tSp s t) (scS s t) k (k + 1) := Or.inl ⟨rfl, Or.inr (by rw [hh]; exact h2)⟩
          have c2 : isch (tSp s t) (scS s t) k (scS s t k) := Or.inr ⟨rfl, by rw [hh]; exact h2⟩
          have kc := (isch_K hPl k1 c1).1
          have kc2 := (isch_K hPl k1 c2).1
          rw [if_pos (Or.inr h2), if_pos h2] at eG
          rw [arR_2 h2, ieq_pos rfl, c_get (n := 80) (by omega) rfl k80 (by omega), kI_r, p2.1.1.1 42 (by decide), t2 h2, c_ido (by omega) hs ht hs4 ht4 us2 kc2, kI_r, c_put (n := 368) (by omega) rfl (by omega) (by omega), kV_r, c_arity (by omega), kI_r, arR_2 h2, ilt_neg (by omega) (by omega), jn_add]
          generalize hM3 : sI M2 47 (va_up (M2.1 47) X.length (jn (ido (tSp s t) (scS s t k)))) = M3
          have f3 : Fr [47] M2 M3 := by rw [← hM3]; exact Fr.sI (by decide)
          have a47 : M3.1 47 = va_up (M2.1 47) X.length (jn (ido (tSp s t) (scS s t k))) := by rw [← hM3, sI_k]
          clear hM3
          have us3 : TXT s t M3 := us2.eq (f3.1 41 (by decide)) (f3.1 42 (by decide))
          rw [c_ido (by omega) hs ht hs4 ht4 us3 kc, kI_r, jn_add, c_put (n := 368) (by omega) rfl (by omega) (by omega), kV_r, jn_add, jn_add]
          refine go _ (ido (tSp s t) (k + 1) :: ido (tSp s t) (scS s t k) :: X) M2 _ _ _ _ p2 (f3.trans (Fr.sI (by decide))) ⟨?_, ?_, ?_⟩ (fun y hy => ?_) (by rw [List.length_cons, List.length_cons]; omega) ?_
          · rw [sI_k, up_at]; exact if_pos List.length_cons
          · rw [sI_k, up_at, if_neg (by omega), a47, up_at, if_pos rfl]
          · rw [sI_k, a47]
            exact STm_up X (by omega) (STm_up X (Nat.le_refl _) (by rw [p3]; exact x2))
          · rcases List.mem_cons.mp hy with rfl | hy
            · exact ido_vi kc
            rcases List.mem_cons.mp hy with rfl | hy
            · exact ido_vi kc2
            · exact hvX y hy
          · rw [eR, GU, eG, en_2]
            unfold remX
            rw [List.flatMap_cons, List.flatMap_cons]
            simp
theorem c_tree {x : Nat} (hd : 6 ≤ d) (hP : P + 40 ≤ 3760) (hs : wf s) (ht : wf t) (hs4 : sz s ≤ 40) (ht4 : sz t ≤ 40) (h : WS P cnt nm 0 M) (hw : WU s t R sh N S M) (hx : x < 12) : ∃ M', pcl GG lay d 271 [.ref 40, .int (jn x)] M = rV M' ∧ WR P cnt nm (en (GU s t R sh N (R x))) M M' := by
  obtain ⟨d, rfl⟩ := ex_add (show 1 ≤ d by omega)
  have hf : Fr [47] M (sI M 47 (va_up (M.1 47) 0 (jn x))) := Fr.sI (by decide)
  rw [q_271, c_put (n := 368) (by omega) rfl (by omega) (by omega), kV_r]
  obtain ⟨M', g1, g2⟩ := c_walk (d := d) (u1 := some (.int (jn x))) (by omega) hP hs ht hs4 ht4 41 0 [x] cnt nm _ none none none rfl (h.of47 hf) (hw.fr (hf.mono (by decide)) (by rw [hf.1 40 (by decide)])) ⟨by rw [sI_k, up_at]; exact if_pos rfl, trivial⟩ (fun y hy => by rw [List.mem_singleton] at hy; rw [hy]; exact Or.inl hx) (by simp) (by omega)
  refine ⟨M', g1, ?_⟩
  have e : remX s t R sh N [x] = en (GU s t R sh N (R x)) := by unfold remX; simp
  rw [e] at g2
  exact WR.app (l := []) ((WR.nil h).of47 hf) (fun _ => g2) (fun z => by have := h.2.2.2.2; have : 40 < cnt + 0 := z; omega)
theorem c_treeO {x : Nat} (hd : 2 ≤ d) (h : WO P M) : ∃ M', pcl GG lay d 271 [.ref 40, .int (jn x)] M = rV M' ∧ FW P M M' ∧ WO P M' := by
  obtain ⟨d, rfl⟩ := ex_add (show 1 ≤ d by omega)
  obtain ⟨c2, n2, h⟩ := h
  have hf : Fr [47] M (sI M 47 (va_up (M.1 47) 0 (jn x))) := Fr.sI (by decide)
  rw [q_271, c_put (n := 368) (by omega) rfl (by omega) (by omega), kV_r]
  exact ⟨_, c_stop (L := 1) (l3 := 0) (h.of47 hf), FW.of47 hf, c2, n2, h.of47 hf⟩
theorem idE (hv : isV c) (hb : b ≤ 6) : jn b + c - jn 117 = jn (b + (c.toInt - 117).toNat) := by
  obtain ⟨n, hn, rfl⟩ := inn (a := c) (n := 123) (by omega)
  have h' : 117 ≤ (jn n).toInt ∧ (jn n).toInt ≤ 122 := hv
  rw [jn_toInt (by omega)] at h'
  rw [jn_add, jn_sub (by omega), jn_toInt (by omega)]
  congr 1; omega
theorem isV_jn (h : isV c) : c = jn c.toInt.toNat ∧ 117 ≤ c.toInt.toNat ∧ c.toInt.toNat ≤ 122 := ⟨jn_of (by omega), by omega, by omega⟩
/-- a stretch of signs is gone through when it is over -/
theorem c_stretchO (hd : 3 ≤ d) (hP : P + 40 ≤ 3760) (hb : b ≤ 6) : ∀ (raw : List Int32) p M u4, (∀ c ∈ raw, sg c) → p + raw.length ≤ P → At (M.1 7) p raw → WO P M →
    ∃ M', E_269 d (3, [some (.ref 40), u1, some (.int (jn (p + raw.length))), some (.int (jn b)), some (.int (jn p)), u4], [], M) = rV M' ∧ FW P M M' ∧ WO P M' := by
  intro raw
  induction raw with
  | nil =>
    intro p M u4 _ hp _ h
    rw [List.length_nil] at hp
    rw [h_269_3, List.length_nil, Nat.add_zero, ilt_neg (Nat.le_refl _) (by omega)]
    exact ⟨M, rfl, FW.rf, h⟩
  | cons c raw ih =>
    intro p M u4 hsg hp hA h
    rw [List.length_cons] at hp
    have el : p + (c :: raw).length = (p + 1) + raw.length := by rw [List.length_cons]; omega
    have e7 : M.1 7 p = c := hA.1
    have go : ∀ (M2 : PM) u4, FW P M M2 → WO P M2 → ∃ M', E_269 d (3, [some (.ref 40), u1, some (.int (jn (p + (c :: raw).length))), some (.int (jn b)), some (.int (jn p + jn 1)), u4], [], M2) = rV M' ∧ FW P M M' ∧ WO P M' := by
      intro M2 u4 hf ho
      rw [el, jn_add]
      obtain ⟨M', g1, g2, g3⟩ := ih (p + 1) M2 u4 (fun c hc => hsg c (by simp [hc])) (by omega) (At_congr hA.2 (fun j j1 j2 => hf.2.1 j (by omega))) ho
      exact ⟨M', g1, hf.trans g2, g3⟩
    rw [h_269_3, ilt_pos (by rw [List.length_cons]; omega) (by rw [List.length_cons]; omega), c_at (by omega) (by omega), kI_r, e7, c_isV (by omega), kI_r]
    by_cases hv : isV c
    · obtain ⟨v1, v2, v3⟩ := isV_jn hv
      rw [bI_1 hv, ieq_neg (by omega) (by omega) (by omega)]
      have e := idE hv hb
      obtain ⟨M2, g1, g2, g3⟩ := c_treeO (d := d) (x := b + (c.toInt - 117).toNat) (by omega) h
      rw [e, g1, kV_r]
      exact go M2 _ g2 g3
    · obtain ⟨c2, n2, h2⟩ := h
      obtain ⟨M2, g1, g2, -, -, g5, g6⟩ := c_emit (d := d) (c := c) (by omega) hP h2
      rw [bI_n hv, ieq_pos rfl, g1, kV_r]
      refine go M2 _ g2 ?_
      by_cases e : c2 < 40
      · exact ⟨_, _, (g5 e).1⟩
      · exact ⟨_, _, g6 (by have := h2.2.2.2.2; omega)⟩
/-- a stretch of signs is written -/
theorem c_stretch (hd : 7 ≤ d) (hP : P + 40 ≤ 3760) (hs : wf s) (ht : wf t) (hs4 : sz s ≤ 40) (ht4 : sz t ≤ 40) (hb : b ≤ 6) : ∀ (raw : List Int32) p cnt nm M u4, (∀ c ∈ raw, sg c) → p + raw.length ≤ P → At (M.1 7) p raw → WS P cnt nm 0 M → WU s t R sh N S M →
    ∃ M', E_269 d (3, [some (.ref 40), u1, some (.int (jn (p + raw.length))), some (.int (jn b)), some (.int (jn p)), u4], [], M) = rV M' ∧ WR P cnt nm (raw.flatMap (emW s t R sh N b)) M M' := by
  intro raw
  induction raw with
  | nil =>
    intro p cnt nm M u4 _ hp _ h _
    rw [List.length_nil] at hp
    rw [h_269_3, List.length_nil, Nat.add_zero, ilt_neg (Nat.le_refl _) (by omega)]
    exact ⟨M, rfl, WR.nil h⟩
  | cons c raw ih =>
    intro p cnt nm M u4 hsg hp hA h hw
    rw [List.length_cons] at hp
    have el : p + (c :: raw).length = (p + 1) + raw.length := by rw [List.length_cons]; omega
    have e7 : M.1 7 p = c := hA.1
    have hsg' : ∀ c ∈ raw, sg c := fun c hc => hsg c (by simp [hc])
    rw [List.flatMap_cons]
    have go : ∀ (M2 : PM) u4, WR P cnt nm (emW s t R sh N b c) M M2 → ∃ M', E_269 d (3, [some (.ref 40), u1, some (.int (jn (p + (c :: raw).length))), some (.int (jn b)), some (.int (jn p + jn 1)), u4], [], M2) = rV M' ∧ WR P cnt nm (emW s t R sh N b c ++ raw.flatMap (emW s t R sh N b)) M M' := by
      intro M2 u4 hr
      rw [el, jn_add]
      have hA2 : At (M2.1 7) (p + 1) raw := At_congr hA.2 (fun j j1 j2 => hr.1.2.1 j (by omega))
      have hr' := hr
      obtain ⟨f2, ⟨a1, a2, a3, a4⟩ | ⟨a1, a2⟩⟩ := hr'
      · obtain ⟨M', g1, g2⟩ := ih (p + 1) _ _ M2 u4 hsg' (by omega) hA2 a2 (hw.fw f2)
        exact ⟨M', g1, WR.app hr (fun _ => g2) (fun z => by omega)⟩
      · obtain ⟨M', g1, g2, g3⟩ := c_stretchO (d := d) (u1 := u1) (by omega) hP hb raw (p + 1) M2 u4 hsg' (by omega) hA2 a2
        exact ⟨M', g1, WR.app hr (fun z => by omega) (fun _ => ⟨g2, g3⟩)⟩
    rw [h_269_3, ilt_pos (by rw [List.length_cons]; omega) (by rw [List.length_cons]; omega), c_at (by omega) (by omega), kI_r, e7, c_isV (by omega), kI_r]
    by_cases hv : isV c
    · obtain ⟨v1, v2, v3⟩ := isV_jn hv
      rw [bI_1 hv, ieq_neg (by omega) (by omega) (by omega)]
      have e := idE hv hb
      obtain ⟨M2, g1, g2⟩ := c_tree (d := d) (x := b + (c.toInt - 117).toNat) (by omega) hP hs ht hs4 ht4 h hw (by omega)
      rw [e, g1, kV_r]
      exact go M2 _ (by unfold emW; rw [if_pos hv]; exact g2)
    · have hvE : ¬ vE c := by have := hsg c (by simp); omega
      obtain ⟨M2, g1, g2, -⟩ := WR.one (d := d) (by omega) hP hvE h
      rw [bI_n hv, ieq_pos rfl, g1, kV_r]
      exact go M2 _ (by unfold emW; rw [if_neg hv]; exact g2)
/-- behind what has been written -/
theorem c_on {p : Nat} {raw : List Int32} (hd : 8 ≤ d) (hP : P + 40 ≤ 3760) (hs : wf s) (ht : wf t) (hs4 : sz s ≤ 40) (ht4 : sz t ≤ 40) (hb : b ≤ 6) (hsg : ∀ c ∈ raw, sg c) (hp : p + raw.length ≤ P) (hA : At (M.1 7) p raw) (h : WR P cnt nm l M M1 ∨ FW P M M1 ∧ WO P M1) (hw : WU s t R sh N S M) :
    ∃ M', pcl GG lay d 269 [.ref 40, .int (jn p), .int (jn (p + raw.length)), .int (jn b)] M1 = rV M' ∧ ((WR P cnt nm l M M1 → WR P cnt nm (l ++ raw.flatMap (emW s t R sh N b)) M M') ∧ (WO P M1 → WO P M') ∧ FW P M M') := by
  obtain ⟨d, rfl⟩ := ex_add (show 1 ≤ d by omega)
  rw [q_269]
  have hf : FW P M M1 := by
    rcases h with h | h
    · exact h.1
    · exact h.1
  have hA1 : At (M1.1 7) p raw := At_congr hA (fun j j1 j2 => hf.2.1 j (by omega))
  have over : WO P M1 → ∃ M', E_269 d (3, [some (.ref 40), some (.int (jn p)), some (.int (jn (p + raw.length))), some (.int (jn b)), some (.int (jn p)), none], [], M1) = rV M' ∧ FW P M1 M' ∧ WO P M' := fun ho => c_stretchO (d := d) (by omega) hP hb raw p M1 none hsg hp hA1 ho
  have wover : WO P M1 → ∃ M', E_269 d (3, [some (.ref 40), some (.int (jn p)), some (.int (jn (p + raw.length))), some (.int (jn b)), some (.int (jn p)), none], [], M1) = rV M' ∧ ((WR P cnt nm l M M1 → WR P cnt nm (l ++ raw.flatMap (emW s t R sh N b)) M M') ∧ (WO P M1 → WO P M') ∧ FW P M M') := by
    intro ho
    obtain ⟨M', g1, g2, g3⟩ := over ho
    refine ⟨M', g1, fun hr => WR.app hr (fun z => ?_) (fun _ => ⟨g2, g3⟩), fun _ => g3, hf.trans g2⟩
    obtain ⟨-, ⟨a1, a2, a3, a4⟩ | ⟨a1, a2⟩⟩ := hr
    · obtain ⟨c2, n2, b2⟩ := ho
      have e1 := a2.2.2.1
      have e2 := b2.2.2.1
      rw [e1, jn_inj (by omega) (by omega)] at e2
      omega
    · omega
  rcases h with h | ⟨-, h⟩
  · have h' := h
    obtain ⟨f2, ⟨a1, a2, a3, a4⟩ | ⟨a1, a2⟩⟩ := h'
    · obtain ⟨M', g1, g2⟩ := c_stretch (d := d) (u1 := some (.int (jn p))) (by omega) hP hs ht hs4 ht4 hb raw p _ _ M1 none hsg hp hA1 a2 (hw.fw f2)
      refine ⟨M', g1, fun _ => WR.app h (fun _ => g2) (fun z => by omega), fun ho => ?_, f2.trans g2.1⟩
      obtain ⟨c2, n2, b2⟩ := ho
      have e1 := a2.2.2.1
      have e2 := b2.2.2.1
      rw [e1, jn_inj (by omega) (by omega)] at e2
      omega
    · exact wover a2
  · exact wover h
/-- a new place for what is written -/
theorem c_place {P' : Nat} {o : Nat} (hd : 1 ≤ d) (h3 : M.1 40 12 = jn o) (h4 : NSx nm M) : ∃ M', pcl GG lay d 268 [.ref 40, .int (jn P')] M = rV M' ∧ WS P' 0 nm o M' ∧ Fr [40] M M' ∧ ∀ j, j ≠ 10 → j ≠ 11 → M'.1 40 j = M.1 40 j := by
  obtain ⟨d, rfl⟩ := ex_add hd
  rw [q_268, wr_e, wr_e]
  generalize hM1 : sI (sI M 40 _) 40 _ = M1
  have f1 : Fr [40] M M1 := by rw [← hM1]; exact (Fr.sI (by decide)).trans (Fr.sI (by decide))
  have a40 : M1.1 40 = va_up (va_up (M.1 40) 10 (jn P')) 11 (jn 0) := by rw [← hM1]; rfl
  clear hM1
  refine ⟨M1, rfl, ⟨?_, ?_, ?_, ⟨?_, ?_, h4.2.2⟩, by omega⟩, f1, fun j j1 j2 => ?_⟩
  · rw [a40, up_at, if_neg (by omega), up_at, if_pos rfl]
  · rw [a40, up_at, if_pos rfl]
  · rw [a40, up_at, if_neg (by omega), up_at, if_neg (by omega)]; exact h3
  · rw [f1.1 46 (by decide)]; exact h4.1
  · rw [a40, up_at, if_neg (by omega), up_at, if_neg (by omega)]; exact h4.2.1
  · rw [a40, up_at, if_neg j2, up_at, if_neg j1]
end
