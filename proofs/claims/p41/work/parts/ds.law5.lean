/-! rows of the law: calls that write the world; what the world is asked; its own row of numbers -/
abbrev WL (g : GQ) (ad : Nat → Nat) (M : PM) : va_W := wld g.2.2.1 g.2.2.2.1 ad laz M
section
variable {p : Program} {l : Launch} {e : Env} {R : Room} {s : State} {m : MethodId} {args : Array Value} {below : List Frame} {meth : Method} {c : Code} {cells slots : Nat} {Q : State → Prop}
variable {cc : ByteArray} {nL pc : Nat} {ls : Array Slot} {rest st0 : List Value} {g : GQ} {U : Nat} {A Z : Nat → Prop} {WO : va_W} {RO : List RoE} {BL : List (Nat × List Int32)} {H : Heap} {locs : List Loc}
/-- the owned world's own part -/
theorem LB.part {wc wr : va_W} (h : LB g s A Z (wc ++ wr) RO H locs) : va_P g.1 vwCl wc H ∧ va_D A wc ∧ ∀ q, va_A wc H.size q → A q := by
  obtain ⟨hP, hD, hS, hRo, hK, hZ, hA⟩ := h
  refine ⟨fun k q hk => ?_, ⟨fun i j x y hx hy he => ?_, fun k q hk => ?_⟩, ?_⟩
  · obtain ⟨k', hk'⟩ := app_l (ws' := wr) k q hk
    exact hP k' q hk'
  · exact hD.1 i j x y (by rw [List.getElem?_append_left (List.getElem?_eq_some_iff.mp hx).1]; exact hx) (by rw [List.getElem?_append_left (List.getElem?_eq_some_iff.mp hy).1]; exact hy) he
  · obtain ⟨k', hk'⟩ := app_l (ws' := wr) k q hk
    exact hD.2 k' q hk'
  · rintro q (⟨k, e9, z⟩ | z)
    · obtain ⟨k', z'⟩ := app_l (ws' := wr) k _ z
      exact hD.2 k' (q, e9) z'
    · exact hA q (Nat.le_trans hS.1 z)
theorem LB.prl {X : Prop} {ROc : List RoE} {wc wr : va_W} {V : State} (h : LB g s A Z (wc ++ wr) RO H locs) (hro : ∀ x ∈ ROc, x ∈ RO) (hX : X) (hV : V.heap = H) (hW : s.WarmedH V.vm) : PrL g H.size ROc (Av Z wr) wc X V := by
  obtain ⟨qP, qD, -⟩ := h.part
  obtain ⟨hP, hD, hS, hRo, hK, hZ, hA⟩ := h
  have nr : ∀ a, Av (Av Z wr) wc a → Av Z (wc ++ wr) a := by
    rintro a ((z | ⟨k, e9, z⟩) | ⟨k, e9, z⟩)
    · exact Or.inl z
    · obtain ⟨k', z'⟩ := app_r (ws := wc) k _ z
      exact Or.inr ⟨k', e9, z'⟩
    · obtain ⟨k', z'⟩ := app_l (ws' := wr) k _ z
      exact Or.inr ⟨k', e9, z'⟩
  refine ⟨⟨by rw [hV], ?_, by rw [hV]; exact qP, qD.weaken (fun _ _ _ _ => trivial), hX⟩, ?_, ?_⟩
  · rintro q (z | ⟨k, e9, z⟩)
    · exact Nat.lt_of_lt_of_le (hZ q z) hS.1
    · obtain ⟨k', z'⟩ := app_r (ws := wc) k _ z
      exact va_lt hP z'
  · rw [hV]
    exact fun x hx => ((hRo x (hro x hx)).re (re_rf nr)).moved hW.alike
  · rw [hV]
    exact (hK.re (re_rf nr)).warm hW
variable {y : MethodName} {bytes : ByteArray} {mL n ix mc ms : Nat} {rm : Room} {As : List Value} {ROc : List RoE} {X : Prop}
theorem lq_callW (S : CallFix p m c cc nL s args TW RL) (hls : ls.size = nL) (h : LQ g U s A Z WO RO BL H locs) {post : Int32 → va_W → Prop} (hM : MetW l g y bytes mL rm mc ms As ROc WO X post) (hro : ∀ x ∈ ROc, x ∈ RO) (hX : X) (cw : CallB R s args RL ix y bytes mL (some .boolean) (wD y bytes mL (some .boolean)) rm mc ms n ∧ (Cond.static y).before args s = true) (hn : As.length = n) (hst : st0 = As.reverse ++ rest) (hW : (rest.map fun v => v.category).sum ≤ 8) (hd : decode cc pc = .ok (.invokestatic ix, 3)) (hf : cells + mc ≤ R.cells ∧ slots + ms ≤ R.slots)
    (kk : ∀ (r : Int32) (W1 : va_W) (H1 : Heap) (locs1 : List Loc), post r W1 → LQ g U s A Z W1 RO BL H1 locs1 → W p l e R s m args below meth c H1 locs1 (cells + mc) (slots + ms) Q (F0 m (pc + 3) ls (.int r :: rest))) : W p l e R s m args below meth c H locs cells slots Q (F0 m pc ls st0) := by
  obtain ⟨bl, hkey, hok, hB0⟩ := h
  have hB1 := hB0.swap
  obtain ⟨-, -, hFc⟩ := hB1.part
  refine va_calli (va_runS (As := As) (rest := rest) S (hM H.size (Av Z (bw g.2.1 bl))) cw ⟨prl_blind, fun V hV hW => ⟨rfl, hB1.prl hro hX hV hW⟩⟩ rfl hn hls hst (lv_room hW) hd hf) hB1.2.2.1 (fun q _ h => hFc q h) hFc (fun r W1 t9 H1 locs1 ht hvm hw hB hz1 hk1 hS1 => ?_)
  obtain ⟨hP1, hD1⟩ := hB
  rw [ht] at hP1
  obtain ⟨h1, -⟩ := LB.eff hB1 hz1 hk1 hP1 hD1 hS1
  exact kk r W1 H1 locs1 hw ⟨bl, hkey, hok, h1.swap⟩
theorem lq_callX (S : CallFix p m c cc nL s args TW RL) (hls : ls.size = nL) (h : LQ g U s A Z WO RO BL H locs) {post : List Int32 → va_W → Prop} (hM : MetX l g y bytes mL rm mc ms As ROc WO X post) (hro : ∀ x ∈ ROc, x ∈ RO) (hX : X) (cw : CallB R s args RL ix y bytes mL (some (.object "java/lang/String")) (wD y bytes mL (some (.object "java/lang/String"))) rm mc ms n ∧ (Cond.static y).before args s = true) (hn : As.length = n) (hst : st0 = As.reverse ++ rest) (hW : (rest.map fun v => v.category).sum ≤ 8) (hd : decode cc pc = .ok (.invokestatic ix, 3)) (hf : cells + mc ≤ R.cells ∧ slots + ms ≤ R.slots)
    (kk : ∀ (ra rb : Nat) (tx : List Int32) (W1 : va_W) (H1 : Heap) (locs1 : List Loc), post tx W1 → LQ g U s A Z W1 (RO ++ [.inl (ra, rb, tx)]) BL H1 locs1 → W p l e R s m args below meth c H1 locs1 (cells + mc) (slots + ms) Q (F0 m (pc + 3) ls (.ref ra :: rest))) : W p l e R s m args below meth c H locs cells slots Q (F0 m pc ls st0) := by
  obtain ⟨bl, hkey, hok, hB0⟩ := h
  have hB1 := hB0.swap
  obtain ⟨-, -, hFc⟩ := hB1.part
  refine va_callr (va_runS (As := As) (rest := rest) S (hM H.size (Av Z (bw g.2.1 bl))) cw ⟨prl_blind, fun V hV hW => ⟨rfl, hB1.prl hro hX hV hW⟩⟩ rfl hn hls hst (lv_room hW) hd hf) hB1.2.2.1 (fun q _ h => hFc q h) hFc (fun w ra t9 H1 locs1 ht hvm hw hB hz1 hk1 hS1 => ?_)
  obtain ⟨hq, hP1, hD1⟩ := hB
  rw [ht] at hP1 hq
  obtain ⟨h1, -⟩ := LB.eff hB1 hz1 hk1 hP1 hD1 hS1
  refine kk ra w.1 w.2.1 w.2.2 H1 locs1 hw ⟨bl, hkey, hok, LB.read h1.swap ((hq.moved hvm.symm).re (re_rf ?_))⟩
  rintro a (z | ⟨k, e9, z⟩)
  · exact Or.inl (Or.inl z)
  · rcases app_or z with ⟨j, z⟩ | ⟨j, z⟩
    · exact Or.inl (Or.inr ⟨j, e9, z⟩)
    · exact Or.inr ⟨j, e9, z⟩
theorem w_good {mt : MT} (hm : MtP nmF TW mt) : GoodIn TW (wsM TW mt) := call_good tkz hm
/-- one of the system's own is asked -/
theorem lq_ask (S : CallFix p m c cc nL s args TW RL) (hls : ls.size = nL) {ad : Nat → Nat} {M M1 : PM} (h : LQ g U s A Z (WL g ad M) RO BL H locs) {mt : MT} {d id : Nat} {vs : List Value} {r : Int32} (hG : GG id = some mt) (hid : 3 ≤ id) (h16 : mt.2.2.2.2.2.1 = false) (hcl : mt.2.1.cls = RX10) (hna : mt.2.2.2.2.2.2.1 = vs.length) (hlk : Jvm.Cond.methodLink RL ix mt.2.1 ∈ TW) (hp : pcl GG laz d id (.ref 0 :: vs) M = rI r M1) (hR : d + 1 ≤ R.frames ∧ 41 * d + 50 ≤ R.locals ∧ cells ≤ R.cells ∧ slots ≤ R.slots) (hst : st0 = (vs.map (up ad)).reverse ++ (.ref (ad 0) :: rest)) (hW : (rest.map fun v => v.category).sum ≤ 8) (hd : decode cc pc = .ok (.invokevirtual ix, 3))
    (kk : ∀ (H1 : Heap) (locs1 : List Loc), LQ g U s A Z (WL g ad M1) RO BL H1 locs1 → W p l e R s m args below meth c H1 locs1 cells slots Q (F0 m (pc + 3) ls (.int r :: rest))) : W p l e R s m args below meth c H locs cells slots Q (F0 m pc ls st0) := by
  have hts := S.2.2.2.2
  obtain ⟨bl, hkey, hok, hB0⟩ := h
  have hB1 := hB0.swap
  obtain ⟨hPc, hDc, hFc⟩ := hB1.part
  have hm := (tkz.2.2.2.2.2.2 _ _ hG).1
  have hsw := hm.2.2.2.2.2.2
  rw [if_neg (by rw [h16]; simp)] at hsw
  have hlay : laz[0]? = some (.inl (10, [4, 11, 9, 18, 22, 24, 27, 29, 32, 43, 51, 54, 1, 0])) := rfl
  have hrecv := va_recv (q0 := 0) hB0.2.2.2.2.1.2.2.2.1 hPc (ci := 10) rfl (by rw [wld_get hlay]; unfold cel; rw [hlay])
  have hd0 : d ≠ 0 := by rintro rfl; rw [pcl_0] at hp; cases hp
  have hmet := met_alz l g.1 g.2.2.1 g.2.2.2.1 d id mt (.ref 0 :: vs) M _ hid hG hp ad H.size
  have hkz := hB0.2.2.2.2.1
  have hRm : (rmm d).frames + 1 ≤ R.frames ∧ 8 + (mt.2.2.2.1 + 11) + (rmm d).locals ≤ R.locals := by
    have h22 := hm.2.2.2.1
    unfold rmm
    constructor
    · show d - 1 + 1 ≤ R.frames; omega
    · show 8 + (mt.2.2.2.1 + 11) + 41 * (d - 1) ≤ R.locals; omega
  refine va_calli (va_runV (C := mt.2.1.cls) (As := vs.map (up ad)) (rest := rest) S hmet (cwV mt.2.2.2.2.2.2.1 hts (goodIn_app' (by
      intro w hw
      rcases List.mem_cons.mp hw with rfl | hw
      · exact ⟨hlk, good_of_word (TW_good _ hlk)⟩
      rcases List.mem_cons.mp hw with rfl | hw
      · exact ⟨hsw.1, good_of_word (TW_good _ hsw.1)⟩
      rcases List.mem_cons.mp hw with rfl | hw
      · exact ⟨hsw.2, good_of_word (TW_good _ hsw.2)⟩
      rcases List.mem_cons.mp hw with rfl | hw
      · exact ⟨hm.2.2.2.2.2.1, good_of_word (TW_good _ hm.2.2.2.2.2.1)⟩
      · cases hw) (w_good hm)) rfl rfl rfl ⟨rfl, hm.2.2.1⟩ hRm) ⟨call_blind (vs := .ref 0 :: vs), by rw [hcl]; exact hrecv, fun V hV hW => ⟨rfl, ⟨by rw [hV], by rw [hV]; exact hPc, va_K.moved hW.alike hkz.2.2.2.1, hDc.weaken (fun _ _ _ _ => trivial), fun q hq => va_Nw.warmM hW (hkz.2.2.2.2.1 q hq), fun q hq => va_Nw.warmF hW (hkz.2.2.2.2.2 q hq)⟩⟩⟩ rfl (by rw [List.length_map, hna]) hls hst (lv_room hW) hd ⟨hR.2.2.1, hR.2.2.2⟩) hB1.2.2.1 (fun q _ h => hFc q h) hFc (fun r9 u9 t9 H1 locs1 ht hvm hw hB hz1 hk1 hS1 => ?_)
  obtain ⟨rfl, rfl⟩ := hw
  obtain ⟨hP1, -, hD1⟩ := hB
  rw [ht] at hP1
  obtain ⟨h1, -⟩ := LB.eff hB1 hz1 hk1 hP1 hD1 hS1
  exact kk H1 locs1 ⟨bl, hkey, hok, h1.swap⟩
/-- one of the law's own that writes numbers alone -/
theorem lq_askS (S : CallFix p m c cc nL s args TW RL) (hls : ls.size = nL) {ad : Nat → Nat} {M M1 : PM} (h : LQ g U s A Z (WL g ad M) RO BL H locs) {mt : MT} {d id : Nat} {vs : List Value} {r : Int32} (hG : GG id = some mt) (hid : 3 ≤ id) (h16 : mt.2.2.2.2.2.1 = true) (hna : mt.2.2.2.2.2.2.1 = vs.length) (hlk : Jvm.Cond.methodLink RL ix mt.2.1 ∈ TW) (hp : pcl GG laz d id vs M = rI r M1) (hR : d + 1 ≤ R.frames ∧ 41 * d + 50 ≤ R.locals ∧ cells ≤ R.cells ∧ slots ≤ R.slots) (hst : st0 = (vs.map (up ad)).reverse ++ rest) (hW : (rest.map fun v => v.category).sum ≤ 8) (hd : decode cc pc = .ok (.invokestatic ix, 3))
    (kk : ∀ (H1 : Heap) (locs1 : List Loc), LQ g U s A Z (WL g ad M1) RO BL H1 locs1 → W p l e R s m args below meth c H1 locs1 cells slots Q (F0 m (pc + 3) ls (.int r :: rest))) : W p l e R s m args below meth c H locs cells slots Q (F0 m pc ls st0) := by
  have hts := S.2.2.2.2
  obtain ⟨bl, hkey, hok, hB0⟩ := h
  have hB1 := hB0.swap
  obtain ⟨hPc, hDc, hFc⟩ := hB1.part
  have hm := (tkz.2.2.2.2.2.2 _ _ hG).1
  have hsw := hm.2.2.2.2.2.2
  rw [if_pos h16] at hsw
  have hd0 : d ≠ 0 := by rintro rfl; rw [pcl_0] at hp; cases hp
  have hmet := met_alz l g.1 g.2.2.1 g.2.2.2.1 d id mt vs M _ hid hG hp ad H.size
  have hkz := hB0.2.2.2.2.1
  have hRm : (rmm d).frames + 1 ≤ R.frames ∧ 8 + (mt.2.2.2.1 + 11) + (rmm d).locals ≤ R.locals := by
    have h22 := hm.2.2.2.1
    unfold rmm
    constructor
    · show d - 1 + 1 ≤ R.frames; omega
    · show 8 + (mt.2.2.2.1 + 11) + 41 * (d - 1) ≤ R.locals; omega
  refine va_calli (va_runS (As := vs.map (up ad)) (rest := rest) S hmet (va_cwS mt.2.2.2.2.2.2.1 hts (goodIn_app' (by
      intro w hw
      rcases List.mem_cons.mp hw with rfl | hw
      · exact ⟨hlk, good_of_word (TW_good _ hlk)⟩
      rcases List.mem_cons.mp hw with rfl | hw
      · exact ⟨hsw, good_of_word (TW_good _ hsw)⟩
      rcases List.mem_cons.mp hw with rfl | hw
      · exact ⟨hm.2.2.2.2.2.1, good_of_word (TW_good _ hm.2.2.2.2.2.1)⟩
      · cases hw) (w_good hm)) rfl rfl rfl hm.2.2.1 hRm) ⟨call_blind (vs := vs), fun V hV hW => ⟨rfl, ⟨by rw [hV], by rw [hV]; exact hPc, va_K.moved hW.alike hkz.2.2.2.1, hDc.weaken (fun _ _ _ _ => trivial), fun q hq => va_Nw.warmM hW (hkz.2.2.2.2.1 q hq), fun q hq => va_Nw.warmF hW (hkz.2.2.2.2.2 q hq)⟩⟩⟩ rfl (by rw [List.length_map, hna]) hls hst (lv_room hW) hd ⟨hR.2.2.1, hR.2.2.2⟩) hB1.2.2.1 (fun q _ h => hFc q h) hFc (fun r9 u9 t9 H1 locs1 ht hvm hw hB hz1 hk1 hS1 => ?_)
  obtain ⟨rfl, rfl⟩ := hw
  obtain ⟨hP1, -, hD1⟩ := hB
  rw [ht] at hP1
  obtain ⟨h1, -⟩ := LB.eff hB1 hz1 hk1 hP1 hD1 hS1
  exact kk H1 locs1 ⟨bl, hkey, hok, h1.swap⟩
/-- the row of 80 numbers is read, and written -/
theorem lq_bld (S : CallFix p m c cc nL s args TW RL) {ad : Nat → Nat} {M : PM} (h : LQ g U s A Z (WL g ad M) RO [] H locs) {j : Nat} (hj : j < 80) (hd : decode cc pc = .ok (.iaload, 1))
    (kk : W p l e R s m args below meth c H locs cells slots Q (F0 m (pc + 1) ls (.int (M.1 52 j) :: rest))) : W p l e R s m args below meth c H locs cells slots Q (F0 m pc ls (.int (jn j) :: .ref (ad 52) :: rest)) := by
  obtain ⟨hx, hb, hml, hown, hts⟩ := S
  obtain ⟨bl, hkey, hok, hP, hD, hS, hRo, hK, hZ, hA⟩ := h
  cases bl with
  | cons x bl => cases hkey
  | nil =>
    have hlay : laz[52]? = some (.inr (false, 80)) := rfl
    have hP : va_P g.1 vwCl (WL g ad M) H := hP
    refine va_iald hx hb hK.2.2.2.1 hP 52 0 (by rw [wld_get hlay]; unfold cel; rw [hlay]) rfl (vin_j hj (by omega)) hd ?_
    rw [jn_clamp (by omega)]
    exact kk
theorem iastP {D : va_G} {cl : List vw_C} {tys : List (ClassId × FieldType)} {ws : va_W} {a : Nat} (hexec : p.tables.exec = Jvm.exec) (hb : c.code = cc) (hK : va_K D cl tys s) (hP : va_P D cl ws H) (hD : va_D A ws) (q0 t0 : Nat) {cA : ClassId} {n : Nat} {f : Nat → Int32} (ha : ws[q0]? = some (a, .inl (cA, n, .inl f))) (ht : tys[t0]? = some (cA, .int)) {i : Int32} {x : Int32} (hin : vp_in i n) (hdg : decode cc pc = .ok (.iastore, 1))
    (kk : ∀ H1 : Heap, va_P D cl (ws.set q0 (a, .inl (cA, n, .inl (upd f i.toNatClampNeg x)))) H1 → H1.size = H.size → (∀ q : Nat, q ≠ a → H1[q]? = H[q]?) → W p l e R s m args below meth c H1 (locs ++ [⟨a, i.toNatClampNeg⟩]) cells slots Q (F0 m (pc + 1) ls rest)) : W p l e R s m args below meth c H locs cells slots Q (F0 m pc ls (.int x :: .int i :: .ref a :: rest)) := by
  refine W.iast hexec hb (hP q0 _ ha) ((hK.2 t0 _ ht).1 n (fun j => .int (f j))) (fun q => by cases q) (by show ¬ (i < 0 ∨ (arrV _ _ _).slots.size ≤ _); rw [arrV_size]; exact hin) rfl rfl hdg fun H1 e1 z oq => ?_
  refine kk H1 (hP.set hD ha ?_ oq) z oq
  show H1[a]? = some (vp_cell _ _)
  rw [e1]
  rw [vp_cell_i, vp_cell_i, arrV_store]
  congr 2
  funext q
  by_cases hq : q = i.toNatClampNeg
  · subst hq
    simp [updV, upd]
  · simp [updV, upd, hq]
theorem lq_bst (S : CallFix p m c cc nL s args TW RL) {ad : Nat → Nat} {M : PM} (h : LQ g U s A Z (WL g ad M) RO [] H locs) {j : Nat} {x : Int32} (hj : j < 80) (hd : decode cc pc = .ok (.iastore, 1))
    (kk : ∀ (H1 : Heap) (locs1 : List Loc), LQ g U s A Z (WL g ad (sI M 52 (va_up (M.1 52) j x))) RO [] H1 locs1 → W p l e R s m args below meth c H1 locs1 cells slots Q (F0 m (pc + 1) ls rest)) : W p l e R s m args below meth c H locs cells slots Q (F0 m pc ls (.int x :: .int (jn j) :: .ref (ad 52) :: rest)) := by
  obtain ⟨hx, hb, hml, hown, hts⟩ := S
  obtain ⟨bl, hkey, hok, hB0⟩ := h
  cases bl with
  | cons x bl => cases hkey
  | nil =>
    have hB0 : LB g s A Z (WL g ad M ++ []) RO H locs := by rw [List.append_nil]; exact hB0
    obtain ⟨hPc, hDc, hFc⟩ := hB0.part
    have hlay : laz[52]? = some (.inr (false, 80)) := rfl
    have ha : (WL g ad M)[52]? = some (ad 52, .inl (g.2.2.1, 80, .inl (M.1 52))) := by rw [wld_get hlay]; unfold cel; rw [hlay]
    refine iastP hx hb hB0.2.2.2.2.1.2.2.2.1 hPc hDc 52 0 ha rfl (vin_j hj (by omega)) hd (fun H1 hP1 z1 oq => ?_)
    have hset := wld_set (cI := g.2.2.1) (cL := g.2.2.2.1) (ad := ad) (lay := laz) (M := M) (M' := sI M 52 (va_up (M.1 52) (jn j).toNatClampNeg x)) (k := 52) (e := .inl (g.2.2.1, 80, .inl (upd (M.1 52) (jn j).toNatClampNeg x))) (by unfold cel; rw [hlay]; simp [sI]; rfl) cel_sI
    have hD1 := (hDc.self (sz := H.size)).set (e := .inl (g.2.2.1, 80, .inl (upd (M.1 52) (jn j).toNatClampNeg x))) ha
    rw [hset, jn_clamp (by omega)] at hP1 hD1
    obtain ⟨h1, -⟩ := LB.eff hB0 (Nat.le_of_eq z1.symm) (fun q hq hn => oq q (fun e9 => hn (by subst e9; exact Or.inl ⟨52, _, ha⟩))) hP1 hD1 (hB0.2.2.1.put z1 oq (hDc.2 52 _ ha))
    rw [List.append_nil] at h1
    exact kk H1 _ ⟨[], rfl, fun x hx => (by cases hx), h1⟩
end
