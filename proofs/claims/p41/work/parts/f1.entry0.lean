/-! rows of the law's entry (laid by wip/p41/gen/con5.py) -/
theorem kn_of {args : Array Value} {s : State} {tm : Term} {t : List Int32} {A : Nat → Prop} (hN : t.length < 2 ^ 31) (hex : (Cond.exactly tm "java/lang/String").before args s = true) (hco : (Cond.eq (.field tm "java/lang/String" "coder" "B") (.int 0)).before args s = true) (har : (Cond.arrayOf (.field tm "java/lang/String" "value" "[B") .byte).before args s = true) (hle : (Cond.eq (.length (.field tm "java/lang/String" "value" "[B")) (.int (Int32.ofNat t.length))).before args s = true)
    (hel : ∀ j : Nat, j < t.length → (Cond.eq (.elem (.field tm "java/lang/String" "value" "[B") (.int (Int32.ofNat j))) (.int (bt t j))).before args s = true) (hA : ∀ a : Nat, a < s.heap.size → ¬ A a) : ∃ a b : Nat, tm.eval args s none [] s = some (.ref a) ∧ Sf a b t A s s.heap := by
  obtain ⟨a, c, cA, kA, q1, q2, q3, q4, q5, q6, -⟩ := Cond.exactly_spec (args := args) (first := s) (o := none) (s := s) (idx := []) (t := tm) (cls := "java/lang/String") hex
  obtain ⟨b, ht, hT⟩ := va_Tof (f := fun j => .int (bt t j)) (A := A) hN har (va_eqt hle) (fun j hj => va_eqt (hel j hj)) hA
  exact ⟨a, b, q1, ⟨cA, q3, q5, by rw [q6]; exact q2, hA a (lt_get q3)⟩, vk_OFof q1 (va_eqt hco) hA, vk_OFof q1 ht hA, hT⟩
/-- what the Statement says of a constant of the law's -/
def kcs (q : Nat × String × List Int32) : List Jvm.Cond := [.exactly (.string RL q.1) "java/lang/String", .eq (.field (.string RL q.1) "java/lang/String" "coder" "B") (.int 0), .arrayOf (.field (.string RL q.1) "java/lang/String" "value" "[B") .byte, .eq (.length (.field (.string RL q.1) "java/lang/String" "value" "[B")) (.int (Int32.ofNat q.2.2.length))] ++ (List.range q.2.2.length).map (fun j => .eq (.elem (.field (.string RL q.1) "java/lang/String" "value" "[B") (.int (Int32.ofNat j))) (.int (bt q.2.2 j)))
abbrev XFl9 : Jvm.Cond := Jvm.Cond.and given_1 narrow_1
theorem kin {L : List Jvm.Cond} {c : Jvm.Cond} {n m : Nat} (h : c ∈ (L.drop n).take m) : c ∈ L := List.mem_of_mem_drop (List.mem_of_mem_take h)
theorem kcs_42 : kcs (42, "(", [40]) = ((flatC XFl9).drop 231).take 5 := rfl
theorem kcs_54 : kcs (54, "", []) = ((flatC XFl9).drop 25).take 4 := rfl
theorem kcs_56 : kcs (56, ",", [44]) = ((flatC XFl9).drop 236).take 5 := rfl
theorem kcs_62 : kcs (62, ")", [41]) = ((flatC XFl9).drop 241).take 5 := rfl
theorem kcs_67 : kcs (67, "abuv", [97, 98, 117, 118]) = ((flatC XFl9).drop 187).take 8 := rfl
theorem kcs_69 : kcs (69, "e", [101]) = ((flatC XFl9).drop 195).take 5 := rfl
theorem kcs_71 : kcs (71, "f", [102]) = ((flatC XFl9).drop 200).take 5 := rfl
theorem kcs_77 : kcs (77, "j", [106]) = ((flatC XFl9).drop 205).take 5 := rfl
theorem kcs_79 : kcs (79, "i", [105]) = ((flatC XFl9).drop 210).take 5 := rfl
theorem kcs_81 : kcs (81, "iuv>ivu", [105, 117, 118, 62, 105, 118, 117]) = ((flatC XFl9).drop 29).take 11 := rfl
theorem kcs_83 : kcs (83, "iau>u", [105, 97, 117, 62, 117]) = ((flatC XFl9).drop 40).take 9 := rfl
theorem kcs_85 : kcs (85, "eiuv>ieuev", [101, 105, 117, 118, 62, 105, 101, 117, 101, 118]) = ((flatC XFl9).drop 49).take 14 := rfl
theorem kcs_87 : kcs (87, "iiuvw>iuivw", [105, 105, 117, 118, 119, 62, 105, 117, 105, 118, 119]) = ((flatC XFl9).drop 63).take 15 := rfl
theorem kcs_89 : kcs (89, "fa>a", [102, 97, 62, 97]) = ((flatC XFl9).drop 78).take 8 := rfl
theorem kcs_91 : kcs (91, "jeuv>ejuv", [106, 101, 117, 118, 62, 101, 106, 117, 118]) = ((flatC XFl9).drop 86).take 13 := rfl
theorem kcs_93 : kcs (93, "a>b", [97, 62, 98]) = ((flatC XFl9).drop 99).take 7 := rfl
theorem kcs_95 : kcs (95, "iuu>u", [105, 117, 117, 62, 117]) = ((flatC XFl9).drop 106).take 9 := rfl
theorem kcs_97 : kcs (97, "eeu>eu", [101, 101, 117, 62, 101, 117]) = ((flatC XFl9).drop 115).take 10 := rfl
theorem kcs_99 : kcs (99, "juv>iuv", [106, 117, 118, 62, 105, 117, 118]) = ((flatC XFl9).drop 125).take 11 := rfl
theorem kcs_101 : kcs (101, "eu>ieuu", [101, 117, 62, 105, 101, 117, 117]) = ((flatC XFl9).drop 136).take 11 := rfl
theorem kcs_103 : kcs (103, "iuivw>iiuvw", [105, 117, 105, 118, 119, 62, 105, 105, 117, 118, 119]) = ((flatC XFl9).drop 147).take 15 := rfl
theorem kcs_105 : kcs (105, "fu>u", [102, 117, 62, 117]) = ((flatC XFl9).drop 162).take 8 := rfl
theorem kcs_107 : kcs (107, "jiuvw>ijuwjvw", [106, 105, 117, 118, 119, 62, 105, 106, 117, 119, 106, 118, 119]) = ((flatC XFl9).drop 170).take 17 := rfl
theorem kcs_116 : kcs (116, ">", [62]) = ((flatC XFl9).drop 215).take 5 := rfl
theorem kcs_154 : kcs (154, "!", [33]) = ((flatC XFl9).drop 246).take 5 := rfl
theorem kcs_156 : kcs (156, ";", [59]) = ((flatC XFl9).drop 251).take 5 := rfl
theorem kcs_158 : kcs (158, "eiau", [101, 105, 97, 117]) = ((flatC XFl9).drop 256).take 8 := rfl
theorem kcs_203 : kcs (203, "|", [124]) = ((flatC XFl9).drop 264).take 5 := rfl
theorem kcs_all : ∀ q ∈ Kt, ∀ c ∈ kcs q, c ∈ flatC XFl9 := by
  unfold Kt
  exact (List.forall_mem_cons.mpr ⟨fun c hc => kin (n := 231) (m := 5) (by rw [← kcs_42]; exact hc), (List.forall_mem_cons.mpr ⟨fun c hc => kin (n := 25) (m := 4) (by rw [← kcs_54]; exact hc), (List.forall_mem_cons.mpr ⟨fun c hc => kin (n := 236) (m := 5) (by rw [← kcs_56]; exact hc), (List.forall_mem_cons.mpr ⟨fun c hc => kin (n := 241) (m := 5) (by rw [← kcs_62]; exact hc), (List.forall_mem_cons.mpr ⟨fun c hc => kin (n := 187) (m := 8) (by rw [← kcs_67]; exact hc), (List.forall_mem_cons.mpr ⟨fun c hc => kin (n := 195) (m := 5) (by rw [← kcs_69]; exact hc), (List.forall_mem_cons.mpr ⟨fun c hc => kin (n := 200) (m := 5) (by rw [← kcs_71]; exact hc), (List.forall_mem_cons.mpr ⟨fun c hc => kin (n := 205) (m := 5) (by rw [← kcs_77]; exact hc), (List.forall_mem_cons.mpr ⟨fun c hc => kin (n := 210) (m := 5) (by rw [← kcs_79]; exact hc), (List.forall_mem_cons.mpr ⟨fun c hc => kin (n := 29) (m := 11) (by rw [← kcs_81]; exact hc), (List.forall_mem_cons.mpr ⟨fun c hc => kin (n := 40) (m := 9) (by rw [← kcs_83]; exact hc), (List.forall_mem_cons.mpr ⟨fun c hc => kin (n := 49) (m := 14) (by rw [← kcs_85]; exact hc), (List.forall_mem_cons.mpr ⟨fun c hc => kin (n := 63) (m := 15) (by rw [← kcs_87]; exact hc), (List.forall_mem_cons.mpr ⟨fun c hc => kin (n := 78) (m := 8) (by rw [← kcs_89]; exact hc), (List.forall_mem_cons.mpr ⟨fun c hc => kin (n := 86) (m := 13) (by rw [← kcs_91]; exact hc), (List.forall_mem_cons.mpr ⟨fun c hc => kin (n := 99) (m := 7) (by rw [← kcs_93]; exact hc), (List.forall_mem_cons.mpr ⟨fun c hc => kin (n := 106) (m := 9) (by rw [← kcs_95]; exact hc), (List.forall_mem_cons.mpr ⟨fun c hc => kin (n := 115) (m := 10) (by rw [← kcs_97]; exact hc), (List.forall_mem_cons.mpr ⟨fun c hc => kin (n := 125) (m := 11) (by rw [← kcs_99]; exact hc), (List.forall_mem_cons.mpr ⟨fun c hc => kin (n := 136) (m := 11) (by rw [← kcs_101]; exact hc), (List.forall_mem_cons.mpr ⟨fun c hc => kin (n := 147) (m := 15) (by rw [← kcs_103]; exact hc), (List.forall_mem_cons.mpr ⟨fun c hc => kin (n := 162) (m := 8) (by rw [← kcs_105]; exact hc), (List.forall_mem_cons.mpr ⟨fun c hc => kin (n := 170) (m := 17) (by rw [← kcs_107]; exact hc), (List.forall_mem_cons.mpr ⟨fun c hc => kin (n := 215) (m := 5) (by rw [← kcs_116]; exact hc), (List.forall_mem_cons.mpr ⟨fun c hc => kin (n := 246) (m := 5) (by rw [← kcs_154]; exact hc), (List.forall_mem_cons.mpr ⟨fun c hc => kin (n := 251) (m := 5) (by rw [← kcs_156]; exact hc), (List.forall_mem_cons.mpr ⟨fun c hc => kin (n := 256) (m := 8) (by rw [← kcs_158]; exact hc), (List.forall_mem_cons.mpr ⟨fun c hc => kin (n := 264) (m := 5) (by rw [← kcs_203]; exact hc), (fun _ h => absurd h List.not_mem_nil)⟩)⟩)⟩)⟩)⟩)⟩)⟩)⟩)⟩)⟩)⟩)⟩)⟩)⟩)⟩)⟩)⟩)⟩)⟩)⟩)⟩)⟩)⟩)⟩)⟩)⟩)⟩)⟩)
theorem kcs_tb : Kt.all (fun q => decide (Jvm.Cond.stringRef RL q.1 q.2.1 ∈ lw_tbl)) = true := by decide +kernel
theorem kcs_ln : Kt.all (fun q => decide (q.2.2.length < 2 ^ 31)) = true := by decide +kernel
theorem kq_of {args : Array Value} {s : State} {A : Nat → Prop} (hts0 : ∀ w ∈ lw_tbl, w.before args s = true) (hgv : (Jvm.Cond.and given_1 narrow_1).before args s = true) (hA : ∀ a : Nat, a < s.heap.size → ¬ A a) : ∀ q ∈ Kt, Kq q A s s.heap := by
  intro q hq
  have hs := flat_of_before _ hgv
  have h1 : ∀ c ∈ kcs q, c.before args s = true := fun c hc => hs c (kcs_all q hq c hc)
  have h2 := hts0 _ (of_decide_eq_true (List.all_eq_true.mp kcs_tb q hq))
  obtain ⟨a, b, e1, e2⟩ := kn_of (tm := .string RL q.1) (t := q.2.2) (A := A) (of_decide_eq_true (List.all_eq_true.mp kcs_ln q hq)) (h1 _ (by simp [kcs])) (h1 _ (by simp [kcs])) (h1 _ (by simp [kcs])) (h1 _ (by simp [kcs])) (fun j hj => h1 _ (by unfold kcs; exact List.mem_append_right _ (List.mem_map.mpr ⟨j, List.mem_range.mpr hj, rfl⟩))) hA
  exact ⟨a, b, vk_R.of h2 e1, e2⟩
section
variable {p : Program} {l : Launch} {e : Env} {R : Room} {s : State} {m : MethodId} {args : Array Value} {below : List Frame} {meth : Method} {c : Code} {cells slots : Nat} {Q : State → Prop}
variable {cc : ByteArray} {nL pc ix : Nat} {ls : Array Slot} {rest st0 : List Value} {g : GQ} {U : Nat} {A Z : Nat → Prop} {WO : va_W} {RO : List RoE} {BL : List (Nat × List Int32)} {H : Heap} {locs : List Loc}
/-- a new object is asked -/
theorem lq_ask0 (S : CallFix p m c cc nL s args TW RL) (hls : ls.size = nL) {ad : Nat → Nat} {M M1 : PM} (h : LQ g U s A Z (wld g.2.2.1 g.2.2.2.1 ad lay M) RO BL H locs) {mt : MT} {d id : Nat} {vs : List Value} {r : Int32} (hG : GG id = some mt) (hid : 3 ≤ id) (h16 : mt.2.2.2.2.2.1 = false) (hcl : mt.2.1.cls = RX10) (hna : mt.2.2.2.2.2.2.1 = vs.length) (hlk : Jvm.Cond.methodLink RL ix mt.2.1 ∈ TW) (hp : pcl GG lay d id (.ref 0 :: vs) M = rI r M1) (hR : d + 1 ≤ R.frames ∧ 41 * d + 50 ≤ R.locals ∧ cells ≤ R.cells ∧ slots ≤ R.slots) (hst : st0 = (vs.map (up ad)).reverse ++ (.ref (ad 0) :: rest)) (hW : (rest.map fun v => v.category).sum ≤ 8) (hd : decode cc pc = .ok (.invokevirtual ix, 3))
    (kk : ∀ (H1 : Heap) (locs1 : List Loc), LQ g U s A Z (wld g.2.2.1 g.2.2.2.1 ad lay M1) RO BL H1 locs1 → W p l e R s m args below meth c H1 locs1 cells slots Q (F0 m (pc + 3) ls (.int r :: rest))) : W p l e R s m args below meth c H locs cells slots Q (F0 m pc ls st0) := by
  have hts := S.2.2.2.2
  obtain ⟨bl, hkey, hok, hB0⟩ := h
  have hB1 := hB0.swap
  obtain ⟨hPc, hDc, hFc⟩ := hB1.part
  have hm := (tk.2.2.2.2.2.2 _ _ hG).1
  have hsw := hm.2.2.2.2.2.2
  rw [if_neg (by rw [h16]; simp)] at hsw
  have hlay : lay[0]? = some (.inl (10, [4, 11, 9, 18, 22, 24, 27, 29, 32, 43, 51, 54, 1, 0])) := rfl
  have hrecv := va_recv (q0 := 0) hB0.2.2.2.2.1.2.2.2.1 hPc (ci := 10) rfl (by rw [wld_get hlay]; unfold cel; rw [hlay])
  have hd0 : d ≠ 0 := by rintro rfl; rw [pcl_0] at hp; cases hp
  have hmet := met_all l g.1 g.2.2.1 g.2.2.2.1 d id mt (.ref 0 :: vs) M _ hid hG hp ad H.size
  have hkz := hB0.2.2.2.2.1
  have hRm : (rmm d).frames + 1 ≤ R.frames ∧ 8 + (mt.2.2.2.1 + 11) + (rmm d).locals ≤ R.locals := by
    have h22 := hm.2.2.2.1
    unfold rmm
    constructor
    · show d - 1 + 1 ≤ R.frames; omega
    · show 8 + (mt.2.2.2.1 + 11) + 41 * (d - 1) ≤ R.locals; omega
  refine va_calli (va_runV (C := mt.2.1.cls) (As := vs.map (up ad)) (rest := rest) S hmet (cwV mt.2.2.2.2.2.2.1 hts (goodIn_app' (by
      intro w hw
      rcases List.mem_cons.mp hw with rfl | hw
      · exact ⟨hlk, good_of_word (TW_good _ hlk)⟩
      rcases List.mem_cons.mp hw with rfl | hw
      · exact ⟨hsw.1, good_of_word (TW_good _ hsw.1)⟩
      rcases List.mem_cons.mp hw with rfl | hw
      · exact ⟨hsw.2, good_of_word (TW_good _ hsw.2)⟩
      rcases List.mem_cons.mp hw with rfl | hw
      · exact ⟨hm.2.2.2.2.2.1, good_of_word (TW_good _ hm.2.2.2.2.2.1)⟩
      · cases hw) (w_good hm)) rfl rfl rfl ⟨rfl, hm.2.2.1⟩ hRm) ⟨call_blind (vs := .ref 0 :: vs), by rw [hcl]; exact hrecv, fun V hV hW => ⟨rfl, ⟨by rw [hV], by rw [hV]; exact hPc, va_K.moved hW.alike hkz.2.2.2.1, hDc.weaken (fun _ _ _ _ => trivial), fun q hq => va_Nw.warmM hW (hkz.2.2.2.2.1 q hq), fun q hq => va_Nw.warmF hW (hkz.2.2.2.2.2 q hq)⟩⟩⟩ rfl (by rw [List.length_map, hna]) hls hst (lv_room hW) hd ⟨hR.2.2.1, hR.2.2.2⟩) hB1.2.2.1 (fun q _ h => hFc q h) hFc (fun r9 u9 t9 H1 locs1 ht hvm hw hB hz1 hk1 hS1 => ?_)
  obtain ⟨rfl, rfl⟩ := hw
  obtain ⟨hP1, -, hD1⟩ := hB
  rw [ht] at hP1
  obtain ⟨h1, -⟩ := LB.eff hB1 hz1 hk1 hP1 hD1 hS1
  exact kk H1 locs1 ⟨bl, hkey, hok, h1.swap⟩
theorem LQ.gone {W1 : va_W} (h : LQ g U s A Z W1 RO [] H locs) : LQ g U s A Z [] RO [] H locs := by
  obtain ⟨bl, hkey, hok, hB0⟩ := h
  cases bl with
  | cons x bl => cases hkey
  | nil =>
    have hB0 : LB g s A Z (W1 ++ []) RO H locs := by rw [List.append_nil]; exact hB0
    exact ⟨[], rfl, fun x hx => (by cases hx), hB0.drop⟩
theorem Kz.nst {A : Nat → Prop} (h : Kz g A s H) : Nst s := ⟨h.2.2.2.2.1 (RX4, 11, yX8_init, RX10) (by decide +kernel), h.2.2.2.2.1 (RX10, 83, yX8_init, RX10) (by decide +kernel), h.2.2.2.2.2 (RX10, 21, RX7, "signs", "LTermStrategies$Signs;", RX10) (by decide +kernel), h.2.2.2.2.2 (RX4, 65, RX7, "signs", "LTermStrategies$Signs;", RX10) (by decide +kernel)⟩
set_option maxHeartbeats 4000000 in
set_option maxRecDepth 100000 in
/-- a new object -/
theorem lq_obj (S : CallFix p m c cc nL s args TW RL) (hls : ls.size = nL) (h : LQ g U s A Z [] RO [] H locs) (hR : 4 ≤ R.frames ∧ 300 ≤ R.locals ∧ cells + 52 ≤ R.cells ∧ slots + 12924 ≤ R.slots) (d1 : decode cc pc = .ok (.new 125, 3)) (d2 : decode cc (pc + 3) = .ok (.dup, 1)) (d3 : decode cc (pc + 4) = .ok (.invokespecial 287, 3))
    (kk : ∀ (ad : Nat → Nat) (H1 : Heap) (locs1 : List Loc), LQ g U s A Z (wld g.2.2.1 g.2.2.2.1 ad lay Mb) RO [] H1 locs1 → W p l e R s m args below meth c H1 locs1 (cells + 52) (slots + 12924) Q (F0 m (pc + 7) ls [.ref (ad 0)])) : W p l e R s m args below meth c H locs cells slots Q (F0 m pc ls []) := by
  obtain ⟨hx, hb, hml, hown, hts⟩ := S
  obtain ⟨bl, hkey, hok, hB0⟩ := h
  cases bl with
  | cons x bl => cases hkey
  | nil =>
  have hB0 : LB g s A Z ([] ++ []) RO H locs := hB0
  have hKz := hB0.2.2.2.2.1
  have hS := hB0.2.2.1
  have hKn := hKz.2.2.2.1.1 10 _ rfl
  refine W.newcK hx hb hown (hts (.classLink RL 125 RX10) (by decide +kernel)) (hts (.instantiable RX10 14) (by decide +kernel)) (hts (.initialized RX10) (by decide +kernel)) rfl d1 (by omega) (by omega) hKn.2.1 rfl fun H1 kC hkC e1 z1 o1 => ?_
  generalize hh0 : H.size = h0 at e1
  have hP1 : va_P g.1 vwCl [(h0, .inr (10, [.null, .null, .null, .null, .null, .null, .null, .null, .null, .null, .null, .null, .int 0, .int 0]))] H1 := by
    intro k x hx
    have hz : k < 1 := (List.getElem?_eq_some_iff.mp hx).1
    rw [show k = 0 by omega] at hx
    cases hx
    exact ⟨_, rfl, (u_born tyX10 hts uw_10 hKn hkC e1 tyX10_ok).to (fun j hj => by rcases (show j = 0 ∨ j = 1 ∨ j = 2 ∨ j = 3 ∨ j = 4 ∨ j = 5 ∨ j = 6 ∨ j = 7 ∨ j = 8 ∨ j = 9 ∨ j = 10 ∨ j = 11 ∨ j = 12 ∨ j = 13 by omega) with rfl | rfl | rfl | rfl | rfl | rfl | rfl | rfl | rfl | rfl | rfl | rfl | rfl | rfl <;> rfl)⟩
  have hS1 : va_S A s.heap H1 locs := ⟨Nat.le_trans hS.1 (by omega), fun x h1 h2 => (o1 x (by have := hS.1; omega)).trans (hS.2.1 x h1 h2), hS.2.2⟩
  obtain ⟨hB1, -⟩ := LB.eff (wc := []) (wr := []) (H1 := H1) (w1 := [(h0, .inr (10, [.null, .null, .null, .null, .null, .null, .null, .null, .null, .null, .null, .null, .int 0, .int 0]))]) hB0 (by omega) (fun q hq _ => o1 q (by omega)) hP1 (D_1 (Or.inr (by omega))) hS1
  refine lv_dup hx hb d2 rfl ?_
  obtain ⟨hPc, hDc, hFc⟩ := hB1.part
  refine va_callv (va_runI (As := []) (rest := [.ref h0]) ⟨hx, hb, hml, hown, hts⟩ (c_X10_init l g.1 g.2.2.1 g.2.2.2.1 h0 H1.size) (cwI 0 hts (g_con cw_X10) rfl rfl rfl (hts (.initialized RX10) (by decide +kernel)) (hts (.methodLink RL 287 yX10_init) (by decide +kernel)) (hts (.instanceMethod yX10_init) (by decide +kernel)) rfl (by decide +kernel) ⟨by show 3 + 1 ≤ R.frames; omega, by show 8 + (1 + 11) + 200 ≤ R.locals; omega⟩) ⟨fun a U g mk q => by obtain ⟨q0, q1, qP, qK, qD, qN⟩ := q; exact ⟨q0, q1, qP, va_K.moved (u := U) (U := U.calling g mk a) (Vm.Alike.refl U.vm) qK, qD, Nst.same rfl qN⟩, fun U hU hW => ⟨rfl, by rw [hU], by rw [hU]; exact hPc, va_K.moved hW.alike hKz.2.2.2.1, hDc.weaken (fun _ _ _ _ => trivial), Nst.warm hW hKz.nst⟩⟩ rfl rfl hls rfl (lv_room (Nat.le_of_ble_eq_true rfl)) d3 ⟨by show cells + 1 + 51 ≤ R.cells; omega, by show slots + 14 + 12910 ≤ R.slots; omega⟩) hS1 (fun q _ h => hFc q h) hFc (fun u9 t9 H2 locs2 ht hvm hw hB hz1 hk1 hS2 => ?_)
  obtain ⟨q1, q2, q3, q4, q5, q6, q7, q8, q9, q10, q11, q12, q13, q14, q15, q16, q17, q18, q19, q20, q21, q22, q23, q24, q25, q26, q27, q28, q29, q30, q31, q32, q33, q34, q35, q36, q37, q38, q39, q40, q41, q42, q43, q44, q45, q46, q47, q48, q49, q50, q51, hP2, hK2, hD2⟩ := hB
  rw [ht] at hP2
  obtain ⟨hB2, -⟩ := LB.eff hB1 hz1 hk1 hP2 hD2 hS2
  refine W.widen (k := cells + 52) (n := slots + 12924) (by omega) (by omega) (kk (fun k => ([h0, q1, q2, q3, q4, q5, q6, q7, q8, q9, q10, q11, q12, q13, q14, q15, q16, q17, q18, q19, q20, q21, q22, q23, q24, q25, q26, q27, q28, q29, q30, q31, q32, q33, q34, q35, q36, q37, q38, q39, q40, q41, q42, q43, q44, q45, q46, q47, q48, q49, q50, q51] : List Nat).getD k 0) H2 locs2 ⟨[], rfl, fun x hx => (by cases hx), ?_⟩)
  rw [wlb]
  rw [List.append_nil] at hB2
  exact hB2
theorem lq_eqs (S : CallFix p m c cc nL s args TW RL) (hls : ls.size = nL) (h : LQ g U s A Z WO RO BL H locs) {a b a2 b2 : Nat} {t t2 : List Int32} (hq : .inl (a, b, t) ∈ RO) (hq2 : .inl (a2, b2, t2) ∈ RO) (hn : t.length ≤ 1000) (hn2 : t2.length ≤ 1000) (hne : t.length ≠ t2.length) (hR : 4 ≤ R.frames ∧ 150 ≤ R.locals ∧ cells ≤ R.cells ∧ slots ≤ R.slots) (hW : (rest.map fun v => v.category).sum ≤ 8) (hd : decode cc pc = .ok (.invokevirtual 169, 3))
    (kk : W p l e R s m args below meth c H locs cells slots Q (F0 m (pc + 3) ls (.int 0 :: rest))) : W p l e R s m args below meth c H locs cells slots Q (F0 m pc ls (.ref a2 :: .ref a :: rest)) := by
  obtain ⟨hx, hb, hml, hown, hts⟩ := S
  obtain ⟨bl, hkey, hok, hP, hD, hS, hRo, hK, hZ, hA⟩ := h
  have hF : RoF (.inl (a, b, t)) (fun _ => False) s H := (hRo _ hq).re (re_rf (fun _ z => z.elim))
  have hF2 : RoF (.inl (a2, b2, t2)) (fun _ => False) s H := (hRo _ hq2).re (re_rf (fun _ z => z.elim))
  refine sc_i (va_runV (As := [.ref a2]) (rest := rest) ⟨hx, hb, hml, hown, hts⟩ (s_equals l g.1 g.2.1 a b a2 b2 t t2) (cwV 1 hts (g_vir (own := RL) (ix := 169) (y := yJ0_equals_9ea2d) (C := RJ0) (by decide +kernel) (by decide +kernel) (by decide +kernel) (by decide +kernel) (g_con cw_J0_equals_9ea2d)) rfl rfl rfl (by decide +kernel) ⟨by show 2 + 1 ≤ R.frames; omega, by show 8 + (3 + 11) + 100 ≤ R.locals; omega⟩) ⟨pre_blind, Sf.rec (show Sf a b t (fun _ => False) s H from hF) va_S.rf, fun V hV hW => ⟨rfl, pre_call hV hW ⟨hne, hn, hn2⟩ (ro_cons hF (ro_cons hF2 ro_nil)) (hK.1.re (re_rf (fun _ z => z.elim)))⟩⟩ rfl rfl hls rfl (lv_room hW) hd ⟨by omega, by omega⟩) (fun r hr => ?_)
  obtain rfl := hr
  exact kk
end
set_option maxRecDepth 100000 in
theorem cw_L_none : Jvm.Cond.code yL_none cL_none 0 (some (.array .int)) ∈ TW := TW_mem (List.mem_append_right _ (List.mem_append_right _ (List.mem_append_right _ (List.mem_append_right _ (List.mem_append_left _ (List.mem_of_getElem? (l := tables_1_4) (i := 43) rfl)))))) rfl
theorem d_L_none_0 : decode cL_none 0 = .ok (.bipush 80, 2) := by decide +kernel
theorem d_L_none_2 : decode cL_none 2 = .ok (.newarray .int, 2) := by decide +kernel
theorem d_L_none_4 : decode cL_none 4 = .ok (.areturn, 1) := by decide +kernel
set_option maxHeartbeats 4000000 in
theorem t_none (l : Launch) (g : GQ) (sz : Nat) (Z : Nat → Prop) : Met l yL_none (wD yL_none cL_none 0 (some (.array .int))) ({ frames := 1, cells := 1, slots := 80, locals := 60 } : Room) (va_Pc [] (PrL g sz [] Z [] True)) (va_Qr (fun _ : Unit => True) (fun _ ra t => va_P g.1 vwCl [(ra, .inl (g.2.2.1, 80, .inl (fun _ => 0)))] t.heap ∧ va_D (va_A [] sz) [(ra, .inl (g.2.2.1, 80, .inl (fun _ => 0)))]) (va_A [] sz)) 1 80 (va_A [] sz) := by
  refine Met.ofW (cc := cL_none) (maxL := 0) (ret := (some (.array .int))) (by decide) rfl ?_
  intro p e s m args below meth c s₁ B hml hv
  obtain ⟨rfl, hv⟩ := hv
  have hx := B.exec
  have hb := B.bytes
  have hr := B.returns
  have hts0 := atoms_spec (ws := wD yL_none cL_none 0 (some (.array .int))) B.pre
  have hts : ∀ w ∈ TW, w.before _ s = true := fun w h => hts0 w (List.mem_cons_of_mem _ h)
  have hlocks := B.notSynchronized
  have hsz : s.heap.size = sz := hv.1.1
  subst hsz
  have hKz := hv.2.2
  have hl := lv_entry ([] : List Value) (n := 0) (Nat.le_of_ble_eq_true rfl)
  rw [lg_entry_eq]
  generalize (lg_sl ([] : List Value) ++ List.replicate (0 - (lg_sl ([] : List Value)).length) Slot.unset).toArray = ls at hl ⊢
  refine lv_bipush (v := 80) hx hb d_L_none_0 (by decide) ?_
  refine newaI (A := va_A [] s.heap.size) (D := g.1) (cl := vwCl) (cL := g.2.2.2.1) (ws := []) (N := 80) hx hb (hts (.arrayClass .int) (by decide +kernel)) hKz.2.2.2.1 P_0 D_0 va_S.rf (fun q h => Or.inr h) (by decide) (by decide) (Nat.le_of_ble_eq_true rfl) (Nat.le_of_ble_eq_true rfl) (Nat.le_of_ble_eq_true rfl) d_L_none_2 (fun q1 H hP hD hS => ?_)
  refine W.widen (k := 1) (n := 80) (Nat.le_of_ble_eq_true rfl) (Nat.le_of_ble_eq_true rfl) ?_
  exact W.aret hx hb hr (Or.inr ⟨_, rfl⟩) (Or.inr ⟨_, rfl⟩) (fun t8 ht hW => ⟨⟨(), q1, rfl, trivial, by rw [ht]; exact hP, hD⟩, hS.F ht⟩) hS.2.2 d_L_none_4
section
variable {p : Program} {l : Launch} {e : Env} {R : Room} {s : State} {m : MethodId} {args : Array Value} {below : List Frame} {meth : Method} {c : Code} {cells slots : Nat} {Q : State → Prop}
variable {cc : ByteArray} {nL pc ix : Nat} {ls : Array Slot} {rest st0 : List Value} {g : GQ} {U : Nat} {A Z : Nat → Prop} {WO : va_W} {RO : List RoE} {BL : List (Nat × List Int32)} {H : Heap} {locs : List Loc}
theorem lq_none (S : CallFix p m c cc nL s args TW RL) (hls : ls.size = nL) {ad : Nat → Nat} (h : LQ g U s A Z (wld g.2.2.1 g.2.2.2.1 ad lay Mb) RO [] H locs) (hR : 2 ≤ R.frames ∧ 100 ≤ R.locals ∧ cells + 1 ≤ R.cells ∧ slots + 80 ≤ R.slots) (hd : decode cc pc = .ok (.invokestatic 300, 3))
    (kk : ∀ (b : Nat) (H1 : Heap) (locs1 : List Loc), LQ g U s A Z (WL g (fun k => if k = 52 then b else ad k) Mb) RO [] H1 locs1 → W p l e R s m args below meth c H1 locs1 (cells + 1) (slots + 80) Q (F0 m (pc + 3) ls [.ref b])) : W p l e R s m args below meth c H locs cells slots Q (F0 m pc ls []) := by
  have hts := S.2.2.2.2
  obtain ⟨bl, hkey, hok, hB0⟩ := h
  cases bl with
  | cons x bl => cases hkey
  | nil =>
  have hB0 : LB g s A Z ([] ++ wld g.2.2.1 g.2.2.2.1 ad lay Mb) RO H locs := hB0
  obtain ⟨-, -, hFc⟩ := hB0.part
  refine va_callr (va_runS (As := []) (rest := []) S (t_none l g H.size (Av Z (wld g.2.2.1 g.2.2.2.1 ad lay Mb))) (va_cwS 0 hts (g_sta (own := RL) (ix := 300) (y := yL_none) (by decide +kernel) (by decide +kernel) (by decide +kernel) (g_con cw_L_none)) rfl rfl rfl (by decide +kernel) ⟨by show 1 + 1 ≤ R.frames; omega, by show 8 + (0 + 11) + 60 ≤ R.locals; omega⟩) ⟨prl_blind, fun V hV hW => ⟨rfl, hB0.prl (fun x hx => (by cases hx)) trivial hV hW⟩⟩ rfl rfl hls rfl (lv_room (Nat.le_of_ble_eq_true rfl)) hd ⟨by omega, by omega⟩) hB0.2.2.1 (fun q _ h => hFc q h) hFc (fun w b t9 H1 locs1 ht hvm hw hB hz1 hk1 hS1 => ?_)
  obtain ⟨hP1, hD1⟩ := hB
  rw [ht] at hP1
  obtain ⟨h1, -⟩ := LB.eff hB0 hz1 hk1 hP1 hD1 hS1
  have h1 := h1.swap
  rw [wl_up] at h1
  exact kk b H1 locs1 ⟨[], rfl, fun x hx => (by cases hx), h1⟩
end
