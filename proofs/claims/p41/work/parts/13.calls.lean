section
variable {p : Program} {l : Launch} {e : Env} {R : Room} {s : State} {m : MethodId} {args : Array Value} {below : List Frame} {meth : Method} {c : Code} {cells slots : Nat} {Q : State → Prop}
variable {lay : List SH} {d : Nat} {nm : Nat → String} {TW : List Jvm.Cond} {NM : List NMT} {NF : List NFT} {G : Nat → Option MT} {pf : List PFT} {pm : List PMT} {pk : List PKT} {o : Nat} {bytes : ByteArray} {maxL rk : Nat} {A : Nat → Prop} {cI cL : ClassId} {D : va_G} {sc : Option (Nat × (Nat → Int32))} {ad : Nat → Nat}
variable {L : LC} {st : List Value} {M : PM} {q' : PQ} {H : Heap} {locs : List Loc} {ls : Array Slot}
/-- what is known behind a step -/
def Kk (p : Program) (l : Launch) (e : Env) (R : Room) (s : State) (m : MethodId) (args : Array Value) (below : List Frame) (meth : Method) (c : Code) (cells slots : Nat) (Q : State → Prop) (lay : List SH) (maxL : Nat) (A : Nat → Prop) (cI cL : ClassId) (D : va_G) (ad : Nat → Nat) (q' : PQ) : Prop :=
  ∀ (H' : Heap) (locs' : List Loc) (ls' : Array Slot), va_P D vwCl (wld cI cL ad lay q'.2.2.2) H' → va_D A (wld cI cL ad lay q'.2.2.2) → va_S A s.heap H' locs' → lv_has ls' maxL (asc ad q'.2.1) → q'.2.1.length = maxL → W p l e R s m args below meth c H' locs' cells slots Q (F0 m q'.1 ls' (q'.2.2.1.map (up ad)))
theorem call_pre {U : State} (F : Fx lay d nm TW NM NF o bytes maxL p s m args c R cells slots A cI cL D sc ad) (hP : va_P D vwCl (wld cI cL ad lay M) H) (hD : va_D A (wld cI cL ad lay M)) (hU : U.heap = H) (hW : s.WarmedH U.vm) : PreU D cI cL lay NM NF ad M H.size U := by
  obtain ⟨hx, hb, hml, hown, hts, hNM, hNF, hK, hA, hsc, hce, hsl, hd1, hd2⟩ := F
  refine ⟨by rw [hU], by rw [hU]; exact hP, va_K.moved hW.alike hK, hD.weaken (fun _ _ _ _ => trivial), fun q hq => va_Nw.warmM hW (hNM q hq), fun q hq => va_Nw.warmF hW (hNF q hq)⟩
theorem call_blind {vs : List Value} {sz : Nat} : FrameBlind (va_Pc (vs.map (up ad)) (PreU D cI cL lay NM NF ad M sz)) := by
  intro a U g mk q
  obtain ⟨q0, q1, qP, qK, qD, qN, qF⟩ := q
  exact ⟨q0, q1, qP, va_K.moved (u := U) (U := U.calling g mk a) (Vm.Alike.refl U.vm) qK, qD, fun q hq => va_Nw.same rfl rfl (qN q hq), fun q hq => va_Nw.same rfl rfl (qF q hq)⟩
theorem wld_free (hD : va_D A (wld cI cL ad lay M)) (hS : va_S A s.heap H locs) (hA : ∀ q, s.heap.size ≤ q → A q) : ∀ q, va_A (wld cI cL ad lay M) H.size q → A q := by
  intro q h
  rcases h with ⟨k, e, h⟩ | h
  · exact hD.2 k (q, e) h
  · exact hA q (Nat.le_trans hS.1 h)
theorem call_good (T : Tk lay nm TW NM NF G pf pm pk) {mt : MT} (hm : MtP nm TW mt) : GoodIn TW (wsM TW mt) := by
  intro w hw
  rcases List.mem_cons.mp hw with rfl | h
  · exact ⟨hm.2.2.2.2.1, good_of_word (T.2.2.2.2.2.1 _ hm.2.2.2.2.1)⟩
  · exact ⟨h, good_of_word (T.2.2.2.2.2.1 _ h)⟩
theorem call_good2 (T : Tk lay nm TW NM NF G pf pm pk) {mt mt2 : MT} (hm : MtP nm TW mt) : GoodIn (wsM TW mt2) (wsM TW mt) := fun w hw => ⟨List.mem_cons_of_mem _ (call_good T hm w hw).1, (call_good T hm w hw).2⟩
theorem goodIn_app' {big a b : List Jvm.Cond} (ha : GoodIn big a) (hb : GoodIn big b) : GoodIn big (a ++ b) := fun w h => (List.mem_append.mp h).elim (ha w) (hb w)
/-- behind a call -/
theorem call_on {pc nx : Nat} {r : Option Value × PM} {k : Nat} {rest st0 : List Value} {a : Array Value} (F : Fx lay d nm TW NM NF o bytes maxL p s m args c R cells slots A cI cL D sc ad) (hn : nx = pc + 3)
    (hrun : va_Run p l e R s m args below meth c H locs cells slots 0 0 (F0 m pc ls st0) (rest.map (up ad)) (QcM D cI cL lay ad (va_A (wld cI cL ad lay M) H.size) r a) (va_A (wld cI cL ad lay M) H.size))
    (hs : calr (some r) k nx L rest = .inr q') (hD : va_D A (wld cI cL ad lay M)) (hS : va_S A s.heap H locs) (hl : lv_has ls maxL (asc ad L)) (hL : L.length = maxL)
    (kk : Kk p l e R s m args below meth c cells slots Q lay maxL A cI cL D ad q') : W p l e R s m args below meth c H locs cells slots Q (F0 m pc ls st0) := by
  obtain ⟨hx, hb, hml, hown, hts, hNM, hNF, hK, hA, hsc, hce, hsl, hd1, hd2⟩ := F
  subst hn
  have hF := wld_free (M := M) hD hS hA
  obtain ⟨rv, M'⟩ := r
  match k, rv, hs with
  | 0, none, hs =>
    obtain rfl := nxt_inj hs
    refine va_callv (a := a) hrun hS (fun q _ h => hF q h) hF (fun u t H1 locs1 ht hvm hw hB hz1 hk1 hS1 => ?_)
    subst hw
    subst ht
    exact kk _ _ _ hB.1 (hB.2.2.weaken (fun _ _ _ h => hF _ h)) hS1 hl hL
  | 3, some (.long x), hs =>
    obtain rfl := nxt_inj hs
    refine va_calll (a := a) hrun hS (fun q _ h => hF q h) hF (fun r u t H1 locs1 ht hvm hw hB hz1 hk1 hS1 => ?_)
    obtain ⟨h1, h2⟩ := hw
    subst h1
    subst h2
    subst ht
    exact kk _ _ _ hB.1 (hB.2.2.weaken (fun _ _ _ h => hF _ h)) hS1 hl hL
  | 1, some (.int x), hs =>
    obtain rfl := nxt_inj hs
    refine va_calli (a := a) hrun hS (fun q _ h => hF q h) hF (fun r u t H1 locs1 ht hvm hw hB hz1 hk1 hS1 => ?_)
    obtain ⟨h1, h2⟩ := hw
    subst h1
    subst h2
    subst ht
    exact kk _ _ _ hB.1 (hB.2.2.weaken (fun _ _ _ h => hF _ h)) hS1 hl hL
  | 2, some (.int x), hs =>
    obtain rfl := nxt_inj hs
    refine va_calli (a := a) hrun hS (fun q _ h => hF q h) hF (fun r u t H1 locs1 ht hvm hw hB hz1 hk1 hS1 => ?_)
    obtain ⟨h1, h2⟩ := hw
    subst h1
    subst h2
    subst ht
    exact kk _ _ _ hB.1 (hB.2.2.weaken (fun _ _ _ h => hF _ h)) hS1 hl hL
  | k + 4, some (.int x), hs =>
    obtain rfl := nxt_inj hs
    refine va_calli (a := a) hrun hS (fun q _ h => hF q h) hF (fun r u t H1 locs1 ht hvm hw hB hz1 hk1 hS1 => ?_)
    obtain ⟨h1, h2⟩ := hw
    subst h1
    subst h2
    subst ht
    exact kk _ _ _ hB.1 (hB.2.2.weaken (fun _ _ _ h => hF _ h)) hS1 hl hL
theorem calr_some {o : PO} {k nx : Nat} {rest : List Value} (h : calr o k nx L rest = .inr q') : ∃ r, o = some r := by
  cases o with
  | none => unfold calr at h; split at h <;> exact (stk_no h).elim
  | some r => exact ⟨r, rfl⟩
theorem room_le (hd0 : d ≠ 0) (hd1 : d ≤ R.frames) (hd2 : 41 * d ≤ R.locals) {k : Nat} (hk : k ≤ 22) : (rmm d).frames + 1 ≤ R.frames ∧ 8 + (k + 11) + (rmm d).locals ≤ R.locals := by
  unfold rmm
  constructor
  · show d - 1 + 1 ≤ R.frames; omega
  · show 8 + (k + 11) + 41 * (d - 1) ≤ R.locals; omega
theorem pcl_0 {id : Nat} {vs : List Value} : pcl G lay 0 id vs M = none := rfl
theorem cs_map {rest : List Value} : (rest.map (up ad)).map (fun v => v.category) = rest.map (fun v => v.category) := by
  rw [List.map_map]
  apply List.map_congr_left
  intro v _
  exact up_cat ad v
theorem take_split {r2 : Nat} (h : ¬ st.length < r2) : st = ((st.take r2).reverse).reverse ++ st.drop r2 := by
  rw [List.reverse_reverse, List.take_append_drop]
set_option maxHeartbeats 4000000 in
theorem stepS (T : Tk lay nm TW NM NF G pf pm pk) (F : Fx lay d nm TW NM NF o bytes maxL p s m args c R cells slots A cI cL D sc ad) (HM : MetAll l D cI cL lay TW NM NF G d) {pc nx ix r1 r2 : Nat} {cst : Int} {ts : List Nat}
    (hd : decode bytes pc = .ok (.invokestatic ix, 3)) (hn : nx = pc + 3) (hlk : pm.contains (o, ix, r1, true, r2, ts.getD 0 0, ts.getD 1 0) = true) (hs : stp lay sc (pcl G lay d) rk (pc, .invokestatic ix, nx, r1, r2, cst, ts) L st M = .inr q')
    (hP : va_P D vwCl (wld cI cL ad lay M) H) (hD : va_D A (wld cI cL ad lay M)) (hS : va_S A s.heap H locs) (hl : lv_has ls maxL (asc ad L)) (hL : L.length = maxL)
    (kk : Kk p l e R s m args below meth c cells slots Q lay maxL A cI cL D ad q') : W p l e R s m args below meth c H locs cells slots Q (F0 m pc ls (st.map (up ad))) := by
  have F0' := F
  obtain ⟨hx, hb, hml, hown, hts, hNM, hNF, hK, hA, hsc, hce, hsl, hd1, hd2⟩ := F
  simp only [stp] at hs
  by_cases hg : st.length < r2 ∨ 8 < cs (st.drop r2)
  · rw [if_pos hg] at hs; exact (stk_no hs).elim
  rw [if_neg hg] at hs
  have hlen : ¬ st.length < r2 := fun h => hg (Or.inl h)
  have hcs : cs (st.drop r2) ≤ 8 := Nat.not_lt.mp fun h => hg (Or.inr h)
  obtain ⟨r, hr⟩ := calr_some hs
  rw [hr] at hs
  have hd0 : d ≠ 0 := by rintro rfl; rw [pcl_0] at hr; cases hr
  have hp := T.2.1 _ (List.contains_iff_mem.mp hlk)
  unfold MthP at hp
  simp only at hp
  have hstk : st.map (up ad) = ((((st.take r2).reverse).map (up ad)).reverse) ++ (st.drop r2).map (up ad) := by
    conv => lhs; rw [take_split hlen]
    rw [List.map_append, List.map_reverse]
  by_cases h0 : r1 = 0
  · rw [if_pos h0] at hp
    obtain ⟨-, e5, e0, w1, w2, w3, w4⟩ := hp
    subst h0
    have hac : acpy lay M (st.take r2).reverse = some r := by
      cases d with
      | zero => exact (hd0 rfl).elim
      | succ d => simpa [pcl, nat3] using hr
    unfold acpy at hac
    split at hac
    · rename_i a sp b dp n heq
      split at hac
      · rename_i na nb ha hb'
        split at hac
        · cases hac
        · rename_i hc
          cases hac
          rw [e0] at hs
          obtain rfl := nxt_inj hs
          have hst2 : st.map (up ad) = .int n :: .int dp :: .ref (ad b) :: .int sp :: .ref (ad a) :: (st.drop r2).map (up ad) := by
            rw [hstk, heq]; rfl
          rw [hst2]
          subst hn
          have hca : cel cI cL ad lay M a = .inl (cI, na, .inl (M.1 a)) := by unfold cel; rw [ha]
          have hcb : cel cI cL ad lay M b = .inl (cI, nb, .inl (M.1 b)) := by unfold cel; rw [hb']
          refine va_copyi hx hb (by rw [hml, ← hl.1]) hown (hts _ w1) (hts _ w2) (hts _ w3) (hts _ w4) hK hP hD hS a b 0 0 (ha0 := by rw [wld_get ha, hca]) (ha1 := by rw [wld_get hb', hcb]) (ht0 := rfl) (ht1 := rfl) rfl (sp := sp) (dp := dp) (n := n) (fun h => hc (by simp [h])) (fun h => hc (by simp [h])) (fun h => hc (by simp [h])) (by omega) (by omega) (fun i _ => rfl) (by omega) ?_ hd (fun H1 locs1 hP1 hD1 hS1 => ?_)
          · rw [cs_map]
            have : cs (st.drop r2) = ((st.drop r2).map (fun v => v.category)).sum := rfl
            have h9 : nativeFrameWords "java/lang/System" "arraycopy" 5 ≤ 20 := by decide +kernel
            omega
          · have hset := wld_set (cI := cI) (cL := cL) (ad := ad) (lay := lay) (M := M) (M' := sI M b (va_cpy (M.1 a) (M.1 b) sp.toNatClampNeg dp.toNatClampNeg n.toNatClampNeg)) (k := b) (e := .inl (cI, nb, .inl (va_cpy (M.1 a) (M.1 b) sp.toNatClampNeg dp.toNatClampNeg n.toNatClampNeg))) (by unfold cel; rw [hb']; simp [sI]) cel_sI
            rw [hset] at hP1 hD1
            exact kk _ _ _ hP1 hD1 hS1 hl hL
      · cases hac
    · cases hac
  rw [if_neg h0] at hp
  by_cases h1 : r1 = 1
  · rw [if_pos h1] at hp
    obtain ⟨-, e5, e0, w1, w2, w3, w4⟩ := hp
    subst h1
    have hac : nat3 lay M 1 (st.take r2).reverse = some r := by
      cases d with
      | zero => exact (hd0 rfl).elim
      | succ d => simpa [pcl] using hr
    unfold nat3 at hac
    simp only at hac
    split at hac
    · rename_i x y heq
      cases hac
      rw [e0] at hs
      obtain rfl := nxt_inj hs
      have hst2 : st.map (up ad) = .int y :: .int x :: (st.drop r2).map (up ad) := by
        rw [hstk, heq]; rfl
      rw [hst2]
      subst hn
      refine va_mmax hx hb (by rw [hml, ← hl.1]) hown (hts _ w1) (hts _ w2) (hts _ w3) (hts _ w4) (by omega) ?_ hce hsl hd (kk _ _ _ hP hD hS hl hL)
      rw [cs_map]
      have : cs (st.drop r2) = ((st.drop r2).map (fun v => v.category)).sum := rfl
      omega
    · cases hac
  rw [if_neg h1] at hp
  by_cases h2 : r1 = 2
  · rw [if_pos h2] at hp
    obtain ⟨-, e5, e0, w1, w2, w3, w4⟩ := hp
    subst h2
    have hac : nat3 lay M 2 (st.take r2).reverse = some r := by
      cases d with
      | zero => exact (hd0 rfl).elim
      | succ d => simpa [pcl] using hr
    unfold nat3 at hac
    simp only at hac
    split at hac
    · rename_i x y heq
      cases hac
      rw [e0] at hs
      obtain rfl := nxt_inj hs
      have hst2 : st.map (up ad) = .int y :: .int x :: (st.drop r2).map (up ad) := by
        rw [hstk, heq]; rfl
      rw [hst2]
      subst hn
      refine va_mmin hx hb (by rw [hml, ← hl.1]) hown (hts _ w1) (hts _ w2) (hts _ w3) (hts _ w4) (by omega) ?_ hce hsl hd (kk _ _ _ hP hD hS hl hL)
      rw [cs_map]
      have : cs (st.drop r2) = ((st.drop r2).map (fun v => v.category)).sum := rfl
      omega
    · cases hac
  rw [if_neg h2] at hp
  obtain ⟨mt, hG, hst, hrk, hlink, harg⟩ := hp
  rw [← hst, if_pos rfl] at harg
  have hm := (T.2.2.2.2.2.2 _ _ hG).1
  have hge : 3 ≤ r1 := by omega
  have hmet := HM r1 mt _ M r hge hG hr ad H.size
  have hst' : mt.2.2.2.2.2.1 = true := hst.symm
  have hsw := hm.2.2.2.2.2.2
  rw [if_pos hst'] at hsw
  have hlen2 : (((st.take r2).reverse).map (up ad)).length = mt.2.2.2.2.2.2.1 := by rw [List.length_map, List.length_reverse, List.length_take, ← harg]; omega
  have hRm := room_le (R := R) hd0 hd1 hd2 hm.2.2.2.1
  have hblind := call_blind (D := D) (cI := cI) (cL := cL) (lay := lay) (NM := NM) (NF := NF) (M := M) (ad := ad) (vs := (st.take r2).reverse) (sz := H.size)
  rw [hstk]
  rcases hlink with hlink | ⟨host, hlink⟩
  · refine call_on (M := M) F0' hn (va_runS ⟨hx, hb, hml, hown, hts⟩ hmet (va_cwS mt.2.2.2.2.2.2.1 hts ?_ rfl rfl rfl hm.2.2.1 hRm) ⟨hblind, fun U hU hW => ⟨rfl, call_pre F0' hP hD hU hW⟩⟩ rfl hlen2 hl.1 rfl (lv_room (by rw [cs_map]; exact hcs)) hd ⟨hce, hsl⟩) hs hD hS hl hL kk
    exact goodIn_app' (by
      intro w hw
      rcases List.mem_cons.mp hw with rfl | hw
      · exact ⟨hlink, good_of_word (T.2.2.2.2.2.1 _ hlink)⟩
      rcases List.mem_cons.mp hw with rfl | hw
      · exact ⟨hsw, good_of_word (T.2.2.2.2.2.1 _ hsw)⟩
      rcases List.mem_cons.mp hw with rfl | hw
      · exact ⟨hm.2.2.2.2.2.1, good_of_word (T.2.2.2.2.2.1 _ hm.2.2.2.2.2.1)⟩
      · cases hw) (call_good T hm)
  · refine call_on (M := M) F0' hn (va_runSN ⟨hx, hb, hml, hown, hts⟩ hmet ⟨va_cnB mt.2.2.2.2.2.2.1 hts (call_good T hm) rfl rfl rfl (hNM _ hlink) (hts _ hm.2.2.2.2.2.1) hm.2.2.1 hRm, hts _ hsw, trivial⟩ ⟨hblind, fun U hU hW => ⟨rfl, call_pre F0' hP hD hU hW⟩⟩ rfl hlen2 hl.1 rfl (lv_room (by rw [cs_map]; exact hcs)) hd ⟨hce, hsl⟩) hs hD hS hl hL kk
set_option maxHeartbeats 4000000 in
theorem stepV (T : Tk lay nm TW NM NF G pf pm pk) (F : Fx lay d nm TW NM NF o bytes maxL p s m args c R cells slots A cI cL D sc ad) (HM : MetAll l D cI cL lay TW NM NF G d) {pc nx ix r1 r2 : Nat} {cst : Int} {ts : List Nat}
    (hd : decode bytes pc = .ok (.invokevirtual ix, 3)) (hn : nx = pc + 3) (hlk : pm.contains (o, ix, r1, false, r2, ts.getD 0 0, ts.getD 1 0) = true) (hs : stp lay sc (pcl G lay d) rk (pc, .invokevirtual ix, nx, r1, r2, cst, ts) L st M = .inr q')
    (hP : va_P D vwCl (wld cI cL ad lay M) H) (hD : va_D A (wld cI cL ad lay M)) (hS : va_S A s.heap H locs) (hl : lv_has ls maxL (asc ad L)) (hL : L.length = maxL)
    (kk : Kk p l e R s m args below meth c cells slots Q lay maxL A cI cL D ad q') : W p l e R s m args below meth c H locs cells slots Q (F0 m pc ls (st.map (up ad))) := by
  have F0' := F
  obtain ⟨hx, hb, hml, hown, hts, hNM, hNF, hK, hA, hsc, hce, hsl, hd1, hd2⟩ := F
  simp only [stp] at hs
  by_cases hg : st.length < r2 ∨ 8 < cs (st.drop r2) ∨ isob lay (st.take r2).reverse.head? (ts.getD 1 0) = false
  · rw [if_pos hg] at hs; exact (stk_no hs).elim
  rw [if_neg hg] at hs
  have hlen : ¬ st.length < r2 := fun h => hg (Or.inl h)
  have hcs : cs (st.drop r2) ≤ 8 := Nat.not_lt.mp fun h => hg (Or.inr (Or.inl h))
  have hob : isob lay (st.take r2).reverse.head? (ts.getD 1 0) = true := by
    cases h : isob lay (st.take r2).reverse.head? (ts.getD 1 0) with
    | true => rfl
    | false => exact (hg (Or.inr (Or.inr h))).elim
  obtain ⟨r, hr⟩ := calr_some hs
  rw [hr] at hs
  have hd0 : d ≠ 0 := by rintro rfl; rw [pcl_0] at hr; cases hr
  have hp := T.2.1 _ (List.contains_iff_mem.mp hlk)
  unfold MthP at hp
  simp only at hp
  have hstk : st.map (up ad) = ((((st.take r2).reverse).map (up ad)).reverse) ++ (st.drop r2).map (up ad) := by
    conv => lhs; rw [take_split hlen]
    rw [List.map_append, List.map_reverse]
  by_cases h0 : r1 = 0
  · rw [if_pos h0] at hp
    exact absurd hp.1 (by simp)
  rw [if_neg h0] at hp
  by_cases h1 : r1 = 1
  · rw [if_pos h1] at hp
    exact absurd hp.1 (by simp)
  rw [if_neg h1] at hp
  by_cases h2 : r1 = 2
  · rw [if_pos h2] at hp
    exact absurd hp.1 (by simp)
  rw [if_neg h2] at hp
  obtain ⟨mt, hG, hst, hrk, hlink, harg⟩ := hp
  rw [← hst, if_neg (by simp)] at harg
  obtain ⟨harg, TT, NN, hcl⟩ := harg
  have hm := (T.2.2.2.2.2.2 _ _ hG).1
  have hge : 3 ≤ r1 := by omega
  have hmet := HM r1 mt _ M r hge hG hr ad H.size
  have hst' : ¬ mt.2.2.2.2.2.1 = true := by rw [← hst]; simp
  have hsw := hm.2.2.2.2.2.2
  rw [if_neg hst'] at hsw
  unfold isob at hob
  split at hob
  case h_2 => cases hob
  rename_i v k hk
  split at hob
  case h_2 => cases hob
  rename_i c' ks hlay
  have hcc : c' = ts.getD 1 0 := by simpa using hob
  subst hcc
  obtain ⟨vs, hvs⟩ : ∃ vs, (st.take r2).reverse = .ref k :: vs := by
    cases hq : (st.take r2).reverse with
    | nil => rw [hq] at hk; cases hk
    | cons a vs => rw [hq] at hk; cases hk; exact ⟨vs, rfl⟩
  have hlen2 : (vs.map (up ad)).length = mt.2.2.2.2.2.2.1 := by
    have h1 : (st.take r2).reverse.length = vs.length + 1 := by rw [hvs]; rfl
    rw [List.length_reverse, List.length_take] at h1
    rw [List.length_map]
    omega
  have hRm := room_le (R := R) hd0 hd1 hd2 hm.2.2.2.1
  have hblind := call_blind (D := D) (cI := cI) (cL := cL) (lay := lay) (NM := NM) (NF := NF) (M := M) (ad := ad) (vs := (st.take r2).reverse) (sz := H.size)
  have hcel : cel cI cL ad lay M k = .inr (ts.getD 1 0, fls ad M k ks) := by unfold cel; rw [hlay]
  have hrecv := va_recv (q0 := k) hK hP hcl (by rw [wld_get hlay, hcel])
  rw [hstk, hvs]
  rw [hvs] at hmet hblind
  have e9 : ((Value.ref k :: vs).map (up ad)).reverse ++ (st.drop r2).map (up ad) = (vs.map (up ad)).reverse ++ (.ref (ad k) :: (st.drop r2).map (up ad)) := by
    rw [List.map_cons, List.reverse_cons, List.append_assoc]; rfl
  rw [e9]
  rcases hlink with hlink | ⟨host, hlink⟩
  · refine call_on (M := M) F0' hn (va_runV (C := mt.2.1.cls) ⟨hx, hb, hml, hown, hts⟩ hmet (cwV mt.2.2.2.2.2.2.1 hts ?_ rfl rfl rfl ⟨rfl, hm.2.2.1⟩ hRm) ⟨hblind, hrecv, fun U hU hW => ⟨rfl, call_pre F0' hP hD hU hW⟩⟩ rfl hlen2 hl.1 rfl (lv_room (by rw [cs_map]; exact hcs)) hd ⟨hce, hsl⟩) hs hD hS hl hL kk
    exact goodIn_app' (by
      intro w hw
      rcases List.mem_cons.mp hw with rfl | hw
      · exact ⟨hlink, good_of_word (T.2.2.2.2.2.1 _ hlink)⟩
      rcases List.mem_cons.mp hw with rfl | hw
      · exact ⟨hsw.1, good_of_word (T.2.2.2.2.2.1 _ hsw.1)⟩
      rcases List.mem_cons.mp hw with rfl | hw
      · exact ⟨hsw.2, good_of_word (T.2.2.2.2.2.1 _ hsw.2)⟩
      rcases List.mem_cons.mp hw with rfl | hw
      · exact ⟨hm.2.2.2.2.2.1, good_of_word (T.2.2.2.2.2.1 _ hm.2.2.2.2.2.1)⟩
      · cases hw) (call_good T hm)
  · refine call_on (M := M) F0' hn (va_runVN (C := mt.2.1.cls) ⟨hx, hb, hml, hown, hts⟩ hmet ⟨va_cnB mt.2.2.2.2.2.2.1 hts (call_good T hm) rfl rfl rfl (hNM _ hlink) (hts _ hm.2.2.2.2.2.1) hm.2.2.1 hRm, hts _ hsw.1, hts _ hsw.2⟩ ⟨hblind, hrecv, fun U hU hW => ⟨rfl, call_pre F0' hP hD hU hW⟩⟩ rfl hlen2 hl.1 rfl (lv_room (by rw [cs_map]; exact hcs)) hd ⟨hce, hsl⟩) hs hD hS hl hL kk
end
