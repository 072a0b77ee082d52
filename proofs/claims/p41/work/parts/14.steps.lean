section
variable {p : Program} {l : Launch} {e : Env} {R : Room} {s : State} {m : MethodId} {args : Array Value} {below : List Frame} {meth : Method} {c : Code} {cells slots : Nat} {Q : State → Prop}
variable {lay : List SH} {d : Nat} {nm : Nat → String} {TW : List Jvm.Cond} {NM : List NMT} {NF : List NFT} {G : Nat → Option MT} {pf : List PFT} {pm : List PMT} {pk : List PKT} {o : Nat} {bytes : ByteArray} {maxL rk : Nat} {A : Nat → Prop} {cI cL : ClassId} {D : va_G} {sc : Option (Nat × (Nat → Int32))} {ad : Nat → Nat}
variable {L : LC} {st : List Value} {M : PM} {q' : PQ} {H : Heap} {locs : List Loc} {ls : Array Slot}
theorem ne_of_sc {a : Nat} {i v : Int32} (h : aldI lay sc M a i = some v) : (∃ n, lay[a]? = some (.inr (false, n)) ∧ inb i n = true ∧ v = M.1 a i.toNatClampNeg) ∨ (∃ n xs, lay[a]? = none ∧ sc = some (n, xs) ∧ a = lay.length ∧ inb i n = true ∧ v = xs i.toNatClampNeg) := by
  unfold aldI at h
  split at h
  · rename_i n hn
    split at h
    · rename_i hi; cases h; exact Or.inl ⟨n, hn, hi, rfl⟩
    · cases h
  · rename_i hn
    split at h
    · rename_i n xs
      split at h
      · rename_i ha
        split at h
        · rename_i hi; cases h; exact Or.inr ⟨n, xs, hn, rfl, ha, hi, rfl⟩
        · cases h
      · cases h
    · cases h
  · cases h
theorem alen_inv {a : Nat} {v : Int32} (h : alen lay sc a = some v) : (∃ b n, lay[a]? = some (.inr (b, n)) ∧ Int32.ofNat n = v) ∨ (∃ n xs, lay[a]? = none ∧ sc = some (n, xs) ∧ a = lay.length ∧ Int32.ofNat n = v) := by
  unfold alen at h
  split at h
  · rename_i b n hn; cases h; exact Or.inl ⟨b, n, hn, rfl⟩
  · rename_i hn
    split at h
    · rename_i n xs
      split at h
      · rename_i ha; cases h; exact Or.inr ⟨n, xs, hn, rfl, ha, rfl⟩
      · cases h
    · cases h
  · cases h
theorem stepIA (F : Fx lay d nm TW NM NF o bytes maxL p s m args c R cells slots A cI cL D sc ad) {pc : Nat} {a : Nat} {i v : Int32} (hd : decode bytes pc = .ok (.iaload, 1)) (h : aldI lay sc M a i = some v)
    (hP : va_P D vwCl (wld cI cL ad lay M) H) (hS : va_S A s.heap H locs)
    (kk : W p l e R s m args below meth c H locs cells slots Q (F0 m (pc + 1) ls (.int v :: st.map (up ad)))) : W p l e R s m args below meth c H locs cells slots Q (F0 m pc ls (.int i :: .ref (ad a) :: st.map (up ad))) := by
  obtain ⟨hx, hb, hml, hown, hts, hNM, hNF, hK, hA, hsc, hce, hsl, hd1, hd2⟩ := F
  rcases ne_of_sc h with ⟨n, h1, h2, rfl⟩ | ⟨n, xs, h1, h2, h3, h4, rfl⟩
  · exact va_iald hx hb hK hP a 0 (by rw [wld_get h1]; unfold cel; rw [h1]) rfl ((inb_iff i n).mp h2) hd kk
  · obtain ⟨hX, hX1, hX2⟩ := hsc n xs h2
    subst h3
    exact va_sld hx hb hX hX1 hX2 hS ((inb_iff i n).mp h4) hd kk
theorem stepLA (F : Fx lay d nm TW NM NF o bytes maxL p s m args c R cells slots A cI cL D sc ad) {pc : Nat} {a : Nat} {i : Int32} {v : Int64} (hd : decode bytes pc = .ok (.laload, 1)) (h : aldL lay M a i = some v)
    (hP : va_P D vwCl (wld cI cL ad lay M) H)
    (kk : W p l e R s m args below meth c H locs cells slots Q (F0 m (pc + 1) ls (.long v :: st.map (up ad)))) : W p l e R s m args below meth c H locs cells slots Q (F0 m pc ls (.int i :: .ref (ad a) :: st.map (up ad))) := by
  obtain ⟨hx, hb, hml, hown, hts, hNM, hNF, hK, hA, hsc, hce, hsl, hd1, hd2⟩ := F
  unfold aldL at h
  split at h
  · rename_i n h1
    split at h
    · rename_i h2
      cases h
      exact va_lald hx hb hK hP a 1 (by rw [wld_get h1]; unfold cel; rw [h1]) rfl ((inb_iff i n).mp h2) hd kk
    · cases h
  · cases h
theorem stepAL (F : Fx lay d nm TW NM NF o bytes maxL p s m args c R cells slots A cI cL D sc ad) {pc : Nat} {a : Nat} {v : Int32} (hd : decode bytes pc = .ok (.arraylength, 1)) (h : alen lay sc a = some v)
    (hP : va_P D vwCl (wld cI cL ad lay M) H) (hS : va_S A s.heap H locs)
    (kk : W p l e R s m args below meth c H locs cells slots Q (F0 m (pc + 1) ls (.int v :: st.map (up ad)))) : W p l e R s m args below meth c H locs cells slots Q (F0 m pc ls (.ref (ad a) :: st.map (up ad))) := by
  obtain ⟨hx, hb, hml, hown, hts, hNM, hNF, hK, hA, hsc, hce, hsl, hd1, hd2⟩ := F
  rcases alen_inv h with ⟨b, n, h1, rfl⟩ | ⟨n, xs, h1, h2, h3, rfl⟩
  · cases b with
    | false => exact va_alen hx hb hK hP a 0 (by rw [wld_get h1]; unfold cel; rw [h1]) rfl rfl hd kk
    | true => exact va_alen hx hb hK hP a 1 (by rw [wld_get h1]; unfold cel; rw [h1]) rfl rfl hd kk
  · obtain ⟨hX, hX1, hX2⟩ := hsc n xs h2
    subst h3
    exact va_slen hx hb hX hX1 hX2 hS hd kk
theorem stepIS (F : Fx lay d nm TW NM NF o bytes maxL p s m args c R cells slots A cI cL D sc ad) {pc : Nat} {a : Nat} {i v : Int32} {M' : PM} (hd : decode bytes pc = .ok (.iastore, 1)) (h : astI lay M a i v = some M')
    (hP : va_P D vwCl (wld cI cL ad lay M) H) (hD : va_D A (wld cI cL ad lay M)) (hS : va_S A s.heap H locs)
    (kk : ∀ (H' : Heap) (locs' : List Loc), va_P D vwCl (wld cI cL ad lay M') H' → va_D A (wld cI cL ad lay M') → va_S A s.heap H' locs' → W p l e R s m args below meth c H' locs' cells slots Q (F0 m (pc + 1) ls (st.map (up ad)))) : W p l e R s m args below meth c H locs cells slots Q (F0 m pc ls (.int v :: .int i :: .ref (ad a) :: st.map (up ad))) := by
  obtain ⟨hx, hb, hml, hown, hts, hNM, hNF, hK, hA, hsc, hce, hsl, hd1, hd2⟩ := F
  unfold astI at h
  split at h
  · rename_i n h1
    split at h
    · rename_i h2
      cases h
      refine va_iast hx hb hK hP hD hS a 0 (by rw [wld_get h1]; unfold cel; rw [h1]) rfl ((inb_iff i n).mp h2) hd (fun H1 locs1 hP1 hD1 hS1 => ?_)
      have hset := wld_set (cI := cI) (cL := cL) (ad := ad) (lay := lay) (M := M) (M' := sI M a (va_up (M.1 a) i.toNatClampNeg v)) (k := a) (e := .inl (cI, n, .inl (upd (M.1 a) i.toNatClampNeg v))) (by unfold cel; rw [h1]; simp [sI]; rfl) cel_sI
      rw [hset] at hP1 hD1
      exact kk _ _ hP1 hD1 hS1
    · cases h
  · cases h
theorem stepLS (F : Fx lay d nm TW NM NF o bytes maxL p s m args c R cells slots A cI cL D sc ad) {pc : Nat} {a : Nat} {i : Int32} {v : Int64} {M' : PM} (hd : decode bytes pc = .ok (.lastore, 1)) (h : astL lay M a i v = some M')
    (hP : va_P D vwCl (wld cI cL ad lay M) H) (hD : va_D A (wld cI cL ad lay M)) (hS : va_S A s.heap H locs)
    (kk : ∀ (H' : Heap) (locs' : List Loc), va_P D vwCl (wld cI cL ad lay M') H' → va_D A (wld cI cL ad lay M') → va_S A s.heap H' locs' → W p l e R s m args below meth c H' locs' cells slots Q (F0 m (pc + 1) ls (st.map (up ad)))) : W p l e R s m args below meth c H locs cells slots Q (F0 m pc ls (.long v :: .int i :: .ref (ad a) :: st.map (up ad))) := by
  obtain ⟨hx, hb, hml, hown, hts, hNM, hNF, hK, hA, hsc, hce, hsl, hd1, hd2⟩ := F
  unfold astL at h
  split at h
  · rename_i n h1
    split at h
    · rename_i h2
      cases h
      refine va_last hx hb hK hP hD hS a 1 (by rw [wld_get h1]; unfold cel; rw [h1]) rfl ((inb_iff i n).mp h2) hd (fun H1 locs1 hP1 hD1 hS1 => ?_)
      have hset := wld_set (cI := cI) (cL := cL) (ad := ad) (lay := lay) (M := M) (M' := sL M a (va_up (M.2 a) i.toNatClampNeg v)) (k := a) (e := .inl (cL, n, .inr (.inl (vp_updL (M.2 a) i.toNatClampNeg v)))) (by unfold cel; rw [h1]; simp [sL]; rfl) cel_sL
      rw [hset] at hP1 hD1
      exact kk _ _ hP1 hD1 hS1
    · cases h
  · cases h
theorem getf_inv {k ci j : Nat} {v : Value} (h : getf lay M k ci j = some v) : ∃ ks kd, lay[k]? = some (.inl (ci, ks)) ∧ ks[j]? = some kd ∧ ∀ ad, fvl ad M k j kd = up ad v := by
  unfold getf at h
  split at h
  · rename_i c ks hk
    split at h
    · rename_i hc
      subst hc
      split at h
      · rename_i hj; cases h; exact ⟨ks, 0, hk, hj, fun _ => rfl⟩
      · rename_i hj; cases h; exact ⟨ks, 1, hk, hj, fun _ => rfl⟩
      · rename_i hj
        split at h
        · cases h
        · rename_i h0; cases h; exact ⟨ks, 2, hk, hj, fun _ => by unfold fvl; simp only [if_neg h0]; rfl⟩
      · rename_i t hj; cases h; exact ⟨ks, t + 3, hk, hj, fun _ => rfl⟩
      · cases h
    · cases h
  · cases h
theorem stepGF (T : Tk lay nm TW NM NF G pf pm pk) (F : Fx lay d nm TW NM NF o bytes maxL p s m args c R cells slots A cI cL D sc ad) {pc ix k ci j : Nat} {v : Value} (hd : decode bytes pc = .ok (.getfield ix, 3)) (hlk : pf.contains (o, ix, ci, j) = true) (h : getf lay M k ci j = some v)
    (hP : va_P D vwCl (wld cI cL ad lay M) H)
    (kk : W p l e R s m args below meth c H locs cells slots Q (F0 m (pc + 3) ls (up ad v :: st.map (up ad)))) : W p l e R s m args below meth c H locs cells slots Q (F0 m pc ls (.ref (ad k) :: st.map (up ad))) := by
  obtain ⟨hx, hb, hml, hown, hts, hNM, hNF, hK, hA, hsc, hce, hsl, hd1, hd2⟩ := F
  obtain ⟨C, TT, N, hcl, hj, hlink⟩ := T.1 _ (List.contains_iff_mem.mp hlk)
  obtain ⟨ks, kd, h1, h2, h3⟩ := getf_inv h
  have hin := (T.2.2.2.1 _ _ _ _ hcl).1
  have hcel : cel cI cL ad lay M k = .inr (ci, fls ad M k ks) := by unfold cel; rw [h1]
  have hv : (fls ad M k ks)[j]? = some (up ad v) := by rw [fls_get h2, h3]
  rcases hlink with hlink | ⟨host, hlink⟩
  · exact va_get hx hb hts hin hown hK hP k (by rw [wld_get h1, hcel]) hcl j hj (hts _ hlink) (fun _ h9 => h9) hv hd kk
  · exact va_getN hx hb hts hin hown hK hP k (by rw [wld_get h1, hcel]) hcl j hj (va_Nw.use rfl (hNF _ hlink)) (fun _ h9 => h9) hv hd kk
theorem putf_inv {k ci j : Nat} {v : Value} {M' : PM} (h : putf lay M k ci j v = some M') : ∃ ks kd x, lay[k]? = some (.inl (ci, ks)) ∧ ks[j]? = some kd ∧ kd < 3 ∧ M' = sI M k (va_up (M.1 k) j x) ∧ (∀ ad, fvl ad M' k j kd = up ad v) ∧ ∀ ad, narrow (kty kd) (up ad v) = up ad v ∧ fits (kty kd) (up ad v) = true := by
  unfold putf at h
  split at h
  · rename_i c ks hk
    split at h
    · rename_i hc
      subst hc
      split at h
      · rename_i x hj; cases h
        exact ⟨ks, 0, x, hk, hj, by omega, rfl, fun _ => by simp [fvl, sI, va_up, up], fun _ => ⟨rfl, rfl⟩⟩
      · rename_i x hj
        split at h
        · rename_i hx; cases h
          refine ⟨ks, 1, x, hk, hj, by omega, rfl, fun _ => by simp [fvl, sI, va_up, up], fun _ => ?_⟩
          rcases hx with rfl | rfl
          · exact ⟨by show Value.int ((0 : Int32) &&& 1) = Value.int 0; decide, rfl⟩
          · exact ⟨by show Value.int ((1 : Int32) &&& 1) = Value.int 1; decide, rfl⟩
        · cases h
      · rename_i t hj
        split at h
        · rename_i ht
          have ht2 : t < 2 ^ 31 := Nat.lt_trans ht (by decide)
          cases h
          refine ⟨ks, 2, Int32.ofNat t, hk, hj, by omega, rfl, fun _ => ?_, fun _ => ⟨rfl, rfl⟩⟩
          have e1 : (sI M k (va_up (M.1 k) j (Int32.ofNat t))).1 k j = nI t := by simp [sI, va_up, nI]
          unfold fvl
          simp only [e1]
          rw [if_neg (nI_pos ht2), nI_clamp ht2]
          rfl
        · cases h
      · cases h
    · cases h
  · cases h
theorem stepPF (T : Tk lay nm TW NM NF G pf pm pk) (F : Fx lay d nm TW NM NF o bytes maxL p s m args c R cells slots A cI cL D sc ad) {pc ix k ci j : Nat} {v : Value} {M' : PM} (hd : decode bytes pc = .ok (.putfield ix, 3)) (hlk : pf.contains (o, ix, ci, j) = true) (h : putf lay M k ci j v = some M')
    (hP : va_P D vwCl (wld cI cL ad lay M) H) (hD : va_D A (wld cI cL ad lay M)) (hS : va_S A s.heap H locs)
    (kk : ∀ (H' : Heap) (locs' : List Loc), va_P D vwCl (wld cI cL ad lay M') H' → va_D A (wld cI cL ad lay M') → va_S A s.heap H' locs' → W p l e R s m args below meth c H' locs' cells slots Q (F0 m (pc + 3) ls (st.map (up ad)))) : W p l e R s m args below meth c H locs cells slots Q (F0 m pc ls (up ad v :: .ref (ad k) :: st.map (up ad))) := by
  obtain ⟨hx, hb, hml, hown, hts, hNM, hNF, hK, hA, hsc, hce, hsl, hd1, hd2⟩ := F
  obtain ⟨C, TT, N, hcl, hj, hlink⟩ := T.1 _ (List.contains_iff_mem.mp hlk)
  obtain ⟨ks, kd, x, h1, h2, h3, rfl, h5, h6⟩ := putf_inv h
  obtain ⟨hin, hnm, ty0, hty⟩ := T.2.2.2.1 _ _ _ _ hcl
  obtain ⟨C', TT', N', hcl', hN', hk'⟩ := T.2.2.2.2.1 _ _ _ h1
  have e9 := Option.some.inj (hcl.symm.trans hcl')
  have e1 : C = C' := congrArg (fun z => z.1) e9
  have e2 : TT = TT' := congrArg (fun z => z.2.1) e9
  have e3 : N = N' := congrArg (fun z => z.2.2) e9
  subst e1; subst e2; subst e3
  obtain ⟨hfin, hds⟩ := hk' j kd h2 h3
  have hcel : cel cI cL ad lay M k = .inr (ci, fls ad M k ks) := by unfold cel; rw [h1]
  have hset := wld_set (cI := cI) (cL := cL) (ad := ad) (lay := lay) (M := M) (M' := sI M k (va_up (M.1 k) j x)) (k := k) (e := .inr (ci, (fls ad M k ks).set j (up ad v))) (by
    unfold cel; rw [h1]
    rw [fls_set (x := x) (v := up ad v) (fun kd' hkd' => by
      have : kd' = kd := Option.some.inj (hkd'.symm.trans h2)
      subst this
      exact h5 ad)]) cel_sI
  have kk2 : ∀ (H' : Heap) (locs' : List Loc), va_P D vwCl ((wld cI cL ad lay M).set k (ad k, .inr (ci, (fls ad M k ks).set j (up ad v)))) H' → va_D A ((wld cI cL ad lay M).set k (ad k, .inr (ci, (fls ad M k ks).set j (up ad v)))) → va_S A s.heap H' locs' → W p l e R s m args below meth c H' locs' cells slots Q (F0 m (pc + 3) ls (st.map (up ad))) := by
    rw [hset]
    exact kk
  rcases hlink with hlink | ⟨host, hlink⟩
  · exact va_put hx hb hts hin ty0 hty hnm hown hK hP hD hS k (by rw [wld_get h1, hcel]) hcl j hj (hts _ hlink) (fun _ h9 => h9) hfin hds (h6 ad).1 (h6 ad).2 (by rw [fls_len, hN']; exact hj) hd kk2
  · exact va_putN hx hb hts hin ty0 hty hnm hown hK hP hD hS k (by rw [wld_get h1, hcel]) hcl j hj (va_Nw.use rfl (hNF _ hlink)) (fun _ h9 => h9) hfin hds (h6 ad).1 (h6 ad).2 (by rw [fls_len, hN']; exact hj) hd kk2
set_option maxHeartbeats 8000000 in
theorem stepW (T : Tk lay nm TW NM NF G pf pm pk) (F : Fx lay d nm TW NM NF o bytes maxL p s m args c R cells slots A cI cL D sc ad) (HM : MetAll l D cI cL lay TW NM NF G d) {x : XE} (hok : eok pf pm pk o bytes x = true) (hs : stp lay sc (pcl G lay d) rk x L st M = .inr q')
    (hP : va_P D vwCl (wld cI cL ad lay M) H) (hD : va_D A (wld cI cL ad lay M)) (hS : va_S A s.heap H locs) (hl : lv_has ls maxL (asc ad L)) (hL : L.length = maxL)
    (kk : Kk p l e R s m args below meth c cells slots Q lay maxL A cI cL D ad q') : W p l e R s m args below meth c H locs cells slots Q (F0 m x.1 ls (st.map (up ad))) := by
  obtain ⟨pc, i, nx, r1, r2, cst, ts⟩ := x
  obtain ⟨hd, hn, hlk⟩ := eok_spec hok
  simp only at hd hn
  have hx := F.1
  have hb := F.2.1
  have hown := F.2.2.2.1
  have hts := F.2.2.2.2.1
  have K0 : ∀ (nx : Nat) (L' : LC) (st' : List Value), q' = (nx, L', st', M) → lv_has ls maxL (asc ad L') → L'.length = maxL → W p l e R s m args below meth c H locs cells slots Q (F0 m nx ls (st'.map (up ad))) := by
    intro nx L' st' h1 h2 h3
    subst h1
    exact kk H locs ls hP hD hS h2 h3
  have K1 : ∀ (nx : Nat) (L' : LC) (st' : List Value) (ls' : Array Slot), q' = (nx, L', st', M) → lv_has ls' maxL (asc ad L') → L'.length = maxL → W p l e R s m args below meth c H locs cells slots Q (F0 m nx ls' (st'.map (up ad))) := by
    intro nx L' st' ls' h1 h2 h3
    subst h1
    exact kk H locs ls' hP hD hS h2 h3
  cases i with
  | aload k =>
    obtain rfl : nx = pc + 2 := by simpa [ilen] using hn
    rw [Nat.add_sub_cancel_left] at hd
    simp only [stp] at hs
    split at hs
    · rename_i v hv
      exact lv_aload hx hb hd (lv_get hl hv (fun h => by cases h)) (K0 _ _ _ (nxt_inj hs) hl hL)
    · exact (stk_no hs).elim
  | aload_n k =>
    obtain rfl : nx = pc + 1 := by simpa [ilen] using hn
    rw [Nat.add_sub_cancel_left] at hd
    simp only [stp] at hs
    split at hs
    · rename_i v hv
      exact lv_aload_n hx hb hd rfl (lv_get hl hv (fun h => by cases h)) (K0 _ _ _ (nxt_inj hs) hl hL)
    · exact (stk_no hs).elim
  | iload k =>
    obtain rfl : nx = pc + 2 := by simpa [ilen] using hn
    rw [Nat.add_sub_cancel_left] at hd
    simp only [stp] at hs
    split at hs
    · rename_i v hv
      exact lv_iload hx hb hd (lv_get hl hv (fun h => by cases h)) (K0 _ _ _ (nxt_inj hs) hl hL)
    · exact (stk_no hs).elim
  | iload_n k =>
    obtain rfl : nx = pc + 1 := by simpa [ilen] using hn
    rw [Nat.add_sub_cancel_left] at hd
    simp only [stp] at hs
    split at hs
    · rename_i v hv
      exact lv_iload_n hx hb hd rfl (lv_get hl hv (fun h => by cases h)) (K0 _ _ _ (nxt_inj hs) hl hL)
    · exact (stk_no hs).elim
  | lload k =>
    obtain rfl : nx = pc + 2 := by simpa [ilen] using hn
    rw [Nat.add_sub_cancel_left] at hd
    simp only [stp] at hs
    split at hs
    · rename_i v hv
      split at hs
      · rename_i hn2
        exact lv_lload hx hb hd (lv_get hl hv (fun _ => Option.isNone_iff_eq_none.mp hn2)) (K0 _ _ _ (nxt_inj hs) hl hL)
      · exact (stk_no hs).elim
    · exact (stk_no hs).elim
  | lload_n k =>
    obtain rfl : nx = pc + 1 := by simpa [ilen] using hn
    rw [Nat.add_sub_cancel_left] at hd
    simp only [stp] at hs
    split at hs
    · rename_i v hv
      split at hs
      · rename_i hn2
        exact lv_lload_n hx hb hd rfl (lv_get hl hv (fun _ => Option.isNone_iff_eq_none.mp hn2)) (K0 _ _ _ (nxt_inj hs) hl hL)
      · exact (stk_no hs).elim
    · exact (stk_no hs).elim
  | iconst k =>
    obtain rfl : nx = pc + 1 := by simpa [ilen] using hn
    rw [Nat.add_sub_cancel_left] at hd
    simp only [stp] at hs
    exact lv_iconst hx hb hd rfl (K0 _ _ _ (nxt_inj hs) hl hL)
  | bipush k =>
    obtain rfl : nx = pc + 2 := by simpa [ilen] using hn
    rw [Nat.add_sub_cancel_left] at hd
    simp only [stp] at hs
    exact lv_bipush hx hb hd rfl (K0 _ _ _ (nxt_inj hs) hl hL)
  | sipush k =>
    obtain rfl : nx = pc + 3 := by simpa [ilen] using hn
    rw [Nat.add_sub_cancel_left] at hd
    simp only [stp] at hs
    exact lv_sipush hx hb hd rfl (K0 _ _ _ (nxt_inj hs) hl hL)
  | lconst k =>
    obtain rfl : nx = pc + 1 := by simpa [ilen] using hn
    rw [Nat.add_sub_cancel_left] at hd
    simp only [stp] at hs
    exact lv_lconst hx hb hd rfl (K0 _ _ _ (nxt_inj hs) hl hL)
  | ldc k =>
    obtain rfl : nx = pc + 2 := by simpa [ilen] using hn
    rw [Nat.add_sub_cancel_left] at hd
    simp only [stp] at hs
    have hc := T.2.2.1 _ (List.contains_iff_mem.mp hlk)
    simp only [CstP, Bool.false_eq_true, if_false] at hc
    exact lv_ldc hx hb hown (hts _ hc) hd (K0 _ _ _ (nxt_inj hs) hl hL)
  | ldc_w k =>
    obtain rfl : nx = pc + 3 := by simpa [ilen] using hn
    rw [Nat.add_sub_cancel_left] at hd
    simp only [stp] at hs
    have hc := T.2.2.1 _ (List.contains_iff_mem.mp hlk)
    simp only [CstP, Bool.false_eq_true, if_false] at hc
    exact lv_ldcw hx hb hown (hts _ hc) hd (K0 _ _ _ (nxt_inj hs) hl hL)
  | ldc2_w k =>
    obtain rfl : nx = pc + 3 := by simpa [ilen] using hn
    rw [Nat.add_sub_cancel_left] at hd
    simp only [stp] at hs
    have hc := T.2.2.1 _ (List.contains_iff_mem.mp hlk)
    simp only [CstP, if_true] at hc
    exact lv_ldc2 hx hb hown (hts _ hc) hd (K0 _ _ _ (nxt_inj hs) hl hL)
  | istore k =>
    obtain rfl : nx = pc + 2 := by simpa [ilen] using hn
    rw [Nat.add_sub_cancel_left] at hd
    simp only [stp] at hs
    split at hs
    · rename_i v st2
      split at hs
      · rename_i hk
        exact lv_istore hx hb hd hl (by rw [← hL]; exact hk) rfl (fun ls' h' => K1 _ _ _ ls' (nxt_inj hs) (lv_mono h' (asc_s1 hk)) (by rw [lcs1_len]; exact hL))
      · exact (stk_no hs).elim
    · exact (stk_no hs).elim
  | istore_n k =>
    obtain rfl : nx = pc + 1 := by simpa [ilen] using hn
    rw [Nat.add_sub_cancel_left] at hd
    simp only [stp] at hs
    split at hs
    · rename_i v st2
      split at hs
      · rename_i hk
        exact lv_istore_n hx hb hd rfl hl (by rw [← hL]; exact hk) rfl (fun ls' h' => K1 _ _ _ ls' (nxt_inj hs) (lv_mono h' (asc_s1 hk)) (by rw [lcs1_len]; exact hL))
      · exact (stk_no hs).elim
    · exact (stk_no hs).elim
  | lstore k =>
    obtain rfl : nx = pc + 2 := by simpa [ilen] using hn
    rw [Nat.add_sub_cancel_left] at hd
    simp only [stp] at hs
    split at hs
    · rename_i v st2
      split at hs
      · rename_i hk
        exact lv_lstore hx hb hd hl (by rw [← hL]; exact hk) rfl (fun ls' h' => K1 _ _ _ ls' (nxt_inj hs) (lv_mono h' (asc_s2 hk)) (by rw [lcs2_len]; exact hL))
      · exact (stk_no hs).elim
    · exact (stk_no hs).elim
  | lstore_n k =>
    obtain rfl : nx = pc + 1 := by simpa [ilen] using hn
    rw [Nat.add_sub_cancel_left] at hd
    simp only [stp] at hs
    split at hs
    · rename_i v st2
      split at hs
      · rename_i hk
        exact lv_lstore_n hx hb hd rfl hl (by rw [← hL]; exact hk) rfl (fun ls' h' => K1 _ _ _ ls' (nxt_inj hs) (lv_mono h' (asc_s2 hk)) (by rw [lcs2_len]; exact hL))
      · exact (stk_no hs).elim
    · exact (stk_no hs).elim
  | iinc k z =>
    obtain rfl : nx = pc + 3 := by simpa [ilen] using hn
    rw [Nat.add_sub_cancel_left] at hd
    simp only [stp] at hs
    split at hs
    · rename_i v hv
      split at hs
      · rename_i hk
        obtain ⟨k9, hk9⟩ := List.getElem?_of_mem (asc_mem (ad := ad) (L := L) (i := k) (w := .int v) |>.mpr ⟨_, lcv_of hv (fun h => by cases h), rfl⟩)
        exact lv_iinc hx hb hd hl hk9 rfl (by rw [← hL]; exact hk) rfl (fun ls' h' => K1 _ _ _ ls' (nxt_inj hs) (lv_mono h' (asc_s1 hk)) (by rw [lcs1_len]; exact hL))
      · exact (stk_no hs).elim
    · exact (stk_no hs).elim
  | pop  =>
    obtain rfl : nx = pc + 1 := by simpa [ilen] using hn
    rw [Nat.add_sub_cancel_left] at hd
    simp only [stp] at hs
    split at hs
    · rename_i a st2
      split at hs
      · rename_i hc
        exact lv_pop hx hb hd (by rw [up_cat]; exact hc) (K0 _ _ _ (nxt_inj hs) hl hL)
      · exact (stk_no hs).elim
    · exact (stk_no hs).elim
  | dup  =>
    obtain rfl : nx = pc + 1 := by simpa [ilen] using hn
    rw [Nat.add_sub_cancel_left] at hd
    simp only [stp] at hs
    split at hs
    · rename_i a st2
      split at hs
      · rename_i hc
        exact lv_dup hx hb hd (by rw [up_cat]; exact hc) (K0 _ _ _ (nxt_inj hs) hl hL)
      · exact (stk_no hs).elim
    · exact (stk_no hs).elim
  | dup_x1  =>
    obtain rfl : nx = pc + 1 := by simpa [ilen] using hn
    rw [Nat.add_sub_cancel_left] at hd
    simp only [stp] at hs
    split at hs
    · rename_i a b st2
      split at hs
      · rename_i hc
        exact lv_dup_x1 hx hb hd (by rw [up_cat]; exact hc.1) (by rw [up_cat]; exact hc.2) (K0 _ _ _ (nxt_inj hs) hl hL)
      · exact (stk_no hs).elim
    · exact (stk_no hs).elim
  | dup_x2  =>
    obtain rfl : nx = pc + 1 := by simpa [ilen] using hn
    rw [Nat.add_sub_cancel_left] at hd
    simp only [stp] at hs
    split at hs
    · rename_i a b e2 st2
      split at hs
      · rename_i hc
        exact lv_dup_x2 hx hb hd (by rw [up_cat]; exact hc.1) (by rw [up_cat]; exact hc.2.1) (by rw [up_cat]; exact hc.2.2) (K0 _ _ _ (nxt_inj hs) hl hL)
      · exact (stk_no hs).elim
    · exact (stk_no hs).elim
  | dup2  =>
    obtain rfl : nx = pc + 1 := by simpa [ilen] using hn
    rw [Nat.add_sub_cancel_left] at hd
    simp only [stp] at hs
    split at hs
    · rename_i a b st2
      split at hs
      · rename_i hc
        exact lv_dup2_11 hx hb hd (by rw [up_cat]; exact hc.1) (by rw [up_cat]; exact hc.2) (K0 _ _ _ (nxt_inj hs) hl hL)
      · exact (stk_no hs).elim
    · exact (stk_no hs).elim
  | iadd  =>
    obtain rfl : nx = pc + 1 := by simpa [ilen] using hn
    rw [Nat.add_sub_cancel_left] at hd
    simp only [stp] at hs
    split at hs
    · exact lv_iadd hx hb hd (K0 _ _ _ (nxt_inj hs) hl hL)
    · exact (stk_no hs).elim
  | isub  =>
    obtain rfl : nx = pc + 1 := by simpa [ilen] using hn
    rw [Nat.add_sub_cancel_left] at hd
    simp only [stp] at hs
    split at hs
    · exact lv_isub hx hb hd (K0 _ _ _ (nxt_inj hs) hl hL)
    · exact (stk_no hs).elim
  | imul  =>
    obtain rfl : nx = pc + 1 := by simpa [ilen] using hn
    rw [Nat.add_sub_cancel_left] at hd
    simp only [stp] at hs
    split at hs
    · exact lv_imul hx hb hd (K0 _ _ _ (nxt_inj hs) hl hL)
    · exact (stk_no hs).elim
  | ineg  =>
    obtain rfl : nx = pc + 1 := by simpa [ilen] using hn
    rw [Nat.add_sub_cancel_left] at hd
    simp only [stp] at hs
    split at hs
    · exact lv_ineg hx hb hd (K0 _ _ _ (nxt_inj hs) hl hL)
    · exact (stk_no hs).elim
  | iand  =>
    obtain rfl : nx = pc + 1 := by simpa [ilen] using hn
    rw [Nat.add_sub_cancel_left] at hd
    simp only [stp] at hs
    split at hs
    · exact lv_iand hx hb hd (K0 _ _ _ (nxt_inj hs) hl hL)
    · exact (stk_no hs).elim
  | ior  =>
    obtain rfl : nx = pc + 1 := by simpa [ilen] using hn
    rw [Nat.add_sub_cancel_left] at hd
    simp only [stp] at hs
    split at hs
    · exact lv_ior hx hb hd (K0 _ _ _ (nxt_inj hs) hl hL)
    · exact (stk_no hs).elim
  | ixor  =>
    obtain rfl : nx = pc + 1 := by simpa [ilen] using hn
    rw [Nat.add_sub_cancel_left] at hd
    simp only [stp] at hs
    split at hs
    · exact lv_ixor hx hb hd (K0 _ _ _ (nxt_inj hs) hl hL)
    · exact (stk_no hs).elim
  | ishl  =>
    obtain rfl : nx = pc + 1 := by simpa [ilen] using hn
    rw [Nat.add_sub_cancel_left] at hd
    simp only [stp] at hs
    split at hs
    · exact lv_ishl hx hb hd (K0 _ _ _ (nxt_inj hs) hl hL)
    · exact (stk_no hs).elim
  | ishr  =>
    obtain rfl : nx = pc + 1 := by simpa [ilen] using hn
    rw [Nat.add_sub_cancel_left] at hd
    simp only [stp] at hs
    split at hs
    · exact lv_ishr hx hb hd (K0 _ _ _ (nxt_inj hs) hl hL)
    · exact (stk_no hs).elim
  | ladd  =>
    obtain rfl : nx = pc + 1 := by simpa [ilen] using hn
    rw [Nat.add_sub_cancel_left] at hd
    simp only [stp] at hs
    split at hs
    · exact lv_ladd hx hb hd (K0 _ _ _ (nxt_inj hs) hl hL)
    · exact (stk_no hs).elim
  | lmul  =>
    obtain rfl : nx = pc + 1 := by simpa [ilen] using hn
    rw [Nat.add_sub_cancel_left] at hd
    simp only [stp] at hs
    split at hs
    · exact lv_lmul hx hb hd (K0 _ _ _ (nxt_inj hs) hl hL)
    · exact (stk_no hs).elim
  | land  =>
    obtain rfl : nx = pc + 1 := by simpa [ilen] using hn
    rw [Nat.add_sub_cancel_left] at hd
    simp only [stp] at hs
    split at hs
    · exact lv_land hx hb hd (K0 _ _ _ (nxt_inj hs) hl hL)
    · exact (stk_no hs).elim
  | lor  =>
    obtain rfl : nx = pc + 1 := by simpa [ilen] using hn
    rw [Nat.add_sub_cancel_left] at hd
    simp only [stp] at hs
    split at hs
    · exact lv_lor hx hb hd (K0 _ _ _ (nxt_inj hs) hl hL)
    · exact (stk_no hs).elim
  | lcmp  =>
    obtain rfl : nx = pc + 1 := by simpa [ilen] using hn
    rw [Nat.add_sub_cancel_left] at hd
    simp only [stp] at hs
    split at hs
    · exact W.lcmp hx hb hd (K0 _ _ _ (nxt_inj hs) hl hL)
    · exact (stk_no hs).elim
  | iushr  =>
    obtain rfl : nx = pc + 1 := by simpa [ilen] using hn
    rw [Nat.add_sub_cancel_left] at hd
    simp only [stp] at hs
    split at hs
    · exact lv_iushr hx hb hd rfl (K0 _ _ _ (nxt_inj hs) hl hL)
    · exact (stk_no hs).elim
  | lshl  =>
    obtain rfl : nx = pc + 1 := by simpa [ilen] using hn
    rw [Nat.add_sub_cancel_left] at hd
    simp only [stp] at hs
    split at hs
    · exact lv_lshl hx hb hd rfl (K0 _ _ _ (nxt_inj hs) hl hL)
    · exact (stk_no hs).elim
  | lshr  =>
    obtain rfl : nx = pc + 1 := by simpa [ilen] using hn
    rw [Nat.add_sub_cancel_left] at hd
    simp only [stp] at hs
    split at hs
    · exact lv_lshr hx hb hd rfl (K0 _ _ _ (nxt_inj hs) hl hL)
    · exact (stk_no hs).elim
  | i2l  =>
    obtain rfl : nx = pc + 1 := by simpa [ilen] using hn
    rw [Nat.add_sub_cancel_left] at hd
    simp only [stp] at hs
    split at hs
    · exact lv_i2l hx hb hd rfl (K0 _ _ _ (nxt_inj hs) hl hL)
    · exact (stk_no hs).elim
  | l2i  =>
    obtain rfl : nx = pc + 1 := by simpa [ilen] using hn
    rw [Nat.add_sub_cancel_left] at hd
    simp only [stp] at hs
    split at hs
    · exact lv_l2i hx hb hd rfl (K0 _ _ _ (nxt_inj hs) hl hL)
    · exact (stk_no hs).elim
  | i2b  =>
    obtain rfl : nx = pc + 1 := by simpa [ilen] using hn
    rw [Nat.add_sub_cancel_left] at hd
    simp only [stp] at hs
    split at hs
    · exact lv_i2b hx hb hd rfl (K0 _ _ _ (nxt_inj hs) hl hL)
    · exact (stk_no hs).elim
  | i2s  =>
    obtain rfl : nx = pc + 1 := by simpa [ilen] using hn
    rw [Nat.add_sub_cancel_left] at hd
    simp only [stp] at hs
    split at hs
    · exact lv_i2s hx hb hd rfl (K0 _ _ _ (nxt_inj hs) hl hL)
    · exact (stk_no hs).elim
  | irem  =>
    obtain rfl : nx = pc + 1 := by simpa [ilen] using hn
    rw [Nat.add_sub_cancel_left] at hd
    simp only [stp] at hs
    split at hs
    · split at hs
      · exact (stk_no hs).elim
      · rename_i hb0
        exact lv_irem hx hb hd hb0 (K0 _ _ _ (nxt_inj hs) hl hL)
    · exact (stk_no hs).elim
  | goto off =>
    obtain rfl : nx = pc + 3 := by simpa [ilen] using hn
    rw [Nat.add_sub_cancel_left] at hd
    simp only [stp] at hs
    have ht : (pc : Int) + off = (r1 : Int) := of_decide_eq_true hlk
    exact lv_goto hx hb hd ht (K0 _ _ _ (nxt_inj hs) hl hL)
  | ifCond cc off =>
    obtain rfl : nx = pc + 3 := by simpa [ilen] using hn
    rw [Nat.add_sub_cancel_left] at hd
    simp only [stp] at hs
    have ht : (pc : Int) + off = (r1 : Int) := of_decide_eq_true hlk
    split at hs
    · cases cc with
      | eq =>
        split at hs
        · rename_i h
          have h := of_decide_eq_true h
          exact lv_if_eq hx hb hd ht (fun _ => K0 _ _ _ (nxt_inj hs) hl hL) (fun h2 => absurd h h2)
        · rename_i h
          have h : ¬ _ := fun h9 => h (decide_eq_true h9)
          exact lv_if_eq hx hb hd ht (fun h2 => absurd h2 h) (fun _ => K0 _ _ _ (nxt_inj hs) hl hL)
      | ne =>
        split at hs
        · rename_i h
          have h := of_decide_eq_true h
          exact lv_if_ne hx hb hd ht (fun _ => K0 _ _ _ (nxt_inj hs) hl hL) (fun h2 => absurd h2 h)
        · rename_i h
          have h : ¬ _ := fun h9 => h (decide_eq_true h9)
          exact lv_if_ne hx hb hd ht (fun h2 => absurd h2 h) (fun _ => K0 _ _ _ (nxt_inj hs) hl hL)
      | lt =>
        split at hs
        · rename_i h
          have h := of_decide_eq_true h
          exact lv_if_lt hx hb hd ht (fun _ => K0 _ _ _ (nxt_inj hs) hl hL) (fun h2 => absurd h h2)
        · rename_i h
          have h : ¬ _ := fun h9 => h (decide_eq_true h9)
          exact lv_if_lt hx hb hd ht (fun h2 => absurd h2 h) (fun _ => K0 _ _ _ (nxt_inj hs) hl hL)
      | ge =>
        split at hs
        · rename_i h
          have h := of_decide_eq_true h
          exact lv_if_ge hx hb hd ht (fun _ => K0 _ _ _ (nxt_inj hs) hl hL) (fun h2 => absurd h h2)
        · rename_i h
          have h : ¬ _ := fun h9 => h (decide_eq_true h9)
          exact lv_if_ge hx hb hd ht (fun h2 => absurd h2 h) (fun _ => K0 _ _ _ (nxt_inj hs) hl hL)
      | gt =>
        split at hs
        · rename_i h
          have h := of_decide_eq_true h
          exact lv_if_gt hx hb hd ht (fun _ => K0 _ _ _ (nxt_inj hs) hl hL) (fun h2 => absurd h h2)
        · rename_i h
          have h : ¬ _ := fun h9 => h (decide_eq_true h9)
          exact lv_if_gt hx hb hd ht (fun h2 => absurd h2 h) (fun _ => K0 _ _ _ (nxt_inj hs) hl hL)
      | le =>
        split at hs
        · rename_i h
          have h := of_decide_eq_true h
          exact lv_if_le hx hb hd ht (fun _ => K0 _ _ _ (nxt_inj hs) hl hL) (fun h2 => absurd h h2)
        · rename_i h
          have h : ¬ _ := fun h9 => h (decide_eq_true h9)
          exact lv_if_le hx hb hd ht (fun h2 => absurd h2 h) (fun _ => K0 _ _ _ (nxt_inj hs) hl hL)
    · exact (stk_no hs).elim
  | if_icmp cc off =>
    obtain rfl : nx = pc + 3 := by simpa [ilen] using hn
    rw [Nat.add_sub_cancel_left] at hd
    simp only [stp] at hs
    have ht : (pc : Int) + off = (r1 : Int) := of_decide_eq_true hlk
    split at hs
    · cases cc with
      | eq =>
        split at hs
        · rename_i h
          have h := of_decide_eq_true h
          exact lv_icmp_eq hx hb hd ht (fun _ => K0 _ _ _ (nxt_inj hs) hl hL) (fun h2 => absurd h h2)
        · rename_i h
          have h : ¬ _ := fun h9 => h (decide_eq_true h9)
          exact lv_icmp_eq hx hb hd ht (fun h2 => absurd h2 h) (fun _ => K0 _ _ _ (nxt_inj hs) hl hL)
      | ne =>
        split at hs
        · rename_i h
          have h := of_decide_eq_true h
          exact lv_icmp_ne hx hb hd ht (fun _ => K0 _ _ _ (nxt_inj hs) hl hL) (fun h2 => absurd h2 h)
        · rename_i h
          have h : ¬ _ := fun h9 => h (decide_eq_true h9)
          exact lv_icmp_ne hx hb hd ht (fun h2 => absurd h2 h) (fun _ => K0 _ _ _ (nxt_inj hs) hl hL)
      | lt =>
        split at hs
        · rename_i h
          have h := of_decide_eq_true h
          exact lv_icmp_lt hx hb hd ht (fun _ => K0 _ _ _ (nxt_inj hs) hl hL) (fun h2 => absurd h h2)
        · rename_i h
          have h : ¬ _ := fun h9 => h (decide_eq_true h9)
          exact lv_icmp_lt hx hb hd ht (fun h2 => absurd h2 h) (fun _ => K0 _ _ _ (nxt_inj hs) hl hL)
      | ge =>
        split at hs
        · rename_i h
          have h := of_decide_eq_true h
          exact lv_icmp_ge hx hb hd ht (fun _ => K0 _ _ _ (nxt_inj hs) hl hL) (fun h2 => absurd h h2)
        · rename_i h
          have h : ¬ _ := fun h9 => h (decide_eq_true h9)
          exact lv_icmp_ge hx hb hd ht (fun h2 => absurd h2 h) (fun _ => K0 _ _ _ (nxt_inj hs) hl hL)
      | gt =>
        split at hs
        · rename_i h
          have h := of_decide_eq_true h
          exact lv_icmp_gt hx hb hd ht (fun _ => K0 _ _ _ (nxt_inj hs) hl hL) (fun h2 => absurd h h2)
        · rename_i h
          have h : ¬ _ := fun h9 => h (decide_eq_true h9)
          exact lv_icmp_gt hx hb hd ht (fun h2 => absurd h2 h) (fun _ => K0 _ _ _ (nxt_inj hs) hl hL)
      | le =>
        split at hs
        · rename_i h
          have h := of_decide_eq_true h
          exact lv_icmp_le hx hb hd ht (fun _ => K0 _ _ _ (nxt_inj hs) hl hL) (fun h2 => absurd h h2)
        · rename_i h
          have h : ¬ _ := fun h9 => h (decide_eq_true h9)
          exact lv_icmp_le hx hb hd ht (fun h2 => absurd h2 h) (fun _ => K0 _ _ _ (nxt_inj hs) hl hL)
    · exact (stk_no hs).elim
  | tableswitch dflt lo hi offs =>
    simp only [lnk, Bool.and_eq_true, decide_eq_true_eq] at hlk
    obtain ⟨ht, ho, hh⟩ := hlk
    simp only [stp] at hs
    split at hs
    · rename_i v st2
      have hq := nxt_inj hs
      by_cases hout : v.toInt < lo ∨ hi < v.toInt
      · rw [swch_out v r1 ts lo (by omega)] at hq
        exact lv_tableOut hx hb hd hout ht (K0 _ _ _ hq hl hL)
      · have h1 : ¬ v.toInt < lo := fun h => hout (Or.inl h)
        have h2 : ¬ hi < v.toInt := fun h => hout (Or.inr h)
        have h3 := swch_in v r1 ts lo h1 (by omega)
        have h4 : (offs.toList.map (fun o => (pc : Int) + o))[(v.toInt - lo).toNat]? = some (Int.ofNat (swch v r1 lo ts)) := by rw [ho, List.getElem?_map, h3]; rfl
        rw [List.getElem?_map, Option.map_eq_some_iff] at h4
        obtain ⟨off, h5, h6⟩ := h4
        exact lv_tableIn hx hb hd h1 h2 (by rw [← Array.getElem?_toList]; exact h5) h6 (K0 _ _ _ hq hl hL)
    · exact (stk_no hs).elim
  | getfield ix =>
    obtain rfl : nx = pc + 3 := by simpa [ilen] using hn
    rw [Nat.add_sub_cancel_left] at hd
    simp only [stp] at hs
    split at hs
    · obtain ⟨v, hv, hs⟩ := ofo_inv hs
      exact stepGF T F hd hlk hv hP (K0 _ _ _ (nxt_inj hs) hl hL)
    · exact (stk_no hs).elim
  | putfield ix =>
    obtain rfl : nx = pc + 3 := by simpa [ilen] using hn
    rw [Nat.add_sub_cancel_left] at hd
    simp only [stp] at hs
    split at hs
    · obtain ⟨M', hv, hs⟩ := ofo_inv hs
      obtain rfl := nxt_inj hs
      exact stepPF T F hd hlk hv hP hD hS (fun H' locs' h1 h2 h3 => kk H' locs' ls h1 h2 h3 hl hL)
    · exact (stk_no hs).elim
  | iaload  =>
    obtain rfl : nx = pc + 1 := by simpa [ilen] using hn
    rw [Nat.add_sub_cancel_left] at hd
    simp only [stp] at hs
    split at hs
    · obtain ⟨v, hv, hs⟩ := ofo_inv hs
      exact stepIA F hd hv hP hS (K0 _ _ _ (nxt_inj hs) hl hL)
    · exact (stk_no hs).elim
  | laload  =>
    obtain rfl : nx = pc + 1 := by simpa [ilen] using hn
    rw [Nat.add_sub_cancel_left] at hd
    simp only [stp] at hs
    split at hs
    · obtain ⟨v, hv, hs⟩ := ofo_inv hs
      exact stepLA F hd hv hP (K0 _ _ _ (nxt_inj hs) hl hL)
    · exact (stk_no hs).elim
  | arraylength  =>
    obtain rfl : nx = pc + 1 := by simpa [ilen] using hn
    rw [Nat.add_sub_cancel_left] at hd
    simp only [stp] at hs
    split at hs
    · obtain ⟨v, hv, hs⟩ := ofo_inv hs
      exact stepAL F hd hv hP hS (K0 _ _ _ (nxt_inj hs) hl hL)
    · exact (stk_no hs).elim
  | iastore  =>
    obtain rfl : nx = pc + 1 := by simpa [ilen] using hn
    rw [Nat.add_sub_cancel_left] at hd
    simp only [stp] at hs
    split at hs
    · obtain ⟨M', hv, hs⟩ := ofo_inv hs
      obtain rfl := nxt_inj hs
      exact stepIS F hd hv hP hD hS (fun H' locs' h1 h2 h3 => kk H' locs' ls h1 h2 h3 hl hL)
    · exact (stk_no hs).elim
  | lastore  =>
    obtain rfl : nx = pc + 1 := by simpa [ilen] using hn
    rw [Nat.add_sub_cancel_left] at hd
    simp only [stp] at hs
    split at hs
    · obtain ⟨M', hv, hs⟩ := ofo_inv hs
      obtain rfl := nxt_inj hs
      exact stepLS F hd hv hP hD hS (fun H' locs' h1 h2 h3 => kk H' locs' ls h1 h2 h3 hl hL)
    · exact (stk_no hs).elim
  | invokestatic ix =>
    have hn : nx = pc + 3 := by simpa [ilen] using hn
    subst hn
    rw [Nat.add_sub_cancel_left] at hd
    exact stepS T F HM hd rfl hlk hs hP hD hS hl hL kk
  | invokevirtual ix =>
    have hn : nx = pc + 3 := by simpa [ilen] using hn
    subst hn
    rw [Nat.add_sub_cancel_left] at hd
    exact stepV T F HM hd rfl hlk hs hP hD hS hl hL kk
  | ireturn =>
    simp only [stp] at hs
    split at hs
    · split at hs
      · cases hs
      · split at hs
        · cases hs
        · exact (stk_no hs).elim
    · exact (stk_no hs).elim
  | lreturn =>
    simp only [stp] at hs
    split at hs
    · split at hs
      · cases hs
      · exact (stk_no hs).elim
    · exact (stk_no hs).elim
  | return_ =>
    simp only [stp] at hs
    split at hs
    · split at hs
      · cases hs
      · exact (stk_no hs).elim
    · exact (stk_no hs).elim
  | _ => exact (stk_no hs).elim
end
