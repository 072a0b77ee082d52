section
variable {p : Program} {l : Launch} {e : Env} {R : Room} {s : State} {m : MethodId} {args : Array Value} {below : List Frame} {meth : Method} {c : Code} {cells slots : Nat} {Q : State → Prop}
variable {lay : List SH} {d : Nat} {nm : Nat → String} {TW : List Jvm.Cond} {NM : List NMT} {NF : List NFT} {G : Nat → Option MT} {pf : List PFT} {pm : List PMT} {pk : List PKT} {o : Nat} {bytes : ByteArray} {maxL rk : Nat} {A : Nat → Prop} {cI cL : ClassId} {D : va_G} {sc : Option (Nat × (Nat → Int32))} {ad : Nat → Nat}
theorem fet_spec {code : List XE} {pc : Nat} {x : XE} (h : fet code pc = some x) : x ∈ code ∧ x.1 = pc := by
  unfold fet at h
  exact ⟨List.mem_of_find?_eq_some h, by simpa using List.find?_some h⟩
/-- how a body ends -/
def Ends (p : Program) (l : Launch) (e : Env) (R : Room) (s : State) (m : MethodId) (args : Array Value) (below : List Frame) (meth : Method) (c : Code) (cells slots : Nat) (Q : State → Prop) (lay : List SH) (bytes : ByteArray) (A : Nat → Prop) (cI cL : ClassId) (D : va_G) (ad : Nat → Nat) (rk : Nat) (r : Option Value × PM) : Prop :=
  ∀ (H' : Heap) (locs' : List Loc) (ls' : Array Slot) (pc' : Nat), va_P D vwCl (wld cI cL ad lay r.2) H' → va_D A (wld cI cL ad lay r.2) → va_S A s.heap H' locs' →
    (r.1 = none → rk = 0 → decode bytes pc' = .ok (.return_, 1) → W p l e R s m args below meth c H' locs' cells slots Q (F0 m pc' ls' [])) ∧
    (∀ v, r.1 = some (.int v) → (rk = 1 ∨ rk = 2 ∧ (v = 0 ∨ v = 1)) → decode bytes pc' = .ok (.ireturn, 1) → W p l e R s m args below meth c H' locs' cells slots Q (F0 m pc' ls' [.int v])) ∧
    (∀ v, r.1 = some (.long v) → rk = 3 → decode bytes pc' = .ok (.lreturn, 1) → W p l e R s m args below meth c H' locs' cells slots Q (F0 m pc' ls' [.long v]))
theorem endW {x : XE} {L : LC} {st : List Value} {M : PM} {r : Option Value × PM} {H : Heap} {locs : List Loc} {ls : Array Slot} {cl : Nat → List Value → PM → PO} (hok : eok pf pm pk o bytes x = true) (hs : stp lay sc cl rk x L st M = .inl (some r))
    (hP : va_P D vwCl (wld cI cL ad lay M) H) (hD : va_D A (wld cI cL ad lay M)) (hS : va_S A s.heap H locs)
    (hE : Ends p l e R s m args below meth c cells slots Q lay bytes A cI cL D ad rk r) : W p l e R s m args below meth c H locs cells slots Q (F0 m x.1 ls (st.map (up ad))) := by
  obtain ⟨pc, i, nx, r1, r2, cst, ts⟩ := x
  obtain ⟨hd, hn, -⟩ := eok_spec hok
  simp only at hd hn
  have no1 : ∀ {α : Type} {o : Option α} {k : α → SR}, (∀ x, k x = .inl (some r) → False) → ofo o k = .inl (some r) → False := by
    intro α o k h1 h2
    cases o with
    | none => cases h2
    | some x => exact h1 x h2
  have no2 : ∀ {o : PO} {k nx : Nat} {rest : List Value}, calr o k nx L rest = .inl (some r) → False := by
    intro o k nx rest h
    unfold calr at h
    split at h <;> split at h <;> cases h
  cases i with
  | ireturn =>
    obtain rfl : nx = pc + 1 := by simpa [ilen] using hn
    rw [Nat.add_sub_cancel_left] at hd
    simp only [stp] at hs
    split at hs
    · rename_i v
      split at hs
      · rename_i h1
        cases hs
        exact (hE H locs ls pc hP hD hS).2.1 v rfl (Or.inl h1) hd
      · split at hs
        · rename_i h2
          cases hs
          exact (hE H locs ls pc hP hD hS).2.1 v rfl (Or.inr h2) hd
        · cases hs
    · cases hs
  | lreturn =>
    obtain rfl : nx = pc + 1 := by simpa [ilen] using hn
    rw [Nat.add_sub_cancel_left] at hd
    simp only [stp] at hs
    split at hs
    · rename_i v
      split at hs
      · rename_i h1
        cases hs
        exact (hE H locs ls pc hP hD hS).2.2 v rfl h1 hd
      · cases hs
    · cases hs
  | return_ =>
    obtain rfl : nx = pc + 1 := by simpa [ilen] using hn
    rw [Nat.add_sub_cancel_left] at hd
    simp only [stp] at hs
    split at hs
    · split at hs
      · rename_i h1
        cases hs
        exact (hE H locs ls pc hP hD hS).1 rfl h1 hd
      · cases hs
    · cases hs
  | invokestatic ix =>
    simp only [stp] at hs
    split at hs
    · cases hs
    · exact (no2 hs).elim
  | invokevirtual ix =>
    simp only [stp] at hs
    split at hs
    · cases hs
    · exact (no2 hs).elim
  | getfield ix =>
    simp only [stp] at hs
    split at hs
    · exact (no1 (fun x h => by cases h) hs).elim
    · cases hs
  | putfield ix =>
    simp only [stp] at hs
    split at hs
    · exact (no1 (fun x h => by cases h) hs).elim
    · cases hs
  | iaload =>
    simp only [stp] at hs
    split at hs
    · exact (no1 (fun x h => by cases h) hs).elim
    · cases hs
  | laload =>
    simp only [stp] at hs
    split at hs
    · exact (no1 (fun x h => by cases h) hs).elim
    · cases hs
  | iastore =>
    simp only [stp] at hs
    split at hs
    · exact (no1 (fun x h => by cases h) hs).elim
    · cases hs
  | lastore =>
    simp only [stp] at hs
    split at hs
    · exact (no1 (fun x h => by cases h) hs).elim
    · cases hs
  | arraylength =>
    simp only [stp] at hs
    split at hs
    · exact (no1 (fun x h => by cases h) hs).elim
    · cases hs
  | _ =>
    simp only [stp] at hs
    first
      | (cases hs; done)
      | (split at hs <;> first | (cases hs; done) | (split at hs <;> cases hs; done))
theorem bodyW (T : Tk lay nm TW NM NF G pf pm pk) (F : Fx lay d nm TW NM NF o bytes maxL p s m args c R cells slots A cI cL D sc ad) (HM : MetAll l D cI cL lay TW NM NF G d) {code : List XE} (hc : ∀ x ∈ code, eok pf pm pk o bytes x = true) {r : Option Value × PM}
    (hE : Ends p l e R s m args below meth c cells slots Q lay bytes A cI cL D ad rk r) : ∀ (n : Nat) (q : PQ) (H : Heap) (locs : List Loc) (ls : Array Slot), rnn code lay sc (pcl G lay d) rk n q = some r →
      va_P D vwCl (wld cI cL ad lay q.2.2.2) H → va_D A (wld cI cL ad lay q.2.2.2) → va_S A s.heap H locs → lv_has ls maxL (asc ad q.2.1) → q.2.1.length = maxL → W p l e R s m args below meth c H locs cells slots Q (F0 m q.1 ls (q.2.2.1.map (up ad))) := by
  intro n
  induction n with
  | zero => intro q H locs ls h; simp [rnn] at h
  | succ n ih =>
    intro q H locs ls h hP hD hS hl hL
    rw [rnn] at h
    cases hf : fet code q.1 with
    | none => rw [hf] at h; simp at h
    | some x =>
      rw [hf] at h
      simp only at h
      obtain ⟨hx1, hx2⟩ := fet_spec hf
      rw [← hx2]
      cases hs : stp lay sc (pcl G lay d) rk x q.2.1 q.2.2.1 q.2.2.2 with
      | inl o =>
        rw [hs] at h
        simp only at h
        subst h
        exact endW (hc x hx1) hs hP hD hS hE
      | inr q' =>
        rw [hs] at h
        exact stepW T F HM (hc x hx1) hs hP hD hS hl hL (fun H' locs' ls' h1 h2 h3 h4 h5 => ih q' H' locs' ls' h h1 h2 h3 h4 h5)
theorem metAll (T : Tk lay nm TW NM NF G pf pm pk) : ∀ d, MetAll l D cI cL lay TW NM NF G d := by
  intro d
  induction d with
  | zero =>
    intro id mt vs M r h0 hG h
    rw [pcl_0] at h
    cases h
  | succ d ih =>
    intro id mt vs M r h0 hG h ad sz
    rw [pcl, if_neg (Nat.not_lt.mpr h0), hG] at h
    simp only at h
    split at h
    · cases h
    rename_i hlen
    have hlen : (entl vs).length ≤ mt.2.2.2.1 := Nat.not_lt.mp hlen
    obtain ⟨n, hn⟩ := evn_iff.mp h
    obtain ⟨hm, hcode⟩ := T.2.2.2.2.2.2 _ _ hG
    refine Met.ofW (cc := mt.2.2.1) (maxL := mt.2.2.2.1) (ret := rty mt.2.2.2.2.1) hm.2.1 rfl ?_
    intro p e s m args below meth c s₁ B hml hv
    obtain ⟨rfl, hsz, hP, hK, hD0, hNM, hNF⟩ := hv
    have hx := B.exec
    have hb := B.bytes
    have hr := B.returns
    have hts := atoms_spec (ws := wsM TW mt) B.pre
    have hown : s.vm.findClass mt.2.1.cls = some m.cls := findClass_of_methodNamed B.named
    have hlocks := B.notSynchronized
    subst hsz
    have hD := hD0.self (sz := s.heap.size)
    generalize hAe : va_A (wld cI cL ad lay M) s.heap.size = A at hD ⊢
    have hA : ∀ q : Nat, s.heap.size ≤ q → A q := fun q h => by rw [← hAe]; exact Or.inr h
    have hS : va_S A s.heap s.heap [] := va_S.rf
    have hl := lv_entry (vs.map (up ad)) (n := mt.2.2.2.1) (by rw [entl_len]; exact hlen)
    rw [lg_entry_eq]
    generalize (lg_sl (vs.map (up ad)) ++ List.replicate (mt.2.2.2.1 - (lg_sl (vs.map (up ad))).length) Slot.unset).toArray = ls at hl ⊢
    have F : Fx lay d nm TW NM NF mt.1 mt.2.2.1 mt.2.2.2.1 p s m (vs.map (up ad)).toArray c (headSpec (wsM TW mt) (rmm (d + 1))).room 0 0 A cI cL D none ad := by
      refine ⟨hx, hb, hml, by rw [hm.1]; exact hown, fun w h => hts w (List.mem_cons_of_mem _ h), hNM, hNF, hK, hA, (fun n xs h => by cases h), Nat.zero_le _, Nat.zero_le _, ?_, ?_⟩
      · show d ≤ d + 1 - 1; omega
      · show 41 * d ≤ 41 * (d + 1 - 1); omega
    refine bodyW (code := mt.2.2.2.2.2.2.2) T F ih hcode (r := r) ?_ n (0, ent mt.2.2.2.1 vs, [], M) s.heap [] ls hn hP hD hS (lv_mono hl asc_ent) (ent_len hlen)
    obtain ⟨rv, M'⟩ := r
    intro H' locs' ls' pc' hP' hD' hS'
    refine ⟨fun h1 h2 h3 => ?_, fun v h1 h2 h3 => ?_, fun v h1 h2 h3 => ?_⟩
    · simp only at h1
      subst h1
      rw [h2] at hr
      exact W.vret hx hb hr (fun t ht hW => ⟨⟨M', rfl, rfl, by rw [ht]; exact hP', va_K.moved hW.alike hK, hD'⟩, hS'.F ht⟩) hS'.2.2 h3
    · simp only at h1
      subst h1
      rcases h2 with h2 | ⟨h2, h4⟩
      · rw [h2] at hr
        exact W.iret hx hb hr (fun t ht hW => ⟨⟨v, M', rfl, ⟨rfl, rfl⟩, by rw [ht]; exact hP', va_K.moved hW.alike hK, hD'⟩, hS'.F ht⟩) hS'.2.2 h3
      · rw [h2] at hr
        have hnar : narrow .boolean (.int v) = .int v := by
          rcases h4 with rfl | rfl
          · show Value.int ((0 : Int32) &&& 1) = Value.int 0; decide
          · show Value.int ((1 : Int32) &&& 1) = Value.int 1; decide
        exact W.zret hx hb hr hnar (fun t ht hW => ⟨⟨v, M', rfl, ⟨rfl, rfl⟩, by rw [ht]; exact hP', va_K.moved hW.alike hK, hD'⟩, hS'.F ht⟩) hS'.2.2 h3
    · simp only at h1
      subst h1
      rw [h2] at hr
      exact W.lret hx hb hr (fun t ht hW => ⟨⟨v, M', rfl, ⟨rfl, rfl⟩, by rw [ht]; exact hP', va_K.moved hW.alike hK, hD'⟩, hS'.F ht⟩) hS'.2.2 h3
end
