/-! strings, what makes and writes: the base -/
section
variable {p : Program} {l : Launch} {e : Env} {R : Room} {s : State} {m : MethodId} {args : Array Value} {below : List Frame} {meth : Method} {c : Code} {cells slots : Nat} {Q : State → Prop}
variable {D : va_G} {cl : List vw_C} {ws : va_W} {A : Nat → Prop} {H0 H : Heap} {locs : List Loc} {ls : Array Slot} {rest : List Value} {pc : Nat} {cc : ByteArray} {cB : ClassId}
theorem va_lt (h : va_P D cl ws H) {k : Nat} {q : Nat × va_E} (hk : ws[k]? = some q) : q.1 < H.size := by
  have h1 := h k q hk
  unfold va_at at h1
  split at h1
  · exact (Array.getElem?_eq_some_iff.mp h1).1
  · obtain ⟨r, -, cell, h2, -⟩ := h1
    exact (Array.getElem?_eq_some_iff.mp h2).1
/-- what is only read stays, whatever is written elsewhere -/
theorem ro_keep (hP : va_P D cl ws H0) (hA : ∀ (k : Nat) (q : Nat × va_E), ws[k]? = some q → ¬ A q.1) (hS : va_S A H0 H locs) : va_P D cl ws H := hP.kept (fun k q hk => hS.2.1 q.1 (va_lt hP hk) (hA k q hk))
theorem ro_new (hP : va_P D cl ws H0) : ∀ (k : Nat) (q : Nat × va_E), ws[k]? = some q → ¬ va_A [] H0.size q.1 := by
  rintro k q hk (⟨i, e, h⟩ | h)
  · cases h
  · have := va_lt hP hk
    omega
theorem newaB (hexec : p.tables.exec = Jvm.exec) (hb : c.code = cc) (harr : (Cond.arrayClass .byte).before args s = true) (hK : va_K D cl [(cB, .byte)] s) (hP : va_P D cl ws H) (hD : va_D A ws) (hS : va_S A s.heap H locs) (hA : ∀ q, s.heap.size ≤ q → A q)
    {n : Int32} {N : Nat} (hn : ¬ n < 0) (hN : n.toNatClampNeg = N) (hbytes : N * componentBytes .byte ≤ 536870912) (hcells : cells + 1 ≤ R.cells) (hslots : slots + N ≤ R.slots) (hdg : decode cc pc = .ok (.newarray .byte, 2))
    (kk : ∀ (q : Nat) (H1 : Heap), va_P D cl (ws ++ [(q, .inl (cB, N, .inl (fun _ => 0)))]) H1 → va_D A (ws ++ [(q, .inl (cB, N, .inl (fun _ => 0)))]) → va_S A s.heap H1 locs →
      W p l e R s m args below meth c H1 locs (cells + 1) (slots + N) Q (F0 m (pc + 2) ls (.ref q :: rest))) : W p l e R s m args below meth c H locs cells slots Q (F0 m pc ls (.int n :: rest)) := by
  refine va_newa (atype := .byte) (ty := .byte) (a0 := (N, .inl (fun _ => 0))) hexec hb harr rfl hK hP hD hS hA (fun _ => rfl) hn hN hbytes hcells hslots hdg (fun q cA H1 hK1 hP1 hD1 hS1 => ?_)
  have e : cA = cB := Option.some.inj ((hK1.2 1 (cA, .byte) rfl).2.symm.trans (hK.2 0 (cB, .byte) rfl).2)
  subst e
  exact kk q H1 hP1 hD1 hS1
theorem ro_T {n b q0 : Nat} {f : Nat → Int32} (hK : va_K D cl [(cB, .byte)] s) (hP : va_P D cl ws H) (ha : ws[q0]? = some (b, .inl (cB, n, .inl f))) (hA : ¬ A b) : va_T .byte b n (fun j => .int (f j)) A s H := by
  refine ⟨arrV cB n (fun j => .int (f j)), hP q0 _ ha, (hK.2 0 _ rfl).1 n _, (fun z => by cases z), ?_, ?_, fun j hj => arrV_read _ _ hj, hA⟩
  · rw [arrV_size]; exact Nat.le_refl _
  · rw [arrV_size]
/-- the statics are none of the world's cells -/
theorem z_in {C n d : String} {v : Value} (h : va_Z C n d v (fun _ => False) s H) (hP : va_P D cl ws H) : va_Z C n d v (va_A ws H.size) s H := by
  obtain ⟨cf, kf, fi, f, a, cell, h1, h2, h3, h4, h5, h6, h7, h8⟩ := h
  refine ⟨cf, kf, fi, f, a, cell, h1, h2, h3, h4, h5, h6, h7, ?_⟩
  rintro (⟨k, e, hk⟩ | hk)
  · have h9 := hP k _ hk
    unfold va_at at h9
    split at h9
    · rename_i x hx
      have e1 : cell = vp_cell x.1 x.2 := Option.some.inj (h5.symm.trans h9)
      rw [e1] at h6
      obtain ⟨c0, n0, g⟩ := x
      rcases g with g | g | g | g | g <;> cases h6
    · obtain ⟨r, -, cell2, h10, -, h11, -⟩ := h9
      have e1 : cell = cell2 := Option.some.inj (h5.symm.trans h10)
      rw [e1, h11] at h6
      cases h6
  · have := (Array.getElem?_eq_some_iff.mp h5).1
    omega
theorem Jd.inA (h : Jd D cB (fun _ => False) s H) (hP : va_P D cl ws H) : Jd D cB (va_A ws H.size) s H := by
  refine ⟨h.1, z_in h.2.1 hP, ?_, h.2.2.2⟩
  rcases h.2.2.1 with z | ⟨t, z⟩
  · exact Or.inl (z_in z hP)
  · exact Or.inr ⟨t, z_in z hP⟩
/-- the statics, behind what was written -/
theorem Jd.keep (h : Jd D cB A s s.heap) (hS : va_S A s.heap H locs) : Jd D cB (fun _ => False) s H := by
  refine ⟨h.1, (h.2.1.kept hS.2.1).narrow (fun _ z => z.elim), ?_, h.2.2.2⟩
  rcases h.2.2.1 with z | ⟨t, z⟩
  · exact Or.inl ((z.kept hS.2.1).narrow (fun _ z => z.elim))
  · exact Or.inr ⟨t, (z.kept hS.2.1).narrow (fun _ z => z.elim)⟩
/-- a row's contents count where the row is -/
theorem cell_eq {n : Nat} {f g : Nat → Int32} (h : ∀ j, j < n → f j = g j) : vp_cell cB (n, .inl f) = vp_cell cB (n, .inl g) := by
  show arrV cB n (fun j => .int (f j)) = arrV cB n (fun j => .int (g j))
  unfold arrV
  congr 1
  apply Array.ext
  · rw [Array.size_ofFn, Array.size_ofFn]
  · intro i h1 h2
    rw [Array.size_ofFn] at h1
    rw [Array.getElem_ofFn, Array.getElem_ofFn]
    show Value.int (f i) = Value.int (g i)
    rw [h i h1]
theorem va_as {b n q0 : Nat} {f g : Nat → Int32} (hP : va_P D cl ws H) (ha : ws[q0]? = some (b, .inl (cB, n, .inl f))) (h : ∀ j, j < n → f j = g j) : va_P D cl (ws.set q0 (b, .inl (cB, n, .inl g))) H := by
  intro k q hk
  by_cases e : k = q0
  · subst e
    have hl := (List.getElem?_eq_some_iff.mp ha).1
    rw [List.getElem?_set_self hl] at hk
    cases hk
    have h1 := hP k _ ha
    show H[b]? = some (vp_cell cB (n, .inl g))
    rw [← cell_eq h]
    exact h1
  · rw [List.getElem?_set_ne (fun z => e z.symm)] at hk
    exact hP k q hk
end
/-- what fits a byte -/
def fitB8 (f : Nat → Int32) (n : Nat) : Prop := ∀ k, k < n → fits .byte (.int (f k)) = true
/-- signs below 128 -/
def As (t : List Int32) : Prop := ∀ c ∈ t, ∃ k, c = jn k ∧ k < 128
theorem fit_128 : ∀ k, k < 128 → fits .byte (.int (jn k)) = true := by decide +kernel
theorem as_fB {t : List Int32} (h : As t) : fitB8 (bt t) t.length := by
  intro k hk
  unfold bt
  rw [List.getD_eq_getElem?_getD, List.getElem?_eq_getElem hk]
  obtain ⟨j, h1, h2⟩ := h _ (List.getElem_mem hk)
  show fits .byte (.int t[k]) = true
  rw [h1]
  exact fit_128 j h2
/-- what is only read lies apart from what is owned -/
def RoSep (RO : List RoE) (W0 : va_W) : Prop := ∀ x ∈ RO, ∀ (j : Nat) (y : Nat × va_E), W0[j]? = some y → (match x with
  | .inl q => q.1 ≠ y.1 ∧ q.2.1 ≠ y.1
  | .inr q => q.1 ≠ y.1)
theorem rsep_0 {RO : List RoE} : RoSep RO [] := fun _ _ j y h => by cases h
theorem rsep_l {W0 : va_W} : RoSep [] W0 := fun x h => by cases h
theorem rsep_A {RO : List RoE} {W0 : va_W} {A : Nat → Prop} {s : State} {H : Heap} (h : Ro RO A s H) (hD : va_D A W0) : RoSep RO W0 := by
  intro x hx j y hy
  have h1 := h x hx
  have h2 := hD.2 j y hy
  rcases x with q | q
  · obtain ⟨⟨-, -, -, -, a1⟩, -, -, ⟨-, -, -, -, -, -, -, a2⟩⟩ := h1
    exact ⟨fun e => a1 (by rw [e]; exact h2), fun e => a2 (by rw [e]; exact h2)⟩
  · obtain ⟨-, -, -, -, -, -, -, a2⟩ := h1
    exact fun e => a2 (by rw [e]; exact h2)
theorem n_A {W0 : va_W} {a n : Nat} (hlt : a < n) (hne : ∀ (j : Nat) (y : Nat × va_E), W0[j]? = some y → a ≠ y.1) : ¬ va_A W0 n a := by
  rintro (⟨k, e, h⟩ | h)
  · exact hne k _ h rfl
  · omega
theorem ro_inA {RO : List RoE} {W0 : va_W} {s : State} {H : Heap} (h : Ro RO (fun _ => False) s H) (hs : RoSep RO W0) : Ro RO (va_A W0 H.size) s H := by
  intro x hx
  have h1 := h x hx
  have h2 := hs x hx
  rcases x with q | q
  · obtain ⟨⟨c1, b1, b2, b3, -⟩, ⟨cf, k, i, f, c2, b4, b5, b6, b7, b8, -⟩, ⟨cf', k', i', f', c3, b9, b10, b11, b12, b13, -⟩, ⟨c4, b14, b15, b16, b17, b18, b19, -⟩⟩ := h1
    have n1 := n_A (Array.getElem?_eq_some_iff.mp b1).1 (fun j y hy => (h2 j y hy).1)
    have n2 := n_A (Array.getElem?_eq_some_iff.mp b14).1 (fun j y hy => (h2 j y hy).2)
    exact ⟨⟨c1, b1, b2, b3, n1⟩, ⟨cf, k, i, f, c2, b4, b5, b6, b7, b8, n1⟩, ⟨cf', k', i', f', c3, b9, b10, b11, b12, b13, n1⟩, ⟨c4, b14, b15, b16, b17, b18, b19, n2⟩⟩
  · obtain ⟨c4, b14, b15, b16, b17, b18, b19, -⟩ := h1
    exact ⟨c4, b14, b15, b16, b17, b18, b19, n_A (Array.getElem?_eq_some_iff.mp b14).1 (fun j y hy => h2 j y hy)⟩
def PrW (D : va_G) (cB : ClassId) (sz : Nat) (RO : List RoE) (W0 : va_W) (X : Prop) : State → Prop := fun U => (U.heap.size = sz ∧ Ro RO (fun _ => False) U U.heap ∧ va_P D vwCl W0 U.heap ∧ va_D (fun _ => True) W0 ∧ RoSep RO W0 ∧ X) ∧ Jd D cB (fun _ => False) U U.heap
theorem prw_blind {D : va_G} {cB : ClassId} {sz : Nat} {RO : List RoE} {W0 : va_W} {X : Prop} {av : List Value} : FrameBlind (va_Pc av (PrW D cB sz RO W0 X)) := fun a U g mk q => ⟨q.1, ⟨q.2.1.1, fun x hx => (q.2.1.2.1 x hx).moved (u := U) (U := U.calling g mk a) (Vm.Alike.refl U.vm), q.2.1.2.2⟩, Jd.moved (u := U) (U := U.calling g mk a) (Vm.Alike.refl U.vm) (Sl.same rfl) q.2.2⟩
theorem prw_call {D : va_G} {cB : ClassId} {RO : List RoE} {W0 : va_W} {X : Prop} {s U : State} {H : Heap} (hU : U.heap = H) (hW : s.WarmedH U.vm) (hR : Ro RO (fun _ => False) s H) (hP : va_P D vwCl W0 H) (hD : va_D (fun _ => True) W0) (hs : RoSep RO W0) (hX : X) (hJ : Jd D cB (fun _ => False) s H) : PrW D cB H.size RO W0 X U := by
  refine ⟨⟨by rw [hU], ?_, by rw [hU]; exact hP, hD, hs, hX⟩, ?_⟩
  · rw [hU]
    exact fun x hx => (hR x hx).moved hW.alike
  · rw [hU]
    exact hJ.moved hW.alike (Sl.warm hW)
theorem P_T {D : va_G} {cl : List vw_C} {cB : ClassId} {ws : va_W} {s : State} {H : Heap} {b n : Nat} {f : Nat → Int32} (q0 : Nat) (hK : va_K D cl [(cB, .byte)] s) (hP : va_P D cl ws H) (ha : ws[q0]? = some (b, .inl (cB, n, .inl f))) : RoF (.inr (b, n, f)) (fun _ => False) s H := by
  show va_T .byte b n (fun j => .int (f j)) (fun _ => False) s H
  exact ro_T hK hP ha (fun z => z)
theorem P_0 {D : va_G} {cl : List vw_C} {H : Heap} : va_P D cl [] H := fun k q h => by cases h
theorem D_0 {A : Nat → Prop} : va_D A [] := ⟨fun i j p q h => (by cases h), fun k q h => (by cases h)⟩
theorem g_inh {own C : String} {ix : Nat} {y : MethodName} {ws : List Jvm.Cond} (h1 : Jvm.Cond.methodLink own ix y ∈ TW) (h2 : Jvm.Cond.sameMethod y.cls y.cls y.name y.desc ∈ TW) (h3 : Jvm.Cond.selects C y y ∈ TW) (h4 : Jvm.Cond.instanceMethod y ∈ TW) (h5 : Jvm.Cond.initialized y.cls ∈ TW) (h : GoodIn TW ws) : GoodIn TW (va_wsU own ix C y.cls y y ws) := by
  intro w hw
  unfold va_wsU at hw
  rcases List.mem_append.mp hw with hw | hw
  · rcases List.mem_cons.mp hw with rfl | hw
    · exact ⟨h1, good_of_word (TW_good _ h1)⟩
    rcases List.mem_cons.mp hw with rfl | hw
    · exact ⟨h2, good_of_word (TW_good _ h2)⟩
    rcases List.mem_cons.mp hw with rfl | hw
    · exact ⟨h3, good_of_word (TW_good _ h3)⟩
    rcases List.mem_cons.mp hw with rfl | hw
    · exact ⟨h4, good_of_word (TW_good _ h4)⟩
    rcases List.mem_cons.mp hw with rfl | hw
    · exact ⟨h5, good_of_word (TW_good _ h5)⟩
    · cases hw
  · exact h w hw
section
variable {p : Program} {l : Launch} {e : Env} {R : Room} {s : State} {m : MethodId} {args : Array Value} {below : List Frame} {meth : Method} {c : Code} {cells slots : Nat} {Q : State → Prop}
variable {D : va_G} {ws : va_W} {H : Heap} {ls : Array Slot} {rest : List Value} {pc : Nat} {cc : ByteArray} {cB : ClassId}
/-- a row of bytes twice -/
theorem cloneB (hexec : p.tables.exec = Jvm.exec) (hb : c.code = cc) (hml : c.maxLocals = ls.size) {own : String} {index b n : Nat} {f : Nat → Int32} (hown : s.vm.findClass own = some m.cls)
    (hlink : (Cond.methodLink own index ⟨"[B", "clone", "()Ljava/lang/Object;"⟩).before args s = true) (hsame : (Cond.sameMethod "[B" "java/lang/Object" "clone" "()Ljava/lang/Object;").before args s = true)
    (hnat : (Cond.native ⟨"java/lang/Object", "clone", "()Ljava/lang/Object;"⟩).before args s = true) (hinst : (Cond.instanceMethod ⟨"java/lang/Object", "clone", "()Ljava/lang/Object;"⟩).before args s = true)
    (hsel : (Cond.selects "[B" ⟨"[B", "clone", "()Ljava/lang/Object;"⟩ ⟨"java/lang/Object", "clone", "()Ljava/lang/Object;"⟩).before args s = true) (hcl : va_Nw (.castable "[B" "java/lang/Cloneable") s)
    (hK : va_K D vwCl [(cB, .byte)] s) (hP : va_P D vwCl [(b, .inl (cB, n, .inl f))] H) (hfit : fitB8 f n)
    (hframes : 1 ≤ R.frames) (hlocals : (rest.map fun v => v.category).sum + 14 ≤ R.locals) (hcells : cells + 1 ≤ R.cells) (hslots : slots + n ≤ R.slots) (hdg : decode cc pc = .ok (.invokevirtual index, 3))
    (kk : ∀ (q : Nat) (H1 : Heap), va_P D vwCl [(q, .inl (cB, n, .inl f))] H1 → H.size ≤ q → H.size ≤ H1.size → (∀ q : Nat, q < H.size → H1[q]? = H[q]?) →
      W p l e R s m args below meth c H1 [] (cells + 1) (slots + n) Q (F0 m (pc + 3) ls (.ref q :: rest))) : W p l e R s m args below meth c H [] cells slots Q (F0 m pc ls (.ref b :: rest)) := by
  have hD : va_D (va_A [(b, .inl (cB, n, .inl f))] H.size) [(b, .inl (cB, n, .inl f))] := by
    refine ⟨fun i j x y hx hy _ => ?_, fun k q hk => va_A.in hk⟩
    have := (List.getElem?_eq_some_iff.mp hx).1
    have := (List.getElem?_eq_some_iff.mp hy).1
    simp only [List.length_cons, List.length_nil] at *
    omega
  refine va_clone (ws := [(b, .inl (cB, n, .inl f))]) (A := va_A [(b, .inl (cB, n, .inl f))] H.size) (H0 := H) hexec hb hml hown hlink hsame hnat hinst hsel hcl hK hP hD va_S.rf (fun q h => Or.inr h) 0 0 rfl rfl (va_nm_byte (hK.2 0 _ rfl).2) (fun i v hv => ?_) hframes hlocals hcells hslots hdg (fun q H1 hK1 hP1 hD1 hS1 => ?_)
  · have hi : i < n := by
      have := (Array.getElem?_eq_some_iff.mp hv).1
      rw [show (vp_cell cB (n, .inl f)).slots.size = n from arrV_size _ _ _] at this
      exact this
    rw [show (vp_cell cB (n, .inl f)).slots[i]? = some (.int (f i)) from arrV_read _ _ hi] at hv
    cases hv
    exact hfit i hi
  · have hq : va_A [(b, .inl (cB, n, .inl f))] H.size q := hD1.2 1 _ rfl
    have hqb : b ≠ q := fun z => absurd (hD1.1 0 1 _ _ rfl rfl z) (by decide)
    refine kk q H1 (hP1.sub [1] rfl) ?_ hS1.1 (fun x hx => ?_)
    · rcases hq with ⟨k, e2, hk⟩ | hq
      · exfalso
        match k, hk with
        | 0, hk => cases hk; exact hqb rfl
      · exact hq
    · by_cases hxb : x = b
      · subst hxb
        have h1 : H1[x]? = some (vp_cell cB (n, .inl f)) := hP1 0 _ rfl
        have h2 : H[x]? = some (vp_cell cB (n, .inl f)) := hP 0 _ rfl
        rw [h1, h2]
      · refine hS1.2.1 x hx ?_
        rintro (⟨k, e2, hk⟩ | hk)
        · match k, hk with
          | 0, hk => cases hk; exact hxb rfl
        · omega
end
