/-! strings on the machine: what every contract of theirs stands on -/
theorem uw_11 : ∀ w ∈ u_ws RJ0 TJ0 4, w ∈ TW := (tk.2.2.2.1 11 _ _ _ rfl).1
theorem uw_12 : ∀ w ∈ u_ws RJ4 TJ4 4, w ∈ TW := (tk.2.2.2.1 12 _ _ _ rfl).1
def bt (t : List Int32) : Nat → Int32 := fun j => t.getD j 0
abbrev wD (y : MethodName) (cc : ByteArray) (n : Nat) (ret : Option FieldType) : List Jvm.Cond := Jvm.Cond.code y cc n ret :: TW
/-- the builder's elder class's private methods, asked of a builder -/
def Sl (U : State) : Prop := ∀ y ∈ [yJ5_ensureCapacityInternal_d00df, yJ5_newCapacity_0f7a4, yJ5_putStringAt_47b60, yJ5_inflateIfNeededFor_a7421], va_Nw (.selects RJ4 y y) U
theorem Sl.same {u U : State} (h : u.vm = U.vm) (hs : Sl u) : Sl U := fun y hy => va_Nw.same rfl h (hs y hy)
theorem Sl.warm {s U : State} (hW : s.WarmedH U.vm) (hs : Sl s) : Sl U := fun y hy => word_at hW (Or.inl rfl) (hs y hy)
/-- the row of bytes' class, the JDK's two statics -/
def Jd (D : va_G) (cB : ClassId) (A : Nat → Prop) (U : State) (H : Heap) : Prop := va_K D vwCl [(cB, .byte)] U ∧ va_Z "java/lang/String" "COMPACT_STRINGS" "Z" (.int 1) A U H ∧ va_Zq "jdk/internal/util/Preconditions" "SIOOBE_FORMATTER" "Ljava/util/function/BiFunction;" A U H ∧ va_Nw (.castable "[B" "java/lang/Cloneable") U ∧ Sl U
theorem Jd.moved {D : va_G} {cB : ClassId} {A : Nat → Prop} {u U : State} {H : Heap} (hvm : u.vm.Alike U.vm) (hs : Sl u → Sl U) (h : Jd D cB A u H) : Jd D cB A U H := ⟨va_K.moved hvm h.1, va_Z.moved hvm h.2.1, va_Zq.moved hvm h.2.2.1, va_tabs rfl (rfl : (u.setVm U.vm).vm = U.vm) (by rw [Cond.castable_setVm hvm]; exact h.2.2.2.1), hs h.2.2.2.2⟩
/-- a row of bytes, a string, as they may be read: constants too -/
def Tf (b n : Nat) (f : Nat → Int32) (A : Nat → Prop) (U : State) (H : Heap) : Prop := va_T .byte b n (fun j => .int (f j)) A U H
def Sf (a b : Nat) (t : List Int32) (A : Nat → Prop) (U : State) (H : Heap) : Prop := va_O "java/lang/String" a A U H ∧ va_OF "java/lang/String" "coder" "B" (.int 0) a A U H ∧ va_OF "java/lang/String" "value" "[B" (.ref b) a A U H ∧ Tf b t.length (bt t) A U H
abbrev RoE : Type := (Nat × Nat × List Int32) ⊕ (Nat × Nat × (Nat → Int32))
def RoF (x : RoE) (A : Nat → Prop) (U : State) (H : Heap) : Prop := match x with
  | .inl q => Sf q.1 q.2.1 q.2.2 A U H
  | .inr q => Tf q.1 q.2.1 q.2.2 A U H
def Ro (l : List RoE) (A : Nat → Prop) (U : State) (H : Heap) : Prop := ∀ x ∈ l, RoF x A U H
theorem RoF.moved {x : RoE} {A : Nat → Prop} {u U : State} {H : Heap} (hvm : u.vm.Alike U.vm) (h : RoF x A u H) : RoF x A U H := by
  rcases x with q | q
  · exact ⟨va_O.moved hvm h.1, va_OF.moved hvm h.2.1, va_OF.moved hvm h.2.2.1, va_T.moved hvm h.2.2.2⟩
  · exact va_T.moved hvm h
theorem RoF.at {x : RoE} {A : Nat → Prop} {s : State} {H0 H : Heap} {locs : List Loc} (h : RoF x A s H0) (hS : va_S A H0 H locs) : RoF x (fun _ => False) s H := by
  rcases x with q | q
  · exact ⟨(h.1.kept hS.2.1).narrow (fun _ z => z.elim), (h.2.1.kept hS.2.1).narrow (fun _ z => z.elim), (h.2.2.1.kept hS.2.1).narrow (fun _ z => z.elim), (va_T.kept h.2.2.2 hS.2.1).narrow (fun _ z => z.elim)⟩
  · exact va_T.narrow (A := A) (va_T.kept h hS.2.1) (fun _ z => False.elim z)
theorem ro_nil {A : Nat → Prop} {U : State} {H : Heap} : Ro [] A U H := fun x h => by cases h
theorem ro_cons {x : RoE} {l : List RoE} {A : Nat → Prop} {U : State} {H : Heap} (h : RoF x A U H) (hl : Ro l A U H) : Ro (x :: l) A U H := fun y hy => by
  rcases List.mem_cons.mp hy with rfl | hy
  · exact h
  · exact hl y hy
theorem ro_at {x : RoE} {l : List RoE} {A : Nat → Prop} {U : State} {H : Heap} (h : Ro l A U H) (k : Nat) (hk : l[k]? = some x) : RoF x A U H := h x (List.mem_of_getElem? hk)
theorem Sf.rec {a b : Nat} {t : List Int32} {A : Nat → Prop} {s : State} {H0 H : Heap} {locs : List Loc} (h : Sf a b t A s H0) (hS : va_S A H0 H locs) : ∃ cell : Cell, H[a]? = some cell ∧ cell.vm.isStatics = false ∧ s.vm.findClass RJ0 = some cell.cls := by
  obtain ⟨cell, h1, h2, h3, -⟩ := h.1.kept hS.2.1
  exact ⟨cell, h1, h2, h3⟩
def PrJ (D : va_G) (cB : ClassId) (RO : List RoE) (X : Heap → Prop) : State → Prop := fun U => X U.heap ∧ Ro RO (fun _ => False) U U.heap ∧ Jd D cB (fun _ => False) U U.heap
theorem pre_blind {D : va_G} {cB : ClassId} {RO : List RoE} {X : Heap → Prop} {av : List Value} : FrameBlind (va_Pc av (PrJ D cB RO X)) := fun a U g mk q => ⟨q.1, q.2.1, fun x hx => (q.2.2.1 x hx).moved (u := U) (U := U.calling g mk a) (Vm.Alike.refl U.vm), Jd.moved (u := U) (U := U.calling g mk a) (Vm.Alike.refl U.vm) (Sl.same rfl) q.2.2.2⟩
theorem pre_call {D : va_G} {cB : ClassId} {RO : List RoE} {X : Heap → Prop} {s U : State} {H : Heap} (hU : U.heap = H) (hW : s.WarmedH U.vm) (hX : X H) (hR : Ro RO (fun _ => False) s H) (hJ : Jd D cB (fun _ => False) s H) : PrJ D cB RO X U := by
  refine ⟨by rw [hU]; exact hX, ?_, ?_⟩
  · rw [hU]; exact fun x hx => (hR x hx).moved hW.alike
  · rw [hU]; exact hJ.moved hW.alike (Sl.warm hW)
/-- what leaves the heap as it is -/
def Sri (post : Int32 → Prop) : Array Value → State → Outcome → State → Prop := fun _ st oc t => ∃ r : Int32, oc = .returned (some (.int r)) ∧ post r ∧ t.heap = st.heap
def Srj : Array Value → State → Outcome → State → Prop := fun _ st oc t => oc = .returned none ∧ t.heap = st.heap
section
variable {p : Program} {l : Launch} {e : Env} {R : Room} {s : State} {m : MethodId} {args : Array Value} {below : List Frame} {meth : Method} {c : Code} {H : Heap} {locs : List Loc} {cells slots : Nat} {Q : State → Prop}
variable {pc : Nat} {ls : Array Slot} {rest st0 : List Value} {a : Array Value}
theorem sc_i {post : Int32 → Prop} (hr : va_Run p l e R s m args below meth c H locs cells slots 0 0 (F0 m pc ls st0) rest (Sri post a) (fun _ => False))
    (kk : ∀ r : Int32, post r → W p l e R s m args below meth c H locs cells slots Q (F0 m (pc + 3) ls (.int r :: rest))) : W p l e R s m args below meth c H locs cells slots Q (F0 m pc ls st0) := by
  intro T hT X
  obtain ⟨v, st₀, t, T', L, h0, X', hL, e1, -, ⟨k, hv, hp, hh⟩, st⟩ := hr T hT X
  cases hv
  obtain ⟨t2, a1, b1⟩ := kk k hp T' (by rw [e1, hh, h0]) (Stand.forget X' (fun q h => (hL q h).elim))
  exact ⟨t2, st t2 a1, b1⟩
theorem sc_v (hr : va_Run p l e R s m args below meth c H locs cells slots 0 0 (F0 m pc ls st0) rest (Srj a) (fun _ => False))
    (kk : W p l e R s m args below meth c H locs cells slots Q (F0 m (pc + 3) ls rest)) : W p l e R s m args below meth c H locs cells slots Q (F0 m pc ls st0) := by
  intro T hT X
  obtain ⟨v, st₀, t, T', L, h0, X', hL, e1, -, ⟨hv, hh⟩, st⟩ := hr T hT X
  cases hv
  obtain ⟨t2, a1, b1⟩ := kk T' (by rw [e1, hh, h0]) (Stand.forget X' (fun q h => (hL q h).elim))
  exact ⟨t2, st t2 a1, b1⟩
end
theorem g_con {y : MethodName} {cc : ByteArray} {n : Nat} {ret : Option FieldType} (h : Jvm.Cond.code y cc n ret ∈ TW) : GoodIn TW (wD y cc n ret) := by
  intro w hw
  rcases List.mem_cons.mp hw with rfl | hw
  · exact ⟨h, good_of_word (TW_good _ h)⟩
  · exact ⟨hw, good_of_word (TW_good _ hw)⟩
theorem g_sta {own : String} {ix : Nat} {y : MethodName} {ws : List Jvm.Cond} (h1 : Jvm.Cond.methodLink own ix y ∈ TW) (h2 : Jvm.Cond.static y ∈ TW) (h3 : Jvm.Cond.initialized y.cls ∈ TW) (h : GoodIn TW ws) : GoodIn TW (va_wsS own ix y ws) := by
  intro w hw
  unfold va_wsS at hw
  rcases List.mem_append.mp hw with hw | hw
  · rcases List.mem_cons.mp hw with rfl | hw
    · exact ⟨h1, good_of_word (TW_good _ h1)⟩
    rcases List.mem_cons.mp hw with rfl | hw
    · exact ⟨h2, good_of_word (TW_good _ h2)⟩
    rcases List.mem_cons.mp hw with rfl | hw
    · exact ⟨h3, good_of_word (TW_good _ h3)⟩
    · cases hw
  · exact h w hw
theorem g_vir {own C : String} {ix : Nat} {y : MethodName} {ws : List Jvm.Cond} (h1 : Jvm.Cond.methodLink own ix y ∈ TW) (h2 : Jvm.Cond.instanceMethod y ∈ TW) (h3 : Jvm.Cond.selects C y y ∈ TW) (h4 : Jvm.Cond.initialized C ∈ TW) (h : GoodIn TW ws) : GoodIn TW (wsV own ix C y ws) := by
  intro w hw
  unfold wsV at hw
  rcases List.mem_append.mp hw with hw | hw
  · rcases List.mem_cons.mp hw with rfl | hw
    · exact ⟨h1, good_of_word (TW_good _ h1)⟩
    rcases List.mem_cons.mp hw with rfl | hw
    · exact ⟨h2, good_of_word (TW_good _ h2)⟩
    rcases List.mem_cons.mp hw with rfl | hw
    · exact ⟨h3, good_of_word (TW_good _ h3)⟩
    rcases List.mem_cons.mp hw with rfl | hw
    · exact ⟨h4, good_of_word (TW_good _ h4)⟩
    · cases hw
  · exact h w hw
theorem ofNat_jn {n : Nat} (h : n < 2147483648) : Int32.ofNat n = jn n := by
  apply Int32.toInt_inj.mp
  rw [jn_toInt h]
  exact Int32.toInt_ofNat_of_lt h
theorem vin_j {i n : Nat} (h : i < n) (hn : n < 2147483648) : vp_in (jn i) n := by
  unfold vp_in
  rw [jn_clamp (by omega)]
  rintro (z | z)
  · have := Int32.lt_iff_toInt_lt.mp z
    rw [jn_toInt (by omega)] at this
    have e : (0 : Int32).toInt = 0 := rfl
    omega
  · omega
