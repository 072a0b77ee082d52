/-! strings on the machine: what every contract of theirs stands on -/
theorem uw_11 : ∀ w ∈ u_ws RJ0 TJ0 4, w ∈ TW := (tk.2.2.2.1 11 _ _ _ rfl).1
theorem uw_12 : ∀ w ∈ u_ws RJ4 TJ4 4, w ∈ TW := (tk.2.2.2.1 12 _ _ _ rfl).1
def bt (t : List Int32) : Nat → Int32 := fun j => t.getD j 0
abbrev wD (y : MethodName) (cc : ByteArray) (n : Nat) (ret : Option FieldType) : List Jvm.Cond := Jvm.Cond.code y cc n ret :: TW
/-- the row of bytes' class, the JDK's two statics -/
def Jd (D : va_G) (cB : ClassId) (A : Nat → Prop) (U : State) (H : Heap) : Prop := va_K D vwCl [(cB, .byte)] U ∧ va_Z "java/lang/String" "COMPACT_STRINGS" "Z" (.int 1) A U H ∧ va_Zq "jdk/internal/util/Preconditions" "SIOOBE_FORMATTER" "Ljava/util/function/BiFunction;" A U H ∧ va_Nw (.castable "[B" "java/lang/Cloneable") U
theorem Jd.moved {D : va_G} {cB : ClassId} {A : Nat → Prop} {u U : State} {H : Heap} (hvm : u.vm.Alike U.vm) (h : Jd D cB A u H) : Jd D cB A U H := ⟨va_K.moved hvm h.1, va_Z.moved hvm h.2.1, va_Zq.moved hvm h.2.2.1, va_tabs rfl (rfl : (u.setVm U.vm).vm = U.vm) (by rw [Cond.castable_setVm hvm]; exact h.2.2.2)⟩
def PrJ (D : va_G) (cB : ClassId) (X : Heap → Prop) : State → Prop := fun U => X U.heap ∧ Jd D cB (fun _ => False) U U.heap
theorem pre_blind {D : va_G} {cB : ClassId} {X : Heap → Prop} {av : List Value} : FrameBlind (va_Pc av (PrJ D cB X)) := fun a U g mk q => ⟨q.1, q.2.1, Jd.moved (u := U) (U := U.calling g mk a) (Vm.Alike.refl U.vm) q.2.2⟩
theorem pre_call {D : va_G} {cB : ClassId} {X : Heap → Prop} {s U : State} {H : Heap} (hU : U.heap = H) (hW : s.WarmedH U.vm) (hX : X H) (hJ : Jd D cB (fun _ => False) s H) : PrJ D cB X U := ⟨by rw [hU]; exact hX, by rw [hU]; exact hJ.moved hW.alike⟩
/-- what leaves the heap as it is -/
def Sri (post : Int32 → Prop) : Array Value → State → Outcome → State → Prop := fun _ st oc t => ∃ r : Int32, oc = .returned (some (.int r)) ∧ post r ∧ t.heap = st.heap
def Srj : Array Value → State → Outcome → State → Prop := fun _ st oc t => oc = .returned none ∧ t.heap = st.heap
section
variable {p : Program} {l : Launch} {e : Env} {R : Room} {s : State} {m : MethodId} {args : Array Value} {below : List Frame} {meth : Method} {c : Code} {H : Heap} {locs : List Loc} {cells slots : Nat} {Q : State → Prop}
variable {pc : Nat} {ls : Array Slot} {rest st0 : List Value} {a : Array Value}
theorem sc_i {post : Int32 → Prop} (hr : va_Run p l e R s m args below meth c H locs cells slots 0 0 (F0 m pc ls st0) rest (Sri post a) (fun _ => False))
    (kk : ∀ r : Int32, post r → W p l e R s m args below meth c H locs cells slots Q (F0 m (pc + 3) ls (.int r :: rest))) : W p l e R s m args below meth c H locs cells slots Q (F0 m pc ls st0) := by
  intro T hT X
  obtain ⟨v, st₀, t, T', L, h0, X', hL, e1, -, ⟨k, hv, hp, hh⟩, st⟩ := hr T hT X
  cases hv
  obtain ⟨t2, a1, b1⟩ := kk k hp T' (by rw [e1, hh, h0]) (Stand.forget X' (fun q h => (hL q h).elim))
  exact ⟨t2, st t2 a1, b1⟩
theorem sc_v (hr : va_Run p l e R s m args below meth c H locs cells slots 0 0 (F0 m pc ls st0) rest (Srj a) (fun _ => False))
    (kk : W p l e R s m args below meth c H locs cells slots Q (F0 m (pc + 3) ls rest)) : W p l e R s m args below meth c H locs cells slots Q (F0 m pc ls st0) := by
  intro T hT X
  obtain ⟨v, st₀, t, T', L, h0, X', hL, e1, -, ⟨hv, hh⟩, st⟩ := hr T hT X
  cases hv
  obtain ⟨t2, a1, b1⟩ := kk T' (by rw [e1, hh, h0]) (Stand.forget X' (fun q h => (hL q h).elim))
  exact ⟨t2, st t2 a1, b1⟩
end
theorem g_con {y : MethodName} {cc : ByteArray} {n : Nat} {ret : Option FieldType} (h : Jvm.Cond.code y cc n ret ∈ TW) : GoodIn TW (wD y cc n ret) := by
  intro w hw
  rcases List.mem_cons.mp hw with rfl | hw
  · exact ⟨h, good_of_word (TW_good _ h)⟩
  · exact ⟨hw, good_of_word (TW_good _ hw)⟩
theorem g_sta {own : String} {ix : Nat} {y : MethodName} {ws : List Jvm.Cond} (h1 : Jvm.Cond.methodLink own ix y ∈ TW) (h2 : Jvm.Cond.static y ∈ TW) (h3 : Jvm.Cond.initialized y.cls ∈ TW) (h : GoodIn TW ws) : GoodIn TW (va_wsS own ix y ws) := by
  intro w hw
  unfold va_wsS at hw
  rcases List.mem_append.mp hw with hw | hw
  · rcases List.mem_cons.mp hw with rfl | hw
    · exact ⟨h1, good_of_word (TW_good _ h1)⟩
    rcases List.mem_cons.mp hw with rfl | hw
    · exact ⟨h2, good_of_word (TW_good _ h2)⟩
    rcases List.mem_cons.mp hw with rfl | hw
    · exact ⟨h3, good_of_word (TW_good _ h3)⟩
    · cases hw
  · exact h w hw
theorem g_vir {own C : String} {ix : Nat} {y : MethodName} {ws : List Jvm.Cond} (h1 : Jvm.Cond.methodLink own ix y ∈ TW) (h2 : Jvm.Cond.instanceMethod y ∈ TW) (h3 : Jvm.Cond.selects C y y ∈ TW) (h4 : Jvm.Cond.initialized C ∈ TW) (h : GoodIn TW ws) : GoodIn TW (wsV own ix C y ws) := by
  intro w hw
  unfold wsV at hw
  rcases List.mem_append.mp hw with hw | hw
  · rcases List.mem_cons.mp hw with rfl | hw
    · exact ⟨h1, good_of_word (TW_good _ h1)⟩
    rcases List.mem_cons.mp hw with rfl | hw
    · exact ⟨h2, good_of_word (TW_good _ h2)⟩
    rcases List.mem_cons.mp hw with rfl | hw
    · exact ⟨h3, good_of_word (TW_good _ h3)⟩
    rcases List.mem_cons.mp hw with rfl | hw
    · exact ⟨h4, good_of_word (TW_good _ h4)⟩
    · cases hw
  · exact h w hw
theorem ofNat_jn {n : Nat} (h : n < 2147483648) : Int32.ofNat n = jn n := by
  apply Int32.toInt_inj.mp
  rw [jn_toInt h]
  exact Int32.toInt_ofNat_of_lt h
theorem vin_j {i n : Nat} (h : i < n) (hn : n < 2147483648) : vp_in (jn i) n := by
  unfold vp_in
  rw [jn_clamp (by omega)]
  rintro (z | z)
  · have := Int32.lt_iff_toInt_lt.mp z
    rw [jn_toInt (by omega)] at this
    have e : (0 : Int32).toInt = 0 := rfl
    omega
  · omega
