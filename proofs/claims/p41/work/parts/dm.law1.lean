/-! rows of the law: over the state that its methods pass on (laid by wip/p41/gen/dm.py) -/
set_option maxRecDepth 100000 in
theorem cw_J0_charAt_5068e : Jvm.Cond.code yJ0_charAt_5068e cJ0_charAt_5068e 2 (some .char) ∈ TW := TW_mem (List.mem_append_right _ (List.mem_append_right _ (List.mem_append_right _ (List.mem_append_right _ (List.mem_append_left _ (List.mem_of_getElem? (l := tables_1_4) (i := 227) rfl)))))) rfl
set_option maxRecDepth 100000 in
theorem cw_J0_equals_9ea2d : Jvm.Cond.code yJ0_equals_9ea2d cJ0_equals_9ea2d 3 (some .boolean) ∈ TW := TW_mem (List.mem_append_right _ (List.mem_append_right _ (List.mem_append_right _ (List.mem_append_right _ (List.mem_append_right _ (List.mem_append_right _ (List.mem_append_right _ (List.mem_of_getElem? (l := tables_1_7) (i := 19) rfl)))))))) rfl
set_option maxRecDepth 100000 in
theorem cw_J0_indexOf_0f7a4 : Jvm.Cond.code yJ0_indexOf_0f7a4 cJ0_indexOf_0f7a4 2 (some .int) ∈ TW := TW_mem (List.mem_append_right _ (List.mem_append_right _ (List.mem_append_right _ (List.mem_append_right _ (List.mem_append_right _ (List.mem_append_left _ (List.mem_of_getElem? (l := tables_1_5) (i := 92) rfl))))))) rfl
set_option maxRecDepth 100000 in
theorem cw_J0_substring_b52d3 : Jvm.Cond.code yJ0_substring_b52d3 cJ0_substring_b52d3 2 (some (.object "java/lang/String")) ∈ TW := TW_mem (List.mem_append_right _ (List.mem_append_right _ (List.mem_append_right _ (List.mem_append_right _ (List.mem_append_right _ (List.mem_append_left _ (List.mem_of_getElem? (l := tables_1_5) (i := 162) rfl))))))) rfl
set_option maxRecDepth 100000 in
theorem cw_J4_init_da8c8 : Jvm.Cond.code yJ4_init_da8c8 cJ4_init_da8c8 1 none ∈ TW := TW_mem (List.mem_append_right _ (List.mem_append_right _ (List.mem_append_right _ (List.mem_append_right _ (List.mem_append_left _ (List.mem_of_getElem? (l := tables_1_4) (i := 81) rfl)))))) rfl
set_option maxRecDepth 100000 in
theorem cw_J4_append_cf468 : Jvm.Cond.code yJ4_append_cf468 cJ4_append_cf468 2 (some (.object "java/lang/StringBuilder")) ∈ TW := TW_mem (List.mem_append_right _ (List.mem_append_right _ (List.mem_append_right _ (List.mem_append_right _ (List.mem_append_right _ (List.mem_append_left _ (List.mem_of_getElem? (l := tables_1_5) (i := 14) rfl))))))) rfl
set_option maxRecDepth 100000 in
theorem cw_J4_append_15ec4 : Jvm.Cond.code yJ4_append_15ec4 cJ4_append_15ec4 2 (some (.object "java/lang/StringBuilder")) ∈ TW := TW_mem (List.mem_append_right _ (List.mem_append_right _ (List.mem_append_right _ (List.mem_append_right _ (List.mem_append_left _ (List.mem_of_getElem? (l := tables_1_4) (i := 112) rfl)))))) rfl
set_option maxRecDepth 100000 in
theorem cw_J4_toString_0e30d : Jvm.Cond.code yJ4_toString_0e30d cJ4_toString_0e30d 1 (some (.object "java/lang/String")) ∈ TW := TW_mem (List.mem_append_right _ (List.mem_append_right _ (List.mem_append_right _ (List.mem_append_right _ (List.mem_append_right _ (List.mem_append_left _ (List.mem_of_getElem? (l := tables_1_5) (i := 27) rfl))))))) rfl
theorem chr_all : ∀ k, k < 128 → ((jn k &&& 255).toUInt32 % 65536).toInt32 = jn k := by decide +kernel
theorem as_bt {t : List Int32} {i : Nat} (h : As t) (hi : i < t.length) : ∃ k, bt t i = jn k ∧ k < 128 := by
  unfold bt
  rw [List.getD_eq_getElem?_getD, List.getElem?_eq_getElem hi]
  exact h _ (List.getElem_mem hi)
theorem chr_as {t : List Int32} {i : Nat} (h : As t) (hi : i < t.length) : ((bt t i &&& 255).toUInt32 % 65536).toInt32 = bt t i := by
  obtain ⟨k, e, hk⟩ := as_bt h hi
  rw [e]
  exact chr_all k hk
theorem cat1q {v : Value} {l : List Value} (hv : v.category = 1) {n : Nat} (h : (l.map fun v => v.category).sum ≤ n) : ((v :: l).map fun v => v.category).sum ≤ n + 1 := by
  rw [List.map_cons, List.sum_cons, hv]
  omega
theorem As_nil : As [] := fun c h => by cases h
theorem As_app {u t : List Int32} (h : As u) (h2 : As t) : As (u ++ t) := fun c hc => by
  rcases List.mem_append.mp hc with hc | hc
  · exact h c hc
  · exact h2 c hc
theorem As_one {k : Nat} (h : k < 128) : As [jn k] := fun c hc => ⟨k, List.mem_singleton.mp hc, h⟩
/-- contracts of the law's own methods: a string, an int; heap as it is but for what is new -/
def QcS (sz : Nat) (Z : Nat → Prop) (P : List Int32 → Prop) : Array Value → State → Outcome → State → Prop := va_Qr (fun _ : Nat × List Int32 => True) (fun w ra t => P w.2 ∧ RoF (.inl (ra, w.1, w.2)) Z t t.heap) (va_A [] sz)
def MetS (l : Launch) (g : GQ) (y : MethodName) (bytes : ByteArray) (mL : Nat) (rm : Room) (mc ms : Nat) (As : List Value) (RO : List RoE) (X : Prop) (P : List Int32 → Prop) : Prop := ∀ (sz : Nat) (Z : Nat → Prop), Met l y (wD y bytes mL (some (.object "java/lang/String"))) rm (va_Pc As (PrL g sz RO Z [] X)) (QcS sz Z P) mc ms (va_A [] sz)
def MetI (l : Launch) (g : GQ) (y : MethodName) (bytes : ByteArray) (mL : Nat) (ret : Option FieldType) (rm : Room) (As : List Value) (RO : List RoE) (X : Prop) (post : Int32 → Prop) : Prop := ∀ (sz : Nat) (Z : Nat → Prop), Met l y (wD y bytes mL ret) rm (va_Pc As (PrL g sz RO Z [] X)) (Sri post) 0 0 (fun _ => False)
/-- those that write the world -/
def QcW (g : GQ) (sz : Nat) (WO : va_W) (post : Int32 → va_W → Prop) : Array Value → State → Outcome → State → Prop := va_Qi post (fun w t => va_P g.1 vwCl w t.heap ∧ va_D (va_A WO sz) w) (va_A WO sz)
def QcX (g : GQ) (sz : Nat) (Z : Nat → Prop) (WO : va_W) (post : List Int32 → va_W → Prop) : Array Value → State → Outcome → State → Prop := va_Qr (fun w : Nat × List Int32 × va_W => post w.2.1 w.2.2) (fun w ra t => RoF (.inl (ra, w.1, w.2.1)) (Av Z w.2.2) t t.heap ∧ va_P g.1 vwCl w.2.2 t.heap ∧ va_D (va_A WO sz) w.2.2) (va_A WO sz)
def MetW (l : Launch) (g : GQ) (y : MethodName) (bytes : ByteArray) (mL : Nat) (rm : Room) (mc ms : Nat) (As : List Value) (RO : List RoE) (WO : va_W) (X : Prop) (post : Int32 → va_W → Prop) : Prop := ∀ (sz : Nat) (Z : Nat → Prop), Met l y (wD y bytes mL (some .boolean)) rm (va_Pc As (PrL g sz RO Z WO X)) (QcW g sz WO post) mc ms (va_A WO sz)
def MetX (l : Launch) (g : GQ) (y : MethodName) (bytes : ByteArray) (mL : Nat) (rm : Room) (mc ms : Nat) (As : List Value) (RO : List RoE) (WO : va_W) (X : Prop) (post : List Int32 → va_W → Prop) : Prop := ∀ (sz : Nat) (Z : Nat → Prop), Met l y (wD y bytes mL (some (.object "java/lang/String"))) rm (va_Pc As (PrL g sz RO Z WO X)) (QcX g sz Z WO post) mc ms (va_A WO sz)
section
variable {p : Program} {l : Launch} {e : Env} {R : Room} {s : State} {m : MethodId} {args : Array Value} {below : List Frame} {meth : Method} {c : Code} {cells slots : Nat} {Q : State → Prop}
variable {cc : ByteArray} {nL pc : Nat} {ls : Array Slot} {rest st0 : List Value} {g : GQ} {U : Nat} {A Z : Nat → Prop} {WO : va_W} {RO : List RoE} {BL : List (Nat × List Int32)} {H : Heap} {locs : List Loc}
theorem LQ.lo (h : LQ g U s A Z WO RO BL H locs) : ∀ q ∈ locs, A q.base := by
  obtain ⟨bl, hkey, hok, hP, hD, hS, hRo, hK, hZ, hA⟩ := h
  exact hS.2.2
theorem LQ.read {a b : Nat} {t : List Int32} (h : LQ g U s A Z WO RO BL H locs) (hq : .inl (a, b, t) ∈ RO) : Sf a b t (fun _ => False) s H := by
  obtain ⟨bl, hkey, hok, hP, hD, hS, hRo, hK, hZ, hA⟩ := h
  exact (hRo _ hq).re (re_rf (fun _ z => z.elim))
theorem LQ.less {RO' : List RoE} (h : LQ g U s A Z WO RO BL H locs) (hs : ∀ x ∈ RO', x ∈ RO) : LQ g U s A Z WO RO' BL H locs := by
  obtain ⟨bl, hkey, hok, hP, hD, hS, hRo, hK, hZ, hA⟩ := h
  exact ⟨bl, hkey, hok, hP, hD, hS, fun x hx => hRo x (hs x hx), hK, hZ, hA⟩
/-- what a method hands back that leaves the old heap as it was -/
theorem lq_post {a b : Nat} {t : List Int32} {P : List Int32 → Prop} {av : Array Value} {t8 : State} (h : LQ g U s (va_A [] s.heap.size) Z [] RO BL H locs) (hq : .inl (a, b, t) ∈ RO) (hp : P t) (ht : t8.heap = H) (hW : s.WarmedH t8.vm) : QcS s.heap.size Z P av s (.returned (some (.ref a))) t8 := by
  obtain ⟨bl, hkey, hok, hP, hD, hS, hRo, hK, hZ, hA⟩ := h
  refine ⟨⟨(b, t), a, rfl, trivial, hp, ?_⟩, hS.F ht⟩
  rw [ht]
  exact ((hRo _ hq).re (re_rf (fun _ z => Or.inl z))).moved hW.alike
theorem lq_postX {a b : Nat} {t : List Int32} {post : List Int32 → va_W → Prop} {W0 : va_W} {av : Array Value} {t8 : State} (h : LQ g U s (va_A W0 s.heap.size) Z WO RO [] H locs) (hq : .inl (a, b, t) ∈ RO) (hp : post t WO) (ht : t8.heap = H) (hW : s.WarmedH t8.vm) : QcX g s.heap.size Z W0 post av s (.returned (some (.ref a))) t8 := by
  obtain ⟨bl, hkey, hok, hP, hD, hS, hRo, hK, hZ, hA⟩ := h
  cases bl with
  | cons x bl => cases hkey
  | nil =>
    refine ⟨⟨(b, t, WO), a, rfl, hp, ?_, by rw [ht]; exact hP, hD⟩, hS.F ht⟩
    rw [ht]
    exact (hRo _ hq).moved hW.alike
theorem lq_postW {r : Int32} {post : Int32 → va_W → Prop} {W0 : va_W} {av : Array Value} {t8 : State} (h : LQ g U s (va_A W0 s.heap.size) Z WO RO [] H locs) (hp : post r WO) (ht : t8.heap = H) : QcW g s.heap.size W0 post av s (.returned (some (.int r))) t8 := by
  obtain ⟨bl, hkey, hok, hP, hD, hS, hRo, hK, hZ, hA⟩ := h
  cases bl with
  | cons x bl => cases hkey
  | nil => exact ⟨⟨r, WO, rfl, hp, by rw [ht]; exact hP, hD⟩, hS.F ht⟩
theorem lq_len  (S : CallFix p m c cc nL s args TW RL) (hls : ls.size = nL) (h : LQ g U s A Z WO RO BL H locs) {a b : Nat} {t : List Int32} (hq : .inl (a, b, t) ∈ RO) (hn : t.length ≤ 1000) (hR : 3 ≤ R.frames ∧ 120 ≤ R.locals ∧ cells ≤ R.cells ∧ slots ≤ R.slots) (hW : (rest.map fun v => v.category).sum ≤ 8) (hd : decode cc pc = .ok (.invokevirtual 27, 3))
    (kk : W p l e R s m args below meth c H locs cells slots Q (F0 m (pc + 3) ls (.int (jn t.length) :: rest))) : W p l e R s m args below meth c H locs cells slots Q (F0 m pc ls (.ref a :: rest)) := by
  obtain ⟨hx, hb, hml, hown, hts⟩ := S
  obtain ⟨bl, hkey, hok, hP, hD, hS, hRo, hK, hZ, hA⟩ := h
  have hF : RoF (.inl (a, b, t)) (fun _ => False) s H := (hRo _ hq).re (re_rf (fun _ z => z.elim))
  refine sc_i (va_runV (As := []) (rest := rest) ⟨hx, hb, hml, hown, hts⟩ (s_length l g.1 g.2.1 a b t) (cwV 0 hts (g_vir (own := RL) (ix := 27) (y := yJ0_length_8abf5) (C := RJ0) (by decide +kernel) (by decide +kernel) (by decide +kernel) (by decide +kernel) (g_con cw_J0_length_8abf5)) rfl rfl rfl (by decide +kernel) ⟨by show 2 + 1 ≤ R.frames; omega, by show 8 + (1 + 11) + 100 ≤ R.locals; omega⟩) ⟨pre_blind, Sf.rec (show Sf a b t (fun _ => False) s H from hF) va_S.rf, fun U hU hW => ⟨rfl, pre_call hU hW hn (ro_cons hF ro_nil) (hK.1.re (re_rf (fun _ z => z.elim)))⟩⟩ rfl rfl hls rfl (lv_room hW) hd ⟨by omega, by omega⟩) (fun r hr => ?_)
  obtain rfl := hr
  exact kk

theorem lq_chr  (S : CallFix p m c cc nL s args TW RL) (hls : ls.size = nL) (h : LQ g U s A Z WO RO BL H locs) {a b : Nat} {t : List Int32} (hq : .inl (a, b, t) ∈ RO) (hn : t.length ≤ 1000) (has : As t) {i : Nat} (hi : i < t.length) (hR : 5 ≤ R.frames ∧ 221 ≤ R.locals ∧ cells ≤ R.cells ∧ slots ≤ R.slots) (hW : (rest.map fun v => v.category).sum ≤ 8) (hd : decode cc pc = .ok (.invokevirtual 7, 3))
    (kk : W p l e R s m args below meth c H locs cells slots Q (F0 m (pc + 3) ls (.int (bt t i) :: rest))) : W p l e R s m args below meth c H locs cells slots Q (F0 m pc ls (.int (jn i) :: .ref a :: rest)) := by
  obtain ⟨hx, hb, hml, hown, hts⟩ := S
  obtain ⟨bl, hkey, hok, hP, hD, hS, hRo, hK, hZ, hA⟩ := h
  have hF : RoF (.inl (a, b, t)) (fun _ => False) s H := (hRo _ hq).re (re_rf (fun _ z => z.elim))
  refine sc_i (va_runV (As := [.int (jn i)]) (rest := rest) ⟨hx, hb, hml, hown, hts⟩ (s_charAt l g.1 g.2.1 a b i t) (cwV 1 hts (g_vir (own := RL) (ix := 7) (y := yJ0_charAt_5068e) (C := RJ0) (by decide +kernel) (by decide +kernel) (by decide +kernel) (by decide +kernel) (g_con cw_J0_charAt_5068e)) rfl rfl rfl (by decide +kernel) ⟨by show 4 + 1 ≤ R.frames; omega, by show 8 + (2 + 11) + 200 ≤ R.locals; omega⟩) ⟨pre_blind, Sf.rec (show Sf a b t (fun _ => False) s H from hF) va_S.rf, fun U hU hW => ⟨rfl, pre_call hU hW ⟨hi, hn⟩ (ro_cons hF ro_nil) (hK.1.re (re_rf (fun _ z => z.elim)))⟩⟩ rfl rfl hls rfl (lv_room hW) hd ⟨by omega, by omega⟩) (fun r hr => ?_)
  rw [chr_as has hi] at hr
  obtain rfl := hr
  exact kk

theorem lq_idx  (S : CallFix p m c cc nL s args TW RL) (hls : ls.size = nL) (h : LQ g U s A Z WO RO BL H locs) {a b : Nat} {t : List Int32} (hq : .inl (a, b, t) ∈ RO) (hn : t.length ≤ 1000) {ch : Nat} (hi : ch < 128) (hR : 5 ≤ R.frames ∧ 221 ≤ R.locals ∧ cells ≤ R.cells ∧ slots ≤ R.slots) (hW : (rest.map fun v => v.category).sum ≤ 8) (hd : decode cc pc = .ok (.invokevirtual 113, 3))
    (kk : W p l e R s m args below meth c H locs cells slots Q (F0 m (pc + 3) ls (.int (fiX t (jn ch) t.length 0) :: rest))) : W p l e R s m args below meth c H locs cells slots Q (F0 m pc ls (.int (jn ch) :: .ref a :: rest)) := by
  obtain ⟨hx, hb, hml, hown, hts⟩ := S
  obtain ⟨bl, hkey, hok, hP, hD, hS, hRo, hK, hZ, hA⟩ := h
  have hF : RoF (.inl (a, b, t)) (fun _ => False) s H := (hRo _ hq).re (re_rf (fun _ z => z.elim))
  refine sc_i (va_runV (As := [.int (jn ch)]) (rest := rest) ⟨hx, hb, hml, hown, hts⟩ (s_indexOf l g.1 g.2.1 a b ch t) (cwV 1 hts (g_vir (own := RL) (ix := 113) (y := yJ0_indexOf_0f7a4) (C := RJ0) (by decide +kernel) (by decide +kernel) (by decide +kernel) (by decide +kernel) (g_con cw_J0_indexOf_0f7a4)) rfl rfl rfl (by decide +kernel) ⟨by show 4 + 1 ≤ R.frames; omega, by show 8 + (2 + 11) + 200 ≤ R.locals; omega⟩) ⟨pre_blind, Sf.rec (show Sf a b t (fun _ => False) s H from hF) va_S.rf, fun U hU hW => ⟨rfl, pre_call hU hW ⟨hi, hn⟩ (ro_cons hF ro_nil) (hK.1.re (re_rf (fun _ z => z.elim)))⟩⟩ rfl rfl hls rfl (lv_room hW) hd ⟨by omega, by omega⟩) (fun r hr => ?_)
  obtain rfl := hr
  exact kk

/-- an owned string is read from now on -/
theorem LB.str {wr : va_W} {ra rb : Nat} {u : List Int32} (hts : ∀ w ∈ TW, w.before args s = true) (h : LB g s A Z ([(ra, .inr (11, [.ref rb, .int 0, .int 0, .int 0])), (rb, .inl (g.2.1, u.length, .inl (bt u)))] ++ wr) RO H locs) (h1 : s.heap.size ≤ ra) (h2 : s.heap.size ≤ rb) : LB g s A Z wr (RO ++ [.inl (ra, rb, u)]) H locs := by
  have hd := h.2.1
  have hz := h.2.2.2.2.2.1
  have no : ∀ (j a : Nat) (e : va_E), ([(ra, .inr (11, [.ref rb, .int 0, .int 0, .int 0])), (rb, .inl (g.2.1, u.length, .inl (bt u)))] : va_W)[j]? = some (a, e) → s.heap.size ≤ a → ¬ Av Z wr a := by
    rintro j a e hj ha (z | ⟨k, e', z⟩)
    · have := hz a z
      omega
    · have hjl := (List.getElem?_eq_some_iff.mp hj).1
      have e1 := hd.1 j (2 + k) (a, e) (a, e') (by rw [List.getElem?_append_left hjl]; exact hj) (by rw [List.getElem?_append_right (by simp), show 2 + k - List.length _ = k from by simp]; exact z) rfl
      simp only [List.length_cons, List.length_nil] at hjl
      omega
  exact h.drop.read (show RoF (.inl (ra, rb, u)) (Av Z wr) s H from P_S hts h.2.2.2.2.1.1.1 (h.1.sub [0, 1] rfl) (no 0 ra _ rfl h1) (no 1 rb _ rfl h2))
theorem fresh_ge {a n sz : Nat} (h : va_A [] n a) (hn : sz ≤ n) : sz ≤ a := by
  rcases h with ⟨k, e, z⟩ | z
  · cases z
  · exact Nat.le_trans hn z
theorem lq_sub2 (S : CallFix p m c cc nL s args TW RL) (hls : ls.size = nL) (h : LQ g U s A Z WO RO BL H locs) {a b : Nat} {t : List Int32} (hq : .inl (a, b, t) ∈ RO) (hn : t.length ≤ 1000) (has : As t) {i j : Nat} (hij : i < j) (hj : j ≤ t.length) (hne : 0 < i ∨ j < t.length) (hR : 6 ≤ R.frames ∧ 274 ≤ R.locals ∧ cells + 2 ≤ R.cells ∧ slots + ((j - i) + 4) ≤ R.slots) (hW : (rest.map fun v => v.category).sum ≤ 8) (hd : decode cc pc = .ok (.invokevirtual 19, 3))
    (kk : ∀ (ra rb : Nat) (H1 : Heap) (locs1 : List Loc), LQ g U s A Z WO (RO ++ [.inl (ra, rb, sbt t i j)]) BL H1 locs1 → W p l e R s m args below meth c H1 locs1 (cells + 2) (slots + ((j - i) + 4)) Q (F0 m (pc + 3) ls (.ref ra :: rest))) : W p l e R s m args below meth c H locs cells slots Q (F0 m pc ls (.int (jn j) :: .int (jn i) :: .ref a :: rest)) := by
  obtain ⟨hx, hb, hml, hown, hts⟩ := S
  obtain ⟨bl, hkey, hok, hP, hD, hS, hRo, hK, hZ, hA⟩ := h
  have hF : RoF (.inl (a, b, t)) (fun _ => False) s H := (hRo _ hq).re (re_rf (fun _ z => z.elim))
  have hFc := va_free (wc := []) hD hS hA [] rfl
  refine va_callr (va_runV (As := [.int (jn i), .int (jn j)]) (rest := rest) ⟨hx, hb, hml, hown, hts⟩ (s_substring2 l g.1 g.2.1 H.size a b i j t) (cwV 2 hts (g_vir (own := RL) (ix := 19) (y := yJ0_substring_37a41) (C := RJ0) (by decide +kernel) (by decide +kernel) (by decide +kernel) (by decide +kernel) (g_con cw_J0_substring_37a41)) rfl rfl rfl (by decide +kernel) ⟨by show 5 + 1 ≤ R.frames; omega, by show 8 + (5 + 11) + 250 ≤ R.locals; omega⟩) ⟨prw_blind, Sf.rec (show Sf a b t (fun _ => False) s H from hF) va_S.rf, fun U hU hW => ⟨rfl, prw_call hU hW (ro_cons hF ro_nil) P_0 D_0 rsep_0 ⟨hij, hj, hne, hn, has⟩ (hK.1.re (re_rf (fun _ z => z.elim)))⟩⟩ rfl rfl hls rfl (lv_room hW) hd ⟨by omega, by omega⟩) hS (fun q _ h => hFc q h) hFc (fun rb ra t9 H1 locs1 ht hvm hw hB hz1 hk1 hS1 => ?_)
  obtain ⟨hP1, hD1⟩ := hB
  rw [ht] at hP1
  obtain ⟨h1, -⟩ := LB.eff (wc := []) (wr := bw g.2.1 bl ++ WO) ⟨hP, hD, hS, hRo, hK, hZ, hA⟩ hz1 hk1 hP1 hD1 hS1
  exact kk ra rb H1 locs1 ⟨bl, hkey, hok, h1.str hts (fresh_ge (hD1.2 0 _ rfl) hS.1) (fresh_ge (hD1.2 1 _ rfl) hS.1)⟩

theorem lq_sub1 (S : CallFix p m c cc nL s args TW RL) (hls : ls.size = nL) (h : LQ g U s A Z WO RO BL H locs) {a b : Nat} {t : List Int32} (hq : .inl (a, b, t) ∈ RO) (hn : t.length ≤ 1000) (has : As t) {i : Nat} (hi0 : 0 < i) (hi : i < t.length) (hR : 7 ≤ R.frames ∧ 321 ≤ R.locals ∧ cells + 2 ≤ R.cells ∧ slots + ((t.length - i) + 4) ≤ R.slots) (hW : (rest.map fun v => v.category).sum ≤ 8) (hd : decode cc pc = .ok (.invokevirtual 121, 3))
    (kk : ∀ (ra rb : Nat) (H1 : Heap) (locs1 : List Loc), LQ g U s A Z WO (RO ++ [.inl (ra, rb, sbt t i t.length)]) BL H1 locs1 → W p l e R s m args below meth c H1 locs1 (cells + 2) (slots + ((t.length - i) + 4)) Q (F0 m (pc + 3) ls (.ref ra :: rest))) : W p l e R s m args below meth c H locs cells slots Q (F0 m pc ls (.int (jn i) :: .ref a :: rest)) := by
  obtain ⟨hx, hb, hml, hown, hts⟩ := S
  obtain ⟨bl, hkey, hok, hP, hD, hS, hRo, hK, hZ, hA⟩ := h
  have hF : RoF (.inl (a, b, t)) (fun _ => False) s H := (hRo _ hq).re (re_rf (fun _ z => z.elim))
  have hFc := va_free (wc := []) hD hS hA [] rfl
  refine va_callr (va_runV (As := [.int (jn i)]) (rest := rest) ⟨hx, hb, hml, hown, hts⟩ (s_substring1 l g.1 g.2.1 H.size a b i t) (cwV 1 hts (g_vir (own := RL) (ix := 121) (y := yJ0_substring_b52d3) (C := RJ0) (by decide +kernel) (by decide +kernel) (by decide +kernel) (by decide +kernel) (g_con cw_J0_substring_b52d3)) rfl rfl rfl (by decide +kernel) ⟨by show 6 + 1 ≤ R.frames; omega, by show 8 + (2 + 11) + 300 ≤ R.locals; omega⟩) ⟨prw_blind, Sf.rec (show Sf a b t (fun _ => False) s H from hF) va_S.rf, fun U hU hW => ⟨rfl, prw_call hU hW (ro_cons hF ro_nil) P_0 D_0 rsep_0 ⟨hi0, hi, hn, has⟩ (hK.1.re (re_rf (fun _ z => z.elim)))⟩⟩ rfl rfl hls rfl (lv_room hW) hd ⟨by omega, by omega⟩) hS (fun q _ h => hFc q h) hFc (fun rb ra t9 H1 locs1 ht hvm hw hB hz1 hk1 hS1 => ?_)
  obtain ⟨hP1, hD1⟩ := hB
  rw [ht] at hP1
  obtain ⟨h1, -⟩ := LB.eff (wc := []) (wr := bw g.2.1 bl ++ WO) ⟨hP, hD, hS, hRo, hK, hZ, hA⟩ hz1 hk1 hP1 hD1 hS1
  exact kk ra rb H1 locs1 ⟨bl, hkey, hok, h1.str hts (fresh_ge (hD1.2 0 _ rfl) hS.1) (fresh_ge (hD1.2 1 _ rfl) hS.1)⟩

theorem lq_ldc (S : CallFix p m c cc nL s args TW RL) (h : LQ g U s A Z WO RO BL H locs) {ix : Nat} {tx : String} {t : List Int32} (hq : (ix, tx, t) ∈ Kt) (hd : decode cc pc = .ok (.ldc ix, 2))
    (kk : ∀ a b : Nat, LQ g U s A Z WO (RO ++ [.inl (a, b, t)]) BL H locs → W p l e R s m args below meth c H locs cells slots Q (F0 m (pc + 2) ls (.ref a :: rest))) : W p l e R s m args below meth c H locs cells slots Q (F0 m pc ls rest) := by
  obtain ⟨hx, hb, hml, hown, hts⟩ := S
  obtain ⟨bl, hkey, hok, hP, hD, hS, hRo, hK, hZ, hA⟩ := h
  obtain ⟨a, b, h1, h2⟩ := hK.2.1 _ hq
  exact va_ldcS hx hb hown h1 hd (kk a b ⟨bl, hkey, hok, LB.read ⟨hP, hD, hS, hRo, hK, hZ, hA⟩ (show RoF (.inl (a, b, t)) _ s H from h2)⟩)
theorem lq_new (S : CallFix p m c cc nL s args TW RL) (hls : ls.size = nL) (h : LQ g U s A Z WO RO BL H locs) (hR : 4 ≤ R.frames ∧ 250 ≤ R.locals ∧ cells + 2 ≤ R.cells ∧ slots + 20 ≤ R.slots) (hW : (rest.map fun v => v.category).sum ≤ 6) (d1 : decode cc pc = .ok (.new 35, 3)) (d2 : decode cc (pc + 3) = .ok (.dup, 1)) (d3 : decode cc (pc + 4) = .ok (.invokespecial 37, 3))
    (kk : ∀ (q : Nat) (H1 : Heap) (locs1 : List Loc), LQ g U s A Z WO RO ((q, []) :: BL) H1 locs1 → W p l e R s m args below meth c H1 locs1 (cells + 2) (slots + 20) Q (F0 m (pc + 7) ls (.ref q :: rest))) : W p l e R s m args below meth c H locs cells slots Q (F0 m pc ls rest) := by
  obtain ⟨hx, hb, hml, hown, hts⟩ := S
  obtain ⟨bl, hkey, hok, hP, hD, hS, hRo, hK, hZ, hA⟩ := h
  have hKn := hK.1.1.1 12 _ rfl
  refine W.newcK hx hb hown (hts (.classLink RL 35 RJ4) (by decide +kernel)) (hts (.instantiable RJ4 4) (by decide +kernel)) (hts (.initialized RJ4) (by decide +kernel)) rfl d1 (by omega) (by omega) hKn.2.1 rfl fun H1 kC hkC e1 z1 o1 => ?_
  have hP1 : va_P g.1 vwCl [(H.size, .inr (12, [.null, .int 0, .int 0, .int 0]))] H1 := by
    intro k x hx
    have hz : k < 1 := (List.getElem?_eq_some_iff.mp hx).1
    rw [show k = 0 by omega] at hx
    cases hx
    exact ⟨_, rfl, (u_born tyJ4 hts uw_12 hKn hkC e1 tyJ4_ok).to (fun j hj => by rcases (show j = 0 ∨ j = 1 ∨ j = 2 ∨ j = 3 by omega) with rfl | rfl | rfl | rfl <;> rfl)⟩
  have hS1 : va_S A s.heap H1 locs := ⟨Nat.le_trans hS.1 (by omega), fun x h1 h2 => (o1 x (Nat.lt_of_lt_of_le h1 hS.1)).trans (hS.2.1 x h1 h2), hS.2.2⟩
  obtain ⟨⟨gP, gD, gS, gRo, gK, gZ, gA⟩, -⟩ := LB.eff (wc := []) (wr := bw g.2.1 bl ++ WO) (H1 := H1) (w1 := [(H.size, .inr (12, [.null, .int 0, .int 0, .int 0]))]) ⟨hP, hD, hS, hRo, hK, hZ, hA⟩ (by omega) (fun q hq _ => o1 q hq) hP1 (D_1 (Or.inr (Nat.le_refl _))) hS1
  refine lv_dup hx hb d2 rfl ?_
  have hPc := gP.sub (ws' := [(H.size, .inr (12, [.null, .int 0, .int 0, .int 0]))]) [0] rfl
  have hDc := gD.sub (ws' := [(H.size, .inr (12, [.null, .int 0, .int 0, .int 0]))]) [0] (by decide) rfl
  have hFc := va_free (wc := [(H.size, .inr (12, [.null, .int 0, .int 0, .int 0]))]) gD gS gA [0] rfl
  refine va_callv (va_runI (As := []) (rest := .ref H.size :: rest) ⟨hx, hb, hml, hown, hts⟩ (s_bInit l g.1 g.2.1 H1.size H.size) (cwI 0 hts (g_con cw_J4_init_da8c8) rfl rfl rfl (hts (.initialized RJ4) (by decide +kernel)) (hts (.methodLink RL 37 yJ4_init_da8c8) (by decide +kernel)) (hts (.instanceMethod yJ4_init_da8c8) (by decide +kernel)) rfl (by decide +kernel) ⟨by show 2 + 1 ≤ R.frames; omega, by show 8 + (1 + 11) + 100 ≤ R.locals; omega⟩) ⟨prw_blind, fun U hU hW => ⟨rfl, prw_call hU hW ro_nil hPc (hDc.weaken (fun _ _ _ _ => trivial)) rsep_l trivial (gK.1.re (re_rf (fun _ z => z.elim)))⟩⟩ rfl rfl hls rfl (lv_room (Nat.le_trans (cat1q rfl hW) (by decide))) d3 ⟨by show cells + 1 + 1 ≤ R.cells; omega, by show slots + 4 + 16 ≤ R.slots; omega⟩) gS (fun q _ h => hFc q h) hFc (fun u9 t9 H2 locs2 ht hvm hw hB hz1 hk1 hS2 => ?_)
  obtain ⟨ar, hP2, hD2⟩ := hB
  rw [ht] at hP2
  obtain ⟨h2, -⟩ := LB.eff (wc := [(H.size, .inr (12, [.null, .int 0, .int 0, .int 0]))]) (wr := bw g.2.1 bl ++ WO) ⟨gP, gD, gS, gRo, gK, gZ, gA⟩ hz1 hk1 hP2 hD2 hS2
  have har : s.heap.size ≤ ar := by
    rcases hD2.2 1 _ rfl with ⟨k, e9, z⟩ | z
    · match k, z with
      | 0, z => cases z; exact hS.1
    · exact Nat.le_trans gS.1 z
  refine kk H.size H2 locs2 ⟨(H.size, ar, 16, fun _ => 0, []) :: bl, by rw [List.map_cons, hkey]; rfl, fun x hx => ?_, ?_⟩
  · rcases List.mem_cons.mp hx with rfl | hx
    · exact ⟨⟨Nat.zero_le _, fun k _ => by show fits .byte (.int 0) = true; decide, fun j hj => by cases hj⟩, by show 16 ≤ 2 * U + 16; omega, hS.1, har⟩
    · exact hok x hx
  · rw [bw, List.append_assoc]
    exact h2
theorem lq_appC {q : Nat} {u : List Int32} (S : CallFix p m c cc nL s args TW RL) (hls : ls.size = nL) (h : LQ g U s A Z WO RO ((q, u) :: BL) H locs) {k : Nat} (hu : u.length + 1 ≤ U) (hUU : U ≤ 2000) (hk : k < 128) (hR : 6 ≤ R.frames ∧ 271 ≤ R.locals ∧ cells + 1 ≤ R.cells ∧ slots + (2 * U + 16) ≤ R.slots) (hW : (rest.map fun v => v.category).sum ≤ 8) (hd : decode cc pc = .ok (.invokevirtual 38, 3))
    (kk : ∀ (H1 : Heap) (locs1 : List Loc), LQ g U s A Z WO RO ((q, u ++ [jn k]) :: BL) H1 locs1 → W p l e R s m args below meth c H1 locs1 (cells + 1) (slots + (2 * U + 16)) Q (F0 m (pc + 3) ls (.ref q :: rest))) : W p l e R s m args below meth c H locs cells slots Q (F0 m pc ls (.int (jn k) :: .ref q :: rest)) := by
  obtain ⟨hx, hb, hml, hown, hts⟩ := S
  obtain ⟨bl, hkey, hok, hP, hD, hS, hRo, hK, hZ, hA⟩ := h
  cases bl with
  | nil => cases hkey
  | cons x bl =>
  obtain ⟨q', ar, cap, f, u'⟩ := x
  obtain ⟨hk1, hkey2⟩ := List.cons.inj hkey
  have hk1 : (q', u') = (q, u) := hk1
  obtain ⟨rfl, rfl⟩ := Prod.mk.inj hk1
  obtain ⟨hbc, hcap, hq1, hq2⟩ := hok _ List.mem_cons_self
  have hcap : cap ≤ 2 * U + 16 := hcap
  have hbc : Bc u' cap f := hbc
  rw [bw, List.append_assoc] at hP hD hRo hK
  have hPc := hP.sub (ws' := bE g.2.1 (q', ar, cap, f, u')) [0, 1] rfl
  have hDc := hD.sub (ws' := bE g.2.1 (q', ar, cap, f, u')) [0, 1] (by decide) rfl
  have hFc := va_free (wc := bE g.2.1 (q', ar, cap, f, u')) hD hS hA [0, 1] rfl
  refine va_callr (va_runV (As := [.int (jn k)]) (rest := rest) ⟨hx, hb, hml, hown, hts⟩ (s_bAppC l g.1 g.2.1 H.size q' ar cap k U u' f) (cwV 1 hts (g_vir (own := RL) (ix := 38) (y := yJ4_append_cf468) (C := RJ4) (by decide +kernel) (by decide +kernel) (by decide +kernel) (by decide +kernel) (g_con cw_J4_append_cf468)) rfl rfl rfl (by decide +kernel) ⟨by show 5 + 1 ≤ R.frames; omega, by show 8 + (2 + 11) + 250 ≤ R.locals; omega⟩) ⟨prw_blind, va_recv hK.1.1 hPc (ci := 12) (q0 := 0) rfl rfl, fun U hU hW => ⟨rfl, prw_call hU hW ro_nil hPc (hDc.weaken (fun _ _ _ _ => trivial)) rsep_l ⟨hu, hUU, hcap, hbc, hk⟩ (hK.1.re (re_rf (fun _ z => z.elim)))⟩⟩ rfl rfl hls rfl (lv_room hW) hd ⟨by show cells + 1 ≤ R.cells; omega, by show slots + (2 * U + 16) ≤ R.slots; omega⟩) hS (fun q _ h => hFc q h) hFc (fun w9 ra t9 H1 locs1 ht hvm hw hB hz1 hk1 hS1 => ?_)
  obtain ⟨hra, ar1, cap1, f1, hP1, hD1, hbc1, hc1⟩ := hB
  rw [ht] at hP1
  rw [hra]
  obtain ⟨h1, -⟩ := LB.eff (wc := bE g.2.1 (q', ar, cap, f, u')) (wr := bw g.2.1 bl ++ WO) ⟨hP, hD, hS, hRo, hK, hZ, hA⟩ hz1 hk1 hP1 hD1 hS1
  have har : s.heap.size ≤ ar1 := by
    rcases hD1.2 1 _ rfl with ⟨k, e9, z⟩ | z
    · match k, z with
      | 0, z => cases z; exact hq1
      | 1, z => cases z; exact hq2
    · exact Nat.le_trans hS.1 z
  refine kk H1 locs1 ⟨(q', ar1, cap1, f1, u' ++ [jn k]) :: bl, by rw [List.map_cons, hkey2]; rfl, fun x hx => ?_, ?_⟩
  · rcases List.mem_cons.mp hx with rfl | hx
    · exact ⟨hbc1, hc1, hq1, har⟩
    · exact hok x (List.mem_cons_of_mem _ hx)
  · rw [bw, List.append_assoc]
    exact h1

theorem lq_appS {q : Nat} {u : List Int32} (S : CallFix p m c cc nL s args TW RL) (hls : ls.size = nL) (h : LQ g U s A Z WO RO ((q, u) :: BL) H locs) {a b : Nat} {t : List Int32} (hq : .inl (a, b, t) ∈ RO) (hn : t.length ≤ 1000) (has : As t) (hu : u.length + t.length ≤ U) (hUU : U ≤ 2000) (hR : 6 ≤ R.frames ∧ 271 ≤ R.locals ∧ cells + 1 ≤ R.cells ∧ slots + (2 * U + 16) ≤ R.slots) (hW : (rest.map fun v => v.category).sum ≤ 8) (hd : decode cc pc = .ok (.invokevirtual 44, 3))
    (kk : ∀ (H1 : Heap) (locs1 : List Loc), LQ g U s A Z WO RO ((q, u ++ t) :: BL) H1 locs1 → W p l e R s m args below meth c H1 locs1 (cells + 1) (slots + (2 * U + 16)) Q (F0 m (pc + 3) ls (.ref q :: rest))) : W p l e R s m args below meth c H locs cells slots Q (F0 m pc ls (.ref a :: .ref q :: rest)) := by
  obtain ⟨hx, hb, hml, hown, hts⟩ := S
  obtain ⟨bl, hkey, hok, hP, hD, hS, hRo, hK, hZ, hA⟩ := h
  cases bl with
  | nil => cases hkey
  | cons x bl =>
  obtain ⟨q', ar, cap, f, u'⟩ := x
  obtain ⟨hk1, hkey2⟩ := List.cons.inj hkey
  have hk1 : (q', u') = (q, u) := hk1
  obtain ⟨rfl, rfl⟩ := Prod.mk.inj hk1
  obtain ⟨hbc, hcap, hq1, hq2⟩ := hok _ List.mem_cons_self
  have hcap : cap ≤ 2 * U + 16 := hcap
  have hbc : Bc u' cap f := hbc
  rw [bw, List.append_assoc] at hP hD hRo hK
  have hPc := hP.sub (ws' := bE g.2.1 (q', ar, cap, f, u')) [0, 1] rfl
  have hDc := hD.sub (ws' := bE g.2.1 (q', ar, cap, f, u')) [0, 1] (by decide) rfl
  have hFc := va_free (wc := bE g.2.1 (q', ar, cap, f, u')) hD hS hA [0, 1] rfl
  have hF : RoF (.inl (a, b, t)) (fun _ => False) s H := (hRo _ hq).re (re_rf (fun _ z => z.elim))
  have hsep : RoSep [.inl (a, b, t)] (bE g.2.1 (q', ar, cap, f, u')) := rsep_A (A := Av Z (bE g.2.1 (q', ar, cap, f, u') ++ (bw g.2.1 bl ++ WO))) (ro_cons (hRo _ hq) ro_nil) ⟨hDc.1, fun k y hy => by
    obtain ⟨k', z⟩ := app_l (ws' := bw g.2.1 bl ++ WO) k y hy
    exact Or.inr ⟨k', y.2, z⟩ ⟩
  refine va_callr (va_runV (As := [.ref a]) (rest := rest) ⟨hx, hb, hml, hown, hts⟩ (s_bAppS l g.1 g.2.1 H.size q' ar cap a b U u' t f) (cwV 1 hts (g_vir (own := RL) (ix := 44) (y := yJ4_append_15ec4) (C := RJ4) (by decide +kernel) (by decide +kernel) (by decide +kernel) (by decide +kernel) (g_con cw_J4_append_15ec4)) rfl rfl rfl (by decide +kernel) ⟨by show 5 + 1 ≤ R.frames; omega, by show 8 + (2 + 11) + 250 ≤ R.locals; omega⟩) ⟨prw_blind, va_recv hK.1.1 hPc (ci := 12) (q0 := 0) rfl rfl, fun U hU hW => ⟨rfl, prw_call hU hW (ro_cons hF ro_nil) hPc (hDc.weaken (fun _ _ _ _ => trivial)) hsep ⟨hu, hUU, hcap, hbc, has, hn⟩ (hK.1.re (re_rf (fun _ z => z.elim)))⟩⟩ rfl rfl hls rfl (lv_room hW) hd ⟨by show cells + 1 ≤ R.cells; omega, by show slots + (2 * U + 16) ≤ R.slots; omega⟩) hS (fun q _ h => hFc q h) hFc (fun w9 ra t9 H1 locs1 ht hvm hw hB hz1 hk1 hS1 => ?_)
  obtain ⟨hra, ar1, cap1, f1, hP1, hD1, hbc1, hc1⟩ := hB
  rw [ht] at hP1
  rw [hra]
  obtain ⟨h1, -⟩ := LB.eff (wc := bE g.2.1 (q', ar, cap, f, u')) (wr := bw g.2.1 bl ++ WO) ⟨hP, hD, hS, hRo, hK, hZ, hA⟩ hz1 hk1 hP1 hD1 hS1
  have har : s.heap.size ≤ ar1 := by
    rcases hD1.2 1 _ rfl with ⟨k, e9, z⟩ | z
    · match k, z with
      | 0, z => cases z; exact hq1
      | 1, z => cases z; exact hq2
    · exact Nat.le_trans hS.1 z
  refine kk H1 locs1 ⟨(q', ar1, cap1, f1, u' ++ t) :: bl, by rw [List.map_cons, hkey2]; rfl, fun x hx => ?_, ?_⟩
  · rcases List.mem_cons.mp hx with rfl | hx
    · exact ⟨hbc1, hc1, hq1, har⟩
    · exact hok x (List.mem_cons_of_mem _ hx)
  · rw [bw, List.append_assoc]
    exact h1

theorem lq_toS {q : Nat} {u : List Int32} (S : CallFix p m c cc nL s args TW RL) (hls : ls.size = nL) (h : LQ g U s A Z WO RO ((q, u) :: BL) H locs) (hUU : U ≤ 2000) (hR : 8 ≤ R.frames ∧ 370 ≤ R.locals ∧ cells + 2 ≤ R.cells ∧ slots + (u.length + 4) ≤ R.slots) (hW : (rest.map fun v => v.category).sum ≤ 8) (hd : decode cc pc = .ok (.invokevirtual 58, 3))
    (kk : ∀ (ra rb : Nat) (H1 : Heap) (locs1 : List Loc), LQ g U s A Z WO (RO ++ [.inl (ra, rb, u)]) BL H1 locs1 → W p l e R s m args below meth c H1 locs1 (cells + 2) (slots + (u.length + 4)) Q (F0 m (pc + 3) ls (.ref ra :: rest))) : W p l e R s m args below meth c H locs cells slots Q (F0 m pc ls (.ref q :: rest)) := by
  obtain ⟨hx, hb, hml, hown, hts⟩ := S
  obtain ⟨bl, hkey, hok, hP, hD, hS, hRo, hK, hZ, hA⟩ := h
  cases bl with
  | nil => cases hkey
  | cons x bl =>
  obtain ⟨q', ar, cap, f, u'⟩ := x
  obtain ⟨hk1, hkey2⟩ := List.cons.inj hkey
  have hk1 : (q', u') = (q, u) := hk1
  obtain ⟨rfl, rfl⟩ := Prod.mk.inj hk1
  obtain ⟨hbc, hcap, hq1, hq2⟩ := hok _ List.mem_cons_self
  have hcap : cap ≤ 2 * U + 16 := hcap
  have hbc : Bc u' cap f := hbc
  rw [bw, List.append_assoc] at hP hD hRo hK
  have hPc := hP.sub (ws' := bE g.2.1 (q', ar, cap, f, u')) [0, 1] rfl
  have hDc := hD.sub (ws' := bE g.2.1 (q', ar, cap, f, u')) [0, 1] (by decide) rfl
  have hFc := va_free (wc := bE g.2.1 (q', ar, cap, f, u')) hD hS hA [0, 1] rfl
  refine va_callr (va_runV (As := []) (rest := rest) ⟨hx, hb, hml, hown, hts⟩ (s_bToS l g.1 g.2.1 H.size q' ar cap u' f) (cwV 0 hts (g_vir (own := RL) (ix := 58) (y := yJ4_toString_0e30d) (C := RJ4) (by decide +kernel) (by decide +kernel) (by decide +kernel) (by decide +kernel) (g_con cw_J4_toString_0e30d)) rfl rfl rfl (by decide +kernel) ⟨by show 7 + 1 ≤ R.frames; omega, by show 8 + (1 + 11) + 350 ≤ R.locals; omega⟩) ⟨prw_blind, va_recv hK.1.1 hPc (ci := 12) (q0 := 0) rfl rfl, fun U hU hW => ⟨rfl, prw_call hU hW ro_nil hPc (hDc.weaken (fun _ _ _ _ => trivial)) rsep_l ⟨hbc, by omega⟩ (hK.1.re (re_rf (fun _ z => z.elim)))⟩⟩ rfl rfl hls rfl (lv_room hW) hd ⟨by show cells + 2 ≤ R.cells; omega, hR.2.2.2⟩) hS (fun q _ h => hFc q h) hFc (fun w9 ra t9 H1 locs1 ht hvm hw hB hz1 hk1 hS1 => ?_)
  obtain ⟨hP1, hD1⟩ := hB
  rw [ht] at hP1
  obtain ⟨h1, -⟩ := LB.eff (wc := bE g.2.1 (q', ar, cap, f, u')) (wr := bw g.2.1 bl ++ WO) ⟨hP, hD, hS, hRo, hK, hZ, hA⟩ hz1 hk1 hP1 hD1 hS1
  have ge : ∀ a, va_A (bE g.2.1 (q', ar, cap, f, u')) H.size a → s.heap.size ≤ a := by
    rintro a (⟨k, e9, z⟩ | z)
    · match k, z with
      | 0, z => cases z; exact hq1
      | 1, z => cases z; exact hq2
    · exact Nat.le_trans hS.1 z
  exact kk ra w9 H1 locs1 ⟨bl, hkey2, fun x hx => hok x (List.mem_cons_of_mem _ hx), h1.str hts (ge _ (hD1.2 0 _ rfl)) (ge _ (hD1.2 1 _ rfl))⟩

variable {y : MethodName} {bytes : ByteArray} {mL n ix mc ms : Nat} {rm : Room} {As : List Value} {ROc : List RoE} {X : Prop}
theorem lq_callS (S : CallFix p m c cc nL s args TW RL) (hls : ls.size = nL) (h : LQ g U s A Z WO RO BL H locs) {P : List Int32 → Prop} (hM : MetS l g y bytes mL rm mc ms As ROc X P) (hro : ∀ x ∈ ROc, x ∈ RO) (hX : X) (cw : CallB R s args RL ix y bytes mL (some (.object "java/lang/String")) (wD y bytes mL (some (.object "java/lang/String"))) rm mc ms n ∧ (Cond.static y).before args s = true) (hn : As.length = n) (hst : st0 = As.reverse ++ rest) (hW : (rest.map fun v => v.category).sum ≤ 8) (hd : decode cc pc = .ok (.invokestatic ix, 3)) (hf : cells + mc ≤ R.cells ∧ slots + ms ≤ R.slots)
    (kk : ∀ (ra rb : Nat) (tx : List Int32) (H1 : Heap) (locs1 : List Loc), P tx → LQ g U s A Z WO (RO ++ [.inl (ra, rb, tx)]) BL H1 locs1 → W p l e R s m args below meth c H1 locs1 (cells + mc) (slots + ms) Q (F0 m (pc + 3) ls (.ref ra :: rest))) : W p l e R s m args below meth c H locs cells slots Q (F0 m pc ls st0) := by
  obtain ⟨bl, hkey, hok, hB0⟩ := h
  have hpre : ∀ V : State, V.heap = H → s.WarmedH V.vm → PrL g H.size ROc (Av Z (bw g.2.1 bl ++ WO)) [] X V := by
    intro V hV hW
    obtain ⟨hP, hD, hS, hRo, hK, hZ, hA⟩ := hB0
    refine ⟨⟨by rw [hV], ?_, P_0, D_0, hX⟩, ?_, ?_⟩
    · rintro q (z | ⟨k, e9, z⟩)
      · exact Nat.lt_of_lt_of_le (hZ q z) hS.1
      · exact va_lt hP z
    · rw [hV]
      refine fun x hx => ((hRo x (hro x hx)).re (re_rf ?_)).moved hW.alike
      rintro q (z | ⟨k, e9, z⟩)
      · exact z
      · cases z
    · rw [hV]
      refine (hK.re (re_rf ?_)).warm hW
      rintro q (z | ⟨k, e9, z⟩)
      · exact z
      · cases z
  have hFc := va_free (wc := []) hB0.2.1 hB0.2.2.1 hB0.2.2.2.2.2.2 [] rfl
  refine va_callr (va_runS (As := As) (rest := rest) S (hM H.size (Av Z (bw g.2.1 bl ++ WO))) cw ⟨prl_blind, fun V hV hW => ⟨rfl, hpre V hV hW⟩⟩ rfl hn hls hst (lv_room hW) hd hf) hB0.2.2.1 (fun q _ h => hFc q h) hFc (fun w ra t9 H1 locs1 ht hvm hw hB hz1 hk1 hS1 => ?_)
  obtain ⟨hp, hq⟩ := hB
  rw [ht] at hq
  obtain ⟨h1, -⟩ := LB.eff (wc := []) (wr := bw g.2.1 bl ++ WO) hB0 hz1 hk1 (w1 := []) P_0 D_0 hS1
  exact kk ra w.1 w.2 H1 locs1 hp ⟨bl, hkey, hok, LB.read h1 (hq.moved hvm.symm)⟩
theorem lq_callI (S : CallFix p m c cc nL s args TW RL) (hls : ls.size = nL) (h : LQ g U s A Z WO RO BL H locs) {ret : Option FieldType} {post : Int32 → Prop} (hM : MetI l g y bytes mL ret rm As ROc X post) (hro : ∀ x ∈ ROc, x ∈ RO) (hX : X) (cw : CallB R s args RL ix y bytes mL ret (wD y bytes mL ret) rm 0 0 n ∧ (Cond.static y).before args s = true) (hn : As.length = n) (hst : st0 = As.reverse ++ rest) (hW : (rest.map fun v => v.category).sum ≤ 8) (hd : decode cc pc = .ok (.invokestatic ix, 3)) (hf : cells ≤ R.cells ∧ slots ≤ R.slots)
    (kk : ∀ r : Int32, post r → W p l e R s m args below meth c H locs cells slots Q (F0 m (pc + 3) ls (.int r :: rest))) : W p l e R s m args below meth c H locs cells slots Q (F0 m pc ls st0) := by
  obtain ⟨bl, hkey, hok, hP, hD, hS, hRo, hK, hZ, hA⟩ := h
  refine sc_i (va_runS (As := As) (rest := rest) S (hM H.size (Av Z (bw g.2.1 bl ++ WO))) cw ⟨prl_blind, fun V hV hW => ⟨rfl, ?_⟩⟩ rfl hn hls hst (lv_room hW) hd ⟨by omega, by omega⟩) kk
  refine ⟨⟨by rw [hV], ?_, P_0, D_0, hX⟩, ?_, ?_⟩
  · rintro q (z | ⟨k, e9, z⟩)
    · exact Nat.lt_of_lt_of_le (hZ q z) hS.1
    · exact va_lt hP z
  · rw [hV]
    refine fun x hx => ((hRo x (hro x hx)).re (re_rf ?_)).moved hW.alike
    rintro q (z | ⟨k, e9, z⟩)
    · exact z
    · cases z
  · rw [hV]
    refine (hK.re (re_rf ?_)).warm hW
    rintro q (z | ⟨k, e9, z⟩)
    · exact z
    · cases z
end
