/-! the law's strings: the state that its methods pass on -/
abbrev GQ : Type := va_G × ClassId × ClassId × ClassId × Nat × Nat × (Nat → Int32)
def reOk (A A' : Nat → Prop) (H H1 : Heap) : Prop := (∀ a : Nat, a < H.size → ¬ A a → ¬ A' a) ∧ ∀ a : Nat, a < H.size → ¬ A a → H1[a]? = H[a]?
theorem lt_get {H : Heap} {a : Nat} {cell : Cell} (h : H[a]? = some cell) : a < H.size := (Array.getElem?_eq_some_iff.mp h).1
theorem va_T.re {ty : FieldType} {t N : Nat} {f : Nat → Value} {A A' : Nat → Prop} {U : State} {H H1 : Heap} (h : va_T ty t N f A U H) (r : reOk A A' H H1) : va_T ty t N f A' U H1 := by
  obtain ⟨cell, h1, h2, h3, h4, h5, h6, h7⟩ := h
  exact ⟨cell, by rw [r.2 t (lt_get h1) h7]; exact h1, h2, h3, h4, h5, h6, r.1 t (lt_get h1) h7⟩
theorem va_O.re {E : String} {t : Nat} {A A' : Nat → Prop} {U : State} {H H1 : Heap} (h : va_O E t A U H) (r : reOk A A' H H1) : va_O E t A' U H1 := by
  obtain ⟨cell, h1, h2, h3, h4⟩ := h
  exact ⟨cell, by rw [r.2 t (lt_get h1) h4]; exact h1, h2, h3, r.1 t (lt_get h1) h4⟩
theorem va_OF.re {o n d : String} {v : Value} {t : Nat} {A A' : Nat → Prop} {U : State} {H H1 : Heap} (h : va_OF o n d v t A U H) (r : reOk A A' H H1) : va_OF o n d v t A' U H1 := by
  obtain ⟨cf, k, i, f, cell, h1, h2, h3, h4, h5, h6⟩ := h
  exact ⟨cf, k, i, f, cell, h1, h2, by rw [r.2 t (lt_get h3) h6]; exact h3, h4, h5, r.1 t (lt_get h3) h6⟩
theorem va_Z.re {C n d : String} {v : Value} {A A' : Nat → Prop} {U : State} {H H1 : Heap} (h : va_Z C n d v A U H) (r : reOk A A' H H1) : va_Z C n d v A' U H1 := by
  obtain ⟨cf, kf, fi, f, a, cell, h1, h2, h3, h4, h5, h6, h7, h8⟩ := h
  exact ⟨cf, kf, fi, f, a, cell, h1, h2, h3, h4, by rw [r.2 a (lt_get h5) h8]; exact h5, h6, h7, r.1 a (lt_get h5) h8⟩
theorem Sf.re {a b : Nat} {t : List Int32} {A A' : Nat → Prop} {U : State} {H H1 : Heap} (h : Sf a b t A U H) (r : reOk A A' H H1) : Sf a b t A' U H1 := ⟨h.1.re r, h.2.1.re r, h.2.2.1.re r, va_T.re (ty := .byte) h.2.2.2 r⟩
theorem RoF.re {x : RoE} {A A' : Nat → Prop} {U : State} {H H1 : Heap} (h : RoF x A U H) (r : reOk A A' H H1) : RoF x A' U H1 := by
  rcases x with q | q
  · exact Sf.re (a := q.1) (b := q.2.1) (t := q.2.2) h r
  · exact va_T.re (ty := .byte) h r
theorem Ro.re {l : List RoE} {A A' : Nat → Prop} {U : State} {H H1 : Heap} (h : Ro l A U H) (r : reOk A A' H H1) : Ro l A' U H1 := fun x hx => (h x hx).re r
theorem Jd.re {D : va_G} {cB : ClassId} {A A' : Nat → Prop} {U : State} {H H1 : Heap} (h : Jd D cB A U H) (r : reOk A A' H H1) : Jd D cB A' U H1 := by
  refine ⟨h.1, h.2.1.re r, ?_, h.2.2.2⟩
  rcases h.2.2.1 with z | ⟨t, z⟩
  · exact Or.inl (z.re r)
  · exact Or.inr ⟨t, z.re r⟩
theorem re_rf {A A' : Nat → Prop} {H : Heap} (h : ∀ a, A' a → A a) : reOk A A' H H := ⟨fun a _ h1 h2 => h1 (h a h2), fun _ _ _ => rfl⟩
/-- the law's constants: place in its pool, text, signs -/
def Kt : List (Nat × String × List Int32) := [(42, "(", [40]), (54, "", []), (56, ",", [44]), (62, ")", [41]), (67, "abuv", [97, 98, 117, 118]), (69, "e", [101]), (71, "f", [102]), (77, "j", [106]), (79, "i", [105]), (81, "iuv>ivu", [105, 117, 118, 62, 105, 118, 117]), (83, "iau>u", [105, 97, 117, 62, 117]), (85, "eiuv>ieuev", [101, 105, 117, 118, 62, 105, 101, 117, 101, 118]), (87, "iiuvw>iuivw", [105, 105, 117, 118, 119, 62, 105, 117, 105, 118, 119]), (89, "fa>a", [102, 97, 62, 97]), (91, "jeuv>ejuv", [106, 101, 117, 118, 62, 101, 106, 117, 118]), (93, "a>b", [97, 62, 98]), (95, "iuu>u", [105, 117, 117, 62, 117]), (97, "eeu>eu", [101, 101, 117, 62, 101, 117]), (99, "juv>iuv", [106, 117, 118, 62, 105, 117, 118]), (101, "eu>ieuu", [101, 117, 62, 105, 101, 117, 117]), (103, "iuivw>iiuvw", [105, 117, 105, 118, 119, 62, 105, 105, 117, 118, 119]), (105, "fu>u", [102, 117, 62, 117]), (107, "jiuvw>ijuwjvw", [106, 105, 117, 118, 119, 62, 105, 106, 117, 119, 106, 118, 119]), (116, ">", [62]), (154, "!", [33]), (156, ";", [59]), (158, "eiau", [101, 105, 97, 117]), (203, "|", [124])]
def Kq (q : Nat × String × List Int32) (A : Nat → Prop) (U : State) (H : Heap) : Prop := ∃ a b : Nat, vk_R RL q.1 q.2.1 a U ∧ Sf a b q.2.2 A U H
/-- what all of the law's methods stand on -/
def Kz (g : GQ) (A : Nat → Prop) (U : State) (H : Heap) : Prop := Jd g.1 g.2.1 A U H ∧ (∀ q ∈ Kt, Kq q A U H) ∧ va_T .int g.2.2.2.2.1 g.2.2.2.2.2.1 (fun j => .int (g.2.2.2.2.2.2 j)) A U H ∧ va_K g.1 vwCl [(g.2.2.1, .int), (g.2.2.2.1, .long)] U ∧ (∀ q ∈ NMl, va_Nw (.methodLinkNest q.1 q.2.1 q.2.2.1 q.2.2.2) U) ∧ (∀ q ∈ NFl, va_Nw (.fieldLinkNest q.1 q.2.1 q.2.2.1 q.2.2.2.1 q.2.2.2.2.1 q.2.2.2.2.2) U)
theorem Kz.re {g : GQ} {A A' : Nat → Prop} {U : State} {H H1 : Heap} (h : Kz g A U H) (r : reOk A A' H H1) : Kz g A' U H1 := ⟨h.1.re r, fun q hq => by
  obtain ⟨a, b, h1, h2⟩ := h.2.1 q hq
  exact ⟨a, b, h1, h2.re r⟩, h.2.2.1.re r, h.2.2.2⟩
theorem Kz.warm {g : GQ} {A : Nat → Prop} {s U : State} {H : Heap} (hW : s.WarmedH U.vm) (h : Kz g A s H) : Kz g A U H := ⟨h.1.moved hW.alike (Sl.warm hW), fun q hq => by
  obtain ⟨a, b, h1, h2⟩ := h.2.1 q hq
  exact ⟨a, b, h1.warm hW, RoF.moved (x := .inl (a, b, q.2.2)) hW.alike h2⟩, va_T.moved hW.alike h.2.2.1, va_K.moved hW.alike h.2.2.2.1, fun q hq => va_Nw.warmM hW (h.2.2.2.2.1 q hq), fun q hq => va_Nw.warmF hW (h.2.2.2.2.2 q hq)⟩
theorem Kz.same {g : GQ} {A : Nat → Prop} {u U : State} {H : Heap} (hv : U.vm = u.vm) (h : Kz g A u H) : Kz g A U H := by
  have al : u.vm.Alike U.vm := by rw [hv]; exact Vm.Alike.refl _
  exact ⟨h.1.moved al (Sl.same hv.symm), fun q hq => by
    obtain ⟨a, b, h1, h2⟩ := h.2.1 q hq
    exact ⟨a, b, h1.same hv, RoF.moved (x := .inl (a, b, q.2.2)) al h2⟩, va_T.moved al h.2.2.1, va_K.moved al h.2.2.2.1, fun q hq => va_Nw.same rfl hv.symm (h.2.2.2.2.1 q hq), fun q hq => va_Nw.same rfl hv.symm (h.2.2.2.2.2 q hq)⟩
/-- what is kept apart: what the callers write, and what is owned -/
def Av (Z : Nat → Prop) (ws : va_W) : Nat → Prop := fun q => Z q ∨ ∃ (k : Nat) (e : va_E), ws[k]? = some (q, e)
def PrL (g : GQ) (sz : Nat) (RO : List RoE) (Z : Nat → Prop) (WO : va_W) (X : Prop) : State → Prop := fun U => (U.heap.size = sz ∧ (∀ q, Z q → q < sz) ∧ va_P g.1 vwCl WO U.heap ∧ va_D (fun _ => True) WO ∧ X) ∧ Ro RO (Av Z WO) U U.heap ∧ Kz g (Av Z WO) U U.heap
theorem prl_blind {g : GQ} {sz : Nat} {RO : List RoE} {Z : Nat → Prop} {WO : va_W} {X : Prop} {av : List Value} : FrameBlind (va_Pc av (PrL g sz RO Z WO X)) := fun a U _ mk q => ⟨q.1, q.2.1, fun x hx => (q.2.2.1 x hx).moved (u := U) (U := U.calling _ mk a) (Vm.Alike.refl U.vm), Kz.same (u := U) (U := U.calling _ mk a) rfl q.2.2.2⟩
/-- builders in hand: where, their row, its room, what it holds, what of it counts -/
abbrev BB : Type := Nat × Nat × Nat × (Nat → Int32) × List Int32
def bE (cB : ClassId) (x : BB) : va_W := [(x.1, .inr (12, [.ref x.2.1, .int 0, .int 0, .int (jn x.2.2.2.2.length)])), (x.2.1, .inl (cB, x.2.2.1, .inl x.2.2.2.1))]
def bw (cB : ClassId) : List BB → va_W
  | [] => []
  | x :: l => bE cB x ++ bw cB l
def bOk (U sz : Nat) (x : BB) : Prop := Bc x.2.2.2.2 x.2.2.1 x.2.2.2.1 ∧ x.2.2.1 ≤ 2 * U + 16 ∧ sz ≤ x.1 ∧ sz ≤ x.2.1
def bKey (x : BB) : Nat × List Int32 := (x.1, x.2.2.2.2)
/-- behind what a call leaves: the base -/
def LB (g : GQ) (s : State) (A Z : Nat → Prop) (ws : va_W) (RO : List RoE) (H : Heap) (locs : List Loc) : Prop := va_P g.1 vwCl ws H ∧ va_D A ws ∧ va_S A s.heap H locs ∧ Ro RO (Av Z ws) s H ∧ Kz g (Av Z ws) s H ∧ (∀ q, Z q → q < s.heap.size) ∧ (∀ q, s.heap.size ≤ q → A q)
def LQ (g : GQ) (U : Nat) (s : State) (A Z : Nat → Prop) (WO : va_W) (RO : List RoE) (BL : List (Nat × List Int32)) (H : Heap) (locs : List Loc) : Prop :=
  ∃ bl : List BB, bl.map bKey = BL ∧ (∀ x ∈ bl, bOk U s.heap.size x) ∧ LB g s A Z (bw g.2.1 bl ++ WO) RO H locs
theorem lq_entry {g : GQ} {U : Nat} {s : State} {Z : Nat → Prop} {WO : va_W} {RO : List RoE} {X : Prop} {sz : Nat} (h : PrL g sz RO Z WO X s) : LQ g U s (va_A WO s.heap.size) Z WO RO [] s.heap [] :=
  ⟨[], rfl, fun x hx => (by cases hx), h.1.2.2.1, h.1.2.2.2.1.self, va_S.rf, h.2.1, h.2.2, fun q hq => by rw [h.1.1]; exact h.1.2.1 q hq, fun q hq => Or.inr hq⟩
section
variable {g : GQ} {s : State} {A Z : Nat → Prop} {wc wr w1 : va_W} {RO : List RoE} {H H1 : Heap} {locs locs1 : List Loc}
theorem av_l {ws ws' : va_W} (h : ∀ (k : Nat) (q : Nat × va_E), ws[k]? = some q → ∃ k' : Nat, ws'[k']? = some q) : ∀ a, Av Z ws a → Av Z ws' a := by
  rintro a (z | ⟨k, e, z⟩)
  · exact Or.inl z
  · obtain ⟨k', z'⟩ := h k _ z
    exact Or.inr ⟨k', e, z'⟩
theorem app_l {ws ws' : va_W} : ∀ (k : Nat) (q : Nat × va_E), ws[k]? = some q → ∃ k' : Nat, (ws ++ ws')[k']? = some q := fun k q h => ⟨k, by rw [List.getElem?_append_left (List.getElem?_eq_some_iff.mp h).1]; exact h⟩
theorem app_r {ws ws' : va_W} : ∀ (k : Nat) (q : Nat × va_E), ws'[k]? = some q → ∃ k' : Nat, (ws ++ ws')[k']? = some q := fun k q h => ⟨ws.length + k, by rw [List.getElem?_append_right (Nat.le_add_right _ _), Nat.add_sub_cancel_left]; exact h⟩
theorem app_or {ws ws' : va_W} {k : Nat} {q : Nat × va_E} (h : (ws ++ ws')[k]? = some q) : (∃ j : Nat, ws[j]? = some q) ∨ ∃ j : Nat, ws'[j]? = some q := by
  by_cases hk : k < ws.length
  · rw [List.getElem?_append_left hk] at h
    exact Or.inl ⟨k, h⟩
  · rw [List.getElem?_append_right (by omega)] at h
    exact Or.inr ⟨_, h⟩
/-- what a call leaves that owned wc -/
theorem LB.eff (h : LB g s A Z (wc ++ wr) RO H locs) (hz : H.size ≤ H1.size) (hk : ∀ q : Nat, q < H.size → ¬ va_A wc H.size q → H1[q]? = H[q]?) (hP1 : va_P g.1 vwCl w1 H1) (hD1 : va_D (va_A wc H.size) w1) (hS1 : va_S A s.heap H1 locs1) : LB g s A Z (w1 ++ wr) RO H1 locs1 ∧ reOk (Av Z (wc ++ wr)) (Av Z (w1 ++ wr)) H H1 := by
  obtain ⟨hP, hD, hS, hR, hK, hZ, hA⟩ := h
  have hF : ∀ q, va_A wc H.size q → A q := by
    rintro q (⟨k, e, z⟩ | z)
    · obtain ⟨k', z'⟩ := app_l (ws' := wr) k _ z
      exact hD.2 k' (q, e) z'
    · exact hA q (Nat.le_trans hS.1 z)
  have apart : ∀ (k : Nat) (q : Nat × va_E), wr[k]? = some q → q.1 < H.size ∧ ¬ va_A wc H.size q.1 := by
    intro k q hq
    obtain ⟨k', hq'⟩ := app_r (ws := wc) k q hq
    refine ⟨va_lt hP hq', ?_⟩
    rintro (⟨j, e, z⟩ | z)
    · have hj := (List.getElem?_eq_some_iff.mp z).1
      have e1 := hD.1 j (wc.length + k) (q.1, e) q (by rw [List.getElem?_append_left hj]; exact z) (by rw [List.getElem?_append_right (Nat.le_add_right _ _), Nat.add_sub_cancel_left]; exact hq) rfl
      omega
    · have := va_lt hP hq'
      omega
  have r : reOk (Av Z (wc ++ wr)) (Av Z (w1 ++ wr)) H H1 := by
    refine ⟨fun a ha hn => ?_, fun a ha hn => hk a ha ?_⟩
    · rintro (z | ⟨k, e, z⟩)
      · exact hn (Or.inl z)
      · rcases app_or z with ⟨j, z⟩ | ⟨j, z⟩
        · rcases hD1.2 j _ z with ⟨j', e', z'⟩ | z'
          · obtain ⟨k', z''⟩ := app_l (ws' := wr) j' _ z'
            exact hn (Or.inr ⟨k', e', z''⟩)
          · exact absurd z' (by show ¬ H.size ≤ a; omega)
        · obtain ⟨k', z''⟩ := app_r (ws := wc) j _ z
          exact hn (Or.inr ⟨k', e, z''⟩)
    · rintro (⟨j, e, z⟩ | z)
      · obtain ⟨k', z''⟩ := app_l (ws' := wr) j _ z
        exact hn (Or.inr ⟨k', e, z''⟩)
      · omega
  refine ⟨⟨hP1.app (fun k q hq => ?_), va_D.app (hD1.weaken (fun k q _ z => hF q.1 z)) ⟨fun i j x y hx hy e => ?_, fun k q hq => ?_⟩ (fun i j x y hx hy e => ?_), hS1, hR.re r, hK.re r, hZ, hA⟩, r⟩
  · obtain ⟨k', hq'⟩ := app_r (ws := wc) k q hq
    obtain ⟨g1, g2⟩ := apart k q hq
    exact (hP k' q hq').kept (hk q.1 g1 g2)
  · have e1 := hD.1 (wc.length + i) (wc.length + j) x y (by rw [List.getElem?_append_right (Nat.le_add_right _ _), Nat.add_sub_cancel_left]; exact hx) (by rw [List.getElem?_append_right (Nat.le_add_right _ _), Nat.add_sub_cancel_left]; exact hy) e
    omega
  · obtain ⟨k', hq'⟩ := app_r (ws := wc) k q hq
    exact hD.2 k' q hq'
  · exact (apart j y hy).2 (by rw [← e]; exact hD1.2 i x hx)
theorem LB.swap {a b : va_W} (h : LB g s A Z (a ++ b) RO H locs) : LB g s A Z (b ++ a) RO H locs := by
  obtain ⟨hP, hD, hS, hR, hK, hZ, hA⟩ := h
  have r : reOk (Av Z (a ++ b)) (Av Z (b ++ a)) H H := re_rf (av_l (fun k q hq => by
    rcases app_or hq with ⟨j, z⟩ | ⟨j, z⟩
    · exact app_r j q z
    · exact app_l j q z))
  exact ⟨va_P.swap (a := []) hP, va_D.swap (a := []) hD, hS, hR.re r, hK.re r, hZ, hA⟩
/-- less is owned -/
theorem LB.drop {a b : va_W} (h : LB g s A Z (a ++ b) RO H locs) : LB g s A Z b RO H locs := by
  obtain ⟨hP, hD, hS, hR, hK, hZ, hA⟩ := h
  have r : reOk (Av Z (a ++ b)) (Av Z b) H H := re_rf (av_l app_r)
  refine ⟨fun k q hq => ?_, ⟨fun i j x y hx hy e => ?_, fun k q hq => ?_⟩, hS, hR.re r, hK.re r, hZ, hA⟩
  · obtain ⟨k', hq'⟩ := app_r (ws := a) k q hq
    exact hP k' q hq'
  · have e1 := hD.1 (a.length + i) (a.length + j) x y (by rw [List.getElem?_append_right (Nat.le_add_right _ _), Nat.add_sub_cancel_left]; exact hx) (by rw [List.getElem?_append_right (Nat.le_add_right _ _), Nat.add_sub_cancel_left]; exact hy) e
    omega
  · obtain ⟨k', hq'⟩ := app_r (ws := a) k q hq
    exact hD.2 k' q hq'
theorem LB.read (h : LB g s A Z wr RO H locs) {x : RoE} (hx : RoF x (Av Z wr) s H) : LB g s A Z wr (RO ++ [x]) H locs := by
  refine ⟨h.1, h.2.1, h.2.2.1, fun y hy => ?_, h.2.2.2.2⟩
  rcases List.mem_append.mp hy with hy | hy
  · exact h.2.2.2.1 y hy
  · rw [List.mem_singleton.mp hy]; exact hx
end
/-- an owned string, as it may be read -/
theorem P_S {D : va_G} {cB : ClassId} {s : State} {args : Array Value} {A : Nat → Prop} {H : Heap} {ra rb : Nat} {u : List Int32} (hts : ∀ w ∈ TW, w.before args s = true) (hK : va_K D vwCl [(cB, .byte)] s) (hP : va_P D vwCl [(ra, .inr (11, [.ref rb, .int 0, .int 0, .int 0])), (rb, .inl (cB, u.length, .inl (bt u)))] H) (h1 : ¬ A ra) (h2 : ¬ A rb) : Sf ra rb u A s H := by
  obtain ⟨r, e1, cell, q1, q2, q3, q4⟩ := hP 0 _ rfl
  have hr : r = (RJ0, TJ0, 4) := Option.some.inj (e1.symm.trans rfl)
  subst hr
  obtain ⟨hSl, hfc, kC, hkC, hkind⟩ := hK.1 11 _ rfl
  have fld : ∀ (k : Nat) (v : Value), k < 4 → vp_V [.ref rb, .int 0, .int 0, .int 0] k = v → va_OF (TJ0 k).1 (TJ0 k).2.1 (TJ0 k).2.2.1 v ra A s H := by
    intro k v hk hv
    obtain ⟨cf, kf, fi, f, hi, hsl⟩ := hSl k hk
    exact ⟨cf, kf, fi, f, cell, hi, (u_facts hfc hkC (u_lays hts uw_11 hk) hi).1, q1, by rw [q3]; exact (fun h => by cases h), by rw [hsl, q4 k hk, hv], h1⟩
  refine ⟨⟨cell, q1, by rw [q3]; rfl, by rw [q2]; exact hfc, h1⟩, fld 1 _ (by decide) rfl, fld 0 _ (by decide) rfl, ?_⟩
  exact ro_T hK hP (q0 := 1) rfl h2
