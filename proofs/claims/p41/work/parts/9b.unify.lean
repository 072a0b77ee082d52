/-! UNIFYING: trees with variables told apart, what is put in, the most general -/
abbrev vE (c : Int32) : Prop := 117 ≤ c.toInt ∧ c.toInt ≤ 122 ∨ 85 ≤ c.toInt ∧ c.toInt ≤ 90
abbrev is0E (c : Int32) : Prop := 97 ≤ c.toInt ∧ c.toInt ≤ 100 ∨ 117 ≤ c.toInt ∧ c.toInt ≤ 122 ∨ 85 ≤ c.toInt ∧ c.toInt ≤ 90
def wfE : Tm → Prop
  | .leaf => False
  | .inner n c _ a b => n = 0 ∧ (is0E c ∧ a = .leaf ∧ b = .leaf ∨ is1 c ∧ wfE a ∧ b = .leaf ∨ is2 c ∧ wfE a ∧ wfE b)
theorem wfE_ind {P : Tm → Prop} (h0 : ∀ c, is0E c → P (Nd c Lf Lf)) (h1 : ∀ c a, is1 c → wfE a → P a → P (Nd c a Lf)) (h2 : ∀ c a b, is2 c → wfE a → wfE b → P a → P b → P (Nd c a b)) : ∀ t, wfE t → P t := by
  intro t
  induction t with
  | leaf => intro h; exact h.elim
  | inner n c u a b iha ihb =>
    rintro ⟨rfl, ⟨hc, rfl, rfl⟩ | ⟨hc, ha, rfl⟩ | ⟨hc, ha, hb⟩⟩
    · exact h0 c hc
    · exact h1 c a hc ha (iha ha)
    · exact h2 c a b hc ha hb (iha ha) (ihb hb)
theorem wfE_0 {c : Int32} (h : is0E c) : wfE (Nd c Lf Lf) := ⟨rfl, Or.inl ⟨h, rfl, rfl⟩⟩
theorem wfE_1 {c : Int32} {a : Tm} (h : is1 c) (ha : wfE a) : wfE (Nd c a Lf) := ⟨rfl, Or.inr (Or.inl ⟨h, ha, rfl⟩)⟩
theorem wfE_2 {c : Int32} {a b : Tm} (h : is2 c) (ha : wfE a) (hb : wfE b) : wfE (Nd c a b) := ⟨rfl, Or.inr (Or.inr ⟨h, ha, hb⟩)⟩
theorem wfE_of : ∀ t, wf t → wfE t := by
  refine wf_ind (fun c hc => ?_) (fun c a hc _ iha => ?_) (fun c a b hc _ _ iha ihb => ?_)
  · exact wfE_0 (by omega)
  · exact wfE_1 hc iha
  · exact wfE_2 hc iha ihb
theorem wfE_cases {t : Tm} (h : wfE t) : ∃ c x y, t = Nd c x y ∧ (is0E c ∧ x = Lf ∧ y = Lf ∨ is1 c ∧ wfE x ∧ y = Lf ∨ is2 c ∧ wfE x ∧ wfE y) := by
  cases t with
  | leaf => exact h.elim
  | inner n c u a b =>
    obtain ⟨rfl, h⟩ := h
    exact ⟨c, a, b, rfl, h⟩
theorem szE_pos {t : Tm} (h : wfE t) : 0 < sz t := by
  obtain ⟨c, x, y, rfl, -⟩ := wfE_cases h
  rw [sz_n]; omega
/-- variables have numbers: 0 to 5 those of the first, 6 to 11 those of the second -/
def vn (c : Int32) : Nat := if 117 ≤ c.toInt then (c.toInt - 117).toNat else (c.toInt - 79).toNat
def vcd (v : Nat) : Int32 := if v < 6 then jn (117 + v) else jn (79 + v)
abbrev vr (v : Nat) : Tm := Nd (vcd v) Lf Lf
theorem vcd_I {v : Nat} (h : v < 12) : (vcd v).toInt = if v < 6 then 117 + (v : Int) else 79 + (v : Int) := by
  unfold vcd
  split
  · rw [jn_toInt (by omega)]; omega
  · rw [jn_toInt (by omega)]; omega
theorem vcd_E {v : Nat} (h : v < 12) : vE (vcd v) := by
  have := vcd_I h
  unfold vE
  split at this <;> omega
theorem vn_lt {c : Int32} (h : vE c) : vn c < 12 := by
  unfold vn
  split <;> omega
theorem vn_vcd {v : Nat} (h : v < 12) : vn (vcd v) = v := by
  have := vcd_I h
  unfold vn
  split at this
  · rw [if_pos (by omega)]; omega
  · rw [if_neg (by omega)]; omega
theorem vcd_vn {c : Int32} (h : vE c) : vcd (vn c) = c := by
  have hl := vn_lt h
  rcases h with h | h
  · have e : vn c = (c.toInt - 117).toNat := if_pos (by omega)
    rw [← Int32.toInt_inj, vcd_I hl, e, if_pos (by omega)]; omega
  · have e : vn c = (c.toInt - 79).toNat := if_neg (by omega)
    rw [← Int32.toInt_inj, vcd_I hl, e, if_neg (by omega)]; omega
theorem vn_inj {c c' : Int32} (h : vE c) (h' : vE c') (e : vn c = vn c') : c = c' := by rw [← vcd_vn h, ← vcd_vn h', e]
theorem wfE_vr {v : Nat} (h : v < 12) : wfE (vr v) := wfE_0 (by have := vcd_E h; omega)
/-- what is put in -/
def ap (m : Nat → Tm) : Tm → Tm
  | .leaf => .leaf
  | .inner n c u a b => if vE c then m (vn c) else .inner n c u (ap m a) (ap m b)
theorem ap_v {m : Nat → Tm} {c : Int32} {a b : Tm} (h : vE c) : ap m (Nd c a b) = m (vn c) := if_pos h
theorem ap_n {m : Nat → Tm} {c : Int32} {a b : Tm} (h : ¬ vE c) : ap m (Nd c a b) = Nd c (ap m a) (ap m b) := if_neg h
theorem ap_vr {m : Nat → Tm} {v : Nat} (h : v < 12) : ap m (vr v) = m v := by rw [ap_v (vcd_E h), vn_vcd h]
def apC (m : Nat → Tm) (c : Int32) : List Int32 := if vE c then en (m (vn c)) else [c]
theorem ap_en {m : Nat → Tm} : ∀ t, wfE t → en (ap m t) = (en t).flatMap (apC m) := by
  refine wfE_ind (fun c hc => ?_) (fun c a hc _ iha => ?_) (fun c a b hc _ _ iha ihb => ?_)
  · rw [en_0]
    by_cases h : vE c
    · rw [ap_v h]; simp [apC, if_pos h]
    · rw [ap_n h]; simp [apC, if_neg h, ap, en]
  · have h : ¬ vE c := by omega
    rw [ap_n h, en_n, en_n, iha]
    simp [apC, if_neg h, ap, en]
  · have h : ¬ vE c := by omega
    rw [ap_n h, en_n, en_n, iha, ihb]
    simp [apC, if_neg h]
theorem ap_wf {m : Nat → Tm} (hm : ∀ v, v < 12 → wfE (m v)) : ∀ t, wfE t → wfE (ap m t) := by
  refine wfE_ind (fun c hc => ?_) (fun c a hc _ iha => ?_) (fun c a b hc _ _ iha ihb => ?_)
  · by_cases h : vE c
    · rw [ap_v h]; exact hm _ (vn_lt h)
    · rw [ap_n h]; exact wfE_0 hc
  · rw [ap_n (by omega)]; exact wfE_1 hc iha
  · rw [ap_n (by omega)]; exact wfE_2 hc iha ihb
/-- one behind the other -/
theorem ap_ap {m n : Nat → Tm} (h : ∀ v, v < 12 → n v = ap n (m v)) : ∀ t, wfE t → ap n (ap m t) = ap n t := by
  refine wfE_ind (fun c hc => ?_) (fun c a hc _ iha => ?_) (fun c a b hc _ _ iha ihb => ?_)
  · by_cases hv : vE c
    · rw [ap_v hv, ap_v hv, ← h _ (vn_lt hv)]
    · rw [ap_n hv, ap_n hv, ap_n hv]; rfl
  · have hv : ¬ vE c := by omega
    rw [ap_n hv, ap_n hv, ap_n hv, iha]; rfl
  · have hv : ¬ vE c := by omega
    rw [ap_n hv, ap_n hv, ap_n hv, iha, ihb]
/-- the most general that makes two alike -/
def Mgu (m : Nat → Tm) (s t : Tm) : Prop := (∀ v, v < 12 → wfE (m v)) ∧ ap m s = ap m t ∧ ∀ th, ap th s = ap th t → ∀ v, v < 12 → th v = ap th (m v)
/-! names in the order of their coming -/
def cnS : List Int32 → List Int32 → List Int32 × List Int32
  | nm, [] => ([], nm)
  | nm, c :: l => if vE c then (if c ∈ nm then (jn (117 + nm.idxOf c) :: (cnS nm l).1, (cnS nm l).2) else (jn (117 + nm.length) :: (cnS (nm ++ [c]) l).1, (cnS (nm ++ [c]) l).2)) else (c :: (cnS nm l).1, (cnS nm l).2)
theorem cnS_in {nm l : List Int32} {c : Int32} (h : vE c) (hm : c ∈ nm) : cnS nm (c :: l) = (jn (117 + nm.idxOf c) :: (cnS nm l).1, (cnS nm l).2) := by rw [cnS, if_pos h, if_pos hm]
theorem cnS_new {nm l : List Int32} {c : Int32} (h : vE c) (hm : c ∉ nm) : cnS nm (c :: l) = (jn (117 + nm.length) :: (cnS (nm ++ [c]) l).1, (cnS (nm ++ [c]) l).2) := by rw [cnS, if_pos h, if_neg hm]
theorem cnS_non {nm l : List Int32} {c : Int32} (h : ¬ vE c) : cnS nm (c :: l) = (c :: (cnS nm l).1, (cnS nm l).2) := by rw [cnS, if_neg h]
theorem cnS_len : ∀ (l nm : List Int32), (cnS nm l).1.length = l.length := by
  intro l
  induction l with
  | nil => intro nm; rfl
  | cons c l ih =>
    intro nm
    by_cases h : vE c
    · by_cases hm : c ∈ nm
      · rw [cnS_in h hm, List.length_cons, List.length_cons, ih]
      · rw [cnS_new h hm, List.length_cons, List.length_cons, ih]
    · rw [cnS_non h, List.length_cons, List.length_cons, ih]
theorem cnS_app : ∀ (l l' nm : List Int32), cnS nm (l ++ l') = ((cnS nm l).1 ++ (cnS (cnS nm l).2 l').1, (cnS (cnS nm l).2 l').2) := by
  intro l
  induction l with
  | nil => intro l' nm; rfl
  | cons c l ih =>
    intro l' nm
    rw [List.cons_append]
    by_cases h : vE c
    · by_cases hm : c ∈ nm
      · rw [cnS_in h hm, cnS_in h hm, ih, List.cons_append]
      · rw [cnS_new h hm, cnS_new h hm, ih, List.cons_append]
    · rw [cnS_non h, cnS_non h, ih, List.cons_append]
abbrev rnC (f : Int32 → Int32) (c : Int32) : Int32 := if vE c then f c else c
theorem idx_map {f : Int32 → Int32} {c : Int32} : ∀ (l : List Int32), (∀ x ∈ l, f x = f c → x = c) → (l.map f).idxOf (f c) = l.idxOf c := by
  intro l
  induction l with
  | nil => intro _; rfl
  | cons x l ih =>
    intro h
    rw [List.map_cons, List.idxOf_cons, List.idxOf_cons]
    by_cases e : x = c
    · subst e; simp
    · have e2 : f x ≠ f c := fun z => e (h x (by simp) z)
      have b1 : (f x == f c) = false := by simpa using e2
      have b2 : (x == c) = false := by simpa using e
      rw [b1, b2, ih (fun y hy => h y (by simp [hy]))]
/-- other names, the same order -/
theorem cnS_ren {f : Int32 → Int32} : ∀ (l nm : List Int32), (∀ c ∈ l, vE c → vE (f c)) → (∀ x ∈ nm, ∀ y ∈ l, vE y → f x = f y → x = y) → (∀ x ∈ l, ∀ y ∈ l, vE x → vE y → f x = f y → x = y) → cnS (nm.map f) (l.map (rnC f)) = ((cnS nm l).1, (cnS nm l).2.map f) := by
  intro l
  induction l with
  | nil => intro nm _ _ _; rfl
  | cons c l ih =>
    intro nm h1 h2 h3
    have h1' : ∀ c ∈ l, vE c → vE (f c) := fun x hx => h1 x (by simp [hx])
    have h3' : ∀ x ∈ l, ∀ y ∈ l, vE x → vE y → f x = f y → x = y := fun x hx y hy => h3 x (by simp [hx]) y (by simp [hy])
    rw [List.map_cons]
    by_cases hv : vE c
    · have hv2 := h1 c (by simp) hv
      rw [show rnC f c = f c from if_pos hv]
      by_cases hm : c ∈ nm
      · have hm2 : f c ∈ nm.map f := List.mem_map_of_mem hm
        rw [cnS_in hv2 hm2, cnS_in hv hm, idx_map nm (fun x hx e => h2 x hx c (by simp) hv e), ih nm h1' (fun x hx y hy => h2 x hx y (by simp [hy])) h3']
      · have hm2 : f c ∉ nm.map f := by
          intro z
          obtain ⟨x, hx, e⟩ := List.mem_map.mp z
          exact hm (h2 x hx c (by simp) hv e ▸ hx)
        have e : nm.map f ++ [f c] = (nm ++ [c]).map f := by simp
        rw [cnS_new hv2 hm2, cnS_new hv hm, e, ih (nm ++ [c]) h1' (fun x hx y hy hvy z => ?_) h3', List.length_map]
        rcases List.mem_append.mp hx with hx | hx
        · exact h2 x hx y (by simp [hy]) hvy z
        · rw [List.mem_singleton] at hx
          subst hx
          exact h3 x (by simp) y (by simp [hy]) hv hvy z
    · rw [show rnC f c = c from if_neg hv, cnS_non hv, cnS_non hv, ih nm h1' (fun x hx y hy => h2 x hx y (by simp [hy])) h3']
