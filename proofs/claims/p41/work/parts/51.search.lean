/-! the search through the ways, and the whole match -/
def e0 : EV := fun _ => none
def tE (cm : Nat) (p : Tm) : Nat := if 6 < tn (cmB cm) p then 0 else cm
def nE (cm : Nat) (p : Tm) : Nat := if 6 < tn (cmB cm) p then 0 else tn (cmB cm) p
/-- the match of a pattern and a term -/
def mat (cm : Nat) (p t : Tm) : Option EV := (ms (cmB (tE cm p)) p t e0).head?
theorem cmB_0 (c : Int32) : cmB 0 c = false := by unfold cmB; simp
theorem tn_0 : ∀ p, tn (cmB 0) p = 0 := by
  intro p
  induction p with
  | leaf => rfl
  | inner n c u a b iha ihb => simp [tn, cmB_0, iha, ihb]
theorem tn_E (cm : Nat) (p : Tm) : tn (cmB (tE cm p)) p = nE cm p := by
  unfold tE nE
  split
  · exact tn_0 p
  · rfl
theorem nE_le (cm : Nat) (p : Tm) : nE cm p ≤ 6 := by unfold nE; split <;> omega
theorem tE_lt {cm : Nat} (h : cm < 16) (p : Tm) : tE cm p < 16 := by unfold tE; split <;> omega
def dg (n w : Nat) : List Bool := (List.range n).map (fun i => w.testBit (n - 1 - i))
theorem dg_succ (n w : Nat) : dg (n + 1) w = w.testBit n :: dg n w := by
  unfold dg
  rw [List.range_succ_eq_map, List.map_cons, List.map_map]
  congr 1
  apply List.map_congr_left
  intro i hi
  simp only [Function.comp]
  congr 1; omega
theorem dg_mod (n w : Nat) : dg n (w + 2 ^ n) = dg n w := by
  unfold dg
  apply List.map_congr_left
  intro i hi
  have hi := List.mem_range.mp hi
  have := Nat.testBit_two_pow_add_gt (i := n) (j := n - 1 - i) (by omega) w
  rw [Nat.add_comm]; exact this
theorem range_two (n : Nat) : List.range (2 ^ (n + 1)) = List.range (2 ^ n) ++ (List.range (2 ^ n)).map (fun w => w + 2 ^ n) := by
  rw [show 2 ^ (n + 1) = 2 ^ n + 2 ^ n by rw [Nat.pow_succ]; omega, List.range_add]
  congr 1
  apply List.map_congr_left
  intro w _
  omega
theorem bl_dg : ∀ n, bl n = (List.range (2 ^ n)).map (dg n) := by
  intro n
  induction n with
  | zero => rfl
  | succ n ih =>
    rw [bl, ih, range_two, List.map_append, List.map_map, List.map_map, List.map_map]
    congr 1
    · apply List.map_congr_left
      intro w hw
      have hw := List.mem_range.mp hw
      simp only [Function.comp]
      rw [dg_succ, Nat.testBit_lt_two_pow hw]
    · apply List.map_congr_left
      intro w hw
      have hw := List.mem_range.mp hw
      simp only [Function.comp]
      rw [dg_succ, dg_mod]
      congr 1
      rw [Nat.add_comm, Nat.testBit_two_pow_add_eq, Nat.testBit_lt_two_pow hw]; rfl
theorem wL_dg {n w i : Nat} (h : i < n) : wL 0 (dg n w) i = wayB n w i := by
  simp [wL, dg, wayB, h]
theorem mtD_dg {cm : Int32 → Bool} {p t : Tm} {n w : Nat} (hp : wf p) (hn : tn cm p ≤ n) (e : EV) : mtD cm (wL 0 (dg n w)) p t e 0 = mtD cm (wayB n w) p t e 0 := by
  apply mtD_pre
  intro i _ hi
  have := mtD_bd (cm := cm) (w := wayB n w) p hp t e 0
  exact wL_dg (by omega)
theorem ms_range {cm : Int32 → Bool} {p t : Tm} (hp : wf p) (e : EV) : ms cm p t e = (List.range (2 ^ tn cm p)).filterMap (fun w => (mtD cm (wayB (tn cm p) w) p t e 0).1) := by
  rw [ms_ways p hp t e 0, bl_dg, List.filterMap_map]
  apply fo_congr
  intro w _
  simp only [Function.comp]
  rw [mtD_dg hp (Nat.le_refl _)]
theorem fm_range_some {α : Type} {f : Nat → Option α} : ∀ {N w : Nat} {x : α}, w < N → (∀ v, v < w → f v = none) → f w = some x → ((List.range N).filterMap f).head? = some x := by
  intro N w x hw h0 h1
  have e : List.range N = List.range w ++ (List.range (N - w)).map (fun i => w + i) := by rw [← List.range_add]; congr 1; omega
  rw [e, List.filterMap_append, fm_const_none (fun v hv => h0 v (List.mem_range.mp hv)), List.nil_append, List.filterMap_map]
  have e2 : List.range (N - w) = 0 :: (List.range (N - w - 1)).map Nat.succ := by rw [show N - w = (N - w - 1) + 1 by omega, List.range_succ_eq_map]; rfl
  rw [e2, List.filterMap_cons]
  simp only [Function.comp, Nat.add_zero, h1]
  rfl
theorem fm_range_none {α : Type} {f : Nat → Option α} {N : Nat} (h : ∀ v, v < N → f v = none) : ((List.range N).filterMap f).head? = none := by
  rw [fm_const_none (fun v hv => h v (List.mem_range.mp hv))]; rfl
section
variable {cm : Int32 → Bool} {p t : Tm} {e : EV} {n : Nat}
abbrev Fw (cm : Int32 → Bool) (p t : Tm) (e : EV) (n w : Nat) : Option EV × Nat := mtD cm (wayB n w) p t e 0
theorem pre_same {w w' k : Nat} (hk : (Fw cm p t e n w).2 = k) (hkn : k ≤ n) (h : w / 2 ^ (n - k) = w' / 2 ^ (n - k)) : Fw cm p t e n w' = Fw cm p t e n w := by
  apply mtD_pre
  intro i _ hi
  have hi : i < k := by rw [← hk]; exact hi
  show w'.testBit (n - 1 - i) = w.testBit (n - 1 - i)
  have e1 : n - 1 - i = (k - 1 - i) + (n - k) := by omega
  rw [e1, ← Nat.testBit_div_two_pow, ← Nat.testBit_div_two_pow, h]
def Isr (cm : Int32 → Bool) (p t : Tm) (e : EV) (n way : Nat) : Prop := (∀ w, w < way → (Fw cm p t e n w).1 = none) ∧ (way = 0 ∨ ∃ w, w + 2 ^ (n - (Fw cm p t e n w).2) = way ∧ 2 ^ (n - (Fw cm p t e n w).2) ∣ w)
theorem Isr_dvd {way : Nat} (hp : wf p) (hn : tn cm p ≤ n) (h : Isr cm p t e n way) (_hf : (Fw cm p t e n way).1 = none) : 2 ^ (n - (Fw cm p t e n way).2) ∣ way := by
  have hbd : ∀ w, (Fw cm p t e n w).2 ≤ n := fun w => by
    have := mtD_bd (cm := cm) (w := wayB n w) p hp t e 0
    show (mtD cm (wayB n w) p t e 0).2 ≤ n
    omega
  rcases h.2 with rfl | ⟨w, hw, hd⟩
  · exact Nat.dvd_zero _
  · have hb := hbd way
    have hbw := hbd w
    generalize hk : (Fw cm p t e n way).2 = k at hb ⊢
    generalize hkw : (Fw cm p t e n w).2 = kw at hb hbw hw hd
    have hd2 : 2 ^ (n - kw) ∣ way := by rw [← hw]; exact Nat.dvd_add hd (Nat.dvd_refl _)
    by_cases hle : n - k ≤ n - kw
    · exact Nat.dvd_trans (Nat.pow_dvd_pow 2 hle) hd2
    apply Classical.byContradiction
    intro hnd
    obtain ⟨x, hx⟩ := hd
    have hD : 2 ^ (n - k) = 2 ^ (n - kw) * 2 ^ (kw - k) := by rw [← Nat.pow_add]; congr 1; omega
    have hway : way = 2 ^ (n - kw) * (x + 1) := by rw [← hw, hx, Nat.mul_add, Nat.mul_one]
    have e1 : way / 2 ^ (n - k) = w / 2 ^ (n - k) := by
      rw [hD, hway, hx, Nat.mul_div_mul_left _ _ (Nat.two_pow_pos _), Nat.mul_div_mul_left _ _ (Nat.two_pow_pos _), Nat.succ_div, if_neg]
      · rfl
      · intro q
        apply hnd
        rw [hD, hway]
        exact Nat.mul_dvd_mul (Nat.dvd_refl _) q
    have := pre_same hk hb e1
    rw [this, hk] at hkw
    omega
theorem Isr_step {way : Nat} (hp : wf p) (hn : tn cm p ≤ n) (h : Isr cm p t e n way) (hf : (Fw cm p t e n way).1 = none) : Isr cm p t e n (way + 2 ^ (n - (Fw cm p t e n way).2)) := by
  have hbd : ∀ w, (Fw cm p t e n w).2 ≤ n := fun w => by
    have := mtD_bd (cm := cm) (w := wayB n w) p hp t e 0
    show (mtD cm (wayB n w) p t e 0).2 ≤ n
    omega
  have hdiv : 2 ^ (n - (Fw cm p t e n way).2) ∣ way := Isr_dvd hp hn h hf
  refine ⟨fun w hw => ?_, Or.inr ⟨way, rfl, hdiv⟩⟩
  by_cases h1 : w < way
  · exact h.1 w h1
  · obtain ⟨x, hx⟩ := hdiv
    generalize hk : (Fw cm p t e n way).2 = k at hw hx
    have hkn : k ≤ n := by rw [← hk]; exact hbd way
    have e1 : way / 2 ^ (n - k) = w / 2 ^ (n - k) := by
      have hpos := Nat.two_pow_pos (n - k)
      rw [hx, Nat.mul_div_cancel_left _ hpos]
      symm
      apply Nat.div_eq_of_lt_le
      · rw [Nat.mul_comm, ← hx]; omega
      · rw [Nat.add_mul, Nat.one_mul, Nat.mul_comm, ← hx]; omega
    rw [pre_same hk hkn e1]; exact hf
end
