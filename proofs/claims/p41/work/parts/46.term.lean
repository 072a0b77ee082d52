/-! term: reading -/
abbrev RS : Type := Nat × List Nat × List Int32
def rdS (s : RS) (c : Int32) : Option RS := match s with
  | (0, k, o) => if ¬ sg c ∨ 40 ≤ o.length then none else if is0 c then some (2, k, o ++ [c]) else some (1, (if is2 c then 2 else 1) :: k, o ++ [c])
  | (1, k, o) => if c = jn 40 then some (0, k, o) else none
  | (_, [], _) => none
  | (_, a :: k, o) => if a = 2 then (if c = jn 44 then some (0, 1 :: k, o) else none) else (if c = jn 41 then some (2, k, o) else none)
def rdR (g : Nat → Int32) : Nat → Nat → RS → Nat ⊕ List Int32
  | 0, i, s => if s.1 = 2 ∧ s.2.1 = [] then .inr s.2.2 else .inl i
  | m + 1, i, s => match rdS s (g i) with
    | none => .inl i
    | some s' => rdR g m (i + 1) s'
def Pre : Nat → List Int32 → Prop
  | o, [] => o = 0
  | 0, _ :: _ => False
  | o + 1, c :: l => sg c ∧ Pre (o + arN c) l
theorem Pre_forest : ∀ (l : List Int32) (o : Nat), Pre o l → ∃ ts : List Tm, ts.length = o ∧ (∀ t ∈ ts, wf t) ∧ l = (ts.map en).flatten := by
  intro l
  induction l with
  | nil =>
    intro o h
    have h : o = 0 := by cases o <;> exact h
    exact ⟨[], h.symm, (fun t ht => by cases ht), rfl⟩
  | cons c l ih =>
    intro o h
    cases o with
    | zero => exact h.elim
    | succ o =>
      obtain ⟨hc, hl⟩ := h
      obtain ⟨ts, h1, h2, h3⟩ := ih _ hl
      rcases hc with hc | hc | hc
      · rw [arN_0 hc] at h1
        refine ⟨Nd c Lf Lf :: ts, by simp [h1], fun t ht => ?_, by simp [h3, en]⟩
        rcases List.mem_cons.mp ht with rfl | ht
        · exact wf_0 hc
        · exact h2 t ht
      · rw [arN_1 hc] at h1
        match ts, h1 with
        | a :: ts, h1 =>
          refine ⟨Nd c a Lf :: ts, by simpa using h1, fun t ht => ?_, by simp [h3, en]⟩
          rcases List.mem_cons.mp ht with rfl | ht
          · exact wf_1 hc (h2 a List.mem_cons_self)
          · exact h2 t (List.mem_cons_of_mem _ ht)
      · rw [arN_2 hc] at h1
        match ts, h1 with
        | a :: b :: ts, h1 =>
          refine ⟨Nd c a b :: ts, by simpa using h1, fun t ht => ?_, by simp [h3, en]⟩
          rcases List.mem_cons.mp ht with rfl | ht
          · exact wf_2 hc (h2 a List.mem_cons_self) (h2 b (List.mem_cons_of_mem _ List.mem_cons_self))
          · exact h2 t (List.mem_cons_of_mem _ (List.mem_cons_of_mem _ ht))
def ndS (k : List Nat) : Nat := (k.map (fun a => a - 1)).sum
def ndF : RS → Nat
  | (0, k, _) => 1 + ndS k
  | (1, a :: k, _) => a + ndS k
  | (1, [], _) => 0
  | (_, k, _) => ndS k
def rdI (s : RS) : Prop := s.1 ≤ 2 ∧ s.2.1.length ≤ s.2.2.length ∧ s.2.2.length ≤ 40 ∧ (∀ a ∈ s.2.1, a = 1 ∨ a = 2) ∧ (s.1 = 1 → s.2.1 ≠ []) ∧ ∀ l, Pre (ndF s) l → Pre 1 (s.2.2 ++ l)
theorem rdI_step {s s' : RS} {c : Int32} (h : rdI s) (e : rdS s c = some s') : rdI s' := by
  obtain ⟨w, k, o⟩ := s
  obtain ⟨h1, h2, h3, h4, h5, h6⟩ := h
  simp only at h1 h2 h3 h4 h5 h6
  obtain rfl | rfl | rfl : w = 0 ∨ w = 1 ∨ w = 2 := by omega
  · unfold rdS at e
    simp only at e
    split at e
    · cases e
    rename_i hc
    have hc1 : sg c := Classical.byContradiction fun q => hc (Or.inl q)
    have hc2 : ¬ 40 ≤ o.length := fun q => hc (Or.inr q)
    split at e
    · rename_i h0
      cases e
      refine ⟨by omega, by simp; omega, by simp; omega, h4, fun q => by omega, fun l hl => ?_⟩
      have hl : Pre (ndS k) l := hl
      simp only [List.append_assoc, List.singleton_append]
      refine h6 _ ?_
      show Pre (1 + ndS k) (c :: l)
      rw [Nat.add_comm]
      exact ⟨hc1, by rw [arN_0 h0]; exact hl⟩
    · rename_i h0
      cases e
      have ha : (if is2 c then 2 else 1) = arN c := by
        rcases hc1 with q | q | q
        · exact absurd q h0
        · rw [arN_1 q, if_neg (by omega)]
        · rw [arN_2 q, if_pos q]
      refine ⟨by omega, by simp; omega, by simp; omega, fun a hx => ?_, fun _ => by simp, fun l hl => ?_⟩
      · rcases List.mem_cons.mp hx with rfl | hx
        · split <;> simp
        · exact h4 a hx
      · have hl : Pre ((if is2 c then 2 else 1) + ndS k) l := hl
        simp only [List.append_assoc, List.singleton_append]
        refine h6 _ ?_
        show Pre (1 + ndS k) (c :: l)
        rw [Nat.add_comm]
        refine ⟨hc1, ?_⟩
        rw [ha, Nat.add_comm] at hl
        exact hl
  · unfold rdS at e
    simp only at e
    split at e
    · cases e
      refine ⟨by omega, h2, h3, h4, fun q => by omega, fun l hl => h6 l ?_⟩
      match k, h5 rfl, h4, hl with
      | a :: k, _, h4, hl =>
        have hl : Pre (1 + ndS (a :: k)) l := hl
        have ha := h4 a List.mem_cons_self
        show Pre (a + ndS k) l
        have : 1 + ndS (a :: k) = a + ndS k := by simp only [ndS, List.map_cons, List.sum_cons]; omega
        rwa [this] at hl
    · cases e
  · unfold rdS at e
    match k, h4, h2, h6, e with
    | [], _, _, _, e => simp at e
    | a :: k, h4, h2, h6, e =>
      simp only at e
      have ha := h4 a List.mem_cons_self
      split at e
      · rename_i h2a
        split at e
        · cases e
          refine ⟨by omega, by simpa using h2, h3, fun x hx => ?_, fun q => by omega, fun l hl => h6 l ?_⟩
          · rcases List.mem_cons.mp hx with rfl | hx
            · exact Or.inl rfl
            · exact h4 x (List.mem_cons_of_mem _ hx)
          · have hl : Pre (1 + ndS (1 :: k)) l := hl
            show Pre (ndS (a :: k)) l
            have : 1 + ndS (1 :: k) = ndS (a :: k) := by subst h2a; simp only [ndS, List.map_cons, List.sum_cons]; omega
            rwa [this] at hl
        · cases e
      · rename_i h2a
        split at e
        · cases e
          refine ⟨by omega, by simp at h2 ⊢; omega, h3, fun x hx => h4 x (List.mem_cons_of_mem _ hx), fun q => by omega, fun l hl => h6 l ?_⟩
          have hl : Pre (ndS k) l := hl
          show Pre (ndS (a :: k)) l
          have : ndS k = ndS (a :: k) := by have : a = 1 := by omega
                                            subst this; simp only [ndS, List.map_cons, List.sum_cons]; omega
          rwa [this] at hl
        · cases e
theorem rdI_0 : rdI (0, [], []) := ⟨by omega, by simp, by simp, (fun a h => by cases h), (fun q => by simp at q), fun l hl => hl⟩
theorem rdR_ok {g : Nat → Int32} : ∀ m i s o, rdI s → rdR g m i s = .inr o → ∃ t, wf t ∧ en t = o ∧ sz t ≤ 40 := by
  intro m
  induction m with
  | zero =>
    intro i s o hs h
    unfold rdR at h
    split at h
    · rename_i hw
      cases h
      obtain ⟨w, k, o⟩ := s
      obtain ⟨h1, h2⟩ := hw
      simp only at h1 h2
      subst h1; subst h2
      obtain ⟨-, -, h3, -, -, h6⟩ := hs
      have := h6 [] rfl
      rw [List.append_nil] at this
      obtain ⟨ts, l1, l2, l3⟩ := Pre_forest _ _ this
      match ts, l1 with
      | [t], _ =>
        have e : o = en t := by simpa using l3
        exact ⟨t, l2 t List.mem_cons_self, e.symm, by show (en t).length ≤ 40; rw [← e]; exact h3⟩
    · cases h
  | succ m ih =>
    intro i s o hs h
    unfold rdR at h
    split at h
    · cases h
    · rename_i s' e
      exact ih (i + 1) s' o (rdI_step hs e) h
noncomputable def treeOf (o : List Int32) : Tm := @dite Tm (∃ t, wf t ∧ en t = o ∧ sz t ≤ 40) (Classical.propDecidable _) (fun h => Classical.choose h) (fun _ => Lf)
theorem treeOf_ok {o : List Int32} (h : ∃ t, wf t ∧ en t = o ∧ sz t ≤ 40) : wf (treeOf o) ∧ en (treeOf o) = o ∧ sz (treeOf o) ≤ 40 := by
  unfold treeOf
  rw [dif_pos h]
  exact Classical.choose_spec h
def setF (A : AT) (f : Int32) : AT := (A.1, A.2.1, A.2.2.1, A.2.2.2.1, f, A.2.2.2.2.2)
abbrev rowI (A : AT) (s : Nat) : Nat → Int32 := fun i => (ele A s i).toInt32
noncomputable def F_term (A : AT) (s : Int32) : Int32 × AT := if noR A s = 0 then match rdR (rowI A s.toInt.toNat) (siz A s.toInt.toNat) 0 (0, [], []) with
    | .inl k => rfs (setF A (jn k)) 6
    | .inr o => addT (setF A (jz 1)) (treeOf o)
  else rfs A (noR A s)
/-- a stack lies in memory, its top behind the others -/
def Stk (f : Nat → Int32) : List Nat → Prop
  | [] => True
  | a :: k => f k.length = jn a ∧ Stk f k
theorem Stk_congr {f g : Nat → Int32} : ∀ (k : List Nat), Stk f k → (∀ i, i < k.length → g i = f i) → Stk g k := by
  intro k
  induction k with
  | nil => intro _ _; trivial
  | cons a k ih =>
    intro h e
    exact ⟨by rw [e _ (by simp)]; exact h.1, ih h.2 (fun i hi => e i (by simp; omega))⟩
section
variable {d : Nat} {A : AT} {M : PM} {a b c e f : Int32} {v : Int64}
theorem k_term (hA : AOk A) : AOk (F_term A a).2 := by
  unfold F_term
  split
  · split
    · exact hA
    · rename_i o ho
      obtain ⟨h1, h2, h3⟩ := treeOf_ok (rdR_ok _ _ _ _ rdI_0 ho)
      exact k_addT (A := setF A (jz 1)) hA h1 h3
  · exact hA
theorem sg_arR {c : Int32} : (arR c = jz 1) = ¬ sg c := by
  by_cases h : sg c
  · refine propext ⟨fun q => ?_, fun q => absurd h q⟩
    rcases h with h | h | h
    · rw [arR_0 h] at q; rw [jn_jz (by omega) (by omega)] at q; exact q.elim
    · rw [arR_1 h] at q; rw [jn_jz (by omega) (by omega)] at q; exact q.elim
    · rw [arR_2 h] at q; rw [jn_jz (by omega) (by omega)] at q; exact q.elim
  · refine propext ⟨fun _ => h, fun _ => ?_⟩
    unfold arR
    rw [if_neg (fun q => h (Or.inr (Or.inr q))), if_neg (fun q => h (Or.inr (Or.inl q))), if_neg (fun q => h (Or.inl q))]
/-- how the reader holds its state -/
def rdX (M : PM) (s : RS) (f : Nat → Int32) : Prop := M.1 19 3 = jn s.2.1.length ∧ M.1 19 4 = jn s.2.2.length ∧ Stk (M.1 20) s.2.1 ∧ At (M.1 7) 1920 s.2.2 ∧ ∀ i, i < 1920 → M.1 7 i = f i
theorem next_x {s : RS} {w : Nat} {f : Nat → Int32} (hd : 4 ≤ d) (hs : rdI s) (hw : s.1 = w) (h : rdX M s f) : ∃ M', Fr [7, 19, 20] M M' ∧ (∀ i, i < 1920 → M'.1 7 i = f i) ∧ (match rdS s c with
    | none => pcl GG lay d 197 [.ref 19, .int (jn w), .int c, .int (jn 1920)] M = rI (jz 1) M'
    | some s' => pcl GG lay d 197 [.ref 19, .int (jn w), .int c, .int (jn 1920)] M = rI (jn s'.1) M' ∧ rdX M' s' f) := by
  obtain ⟨d, rfl⟩ := ex_add hd
  obtain ⟨w', k, o⟩ := s
  simp only at hw
  subst hw
  obtain ⟨h1, h2, h3, h4, h5, -⟩ := hs
  obtain ⟨g1, g2, g3, g4, g5⟩ := h
  simp only at h1 h2 h3 h4 h5 g1 g2 g3 g4
  obtain rfl | rfl | rfl : w' = 0 ∨ w' = 1 ∨ w' = 2 := by omega
  · rw [q_197, ieq_pos rfl, q_198, c_arity (by omega), kI_r, g2]
    simp only [sg_arR]
    unfold rdS
    simp only
    by_cases hc : sg c
    case neg => exact ⟨M, Fr.rf, g5, by rw [if_pos (Or.inl hc), if_pos hc]; simp only; rw [kI_r]⟩
    rw [if_neg (not_not_intro hc)]
    by_cases h40 : 40 ≤ o.length
    · exact ⟨M, Fr.rf, g5, by rw [if_pos (Or.inr h40), ilt_neg (by omega) (by omega)]; simp only; rw [kI_r]⟩
    rw [if_neg (fun q => q.elim (fun q => q hc) h40), ilt_pos (by omega) (by omega), jn_add, c_write (by omega) (by omega), kV_r, wr_e]
    have hr : (sI M 7 (va_up (M.1 7) (1920 + o.length) c)).1 19 4 = jn o.length := g2
    rw [hr, jn_add]
    have hat : At (va_up (M.1 7) (1920 + o.length) c) 1920 (o ++ [c]) := by
      rw [At_app]
      refine ⟨At_congr g4 (fun i q1 q2 => by rw [up_at, if_neg (by omega)]), ?_, trivial⟩
      rw [up_at, if_pos rfl]
    have hlow : ∀ i, i < 1920 → va_up (M.1 7) (1920 + o.length) c i = f i := fun i hi => by rw [up_at, if_neg (by omega)]; exact g5 i hi
    by_cases hc0 : is0 c
    · refine ⟨sI (sI M 7 (va_up (M.1 7) (1920 + o.length) c)) 19 (va_up ((sI M 7 (va_up (M.1 7) (1920 + o.length) c)).1 19) 4 (jn (o.length + 1))), (Fr.sI (by decide)).trans (Fr.sI (by decide)), hlow, ?_⟩
      rw [if_pos hc0, arR_0 hc0, ieq_pos rfl, kI_r]
      refine ⟨rfl, ?_, ?_, g3, hat, hlow⟩
      · rw [sI_k, up_at, if_neg (by omega)]; exact g1
      · rw [sI_k, up_at, if_pos rfl]; simp
    · have hr0 : arR c = jn (if is2 c then 2 else 1) := by
        rcases hc with q | q | q
        · exact absurd q hc0
        · rw [arR_1 q, if_neg (by omega)]
        · rw [arR_2 q, if_pos q]
      have hra : (if is2 c then 2 else 1) ≠ 0 ∧ (if is2 c then 2 else 1) < 3 := by split <;> omega
      generalize (if is2 c then 2 else 1) = r at hr0 hra
      have hop : (sI (sI M 7 (va_up (M.1 7) (1920 + o.length) c)) 19 (va_up ((sI M 7 (va_up (M.1 7) (1920 + o.length) c)).1 19) 4 (jn (o.length + 1)))).1 19 3 = jn k.length := by
        rw [sI_k, up_at, if_neg (by omega)]; exact g1
      rw [if_neg hc0, hr0, ieq_neg hra.1 (by omega) (by omega), hop, c_put (n := 40) (by omega) rfl (by omega) (by omega), kV_r, wr_e]
      have hop2 : ∀ g, (sI (sI (sI M 7 (va_up (M.1 7) (1920 + o.length) c)) 19 (va_up ((sI M 7 (va_up (M.1 7) (1920 + o.length) c)).1 19) 4 (jn (o.length + 1)))) 20 g).1 19 3 = jn k.length := fun g => hop
      rw [hop2, jn_add, kI_r]
      refine ⟨_, (((Fr.sI (k := 7) (by decide)).trans (Fr.sI (k := 19) (by decide))).trans (Fr.sI (k := 20) (by decide))).trans (Fr.sI (k := 19) (by decide)), hlow, rfl, ?_, ?_, ?_, hat, hlow⟩
      · rw [sI_k, up_at, if_pos rfl]; simp
      · rw [sI_k, up_at, if_neg (by omega), sI_o _ _ (by omega), sI_k, up_at, if_pos rfl]; simp
      · rw [sI_o _ _ (by omega), sI_k]
        exact ⟨by rw [up_at, if_pos rfl], Stk_congr k g3 (fun i hi => by rw [up_at, if_neg (by omega)]; rfl)⟩
  · rw [q_197, ieq_neg (by omega) (by omega) (by omega), ieq_pos rfl]
    unfold rdS
    simp only
    by_cases hc : c = jn 40
    · exact ⟨M, Fr.rf, g5, by rw [if_pos hc, if_pos hc]; exact ⟨rfl, g1, g2, g3, g4, g5⟩⟩
    · exact ⟨M, Fr.rf, g5, by rw [if_neg hc, if_neg hc]⟩
  · rw [q_197, ieq_neg (by omega) (by omega) (by omega), ieq_neg (by omega) (by omega) (by omega), g1]
    match k, h2, h4, g1, g3 with
    | [], h2, h4, g1, g3 => exact ⟨M, Fr.rf, g5, by unfold rdS; simp only; exact ieq_pos rfl⟩
    | x :: k, h2, h4, g1, g3 =>
      have hx := h4 x List.mem_cons_self
      have hkl : (x :: k).length = k.length + 1 := rfl
      have h2 : k.length + 1 ≤ o.length := h2
      have g1 : M.1 19 3 = jn (k.length + 1) := g1
      rw [hkl]
      have htop : M.1 20 k.length = jn x := g3.1
      rw [ieq_neg (by omega) (by omega) (by omega), jn_sub (by omega), Nat.add_sub_cancel, c_get (n := 40) (by omega) rfl (by omega) (by omega), kI_r, htop, g1, jn_sub (by omega), Nat.add_sub_cancel, c_put (n := 40) (by omega) rfl (by omega) (by omega), kV_r, wr_e]
      unfold rdS
      simp only
      by_cases hx2 : x = 2
      · rw [ieq_pos hx2, if_pos hx2]
        by_cases hc : c = jn 44
        · rw [if_pos hc, if_pos hc]
          exact ⟨_, Fr.sI (k := 20) (by decide), g5, rfl, g1, g2, ⟨by rw [sI_k, up_at, if_pos rfl], Stk_congr k g3.2 (fun i hi => by rw [sI_k, up_at, if_neg (by omega)])⟩, g4, g5⟩
        · rw [if_neg hc, if_neg hc]
          exact ⟨_, Fr.sI (k := 20) (by decide), g5, rfl⟩
      · rw [ieq_neg hx2 (by omega) (by omega), if_neg hx2]
        by_cases hc : c = jn 41
        · rw [if_pos hc, if_pos hc]
          refine ⟨_, Fr.sI (k := 19) (by decide), g5, rfl, ?_, ?_, g3.2, g4, g5⟩
          · rw [sI_k, up_at, if_pos rfl]
          · rw [sI_k, up_at, if_neg (by omega)]; exact g2
        · rw [if_neg hc, if_neg hc]
          exact ⟨_, Fr.sI (k := 19) (by decide), g5, rfl⟩
end
