/-! where nodes lie: levels and paths -/
abbrev pth (p : Int64) (j : Nat) : Int64 := Int64.ofInt 3 * p + (jn j).toInt64
def inf : Nat → Int64 → Tm → List (Nat × Int64)
  | _, _, .leaf => []
  | l, p, .inner _ _ _ a b => (l, p) :: (inf (l + 1) (pth p 1) a ++ inf (l + 1) (pth p 2) b)
theorem inf_len : ∀ (t : Tm) (l : Nat) (p : Int64), (inf l p t).length = sz t := by
  intro t
  induction t with
  | leaf => intro l p; rfl
  | inner n c u a b iha ihb =>
    intro l p
    show ((l, p) :: (inf (l + 1) (pth p 1) a ++ inf (l + 1) (pth p 2) b)).length = (c :: (en a ++ en b)).length
    rw [List.length_cons, List.length_cons, List.length_append, List.length_append, iha, ihb]
/-- what the layout holds of a tree whose first node is i -/
def LY (f : Nat → Int32) (g : Nat → Int64) (i : Nat) (o : List (Nat × Int64)) : Prop := ∀ k q, o[k]? = some q → f (i + k) = jn q.1 ∧ g (i + k) = q.2
theorem LY_cons {f : Nat → Int32} {g : Nat → Int64} {i : Nat} {q : Nat × Int64} {o : List (Nat × Int64)} (h1 : f i = jn q.1 ∧ g i = q.2) (h2 : LY f g (i + 1) o) : LY f g i (q :: o) := by
  intro k r hk
  cases k with
  | zero => rw [List.getElem?_cons_zero] at hk; cases hk; exact h1
  | succ k =>
    rw [List.getElem?_cons_succ] at hk
    have := h2 k r hk
    rw [show i + (k + 1) = i + 1 + k by omega]; exact this
theorem LY_app {f : Nat → Int32} {g : Nat → Int64} {i : Nat} {o o' : List (Nat × Int64)} (h1 : LY f g i o) (h2 : LY f g (i + o.length) o') : LY f g i (o ++ o') := by
  intro k r hk
  by_cases h : k < o.length
  · rw [List.getElem?_append_left h] at hk; exact h1 k r hk
  · rw [List.getElem?_append_right (by omega)] at hk
    have := h2 _ r hk
    rw [show i + k = i + o.length + (k - o.length) by omega]; exact this
theorem LY_congr {f f' : Nat → Int32} {g g' : Nat → Int64} {i : Nat} {o : List (Nat × Int64)} (h : LY f g i o) (e : ∀ j, i ≤ j → j < i + o.length → f' j = f j ∧ g' j = g j) : LY f' g' i o := by
  intro k r hk
  have hl : k < o.length := (List.getElem?_eq_some_iff.mp hk).1
  have h1 := h k r hk
  have h2 := e (i + k) (by omega) (by omega)
  exact ⟨h2.1.trans h1.1, h2.2.trans h1.2⟩
section
variable {d : Nat} {A : AT} {M : PM} {a b c e f : Int32} {v : Int64}
abbrev lyS (M : PM) (k l : Nat) (p : Int64) : PM := sL (sI M 22 (va_up (M.1 22) k (jn l))) 23 (va_up (M.2 23) k p)
theorem c_lset {i j k l : Nat} {p : Int64} (hd : 2 ≤ d) (hi : i < 40) (hk : k < 40) (h22 : M.1 22 i = jn l) (h23 : M.2 23 i = p) (hik : i ≠ k) : pcl GG lay d 184 [.ref 21, .int (jn i), .int (jn j), .int (jn k)] M = rV (lyS M k (l + 1) (pth p j)) := by
  obtain ⟨d, rfl⟩ := ex_add hd
  rw [q_184, c_get (n := 40) (by omega) rfl hi (by omega), kI_r, h22, jn_add, c_put (n := 40) (by omega) rfl hk (by omega), kV_r, c_getL (n := 40) (by omega) rfl hi (by omega), kL_r]
  have e : (sI M 22 (va_up (M.1 22) k (jn (l + 1)))).2 23 = M.2 23 := rfl
  rw [e, h23, c_putL (n := 40) (by omega) rfl hk (by omega), kV_r, e]
theorem lay_go {P S : Nat} (hd : 4 ≤ d) (hS : S ≤ 40) (hP : P + S ≤ 3760) : ∀ s, wf s → ∀ i l p M u3, At (M.1 7) (P + i) (en s) → i + sz s ≤ S → M.1 22 i = jn l → M.2 23 i = p → M.1 21 3 = jn S → ∃ M' u3', E_183 d (32, [some (.ref 21), some (.int (jn P)), some (.int (jn i)), u3], [], M) = E_183 d (32, [some (.ref 21), some (.int (jn P)), some (.int (jn (i + sz s))), u3'], [], M') ∧ Fr [22, 23] M M' ∧ (∀ j, j < i ∨ i + sz s ≤ j → M'.1 22 j = M.1 22 j ∧ M'.2 23 j = M.2 23 j) ∧ LY (M'.1 22) (M'.2 23) i (inf l p s) := by
  have a63 : ∀ (c : Int32) (M : PM), pcl GG lay d 63 [.int c] M = rI (arR c) M := fun c M => c_arity (by omega)
  have frS : ∀ (M : PM) (k l : Nat) (p : Int64), Fr [22, 23] M (lyS M k l p) := fun M k l p => (Fr.sI (k := 22) (by decide)).trans (Fr.sL (k := 23) (by decide))
  have outS : ∀ (M : PM) (k l : Nat) (p : Int64) (j : Nat), j ≠ k → (lyS M k l p).1 22 j = M.1 22 j ∧ (lyS M k l p).2 23 j = M.2 23 j := fun M k l p j hj => by
    show va_up (M.1 22) k (jn l) j = _ ∧ va_up (M.2 23) k p j = _
    rw [up_at, up_at, if_neg hj, if_neg hj]; exact ⟨rfl, rfl⟩
  have inS : ∀ (M : PM) (k l : Nat) (p : Int64), (lyS M k l p).1 22 k = jn l ∧ (lyS M k l p).2 23 k = p := fun M k l p => by
    show va_up (M.1 22) k (jn l) k = _ ∧ va_up (M.2 23) k p k = _
    rw [up_at, up_at, if_pos rfl, if_pos rfl]; exact ⟨rfl, rfl⟩
  refine wf_ind (fun c hc => ?_) (fun c a hc ha iha => ?_) (fun c a b hc ha hb iha ihb => ?_)
  · intro i l p M u3 hat hi h22 h23 h3
    rw [sz_0] at hi ⊢
    rw [en_0] at hat
    have hc0 : M.1 7 (P + i) = c := hat.1
    rw [h_183_32, h3, ilt_pos (by omega) (by omega), jn_add, c_at (by omega) (by omega), kI_r, hc0, a63, kI_r, arR_0 hc, ilt_pos (by omega) (by omega), ieq_neg (by omega) (by omega) (by omega), jn_add]
    refine ⟨M, _, rfl, Fr.rf, fun _ _ => ⟨rfl, rfl⟩, ?_⟩
    show LY _ _ i ((l, p) :: ([] ++ []))
    exact LY_cons ⟨h22, h23⟩ (fun k q hk => by simp at hk)
  · intro i l p M u3 hat hi h22 h23 h3
    rw [sz_1] at hi ⊢
    rw [en_1] at hat
    have za := sz_pos a ha
    have hc0 : M.1 7 (P + i) = c := hat.1
    rw [h_183_32, h3, ilt_pos (by omega) (by omega), jn_add, c_at (by omega) (by omega), kI_r, hc0, a63, kI_r, arR_1 hc, ilt_neg (by omega) (by omega), jn_add, c_lset (by omega) (by omega) (by omega) h22 h23 (by omega), kV_r, ieq_neg (by omega) (by omega) (by omega)]
    obtain ⟨M', u3', f1, f2, f3, f4⟩ := iha (i + 1) (l + 1) (pth p 1) (lyS M (i + 1) (l + 1) (pth p 1)) (some (.int (jn 1))) hat.2 (by omega) (inS _ _ _ _).1 (inS _ _ _ _).2 h3
    refine ⟨M', u3', ?_, (frS _ _ _ _).trans f2, fun j hj => ?_, ?_⟩
    · rw [f1, show i + 1 + sz a = i + (sz a + 1) by omega]
    · have := f3 j (by omega)
      have h2 := outS M (i + 1) (l + 1) (pth p 1) j (by omega)
      exact ⟨this.1.trans h2.1, this.2.trans h2.2⟩
    · show LY _ _ i ((l, p) :: (inf (l + 1) (pth p 1) a ++ []))
      rw [List.append_nil]
      have := f3 i (by omega)
      have h2 := outS M (i + 1) (l + 1) (pth p 1) i (by omega)
      exact LY_cons ⟨(this.1.trans h2.1).trans h22, (this.2.trans h2.2).trans h23⟩ f4
  · intro i l p M u3 hat hi h22 h23 h3
    rw [sz_2] at hi ⊢
    rw [en_2] at hat
    have za := sz_pos a ha
    have zb := sz_pos b hb
    have hc0 : M.1 7 (P + i) = c := hat.1
    obtain ⟨hata, hatb⟩ := (At_app _ _ _).mp hat.2
    have hata : At (M.1 7) (P + i + 1) (en a) := hata
    have hatb : At (M.1 7) (P + i + 1 + sz a) (en b) := hatb
    have h22b := outS M (i + 1) (l + 1) (pth p 1) i (by omega)
    rw [h_183_32, h3, ilt_pos (by omega) (by omega), jn_add, c_at (by omega) (by omega), kI_r, hc0, a63, kI_r, arR_2 hc, ilt_neg (by omega) (by omega), jn_add, c_lset (by omega) (by omega) (by omega) h22 h23 (by omega), kV_r, ieq_pos rfl, jn_add, c_end (by omega) ha (show At ((lyS M (i + 1) (l + 1) (pth p 1)).1 7) (P + i + 1) (en a) from hata) (by omega), kI_r, jn_sub (by omega), show P + i + 1 + sz a - P = i + 1 + sz a by omega, c_lset (by omega) (by omega) (by omega) (h22b.1.trans h22) (h22b.2.trans h23) (by omega), kV_r]
    have m1 := inS M (i + 1) (l + 1) (pth p 1)
    have m2 := outS (lyS M (i + 1) (l + 1) (pth p 1)) (i + 1 + sz a) (l + 1) (pth p 2) (i + 1) (by omega)
    obtain ⟨M1, u4, f1, f2, f3, f4⟩ := iha (i + 1) (l + 1) (pth p 1) (lyS (lyS M (i + 1) (l + 1) (pth p 1)) (i + 1 + sz a) (l + 1) (pth p 2)) (some (.int (jn 2))) hata (by omega) (m2.1.trans m1.1) (m2.2.trans m1.2) h3
    have n1 := inS (lyS M (i + 1) (l + 1) (pth p 1)) (i + 1 + sz a) (l + 1) (pth p 2)
    have n2 := f3 (i + 1 + sz a) (by omega)
    have e7 : M1.1 7 = M.1 7 := f2.1 7 (by decide)
    have e21 : M1.1 21 = M.1 21 := f2.1 21 (by decide)
    obtain ⟨M2, u5, g1, g2, g3, g4⟩ := ihb (i + 1 + sz a) (l + 1) (pth p 2) M1 u4 (by rw [e7, show P + (i + 1 + sz a) = P + i + 1 + sz a by omega]; exact hatb) (by omega) (n2.1.trans n1.1) (n2.2.trans n1.2) (by rw [e21]; exact h3)
    have keep : ∀ j, j < i + 1 ∨ i + (sz a + sz b + 1) ≤ j → M2.1 22 j = M.1 22 j ∧ M2.2 23 j = M.2 23 j := fun j hj => by
      have k1 := g3 j (by omega)
      have k2 := f3 j (by omega)
      have k3 := outS (lyS M (i + 1) (l + 1) (pth p 1)) (i + 1 + sz a) (l + 1) (pth p 2) j (by omega)
      have k4 := outS M (i + 1) (l + 1) (pth p 1) j (by omega)
      exact ⟨((k1.1.trans k2.1).trans k3.1).trans k4.1, ((k1.2.trans k2.2).trans k3.2).trans k4.2⟩
    refine ⟨M2, u5, ?_, (((frS _ _ _ _).trans (frS _ _ _ _)).trans f2).trans g2, fun j hj => keep j (by omega), ?_⟩
    · rw [f1, g1, show i + 1 + sz a + sz b = i + (sz a + sz b + 1) by omega]
    · show LY _ _ i ((l, p) :: (inf (l + 1) (pth p 1) a ++ inf (l + 1) (pth p 2) b))
      have k0 := keep i (by omega)
      refine LY_cons ⟨k0.1.trans h22, k0.2.trans h23⟩ (LY_app (LY_congr f4 (fun j j1 j2 => ?_)) ?_)
      · rw [inf_len] at j2
        exact g3 j (by omega)
      · rw [inf_len]; exact g4
/-- the layout of a tree -/
theorem c_layout {P : Nat} {t : Tm} (hd : 5 ≤ d) (ht : wf t) (hs : sz t ≤ 40) (hP : P + sz t ≤ 3760) (hat : At (M.1 7) P (en t)) : ∃ M', pcl GG lay d 183 [.ref 21, .int (jn P)] M = rV M' ∧ Fr [21, 22, 23] M M' ∧ M'.1 21 3 = jn (sz t) ∧ LY (M'.1 22) (M'.2 23) 0 (inf 1 (Int64.ofNat 0) t) := by
  obtain ⟨d, rfl⟩ := ex_add hd
  have zt := sz_pos t ht
  rw [q_183, c_sizeAt (by omega) ht hat (by omega), kI_r, wr_e, c_put (n := 40) (by omega) rfl (by omega) (by omega), kV_r, c_putL (n := 40) (by omega) rfl (by omega) (by omega), kV_r]
  have hf : Fr [21, 22, 23] M (sL (sI (sI M 21 (va_up (M.1 21) 3 (jn (sz t)))) 22 (va_up ((sI M 21 (va_up (M.1 21) 3 (jn (sz t)))).1 22) 0 (jn 1))) 23 (va_up ((sI (sI M 21 (va_up (M.1 21) 3 (jn (sz t)))) 22 (va_up ((sI M 21 (va_up (M.1 21) 3 (jn (sz t)))).1 22) 0 (jn 1))).2 23) 0 (Int64.ofNat 0))) := ((Fr.sI (by decide)).trans (Fr.sI (by decide))).trans (Fr.sL (by decide))
  obtain ⟨M', u3', f1, f2, f3, f4⟩ := lay_go (d := d + 4) (P := P) (S := sz t) (by omega) hs hP t ht 0 1 (Int64.ofNat 0) (sL (sI (sI M 21 (va_up (M.1 21) 3 (jn (sz t)))) 22 (va_up ((sI M 21 (va_up (M.1 21) 3 (jn (sz t)))).1 22) 0 (jn 1))) 23 (va_up ((sI (sI M 21 (va_up (M.1 21) 3 (jn (sz t)))) 22 (va_up ((sI M 21 (va_up (M.1 21) 3 (jn (sz t)))).1 22) 0 (jn 1))).2 23) 0 (Int64.ofNat 0))) none hat (by omega) rfl rfl rfl
  have e3 : M'.1 21 3 = jn (sz t) := by rw [f2.1 21 (by decide)]; rfl
  refine ⟨M', ?_, hf.trans (f2.mono (by decide)), e3, f4⟩
  rw [f1, Nat.zero_add, h_183_32, e3, ilt_neg (by omega) (by omega)]
end
