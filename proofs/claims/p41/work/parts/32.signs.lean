/-! ROWS OF SIGNS: copies, comparisons, spans -/
def cp {α : Type} (g f : Nat → α) (sp dp n : Nat) : Nat → α := fun j => if dp ≤ j ∧ j < dp + n then g (sp + (j - dp)) else f j
theorem cp_0 {α : Type} (g f : Nat → α) (sp dp : Nat) : cp g f sp dp 0 = f := by
  funext j; unfold cp; rw [if_neg (by omega)]
theorem cp_succ {α : Type} (g f : Nat → α) (sp dp n : Nat) : va_up (cp g f sp dp n) (dp + n) (g (sp + n)) = cp g f sp dp (n + 1) := by
  funext j
  unfold cp va_up
  by_cases h : j = dp + n
  · rw [if_pos h, if_pos (by omega)]; congr 1; omega
  · rw [if_neg h]
    by_cases h2 : dp ≤ j ∧ j < dp + n
    · show (if dp ≤ j ∧ j < dp + n then g (sp + (j - dp)) else f j) = _
      rw [if_pos h2, if_pos (by omega)]
    · show (if dp ≤ j ∧ j < dp + n then g (sp + (j - dp)) else f j) = _
      rw [if_neg h2, if_neg (by omega)]
theorem cp_in {α : Type} {g f : Nat → α} {sp dp n j : Nat} (h : dp ≤ j ∧ j < dp + n) : cp g f sp dp n j = g (sp + (j - dp)) := if_pos h
theorem cp_out {α : Type} {g f : Nat → α} {sp dp n j : Nat} (h : j < dp ∨ dp + n ≤ j) : cp g f sp dp n j = f j := if_neg (by omega)
theorem At_cp {g f : Nat → Int32} {l : List Int32} {sp dp n : Nat} (h : At g sp l) (hn : l.length ≤ n) : At (cp g f sp dp n) dp l := by
  rw [At_iff] at *
  intro i hi
  rw [h i hi, cp_in (by omega), show sp + (dp + i - dp) = sp + i by omega]
theorem At_cp_out {g f : Nat → Int32} {l : List Int32} {p sp dp n : Nat} (h : At f p l) (ho : p + l.length ≤ dp ∨ dp + n ≤ p) : At (cp g f sp dp n) p l := At_congr h (fun i h1 h2 => cp_out (by omega))
theorem sI_sI (M : PM) (k : Nat) (f g : Nat → Int32) : sI (sI M k f) k g = sI M k g := by
  unfold sI; congr 1; funext a; by_cases h : a = k <;> simp [h]
theorem sL_sL (M : PM) (k : Nat) (f g : Nat → Int64) : sL (sL M k f) k g = sL M k g := by
  unfold sL; congr 1; funext a; by_cases h : a = k <;> simp [h]
theorem sI_self (M : PM) (k : Nat) : sI M k (M.1 k) = M := by
  unfold sI
  have : (fun a => if a = k then M.1 k else M.1 a) = M.1 := by funext a; by_cases h : a = k <;> simp [h]
  rw [this]
theorem sL_self (M : PM) (k : Nat) : sL M k (M.2 k) = M := by
  unfold sL
  have : (fun a => if a = k then M.2 k else M.2 a) = M.2 := by funext a; by_cases h : a = k <;> simp [h]
  rw [this]
theorem sI_k (M : PM) (k : Nat) (f : Nat → Int32) : (sI M k f).1 k = f := if_pos rfl
theorem sI_o (M : PM) {k a : Nat} (f : Nat → Int32) (h : a ≠ k) : (sI M k f).1 a = M.1 a := if_neg h
theorem sL_k (M : PM) (k : Nat) (f : Nat → Int64) : (sL M k f).2 k = f := if_pos rfl
theorem sL_o (M : PM) {k a : Nat} (f : Nat → Int64) (h : a ≠ k) : (sL M k f).2 a = M.2 a := if_neg h
/-- a count along signs in the order of nodes: how many are still due -/
def arN (c : Int32) : Nat := if is2 c then 2 else if is1 c then 1 else 0
theorem arN_le (c : Int32) : arN c ≤ 2 := by
  unfold arN
  repeat' split
  all_goals omega
theorem At_sz {f : Nat → Int32} {p : Nat} {t : Tm} : At f p (en t) ↔ ∀ i, i < sz t → (en t)[i]? = some (f (p + i)) := At_iff _ _
abbrev sg (c : Int32) : Prop := is0 c ∨ is1 c ∨ is2 c
theorem arN_2 {c : Int32} (h : is2 c) : arN c = 2 := if_pos h
theorem arN_1 {c : Int32} (h : is1 c) : arN c = 1 := by unfold arN; rw [if_neg (by omega), if_pos h]
theorem arN_0 {c : Int32} (h : is0 c) : arN c = 0 := by unfold arN; rw [if_neg (by omega), if_neg (by omega)]
theorem arR_due {c : Int32} (h : sg c) (o : Nat) : jn (o + 1) + (arR c - jn 1) = jn (o + arN c) := by
  rcases h with h | h | h
  · rw [arR_0 h, arN_0 h, jn_subz (by omega), jn_addz (by omega)]; rfl
  · rw [arR_1 h, arN_1 h, jn_sub (by omega), jn_add]
  · rw [arR_2 h, arN_2 h, jn_sub (by omega), jn_add]
theorem pre_loop {f : Nat → Int32} {B : Nat} {G : Nat → Nat → Prop} (hs : ∀ i o, i < B → sg (f i) → G i (o + 1) → G (i + 1) (o + arN (f i))) : ∀ t, wf t → ∀ i o, At f i (en t) → i + sz t ≤ B → G i (o + 1) → G (i + sz t) o := by
  refine wf_ind (fun c hc => ?_) (fun c a hc ha iha => ?_) (fun c a b hc ha hb iha ihb => ?_)
  · intro i o hA hi hG
    rw [sz_0] at *
    have h := hs i o (by omega) (by rw [hA.1]; exact Or.inl hc) hG
    rw [hA.1, arN_0 hc] at h
    exact h
  · intro i o hA hi hG
    rw [sz_1] at *
    rw [en_1] at hA
    have h := hs i o (by omega) (by rw [hA.1]; exact Or.inr (Or.inl hc)) hG
    rw [hA.1, arN_1 hc] at h
    have := iha (i + 1) o hA.2 (by omega) h
    rwa [show i + 1 + sz a = i + (sz a + 1) by omega] at this
  · intro i o hA hi hG
    rw [sz_2] at *
    rw [en_2] at hA
    obtain ⟨h1, h2, h3⟩ : _ ∧ _ ∧ _ := ⟨hA.1, (At_app _ _ _).mp hA.2⟩
    have h := hs i o (by omega) (by rw [h1]; exact Or.inr (Or.inr hc)) hG
    rw [h1, arN_2 hc] at h
    have h4 := iha (i + 1) (o + 1) h2 (by omega) h
    have := ihb (i + 1 + sz a) o h3 (by omega) h4
    rwa [show i + 1 + sz a + sz b = i + (sz a + sz b + 1) by omega] at this
/-! Signs: alike, append -/
theorem alike_go {d p q : Nat} {M : PM} {t : Tm} (ht : wf t) (hA : At (M.1 7) p (en t)) (hs : sz t ≤ 40) (hp : p + sz t ≤ 3760) (hq : q + sz t ≤ 3760) (h : At (M.1 7) q (en t)) :
    pcl GG lay (d + 2) 235 [.ref 6, .int (jn p), .int (jn q)] M = rI (jn 1) M := by
  rw [q_235]
  have key := pre_loop (f := fun i => M.1 7 (p + i)) (B := sz t) (G := fun i o => o < 5000 - 2 * (40 - i) ∧ i ≤ sz t ∧ ∃ u, E_235 (d + 1) (5, [some (.ref 6), some (.int (jn p)), some (.int (jn q)), some (.int (jn 1)), some (.int (jn 0)), none], [], M) = E_235 (d + 1) (5, [some (.ref 6), some (.int (jn p)), some (.int (jn q)), some (.int (jn o)), some (.int (jn i)), u], [], M)) ?_ t ht 0 0 ?_ (by omega) ⟨by omega, by omega, _, rfl⟩
  · obtain ⟨-, -, u, hE⟩ := key
    rw [hE, h_235_5, ilt_neg (show 0 ≤ 0 by omega) (by omega)]
    split
    · exact rZ_1 M
    · exact rZ_1 M
  · rintro i o hi hsg ⟨ho, -, u, hE⟩
    have e : M.1 7 (q + i) = M.1 7 (p + i) := by
      have h1 := At_sz.mp hA i hi
      have h2 := At_sz.mp h i hi
      rw [h1] at h2
      exact (Option.some.inj h2).symm
    refine ⟨by have := arN_le (M.1 7 (p + i)); omega, by omega, some (.int (M.1 7 (p + i))), ?_⟩
    rw [hE, h_235_5, ilt_pos (by omega) (by omega), ilt_pos (by omega) (by omega), jn_add, c_at (by omega) (by omega), kI_r, jn_add, c_at (by omega) (by omega), kI_r, if_pos e.symm, c_arity (by omega), kI_r, arR_due hsg, jn_add]
  · rw [At_sz] at *
    intro i hi
    simpa using hA i hi
theorem alike_no {d p q : Nat} {M : PM} {t : Tm} (ht : wf t) (hA : At (M.1 7) p (en t)) (hs : sz t ≤ 40) (hp : p + sz t ≤ 3760) (hq : q + sz t ≤ 3760) (h : ¬ At (M.1 7) q (en t)) :
    pcl GG lay (d + 2) 235 [.ref 6, .int (jn p), .int (jn q)] M = rI (jn 0) M := by
  rw [q_235]
  have key := pre_loop (f := fun i => M.1 7 (p + i)) (B := sz t) (G := fun i o => (o < 5000 - 2 * (40 - i) ∧ i ≤ sz t) ∧ (((∀ j, j < i → M.1 7 (q + j) = M.1 7 (p + j)) ∧ ∃ u, E_235 (d + 1) (5, [some (.ref 6), some (.int (jn p)), some (.int (jn q)), some (.int (jn 1)), some (.int (jn 0)), none], [], M) = E_235 (d + 1) (5, [some (.ref 6), some (.int (jn p)), some (.int (jn q)), some (.int (jn o)), some (.int (jn i)), u], [], M)) ∨ E_235 (d + 1) (5, [some (.ref 6), some (.int (jn p)), some (.int (jn q)), some (.int (jn 1)), some (.int (jn 0)), none], [], M) = rI (jn 0) M)) ?_ t ht 0 0 ?_ (by omega) ⟨⟨by omega, by omega⟩, Or.inl ⟨fun j hj => by omega, _, rfl⟩⟩
  · obtain ⟨-, ⟨h1, -⟩ | h1⟩ := key
    · exfalso
      apply h
      rw [At_sz] at *
      intro i hi
      rw [hA i hi, h1 i (by omega)]
    · exact h1
  · rintro i o hi hsg ⟨ho, ⟨hall, u, hE⟩ | hE⟩
    · refine ⟨⟨by have := ho.1; have := arN_le (M.1 7 (p + i)); omega, by omega⟩, ?_⟩
      by_cases e : M.1 7 (p + i) = M.1 7 (q + i)
      · refine Or.inl ⟨fun j hj => ?_, some (.int (M.1 7 (p + i))), ?_⟩
        · by_cases hj2 : j = i
          · rw [hj2]; exact e.symm
          · exact hall j (by omega)
        · rw [hE, h_235_5, ilt_pos (by omega) (by omega), ilt_pos (by omega) (by omega), jn_add, c_at (by omega) (by omega), kI_r, jn_add, c_at (by omega) (by omega), kI_r, if_pos e, c_arity (by omega), kI_r, arR_due hsg, jn_add]
      · refine Or.inr ?_
        rw [hE, h_235_5, ilt_pos (by omega) (by omega), ilt_pos (by omega) (by omega), jn_add, c_at (by omega) (by omega), kI_r, jn_add, c_at (by omega) (by omega), kI_r, if_neg e, rZ_0]
    · exact ⟨⟨by have := ho.1; have := arN_le (M.1 7 (p + i)); omega, by omega⟩, Or.inr hE⟩
  · rw [At_sz] at *
    intro i hi
    simpa using hA i hi
theorem c_alike {d p q : Nat} {M : PM} {t u : Tm} (hd : 2 ≤ d) (ht : wf t) (hu : wf u) (hA : At (M.1 7) p (en t)) (hB : At (M.1 7) q (en u)) (hs : sz t ≤ 40) (hp : p + sz t ≤ 3760) (hq : q + sz t ≤ 3760) :
    pcl GG lay d 235 [.ref 6, .int (jn p), .int (jn q)] M = rI (bI (en t = en u)) M := by
  obtain ⟨d, rfl⟩ := ex_add hd
  by_cases h : At (M.1 7) q (en t)
  · have e : en t = en u := by
      have h3 : ∃ x y, en t ++ x = en u ++ y := by
        have hb : ∀ (l l' : List Int32) (q : Nat), At (M.1 7) q l → At (M.1 7) q l' → ∃ x y, l ++ x = l' ++ y := by
          intro l
          induction l with
          | nil => intro l' q _ _; exact ⟨l', [], by simp⟩
          | cons c l ih =>
            intro l' q h1 h2
            cases l' with
            | nil => exact ⟨[], c :: l, by simp⟩
            | cons c' l' =>
              obtain ⟨x, y, h⟩ := ih l' (q + 1) h1.2 h2.2
              exact ⟨x, y, by rw [List.cons_append, List.cons_append, h, ← h1.1, ← h2.1]⟩
        exact hb _ _ q h hB
      obtain ⟨x, y, h3⟩ := h3
      rw [(en_inj t ht u hu x y h3).1]
    rw [alike_go ht hA hs hp hq h]
    unfold bI
    rw [if_pos e]
  · rw [alike_no ht hA hs hp hq h]
    unfold bI
    rw [if_neg]
    intro e
    apply h
    rw [e]
    exact hB
theorem c_appendCells {d : Nat} {M : PM} {p n q : Nat} (hd : 2 ≤ d) (hp : p + n ≤ 3760) (hq : q + n ≤ 3760) (ho : q ≤ p ∨ p + n ≤ q) : pcl GG lay d 238 [.ref 6, .int (jn p), .int (jn (p + n)), .int (jn q)] M = rI (jn (q + n)) (sI M 7 (cp (M.1 7) (M.1 7) p q n)) := by
  obtain ⟨d, rfl⟩ := ex_add hd
  rw [q_238]
  have key : ∀ m k, k + m = n → E_238 (d + 1) (3, [some (.ref 6), some (.int (jn p)), some (.int (jn (p + n))), some (.int (jn q)), some (.int (jn (p + k)))], [], sI M 7 (cp (M.1 7) (M.1 7) p q k)) = rI (jn (q + n)) (sI M 7 (cp (M.1 7) (M.1 7) p q n)) := by
    intro m
    induction m with
    | zero =>
      intro k hk
      obtain rfl : k = n := by omega
      rw [h_238_3, ilt_neg (by omega) (by omega), jn_add, jn_sub (by omega), show q + (p + k) - p = q + k by omega]
    | succ m ih =>
      intro k hk
      rw [h_238_3, ilt_pos (by omega) (by omega), c_at (by omega) (by omega), kI_r, jn_add, jn_sub (by omega), show q + (p + k) - p = q + k by omega, c_write (by omega) (by omega), kV_r, sI_sI, sI_k, cp_out (by omega), cp_succ, jn_add, ← ih (k + 1) (by omega)]
      rfl
  have h := key n 0 (by omega)
  rw [cp_0, sI_self] at h
  exact h
theorem c_append {d : Nat} {M : PM} {p q : Nat} {t : Tm} (hd : 3 ≤ d) (ht : wf t) (hA : At (M.1 7) p (en t)) (hp : p + sz t ≤ 3760) (hq : q + sz t ≤ 3760) (ho : q ≤ p ∨ p + sz t ≤ q) : pcl GG lay d 237 [.ref 6, .int (jn p), .int (jn q)] M = rI (jn (q + sz t)) (sI M 7 (cp (M.1 7) (M.1 7) p q (sz t))) := by
  obtain ⟨d, rfl⟩ := ex_add hd
  rw [q_237, c_end (by omega) ht hA hp, kI_r, c_appendCells (by omega) hp hq ho, kI_r]
/-! the model's spans -/
