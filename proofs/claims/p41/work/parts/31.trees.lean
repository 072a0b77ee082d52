/-! TREES, and how they lie in memory -/
abbrev Tm : Type := Std.DTreeMap.Internal.Impl Int32 (fun _ => Unit)
abbrev Lf : Tm := Std.DTreeMap.Internal.Impl.leaf
abbrev Nd (c : Int32) (a b : Tm) : Tm := Std.DTreeMap.Internal.Impl.inner 0 c () a b
abbrev isV (c : Int32) : Prop := 117 ≤ c.toInt ∧ c.toInt ≤ 122
abbrev is0 (c : Int32) : Prop := 97 ≤ c.toInt ∧ c.toInt ≤ 100 ∨ 117 ≤ c.toInt ∧ c.toInt ≤ 122
abbrev is1 (c : Int32) : Prop := 101 ≤ c.toInt ∧ c.toInt ≤ 104
abbrev is2 (c : Int32) : Prop := 105 ≤ c.toInt ∧ c.toInt ≤ 108
def arR (c : Int32) : Int32 := if is2 c then jn 2 else if is1 c then jn 1 else if is0 c then jn 0 else jz 1
theorem arR_2 {c : Int32} (h : is2 c) : arR c = jn 2 := if_pos h
theorem arR_1 {c : Int32} (h : is1 c) : arR c = jn 1 := by unfold arR; rw [if_neg (by omega), if_pos h]
theorem arR_0 {c : Int32} (h : is0 c) : arR c = jn 0 := by unfold arR; rw [if_neg (by omega), if_neg (by omega), if_pos h]
theorem jlt {c : Int32} {n : Nat} (hn : n < 2147483648) : (c < jn n) = (c.toInt < (n : Int)) := by rw [Int32.lt_iff_toInt_lt, jn_toInt hn]
theorem jgt {c : Int32} {n : Nat} (hn : n < 2147483648) : (jn n < c) = ((n : Int) < c.toInt) := by rw [Int32.lt_iff_toInt_lt, jn_toInt hn]
/-- the signs of a tree in the order of its nodes -/
def en : Tm → List Int32
  | .leaf => []
  | .inner _ c _ a b => c :: (en a ++ en b)
def wf : Tm → Prop
  | .leaf => False
  | .inner n c _ a b => n = 0 ∧ (is0 c ∧ a = .leaf ∧ b = .leaf ∨ is1 c ∧ wf a ∧ b = .leaf ∨ is2 c ∧ wf a ∧ wf b)
theorem wf_ind {P : Tm → Prop} (h0 : ∀ c, is0 c → P (Nd c Lf Lf)) (h1 : ∀ c a, is1 c → wf a → P a → P (Nd c a Lf)) (h2 : ∀ c a b, is2 c → wf a → wf b → P a → P b → P (Nd c a b)) : ∀ t, wf t → P t := by
  intro t
  induction t with
  | leaf => intro h; exact h.elim
  | inner n c u a b iha ihb =>
    rintro ⟨rfl, ⟨hc, rfl, rfl⟩ | ⟨hc, ha, rfl⟩ | ⟨hc, ha, hb⟩⟩
    · exact h0 c hc
    · exact h1 c a hc ha (iha ha)
    · exact h2 c a b hc ha hb (iha ha) (ihb hb)
theorem wf_0 {c : Int32} (h : is0 c) : wf (Nd c Lf Lf) := ⟨rfl, Or.inl ⟨h, rfl, rfl⟩⟩
theorem wf_1 {c : Int32} {a : Tm} (h : is1 c) (ha : wf a) : wf (Nd c a Lf) := ⟨rfl, Or.inr (Or.inl ⟨h, ha, rfl⟩)⟩
theorem wf_2 {c : Int32} {a b : Tm} (h : is2 c) (ha : wf a) (hb : wf b) : wf (Nd c a b) := ⟨rfl, Or.inr (Or.inr ⟨h, ha, hb⟩)⟩
abbrev sz (t : Tm) : Nat := (en t).length
theorem en_0 (c : Int32) : en (Nd c Lf Lf) = [c] := rfl
theorem en_1 (c : Int32) (a : Tm) : en (Nd c a Lf) = c :: en a := by simp [en]
theorem en_2 (c : Int32) (a b : Tm) : en (Nd c a b) = c :: (en a ++ en b) := rfl
theorem sz_0 (c : Int32) : sz (Nd c Lf Lf) = 1 := rfl
theorem sz_1 (c : Int32) (a : Tm) : sz (Nd c a Lf) = sz a + 1 := by simp [sz, en]
theorem sz_2 (c : Int32) (a b : Tm) : sz (Nd c a b) = sz a + sz b + 1 := by simp [sz, en]
theorem sz_pos : ∀ t, wf t → 0 < sz t := by
  refine wf_ind (fun c _ => ?_) (fun c a _ _ _ => ?_) (fun c a b _ _ _ _ _ => ?_)
  · rw [sz_0]; omega
  · rw [sz_1]; omega
  · rw [sz_2]; omega
/-- a list lies in memory at a place -/
def At (f : Nat → Int32) : Nat → List Int32 → Prop
  | _, [] => True
  | p, c :: l => f p = c ∧ At f (p + 1) l
theorem At_app {f : Nat → Int32} : ∀ (l : List Int32) (p : Nat) (l' : List Int32), At f p (l ++ l') ↔ At f p l ∧ At f (p + l.length) l' := by
  intro l
  induction l with
  | nil => intro p l'; simp [At]
  | cons c l ih =>
    intro p l'
    rw [List.cons_append]
    show f p = c ∧ At f (p + 1) (l ++ l') ↔ (f p = c ∧ At f (p + 1) l) ∧ At f (p + (l.length + 1)) l'
    rw [ih (p + 1) l', and_assoc, show p + 1 + l.length = p + (l.length + 1) by omega]
theorem At_iff {f : Nat → Int32} : ∀ (l : List Int32) (p : Nat), At f p l ↔ ∀ i, i < l.length → l[i]? = some (f (p + i)) := by
  intro l
  induction l with
  | nil => intro p; simp [At]
  | cons c l ih =>
    intro p
    unfold At
    rw [ih (p + 1)]
    constructor
    · rintro ⟨h1, h2⟩ i hi
      cases i with
      | zero => simp [h1]
      | succ i => have := h2 i (by simpa using hi); simpa [Nat.add_comm, Nat.add_left_comm] using this
    · intro h
      refine ⟨?_, fun i hi => ?_⟩
      · have := h 0 (by simp); simpa using this.symm
      · have := h (i + 1) (by simpa using hi); simpa [Nat.add_comm, Nat.add_left_comm] using this
theorem At_congr {f g : Nat → Int32} {l : List Int32} {p : Nat} (h : At f p l) (e : ∀ i, p ≤ i → i < p + l.length → g i = f i) : At g p l := by
  rw [At_iff] at *
  intro i hi
  rw [h i hi, e (p + i) (by omega) (by omega)]
theorem At_inj {f : Nat → Int32} {l l' : List Int32} {p : Nat} (h : At f p l) (h' : At f p l') (e : l.length = l'.length) : l = l' := by
  rw [At_iff] at *
  apply List.ext_getElem?
  intro i
  by_cases hi : i < l.length
  · rw [h i hi, h' i (by omega)]
  · rw [List.getElem?_eq_none (by omega), List.getElem?_eq_none (by omega)]
/-- of signs that begin with a tree the tree is known -/
theorem en_inj : ∀ t, wf t → ∀ u, wf u → ∀ x y, en t ++ x = en u ++ y → t = u ∧ x = y := by
  refine wf_ind (fun c hc => ?_) (fun c a hc ha iha => ?_) (fun c a b hc ha hb iha ihb => ?_)
  all_goals
    refine wf_ind (fun c' hc' => ?_) (fun c' a' hc' ha' _ => ?_) (fun c' a' b' hc' ha' hb' _ _ => ?_)
    all_goals
      intro x y h
      simp only [en_0, en_1, en_2, List.cons_append, List.append_assoc, List.nil_append, List.cons.injEq] at h
      obtain ⟨rfl, h⟩ := h
      first
        | (exfalso; omega)
        | (obtain rfl := h; exact ⟨rfl, rfl⟩)
        | (obtain ⟨rfl, rfl⟩ := iha _ ha' _ _ h; exact ⟨rfl, rfl⟩)
        | (obtain ⟨rfl, h2⟩ := iha _ ha' _ _ h; obtain ⟨rfl, rfl⟩ := ihb _ hb' _ _ h2; exact ⟨rfl, rfl⟩)
theorem en_inj1 {t u : Tm} (ht : wf t) (hu : wf u) (h : en t = en u) : t = u := (en_inj t ht u hu [] [] (by rw [h])).1
/-! the small static methods -/
theorem c_isV {d : Nat} {c : Int32} {M : PM} (hd : 1 ≤ d) : pcl GG lay d 62 [.int c] M = rI (bI (isV c)) M := by
  obtain ⟨d, rfl⟩ := ex_add hd
  rw [q_62]
  simp (disch := omega) only [jlt, jgt, rZ_0, rZ_1]
  unfold bI
  split
  · rw [if_neg (by omega)]
  · split
    · rw [if_neg (by omega)]
    · rw [if_pos (by omega)]
theorem c_arity {d : Nat} {c : Int32} {M : PM} (hd : 1 ≤ d) : pcl GG lay d 63 [.int c] M = rI (arR c) M := by
  obtain ⟨d, rfl⟩ := ex_add hd
  rw [q_63]
  simp (disch := omega) only [jlt, jgt]
  unfold arR
  repeat' split
  all_goals first
    | rfl
    | (exfalso; omega)
theorem c_get {d a n i : Nat} {M : PM} (hd : 1 ≤ d) (ha : lay[a]? = some (.inr (false, n))) (hi : i < n) (hn : n < 2147483648) : pcl GG lay d 65 [.ref a, .int (jn i)] M = rI (M.1 a i) M := by
  obtain ⟨d, rfl⟩ := ex_add hd
  rw [q_65, alen_n ha, oB_s, ilt_neg (by omega) (by omega), ilt_pos hi hn, ald_n ha hi hn, oB_s]
theorem c_put {d a n i : Nat} {v : Int32} {M : PM} (hd : 1 ≤ d) (ha : lay[a]? = some (.inr (false, n))) (hi : i < n) (hn : n < 2147483648) : pcl GG lay d 66 [.ref a, .int (jn i), .int v] M = rV (sI M a (va_up (M.1 a) i v)) := by
  obtain ⟨d, rfl⟩ := ex_add hd
  rw [q_66, alen_n ha, oB_s, ilt_neg (by omega) (by omega), ilt_pos hi hn, ast_n ha hi hn, oB_s]
theorem c_getL {d a n i : Nat} {M : PM} (hd : 1 ≤ d) (ha : lay[a]? = some (.inr (true, n))) (hi : i < n) (hn : n < 2147483648) : pcl GG lay d 67 [.ref a, .int (jn i)] M = rL (M.2 a i) M := by
  obtain ⟨d, rfl⟩ := ex_add hd
  rw [q_67, alen_n ha, oB_s, ilt_neg (by omega) (by omega), ilt_pos hi hn, ald_l ha hi hn, oB_s]
theorem c_putL {d a n i : Nat} {v : Int64} {M : PM} (hd : 1 ≤ d) (ha : lay[a]? = some (.inr (true, n))) (hi : i < n) (hn : n < 2147483648) : pcl GG lay d 68 [.ref a, .int (jn i), .long v] M = rV (sL M a (va_up (M.2 a) i v)) := by
  obtain ⟨d, rfl⟩ := ex_add hd
  rw [q_68, alen_n ha, oB_s, ilt_neg (by omega) (by omega), ilt_pos hi hn, ast_l ha hi hn, oB_s]
/-! places of terms -/
theorem c_at {d p : Nat} {M : PM} (hd : 1 ≤ d) (hp : p < 3760) : pcl GG lay d 231 [.ref 6, .int (jn p)] M = rI (M.1 7 p) M := by
  obtain ⟨d, rfl⟩ := ex_add hd
  rw [q_231, ilt_neg (by omega) (by omega), ilt_pos hp (by omega), ald_n (n := 3760) rfl hp (by omega), oB_s]
theorem c_write {d p : Nat} {v : Int32} {M : PM} (hd : 1 ≤ d) (hp : p < 3760) : pcl GG lay d 232 [.ref 6, .int (jn p), .int v] M = rV (sI M 7 (va_up (M.1 7) p v)) := by
  obtain ⟨d, rfl⟩ := ex_add hd
  rw [q_232, ilt_neg (by omega) (by omega), ilt_pos hp (by omega), ast_n (n := 3760) rfl hp (by omega), oB_s]
theorem end_step {d : Nat} {u1 u4 : Option Value} {i o : Nat} {c : Int32} {M : PM} (hi : i < 3760) (ho : o < 5000) (hc : M.1 7 i = c) (h : is0 c ∨ is1 c ∨ is2 c) :
    E_233 d (12, [some (.ref 6), u1, some (.int (jn i)), some (.int (jn (o + 1))), u4], [], M) = E_233 d (12, [some (.ref 6), u1, some (.int (jn (i + 1))), some (.int (jn (if is2 c then o + 2 else if is1 c then o + 1 else o))), some (.int c)], [], M) := by
  rw [h_233_12, ilt_pos (by omega) (by omega), ilt_pos hi (by omega), ald_n (n := 3760) rfl hi (by omega), oB_s, hc]
  simp (disch := omega) only [jlt, jgt, jn_add, jn_addz]
  rcases h with h | h | h
  · rw [if_neg (show ¬ is2 c by omega), if_neg (show ¬ is1 c by omega)]
    split
    · split
      · rfl
      · rw [if_pos (by omega)]; rfl
    · rw [if_pos (by omega), if_neg (by omega), if_pos (by omega)]; rfl
  · rw [if_neg (show ¬ is2 c by omega), if_pos h, if_pos (by omega), if_neg (by omega), if_neg (by omega)]
  · rw [if_pos h, if_neg (by omega), if_neg (by omega)]
theorem end_go {d : Nat} {u1 : Option Value} {M : PM} : ∀ t, wf t → ∀ (i o : Nat) (u4 : Option Value), At (M.1 7) i (en t) → i + sz t ≤ 3760 → o + sz t < 5000 → ∃ u, E_233 d (12, [some (.ref 6), u1, some (.int (jn i)), some (.int (jn (o + 1))), u4], [], M) = E_233 d (12, [some (.ref 6), u1, some (.int (jn (i + sz t))), some (.int (jn o)), u], [], M) := by
  refine wf_ind (fun c hc => ?_) (fun c a hc ha iha => ?_) (fun c a b hc ha hb iha ihb => ?_)
  · intro i o u4 hA hi ho
    rw [sz_0] at *
    exact ⟨_, by rw [end_step (by omega) (by omega) hA.1 (Or.inl hc), if_neg (by omega), if_neg (by omega)]⟩
  · intro i o u4 hA hi ho
    rw [sz_1] at *
    rw [en_1] at hA
    obtain ⟨u, h⟩ := iha (i + 1) o (some (.int c)) hA.2 (by omega) (by omega)
    refine ⟨u, ?_⟩
    rw [end_step (by omega) (by omega) hA.1 (Or.inr (Or.inl hc)), if_neg (by omega), if_pos hc, h]
    rw [show i + 1 + sz a = i + (sz a + 1) by omega]
  · intro i o u4 hA hi ho
    rw [sz_2] at *
    rw [en_2] at hA
    obtain ⟨h1, h2, h3⟩ : _ ∧ _ ∧ _ := ⟨hA.1, (At_app _ _ _).mp hA.2⟩
    obtain ⟨u, h⟩ := iha (i + 1) (o + 1) (some (.int c)) h2 (by omega) (by omega)
    obtain ⟨u', h'⟩ := ihb (i + 1 + sz a) o u h3 (by omega) (by omega)
    refine ⟨u', ?_⟩
    rw [end_step (by omega) (by omega) h1 (Or.inr (Or.inr hc)), if_pos hc, show o + 2 = o + 1 + 1 from rfl, h, h']
    rw [show i + 1 + sz a + sz b = i + (sz a + sz b + 1) by omega]
theorem c_end {d p : Nat} {t : Tm} {M : PM} (hd : 2 ≤ d) (ht : wf t) (hA : At (M.1 7) p (en t)) (hp : p + sz t ≤ 3760) : pcl GG lay d 233 [.ref 6, .int (jn p)] M = rI (jn (p + sz t)) M := by
  obtain ⟨d, rfl⟩ := ex_add hd
  rw [q_233, ilt_neg (by omega) (by omega)]
  obtain ⟨u, h⟩ := end_go (d := d + 1) (u1 := some (.int (jn p))) t ht p 0 none hA hp (by omega)
  rw [show (1 : Nat) = 0 + 1 from rfl, h, h_233_12, ilt_neg (by omega) (by omega)]
theorem c_sizeAt {d p : Nat} {t : Tm} {M : PM} (hd : 3 ≤ d) (ht : wf t) (hA : At (M.1 7) p (en t)) (hp : p + sz t ≤ 3760) : pcl GG lay d 234 [.ref 6, .int (jn p)] M = rI (jn (sz t)) M := by
  obtain ⟨d, rfl⟩ := ex_add hd
  rw [q_234, c_end (by omega) ht hA hp, kI_r, jn_sub (by omega), show p + sz t - p = sz t by omega]
