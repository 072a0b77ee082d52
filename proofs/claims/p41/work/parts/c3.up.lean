/-! MORE CELLS: what the pure machine answers over some cells it answers over these and more -/
def LyLe (lay lay' : List SH) : Prop := ∀ (k : Nat) (x : SH), lay[k]? = some x → lay'[k]? = some x
section
variable {lay' : List SH} {ly : List SH} {M M' : PM}
theorem getf_up (hp : LyLe ly lay') {k ci j : Nat} {v : Value} (h : getf ly M k ci j = some v) : getf lay' M k ci j = some v := by
  cases hk : ly[k]? with
  | none => unfold getf at h; rw [hk] at h; cases h
  | some x =>
    unfold getf at h ⊢
    rw [hk] at h
    rw [hp k x hk]
    exact h
theorem putf_up (hp : LyLe ly lay') {k ci j : Nat} {v : Value} (h : putf ly M k ci j v = some M') : putf lay' M k ci j v = some M' := by
  cases hk : ly[k]? with
  | none => unfold putf at h; rw [hk] at h; cases h
  | some x =>
    unfold putf at h ⊢
    rw [hk] at h
    rw [hp k x hk]
    exact h
theorem aldI_up (hp : LyLe ly lay') {a : Nat} {i v : Int32} (h : aldI ly none M a i = some v) : aldI lay' none M a i = some v := by
  cases hk : ly[a]? with
  | none => unfold aldI at h; rw [hk] at h; cases h
  | some x =>
    unfold aldI at h ⊢
    rw [hk] at h
    rw [hp a x hk]
    exact h
theorem aldL_up (hp : LyLe ly lay') {a : Nat} {i : Int32} {v : Int64} (h : aldL ly M a i = some v) : aldL lay' M a i = some v := by
  cases hk : ly[a]? with
  | none => unfold aldL at h; rw [hk] at h; cases h
  | some x =>
    unfold aldL at h ⊢
    rw [hk] at h
    rw [hp a x hk]
    exact h
theorem astI_up (hp : LyLe ly lay') {a : Nat} {i v : Int32} (h : astI ly M a i v = some M') : astI lay' M a i v = some M' := by
  cases hk : ly[a]? with
  | none => unfold astI at h; rw [hk] at h; cases h
  | some x =>
    unfold astI at h ⊢
    rw [hk] at h
    rw [hp a x hk]
    exact h
theorem astL_up (hp : LyLe ly lay') {a : Nat} {i : Int32} {v : Int64} (h : astL ly M a i v = some M') : astL lay' M a i v = some M' := by
  cases hk : ly[a]? with
  | none => unfold astL at h; rw [hk] at h; cases h
  | some x =>
    unfold astL at h ⊢
    rw [hk] at h
    rw [hp a x hk]
    exact h
theorem alen_up (hp : LyLe ly lay') {a : Nat} {v : Int32} (h : alen ly none a = some v) : alen lay' none a = some v := by
  cases hk : ly[a]? with
  | none => unfold alen at h; rw [hk] at h; cases h
  | some x =>
    unfold alen at h ⊢
    rw [hk] at h
    rw [hp a x hk]
    exact h
theorem isob_up (hp : LyLe ly lay') {v : Option Value} {ci : Nat} (h : ¬ isob ly v ci = false) : ¬ isob lay' v ci = false := by
  match v with
  | some (.ref k) =>
    cases hk : ly[k]? with
    | none => exact (h (by unfold isob; simp only [hk])).elim
    | some x =>
      unfold isob at h ⊢
      simp only [hk] at h
      simp only [hp k x hk]
      exact h
  | none => exact (h rfl).elim
  | some (.int _) => exact (h rfl).elim
  | some (.long _) => exact (h rfl).elim
  | some (.float _) => exact (h rfl).elim
  | some (.double _) => exact (h rfl).elim
  | some .null => exact (h rfl).elim
  | some (.retAddr _) => exact (h rfl).elim
theorem acpy_up (hp : LyLe ly lay') {vs : List Value} {r : Option Value × PM} (h : acpy ly M vs = some r) : acpy lay' M vs = some r := by
  unfold acpy at h ⊢
  split at h
  · rename_i a sp b dp n
    cases ha : ly[a]? with
    | none => rw [ha] at h; cases h
    | some x =>
      cases hb : ly[b]? with
      | none =>
        rw [ha, hb] at h
        rcases x with x | ⟨_ | _, x⟩ <;> exact absurd (show (none : PO) = some r from h) (fun e => nomatch e)
      | some y =>
        rw [ha, hb] at h
        simp only [hp a x ha, hp b y hb]
        exact h
  · cases h
theorem ofo_some {α : Type} {o o' : Option α} {k : α → SR} {s : SR} (hs : s ≠ .inl none) (ho : ∀ x, o = some x → o' = some x) (h : ofo o k = s) : ofo o' k = s := by
  cases o with
  | none => exact (hs h.symm).elim
  | some x => rw [ho x rfl]; exact h
theorem calr_up {o o' : PO} {k nx : Nat} {L : LC} {st : List Value} {s : SR} (hs : s ≠ .inl none) (ho : ∀ x, o = some x → o' = some x) (h : calr o k nx L st = s) : calr o' k nx L st = s := by
  cases o with
  | none => exfalso; unfold calr at h; split at h <;> exact hs h.symm
  | some x => rw [ho x rfl]; exact h
theorem stp_up (hp : LyLe ly lay') {cl cl' : Nat → List Value → PM → PO} (hc : ∀ id vs M r, cl id vs M = some r → cl' id vs M = some r) {rk : Nat} {x : XE} {L : LC} {st : List Value} {s : SR} (hs : s ≠ .inl none) (h : stp ly none cl rk x L st M = s) : stp lay' none cl' rk x L st M = s := by
  obtain ⟨pc, i, nx, r1, r2, c, ts⟩ := x
  cases i with
  | getfield ix =>
    simp only [stp] at h ⊢
    split at h
    · exact ofo_some hs (fun x => getf_up hp) h
    · exact (hs h.symm).elim
  | putfield ix =>
    simp only [stp] at h ⊢
    split at h
    · exact ofo_some hs (fun x => putf_up hp) h
    · exact (hs h.symm).elim
  | iaload =>
    simp only [stp] at h ⊢
    split at h
    · exact ofo_some hs (fun x => aldI_up hp) h
    · exact (hs h.symm).elim
  | laload =>
    simp only [stp] at h ⊢
    split at h
    · exact ofo_some hs (fun x => aldL_up hp) h
    · exact (hs h.symm).elim
  | iastore =>
    simp only [stp] at h ⊢
    split at h
    · exact ofo_some hs (fun x => astI_up hp) h
    · exact (hs h.symm).elim
  | lastore =>
    simp only [stp] at h ⊢
    split at h
    · exact ofo_some hs (fun x => astL_up hp) h
    · exact (hs h.symm).elim
  | arraylength =>
    simp only [stp] at h ⊢
    split at h
    · exact ofo_some hs (fun x => alen_up hp) h
    · exact (hs h.symm).elim
  | invokestatic ix =>
    simp only [stp] at h ⊢
    split at h
    · exact (hs h.symm).elim
    · rename_i h1
      rw [if_neg h1]
      exact calr_up hs (fun x => hc _ _ _ x) h
  | invokevirtual ix =>
    simp only [stp] at h ⊢
    split at h
    · exact (hs h.symm).elim
    · rename_i h1
      rw [if_neg (fun h2 => h1 (by
        rcases h2 with h2 | h2 | h2
        · exact Or.inl h2
        · exact Or.inr (Or.inl h2)
        · exact Or.inr (Or.inr (Classical.byContradiction fun h3 => isob_up hp h3 h2))))]
      exact calr_up hs (fun x => hc _ _ _ x) h
  | _ => exact h
theorem rnn_up2 (hp : LyLe ly lay') {cl cl' : Nat → List Value → PM → PO} (hc : ∀ id vs M r, cl id vs M = some r → cl' id vs M = some r) {rk : Nat} {code : List XE} : ∀ (n : Nat) (q : PQ) (r : Option Value × PM), rnn code ly none cl rk n q = some r → rnn code lay' none cl' rk n q = some r := by
  intro n
  induction n with
  | zero => intro q r h; simp [rnn] at h
  | succ n ih =>
    intro q r h
    rw [rnn] at h ⊢
    cases hf : fet code q.1 with
    | none => rw [hf] at h; simp at h
    | some x =>
      rw [hf] at h
      simp only at h ⊢
      cases hs : stp ly none cl rk x q.2.1 q.2.2.1 q.2.2.2 with
      | inl o =>
        rw [hs] at h
        simp only at h
        subst h
        rw [stp_up hp hc (fun z => by cases z) hs]
      | inr q' =>
        rw [hs] at h
        rw [stp_up hp hc (fun z => by cases z) hs]
        exact ih q' r h
theorem pcl_up (hp : LyLe ly lay') {G : Nat → Option MT} : ∀ (d id : Nat) (vs : List Value) (M : PM) (r : Option Value × PM), pcl G ly d id vs M = some r → pcl G lay' d id vs M = some r := by
  intro d
  induction d with
  | zero => intro id vs M r h; cases h
  | succ d ih =>
    intro id vs M r h
    rw [pcl] at h ⊢
    split at h
    · rename_i h3
      rw [if_pos h3]
      unfold nat3 at h ⊢
      split at h
      · exact acpy_up hp h
      · exact h
      · exact h
    · rename_i h3
      rw [if_neg h3]
      cases hG : G id with
      | none => rw [hG] at h; cases h
      | some mt =>
        rw [hG] at h
        simp only at h ⊢
        split at h
        · cases h
        · rename_i hl
          rw [if_neg hl]
          obtain ⟨n, hn⟩ := evn_iff.mp h
          exact evn_iff.mpr ⟨n, rnn_up2 hp ih n _ r hn⟩
end
theorem lay_laz : LyLe lay laz := by
  intro k x h
  have hk : k < lay.length := (List.getElem?_eq_some_iff.mp h).1
  unfold laz
  rw [List.getElem?_append_left hk]
  exact h
theorem XI.up {d id : Nat} {vs : List Value} {M : PM} {ra : Int32 × AT} (h : XI (pcl GG lay d id vs M) M ra) : ∃ M', pcl GG laz d id vs M = rI ra.1 M' ∧ RX ra.2 M' ∧ Hi M M' := by
  obtain ⟨M', e, h1, h2⟩ := h
  exact ⟨M', pcl_up lay_laz _ _ _ _ _ e, h1, h2⟩
theorem XL.up {d id : Nat} {vs : List Value} {M : PM} {ra : Int64 × AT} (h : XL (pcl GG lay d id vs M) M ra) : ∃ M', pcl GG laz d id vs M = rL ra.1 M' ∧ RX ra.2 M' ∧ Hi M M' := by
  obtain ⟨M', e, h1, h2⟩ := h
  exact ⟨M', pcl_up lay_laz _ _ _ _ _ e, h1, h2⟩
