/-! the six strategies of the laws are added; then all else -/
theorem sg_1 {a b : Int32} : sgNew (jn 1) a b = (1, jz 1, jz 1) := by
  unfold sgNew
  rw [if_pos (Or.inl rfl), if_neg (show ¬ overB (jn 1) by decide), jnN (by omega)]
theorem sg_2 {a b : Int32} : sgNew (jn 2) a b = (2, jz 1, jz 1) := by
  unfold sgNew
  rw [if_pos (Or.inr rfl), if_neg (show ¬ overB (jn 2) by decide), jnN (by omega)]
theorem sg_5 {a b : Int32} : sgNew (jn 5) a b = (5, a, jz 1) := by
  unfold sgNew
  rw [if_neg (show ¬ (jn 5 = jn 1 ∨ jn 5 = jn 2) by decide), if_neg (show ¬ overB (jn 5) by decide), jnN (by omega)]
theorem sg_4 {a b : Int32} : sgNew (jn 4) a b = (4, a, b) := by
  unfold sgNew
  rw [if_neg (show ¬ (jn 4 = jn 1 ∨ jn 4 = jn 2) by decide), if_pos (Or.inr rfl), jnN (by omega)]
theorem sg_3 {a b : Int32} : sgNew (jn 3) a b = (3, a, b) := by
  unfold sgNew
  rw [if_neg (show ¬ (jn 3 = jn 1 ∨ jn 3 = jn 2) by decide), if_pos (Or.inl rfl), jnN (by omega)]
theorem sg_13 {a b : Int32} : sgNew (jn 13) a b = (13, a, jz 1) := by
  unfold sgNew
  rw [if_neg (show ¬ (jn 13 = jn 1 ∨ jn 13 = jn 2) by decide), if_neg (show ¬ overB (jn 13) by decide), jnN (by omega)]
theorem ap_at {α : Type} {l l' : List α} {k j : Nat} (h : k = l.length + j) : (l ++ l')[k]? = l'[j]? := by
  subst h
  rw [List.getElem?_append_right (Nat.le_add_right _ _), Nat.add_sub_cancel_left]
def Pr (A : AT) (M : PM) (W n R : Nat) : Prop := RX A M ∧ AOk A ∧ (ssA A).length = W ∧ M.1 52 0 = jn W ∧ M.1 52 3 = jn n ∧ M.1 52 4 = jn R
theorem pr_add {A : AT} {M : PM} {W n R d k a b : Nat} {g : Int32 → PM → PO} (hd : 8 ≤ d) (h : Pr A M W n R) (hs : stOk A (jn k) (jn a) (jn b)) (hW : W < 24) (hg : ∀ M1, Pr (stA A (sgNew (jn k) (jn a) (jn b))) M1 (W + 1) n R → Zz (g (jn 1) M1)) : Zz (kI (pcl GG laz d 72 [.ref 0, .ref 52, .int (jn k), .int (jn a), .int (jn b)] M) g) := by
  obtain ⟨h1, h2, h3, h4, h5, h6⟩ := h
  obtain ⟨M1, e, r1, k1, z1, j1⟩ := l_adds hd h2 h1 hs h3 hW h4
  rw [e, kI_r]
  refine hg M1 ⟨r1, k1, ?_, z1, by rw [j1 3 (by omega) (by omega)]; exact h5, by rw [j1 4 (by omega) (by omega)]; exact h6⟩
  show (ssA A ++ [_]).length = W + 1
  rw [List.length_append, h3]
  rfl
theorem law_true {A : AT} {M : PM} {n R w d : Nat} (hd : 62 ≤ d) (h : Pr A M (w + 1) n R) (hn : (tsA A).length = n ∧ 1 ≤ n ∧ n ≤ 4) (hR : (rsA A).length = R ∧ 1 ≤ R ∧ R ≤ 4) (hw2 : w + 7 ≤ 24) (hst : ∀ r, r < R → (ssA A)[r]? = some (0, jn r, jz 1)) (hRw : R ≤ w + 1) : Zz (E_276 d (120, [none, some (.ref 0), some (.ref 52), none, none, none, none, none, none], [], M)) := by
  have hW : (ssA A).length = w + 1 := h.2.2.1
  rw [h_276_120, b_ald (by omega), oB_s, h.2.2.2.1, jn_sub (by omega), Nat.add_sub_cancel]
  rw [h_276_129, if_pos (by decide), if_pos rfl, if_neg (by decide)]
  simp only [jn_add]
  refine pr_add (by omega) h (stOk_n (by omega) (by omega) (by omega) (by omega) (by omega) (by omega)) (by omega) (fun M1 p1 => z_ne (by decide) ?_)
  rw [h_276_129, if_pos (by decide), if_neg (by decide), if_pos rfl, if_neg (by decide)]
  simp only [jn_add]
  have l1 := p1.2.2.1
  refine pr_add (by omega) p1 (stOk_n (by omega) (by omega) (by omega) (by omega) (by omega) (by omega)) (by omega) (fun M2 p2 => z_ne (by decide) ?_)
  rw [h_276_129, if_pos (by decide), if_neg (by decide), if_neg (by decide), if_pos rfl, if_neg (by decide)]
  simp only [jn_add]
  have l2 := p2.2.2.1
  refine pr_add (by omega) p2 (stOk_n (by omega) (by omega) (by omega) (by omega) (by omega) (by omega)) (by omega) (fun M3 p3 => z_ne (by decide) ?_)
  rw [h_276_129, if_pos (by decide), if_neg (by decide), if_neg (by decide), if_neg (by decide), if_pos rfl, if_pos rfl]
  simp only [jn_add]
  have l3 := p3.2.2.1
  refine pr_add (by omega) p3 (stOk_n (by omega) (by omega) (by omega) (by omega) (by omega) (by omega)) (by omega) (fun M4 p4 => z_ne (by decide) ?_)
  rw [h_276_129, if_pos (by decide), if_neg (by decide), if_neg (by decide), if_neg (by decide), if_neg (by decide), if_pos rfl, if_neg (by decide)]
  simp only [jn_add]
  have l4 := p4.2.2.1
  refine pr_add (by omega) p4 (stOk_n (by omega) (by omega) (by omega) (by omega) (by omega) (by omega)) (by omega) (fun M5 p5 => z_ne (by decide) ?_)
  rw [h_276_129, if_pos (by decide), if_neg (by decide), if_neg (by decide), if_neg (by decide), if_neg (by decide), if_neg (by decide), if_neg (by decide)]
  simp only [jn_add]
  have l5 := p5.2.2.1
  refine pr_add (by omega) p5 (stOk_n (by omega) (by omega) (by omega) (by omega) (by omega) (by omega)) (by omega) (fun M6 p6 => z_ne (by decide) ?_)
  obtain ⟨r6, k6, l6, b0, b3, b4⟩ := p6
  rw [sg_1, sg_2, sg_5, sg_4, sg_3, sg_13] at r6 k6 l6
  generalize hK : (stA (stA (stA (stA (stA (stA A (1, jz 1, jz 1)) (2, jz 1, jz 1)) (5, jn w, jz 1)) (4, jn w, jn (w + 1))) (3, jn w, jn (w + 2))) (13, jn w, jz 1)) = A6 at r6 k6 l6
  have eT : A6.1.1 = tsA A := by rw [← hK]; rfl
  have eR : A6.1.2.1 = rsA A := by rw [← hK]; rfl
  have eS : A6.1.2.2.1 = ssA A ++ [(1, jz 1, jz 1), (2, jz 1, jz 1), (5, jn w, jz 1), (4, jn w, jn (w + 1)), (3, jn w, jn (w + 2)), (13, jn w, jz 1)] := by
    rw [← hK]
    show (((((ssA A ++ [_]) ++ [_]) ++ [_]) ++ [_]) ++ [_]) ++ [_] = _
    simp only [List.append_assoc, List.cons_append, List.nil_append]
  obtain ⟨s, hs⟩ := l_told (K := A6.1) (f := M6.1 52) (d := d) k6.1 (by omega) (by rw [b0]; show _ = jn (ssA A6).length; rw [l6]) (by rw [b3, eT, hn.1]) (by rw [b4, eR, hR.1]) (by rw [eT]; omega)
  have hL : Lw A6.1 (M6.1 52) n R w d s := by
    refine ⟨hd, ⟨by rw [eT]; exact hn.1, hn.2.1, hn.2.2⟩, ⟨by rw [eR]; exact hR.1, hR.2.1, hR.2.2⟩, ⟨l6, hw2⟩, ⟨b0, b3, b4⟩, fun r hr => ?_, ⟨⟨(ssA A)[w], ?_⟩, ⟨jz 1, jz 1, ?_⟩, ⟨jz 1, jz 1, ?_⟩, ⟨jz 1, ?_⟩, ?_, ?_, ⟨jz 1, ?_⟩⟩, hs⟩
    · rw [eS, List.getElem?_append_left (by omega)]
      exact hst r hr
    · rw [eS, List.getElem?_append_left (by omega)]
      exact List.getElem?_eq_getElem (by omega)
    · rw [eS, ap_at (j := 0) (by omega)]; rfl
    · rw [eS, ap_at (j := 1) (by omega)]; rfl
    · rw [eS, ap_at (j := 2) (by omega)]; rfl
    · rw [eS, ap_at (j := 3) (by omega)]; rfl
    · rw [eS, ap_at (j := 4) (by omega)]; rfl
    · rw [eS, ap_at (j := 5) (by omega)]; rfl
  exact law_219 (O := A6.2.1) hL ⟨rfl, rfl, k6, r6, rfl⟩
