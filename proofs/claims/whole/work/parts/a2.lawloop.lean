/-! the law's own loop: every round answers alike -/
theorem RM_hi {A : AT} {M M' : PM} (h : RM A M) (hf : Hi M M') : RM A M' := by
  obtain ⟨a, ⟨b1, b2⟩, c, e, f, g⟩ := h
  have h52 : M'.1 52 = M.1 52 := (hf 52 (by omega)).1
  refine ⟨?_, ⟨?_, ?_⟩, ?_, ?_, ?_, ?_⟩
  · exact KM_eq a (fun j _ => by rw [h52]) (fun k hk => (hf k (by revert k hk; decide)).1)
  · rw [h52]; exact b1
  · intro K hK
    exact KM_eq (b2 K hK) (fun j _ => by rw [h52]) (fun k hk => (hf k (by revert k hk; decide)).1)
  · exact TX_eq c (by rw [h52]) (hf _ (by omega)).1 (hf _ (by omega)).2
  · exact SX_eq e (hf _ (by omega)).1 (hf _ (by omega)).1 (hf _ (by omega)).2
  · rw [h52]; exact f
  · exact CX_eq g (hf _ (by omega)).1
theorem RX_lo {A : AT} {M M' : PM} (h : RX A M) (hf : Lo M M') : RX A M' := by
  obtain ⟨a, ⟨b1, b2⟩, c, e, f, g⟩ := h
  refine ⟨?_, ⟨?_, ?_⟩, ?_, ?_, ?_, ?_⟩
  · exact KX_eq a (hf _ (by omega)).1 (hf _ (by omega)).1 (hf _ (by omega)).1 (hf _ (by omega)).1 (hf _ (by omega)).1 (hf _ (by omega)).1
  · rw [(hf 0 (by omega)).1]; exact b1
  · intro K hK
    exact KX_eq (b2 K hK) (hf _ (by omega)).1 (hf _ (by omega)).1 (hf _ (by omega)).1 (hf _ (by omega)).1 (hf _ (by omega)).1 (hf _ (by omega)).1
  · exact TX_eq c (by rw [(hf 48 (by omega)).1]) (hf _ (by omega)).1 (hf _ (by omega)).2
  · exact SX_eq e (hf _ (by omega)).1 (hf _ (by omega)).1 (hf _ (by omega)).2
  · rw [(hf 0 (by omega)).1]; exact f
  · exact CX_eq g (hf _ (by omega)).1
theorem twoI {A : AT} {o : PO} {g K : PM → PO} {M : PM} {ra : Int32 × AT} (hx : XI o M ra) (hm : ∀ M1, RM A M1 → MI (g M1) M1 ra) (h' : RM A M) (hk : AOk ra.2) (fin : ∀ A2 M2, AOk A2 → RX A2 M2 → RM A2 M2 → ∃ M', K M2 = rI (jn 1) M') : ∃ M', (kI o fun r M4 => kI (g M4) fun r2 M8 => if r = r2 then K M8 else rZ (jn 0) M8) = rI (jn 1) M' := by
  obtain ⟨M1, e1, e2, e3⟩ := hx
  obtain ⟨M2, f1, f2, f3⟩ := hm M1 (RM_hi h' e3)
  rw [e1, kI_r, f1, kI_r, if_pos rfl]
  exact fin ra.2 M2 hk (RX_lo e2 f3) f2
theorem twoL {A : AT} {o : PO} {g K : PM → PO} {M : PM} {ra : Int64 × AT} (hx : XL o M ra) (hm : ∀ M1, RM A M1 → ML (g M1) M1 ra) (h' : RM A M) (hk : AOk ra.2) (fin : ∀ A2 M2, AOk A2 → RX A2 M2 → RM A2 M2 → ∃ M', K M2 = rI (jn 1) M') : ∃ M', (kL o fun r M4 => kL (g M4) fun r2 M8 => if (lg_cmp r r2) = jn 0 then K M8 else rZ (jn 0) M8) = rI (jn 1) M' := by
  obtain ⟨M1, e1, e2, e3⟩ := hx
  obtain ⟨M2, f1, f2, f3⟩ := hm M1 (RM_hi h' e3)
  have e0 : lg_cmp ra.1 ra.1 = jn 0 := by
    unfold lg_cmp
    rw [if_neg (by simp), if_pos rfl]; rfl
  rw [e1, kL_r, f1, kL_r, if_pos e0]
  exact fin ra.2 M2 hk (RX_lo e2 f3) f2
theorem ite_ex {c : Prop} [Decidable c] {X Y : PO} (h1 : c → ∃ M', X = rI (jn 1) M') (h2 : ∃ M', Y = rI (jn 1) M') : ∃ M', (if c then X else Y) = rI (jn 1) M' := by
  by_cases h : c
  · rw [if_pos h]; exact h1 h
  · rw [if_neg h]; exact h2
def NxL (nS : Nat) (xs : Nat → Int32) (d i : Nat) : Prop := ∀ A M, AOk A → RX A M → RM A M → ∃ M', E_276 nS xs d (18, [some (.ref (88)), some (.ref 0), some (.ref 52), some (.int (jn (i + 6)))], [], M) = rI (jn 1) M'
section
variable {d nS i : Nat} {xs : Nat → Int32} {A : AT} {M : PM}
theorem fin_law (hi : NxL nS xs d i) : ∀ A2 M2, AOk A2 → RX A2 M2 → RM A2 M2 → ∃ M', E_276 nS xs d (1520, [some (.ref (88)), some (.ref 0), some (.ref 52), some (.int (jn i))], [], M2) = rI (jn 1) M' := by
  intro A2 M2 hA h h'
  rw [h_276_1520, jn_add]
  exact hi A2 M2 hA h h'
theorem slen : alen lay (some (nS, xs)) 88 = some (jn nS) := rfl
theorem slk {k : Nat} (hS : nS ≤ 3072) (hk : k < nS) : aldI lay (some (nS, xs)) M 88 (jn k) = some (xs k) := by
  have e : aldI lay (some (nS, xs)) M 88 (jn k) = if inb (jn k) nS then some (xs (jn k).toNatClampNeg) else none := rfl
  rw [e, inb_j hk (by omega), if_pos rfl, jn_clamp (by omega)]
theorem sl0 (hS : nS ≤ 3072) (hl : i + 6 ≤ nS) : aldI lay (some (nS, xs)) M 88 (jn i) = some (xs i) := slk hS (by omega)
theorem sl1 (hS : nS ≤ 3072) (hl : i + 6 ≤ nS) : aldI lay (some (nS, xs)) M 88 (jn i + jn 1) = some (xs (i + 1)) := by rw [jn_add]; exact slk hS (by omega)
theorem sl2 (hS : nS ≤ 3072) (hl : i + 6 ≤ nS) : aldI lay (some (nS, xs)) M 88 (jn i + jn 2) = some (xs (i + 2)) := by rw [jn_add]; exact slk hS (by omega)
theorem sl3 (hS : nS ≤ 3072) (hl : i + 6 ≤ nS) : aldI lay (some (nS, xs)) M 88 (jn i + jn 3) = some (xs (i + 3)) := by rw [jn_add]; exact slk hS (by omega)
theorem sl4 (hS : nS ≤ 3072) (hl : i + 6 ≤ nS) : aldI lay (some (nS, xs)) M 88 (jn i + jn 4) = some (xs (i + 4)) := by rw [jn_add]; exact slk hS (by omega)
theorem sl5 (hS : nS ≤ 3072) (hl : i + 6 ≤ nS) : aldI lay (some (nS, xs)) M 88 (jn i + jn 5) = some (xs (i + 5)) := by rw [jn_add]; exact slk hS (by omega)
theorem lc_200 (hd : 1910 ≤ d) (hS : nS ≤ 3072) (hl : i + 6 ≤ nS) (hi : NxL nS xs d i) (hA : AOk A) (h : RX A M) (h' : RM A M) : ∃ M', E_276 nS xs d (200, [some (.ref (88)), some (.ref 0), some (.ref 52), some (.int (jn i))], [], M) = rI (jn 1) M' := by
  rw [h_276_200]
  simp only [sl1 hS hl, sl2 hS hl, sl3 hS hl, sl4 hS hl, sl5 hS hl, oB_s]
  exact twoI (x_row (by omega) hA h) (fun M1 h1 => m_row (by omega) hA h1) h' (k_row hA) (fin_law hi)
theorem lc_243 (hd : 1910 ≤ d) (hS : nS ≤ 3072) (hl : i + 6 ≤ nS) (hi : NxL nS xs d i) (hA : AOk A) (h : RX A M) (h' : RM A M) : ∃ M', E_276 nS xs d (243, [some (.ref (88)), some (.ref 0), some (.ref 52), some (.int (jn i))], [], M) = rI (jn 1) M' := by
  rw [h_276_243]
  simp only [sl1 hS hl, sl2 hS hl, sl3 hS hl, sl4 hS hl, sl5 hS hl, oB_s]
  exact twoI (x_set (by omega) hA h) (fun M1 h1 => m_set (by omega) hA h1) h' (k_set hA) (fin_law hi)
theorem lc_316 (hd : 1910 ≤ d) (hS : nS ≤ 3072) (hl : i + 6 ≤ nS) (hi : NxL nS xs d i) (hA : AOk A) (h : RX A M) (h' : RM A M) : ∃ M', E_276 nS xs d (316, [some (.ref (88)), some (.ref 0), some (.ref 52), some (.int (jn i))], [], M) = rI (jn 1) M' := by
  rw [h_276_316]
  simp only [sl1 hS hl, sl2 hS hl, sl3 hS hl, sl4 hS hl, sl5 hS hl, oB_s]
  exact twoI (x_copy (by omega) hA h) (fun M1 h1 => m_copy (by omega) hA h1) h' (k_copy hA) (fin_law hi)
theorem lc_379 (hd : 1910 ≤ d) (hS : nS ≤ 3072) (hl : i + 6 ≤ nS) (hi : NxL nS xs d i) (hA : AOk A) (h : RX A M) (h' : RM A M) : ∃ M', E_276 nS xs d (379, [some (.ref (88)), some (.ref 0), some (.ref 52), some (.int (jn i))], [], M) = rI (jn 1) M' := by
  rw [h_276_379]
  simp only [sl1 hS hl, sl2 hS hl, sl3 hS hl, sl4 hS hl, sl5 hS hl, oB_s]
  exact twoL (x_element (by omega) hA h) (fun M1 h1 => m_element (by omega) hA h1) h' (by unfold F_element; (repeat' split) <;> exact hA) (fin_law hi)
theorem lc_413 (hd : 1910 ≤ d) (hS : nS ≤ 3072) (hl : i + 6 ≤ nS) (hi : NxL nS xs d i) (hA : AOk A) (h : RX A M) (h' : RM A M) : ∃ M', E_276 nS xs d (413, [some (.ref (88)), some (.ref 0), some (.ref 52), some (.int (jn i))], [], M) = rI (jn 1) M' := by
  rw [h_276_413]
  simp only [sl1 hS hl, sl2 hS hl, sl3 hS hl, sl4 hS hl, sl5 hS hl, oB_s]
  exact twoI (x_show (by omega) hA h) (fun M1 h1 => m_show (by omega) hA h1) h' (k_show hA) (fin_law hi)
theorem lc_446 (hd : 1910 ≤ d) (hS : nS ≤ 3072) (hl : i + 6 ≤ nS) (hi : NxL nS xs d i) (hA : AOk A) (h : RX A M) (h' : RM A M) : ∃ M', E_276 nS xs d (446, [some (.ref (88)), some (.ref 0), some (.ref 52), some (.int (jn i))], [], M) = rI (jn 1) M' := by
  rw [h_276_446]
  simp only [sl1 hS hl, sl2 hS hl, sl3 hS hl, sl4 hS hl, sl5 hS hl, oB_s]
  exact twoI (x_holds (by omega) h) (fun M1 h1 => m_holds (by omega) h1) h' (by unfold F_holds; (repeat' split) <;> exact hA) (fin_law hi)
theorem lc_469 (hd : 1910 ≤ d) (hS : nS ≤ 3072) (hl : i + 6 ≤ nS) (hi : NxL nS xs d i) (hA : AOk A) (h : RX A M) (h' : RM A M) : ∃ M', E_276 nS xs d (469, [some (.ref (88)), some (.ref 0), some (.ref 52), some (.int (jn i))], [], M) = rI (jn 1) M' := by
  rw [h_276_469]
  simp only [sl1 hS hl, sl2 hS hl, sl3 hS hl, sl4 hS hl, sl5 hS hl, oB_s]
  exact twoI (x_says (by omega) hA h) (fun M1 h1 => m_says (by omega) hA h1) h' (k_says hA) (fin_law hi)
theorem lc_502 (hd : 1910 ≤ d) (hS : nS ≤ 3072) (hl : i + 6 ≤ nS) (hi : NxL nS xs d i) (hA : AOk A) (h : RX A M) (h' : RM A M) : ∃ M', E_276 nS xs d (502, [some (.ref (88)), some (.ref 0), some (.ref 52), some (.int (jn i))], [], M) = rI (jn 1) M' := by
  rw [h_276_502]
  simp only [sl1 hS hl, sl2 hS hl, sl3 hS hl, sl4 hS hl, sl5 hS hl, oB_s]
  exact twoI (x_term (by omega) hA h) (fun M1 h1 => m_term (by omega) hA h1) h' (k_term hA) (fin_law hi)
theorem lc_525 (hd : 1910 ≤ d) (hS : nS ≤ 3072) (hl : i + 6 ≤ nS) (hi : NxL nS xs d i) (hA : AOk A) (h : RX A M) (h' : RM A M) : ∃ M', E_276 nS xs d (525, [some (.ref (88)), some (.ref 0), some (.ref 52), some (.int (jn i))], [], M) = rI (jn 1) M' := by
  rw [h_276_525]
  exact twoI (x_fault (by omega) h) (fun M1 h1 => m_fault (by omega) h1) h' (by unfold F_fault; (repeat' split) <;> exact hA) (fin_law hi)
theorem lc_538 (hd : 1910 ≤ d) (hS : nS ≤ 3072) (hl : i + 6 ≤ nS) (hi : NxL nS xs d i) (hA : AOk A) (h : RX A M) (h' : RM A M) : ∃ M', E_276 nS xs d (538, [some (.ref (88)), some (.ref 0), some (.ref 52), some (.int (jn i))], [], M) = rI (jn 1) M' := by
  rw [h_276_538]
  exact twoI (x_drop (by omega) hA h) (fun M1 h1 => m_drop (by omega) hA h1) h' (k_drop hA) (fin_law hi)
theorem lc_551 (hd : 1910 ≤ d) (hS : nS ≤ 3072) (hl : i + 6 ≤ nS) (hi : NxL nS xs d i) (hA : AOk A) (h : RX A M) (h' : RM A M) : ∃ M', E_276 nS xs d (551, [some (.ref (88)), some (.ref 0), some (.ref 52), some (.int (jn i))], [], M) = rI (jn 1) M' := by
  rw [h_276_551]
  simp only [sl1 hS hl, sl2 hS hl, sl3 hS hl, sl4 hS hl, sl5 hS hl, oB_s]
  by_cases e : xs (i + 2) = jn 0
  · simp only [if_pos e]
    exact twoI (x_commute (by omega) hA h) (fun M1 h1 => m_commute (by omega) hA h1) h' (k_commute hA) (fin_law hi)
  · simp only [if_neg e]
    exact twoI (x_commute (by omega) hA h) (fun M1 h1 => m_commute (by omega) hA h1) h' (k_commute hA) (fin_law hi)
theorem lc_600 (hd : 1910 ≤ d) (hS : nS ≤ 3072) (hl : i + 6 ≤ nS) (hi : NxL nS xs d i) (hA : AOk A) (h : RX A M) (h' : RM A M) : ∃ M', E_276 nS xs d (600, [some (.ref (88)), some (.ref 0), some (.ref 52), some (.int (jn i))], [], M) = rI (jn 1) M' := by
  rw [h_276_600]
  simp only [sl1 hS hl, sl2 hS hl, sl3 hS hl, sl4 hS hl, sl5 hS hl, oB_s]
  exact twoI (x_node (by omega) hA h) (fun M1 h1 => m_node (by omega) hA h1) h' (k_node hA) (fin_law hi)
theorem lc_633 (hd : 1910 ≤ d) (hS : nS ≤ 3072) (hl : i + 6 ≤ nS) (hi : NxL nS xs d i) (hA : AOk A) (h : RX A M) (h' : RM A M) : ∃ M', E_276 nS xs d (633, [some (.ref (88)), some (.ref 0), some (.ref 52), some (.int (jn i))], [], M) = rI (jn 1) M' := by
  rw [h_276_633]
  simp only [sl1 hS hl, sl2 hS hl, sl3 hS hl, sl4 hS hl, sl5 hS hl, oB_s]
  exact twoI (x_termOf (by omega) hA h) (fun M1 h1 => m_termOf (by omega) hA h1) h' (by unfold F_termOf; (repeat' split) <;> exact hA) (fin_law hi)
theorem lc_666 (hd : 1910 ≤ d) (hS : nS ≤ 3072) (hl : i + 6 ≤ nS) (hi : NxL nS xs d i) (hA : AOk A) (h : RX A M) (h' : RM A M) : ∃ M', E_276 nS xs d (666, [some (.ref (88)), some (.ref 0), some (.ref 52), some (.int (jn i))], [], M) = rI (jn 1) M' := by
  rw [h_276_666]
  simp only [sl1 hS hl, sl2 hS hl, sl3 hS hl, sl4 hS hl, sl5 hS hl, oB_s]
  exact twoL (x_path (by omega) hA h) (fun M1 h1 => m_path (by omega) hA h1) h' (by unfold F_path; (repeat' split) <;> exact hA) (fin_law hi)
theorem lc_700 (hd : 1910 ≤ d) (hS : nS ≤ 3072) (hl : i + 6 ≤ nS) (hi : NxL nS xs d i) (hA : AOk A) (h : RX A M) (h' : RM A M) : ∃ M', E_276 nS xs d (700, [some (.ref (88)), some (.ref 0), some (.ref 52), some (.int (jn i))], [], M) = rI (jn 1) M' := by
  rw [h_276_700]
  simp only [sl1 hS hl, sl2 hS hl, sl3 hS hl, sl4 hS hl, sl5 hS hl, oB_s]
  exact twoI (x_same (by omega) hA h) (fun M1 h1 => m_same (by omega) hA h1) h' (by unfold F_same; (repeat' split) <;> exact hA) (fin_law hi)
theorem lc_733 (hd : 1910 ≤ d) (hS : nS ≤ 3072) (hl : i + 6 ≤ nS) (hi : NxL nS xs d i) (hA : AOk A) (h : RX A M) (h' : RM A M) : ∃ M', E_276 nS xs d (733, [some (.ref (88)), some (.ref 0), some (.ref 52), some (.int (jn i))], [], M) = rI (jn 1) M' := by
  rw [h_276_733]
  simp only [sl1 hS hl, sl2 hS hl, sl3 hS hl, sl4 hS hl, sl5 hS hl, oB_s]
  exact twoI (x_rule (by omega) hA h) (fun M1 h1 => m_rule (by omega) hA h1) h' (k_rule hA) (fin_law hi)
theorem lc_766 (hd : 1910 ≤ d) (hS : nS ≤ 3072) (hl : i + 6 ≤ nS) (hi : NxL nS xs d i) (hA : AOk A) (h : RX A M) (h' : RM A M) : ∃ M', E_276 nS xs d (766, [some (.ref (88)), some (.ref 0), some (.ref 52), some (.int (jn i))], [], M) = rI (jn 1) M' := by
  rw [h_276_766]
  simp only [sl1 hS hl, sl2 hS hl, sl3 hS hl, sl4 hS hl, sl5 hS hl, oB_s]
  by_cases e : xs (i + 2) = jn 0
  · simp only [if_pos e]
    exact twoI (x_ruleOf (by omega) hA h) (fun M1 h1 => m_ruleOf (by omega) hA h1) h' (k_ruleOf hA) (fin_law hi)
  · simp only [if_neg e]
    exact twoI (x_ruleOf (by omega) hA h) (fun M1 h1 => m_ruleOf (by omega) hA h1) h' (k_ruleOf hA) (fin_law hi)
theorem lc_825 (hd : 1910 ≤ d) (hS : nS ≤ 3072) (hl : i + 6 ≤ nS) (hi : NxL nS xs d i) (hA : AOk A) (h : RX A M) (h' : RM A M) : ∃ M', E_276 nS xs d (825, [some (.ref (88)), some (.ref 0), some (.ref 52), some (.int (jn i))], [], M) = rI (jn 1) M' := by
  rw [h_276_825]
  simp only [sl1 hS hl, sl2 hS hl, sl3 hS hl, sl4 hS hl, sl5 hS hl, oB_s]
  exact twoI (x_bound (by omega) hA h) (fun M1 h1 => m_bound (by omega) hA h1) h' (by unfold F_bound; (repeat' split) <;> exact hA) (fin_law hi)
theorem lc_878 (hd : 1910 ≤ d) (hS : nS ≤ 3072) (hl : i + 6 ≤ nS) (hi : NxL nS xs d i) (hA : AOk A) (h : RX A M) (h' : RM A M) : ∃ M', E_276 nS xs d (878, [some (.ref (88)), some (.ref 0), some (.ref 52), some (.int (jn i))], [], M) = rI (jn 1) M' := by
  rw [h_276_878]
  simp only [sl1 hS hl, sl2 hS hl, sl3 hS hl, sl4 hS hl, sl5 hS hl, oB_s]
  exact twoI (x_fits (by omega) hA h) (fun M1 h1 => m_fits (by omega) hA h1) h' (by unfold F_fits; (repeat' split) <;> exact hA) (fin_law hi)
theorem lc_921 (hd : 1910 ≤ d) (hS : nS ≤ 3072) (hl : i + 6 ≤ nS) (hi : NxL nS xs d i) (hA : AOk A) (h : RX A M) (h' : RM A M) : ∃ M', E_276 nS xs d (921, [some (.ref (88)), some (.ref 0), some (.ref 52), some (.int (jn i))], [], M) = rI (jn 1) M' := by
  rw [h_276_921]
  simp only [sl1 hS hl, sl2 hS hl, sl3 hS hl, sl4 hS hl, sl5 hS hl, oB_s]
  exact twoL (x_redexes (by omega) hA h) (fun M1 h1 => m_redexes (by omega) hA h1) h' (by unfold F_redexes; (repeat' split) <;> exact hA) (fin_law hi)
theorem lc_945 (hd : 1910 ≤ d) (hS : nS ≤ 3072) (hl : i + 6 ≤ nS) (hi : NxL nS xs d i) (hA : AOk A) (h : RX A M) (h' : RM A M) : ∃ M', E_276 nS xs d (945, [some (.ref (88)), some (.ref 0), some (.ref 52), some (.int (jn i))], [], M) = rI (jn 1) M' := by
  rw [h_276_945]
  simp only [sl1 hS hl, sl2 hS hl, sl3 hS hl, sl4 hS hl, sl5 hS hl, oB_s]
  exact twoI (x_rewrite (by omega) hA h) (fun M1 h1 => m_rewrite (by omega) hA h1) h' (k_rewrite hA) (fin_law hi)
theorem lc_988 (hd : 1910 ≤ d) (hS : nS ≤ 3072) (hl : i + 6 ≤ nS) (hi : NxL nS xs d i) (hA : AOk A) (h : RX A M) (h' : RM A M) : ∃ M', E_276 nS xs d (988, [some (.ref (88)), some (.ref 0), some (.ref 52), some (.int (jn i))], [], M) = rI (jn 1) M' := by
  rw [h_276_988]
  simp only [sl1 hS hl, sl2 hS hl, sl3 hS hl, sl4 hS hl, sl5 hS hl, oB_s]
  exact twoI (x_strategy (by omega) hA h) (fun M1 h1 => m_strategy (by omega) hA h1) h' (k_strategy hA) (fin_law hi)
theorem lc_1031 (hd : 1910 ≤ d) (hS : nS ≤ 3072) (hl : i + 6 ≤ nS) (hi : NxL nS xs d i) (hA : AOk A) (h : RX A M) (h' : RM A M) : ∃ M', E_276 nS xs d (1031, [some (.ref (88)), some (.ref 0), some (.ref 52), some (.int (jn i))], [], M) = rI (jn 1) M' := by
  rw [h_276_1031]
  simp only [sl1 hS hl, sl2 hS hl, sl3 hS hl, sl4 hS hl, sl5 hS hl, oB_s]
  exact twoI (x_strategyOf (by omega) hA h) (fun M1 h1 => m_strategyOf (by omega) hA h1) h' (k_strategyOf hA) (fin_law hi)
theorem lc_1064 (hd : 1910 ≤ d) (hS : nS ≤ 3072) (hl : i + 6 ≤ nS) (hi : NxL nS xs d i) (hA : AOk A) (h : RX A M) (h' : RM A M) : ∃ M', E_276 nS xs d (1064, [some (.ref (88)), some (.ref 0), some (.ref 52), some (.int (jn i))], [], M) = rI (jn 1) M' := by
  rw [h_276_1064]
  simp only [sl1 hS hl, sl2 hS hl, sl3 hS hl, sl4 hS hl, sl5 hS hl, oB_s]
  exact twoI (x_run (by omega) hA h) (fun M1 h1 => m_run (by omega) hA h1) h' (k_run hA) (fin_law hi)
theorem lc_1097 (hd : 1910 ≤ d) (hS : nS ≤ 3072) (hl : i + 6 ≤ nS) (hi : NxL nS xs d i) (hA : AOk A) (h : RX A M) (h' : RM A M) : ∃ M', E_276 nS xs d (1097, [some (.ref (88)), some (.ref 0), some (.ref 52), some (.int (jn i))], [], M) = rI (jn 1) M' := by
  rw [h_276_1097]
  simp only [sl1 hS hl, sl2 hS hl, sl3 hS hl, sl4 hS hl, sl5 hS hl, oB_s]
  exact twoI (x_trial (by omega) hA h) (fun M1 h1 => m_trial (by omega) hA h1) h' (by unfold F_trial; (repeat' split) <;> exact hA) (fin_law hi)
theorem lc_1140 (hd : 1910 ≤ d) (hS : nS ≤ 3072) (hl : i + 6 ≤ nS) (hi : NxL nS xs d i) (hA : AOk A) (h : RX A M) (h' : RM A M) : ∃ M', E_276 nS xs d (1140, [some (.ref (88)), some (.ref 0), some (.ref 52), some (.int (jn i))], [], M) = rI (jn 1) M' := by
  rw [h_276_1140]
  simp only [sl1 hS hl, sl2 hS hl, sl3 hS hl, sl4 hS hl, sl5 hS hl, oB_s]
  exact twoI (x_trace (by omega) hA h) (fun M1 h1 => m_trace (by omega) hA h1) h' (by unfold F_trace; (repeat' split) <;> exact hA) (fin_law hi)
theorem lc_1163 (hd : 1910 ≤ d) (hS : nS ≤ 3072) (hl : i + 6 ≤ nS) (hi : NxL nS xs d i) (hA : AOk A) (h : RX A M) (h' : RM A M) : ∃ M', E_276 nS xs d (1163, [some (.ref (88)), some (.ref 0), some (.ref 52), some (.int (jn i))], [], M) = rI (jn 1) M' := by
  rw [h_276_1163]
  simp only [sl1 hS hl, sl2 hS hl, sl3 hS hl, sl4 hS hl, sl5 hS hl, oB_s]
  exact twoL (x_tracePath (by omega) hA h) (fun M1 h1 => m_tracePath (by omega) hA h1) h' (by unfold F_tracePath; (repeat' split) <;> exact hA) (fin_law hi)
theorem lc_1187 (hd : 1910 ≤ d) (hS : nS ≤ 3072) (hl : i + 6 ≤ nS) (hi : NxL nS xs d i) (hA : AOk A) (h : RX A M) (h' : RM A M) : ∃ M', E_276 nS xs d (1187, [some (.ref (88)), some (.ref 0), some (.ref 52), some (.int (jn i))], [], M) = rI (jn 1) M' := by
  rw [h_276_1187]
  simp only [sl1 hS hl, sl2 hS hl, sl3 hS hl, sl4 hS hl, sl5 hS hl, oB_s]
  exact twoI (x_replay (by omega) hA h) (fun M1 h1 => m_replay (by omega) hA h1) h' (k_replay hA) (fin_law hi)
theorem lc_1220 (hd : 1910 ≤ d) (hS : nS ≤ 3072) (hl : i + 6 ≤ nS) (hi : NxL nS xs d i) (hA : AOk A) (h : RX A M) (h' : RM A M) : ∃ M', E_276 nS xs d (1220, [some (.ref (88)), some (.ref 0), some (.ref 52), some (.int (jn i))], [], M) = rI (jn 1) M' := by
  rw [h_276_1220]
  simp only [sl1 hS hl, sl2 hS hl, sl3 hS hl, sl4 hS hl, sl5 hS hl, oB_s]
  exact twoI (x_unify (by omega) hA h) (fun M1 h1 => m_unify (by omega) hA h1) h' (k_unify hA) (fin_law hi)
theorem lc_1253 (hd : 1910 ≤ d) (hS : nS ≤ 3072) (hl : i + 6 ≤ nS) (hi : NxL nS xs d i) (hA : AOk A) (h : RX A M) (h' : RM A M) : ∃ M', E_276 nS xs d (1253, [some (.ref (88)), some (.ref 0), some (.ref 52), some (.int (jn i))], [], M) = rI (jn 1) M' := by
  rw [h_276_1253]
  simp only [sl1 hS hl, sl2 hS hl, sl3 hS hl, sl4 hS hl, sl5 hS hl, oB_s]
  exact twoI (x_overlaps (by omega) hA h) (fun M1 h1 => m_overlaps (by omega) hA h1) h' (k_overlaps hA) (fin_law hi)
theorem lc_1286 (hd : 1910 ≤ d) (hS : nS ≤ 3072) (hl : i + 6 ≤ nS) (hi : NxL nS xs d i) (hA : AOk A) (h : RX A M) (h' : RM A M) : ∃ M', E_276 nS xs d (1286, [some (.ref (88)), some (.ref 0), some (.ref 52), some (.int (jn i))], [], M) = rI (jn 1) M' := by
  rw [h_276_1286]
  simp only [sl1 hS hl, sl2 hS hl, sl3 hS hl, sl4 hS hl, sl5 hS hl, oB_s]
  exact twoI (x_overlap (by omega) hA h) (fun M1 h1 => m_overlap (by omega) hA h1) h' (k_overlap hA) (fin_law hi)
theorem lc_1339 (hd : 1910 ≤ d) (hS : nS ≤ 3072) (hl : i + 6 ≤ nS) (hi : NxL nS xs d i) (hA : AOk A) (h : RX A M) (h' : RM A M) : ∃ M', E_276 nS xs d (1339, [some (.ref (88)), some (.ref 0), some (.ref 52), some (.int (jn i))], [], M) = rI (jn 1) M' := by
  rw [h_276_1339]
  simp only [sl1 hS hl, sl2 hS hl, sl3 hS hl, sl4 hS hl, sl5 hS hl, oB_s]
  exact twoI (x_meets (by omega) hA h) (fun M1 h1 => m_meets (by omega) hA h1) h' (k_meets hA) (fin_law hi)
theorem lc_1382 (hd : 1910 ≤ d) (hS : nS ≤ 3072) (hl : i + 6 ≤ nS) (hi : NxL nS xs d i) (hA : AOk A) (h : RX A M) (h' : RM A M) : ∃ M', E_276 nS xs d (1382, [some (.ref (88)), some (.ref 0), some (.ref 52), some (.int (jn i))], [], M) = rI (jn 1) M' := by
  rw [h_276_1382]
  simp only [sl1 hS hl, sl2 hS hl, sl3 hS hl, sl4 hS hl, sl5 hS hl, oB_s]
  exact twoI (x_judge (by omega) hA h) (fun M1 h1 => m_judge (by omega) hA h1) h' (k_judge hA) (fin_law hi)
theorem lc_1425 (hd : 1910 ≤ d) (hS : nS ≤ 3072) (hl : i + 6 ≤ nS) (hi : NxL nS xs d i) (hA : AOk A) (h : RX A M) (h' : RM A M) : ∃ M', E_276 nS xs d (1425, [some (.ref (88)), some (.ref 0), some (.ref 52), some (.int (jn i))], [], M) = rI (jn 1) M' := by
  rw [h_276_1425]
  simp only [sl1 hS hl, sl2 hS hl, sl3 hS hl, sl4 hS hl, sl5 hS hl, oB_s]
  exact twoI (x_days (by omega) hA h) (fun M1 h1 => m_days (by omega) hA h1) h' (k_days hA) (fin_law hi)
theorem lc_1448 (hd : 1910 ≤ d) (hS : nS ≤ 3072) (hl : i + 6 ≤ nS) (hi : NxL nS xs d i) (hA : AOk A) (h : RX A M) (h' : RM A M) : ∃ M', E_276 nS xs d (1448, [some (.ref (88)), some (.ref 0), some (.ref 52), some (.int (jn i))], [], M) = rI (jn 1) M' := by
  rw [h_276_1448]
  simp only [sl1 hS hl, sl2 hS hl, sl3 hS hl, sl4 hS hl, sl5 hS hl, oB_s]
  exact twoI (x_seed (by omega) h) (fun M1 h1 => m_seed (by omega) h1) h' (k_seed hA) (fin_law hi)
theorem lc_1471 (hd : 1910 ≤ d) (hS : nS ≤ 3072) (hl : i + 6 ≤ nS) (hi : NxL nS xs d i) (hA : AOk A) (h : RX A M) (h' : RM A M) : ∃ M', E_276 nS xs d (1471, [some (.ref (88)), some (.ref 0), some (.ref 52), some (.int (jn i))], [], M) = rI (jn 1) M' := by
  rw [h_276_1471]
  exact twoI (x_image (by omega) hA h) (fun M1 h1 => m_image (by omega) hA h1) h' (k_image hA) (fin_law hi)
theorem lc_1484 (hd : 1910 ≤ d) (hS : nS ≤ 3072) (hl : i + 6 ≤ nS) (hi : NxL nS xs d i) (hA : AOk A) (h : RX A M) (h' : RM A M) : ∃ M', E_276 nS xs d (1484, [some (.ref (88)), some (.ref 0), some (.ref 52), some (.int (jn i))], [], M) = rI (jn 1) M' := by
  rw [h_276_1484]
  exact twoI (x_restore (by omega) hA h) (fun M1 h1 => m_restore (by omega) hA h1) h' (k_restore hA) (fin_law hi)
theorem lc_1497 (hd : 1910 ≤ d) (hS : nS ≤ 3072) (hl : i + 6 ≤ nS) (hi : NxL nS xs d i) (hA : AOk A) (h : RX A M) (h' : RM A M) : ∃ M', E_276 nS xs d (1497, [some (.ref (88)), some (.ref 0), some (.ref 52), some (.int (jn i))], [], M) = rI (jn 1) M' := by
  rw [h_276_1497]
  simp only [sl1 hS hl, sl2 hS hl, sl3 hS hl, sl4 hS hl, sl5 hS hl, oB_s]
  exact twoI (x_status (by omega) hA h) (fun M1 h1 => m_status (by omega) hA h1) h' (by unfold F_status; (repeat' split) <;> exact hA) (fin_law hi)
theorem lc_head (hd : 1910 ≤ d) (hS : nS ≤ 3072) (hl : i + 6 ≤ nS) (hi : NxL nS xs d i) (hA : AOk A) (h : RX A M) (h' : RM A M) : ∃ M', E_276 nS xs d (18, [some (.ref (88)), some (.ref 0), some (.ref 52), some (.int (jn i))], [], M) = rI (jn 1) M' := by
  rw [h_276_18, slen, oB_s, jn_sub (by omega), ilt_neg (by omega) (by omega), sl0 hS hl, oB_s]
  refine ite_ex (fun _ => lc_200 hd hS hl hi hA h h') ?_
  refine ite_ex (fun _ => lc_243 hd hS hl hi hA h h') ?_
  refine ite_ex (fun _ => lc_316 hd hS hl hi hA h h') ?_
  refine ite_ex (fun _ => lc_379 hd hS hl hi hA h h') ?_
  refine ite_ex (fun _ => lc_413 hd hS hl hi hA h h') ?_
  refine ite_ex (fun _ => lc_446 hd hS hl hi hA h h') ?_
  refine ite_ex (fun _ => lc_469 hd hS hl hi hA h h') ?_
  refine ite_ex (fun _ => lc_502 hd hS hl hi hA h h') ?_
  refine ite_ex (fun _ => lc_525 hd hS hl hi hA h h') ?_
  refine ite_ex (fun _ => lc_538 hd hS hl hi hA h h') ?_
  refine ite_ex (fun _ => lc_551 hd hS hl hi hA h h') ?_
  refine ite_ex (fun _ => lc_600 hd hS hl hi hA h h') ?_
  refine ite_ex (fun _ => lc_633 hd hS hl hi hA h h') ?_
  refine ite_ex (fun _ => lc_666 hd hS hl hi hA h h') ?_
  refine ite_ex (fun _ => lc_700 hd hS hl hi hA h h') ?_
  refine ite_ex (fun _ => lc_733 hd hS hl hi hA h h') ?_
  refine ite_ex (fun _ => lc_766 hd hS hl hi hA h h') ?_
  refine ite_ex (fun _ => lc_825 hd hS hl hi hA h h') ?_
  refine ite_ex (fun _ => lc_878 hd hS hl hi hA h h') ?_
  refine ite_ex (fun _ => lc_921 hd hS hl hi hA h h') ?_
  refine ite_ex (fun _ => lc_945 hd hS hl hi hA h h') ?_
  refine ite_ex (fun _ => lc_988 hd hS hl hi hA h h') ?_
  refine ite_ex (fun _ => lc_1031 hd hS hl hi hA h h') ?_
  refine ite_ex (fun _ => lc_1064 hd hS hl hi hA h h') ?_
  refine ite_ex (fun _ => lc_1097 hd hS hl hi hA h h') ?_
  refine ite_ex (fun _ => lc_1140 hd hS hl hi hA h h') ?_
  refine ite_ex (fun _ => lc_1163 hd hS hl hi hA h h') ?_
  refine ite_ex (fun _ => lc_1187 hd hS hl hi hA h h') ?_
  refine ite_ex (fun _ => lc_1220 hd hS hl hi hA h h') ?_
  refine ite_ex (fun _ => lc_1253 hd hS hl hi hA h h') ?_
  refine ite_ex (fun _ => lc_1286 hd hS hl hi hA h h') ?_
  refine ite_ex (fun _ => lc_1339 hd hS hl hi hA h h') ?_
  refine ite_ex (fun _ => lc_1382 hd hS hl hi hA h h') ?_
  refine ite_ex (fun _ => lc_1425 hd hS hl hi hA h h') ?_
  refine ite_ex (fun _ => lc_1448 hd hS hl hi hA h h') ?_
  refine ite_ex (fun _ => lc_1471 hd hS hl hi hA h h') ?_
  refine ite_ex (fun _ => lc_1484 hd hS hl hi hA h h') ?_
  refine ite_ex (fun _ => lc_1497 hd hS hl hi hA h h') ?_
  exact fin_law hi _ _ hA h h'
/-- the whole loop -/
theorem law_loop (hd : 1910 ≤ d) (hS : nS ≤ 3072) : ∀ m i A M, i ≤ 4000 → nS < i + 6 + 6 * m → AOk A → RX A M → RM A M → ∃ M', E_276 nS xs d (18, [some (.ref (88)), some (.ref 0), some (.ref 52), some (.int (jn i))], [], M) = rI (jn 1) M' := by
  have stop : ∀ i M, nS < i + 6 → i ≤ 4000 → ∃ M', E_276 nS xs d (18, [some (.ref (88)), some (.ref 0), some (.ref 52), some (.int (jn i))], [], M) = rI (jn 1) M' := by
    intro i M hi hi2
    rw [h_276_18, slen, oB_s]
    by_cases h6 : 6 ≤ nS
    · rw [jn_sub h6, ilt_pos (by omega) (by omega), rZ_1]; exact ⟨M, rfl⟩
    · rw [jn_subz (by omega), if_pos (by rw [jz_lt_jn (by omega) (by omega)]; trivial), rZ_1]; exact ⟨M, rfl⟩
  intro m
  induction m with
  | zero =>
    intro i A M hb hi hA h h'
    exact stop i M (by omega) hb
  | succ m ih =>
    intro i A M hb hi hA h h'
    by_cases hl : i + 6 ≤ nS
    · exact lc_head hd hS hl (fun A2 M2 a b c => ih (i + 6) A2 M2 (by omega) (by omega) a b c) hA h h'
    · exact stop i M (by omega) hb
end
