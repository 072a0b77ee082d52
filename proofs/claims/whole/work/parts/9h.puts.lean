/-! the model's unifying: how many variables, what is pooled, what is written -/
def bcF (l0 : Int32) : Int32 := ((((((((l0 - ((l0.toUInt32 >>> ((jn 1).toUInt32 &&& Int32.toUInt32 31)).toInt32 &&& (jn 1431655765))) &&& (jn 858993459)) + (((l0 - ((l0.toUInt32 >>> ((jn 1).toUInt32 &&& Int32.toUInt32 31)).toInt32 &&& (jn 1431655765))).toUInt32 >>> ((jn 2).toUInt32 &&& Int32.toUInt32 31)).toInt32 &&& (jn 858993459))) + ((((l0 - ((l0.toUInt32 >>> ((jn 1).toUInt32 &&& Int32.toUInt32 31)).toInt32 &&& (jn 1431655765))) &&& (jn 858993459)) + (((l0 - ((l0.toUInt32 >>> ((jn 1).toUInt32 &&& Int32.toUInt32 31)).toInt32 &&& (jn 1431655765))).toUInt32 >>> ((jn 2).toUInt32 &&& Int32.toUInt32 31)).toInt32 &&& (jn 858993459))).toUInt32 >>> ((jn 4).toUInt32 &&& Int32.toUInt32 31)).toInt32) &&& (jn 252645135)) + ((((((l0 - ((l0.toUInt32 >>> ((jn 1).toUInt32 &&& Int32.toUInt32 31)).toInt32 &&& (jn 1431655765))) &&& (jn 858993459)) + (((l0 - ((l0.toUInt32 >>> ((jn 1).toUInt32 &&& Int32.toUInt32 31)).toInt32 &&& (jn 1431655765))).toUInt32 >>> ((jn 2).toUInt32 &&& Int32.toUInt32 31)).toInt32 &&& (jn 858993459))) + ((((l0 - ((l0.toUInt32 >>> ((jn 1).toUInt32 &&& Int32.toUInt32 31)).toInt32 &&& (jn 1431655765))) &&& (jn 858993459)) + (((l0 - ((l0.toUInt32 >>> ((jn 1).toUInt32 &&& Int32.toUInt32 31)).toInt32 &&& (jn 1431655765))).toUInt32 >>> ((jn 2).toUInt32 &&& Int32.toUInt32 31)).toInt32 &&& (jn 858993459))).toUInt32 >>> ((jn 4).toUInt32 &&& Int32.toUInt32 31)).toInt32) &&& (jn 252645135)).toUInt32 >>> ((jn 8).toUInt32 &&& Int32.toUInt32 31)).toInt32) + (((((((l0 - ((l0.toUInt32 >>> ((jn 1).toUInt32 &&& Int32.toUInt32 31)).toInt32 &&& (jn 1431655765))) &&& (jn 858993459)) + (((l0 - ((l0.toUInt32 >>> ((jn 1).toUInt32 &&& Int32.toUInt32 31)).toInt32 &&& (jn 1431655765))).toUInt32 >>> ((jn 2).toUInt32 &&& Int32.toUInt32 31)).toInt32 &&& (jn 858993459))) + ((((l0 - ((l0.toUInt32 >>> ((jn 1).toUInt32 &&& Int32.toUInt32 31)).toInt32 &&& (jn 1431655765))) &&& (jn 858993459)) + (((l0 - ((l0.toUInt32 >>> ((jn 1).toUInt32 &&& Int32.toUInt32 31)).toInt32 &&& (jn 1431655765))).toUInt32 >>> ((jn 2).toUInt32 &&& Int32.toUInt32 31)).toInt32 &&& (jn 858993459))).toUInt32 >>> ((jn 4).toUInt32 &&& Int32.toUInt32 31)).toInt32) &&& (jn 252645135)) + ((((((l0 - ((l0.toUInt32 >>> ((jn 1).toUInt32 &&& Int32.toUInt32 31)).toInt32 &&& (jn 1431655765))) &&& (jn 858993459)) + (((l0 - ((l0.toUInt32 >>> ((jn 1).toUInt32 &&& Int32.toUInt32 31)).toInt32 &&& (jn 1431655765))).toUInt32 >>> ((jn 2).toUInt32 &&& Int32.toUInt32 31)).toInt32 &&& (jn 858993459))) + ((((l0 - ((l0.toUInt32 >>> ((jn 1).toUInt32 &&& Int32.toUInt32 31)).toInt32 &&& (jn 1431655765))) &&& (jn 858993459)) + (((l0 - ((l0.toUInt32 >>> ((jn 1).toUInt32 &&& Int32.toUInt32 31)).toInt32 &&& (jn 1431655765))).toUInt32 >>> ((jn 2).toUInt32 &&& Int32.toUInt32 31)).toInt32 &&& (jn 858993459))).toUInt32 >>> ((jn 4).toUInt32 &&& Int32.toUInt32 31)).toInt32) &&& (jn 252645135)).toUInt32 >>> ((jn 8).toUInt32 &&& Int32.toUInt32 31)).toInt32).toUInt32 >>> ((jn 16).toUInt32 &&& Int32.toUInt32 31)).toInt32) &&& (jn 63))
theorem bc_all : ∀ k, k < 64 → bcF (jn k) = jn (cntP (fun i => k.testBit i) 6) := by decide +kernel
section
variable {d : Nat} {A : AT} {M M' : PM} {be : BT} {m : Nat → Tm} {ta : Nat → Nat} {s t u : Tm} {i j : Nat}
theorem c_bits (hd : 1 ≤ d) (l : List Int32) : pcl GG lay d 273 [.int (vb l)] M = rI (jn (nvr l)) M := by
  obtain ⟨d, rfl⟩ := ex_add hd
  obtain ⟨k, h1, h2, h3⟩ := vb_spec l
  rw [q_273]
  show rI (bcF (vb l)) M = _
  rw [h2, bc_all k h1]
  congr 2
  exact cntP_congr 6 (fun i hi => by
    have := h3 i hi
    by_cases e : k.testBit i = true
    · rw [e]; simp [this.mp e]
    · have e2 : k.testBit i = false := by simpa using e
      rw [e2]
      have : jn (117 + i) ∉ l := fun z => e (this.mpr z)
      simp [this])
theorem m_unb (hd : 1 ≤ d) : ∃ M', pcl GG lay d 158 [.ref 52] M = rV M' ∧ Fr [52, 76, 77] M M' ∧ (∀ v, v < 12 → M'.1 76 v = jz 1 ∧ M'.1 77 v = jz 1) ∧ M'.1 52 = va_up (M.1 52) 41 (jn 0) := by
  obtain ⟨d, rfl⟩ := ex_add hd
  rw [q_158]
  have key : ∀ n k M1, k + n = 12 → Fr [76, 77] M M1 → (∀ v, v < k → M1.1 76 v = jz 1 ∧ M1.1 77 v = jz 1) → ∃ M', E_158 d (2, [some (.ref 52), some (.int (jn k))], [], M1) = rV M' ∧ Fr [52, 76, 77] M M' ∧ (∀ v, v < 12 → M'.1 76 v = jz 1 ∧ M'.1 77 v = jz 1) ∧ M'.1 52 = va_up (M.1 52) 41 (jn 0) := by
    intro n
    induction n with
    | zero =>
      intro k M1 hk hf h
      rw [h_158_2, ilt_neg (by omega) (by omega), wr_e]
      refine ⟨_, rfl, (hf.mono (by decide)).trans (Fr.sI (by decide)), fun v hv => h v (by omega), by rw [sI_k, hf.1 52 (by decide)]⟩
    | succ n ih =>
      intro k M1 hk hf h
      rw [h_158_2, ilt_pos (by omega) (by omega), ast_n (n := 12) rfl (by omega) (by omega), oB_s, ast_n (n := 12) rfl (by omega) (by omega), oB_s, jn_add]
      refine ih (k + 1) _ (by omega) ((hf.trans (Fr.sI (by decide))).trans (Fr.sI (by decide))) (fun v hv => ?_)
      show va_up (M1.1 76) k (jz 1) v = _ ∧ va_up (M1.1 77) k (jz 1) v = _
      rw [up_at, up_at]
      by_cases e : v = k
      · rw [if_pos e, if_pos e]; exact ⟨rfl, rfl⟩
      · rw [if_neg e, if_neg e]; exact h v (by omega)
  exact key 12 0 M (by omega) Fr.rf (fun v hv => by omega)
/-- signs come to the pool -/
theorem m_pool {x nx at0 st : Nat} {ap0 : Bool} (hd : 4 ≤ d) (hx : lay[x]? = some (.inr (false, nx))) (hnx : nx < 1000000) (hx75 : x ≠ 75) (hat : At (M.1 x) st (en t)) (hst : st + sz t ≤ nx) (h160 : at0 + sz t ≤ 160) :
    ∃ M', pcl GG lay d 157 [.ref 52, .int (jn at0), .ref x, .int (jn st), .int (jn (sz t)), .int (jn (if ap0 = true then 1 else 0))] M = rV M' ∧ Fr [75] M M' ∧ At (M'.1 75) at0 (en (if ap0 = true then apt t else t)) ∧ ∀ j, (j < at0 ∨ at0 + sz t ≤ j) → M'.1 75 j = M.1 75 j := by
  obtain ⟨d, rfl⟩ := ex_add hd
  rw [q_157]
  have hn : ∀ k, k < sz t → M.1 x (st + k) = sgn t k := fun k hk => sgn_at hat hk
  have he : ∀ k, k < sz t → (en (if ap0 = true then apt t else t))[k]? = some (if ap0 = true then apc (M.1 x (st + k)) else M.1 x (st + k)) := by
    intro k hk
    rw [At_sz] at hat
    have := hat k hk
    cases ap0 with
    | false => simpa using this
    | true => simp only [if_true]; rw [apt_en, List.getElem?_map, this]; rfl
  have hz : sz (if ap0 = true then apt t else t) = sz t := by
    cases ap0 with
    | false => rfl
    | true => simp only [if_true]; exact apt_sz t
  have key : ∀ n k g, k + n = sz t → (∀ j, (j < at0 ∨ at0 + sz t ≤ j) → g j = M.1 75 j) → (∀ j, j < k → g (at0 + j) = if ap0 = true then apc (M.1 x (st + j)) else M.1 x (st + j)) → ∃ g', E_157 (d + 3) (3, [some (.ref 52), some (.int (jn at0)), some (.ref x), some (.int (jn st)), some (.int (jn (sz t))), some (.int (jn (if ap0 = true then 1 else 0))), some (.int (jn k))], [], sI M 75 g) = rV (sI M 75 g') ∧ (∀ j, (j < at0 ∨ at0 + sz t ≤ j) → g' j = M.1 75 j) ∧ ∀ j, j < sz t → g' (at0 + j) = if ap0 = true then apc (M.1 x (st + j)) else M.1 x (st + j) := by
    intro n
    induction n with
    | zero =>
      intro k g hk h1 h2
      rw [h_157_3, ilt_neg (by omega) (by omega)]
      exact ⟨g, rfl, h1, fun j hj => h2 j (by omega)⟩
    | succ n ih =>
      intro k g hk h1 h2
      have ex : (sI M 75 g).1 x = M.1 x := sI_o _ _ hx75
      have up : ∀ c, (if ap0 = true then apc (M.1 x (st + k)) else M.1 x (st + k)) = c → ∃ g', E_157 (d + 3) (3, [some (.ref 52), some (.int (jn at0)), some (.ref x), some (.int (jn st)), some (.int (jn (sz t))), some (.int (jn (if ap0 = true then 1 else 0))), some (.int (jn (k + 1)))], [], sI M 75 (va_up g (at0 + k) c)) = rV (sI M 75 g') ∧ (∀ j, (j < at0 ∨ at0 + sz t ≤ j) → g' j = M.1 75 j) ∧ ∀ j, j < sz t → g' (at0 + j) = if ap0 = true then apc (M.1 x (st + j)) else M.1 x (st + j) := by
        intro c hc
        refine ih (k + 1) _ (by omega) (fun j hj => ?_) (fun j hj => ?_)
        · rw [up_at, if_neg (by omega)]; exact h1 j hj
        · rw [up_at]
          by_cases e : j = k
          · rw [if_pos (by omega), e, hc]
          · rw [if_neg (by omega)]; exact h2 j (by omega)
      rw [h_157_3, ilt_pos (by omega) (by omega), jn_add, ald_n hx (by omega) (by omega), oB_s, ex]
      cases ap0 with
      | false =>
        simp only [Bool.false_eq_true, if_false] at up ⊢
        rw [if_pos trivial, jn_add, ast_n (n := 160) rfl (by omega) (by omega), oB_s, sI_sI, sI_k, show M.1 x (st + k) - jn 0 = M.1 x (st + k) by rw [J0]; exact Int32.sub_zero _, jn_add]
        exact up _ rfl
      | true =>
        simp only [if_true] at up ⊢
        rw [ieq_neg (by omega) (by omega) (by omega), oB_s, c_isVm (by omega), kI_r, jn_add]
        by_cases hv : isV (M.1 x (st + k))
        · rw [bI_1 hv, ieq_neg (by omega) (by omega) (by omega), ast_n (n := 160) rfl (by omega) (by omega), oB_s, sI_sI, sI_k, jn_add]
          exact up _ (by unfold apc; rw [if_pos hv])
        · rw [bI_n hv, ieq_pos rfl, ast_n (n := 160) rfl (by omega) (by omega), oB_s, sI_sI, sI_k, show M.1 x (st + k) - jn 0 = M.1 x (st + k) by rw [J0]; exact Int32.sub_zero _, jn_add]
          exact up _ (by unfold apc; rw [if_neg hv])
  obtain ⟨g', e1, e2, e3⟩ := key (sz t) 0 (M.1 75) (by omega) (fun _ _ => rfl) (fun j hj => by omega)
  rw [sI_self] at e1
  refine ⟨sI M 75 g', e1, Fr.sI (by decide), ?_, fun j hj => by rw [sI_k]; exact e2 j hj⟩
  rw [sI_k, At_iff]
  intro k hk
  have hk' : k < sz t := by rw [← hz]; exact hk
  rw [he k hk', e3 k hk']
/-- names given -/
def NM (nm : List Int32) (M : PM) : Prop := (∀ v, v < 12 → M.1 77 v = if vcd v ∈ nm then jn (nm.idxOf (vcd v)) else jz 1) ∧ M.1 52 41 = jn nm.length ∧ nm.Nodup ∧ ∀ c ∈ nm, vE c
theorem idx_snoc {nm : List Int32} {c : Int32} (h : c ∉ nm) : (nm ++ [c]).idxOf c = nm.length := by
  rw [List.idxOf_append]
  rw [if_neg h]
  simp
theorem idx_snoc2 {nm : List Int32} {c x : Int32} (h : x ∈ nm) : (nm ++ [c]).idxOf x = nm.idxOf x := by
  rw [List.idxOf_append, if_pos h]
end
