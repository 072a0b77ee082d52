/-! the model's unifying: the pool, what variables stand for -/
abbrev sgE (c : Int32) : Prop := is0E c ∨ is1 c ∨ is2 c
theorem arN_E {c : Int32} (h : vE c) : arN c = 0 := by unfold arN; rw [if_neg (by omega), if_neg (by omega)]
theorem pre_loopE {f : Nat → Int32} {B : Nat} {G : Nat → Nat → Prop} (hs : ∀ i o, i < B → sgE (f i) → G i (o + 1) → G (i + 1) (o + arN (f i))) : ∀ t, wfE t → ∀ i o, At f i (en t) → i + sz t ≤ B → G i (o + 1) → G (i + sz t) o := by
  refine wfE_ind (fun c hc => ?_) (fun c a hc ha iha => ?_) (fun c a b hc ha hb iha ihb => ?_)
  · intro i o hA hi hG
    rw [sz_0] at *
    have h := hs i o (by omega) (by rw [hA.1]; exact Or.inl hc) hG
    have e : arN c = 0 := by unfold arN; rw [if_neg (by omega), if_neg (by omega)]
    rw [hA.1, e] at h
    exact h
  · intro i o hA hi hG
    rw [sz_1] at *
    rw [en_1] at hA
    have h := hs i o (by omega) (by rw [hA.1]; exact Or.inr (Or.inl hc)) hG
    rw [hA.1, arN_1 hc] at h
    have := iha (i + 1) o hA.2 (by omega) h
    rwa [show i + 1 + sz a = i + (sz a + 1) by omega] at this
  · intro i o hA hi hG
    rw [sz_2] at *
    rw [en_2] at hA
    obtain ⟨h1, h2, h3⟩ : _ ∧ _ ∧ _ := ⟨hA.1, (At_app _ _ _).mp hA.2⟩
    have h := hs i o (by omega) (by rw [h1]; exact Or.inr (Or.inr hc)) hG
    rw [h1, arN_2 hc] at h
    have h4 := iha (i + 1) (o + 1) h2 (by omega) h
    have := ihb (i + 1 + sz a) o h3 (by omega) h4
    rwa [show i + 1 + sz a + sz b = i + (sz a + sz b + 1) by omega] at this
section
variable {d : Nat} {A : AT} {M M' : PM} {c : Int32} {t u : Tm} {i : Nat}
theorem c_free (hd : 3 ≤ d) (hc : sgE c) : pcl GG lay d 149 [.int c] M = rI (bI (vE c)) M := by
  obtain ⟨d, rfl⟩ := ex_add hd
  have h32 : (c + jn 32).toInt = c.toInt + 32 := by
    obtain ⟨n, hn, rfl⟩ := inn (a := c) (n := 123) (by omega)
    rw [jn_add, jn_toInt (by omega), jn_toInt (by omega)]; omega
  rw [q_149, c_isVm (by omega), kI_r]
  by_cases h1 : isV c
  · rw [bI_1 h1, ieq_neg (by omega) (by omega) (by omega), rZ_1, bI_1 (Or.inl h1)]
  · rw [bI_n h1, ieq_pos rfl, c_isVm (by omega), kI_r]
    by_cases h2 : isV (c + jn 32)
    · have h2' : 117 ≤ (c + jn 32).toInt ∧ (c + jn 32).toInt ≤ 122 := h2
      rw [h32] at h2'
      rw [bI_1 h2, ieq_neg (by omega) (by omega) (by omega), rZ_1, bI_1 (show vE c by omega)]
    · have h2' : ¬ (117 ≤ (c + jn 32).toInt ∧ (c + jn 32).toInt ≤ 122) := h2
      rw [h32] at h2'
      rw [bI_n h2, ieq_pos rfl, rZ_0, bI_n (show ¬ vE c by omega)]
theorem c_num (hd : 1 ≤ d) (hc : vE c) : pcl GG lay d 150 [.int c] M = rI (jn (vn c)) M := by
  obtain ⟨d, rfl⟩ := ex_add hd
  obtain ⟨n, hn, rfl⟩ := inn (a := c) (n := 123) (by omega)
  have hc' : 117 ≤ (jn n).toInt ∧ (jn n).toInt ≤ 122 ∨ 85 ≤ (jn n).toInt ∧ (jn n).toInt ≤ 90 := hc
  unfold vn
  rw [jn_toInt (by omega)] at hc' ⊢
  rw [q_150]
  rcases hc' with h | h
  · rw [ilt_neg (by omega) (by omega), jn_sub (by omega), if_pos (by omega)]
    congr 2; omega
  · rw [ilt_pos (by omega) (by omega), jn_add, jn_sub (by omega), jn_add, if_neg (by omega)]
    congr 2; omega
theorem c_wide (hd : 4 ≤ d) (hc : sgE c) : pcl GG lay d 151 [.int c] M = rI (jn (arN c)) M := by
  obtain ⟨d, rfl⟩ := ex_add hd
  rw [q_151, c_free (by omega) hc, kI_r]
  by_cases h : vE c
  · rw [bI_1 h, ieq_neg (by omega) (by omega) (by omega), arN_E h]
  · rw [bI_n h, ieq_pos rfl, c_aritym (by omega), kI_r]
    rcases hc with h1 | h1 | h1
    · rw [arR_0 (by omega)]; unfold arN; rw [if_neg (by omega), if_neg (by omega)]
    · rw [arR_1 h1, arN_1 h1]
    · rw [arR_2 h1, arN_2 h1]
/-- a tree in the pool -/
def PT (M : PM) (i : Nat) (t : Tm) : Prop := (wfE t ∧ sz t ≤ 40) ∧ i + sz t ≤ 160 ∧ At (M.1 75) i (en t)
theorem PT.eq (h : PT M i t) (h75 : M'.1 75 = M.1 75) : PT M' i t := by unfold PT; rw [h75]; exact h
theorem PT.s {c : Int32} {x y : Tm} (h : PT M i (Nd c x y)) : M.1 75 i = c ∧ sgE c ∧ i < 160 := by
  obtain ⟨⟨h1, h2⟩, h3, h4⟩ := h
  rw [en_n] at h4
  rw [sz_n] at h3
  refine ⟨h4.1, ?_, by omega⟩
  obtain ⟨-, h | h | h⟩ := h1
  · exact Or.inl h.1
  · exact Or.inr (Or.inl h.1)
  · exact Or.inr (Or.inr h.1)
theorem PT.x {c : Int32} {x y : Tm} (h : PT M i (Nd c x y)) (hx : wfE x) : PT M (i + 1) x := by
  obtain ⟨⟨h1, h2⟩, h3, h4⟩ := h
  rw [en_n] at h4
  rw [sz_n] at h3 h2
  exact ⟨⟨hx, by omega⟩, by omega, ((At_app _ _ _).mp h4.2).1⟩
theorem PT.y {c : Int32} {x y : Tm} (h : PT M i (Nd c x y)) (hy : wfE y) : PT M (i + 1 + sz x) y := by
  obtain ⟨⟨h1, h2⟩, h3, h4⟩ := h
  rw [en_n] at h4
  rw [sz_n] at h3 h2
  exact ⟨⟨hy, by omega⟩, by omega, ((At_app _ _ _).mp h4.2).2⟩
theorem c_pspan (hd : 6 ≤ d) (h : PT M i t) : pcl GG lay d 152 [.ref 52, .int (jn i)] M = rI (jn (sz t)) M := by
  obtain ⟨d, rfl⟩ := ex_add hd
  obtain ⟨⟨h1, h2⟩, h3, h4⟩ := h
  rw [q_152]
  have key := pre_loopE (f := M.1 75) (B := 160) (G := fun j o => o ≤ 1 + 2 * j ∧ j ≤ 160 ∧ E_152 (d + 5) (4, [some (.ref 52), some (.int (jn i)), some (.int (jn 1)), some (.int (jn i))], [], M) = E_152 (d + 5) (4, [some (.ref 52), some (.int (jn i)), some (.int (jn o)), some (.int (jn j))], [], M)) ?_ t h1 i 0 h4 h3 ⟨by omega, by omega, rfl⟩
  · obtain ⟨-, -, hE⟩ := key
    rw [hE, h_152_4, ilt_neg (by omega) (by omega), jn_sub (by omega), show i + sz t - i = sz t by omega]
  · rintro j o hj hsg ⟨ho, hj2, hE⟩
    refine ⟨by have := arN_le (M.1 75 j); omega, by omega, ?_⟩
    rw [hE, h_152_4, ilt_pos (by omega) (by omega), ald_n (n := 160) rfl hj (by omega), oB_s, c_wide (by omega) hsg, kI_r, jn_add]
    have e : jn (o + 1) + (jn (arN (M.1 75 j)) - jn 1) = jn (o + arN (M.1 75 j)) := by
      cases arN (M.1 75 j) with
      | zero => rw [jn_subz (by omega), jn_addz (by omega)]; rfl
      | succ n => rw [jn_sub (by omega), jn_add]; congr 1; omega
    rw [e]
theorem c_parg0 (hd : 1 ≤ d) : pcl GG lay d 153 [.ref 52, .int (jn i), .int (jn 0)] M = rI (jn (i + 1)) M := by
  obtain ⟨d, rfl⟩ := ex_add hd
  rw [q_153, ieq_pos rfl, jn_add]
theorem c_parg1 (hd : 7 ≤ d) (h : PT M (i + 1) t) : pcl GG lay d 153 [.ref 52, .int (jn i), .int (jn 1)] M = rI (jn (i + 1 + sz t)) M := by
  obtain ⟨d, rfl⟩ := ex_add hd
  rw [q_153, ieq_neg (by omega) (by omega) (by omega), jn_add, c_pspan (by omega) h, kI_r, jn_add]
end
/-! what is bound, and what that comes to -/
abbrev BT : Type := Nat → Option Tm
def SolB (be : BT) (th : Nat → Tm) : Prop := ∀ v u, v < 12 → be v = some u → th v = ap th u
def IMx (be : BT) (m : Nat → Tm) (ta : Nat → Nat) : Prop :=
  (∀ v u, v < 12 → be v = some u → (wfE u ∧ sz u ≤ 40) ∧ m v = ap m u ∧ ta v < cntP (fun v => (be v).isSome) 12) ∧ (∀ v, v < 12 → be v = none → m v = vr v) ∧
  (∀ v c a b, v < 12 → be v = some (Nd c a b) → vE c → be (vn c) ≠ none → ta v < ta (vn c)) ∧ (∀ v, v < 12 → wfE (m v)) ∧ ∀ th, SolB be th → ∀ v, v < 12 → th v = ap th (m v)
theorem IMx.sol {be : BT} {m : Nat → Tm} {ta : Nat → Nat} (h : IMx be m ta) : SolB be m := fun v u hv hu => (h.1 v u hv hu).2.1
theorem IMx.aq {be : BT} {m : Nat → Tm} {ta : Nat → Nat} (h : IMx be m ta) {th : Nat → Tm} (hth : SolB be th) {t : Tm} (ht : wfE t) : ap th (ap m t) = ap th t := ap_ap (h.2.2.2.2 th hth) t ht
def BN (be : BT) (M : PM) : Prop := ∀ v, v < 12 → match be v with
  | none => M.1 76 v = jz 1
  | some u => ∃ i, M.1 76 v = jn i ∧ PT M i u
/-- it is what it stands for -/
def dnB (be : BT) (t : Tm) : Prop := ∃ c x y, t = Nd c x y ∧ (vE c → be (vn c) = none)
section
variable {d : Nat} {M M' : PM} {be : BT} {m : Nat → Tm} {ta : Nat → Nat} {t u : Tm} {i : Nat}
theorem m_standE {u1 : Option Value} (hd : 3 ≤ d) (hI : IMx be m ta) (hB : BN be M) : ∀ K t i, PT M i t → (∀ c x y, t = Nd c x y → vE c → be (vn c) ≠ none → 13 ≤ K + ta (vn c)) → ∃ j t', E_154 d (2, [some (.ref 52), u1, some (.int (jn i))], [], M) = rI (jn j) M ∧ PT M j t' ∧ dnB be t' ∧ ∀ th, SolB be th → ap th t' = ap th t := by
  intro K
  induction K with
  | zero =>
    intro t i hp hK
    obtain ⟨c, x, y, rfl, -⟩ := wfE_cases hp.1.1
    obtain ⟨e1, e2, e3⟩ := hp.s
    have hdn : vE c → be (vn c) = none := by
      intro hv
      cases hb : be (vn c) with
      | none => rfl
      | some u =>
        have h1 := hK c x y rfl hv (by rw [hb]; simp)
        have h2 := (hI.1 (vn c) u (vn_lt hv) hb).2.2
        have h3 := cntP_le (fun v => (be v).isSome) 12
        omega
    refine ⟨i, _, ?_, hp, ⟨c, x, y, rfl, hdn⟩, fun _ _ => rfl⟩
    rw [h_154_2, ald_n (n := 160) rfl e3 (by omega), oB_s, e1, c_free (by omega) e2, kI_r]
    by_cases hv : vE c
    · have hb := hB (vn c) (vn_lt hv)
      rw [hdn hv] at hb
      have hb : M.1 76 (vn c) = jz 1 := hb
      rw [bI_1 hv, ieq_neg (by omega) (by omega) (by omega), ald_n (n := 160) rfl e3 (by omega), oB_s, e1, c_num (by omega) hv, kI_r, ald_n (n := 12) rfl (vn_lt hv) (by omega), oB_s, hb, if_pos rfl]
    · rw [bI_n hv, ieq_pos rfl]
  | succ K ih =>
    intro t i hp hK
    obtain ⟨c, x, y, rfl, -⟩ := wfE_cases hp.1.1
    obtain ⟨e1, e2, e3⟩ := hp.s
    by_cases hv : vE c
    · have hb := hB (vn c) (vn_lt hv)
      have hvl := vn_lt hv
      cases hbe : be (vn c) with
      | none =>
        rw [hbe] at hb
        have hb : M.1 76 (vn c) = jz 1 := hb
        refine ⟨i, _, ?_, hp, ⟨c, x, y, rfl, fun _ => hbe⟩, fun _ _ => rfl⟩
        rw [h_154_2, ald_n (n := 160) rfl e3 (by omega), oB_s, e1, c_free (by omega) e2, kI_r, bI_1 hv, ieq_neg (by omega) (by omega) (by omega), ald_n (n := 160) rfl e3 (by omega), oB_s, e1, c_num (by omega) hv, kI_r, ald_n (n := 12) rfl hvl (by omega), oB_s, hb, if_pos rfl]
      | some u =>
        rw [hbe] at hb
        obtain ⟨j, h1, h2⟩ := hb
        have hj : j < 160 := by have := h2.2.1; have := szE_pos h2.1.1; omega
        obtain ⟨j', t', g1, g2, g3, g4⟩ := ih u j h2 (fun c' x' y' hu hv' hb' => by
          have := hI.2.2.1 (vn c) c' x' y' hvl (by rw [hbe, hu]) hv' hb'
          have := hK c x y rfl hv (by rw [hbe]; simp)
          omega)
        refine ⟨j', t', ?_, g2, g3, fun th hth => ?_⟩
        · rw [h_154_2, ald_n (n := 160) rfl e3 (by omega), oB_s, e1, c_free (by omega) e2, kI_r, bI_1 hv, ieq_neg (by omega) (by omega) (by omega), ald_n (n := 160) rfl e3 (by omega), oB_s, e1, c_num (by omega) hv, kI_r, ald_n (n := 12) rfl hvl (by omega), oB_s, h1, if_neg (by rw [jn_jz (by omega) (by omega)]; exact id), ald_n (n := 160) rfl e3 (by omega), oB_s, e1, c_num (by omega) hv, kI_r, ald_n (n := 12) rfl hvl (by omega), oB_s, h1, g1]
        · rw [g4 th hth, ap_v hv, ← hth (vn c) u hvl hbe]
    · refine ⟨i, _, ?_, hp, ⟨c, x, y, rfl, fun z => absurd z hv⟩, fun _ _ => rfl⟩
      rw [h_154_2, ald_n (n := 160) rfl e3 (by omega), oB_s, e1, c_free (by omega) e2, kI_r, bI_n hv, ieq_pos rfl]
theorem m_stand (hd : 4 ≤ d) (hI : IMx be m ta) (hB : BN be M) (hp : PT M i t) : ∃ j t', pcl GG lay d 154 [.ref 52, .int (jn i)] M = rI (jn j) M ∧ PT M j t' ∧ dnB be t' ∧ ∀ th, SolB be th → ap th t' = ap th t := by
  obtain ⟨d, rfl⟩ := ex_add hd
  obtain ⟨j, t', h1, h2⟩ := m_standE (d := d + 3) (u1 := some (.int (jn i))) (by omega) hI hB 13 t i hp (fun _ _ _ _ _ _ => by omega)
  exact ⟨j, t', by rw [q_154, h1], h2⟩
/-! how deep what is put in can be -/
theorem dp_ap {n : Nat → Tm} {K : Nat} : ∀ t, wfE t → (∀ c, c ∈ en t → vE c → dp (n (vn c)) ≤ K) → dp (ap n t) ≤ dp t + K := by
  refine wfE_ind (fun c hc => ?_) (fun c a hc _ iha => ?_) (fun c a b hc _ _ iha ihb => ?_)
  · intro h
    by_cases hv : vE c
    · rw [ap_v hv]; have := h c (by rw [en_0]; simp) hv; omega
    · rw [ap_n hv]; show dp (Nd c Lf Lf) ≤ _; omega
  · intro h
    have hv : ¬ vE c := by omega
    have := iha (fun x hx => h x (by rw [en_1]; simp [hx]))
    rw [ap_n hv]
    show max (dp (ap n a)) 0 + 1 ≤ max (dp a) 0 + 1 + K
    omega
  · intro h
    have hv : ¬ vE c := by omega
    have h1 := iha (fun x hx => h x (by rw [en_2]; simp [hx]))
    have h2 := ihb (fun x hx => h x (by rw [en_2]; simp [hx]))
    rw [ap_n hv]
    show max (dp (ap n a)) (dp (ap n b)) + 1 ≤ max (dp a) (dp b) + 1 + K
    omega
theorem sz_ap_v {n : Nat → Tm} (hn : ∀ v, v < 12 → wfE (n v)) : ∀ t, wfE t → ∀ c, c ∈ en t → vE c → sz (n (vn c)) ≤ sz (ap n t) ∧ ((∃ c' x y, t = Nd c' x y ∧ ¬ vE c') → sz (n (vn c)) < sz (ap n t)) := by
  refine wfE_ind (fun c hc => ?_) (fun c a hc ha iha => ?_) (fun c a b hc ha hb iha ihb => ?_)
  · intro x hx hv
    rw [en_0, List.mem_singleton] at hx
    subst hx
    rw [ap_v hv]
    refine ⟨Nat.le_refl _, ?_⟩
    rintro ⟨c', x', y', h, h2⟩
    cases h
    exact absurd hv h2
  · intro x hx hv
    have hc' : ¬ vE c := by omega
    rw [en_1] at hx
    rcases List.mem_cons.mp hx with rfl | hx
    · exact absurd hv hc'
    · have := (iha x hx hv).1
      rw [ap_n hc', sz_n]
      exact ⟨by omega, fun _ => by omega⟩
  · intro x hx hv
    have hc' : ¬ vE c := by omega
    rw [en_2] at hx
    rcases List.mem_cons.mp hx with rfl | hx
    · exact absurd hv hc'
    · rw [ap_n hc', sz_n]
      rcases List.mem_append.mp hx with hx | hx
      · have := (iha x hx hv).1
        exact ⟨by omega, fun _ => by omega⟩
      · have := (ihb x hx hv).1
        exact ⟨by omega, fun _ => by omega⟩
/-- deeper ones first -/
def rkB (m : Nat → Tm) (ta : Nat → Nat) (v : Nat) : Nat := sz (m v) * 16 + (15 - ta v)
theorem rkB_lt (hI : IMx be m ta) {v : Nat} {u : Tm} (hv : v < 12) (hu : be v = some u) {c : Int32} (hc : c ∈ en u) (hvc : vE c) (hb : be (vn c) ≠ none) : rkB m ta (vn c) < rkB m ta v := by
  obtain ⟨⟨h1, h2⟩, h3, h4⟩ := hI.1 v u hv hu
  have h5 := cntP_le (fun v => (be v).isSome) 12
  obtain ⟨c', x, y, rfl, -⟩ := wfE_cases h1
  obtain ⟨z1, z2⟩ := sz_ap_v hI.2.2.2.1 _ h1 c hc hvc
  rw [← h3] at z1 z2
  unfold rkB
  by_cases hv' : vE c'
  · have hx : en (Nd c' x y) = [c'] := by
      obtain ⟨-, h | h | h⟩ := h1
      · rw [h.2.1, h.2.2]; rfl
      · omega
      · omega
    rw [hx, List.mem_singleton] at hc
    subst hc
    have := hI.2.2.1 v c x y hv hu hvc hb
    omega
  · have := z2 ⟨c', x, y, rfl, hv'⟩
    omega
theorem dp_var (hI : IMx be m ta) : ∀ K v, v < 12 → rkB m ta v < K → dp (m v) ≤ 1 + 40 * cntP (fun w => (be w).isSome && decide (rkB m ta w < K)) 12 := by
  intro K
  induction K using Nat.strongRecOn with
  | ind K ih =>
    intro v hv hK
    cases hb : be v with
    | none =>
      rw [hI.2.1 v hv hb]
      show dp (Nd (vcd v) Lf Lf) ≤ _
      have : dp (Nd (vcd v) Lf Lf) = 1 := rfl
      omega
    | some u =>
      obtain ⟨⟨h1, h2⟩, h3, h4⟩ := hI.1 v u hv hb
      have hdu := dp_le u
      have key := dp_ap (n := m) (K := 1 + 40 * cntP (fun w => (be w).isSome && decide (rkB m ta w < rkB m ta v)) 12) u h1 (fun c hc hvc => by
        cases hbc : be (vn c) with
        | none =>
          rw [hI.2.1 _ (vn_lt hvc) hbc]
          have : dp (vr (vn c)) = 1 := rfl
          omega
        | some u' => exact ih (rkB m ta v) hK (vn c) (vn_lt hvc) (rkB_lt hI hv hb hc hvc (by rw [hbc]; simp)))
      have hlt := cntP_lt (p := fun w => (be w).isSome && decide (rkB m ta w < rkB m ta v)) (q := fun w => (be w).isSome && decide (rkB m ta w < K)) 12 v hv (fun i _ z => by
        simp only [Bool.and_eq_true, decide_eq_true_eq] at z ⊢
        exact ⟨z.1, by omega⟩) (by simp) (by simp [hb, hK])
      rw [h3]
      omega
theorem dp_521 (hI : IMx be m ta) {t : Tm} (ht : wfE t) (hs : sz t ≤ 40) : dp (ap m t) ≤ 521 := by
  have h1 := dp_ap (n := m) (K := 481) t ht (fun c hc hv => by
    have := dp_var hI (rkB m ta (vn c) + 1) (vn c) (vn_lt hv) (by omega)
    have h2 := cntP_le (fun w => (be w).isSome && decide (rkB m ta w < rkB m ta (vn c) + 1)) 12
    omega)
  have := dp_le t
  omega
end
