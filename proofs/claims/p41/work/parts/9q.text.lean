/-! the system's unifying: the text, who is who, roots -/
def kS (s t : Tm) (k : Nat) : Prop := k < 40 ∧ k < sz s ∨ 40 ≤ k ∧ k - 40 < sz t
def tSp (s t : Tm) (k : Nat) : Tm := if k < 40 then sub s k else apt (sub t (k - 40))
def scS (s t : Tm) (k : Nat) : Nat := k + 1 + sz (tSp s t (k + 1))
def rawS (s t : Tm) (k : Nat) : Int32 := if k < 40 then sgn s k else sgn t (k - 40)
def TXT (s t : Tm) (M : PM) : Prop := ∀ k, k < 80 → (kS s t k → M.1 41 k = rawS s t k ∧ (is2 (rawS s t k) → M.1 42 k = jn (scS s t k))) ∧ (¬ kS s t k → M.1 41 k = jn 0)
def Pth (f : Nat → Int32) : Nat → Nat → Nat → Prop
  | 0, x, r => x = r ∧ f r = jn r
  | c + 1, x, r => (x = r ∧ f r = jn r) ∨ ∃ y, y < 92 ∧ f x = jn y ∧ y ≠ x ∧ Pth f c y r
section
variable {d k p : Nat} {s t u : Tm} {M M' : PM} {f : Nat → Int32}
theorem sgn_hdc (ht : wf t) (hk : k < sz t) : sgn t k = hdc (sub t k) := by
  have hA : At (fun i => (en t).getD i 0) 0 (en t) := by
    rw [At_sz]
    intro i hi
    rw [Nat.zero_add, List.getD_eq_getElem?_getD, List.getElem?_eq_getElem hi]
    rfl
  have h2 := sub_at ht hk hA
  obtain ⟨c, x, y, e, -⟩ := wf_cases (sub_wf ht hk)
  rw [e, en_n, Nat.zero_add] at h2
  rw [e]
  exact h2.1
theorem pool_st (hs : wf s) (ht : wf t) (hs4 : sz s ≤ 40) (ht4 : sz t ≤ 40) : Pool (kS s t) (tSp s t) (scS s t) := by
  intro k hk
  rcases hk with ⟨hk, hk2⟩ | ⟨hk, hk2⟩
  · have e0 : tSp s t k = sub s k := if_pos hk
    have hw := sub_wf hs hk2
    have hz := sub_sz hs hk2
    obtain ⟨c, x, y, e, hc⟩ := wf_cases hw
    rw [e, sz_n] at hz
    refine ⟨by omega, by rw [e0]; exact wfE_of _ hw, ?_⟩
    rw [e0, e]
    show is0E c ∧ _ ∨ is1 c ∧ _ ∨ is2 c ∧ _
    rcases hc with ⟨h1, rfl, rfl⟩ | ⟨h1, h2, rfl⟩ | ⟨h1, h2, h3⟩
    · exact Or.inl ⟨by omega, rfl⟩
    · have hp := sz_pos x h2
      have e1 : tSp s t (k + 1) = x := by
        unfold tSp
        rw [if_pos (by omega), sub_c1 hs hk2 e h2]
      exact Or.inr (Or.inl ⟨h1, Or.inl ⟨by omega, by omega⟩, by rw [e1]; rfl⟩)
    · have hp := sz_pos x h2
      have hp2 := sz_pos y h3
      have e1 : tSp s t (k + 1) = x := by
        unfold tSp
        rw [if_pos (by omega), sub_c1 hs hk2 e h2]
      have es : scS s t k = k + 1 + sz x := by unfold scS; rw [e1]
      have e2 : tSp s t (scS s t k) = y := by
        rw [es]
        unfold tSp
        rw [if_pos (by omega), sub_c2 hs hk2 e h3]
      exact Or.inr (Or.inr ⟨h1, Or.inl ⟨by omega, by omega⟩, by rw [es]; exact Or.inl ⟨by omega, by omega⟩, by rw [e1, e2]; rfl⟩)
  · have e0 : tSp s t k = apt (sub t (k - 40)) := if_neg (by omega)
    have hw := sub_wf ht hk2
    have hz := sub_sz ht hk2
    obtain ⟨c, x, y, e, hc⟩ := wf_cases hw
    rw [e, sz_n] at hz
    refine ⟨by omega, by rw [e0]; exact apt_wf _ hw, ?_⟩
    rw [e0, e]
    show is0E (apc c) ∧ Nd (apc c) (apt x) (apt y) = _ ∨ is1 (apc c) ∧ _ ∨ is2 (apc c) ∧ _
    rcases hc with ⟨h1, rfl, rfl⟩ | ⟨h1, h2, rfl⟩ | ⟨h1, h2, h3⟩
    · refine Or.inl ⟨?_, rfl⟩
      by_cases hv : isV c
      · have := apc_I hv; omega
      · rw [apc_n hv]; omega
    · have hp := sz_pos x h2
      have ec : apc c = c := apc_n (by omega)
      have e1 : tSp s t (k + 1) = apt x := by
        unfold tSp
        rw [if_neg (by omega), show k + 1 - 40 = k - 40 + 1 by omega, sub_c1 ht hk2 e h2]
      refine Or.inr (Or.inl ⟨by rw [ec]; exact h1, Or.inr ⟨by omega, by omega⟩, by rw [e1]; rfl⟩)
    · have hp := sz_pos x h2
      have hp2 := sz_pos y h3
      have ec : apc c = c := apc_n (by omega)
      have e1 : tSp s t (k + 1) = apt x := by
        unfold tSp
        rw [if_neg (by omega), show k + 1 - 40 = k - 40 + 1 by omega, sub_c1 ht hk2 e h2]
      have es : scS s t k = k + 1 + sz x := by unfold scS; rw [e1, apt_sz]
      have e2 : tSp s t (scS s t k) = apt y := by
        rw [es]
        unfold tSp
        rw [if_neg (by omega), show k + 1 + sz x - 40 = k - 40 + 1 + sz x by omega, sub_c2 ht hk2 e h3]
      exact Or.inr (Or.inr ⟨by rw [ec]; exact h1, Or.inr ⟨by omega, by omega⟩, by rw [es]; exact Or.inr ⟨by omega, by omega⟩, by rw [e1, e2]; rfl⟩)
/-- the sign that stands there and the one that is told apart -/
theorem raw_hd (hs : wf s) (ht : wf t) (hk : kS s t k) : (isV (rawS s t k) ↔ vT (tSp s t) k) ∧ (¬ isV (rawS s t k) → hdc (tSp s t k) = rawS s t k) ∧ sg (rawS s t k) ∧ (isV (rawS s t k) → ido (tSp s t) k = (if k < 40 then 0 else 6) + ((rawS s t k).toInt - 117).toNat) := by
  rcases hk with ⟨hk, hk2⟩ | ⟨hk, hk2⟩
  · have e0 : tSp s t k = sub s k := if_pos hk
    have er : rawS s t k = hdc (tSp s t k) := by
      rw [e0]
      unfold rawS
      rw [if_pos hk, sgn_hdc hs hk2]
    have hsg : sg (rawS s t k) := by
      rw [er, e0]
      obtain ⟨c, x, y, e, hc⟩ := wf_cases (sub_wf hs hk2)
      rw [e]
      show sg c
      rcases hc with ⟨h, -⟩ | ⟨h, -⟩ | ⟨h, -⟩
      · exact Or.inl h
      · exact Or.inr (Or.inl h)
      · exact Or.inr (Or.inr h)
    refine ⟨?_, fun _ => er.symm, hsg, fun hv => ?_⟩
    · show isV _ ↔ vE _
      rw [← er]
      refine ⟨fun z => Or.inl z, fun z => ?_⟩
      rcases hsg with h | h | h <;> omega
    · have hvT : vT (tSp s t) k := by show vE _; rw [← er]; exact Or.inl hv
      rw [ido_v hvT, ← er, if_pos hk]
      unfold vn
      rw [if_pos (by omega), Nat.zero_add]
  · have e0 : tSp s t k = apt (sub t (k - 40)) := if_neg (by omega)
    have er : hdc (tSp s t k) = apc (rawS s t k) := by
      rw [e0]
      unfold rawS
      rw [if_neg (by omega), sgn_hdc ht hk2]
      obtain ⟨c, x, y, e, hc⟩ := wf_cases (sub_wf ht hk2)
      rw [e]; rfl
    have hsg : sg (rawS s t k) := by
      unfold rawS
      rw [if_neg (by omega), sgn_hdc ht hk2]
      obtain ⟨c, x, y, e, hc⟩ := wf_cases (sub_wf ht hk2)
      rw [e]
      show sg c
      rcases hc with ⟨h, -⟩ | ⟨h, -⟩ | ⟨h, -⟩
      · exact Or.inl h
      · exact Or.inr (Or.inl h)
      · exact Or.inr (Or.inr h)
    have hvv : isV (rawS s t k) ↔ vE (hdc (tSp s t k)) := by
      rw [er]
      refine ⟨fun z => ?_, fun z => ?_⟩
      · have := apc_I z; omega
      · by_cases hv : isV (rawS s t k)
        · exact hv
        · rw [apc_n hv] at z
          rcases hsg with h | h | h <;> omega
    refine ⟨hvv, fun z => by rw [er, apc_n z], hsg, fun hv => ?_⟩
    have hvT : vT (tSp s t) k := hvv.mp hv
    have := apc_I hv
    rw [ido_v hvT, er, if_neg (by omega)]
    unfold vn
    rw [if_neg (by omega)]
    omega
theorem TXT.eq (h : TXT s t M) (h41 : M'.1 41 = M.1 41) (h42 : M'.1 42 = M.1 42) : TXT s t M' := by
  intro k hk
  rw [h41, h42]
  exact h k hk
theorem c_ido (hd : 2 ≤ d) (hs : wf s) (ht : wf t) (hs4 : sz s ≤ 40) (ht4 : sz t ≤ 40) (h : TXT s t M) (hk : kS s t k) : pcl GG lay d 264 [.ref 40, .int (jn k)] M = rI (jn (ido (tSp s t) k)) M := by
  obtain ⟨d, rfl⟩ := ex_add (show 1 ≤ d by omega)
  have hk80 : k < 80 := (pool_st hs ht hs4 ht4 k hk).1
  obtain ⟨e1, -⟩ := (h k hk80).1 hk
  obtain ⟨r1, r2, r3, r4⟩ := raw_hd hs ht hk
  rw [q_264, c_get (n := 80) (by omega) rfl hk80 (by omega), kI_r, e1, c_isV (by omega), kI_r]
  by_cases hv : isV (rawS s t k)
  · obtain ⟨n, hn, hn2⟩ := inn (a := rawS s t k) (n := 123) (by omega)
    have hv' := hv
    rw [hn2] at hv'
    have hI : (jn n).toInt = n := jn_toInt (by omega)
    have h117 : 117 ≤ n := by have : 117 ≤ (jn n).toInt ∧ (jn n).toInt ≤ 122 := hv'; omega
    rw [bI_1 hv, ieq_neg (by omega) (by omega) (by omega), r4 hv, hn2, hI]
    by_cases h40 : k < 40
    · rw [ilt_pos h40 (by omega), if_pos h40, jn_add, jn_sub (by omega)]
      congr 2; omega
    · rw [ilt_neg (by omega) (by omega), if_neg h40, jn_add, jn_sub (by omega)]
      congr 2; omega
  · rw [bI_n hv, ieq_pos rfl, jn_add, ido_n (fun z => hv (r1.mpr z))]
/-- a root is found -/
theorem c_rootE {u1 : Option Value} (hd : 1 ≤ d) : ∀ c x r n, x < 92 → n + c < 92 → Pth (M.1 43) c x r → E_265 d (4, [some (.ref 40), u1, some (.int (jn x)), some (.int (jn n))], [], M) = rI (jn r) M := by
  intro c
  induction c with
  | zero =>
    intro x r n hx hn h
    obtain ⟨rfl, h2⟩ := h
    rw [h_265_4, ilt_pos (by omega) (by omega), c_get (n := 92) (by omega) rfl hx (by omega), kI_r, h2, ieq_pos rfl]
  | succ c ih =>
    intro x r n hx hn h
    rcases h with ⟨rfl, h2⟩ | ⟨y, hy, h2, h3, h4⟩
    · rw [h_265_4, ilt_pos (by omega) (by omega), c_get (n := 92) (by omega) rfl hx (by omega), kI_r, h2, ieq_pos rfl]
    · rw [h_265_4, ilt_pos (by omega) (by omega), c_get (n := 92) (by omega) rfl hx (by omega), kI_r, h2, ieq_neg h3 (by omega) (by omega), c_get (n := 92) (by omega) rfl hx (by omega), kI_r, h2, jn_add]
      exact ih y r (n + 1) hy (by omega) h4
theorem c_root {c x r : Nat} (hd : 2 ≤ d) (hx : x < 92) (hc : c < 92) (h : Pth (M.1 43) c x r) : pcl GG lay d 265 [.ref 40, .int (jn x)] M = rI (jn r) M := by
  obtain ⟨d, rfl⟩ := ex_add (show 1 ≤ d by omega)
  rw [q_265]
  exact c_rootE (by omega) c x r 0 hx (by omega) h
theorem Pth_up : ∀ c x r, Pth f c x r → Pth f (c + 1) x r := by
  intro c
  induction c with
  | zero => intro x r h; exact Or.inl h
  | succ c ih =>
    intro x r h
    rcases h with h | ⟨y, h1, h2, h3, h4⟩
    · exact Or.inl h
    · exact Or.inr ⟨y, h1, h2, h3, ih y r h4⟩
theorem Pth_mono {c c' x r : Nat} (h : Pth f c x r) (hc : c ≤ c') : Pth f c' x r := by
  obtain ⟨e, rfl⟩ := Nat.le.dest hc
  clear hc
  induction e with
  | zero => exact h
  | succ e ih => exact Pth_up _ _ _ ih
theorem Pth_link {a b : Nat} (hab : a ≠ b) (ha : f a = jn a) (hb : f b = jn b) (ha9 : a < 92) (hb9 : b < 92) : ∀ c x r, x < 92 → r < 92 → Pth f c x r → Pth (va_up f a (jn b)) (c + 1) x (if r = a then b else r) := by
  have fb : va_up f a (jn b) b = jn b := by rw [up_at, if_neg (Ne.symm hab)]; exact hb
  have base : ∀ c x r, x = r ∧ f r = jn r → Pth (va_up f a (jn b)) (c + 1) x (if r = a then b else r) := by
    rintro c x r ⟨rfl, h⟩
    by_cases e : x = a
    · rw [if_pos e]
      refine Or.inr ⟨b, hb9, by rw [up_at, if_pos e], by rw [e]; exact Ne.symm hab, ?_⟩
      exact Pth_mono (c := 0) ⟨rfl, fb⟩ (Nat.zero_le _)
    · rw [if_neg e]
      exact Or.inl ⟨rfl, by rw [up_at, if_neg e]; exact h⟩
  intro c
  induction c with
  | zero => intro x r _ _ h; exact base 0 x r h
  | succ c ih =>
    intro x r hx hr h
    rcases h with h | ⟨y, h1, h2, h3, h4⟩
    · exact base (c + 1) x r h
    · have hxa : x ≠ a := by
        rintro rfl
        rw [ha, jn_inj (by omega) (by omega)] at h2
        exact h3 h2.symm
      exact Or.inr ⟨y, h1, by rw [up_at, if_neg hxa]; exact h2, h3, ih y r h1 hr h4⟩
/-- the text is laid -/
theorem c_text {b : Nat} (hd : 5 ≤ d) (hu : wf u) (hu4 : sz u ≤ 40) (hA : At (M.1 7) p (en u)) (hp : p + sz u ≤ 3760) (hb : b + sz u ≤ 80) :
    ∃ M', pcl GG lay d 261 [.ref 40, .int (jn p), .int (jn b)] M = rV M' ∧ Fr [41, 42] M M' ∧ (∀ k, k < sz u → M'.1 41 (b + k) = sgn u k ∧ (is2 (sgn u k) → M'.1 42 (b + k) = jn (b + k + 1 + sz (sub u (k + 1))))) ∧ ∀ j, (j < b ∨ b + sz u ≤ j) → M'.1 41 j = M.1 41 j ∧ M'.1 42 j = M.1 42 j := by
  obtain ⟨d, rfl⟩ := ex_add (show 1 ≤ d by omega)
  have lp : ∀ m k M0 u5, k + m = sz u → Fr [41, 42] M M0 → ∃ M', E_261 d (12, [some (.ref 40), some (.int (jn p)), some (.int (jn b)), some (.int (jn (sz u))), some (.int (jn k)), u5], [], M0) = rV M' ∧ Fr [41, 42] M M' ∧ (∀ i, k ≤ i → i < sz u → M'.1 41 (b + i) = sgn u i ∧ (is2 (sgn u i) → M'.1 42 (b + i) = jn (b + i + 1 + sz (sub u (i + 1))))) ∧ ∀ j, (j < b + k ∨ b + sz u ≤ j) → M'.1 41 j = M0.1 41 j ∧ M'.1 42 j = M0.1 42 j := by
    intro m
    induction m with
    | zero =>
      intro k M0 u5 hk hf
      rw [h_261_12, ilt_neg (by omega) (by omega)]
      exact ⟨M0, rfl, hf, fun i _ _ => by omega, fun j _ => ⟨rfl, rfl⟩⟩
    | succ m ih =>
      intro k M0 u5 hk hf
      have hku : k < sz u := by omega
      have e7 : M0.1 7 (p + k) = sgn u k := by rw [hf.1 7 (by decide)]; exact sgn_at hA hku
      rw [h_261_12, ilt_pos (by omega) (by omega), jn_add, c_at (by omega) (by omega), kI_r, e7, jn_add, c_put (n := 80) (by omega) rfl (by omega) (by omega), kV_r, c_arity (by omega), kI_r]
      obtain ⟨c, x, y, e, hc⟩ := wf_cases (sub_wf hu hku)
      have hg : sgn u k = c := by rw [sgn_hdc hu hku, e]; rfl
      have hz := sub_sz hu hku
      rw [e, sz_n] at hz
      have hsat := sub_at hu hku hA
      rw [e, en_n] at hsat
      rw [hg]
      have go : ∀ v : Int32, (is2 c → v = jn (b + k + 1 + sz (sub u (k + 1)))) → ∃ M', (kV (pcl GG lay d 66 [.ref 42, .int (jn (b + k)), .int v] (sI M0 41 (va_up (M0.1 41) (b + k) c))) fun M4 => E_261 d (12, [some (.ref 40), some (.int (jn p)), some (.int (jn b)), some (.int (jn (sz u))), some (.int (jn k + jn 1)), some (.int c)], [], M4)) = rV M' ∧ Fr [41, 42] M M' ∧ (∀ i, k ≤ i → i < sz u → M'.1 41 (b + i) = sgn u i ∧ (is2 (sgn u i) → M'.1 42 (b + i) = jn (b + i + 1 + sz (sub u (i + 1))))) ∧ ∀ j, (j < b + k ∨ b + sz u ≤ j) → M'.1 41 j = M0.1 41 j ∧ M'.1 42 j = M0.1 42 j := by
        intro v hv
        rw [c_put (n := 80) (by omega) rfl (by omega) (by omega), kV_r, jn_add]
        obtain ⟨M', g1, g2, g3, g4⟩ := ih (k + 1) (sI (sI M0 41 (va_up (M0.1 41) (b + k) c)) 42 (va_up ((sI M0 41 (va_up (M0.1 41) (b + k) c)).1 42) (b + k) v)) (some (.int c)) (by omega) ((hf.trans (Fr.sI (by decide))).trans (Fr.sI (by decide)))
        refine ⟨M', g1, g2, fun i hi hi2 => ?_, fun j hj => ?_⟩
        · by_cases ei : i = k
          · obtain ⟨q1, q2⟩ := g4 (b + i) (by omega)
            rw [q1, q2]
            rw [ei, hg]
            refine ⟨?_, fun z => ?_⟩
            · rw [sI_o _ _ (by decide), sI_k, up_at, if_pos rfl]
            · rw [sI_k, up_at, if_pos rfl]; exact hv z
          · exact g3 i (by omega) hi2
        · obtain ⟨q1, q2⟩ := g4 j (by omega)
          rw [q1, q2]
          refine ⟨?_, ?_⟩
          · rw [sI_o _ _ (by decide), sI_k, up_at, if_neg (by omega)]
          · rw [sI_k, up_at, if_neg (by omega), sI_o _ _ (by decide)]
      by_cases h2 : is2 c
      · have hx : wf x := by
          rcases hc with ⟨h, -⟩ | ⟨h, -⟩ | ⟨-, h, -⟩
          · omega
          · omega
          · exact h
        have e1 := sub_c1 hu hku e hx
        have hxa : At ((sI M0 41 (va_up (M0.1 41) (b + k) c)).1 7) (p + k + 1) (en x) := by
          rw [sI_o _ _ (by decide), hf.1 7 (by decide)]
          exact ((At_app _ _ _).mp hsat.2).1
        rw [arR_2 h2, ieq_pos rfl, jn_add, c_end (by omega) hx hxa (by omega), kI_r, jn_add, jn_sub (by omega)]
        exact go _ (fun _ => by rw [e1]; congr 1; omega)
      · have hne : ¬ arR c = jn 2 := by
          unfold arR
          rw [if_neg h2]
          split
          · rw [jn_inj (by omega) (by omega)]; omega
          split
          · rw [jn_inj (by omega) (by omega)]; omega
          · intro z; exact absurd z.symm (by rw [jn_jz (by omega) (by omega)]; exact id)
        rw [if_neg hne]
        exact go _ (fun z => absurd z h2)
  rw [q_261, c_sizeAt (by omega) hu hA hp, kI_r]
  obtain ⟨M', g1, g2, g3, g4⟩ := lp (sz u) 0 M none (by omega) Fr.rf
  exact ⟨M', g1, g2, fun k hk => g3 k (Nat.zero_le _) hk, fun j hj => g4 j (by omega)⟩
end
