/-! the system's run: its state, a frame more -/
def phi (w : Int32) : Nat := if w = jn 300 then 36 else if w.toInt < 200 then w.toInt.toNat else if w.toInt < 1000 then w.toInt.toNat - 176 else if w = jn 1000 then 24 else w.toInt.toNat - 964
abbrev swX : List Nat := [7, 26, 27, 28, 29, 30, 31, 32, 33, 34, 35, 36, 37, 38, 39]
/-- the table of strategies holds those of V -/
def TBx (A : AT) (V : Int32 → Prop) (M : PM) : Prop := ∀ w, V w → (phi w < 48 ∧ (gM A w).1 ≤ 13) ∧ M.1 2 (phi w) = jn (gM A w).1 ∧ ((gM A w).1 = 0 → M.1 3 (phi w) = (gM A w).2.1) ∧ (2 < (gM A w).1 → M.1 3 (phi w) = jn (phi (gM A w).2.1)) ∧ ((gM A w).1 = 3 ∨ (gM A w).1 = 4 → M.1 4 (phi w) = jn (phi (gM A w).2.2))
def XF (A : AT) (V : Int32 → Prop) (q : RnS) (F top : Nat) (M : PM) : Prop := RX A M ∧ TBx A V M ∧ (M.1 29 11 = jn F ∧ M.1 29 12 = jn q.1 ∧ M.1 29 13 = jn q.2.1 ∧ M.1 29 14 = jn top ∧ M.1 29 16 = jn 0 ∧ M.1 30 2 = jn q.2.2.1.length) ∧ ∀ k x, q.2.2.1[k]? = some x → M.1 31 k = jn x.1 ∧ M.2 32 k = x.2
def Kx (f b : Nat) (M M' : PM) : Prop := Fr swX M M' ∧ (∀ j, j < f → M'.1 33 j = M.1 33 j ∧ M'.1 34 j = M.1 34 j ∧ M'.2 35 j = M.2 35 j ∧ M'.1 36 j = M.1 36 j ∧ M'.1 37 j = M.1 37 j ∧ M'.1 38 j = M.1 38 j ∧ M'.1 39 j = M.1 39 j) ∧ ∀ j, j < b → M'.1 7 j = M.1 7 j
theorem Kx.rf {f b : Nat} {M : PM} : Kx f b M M := ⟨Fr.rf, fun _ _ => ⟨rfl, rfl, rfl, rfl, rfl, rfl, rfl⟩, fun _ _ => rfl⟩
theorem Kx.trans {f b : Nat} {M M' M'' : PM} (h : Kx f b M M') (h' : Kx f b M' M'') : Kx f b M M'' := by
  refine ⟨h.1.trans h'.1, fun j hj => ?_, fun j hj => (h'.2.2 j hj).trans (h.2.2 j hj)⟩
  obtain ⟨a1, a2, a3, a4, a5, a6, a7⟩ := h.2.1 j hj
  obtain ⟨b1, b2, b3, b4, b5, b6, b7⟩ := h'.2.1 j hj
  exact ⟨b1.trans a1, b2.trans a2, b3.trans a3, b4.trans a4, b5.trans a5, b6.trans a6, b7.trans a7⟩
theorem Kx.mono {f b f' b' : Nat} {M M' : PM} (h : Kx f b M M') (hf : f' ≤ f) (hb : b' ≤ b) : Kx f' b' M M' := ⟨h.1, fun j hj => h.2.1 j (by omega), fun j hj => h.2.2 j (by omega)⟩
theorem Kx.of {f b : Nat} {S : List Nat} {M M' : PM} (h : Fr S M M') (hs : ∀ k ∈ S, k ∈ [26, 27, 28, 29, 30, 31, 32]) : Kx f b M M' := by
  have h1 : ∀ k, k ∉ [26, 27, 28, 29, 30, 31, 32] → M'.1 k = M.1 k ∧ M'.2 k = M.2 k := fun k hk => ⟨h.1 k (fun q => hk (hs k q)), h.2 k (fun q => hk (hs k q))⟩
  refine ⟨h.mono (fun k hk => (by decide : ∀ k, k ∈ [26, 27, 28, 29, 30, 31, 32] → k ∈ swX) k (hs k hk)), fun j hj => ⟨?_, ?_, ?_, ?_, ?_, ?_, ?_⟩, fun j hj => ?_⟩
  · rw [(h1 33 (by decide)).1]
  · rw [(h1 34 (by decide)).1]
  · rw [(h1 35 (by decide)).2]
  · rw [(h1 36 (by decide)).1]
  · rw [(h1 37 (by decide)).1]
  · rw [(h1 38 (by decide)).1]
  · rw [(h1 39 (by decide)).1]
  · rw [(h1 7 (by decide)).1]
section
variable {d : Nat} {A : AT} {M M' : PM} {V : Int32 → Prop} {q q' : RnS} {F F' top top' : Nat}
theorem RX_sw (hA : AOk A) (h : RX A M) (hf : Fr swX M M') (h7 : ∀ i, i < 1920 → M'.1 7 i = M.1 7 i) : RX A M' := RX_sc hA.1 h (hf.mono (by decide)) h7
theorem TBx_sw (h : TBx A V M) (hf : Fr swX M M') : TBx A V M' := by
  intro w hw
  rw [hf.1 2 (by decide), hf.1 3 (by decide), hf.1 4 (by decide)]
  exact h w hw
theorem XF.upd (hA : AOk A) (h : XF A V q F top M) (hf : Fr swX M M') (h7 : ∀ i, i < 1920 → M'.1 7 i = M.1 7 i) (h29 : M'.1 29 11 = jn F' ∧ M'.1 29 12 = jn q'.1 ∧ M'.1 29 13 = jn q'.2.1 ∧ M'.1 29 14 = jn top' ∧ M'.1 29 16 = jn 0 ∧ M'.1 30 2 = jn q'.2.2.1.length) (ht : ∀ k x, q'.2.2.1[k]? = some x → M'.1 31 k = jn x.1 ∧ M'.2 32 k = x.2) : XF A V q' F' top' M' := ⟨RX_sw hA h.1 hf h7, TBx_sw h.2.1 hf, h29, ht⟩
/-- frames' cells alone -/
theorem XF.fr (hA : AOk A) (h : XF A V q F top M) {S : List Nat} (hf : Fr S M M') (hs : ∀ k ∈ S, k ∈ [26, 27, 28, 33, 34, 35, 36, 37, 38, 39]) : XF A V q F top M' := by
  have h1 : ∀ k, k ∉ [26, 27, 28, 33, 34, 35, 36, 37, 38, 39] → M'.1 k = M.1 k ∧ M'.2 k = M.2 k := fun k hk => ⟨hf.1 k (fun q => hk (hs k q)), hf.2 k (fun q => hk (hs k q))⟩
  refine h.upd hA (hf.mono (fun k hk => (by decide : ∀ k, k ∈ [26, 27, 28, 33, 34, 35, 36, 37, 38, 39] → k ∈ swX) k (hs k hk))) (fun i _ => by rw [(h1 7 (by decide)).1]) ?_ ?_
  · rw [(h1 29 (by decide)).1, (h1 30 (by decide)).1]; exact h.2.2.1
  · rw [(h1 31 (by decide)).1, (h1 32 (by decide)).2]; exact h.2.2.2
/-- one is begun on a frame of its own, or it goes over -/
theorem x_ask {g : Nat → Int32} {l1 st : Int32} {x p : Nat} {P : Int64} (hd : 2 ≤ d) (hA : AOk A) (h : XF A V q F top M) (hF : F ≤ q.1) (hq : q.1 ≤ 600) (hg : pcl GG lay d 66 [.ref 36, .int l1, .int st] M = rV (sI M 36 g)) :
    (q.1 = 600 → ∃ M', pcl GG lay (d + 1) 201 [.ref 29, .int l1, .int st, .int (jn x), .int (jn p), .long P] M = rV M' ∧ RX A M' ∧ TBx A V M' ∧ M'.1 29 16 = jn 1 ∧ Fr [29, 36] M M') ∧
    (q.1 < 600 → ∃ M', pcl GG lay (d + 1) 201 [.ref 29, .int l1, .int st, .int (jn x), .int (jn p), .long P] M = rV M' ∧ XF A V (bgn q) (F + 1) top M' ∧ Fr [29, 33, 34, 35, 36, 38, 39] M M' ∧ M'.1 33 = va_up (M.1 33) F (jn x) ∧ M'.1 34 = va_up (M.1 34) F (jn p) ∧ M'.2 35 = va_up (M.2 35) F P ∧ M'.1 36 = va_up g F (jn 0) ∧ M'.1 38 = va_up (M.1 38) F (jn q.2.2.1.length) ∧ M'.1 39 = va_up (M.1 39) F (jn top)) := by
  obtain ⟨d, rfl⟩ := ex_add hd
  obtain ⟨hR, hT, ⟨h11, h12, h13, h14, h16, h30⟩, htr⟩ := id h
  have e12 : (sI M 36 g).1 29 12 = jn q.1 := h12
  constructor
  · intro h6
    have hf : Fr [29, 36] M (sI (sI M 36 g) 29 (va_up ((sI M 36 g).1 29) 16 (jn 1))) := (Fr.sI (by decide)).trans (Fr.sI (by decide))
    rw [q_201, hg, kV_r, q_202, e12, ilt_neg (by omega) (by omega), wr_e, rZ_0, kI_r, ieq_pos rfl]
    exact ⟨_, rfl, RX_sw hA hR (hf.mono (by decide)) (fun _ _ => rfl), TBx_sw hT (hf.mono (by decide)), rfl, hf⟩
  · intro h6
    rw [q_201, hg, kV_r, q_202, e12, ilt_pos h6 (by omega), wr_e, rZ_1, kI_r, ieq_neg (by omega) (by omega) (by omega), jn_add]
    obtain ⟨M2, hM2⟩ : ∃ M2, M2 = sI (sI M 36 g) 29 (va_up ((sI M 36 g).1 29) 12 (jn (q.1 + 1))) := ⟨_, rfl⟩
    rw [← hM2]
    have a11 : M2.1 29 11 = jn F := by rw [hM2]; exact h11
    have a14 : M2.1 29 14 = jn top := by rw [hM2]; exact h14
    have a30 : M2.1 30 2 = jn q.2.2.1.length := by rw [hM2]; exact h30
    rw [a11, c_put (n := 600) (by omega) rfl (by omega) (by omega), kV_r]
    have b1 : ∀ g1, (sI M2 33 g1).1 29 11 = jn F := fun _ => a11
    rw [b1, c_put (n := 600) (by omega) rfl (by omega) (by omega), kV_r]
    have b2 : ∀ g1 g2, (sI (sI M2 33 g1) 34 g2).1 29 11 = jn F := fun _ _ => a11
    rw [b2, c_putL (n := 600) (by omega) rfl (by omega) (by omega), kV_r]
    have b3 : ∀ g1 g2 g3, (sL (sI (sI M2 33 g1) 34 g2) 35 g3).1 29 11 = jn F := fun _ _ _ => a11
    rw [b3, c_put (n := 600) (by omega) rfl (by omega) (by omega), kV_r]
    have b4 : ∀ g1 g2 g3 g4, (sI (sL (sI (sI M2 33 g1) 34 g2) 35 g3) 36 g4).1 29 11 = jn F := fun _ _ _ _ => a11
    have b4' : ∀ g1 g2 g3 g4, (sI (sL (sI (sI M2 33 g1) 34 g2) 35 g3) 36 g4).1 30 2 = jn q.2.2.1.length := fun _ _ _ _ => a30
    rw [b4, b4', c_put (n := 600) (by omega) rfl (by omega) (by omega), kV_r]
    have b5 : ∀ g1 g2 g3 g4 g5, (sI (sI (sL (sI (sI M2 33 g1) 34 g2) 35 g3) 36 g4) 38 g5).1 29 11 = jn F := fun _ _ _ _ _ => a11
    have b5' : ∀ g1 g2 g3 g4 g5, (sI (sI (sL (sI (sI M2 33 g1) 34 g2) 35 g3) 36 g4) 38 g5).1 29 14 = jn top := fun _ _ _ _ _ => a14
    rw [b5, b5', c_put (n := 600) (by omega) rfl (by omega) (by omega), kV_r, wr_e]
    have b6 : ∀ g1 g2 g3 g4 g5 g6, (sI (sI (sI (sL (sI (sI M2 33 g1) 34 g2) 35 g3) 36 g4) 38 g5) 39 g6).1 29 11 = jn F := fun _ _ _ _ _ _ => a11
    rw [b6, jn_add]
    generalize hM9 : sI (sI (sI (sI (sL (sI (sI M2 33 _) 34 _) 35 _) 36 _) 38 _) 39 _) 29 _ = M9
    have f9 : Fr [29, 33, 34, 35, 36, 38, 39] M M9 := by
      rw [← hM9, hM2]
      exact ((((((((Fr.sI (by decide)).trans (Fr.sI (by decide))).trans (Fr.sI (by decide))).trans (Fr.sI (by decide))).trans (Fr.sL (by decide))).trans (Fr.sI (by decide))).trans (Fr.sI (by decide))).trans (Fr.sI (by decide))).trans (Fr.sI (by decide))
    have c29 : M9.1 29 = va_up (va_up (M.1 29) 12 (jn (q.1 + 1))) 11 (jn (F + 1)) := by rw [← hM9, hM2]; rfl
    refine ⟨M9, rfl, h.upd hA (f9.mono (by decide)) (fun _ _ => by rw [f9.1 7 (by decide)]) ⟨?_, ?_, ?_, ?_, ?_, ?_⟩ (fun k x hx => by rw [f9.1 31 (by decide), f9.2 32 (by decide)]; exact htr k x hx), f9, ?_, ?_, ?_, ?_, ?_, ?_⟩
    · rw [c29, up_at, if_pos rfl]
    · rw [c29, up_at, if_neg (by omega), up_at, if_pos rfl]
    · rw [c29, up_at, if_neg (by omega), up_at, if_neg (by omega)]; exact h13
    · rw [c29, up_at, if_neg (by omega), up_at, if_neg (by omega)]; exact h14
    · rw [c29, up_at, if_neg (by omega), up_at, if_neg (by omega)]; exact h16
    · rw [f9.1 30 (by decide)]; exact h30
    · rw [← hM9, hM2]; rfl
    · rw [← hM9, hM2]; rfl
    · rw [← hM9, hM2]; rfl
    · rw [← hM9, hM2]; rfl
    · rw [← hM9, hM2]; rfl
    · rw [← hM9, hM2]; rfl
end
