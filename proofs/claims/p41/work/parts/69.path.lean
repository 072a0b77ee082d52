/-! paths and depths -/
def dp : Tm → Nat
  | .leaf => 0
  | .inner _ _ _ a b => max (dp a) (dp b) + 1
theorem dp_le : ∀ t, dp t ≤ sz t := by
  intro t
  induction t with
  | leaf => exact Nat.le_refl _
  | inner n c u a b iha ihb =>
    show max (dp a) (dp b) + 1 ≤ (c :: (en a ++ en b)).length
    rw [List.length_cons, List.length_append]
    have : (en a).length = sz a := rfl
    have : (en b).length = sz b := rfl
    omega
theorem dp_pos : ∀ t, wf t → 0 < dp t := by
  intro t h
  cases t with
  | leaf => exact h.elim
  | inner n c u a b => show 0 < max (dp a) (dp b) + 1; omega
def mxL (o : List (Nat × Int64)) (m : Nat) : Nat := o.foldl (fun m q => max m q.1) m
theorem mxL_app (o o' : List (Nat × Int64)) (m : Nat) : mxL (o ++ o') m = mxL o' (mxL o m) := List.foldl_append
theorem mxL_inf : ∀ t, wf t → ∀ l p m, mxL (inf l p t) m = max m (l + dp t - 1) := by
  have base : ∀ (l m : Nat) (p : Int64) (o : List (Nat × Int64)), mxL ((l, p) :: o) m = mxL o (max m l) := fun _ _ _ _ => rfl
  refine wf_ind (fun c hc => ?_) (fun c a hc ha iha => ?_) (fun c a b hc ha hb iha ihb => ?_)
  · intro l p m
    show mxL ((l, p) :: ([] ++ [])) m = max m (l + (max 0 0 + 1) - 1)
    rw [base]
    show max m l = _
    omega
  · intro l p m
    show mxL ((l, p) :: (inf (l + 1) (pth p 1) a ++ [])) m = max m (l + (max (dp a) 0 + 1) - 1)
    rw [base, List.append_nil, iha]
    have := dp_pos a ha
    omega
  · intro l p m
    show mxL ((l, p) :: (inf (l + 1) (pth p 1) a ++ inf (l + 1) (pth p 2) b)) m = max m (l + (max (dp a) (dp b) + 1) - 1)
    rw [base, mxL_app, iha, ihb]
    have := dp_pos a ha
    have := dp_pos b hb
    omega
theorem inf_lv : ∀ t l p q, q ∈ inf l p t → q.1 < l + sz t := by
  intro t
  induction t with
  | leaf => intro l p q h; simp [inf] at h
  | inner n c u a b iha ihb =>
    intro l p q h
    have hs : sz (Std.DTreeMap.Internal.Impl.inner n c u a b) = sz a + sz b + 1 := by
      show (c :: (en a ++ en b)).length = _
      rw [List.length_cons, List.length_append]
    rw [hs]
    simp only [inf, List.mem_cons, List.mem_append] at h
    rcases h with rfl | h | h
    · show l < _; omega
    · have := iha _ _ _ h; omega
    · have := ihb _ _ _ h; omega
theorem getD_l {α : Type} {o o' : List α} {i : Nat} {x : α} (h : i < o.length) : (o ++ o').getD i x = o.getD i x := by
  rw [List.getD_eq_getElem?_getD, List.getElem?_append_left h, List.getD_eq_getElem?_getD]
theorem getD_r {α : Type} {o o' : List α} {i : Nat} {x : α} (h : o.length ≤ i) : (o ++ o').getD i x = o'.getD (i - o.length) x := by
  rw [List.getD_eq_getElem?_getD, List.getElem?_append_right h, List.getD_eq_getElem?_getD]
abbrev paT (t : Tm) (i : Nat) : Int64 := ((inf 1 (Int64.ofNat 0) t).getD i (0, 0)).2
def F_path (A : AT) (a b : Int32) : Int64 × AT := if ¬ hsT A a then ((jz 1).toInt64, (rfs A 1).2) else if ¬ (0 ≤ b.toInt ∧ b.toInt < (sz (tmN A a) : Nat)) then ((jz 5).toInt64, (rfs A 5).2) else (paT (tmN A a) b.toInt.toNat, A)
section
variable {d : Nat} {A : AT} {M : PM} {a b c e f : Int32} {v : Int64}
theorem x_lay {n : Nat} {t : Tm} (hd : 5 ≤ d) (hA : AOk A) (h : RX A M) (ht : (tsA A)[n]? = some t) : ∃ M', pcl GG lay d 183 [.ref 21, .int (jn (40 * n))] M = rV M' ∧ RX A M' ∧ Hi M M' ∧ M'.1 21 3 = jn (sz t) ∧ LY (M'.1 22) (M'.2 23) 0 (inf 1 (Int64.ofNat 0) t) := by
  obtain ⟨h3, h4, h5⟩ := tm_ok hA ht
  have hta : At (M.1 7) (40 * n) (en t) := h.1.2.1 n t ht
  obtain ⟨M', e1, e2, e3, e4⟩ := c_layout (d := d) hd h3 h4 (by omega) hta
  exact ⟨M', e1, RX_sc hA.1 h (e2.mono (by decide)) (fun i _ => by rw [e2.1 7 (by decide)]), Hi.fr e2 (by decide), e3, e4⟩
theorem ly_at {f : Nat → Int32} {g : Nat → Int64} {l : Nat} {p : Int64} {t : Tm} {i : Nat} (h : LY f g 0 (inf l p t)) (hi : i < sz t) : f i = jn ((inf l p t).getD i (0, 0)).1 ∧ g i = ((inf l p t).getD i (0, 0)).2 := by
  have hl : i < (inf l p t).length := by rw [inf_len]; exact hi
  have := h i _ (List.getElem?_eq_getElem hl)
  rw [Nat.zero_add] at this
  rw [List.getD_eq_getElem?_getD, List.getElem?_eq_getElem hl]
  exact this
theorem x_path (hd : 7 ≤ d) (hA : AOk A) (h : RX A M) : XL (pcl GG lay d 18 [.ref 0, .int a, .int b] M) M (F_path A a b) := by
  obtain ⟨d, rfl⟩ := ex_add hd
  unfold F_path
  have rf : ∀ k, k < 8 → XL (kI (pcl GG lay (d + 6) 56 [.ref 0, .int (jz k)] M) fun r M => rL r.toInt64 M) M ((jz k).toInt64, (rfs A k).2) := fun k hk => by
    obtain ⟨M', e1, e2, e3⟩ := x_ref0 (d := d + 6) (k := k) (by omega) h hk
    exact ⟨M', by rw [e1, kI_r]; rfl, e2, e3⟩
  rw [q_18, c_hasT (by omega) hA h, kI_r]
  by_cases h2 : hsT A a
  case neg => rw [bI_n h2, ieq_pos rfl, if_pos h2]; exact rf 1 (by omega)
  rw [bI_1 h2, ieq_neg (by omega) (by omega) (by omega), if_neg (Classical.not_not.mpr h2)]
  obtain ⟨n, t, rfl, k1, k2, k3, k4, k5⟩ := ts_of hA h2
  have hta : At (M.1 7) (40 * n) (en t) := h.1.2.1 n t k1
  rw [k2, c_tp (by omega), kI_r, c_hasN (by omega) k3 hta (by omega), kI_r]
  by_cases h3 : 0 ≤ b.toInt ∧ b.toInt < (sz t : Nat)
  case neg => rw [bI_n h3, ieq_pos rfl, if_pos h3]; exact rf 5 (by omega)
  rw [bI_1 h3, ieq_neg (by omega) (by omega) (by omega), if_neg (Classical.not_not.mpr h3)]
  obtain ⟨i, hi, rfl⟩ := inn h3
  obtain ⟨M', e1, e2, e3, e4, e5⟩ := x_lay (d := d + 6) (by omega) hA h k1
  rw [c_tp (by omega), kI_r, e1, kV_r, q_186, c_getL (n := 40) (by omega) rfl (by omega) (by omega), kL_r, kL_r, jnN (by omega), (ly_at e5 hi).2]
  exact ⟨M', rfl, e2, e3⟩
theorem pth_0 (q : Int64) : Int64.ofInt 3 * q + Int64.ofNat 1 + (jn 0).toInt64 = pth q 1 := by
  rw [Int64.add_assoc, show Int64.ofNat 1 + (jn 0).toInt64 = (jn 1).toInt64 by decide]
theorem pth_1 (q : Int64) : Int64.ofInt 3 * q + Int64.ofNat 1 + (jn 1).toInt64 = pth q 2 := by
  rw [Int64.add_assoc, show Int64.ofNat 1 + (jn 1).toInt64 = (jn 2).toInt64 by decide]
end
