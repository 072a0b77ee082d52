/-! from the world that both constructors leave, the law's loop comes to its end -/
theorem k276_ok : ∀ x ∈ k_276, eok pfl pml pkl 15 code x = true := by
  have h : k_276.all (eok pfl pml pkl 15 code) = true := by
    unfold k_276
    simp only [List.all_append, Bool.and_eq_true]
    exact ⟨e_276_0, e_276_1, e_276_2, e_276_3, e_276_4, e_276_5, e_276_6, e_276_7, e_276_8, e_276_9, e_276_10⟩
  exact fun x hx => List.all_eq_true.mp h x hx
theorem law_tail {p : Program} {e : Env} {s : State} {m : MethodId} {below : List Frame} {meth : Method} {c : Code} (l : Launch) {b L : Nat} {xs : Nat → Int32} (hL : L ≤ 3072) (C0 : lw_At p s m meth c b L xs) {D : va_G} {cI cL : ClassId} {ad : Nat → Nat} (had : ad 88 = b)
    (hNM : ∀ q ∈ NMl, va_Nw (.methodLinkNest q.1 q.2.1 q.2.2.1 q.2.2.2) s) (hNF : ∀ q ∈ NFl, va_Nw (.fieldLinkNest q.1 q.2.1 q.2.2.1 q.2.2.2.1 q.2.2.2.2.1 q.2.2.2.2.2) s) (hK : va_K D vwCl [(cI, .int), (cL, .long)] s)
    {H : Heap} {locs : List Loc} {ls : Array Slot} (hP : va_P D vwCl (wld cI cL ad lay M0) H) (hD : va_D (fun q : Nat => s.heap.size ≤ q) (wld cI cL ad lay M0)) (hS : va_S (fun q : Nat => s.heap.size ≤ q) s.heap H locs)
    (hl : lv_has ls 4 [(0, .ref b), (1, .ref (ad 0)), (2, .ref (ad 52)), (3, .int 0)]) : W p l e room_1 s m #[Value.ref b] below meth c H locs 600000 7302250 (lw_Z below #[Value.ref b] s) (F0 m 18 ls []) := by
  obtain ⟨hx, hb, hr, hml, hown, hts, hX, hbl, hlocks, hgv⟩ := id C0
  obtain ⟨M', n, hn⟩ := law_true L xs hL
  have F : Fx lay 2040 nmF TW NMl NFl 15 code 4 p s m #[Value.ref b] c room_1 600000 7302250 (fun q : Nat => s.heap.size ≤ q) cI cL D (some (L, xs)) ad := by
    refine ⟨hx, hb, hml, hown, fun w h => hts w (List.mem_filter.mp h).1, hNM, hNF, hK, fun q h => h, (fun n xs h => ?_), Nat.le_of_ble_eq_true rfl, Nat.le_of_ble_eq_true rfl, Nat.le_of_ble_eq_true rfl, Nat.le_of_ble_eq_true rfl⟩
    cases h
    have h88 : ad lay.length = b := had
    rw [h88]
    exact ⟨hX, hbl, Nat.not_le.mpr hbl⟩
  refine bodyW (rk := 2) (code := k_276) tk F (met_all l D cI cL 2040) k276_ok (r := (some (.int (jn 1)), M')) ?_ n (18, [some (.ref 88), some (.ref 0), some (.ref 52), some (.int (jn 0))], [], M0) H locs ls hn hP hD hS (lv_mono hl ?_) rfl
  · intro H' locs' ls' pc' hP' hD' hS'
    refine ⟨fun h1 => (by cases h1), fun v h1 h2 h3 => ?_, fun v h1 => (by cases h1)⟩
    have hv : v = 1 := by
      have h1 : some (Value.int (jn 1)) = some (Value.int v) := h1
      cases h1
      decide
    subst hv
    refine va_forget (fun q hq => hS'.2.2 q hq) ?_
    exact lw_ret hx hb hr hlocks h3
  · intro q hq
    obtain ⟨i, v⟩ := q
    obtain ⟨w, h1, h2⟩ := asc_mem.mp hq
    have h3 := (lcv_inv h1).1
    match i, h3 with
    | 0, h3 =>
      have h3 : some (Value.ref 88) = some w := h3
      cases h3
      rw [← h2]
      show (0, Value.ref (ad 88)) ∈ _
      rw [had]; simp
    | 1, h3 =>
      have h3 : some (Value.ref 0) = some w := h3
      cases h3
      rw [← h2]
      show (1, Value.ref (ad 0)) ∈ _
      simp
    | 2, h3 =>
      have h3 : some (Value.ref 52) = some w := h3
      cases h3
      rw [← h2]
      show (2, Value.ref (ad 52)) ∈ _
      simp
    | 3, h3 =>
      have h3 : some (Value.int (jn 0)) = some w := h3
      cases h3
      rw [← h2]
      show (3, Value.int (jn 0)) ∈ _
      rw [J0]; simp
    | i + 4, h3 =>
      have h3 : none = some w := h3
      cases h3
