/-! the model's run: again and again; what strategies are -/
section
variable {d : Nat} {A : AT} {M M1 M' : PM} {a b c e f : Int32} {v : Int64} {T : Tm} {q : RnS} {K i : Nat}
theorem sz_ok {s : Prop} {k : Nat} {u t : Tm} {q1 : RnS} (hT : wf T) (hi : i < sz T) (hu : sub T i = u) (hTs : sz T ≤ 40 + 39 * q.2.1) (h : ROk s k u q (some t, q1)) : sz (rep T i t) ≤ 40 + 39 * q1.2.1 := by
  obtain ⟨g1, g2, g3, g4, g5, g6, g7⟩ := h
  have := rep_sz (s := t) hT hi
  have z := sub_sz hT hi
  rw [hu] at this z
  omega
end
/-- what strategies are: those told; 300 innermost of all rules, 1000 and k a choice of the first k and one, 200 and k a rule -/
def gM (A : AT) (w : Int32) : Nat × Int32 × Int32 := if w = jn 300 then (12, jn (999 + (rsA A).length), jz 1) else if w.toInt < 1000 then (if w.toInt < 200 then (ssA A).getD w.toInt.toNat (1, jz 1, jz 1) else (0, w - jn 200, jz 1)) else if w = jn 1000 then (0, jn 0, jz 1) else (4, w - jn 1, jn 200 + w - jn 1000)
def fM (A : AT) (r : Int32) : Tm → Int64 → RnS → RnR := rulC (cmA A) ((rsA A).getD r.toInt.toNat (Lf, Lf)) r.toInt.toNat
def okR (A : AT) (r : Int32) : Prop := ∃ k, k < (rsA A).length ∧ r = jn k
def okM (A : AT) (w : Int32) : Prop := (∃ k, k < (ssA A).length ∧ w = jn k) ∨ (w = jn 300 ∧ 0 < (rsA A).length) ∨ (∃ k, k < (rsA A).length ∧ w = jn (200 + k)) ∨ ∃ k, k < (rsA A).length ∧ w = jn (1000 + k)
section
variable {d : Nat} {A : AT} {M : PM}
theorem gM_t (hA : AOk A) {k : Nat} (hk : k < (ssA A).length) : ∃ g, (ssA A)[k]? = some g ∧ gM A (jn k) = g ∧ sgOk (rsA A).length k g ∧ k < 24 := by
  obtain ⟨g, hg⟩ : ∃ g, (ssA A)[k]? = some g := ⟨_, List.getElem?_eq_getElem hk⟩
  obtain ⟨h1, h2⟩ := sg_ok hA hg
  refine ⟨g, hg, ?_, h1, h2⟩
  unfold gM
  rw [if_neg (by rw [jn_inj (by omega) (by omega)]; omega), if_pos (by rw [jn_toInt (by omega)]; omega), if_pos (by rw [jn_toInt (by omega)]; omega), jnN (by omega), List.getD_eq_getElem?_getD, hg]
  rfl
theorem gM_b : gM A (jn 300) = (12, jn (999 + (rsA A).length), jz 1) := if_pos rfl
theorem gM_r {k : Nat} (hk : k < 12) : gM A (jn (200 + k)) = (0, jn k, jz 1) := by
  unfold gM
  rw [if_neg (by rw [jn_inj (by omega) (by omega)]; omega), if_pos (by rw [jn_toInt (by omega)]; omega), if_neg (by rw [jn_toInt (by omega)]; omega), jn_sub (by omega), Nat.add_sub_cancel_left]
theorem gM_0 : gM A (jn (1000 + 0)) = (0, jn 0, jz 1) := by
  unfold gM
  rw [if_neg (by rw [jn_inj (by omega) (by omega)]; omega), if_neg (by rw [jn_toInt (by omega)]; omega), if_pos rfl]
theorem gM_c {k : Nat} (hk : k < 11) : gM A (jn (1000 + (k + 1))) = (4, jn (1000 + k), jn (200 + (k + 1))) := by
  unfold gM
  rw [if_neg (by rw [jn_inj (by omega) (by omega)]; omega), if_neg (by rw [jn_toInt (by omega)]; omega), if_neg (by rw [jn_inj (by omega) (by omega)]; omega), jn_sub (by omega), jn_add, jn_sub (by omega), show 1000 + (k + 1) - 1 = 1000 + k by omega, show 200 + (1000 + (k + 1)) - 1000 = 200 + (k + 1) by omega]
theorem rs_le (hA : AOk A) : (rsA A).length ≤ 12 := hA.1.2.1.1
theorem gM_ok (hA : AOk A) : GOk (okM A) (okR A) (gM A) := by
  have hl := rs_le hA
  intro w hw
  rcases hw with ⟨k, hk, rfl⟩ | ⟨rfl, h0⟩ | ⟨k, hk, rfl⟩ | ⟨k, hk, rfl⟩
  · obtain ⟨g, h1, h2, ⟨h3, h4, h5, h6, h7⟩, h8⟩ := gM_t hA hk
    rw [h2]
    refine ⟨fun q => h4 q, fun q => ?_, fun q => ?_⟩
    · obtain ⟨s, q1, q2⟩ := h6 q
      exact Or.inl ⟨s, by omega, q2⟩
    · rw [if_pos q] at h7
      obtain ⟨s, q1, q2⟩ := h7
      exact Or.inl ⟨s, by omega, q2⟩
  · rw [gM_b]
    exact ⟨fun q => by simp at q, fun _ => Or.inr (Or.inr (Or.inr ⟨(rsA A).length - 1, by omega, by show jn _ = jn _; congr 1; omega⟩)), fun q => by simp at q⟩
  · rw [gM_r (by omega)]
    exact ⟨fun _ => ⟨k, hk, rfl⟩, fun q => by simp at q, fun q => by simp at q⟩
  · cases k with
    | zero =>
      rw [gM_0]
      exact ⟨fun _ => ⟨0, hk, rfl⟩, fun q => by simp at q, fun q => by simp at q⟩
    | succ k =>
      rw [gM_c (by omega)]
      exact ⟨fun q => by simp at q, fun _ => Or.inr (Or.inr (Or.inr ⟨k, by omega, rfl⟩)), fun _ => Or.inr (Or.inr (Or.inl ⟨k + 1, hk, rfl⟩))⟩
theorem rulC_ok {cm l : Nat} {r : Tm × Tm} (hr : rlOk r) (hl : l < 12) : RFun True 0 (rulC cm r l) := by
  intro t p q ht hs hq
  unfold rulC
  rcases e : mat cm r.1 t with _ | E
  · exact ROk.fl hq
  · simp only
    split
    · exact ROk.over _
    split
    · exact ROk.over _
    rename_i h1 h2
    have z := sz_pos t ht
    obtain ⟨q1, q2, q3, q4, q5⟩ := hq
    refine ⟨sb_wf (mat_ok ht hs e) _ hr.2.1, by omega, ⟨q1, by show q.2.1 + 1 ≤ 40; omega, ?_, q4, ?_⟩, by show q.1 + 0 ≤ q.1; omega, by show q.2.1 ≤ q.2.1 + 1; omega, by show _ ≤ sz t + 39 * (q.2.1 + 1); omega, _, rfl⟩
    · show (q.2.2.1 ++ [(l, p)]).length ≤ q.2.1 + 1
      rw [List.length_append]
      show _ + 1 ≤ _
      omega
    · intro x hx
      rcases List.mem_append.mp hx with hx | hx
      · exact q5 x hx
      · rw [List.mem_singleton] at hx; rw [hx]; exact hl
theorem rl_at (hA : AOk A) {k : Nat} (hk : k < (rsA A).length) : ∃ r, (rsA A)[k]? = some r ∧ (rsA A).getD k (Lf, Lf) = r ∧ rlOk r ∧ k < 12 := by
  obtain ⟨r, hr⟩ : ∃ g, (rsA A)[k]? = some g := ⟨_, List.getElem?_eq_getElem hk⟩
  obtain ⟨h1, h2⟩ := rl_ok hA hr
  exact ⟨r, hr, by rw [List.getD_eq_getElem?_getD, hr]; rfl, h1, h2⟩
theorem fM_ok (hA : AOk A) : FOk (okR A) (fM A) := by
  rintro r ⟨k, hk, rfl⟩
  obtain ⟨rl, h1, h2, h3, h4⟩ := rl_at hA hk
  unfold fM
  rw [jnN (by omega), h2]
  exact rulC_ok h3 h4
end
