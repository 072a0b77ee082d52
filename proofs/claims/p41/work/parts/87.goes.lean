/-! the model's run: any strategy -/
/-- what a strategy of a kind does, once begun -/
def bodF (g : Int32 → Nat × Int32 × Int32) (f : Int32 → Tm → Int64 → RnS → RnR) (n : Nat) (s : Int32) (k : Nat) (t : Tm) (p : Int64) (q : RnS) : RnR := match k with
    | 0 => f (g s).2.1 t p q
    | 1 => (some t, q)
    | 2 => (none, q)
    | 3 => (match runF g f n (g s).2.1 t p q with
      | (none, q1) => (none, q1)
      | (some t1, q1) => runF g f n (g s).2.2 t1 p q1)
    | 4 => (match runF g f n (g s).2.1 t p q with
      | (some t1, q1) => (some t1, q1)
      | (none, q1) => if q1.2.2.2 = true then (none, q1) else runF g f n (g s).2.2 t p q1)
    | 5 => (match runF g f n (g s).2.1 t p q with
      | (some t1, q1) => (some t1, q1)
      | (none, q1) => if q1.2.2.2 = true then (none, q1) else (some t, q1))
    | 6 => allC (runF g f n (g s).2.1) t p q
    | 7 => oneC (runF g f n (g s).2.1) t p q
    | 8 => somC (runF g f n (g s).2.1) t p q
    | 9 => (match allC (runF g f n s) t p q with
      | (none, q1) => (none, q1)
      | (some t1, q1) => runF g f n (g s).2.1 t1 p q1)
    | 10 => (match runF g f n (g s).2.1 t p q with
      | (none, q1) => (none, q1)
      | (some t1, q1) => allC (runF g f n s) t1 p q1)
    | 11 => (match runF g f n (g s).2.1 t p q with
      | (some t1, q1) => (some t1, q1)
      | (none, q1) => if q1.2.2.2 = true then (none, q1) else oneC (runF g f n s) t p q1)
    | 12 => innC (runF g f n s) (runF g f n (g s).2.1) 601 t p q
    | _ => repC (runF g f n (g s).2.1) 601 t p q
theorem runF_succ {g : Int32 → Nat × Int32 × Int32} {f : Int32 → Tm → Int64 → RnS → RnR} {n : Nat} {s : Int32} {t : Tm} {p : Int64} {q : RnS} (h6 : ¬ q.1 = 600) : runF g f (n + 1) s t p q = bck q (bodF g f n s (g s).1 t p (bgn q)) := by
  rw [runF, if_neg h6]
  rfl
theorem runF_600 {g : Int32 → Nat × Int32 × Int32} {f : Int32 → Tm → Int64 → RnS → RnR} {n : Nat} {s : Int32} {t : Tm} {p : Int64} {q : RnS} (h6 : q.1 = 600) : runF g f (n + 1) s t p q = ovr q := by
  rw [runF, if_pos h6]
section
variable {d : Nat} {A : AT} {M M1 M' : PM} {a b c e f : Int32} {v : Int64} {T : Tm} {q : RnS} {K i : Nat}
theorem OutM.bck {s : Prop} {u : Tm} {o : RnR} (h : OutM s A T i u (bgn q) K M1 o M') (hf : Fr [52] M M1) : OutM False A T i u q K M (bck q o) M' := by
  have k1 : Kp K M M1 := Kp.of hf (by decide)
  obtain ⟨o, q'⟩ := o
  cases o with
  | some t => exact ⟨k1.trans h.1, h.2⟩
  | none =>
    rcases h with ⟨h0, h1, h2⟩ | ⟨h0, h1, u2, tr, h2, h3, h4, h5⟩
    · exact Or.inl ⟨h0, k1.1.trans h1, h2⟩
    · exact Or.inr ⟨h0, k1.trans h1, u2, tr, fun z => z.elim, h3, h4, h5⟩
theorem bck_some {o : RnR} : (bck q o).1 = o.1 := by
  obtain ⟨o, q'⟩ := o
  cases o <;> rfl
theorem ROk.wfs {s : Prop} {k : Nat} {u : Tm} {o : RnR} (h : ROk s k u q o) : ∀ t, o.1 = some t → wf t := by
  obtain ⟨o, q'⟩ := o
  intro t ht
  cases o with
  | none => cases ht
  | some t' => cases ht; exact h.1
/-- another one at what was made -/
theorem m_then {N k k' k2 : Nat} {s s' s2 : Prop} {c : Nat → PM → PO} {u : Tm} {q1 : RnS} {t1 : Tm} {R : Tm → Int64 → RnS → RnR} (hR : RFun s2 k2 R) (hc : Srv A N k' s' c R) (hT : wf T) (hi : i < sz T) (hu : sub T i = u) (hTs : sz T ≤ 40 + 39 * q.2.1) (hK : K ≤ 42 * (q.1 + 0)) (hN : N ≤ q.1) (f : OutM s A T i u q K M (some t1, q1) M1) (r : ROk s2 k u q (some t1, q1)) :
    ∃ M', c i M1 = rI (bI ((R t1 (paT T i) q1).1.isSome = true)) M' ∧ OutM False A T i u q K M (R t1 (paT T i) q1) M' := by
  have hw : wf u := hu ▸ sub_wf hT hi
  obtain ⟨g1, g2, g3, g4, g5, g6, g7⟩ := id r
  have hT1 := rep_wf hT hi g1
  have hTs1 := sz_ok hT hi hu hTs r
  obtain ⟨M2, p1, p2⟩ := hc (rep T i t1) i t1 q1 K M1 hT1 (rep_lt hT hi g1) (sub_rep hT hi g1) g2 g3 hTs1 (by omega) (by omega) f.2
  rw [pa_rep hT hi g1] at p1 p2
  have r2 := hR t1 (paT T i) q1 g1 g2 g3
  exact ⟨M2, p1, f.loose.seq hT hi hw r p2.loose r2.wfs⟩
/-- another one where a try failed -/
theorem m_else {N k k' : Nat} {s' : Prop} {c : Nat → PM → PO} {u : Tm} {q1 : RnS} {R : Tm → Int64 → RnS → RnR} (hc : Srv A N k' s' c R) (hT : wf T) (hi : i < sz T) (hu : sub T i = u) (hs : sz u ≤ 40) (hTs : sz T ≤ 40 + 39 * q.2.1) (hK : K ≤ 42 * (q.1 + 0)) (hN : N ≤ q.1) (r : ROk True k u q (none, q1)) (ho : ¬ q1.2.2.2 = true) (k1 : Kp K M M1) (m1 : RunM A T q1 K M1) :
    ∃ M', c i M1 = rI (bI ((R u (paT T i) q1).1.isSome = true)) M' ∧ OutM s' A T i u q K M (R u (paT T i) q1) M' := by
  obtain ⟨g1, g2, g3, g4⟩ := r.resolve_left ho
  obtain ⟨M2, p1, p2⟩ := hc T i u q1 K M1 hT hi hu hs g1 (by omega) (by omega) (by omega) m1
  exact ⟨M2, p1, p2.els r ho k1⟩
end
