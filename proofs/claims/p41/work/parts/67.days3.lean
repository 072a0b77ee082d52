/-! days by the model -/
section
variable {d : Nat} {A : AT} {M : PM} {a b c e f : Int32} {v : Int64}
theorem m_setT {n : Nat} {t t0 : Tm} {g : Nat → Int32} (hA : AOk A) (h : RM A M) (hn : (tsA A)[n]? = some t0) (hs : sz t ≤ 40) (hg : ∀ i, (i < 40 * n ∨ 40 * n + 40 ≤ i) → g i = M.1 54 i) (hat : At g (40 * n) (en t)) : RM (stT A n t) (sI (sI M 53 (va_up (M.1 53) n (jn (sz t)))) 54 g) := by
  have hf : Fr [53, 54] M (sI (sI M 53 (va_up (M.1 53) n (jn (sz t)))) 54 g) := (Fr.sI (by decide)).trans (Fr.sI (by decide))
  refine setK_m h ?_ (hf.mono (by decide)) (fun j _ => rfl)
  obtain ⟨⟨⟨a1, a2, a3, a4, a5⟩, a6, a7, a8⟩, -⟩ := h
  refine ⟨⟨?_, a2, a3, a4, a5⟩, fun i u hi => ?_, a7, a8⟩
  · refine a1.trans ?_
    show _ = jn ((tsA A).set n t).length
    rw [List.length_set]
  · show (sI (sI M 53 (va_up (M.1 53) n (jn (sz t)))) 54 g).1 53 i = jn (sz u) ∧ At ((sI (sI M 53 (va_up (M.1 53) n (jn (sz t)))) 54 g).1 54) (40 * i) (en u)
    rw [sI_k, sI_o _ _ (by omega), sI_k, up_at]
    rcases set_get hi with ⟨h1, h2⟩ | ⟨h1, h2⟩
    · rw [h1, h2, if_pos rfl]; exact ⟨rfl, hat⟩
    · have := tm_ok hA h2
      have hz := this.2.1
      rw [if_neg h1]
      exact ⟨(a6 i u h2).1, AT_congr (a6 i u h2).2 (fun j j1 j2 => hg j (by omega))⟩
end
