/-! meets: what is asked; the model's side -/
noncomputable def metV (A : AT) (o : Tm × Tm × Tm) : Int32 := match rnA A (jn 300) o.2.1 0 0 with
  | (none, _) => jn 2
  | (some u, _) => match rnA A (jn 300) o.2.2 0 0 with
    | (none, _) => jn 2
    | (some v, _) => bI (en u = en v)
noncomputable def F_meets (A : AT) (a b c : Int32) : Int32 × AT := if ¬ hsR A a then rfs A 1 else if ¬ hsR A b then rfs A 1 else if c.toInt < 0 then rfs A 5 else match (ovN A a b)[c.toInt.toNat]? with
  | none => rfs A 5
  | some o => (metV A o, A)
theorem k_meets {A : AT} {a b c : Int32} (hA : AOk A) : AOk (F_meets A a b c).2 := by
  unfold F_meets
  repeat' split
  all_goals exact hA
/-- the innermost doesn't fail -/
theorem inn_ov {A : AT} (hA : AOk A) (h0 : 0 < (rsA A).length) : ∀ n t p q, wf t → sz t ≤ 40 → QOk q → ∀ q', runF (gM A) (fM A) n (jn 300) t p q = (none, q') → q'.2.2.2 = true := by
  have hv : okM A (jn 300) := Or.inr (Or.inl ⟨rfl, h0⟩)
  intro n
  induction n with
  | zero => intro t p q _ _ _ q' h; cases h; rfl
  | succ n ih =>
    intro t p q ht hs hq q' h
    by_cases h6 : q.1 = 600
    · rw [runF_600 h6] at h; cases h; rfl
    rw [runF_succ h6, gM_b] at h
    have RO : RFun True 1 (runF (gM A) (fM A) n (jn 300)) := runF_ok (gM_ok hA) (fM_ok hA) n _ hv
    have hsv : okM A (gM A (jn 300)).2.1 := (gM_ok hA _ hv).2.1 (by rw [gM_b]; show 2 < 12; omega)
    have SO : RFun True 1 (runF (gM A) (fM A) n (gM A (jn 300)).2.1) := runF_ok (gM_ok hA) (fM_ok hA) n _ hsv
    have hall : ∀ t p q, wf t → sz t ≤ 40 → QOk q → ∀ q', allC (runF (gM A) (fM A) n (jn 300)) t p q = (none, q') → q'.2.2.2 = true := by
      intro t p q ht hs hq q' h
      obtain ⟨c, a, b, rfl, -⟩ := wf_cases ht
      obtain ⟨w2, w1, w0⟩ := wf_a ht
      have hz := sz_n c a b
      have ck : ∀ t q, chk t q = (none, q') → q'.2.2.2 = true := by
        intro t q h
        unfold chk at h
        split at h
        · cases h; rfl
        · cases h
      unfold allC at h
      simp only at h
      split at h
      · rename_i h2
        obtain ⟨wa, wb⟩ := w2 h2
        rcases e : runF (gM A) (fM A) n (jn 300) a (pth p 1) q with ⟨_ | a', q1⟩
        · rw [e] at h
          cases h
          exact ih a _ q wa (by omega) hq _ e
        · have r1 := RO a (pth p 1) q wa (by omega) hq
          rw [e] at h r1
          simp only at h
          rcases e' : runF (gM A) (fM A) n (jn 300) b (pth p 2) q1 with ⟨_ | b', q2⟩
          · rw [e'] at h
            cases h
            exact ih b _ q1 wb (by omega) r1.2.2.1 _ e'
          · rw [e'] at h
            exact ck _ _ h
      · split at h
        · rename_i h2 h1
          obtain ⟨wa, rfl⟩ := w1 h2 h1
          rcases e : runF (gM A) (fM A) n (jn 300) a (pth p 1) q with ⟨_ | a', q1⟩
          · rw [e] at h
            cases h
            exact ih a _ q wa (by omega) hq _ e
          · rw [e] at h
            exact ck _ _ h
        · exact ck _ _ h
    have hinn : ∀ m t p q, wf t → sz t ≤ 40 → QOk q → ∀ q', innC (runF (gM A) (fM A) n (jn 300)) (runF (gM A) (fM A) n (gM A (jn 300)).2.1) m t p q = (none, q') → q'.2.2.2 = true := by
      intro m
      induction m with
      | zero => intro t p q _ _ _ q' h; cases h; rfl
      | succ m im =>
        intro t p q ht hs hq q' h
        unfold innC at h
        have r0 := allC_ok RO t p q ht hs hq
        rcases e : allC (runF (gM A) (fM A) n (jn 300)) t p q with ⟨_ | t1, q1⟩
        · rw [e] at h
          cases h
          exact hall t p q ht hs hq _ e
        rw [e] at h r0
        simp only at h
        have r1 := SO t1 p q1 r0.1 r0.2.1 r0.2.2.1
        rcases e2 : runF (gM A) (fM A) n (gM A (jn 300)).2.1 t1 p q1 with ⟨_ | t2, q2⟩
        · rw [e2] at h
          simp only at h
          split at h
          · rename_i ho; cases h; exact ho
          · cases h
        · rw [e2] at h r1
          simp only at h
          split at h
          · cases h; rfl
          · rename_i h6
            have hq2 := r1.2.2.1
            exact im t2 p (bgn q2) r1.1 r1.2.1 ⟨by have := hq2.1; show q2.1 + 1 ≤ 600; omega, hq2.2⟩ q' h
    have hb : bodF (gM A) (fM A) n (jn 300) 12 t p (bgn q) = innC (runF (gM A) (fM A) n (jn 300)) (runF (gM A) (fM A) n (gM A (jn 300)).2.1) 601 t p (bgn q) := rfl
    have h : bck q (bodF (gM A) (fM A) n (jn 300) 12 t p (bgn q)) = (none, q') := h
    rw [hb] at h
    rcases e : innC (runF (gM A) (fM A) n (jn 300)) (runF (gM A) (fM A) n (gM A (jn 300)).2.1) 601 t p (bgn q) with ⟨_ | u, q1⟩
    · rw [e] at h
      have := hinn 601 t p (bgn q) ht hs ⟨by have := hq.1; show q.1 + 1 ≤ 600; omega, hq.2⟩ q1 e
      cases h
      exact this
    · rw [e] at h
      cases h
section
variable {d : Nat} {A : AT} {M M' : PM} {a b c e f : Int32} {t : Tm} {x : Nat}
theorem rn300 (hA : AOk A) (h0 : 0 < (rsA A).length) (ht : wf t) (hs : sz t ≤ 40) : trlV (jn 0) (rnA A (jn 300) t 0 0) = (match rnA A (jn 300) t 0 0 with | (none, _) => jn 2 | (some _, _) => jn 0) := by
  rcases e : rnA A (jn 300) t 0 0 with ⟨_ | u, q⟩
  · have := inn_ov hA h0 601 t _ (stQ 0 0) ht hs (stQ_ok (by omega) (by omega)) q e
    unfold trlV
    simp only [if_pos this, if_true]
  · unfold trlV
    simp only [if_true]
end
