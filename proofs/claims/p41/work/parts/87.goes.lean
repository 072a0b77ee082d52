/-! the model's run: any strategy -/
/-- what a strategy of a kind does, once begun -/
def bodF (g : Int32 → Nat × Int32 × Int32) (f : Int32 → Tm → Int64 → RnS → RnR) (n : Nat) (s : Int32) (k : Nat) (t : Tm) (p : Int64) (q : RnS) : RnR := match k with
    | 0 => f (g s).2.1 t p q
    | 1 => (some t, q)
    | 2 => (none, q)
    | 3 => (match runF g f n (g s).2.1 t p q with
      | (none, q1) => (none, q1)
      | (some t1, q1) => runF g f n (g s).2.2 t1 p q1)
    | 4 => (match runF g f n (g s).2.1 t p q with
      | (some t1, q1) => (some t1, q1)
      | (none, q1) => if q1.2.2.2 = true then (none, q1) else runF g f n (g s).2.2 t p q1)
    | 5 => (match runF g f n (g s).2.1 t p q with
      | (some t1, q1) => (some t1, q1)
      | (none, q1) => if q1.2.2.2 = true then (none, q1) else (some t, q1))
    | 6 => allC (runF g f n (g s).2.1) t p q
    | 7 => oneC (runF g f n (g s).2.1) t p q
    | 8 => somC (runF g f n (g s).2.1) t p q
    | 9 => (match allC (runF g f n s) t p q with
      | (none, q1) => (none, q1)
      | (some t1, q1) => runF g f n (g s).2.1 t1 p q1)
    | 10 => (match runF g f n (g s).2.1 t p q with
      | (none, q1) => (none, q1)
      | (some t1, q1) => allC (runF g f n s) t1 p q1)
    | 11 => (match runF g f n (g s).2.1 t p q with
      | (some t1, q1) => (some t1, q1)
      | (none, q1) => if q1.2.2.2 = true then (none, q1) else oneC (runF g f n s) t p q1)
    | 12 => innC (runF g f n s) (runF g f n (g s).2.1) 601 t p q
    | _ => repC (runF g f n (g s).2.1) 601 t p q
theorem runF_succ {g : Int32 → Nat × Int32 × Int32} {f : Int32 → Tm → Int64 → RnS → RnR} {n : Nat} {s : Int32} {t : Tm} {p : Int64} {q : RnS} (h6 : ¬ q.1 = 600) : runF g f (n + 1) s t p q = bck q (bodF g f n s (g s).1 t p (bgn q)) := by
  rw [runF, if_neg h6]
  rfl
theorem runF_600 {g : Int32 → Nat × Int32 × Int32} {f : Int32 → Tm → Int64 → RnS → RnR} {n : Nat} {s : Int32} {t : Tm} {p : Int64} {q : RnS} (h6 : q.1 = 600) : runF g f (n + 1) s t p q = ovr q := by
  rw [runF, if_pos h6]
section
variable {d : Nat} {A : AT} {M M1 M' : PM} {a b c e f : Int32} {v : Int64} {T : Tm} {q : RnS} {K i : Nat}
theorem bck_some {o : RnR} : (bck q o).1 = o.1 := by
  obtain ⟨o, q'⟩ := o
  cases o <;> rfl
theorem ROk.wfs {s : Prop} {k : Nat} {u : Tm} {o : RnR} (h : ROk s k u q o) : ∀ t, o.1 = some t → wf t := by
  obtain ⟨o, q'⟩ := o
  intro t ht
  cases o with
  | none => cases ht
  | some t' => cases ht; exact h.1
end
