/-! image and restore of the model -/
section
variable {d : Nat} {A : AT} {M : PM}
theorem KM_cp {P P' : MP} {K : KT} {M M' : PM} (hk : KOk K) (h : KM P K M) (h0 : M'.1 52 P'.1.1 = M.1 52 P.1.1 ∧ M'.1 52 P'.1.2.1 = M.1 52 P.1.2.1 ∧ M'.1 52 P'.1.2.2.1 = M.1 52 P.1.2.2.1 ∧ M'.1 52 P'.1.2.2.2.1 = M.1 52 P.1.2.2.2.1 ∧ M'.1 52 P'.1.2.2.2.2 = M.1 52 P.1.2.2.2.2)
    (h1 : ∀ i, i < 24 → M'.1 P'.2.1.1 i = M.1 P.2.1.1 i ∧ M'.1 P'.2.1.2.2.1 i = M.1 P.2.1.2.2.1 i ∧ M'.1 P'.2.2.1 i = M.1 P.2.2.1 i ∧ M'.1 P'.2.2.2.1 i = M.1 P.2.2.2.1 i ∧ M'.1 P'.2.2.2.2 i = M.1 P.2.2.2.2 i)
    (h2 : ∀ i, i < 960 → M'.1 P'.2.1.2.1 i = M.1 P.2.1.2.1 i ∧ M'.1 P'.2.1.2.2.2 i = M.1 P.2.1.2.2.2 i) : KM P' K M' := by
  obtain ⟨⟨a1, a2, a3, a4, a5⟩, a6, a7, a8⟩ := h
  obtain ⟨⟨k1, k2⟩, ⟨k3, k4⟩, ⟨k5, -⟩, -⟩ := hk
  obtain ⟨b1, b2, b3, b4, b5⟩ := h0
  refine ⟨⟨b1.trans a1, b2.trans a2, b3.trans a3, b4.trans a4, b5.trans a5⟩, fun i t hi => ?_, fun i r hi => ?_, fun i q hi => ?_⟩
  · have hl : i < K.1.length := (List.getElem?_eq_some_iff.mp hi).1
    have h40 := (k2 t (List.mem_of_getElem? hi)).2
    exact ⟨((h1 i (by omega)).1).trans (a6 i t hi).1, AT_congr (a6 i t hi).2 (fun j h3 h4 => (h2 j (by omega)).1)⟩
  · have hl : i < K.2.1.length := (List.getElem?_eq_some_iff.mp hi).1
    have h8 := k4 r (List.mem_of_getElem? hi)
    have h9 := h8.2.2.1
    have h10 := h8.2.2.2.1
    obtain ⟨c1, c2, c3, c4⟩ := a7 i r hi
    exact ⟨((h1 (2 * i) (by omega)).2.1).trans c1, ((h1 (2 * i + 1) (by omega)).2.1).trans c2, AT_congr c3 (fun j h3 h4 => (h2 j (by omega)).2), AT_congr c4 (fun j h3 h4 => (h2 j (by omega)).2)⟩
  · have hl : i < K.2.2.1.length := (List.getElem?_eq_some_iff.mp hi).1
    obtain ⟨c1, c2, c3⟩ := a8 i q hi
    obtain ⟨-, -, d1, d2, d3⟩ := h1 i (by omega)
    exact ⟨d1.trans c1, d2.trans c2, d3.trans c3⟩
def im52 (M : PM) : Nat → Int32 := va_up (va_up (va_up (va_up (va_up (va_up (M.1 52) 48 (jn 1)) 49 (M.1 52 0)) 52 (M.1 52 3)) 55 (M.1 52 6)) 59 (M.1 52 11)) 60 (M.1 52 12)
def re52 (M : PM) : Nat → Int32 := va_up (va_up (va_up (va_up (va_up (M.1 52) 0 (M.1 52 49)) 3 (M.1 52 52)) 6 (M.1 52 55)) 11 (M.1 52 59)) 12 (M.1 52 60)
end
