/-! THE STATE: what both sides hold -/
theorem AT_congr {f g : Nat → Int32} {t : Tm} {p : Nat} (h : At f p (en t)) (e : ∀ i, p ≤ i → i < p + sz t → g i = f i) : At g p (en t) := At_congr h e
theorem AT_cp {g f : Nat → Int32} {t : Tm} {sp dp n : Nat} (h : At g sp (en t)) (hn : sz t ≤ n) : At (cp g f sp dp n) dp (en t) := At_cp h hn
theorem AT_cp_out {g f : Nat → Int32} {t : Tm} {p sp dp n : Nat} (h : At f p (en t)) (ho : p + sz t ≤ dp ∨ dp + n ≤ p) : At (cp g f sp dp n) p (en t) := At_cp_out h ho
abbrev SG : Type := Nat × Int32 × Int32
abbrev KT : Type := List Tm × List (Tm × Tm) × List SG × Nat × Int32
abbrev HT : Type := (Nat → Int32) × (Nat → Nat) × (Nat → Nat → Int64)
/-- terms, rules, strategies, what commutes, seed; the image; the trace; shelves; the fault; refusals -/
abbrev AT : Type := KT × Option KT × List (Nat × Int64) × HT × Int32 × (Nat → Int32)
/-- how many strategies one is of -/
def wtF : List SG → Nat → Nat → Nat
  | _, 0, _ => 0
  | ss, f + 1, i => match ss[i]? with
    | some (k, a, b) => min 1000 (1 + (if 2 < k then wtF ss f a.toInt.toNat else 0) + (if b = jz 1 then 0 else wtF ss f b.toInt.toNat))
    | none => 0
abbrev wt (ss : List SG) (i : Nat) : Nat := wtF ss (i + 1) i
def sgOk (rn i : Nat) (q : SG) : Prop := q.1 ≤ 13 ∧ (q.1 = 0 → ∃ r, r < rn ∧ q.2.1 = jn r) ∧ (q.1 = 1 ∨ q.1 = 2 → q.2.1 = jz 1) ∧ (2 < q.1 → ∃ s, s < i ∧ q.2.1 = jn s) ∧ (if q.1 = 3 ∨ q.1 = 4 then ∃ s, s < i ∧ q.2.2 = jn s else q.2.2 = jz 1)
def inV (c : Int32) (t : Tm) : Prop := isV c ∧ c ∈ en t
def rlOk (r : Tm × Tm) : Prop := wf r.1 ∧ wf r.2 ∧ sz r.1 ≤ 40 ∧ sz r.2 ≤ 40 ∧ (∀ c l, en r.1 = c :: l → ¬ isV c) ∧ (∀ c, inV c r.2 → inV c r.1)
def KOk (K : KT) : Prop := (K.1.length ≤ 24 ∧ ∀ t ∈ K.1, wf t ∧ sz t ≤ 40) ∧ (K.2.1.length ≤ 12 ∧ ∀ r ∈ K.2.1, rlOk r) ∧ (K.2.2.1.length ≤ 24 ∧ ∀ i q, K.2.2.1[i]? = some q → sgOk K.2.1.length i q) ∧ K.2.2.2.1 < 16
def KX (s : Nat) (K : KT) (M : PM) : Prop := (M.1 s 5 = jn K.1.length ∧ M.1 s 6 = jn K.2.1.length ∧ M.1 s 7 = jn K.2.2.1.length ∧ M.1 s 8 = jn K.2.2.2.1 ∧ M.1 s 9 = K.2.2.2.2) ∧
  (∀ i t, K.1[i]? = some t → At (M.1 (s + 6)) (40 * i) (en t)) ∧ (∀ i r, K.2.1[i]? = some r → At (M.1 (s + 6)) (960 + 40 * i) (en r.1) ∧ At (M.1 (s + 6)) (1440 + 40 * i) (en r.2)) ∧
  (∀ i q, K.2.2.1[i]? = some q → M.1 (s + 1) i = jn q.1 ∧ M.1 (s + 2) i = q.2.1 ∧ M.1 (s + 3) i = q.2.2 ∧ M.1 (s + 4) i = jn (wt K.2.2.1 i))
/-- the model's: where its numbers and rows lie -/
abbrev MP : Type := (Nat × Nat × Nat × Nat × Nat) × (Nat × Nat × Nat × Nat) × (Nat × Nat × Nat)
def mpN : MP := ((0, 3, 6, 11, 12), (53, 54, 55, 56), (57, 58, 59))
def mpO : MP := ((49, 52, 55, 59, 60), (81, 82, 83, 84), (85, 86, 87))
def KM (P : MP) (K : KT) (M : PM) : Prop := (M.1 52 P.1.1 = jn K.1.length ∧ M.1 52 P.1.2.1 = jn K.2.1.length ∧ M.1 52 P.1.2.2.1 = jn K.2.2.1.length ∧ M.1 52 P.1.2.2.2.1 = jn K.2.2.2.1 ∧ M.1 52 P.1.2.2.2.2 = K.2.2.2.2) ∧
  (∀ i t, K.1[i]? = some t → M.1 P.2.1.1 i = jn (sz t) ∧ At (M.1 P.2.1.2.1) (40 * i) (en t)) ∧
  (∀ i r, K.2.1[i]? = some r → M.1 P.2.1.2.2.1 (2 * i) = jn (sz r.1) ∧ M.1 P.2.1.2.2.1 (2 * i + 1) = jn (sz r.2) ∧ At (M.1 P.2.1.2.2.2) (80 * i) (en r.1) ∧ At (M.1 P.2.1.2.2.2) (80 * i + 40) (en r.2)) ∧
  (∀ i q, K.2.2.1[i]? = some q → M.1 P.2.2.1 i = jn q.1 ∧ M.1 P.2.2.2.1 i = q.2.1 ∧ M.1 P.2.2.2.2 i = q.2.2)
def SX (a b c : Nat) (h : HT) (M : PM) : Prop := ∀ s, s < 8 → M.1 a s = h.1 s ∧ M.1 b s = jn (h.2.1 s) ∧ ∀ i, i < h.2.1 s → M.2 c (160 * s + i) = h.2.2 s i
def SOk (n : Nat) (h : HT) : Prop := ∀ s, s < 8 → h.2.1 s ≤ 160 ∧ (h.1 s = jz 1 ∨ (∃ w, w < n ∧ h.1 s = jn w) ∨ ∃ so, so < 4 ∧ h.1 s = jn (100 + so))
def TX (o j a b : Nat) (tr : List (Nat × Int64)) (M : PM) : Prop := M.1 o j = jn tr.length ∧ ∀ i q, tr[i]? = some q → M.1 a i = jn q.1 ∧ M.2 b i = q.2
def TOk (tr : List (Nat × Int64)) : Prop := tr.length ≤ 40 ∧ ∀ q ∈ tr, q.1 < 12
def CX (a : Nat) (rf : Nat → Int32) (M : PM) : Prop := ∀ k, k < 8 → M.1 a k = rf k
def RX (A : AT) (M : PM) : Prop := KX 1 A.1 M ∧ (M.1 0 12 = bI (A.2.1.isSome = true) ∧ ∀ K, A.2.1 = some K → KX 8 K M) ∧ TX 48 2 49 50 A.2.2.1 M ∧ SX 16 17 18 A.2.2.2.1 M ∧ M.1 0 13 = A.2.2.2.2.1 ∧ CX 51 A.2.2.2.2.2 M
def RM (A : AT) (M : PM) : Prop := KM mpN A.1 M ∧ (M.1 52 48 = bI (A.2.1.isSome = true) ∧ ∀ K, A.2.1 = some K → KM mpO K M) ∧ TX 52 35 73 74 A.2.2.1 M ∧ SX 61 62 63 A.2.2.2.1 M ∧ M.1 52 16 = A.2.2.2.2.1 ∧ CX 64 A.2.2.2.2.2 M
def AOk (A : AT) : Prop := KOk A.1 ∧ (∀ K, A.2.1 = some K → KOk K) ∧ TOk A.2.2.1 ∧ SOk A.1.2.2.1.length A.2.2.2.1
def Hi (M M' : PM) : Prop := ∀ k, 52 ≤ k → M'.1 k = M.1 k ∧ M'.2 k = M.2 k
def Lo (M M' : PM) : Prop := ∀ k, k < 52 → M'.1 k = M.1 k ∧ M'.2 k = M.2 k
theorem Hi.rf {M : PM} : Hi M M := fun _ _ => ⟨rfl, rfl⟩
theorem Lo.rf {M : PM} : Lo M M := fun _ _ => ⟨rfl, rfl⟩
theorem Hi.trans {M M' M'' : PM} (h : Hi M M') (h' : Hi M' M'') : Hi M M'' := fun k hk => ⟨(h' k hk).1.trans (h k hk).1, (h' k hk).2.trans (h k hk).2⟩
theorem Lo.trans {M M' M'' : PM} (h : Lo M M') (h' : Lo M' M'') : Lo M M'' := fun k hk => ⟨(h' k hk).1.trans (h k hk).1, (h' k hk).2.trans (h k hk).2⟩
theorem Hi.fr {S : List Nat} {M M' : PM} (h : Fr S M M') (hs : ∀ k ∈ S, k < 52) : Hi M M' := fun k hk => ⟨h.1 k fun q => by have := hs k q; omega, h.2 k fun q => by have := hs k q; omega⟩
theorem Lo.fr {S : List Nat} {M M' : PM} (h : Fr S M M') (hs : ∀ k ∈ S, 52 ≤ k) : Lo M M' := fun k hk => ⟨h.1 k fun q => by have := hs k q; omega, h.2 k fun q => by have := hs k q; omega⟩
/-- an answer of the system's: what it is, the state behind it -/
def XI (o : PO) (M : PM) (ra : Int32 × AT) : Prop := ∃ M', o = rI ra.1 M' ∧ RX ra.2 M' ∧ Hi M M'
def XL (o : PO) (M : PM) (ra : Int64 × AT) : Prop := ∃ M', o = rL ra.1 M' ∧ RX ra.2 M' ∧ Hi M M'
def MI (o : PO) (M : PM) (ra : Int32 × AT) : Prop := ∃ M', o = rI ra.1 M' ∧ RM ra.2 M' ∧ Lo M M'
def ML (o : PO) (M : PM) (ra : Int64 × AT) : Prop := ∃ M', o = rL ra.1 M' ∧ RM ra.2 M' ∧ Lo M M'
/-! rows of the state that don't change -/
theorem KX_congr {s : Nat} {K : KT} {M M' : PM} (hk : KOk K) (h : KX s K M) (h0 : ∀ j, 5 ≤ j → j ≤ 9 → M'.1 s j = M.1 s j) (h1 : ∀ i, i < 24 → M'.1 (s + 1) i = M.1 (s + 1) i ∧ M'.1 (s + 2) i = M.1 (s + 2) i ∧ M'.1 (s + 3) i = M.1 (s + 3) i ∧ M'.1 (s + 4) i = M.1 (s + 4) i) (h6 : ∀ i, i < 1920 → M'.1 (s + 6) i = M.1 (s + 6) i) : KX s K M' := by
  obtain ⟨⟨a1, a2, a3, a4, a5⟩, b, c, e⟩ := h
  obtain ⟨⟨k1, k2⟩, ⟨k3, k4⟩, ⟨k5, -⟩, -⟩ := hk
  refine ⟨⟨?_, ?_, ?_, ?_, ?_⟩, ?_, ?_, ?_⟩
  · rw [h0 5 (by omega) (by omega), a1]
  · rw [h0 6 (by omega) (by omega), a2]
  · rw [h0 7 (by omega) (by omega), a3]
  · rw [h0 8 (by omega) (by omega), a4]
  · rw [h0 9 (by omega) (by omega), a5]
  · intro i t hi
    have hl : i < K.1.length := (List.getElem?_eq_some_iff.mp hi).1
    have := (k2 t (List.mem_of_getElem? hi)).2
    exact AT_congr (b i t hi) (fun j h1 h2 => h6 j (by omega))
  · intro i r hi
    have hl : i < K.2.1.length := (List.getElem?_eq_some_iff.mp hi).1
    have h8 := k4 r (List.mem_of_getElem? hi)
    have h9 := h8.2.2.1
    have h10 := h8.2.2.2.1
    exact ⟨AT_congr (c i r hi).1 (fun j h1 h2 => h6 j (by omega)), AT_congr (c i r hi).2 (fun j h1 h2 => h6 j (by omega))⟩
  · intro i q hi
    have hl : i < K.2.2.1.length := (List.getElem?_eq_some_iff.mp hi).1
    obtain ⟨e1, e2, e3, e4⟩ := e i q hi
    obtain ⟨f1, f2, f3, f4⟩ := h1 i (by omega)
    exact ⟨f1.trans e1, f2.trans e2, f3.trans e3, f4.trans e4⟩
theorem KX_eq {s : Nat} {K : KT} {M M' : PM} (h : KX s K M) (h0 : M'.1 s = M.1 s) (h1 : M'.1 (s + 1) = M.1 (s + 1)) (h2 : M'.1 (s + 2) = M.1 (s + 2)) (h3 : M'.1 (s + 3) = M.1 (s + 3)) (h4 : M'.1 (s + 4) = M.1 (s + 4)) (h6 : M'.1 (s + 6) = M.1 (s + 6)) : KX s K M' := by
  unfold KX at *
  rw [h0, h1, h2, h3, h4, h6]
  exact h
theorem SX_eq {a b c : Nat} {h : HT} {M M' : PM} (hh : SX a b c h M) (h0 : M'.1 a = M.1 a) (h1 : M'.1 b = M.1 b) (h2 : M'.2 c = M.2 c) : SX a b c h M' := by
  unfold SX at *; rw [h0, h1, h2]; exact hh
theorem TX_eq {o j a b : Nat} {tr : List (Nat × Int64)} {M M' : PM} (hh : TX o j a b tr M) (h0 : M'.1 o j = M.1 o j) (h1 : M'.1 a = M.1 a) (h2 : M'.2 b = M.2 b) : TX o j a b tr M' := by
  unfold TX at *; rw [h0, h1, h2]; exact hh
theorem CX_eq {a : Nat} {rf : Nat → Int32} {M M' : PM} (hh : CX a rf M) (h0 : M'.1 a = M.1 a) : CX a rf M' := by
  unfold CX at *; rw [h0]; exact hh
/-- cells that the system works in: nothing of the state -/
abbrev scX : List Nat := [19, 20, 21, 22, 23, 24, 25, 26, 27, 28, 29, 30, 31, 32, 33, 34, 35, 36, 37, 38, 39, 40, 41, 42, 43, 44, 45, 46, 47]
/-- the system's state is as it was -/
theorem RX_sc {A : AT} {M M' : PM} (hk : KOk A.1) (h : RX A M) (hf : Fr (7 :: scX) M M') (h7 : ∀ i, i < 1920 → M'.1 7 i = M.1 7 i) : RX A M' := by
  obtain ⟨a, ⟨b1, b2⟩, c, e, f, g⟩ := h
  refine ⟨?_, ⟨?_, ?_⟩, ?_, ?_, ?_, ?_⟩
  · refine KX_congr hk a (fun j _ _ => by rw [hf.1 1 (by decide)]) (fun i _ => ?_) h7
    rw [hf.1 (1 + 1) (by decide), hf.1 (1 + 2) (by decide), hf.1 (1 + 3) (by decide), hf.1 (1 + 4) (by decide)]
    exact ⟨rfl, rfl, rfl, rfl⟩
  · rw [hf.1 0 (by decide)]; exact b1
  · intro K hK
    exact KX_eq (b2 K hK) (hf.1 _ (by decide)) (hf.1 _ (by decide)) (hf.1 _ (by decide)) (hf.1 _ (by decide)) (hf.1 _ (by decide)) (hf.1 _ (by decide))
  · exact TX_eq c (by rw [hf.1 48 (by decide)]) (hf.1 _ (by decide)) (hf.2 _ (by decide))
  · exact SX_eq e (hf.1 _ (by decide)) (hf.1 _ (by decide)) (hf.2 _ (by decide))
  · rw [hf.1 0 (by decide)]; exact f
  · exact CX_eq g (hf.1 _ (by decide))
/-- cells that the model works in -/
abbrev scM : List Nat := [60, 65, 66, 67, 68, 69, 70, 71, 72, 75, 76, 77, 78, 79, 80]
/-- numbers of the model that tell its state -/
abbrev scN : List Nat := [0, 3, 6, 11, 12, 16, 35, 48, 49, 52, 55, 59, 60]
/-! refusals -/
def rfs (A : AT) (k : Nat) : Int32 × AT := (jz k, (A.1, A.2.1, A.2.2.1, A.2.2.2.1, A.2.2.2.2.1, va_up A.2.2.2.2.2 k (A.2.2.2.2.2 k + jn 1)))
theorem x_ref0 {d k : Nat} {A : AT} {M : PM} (hd : 2 ≤ d) (h : RX A M) (hk : k < 8) : XI (pcl GG lay d 56 [.ref 0, .int (jz k)] M) M (rfs A k) := by
  obtain ⟨d, rfl⟩ := ex_add hd
  rw [q_56, jz_neg, c_get (n := 8) (by omega) rfl hk (by omega), kI_r, c_put (n := 8) (by omega) rfl hk (by omega), kV_r]
  obtain ⟨a, b, c, e, f, g⟩ := h
  refine ⟨_, rfl, ⟨?_, ⟨?_, fun K hK => ?_⟩, ?_, ?_, ?_, ?_⟩, Hi.fr (S := [51]) (Fr.sI (by decide)) (by decide)⟩
  · exact KX_eq a rfl rfl rfl rfl rfl rfl
  · exact b.1
  · exact KX_eq (b.2 K hK) rfl rfl rfl rfl rfl rfl
  · exact TX_eq c rfl rfl rfl
  · exact SX_eq e rfl rfl rfl
  · exact f
  · intro j hj
    rw [sI_k, up_at]
    show _ = va_up A.2.2.2.2.2 k (A.2.2.2.2.2 k + jn 1) j
    rw [up_at, g k hk, g j hj]
theorem x_ref {d k : Nat} {A : AT} {M : PM} (hd : 2 ≤ d) (h : RX A M) (hk : k < 8) : XI (kI (pcl GG lay d 56 [.ref 0, .int (jz k)] M) fun r M => rI r M) M (rfs A k) := by
  obtain ⟨M', e, h1, h2⟩ := x_ref0 hd h hk
  exact ⟨M', by rw [e, kI_r], h1, h2⟩
