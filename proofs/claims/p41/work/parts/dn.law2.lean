/-! rows of the law, some more: what they cost in round numbers; remainders; lists of signs -/
theorem As_k {t : List Int32} (h : t.all (fun c => decide (0 ≤ c.toInt) && decide (c.toInt < 128)) = true) : As t := by
  intro c hc
  have h1 := List.all_eq_true.mp h c hc
  simp only [Bool.and_eq_true, decide_eq_true_eq] at h1
  refine ⟨c.toInt.toNat, ?_, by omega⟩
  apply Int32.toInt_inj.mp
  rw [jn_toInt (by omega)]
  omega
theorem rem_jn {x : Int32} {n : Nat} (h0 : 0 < n) (hn : n < 2147483648) : (x - x / jn n * jn n < 0 → ∃ k, k < n ∧ x - x / jn n * jn n + jn n = jn k) ∧ (¬ x - x / jn n * jn n < 0 → ∃ k, k < n ∧ x - x / jn n * jn n = jn k) := by
  have e := rem_toInt x (jn n)
  rw [jn_toInt hn] at e
  obtain ⟨b1, b2⟩ := tmod_bounds (a := x.toInt) (M := (n : Int)) (by omega)
  rw [← e] at b1 b2
  generalize x - x / jn n * jn n = r at b1 b2 ⊢
  have z : (0 : Int32).toInt = 0 := rfl
  constructor
  · intro h
    have h := Int32.lt_iff_toInt_lt.mp h
    rw [z] at h
    refine ⟨(r.toInt + n).toNat, by omega, ?_⟩
    have er : r = jz ((-r.toInt).toNat) := by
      apply Int32.toInt_inj.mp
      rw [jz_toInt (by omega)]
      omega
    rw [er, show jz (-r.toInt).toNat + jn n = jn n + jz (-r.toInt).toNat from Int32.add_comm _ _, jn_addz (by omega)]
    congr 1
    rw [← er]
    omega
  · intro h
    have h : ¬ r.toInt < 0 := fun q => h (Int32.lt_iff_toInt_lt.mpr (by rw [z]; exact q))
    refine ⟨r.toInt.toNat, by omega, ?_⟩
    apply Int32.toInt_inj.mp
    rw [jn_toInt (by omega)]
    omega
theorem bt_drop {t l : List Int32} {k : Nat} {c : Int32} (h : t.drop k = c :: l) : bt t k = c ∧ k < t.length ∧ t.drop (k + 1) = l := by
  have hk : k < t.length := by
    refine Nat.not_le.mp fun q => ?_
    rw [List.drop_eq_nil_iff.mpr q] at h
    cases h
  rw [List.drop_eq_getElem_cons hk] at h
  obtain ⟨h1, h2⟩ := List.cons.inj h
  refine ⟨?_, hk, h2⟩
  unfold bt
  rw [List.getD_eq_getElem?_getD, List.getElem?_eq_getElem hk, h1]
  rfl
theorem sbt_drop {t l s : List Int32} {i k : Nat} (h : t.drop i = l ++ s) (hk : k = i + l.length) : sbt t i k = l := by
  unfold sbt
  rw [h, hk, Nat.add_sub_cancel_left, List.take_left]
theorem As_en {T : Tm} (h : wf T) : As (en T) := by
  intro c hc
  obtain ⟨k, e, -, hk, -⟩ := ch_sg (en_ch T h c hc)
  exact ⟨k, e, hk⟩
theorem As_txt {T : Tm} (h : wf T) : As (txt T) := by
  intro c hc
  obtain ⟨k, e, -, hk, -⟩ := txt_ch T h c hc
  exact ⟨k, e, hk⟩
theorem As_sub {t l s : List Int32} {i : Nat} (h : As t) (hd : t.drop i = l ++ s) : As l := fun c hc => h c (List.mem_of_mem_drop (i := i) (by rw [hd]; exact List.mem_append_left _ hc))
/-- a row of trees, one behind the other -/
def enF : List Tm → List Int32
  | [] => []
  | t :: l => en t ++ enF l
section
variable {p : Program} {l : Launch} {e : Env} {R : Room} {s : State} {m : MethodId} {args : Array Value} {below : List Frame} {meth : Method} {c : Code} {cells slots : Nat} {Q : State → Prop}
variable {cc : ByteArray} {nL pc : Nat} {ls : Array Slot} {rest st0 : List Value} {g : GQ} {U : Nat} {A Z : Nat → Prop} {WO : va_W} {RO : List RoE} {BL : List (Nat × List Int32)} {H : Heap} {locs : List Loc}
theorem lq_toT (S : CallFix p m c cc nL s args TW RL) (hls : ls.size = nL) {q : Nat} {u : List Int32} (h : LQ g U s A Z WO RO ((q, u) :: BL) H locs) (hUU : U ≤ 2000) (hR : 8 ≤ R.frames ∧ 370 ≤ R.locals ∧ cells + 2 ≤ R.cells ∧ slots + (2 * U + 20) ≤ R.slots) (hW : (rest.map fun v => v.category).sum ≤ 8) (hd : decode cc pc = .ok (.invokevirtual 58, 3))
    (kk : ∀ (ra rb : Nat) (H1 : Heap) (locs1 : List Loc), LQ g U s A Z WO (RO ++ [.inl (ra, rb, u)]) BL H1 locs1 → W p l e R s m args below meth c H1 locs1 (cells + 2) (slots + (2 * U + 20)) Q (F0 m (pc + 3) ls (.ref ra :: rest))) : W p l e R s m args below meth c H locs cells slots Q (F0 m pc ls (.ref q :: rest)) := by
  have hu : u.length ≤ 2 * U + 16 := by
    obtain ⟨bl, hkey, hok, -⟩ := h
    cases bl with
    | nil => cases hkey
    | cons x bl =>
      obtain ⟨hk1, -⟩ := List.cons.inj hkey
      obtain ⟨hbc, hcap, -, -⟩ := hok _ List.mem_cons_self
      have := hbc.1
      have e2 : x.2.2.2.2 = u := (Prod.mk.inj hk1).2
      rw [e2] at this
      omega
  refine lq_toS S hls h hUU ⟨hR.1, hR.2.1, hR.2.2.1, by omega⟩ hW hd (fun ra rb H1 locs1 h1 => ?_)
  exact W.widen (Nat.le_refl _) (by omega) (kk ra rb H1 locs1 h1)
end
