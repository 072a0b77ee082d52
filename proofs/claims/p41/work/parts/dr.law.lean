/-! the law: law(x, y) (laid by wip/p41/gen/law4.py) -/
/-- what a rule that the law makes keeps -/
def LawR (L R : Tm) : Prop := wf L ∧ wf R ∧ sz L ≤ 32 ∧ sz R ≤ 31 ∧ ¬ isV (sgn L 0) ∧ ∀ c ∈ en R, isV c → c ∈ en L
section
variable {t : List Int32} {c : Int32}
theorem fi_spec : ∀ m i : Nat, (∃ j, i ≤ j ∧ j < i + m ∧ bt t j = c ∧ (∀ k, i ≤ k → k < j → bt t k ≠ c) ∧ fiX t c m i = jn j) ∨ ((∀ j, i ≤ j → j < i + m → bt t j ≠ c) ∧ fiX t c m i = jz 1) := by
  intro m
  induction m with
  | zero => exact fun i => Or.inr ⟨fun j h1 h2 => by omega, rfl⟩
  | succ m ih =>
    intro i
    rw [fiX]
    by_cases e : bt t i = c
    · rw [if_pos e]
      exact Or.inl ⟨i, Nat.le_refl _, by omega, e, fun k h1 h2 => by omega, rfl⟩
    · rw [if_neg e]
      rcases ih (i + 1) with ⟨j, h1, h2, h3, h4, h5⟩ | ⟨h1, h2⟩
      · refine Or.inl ⟨j, by omega, by omega, h3, fun k k1 k2 => ?_, h5⟩
        by_cases ek : k = i
        · rw [ek]; exact e
        · exact h4 k (by omega) k2
      · refine Or.inr ⟨fun j j1 j2 => ?_, h2⟩
        by_cases ej : j = i
        · rw [ej]; exact e
        · exact h1 j (by omega) (by omega)
theorem bt_mem {j : Nat} (h : j < t.length) : bt t j ∈ t := by
  unfold bt
  rw [List.getD_eq_getElem?_getD, List.getElem?_eq_getElem h]
  exact List.getElem_mem h
theorem mem_bt (h : c ∈ t) : ∃ j, j < t.length ∧ bt t j = c := by
  obtain ⟨j, hj, e⟩ := List.getElem_of_mem h
  refine ⟨j, hj, ?_⟩
  unfold bt
  rw [List.getD_eq_getElem?_getD, List.getElem?_eq_getElem hj]
  exact e
theorem fi_mem (h : 0 ≤ fiX t c t.length 0) : c ∈ t := by
  rcases fi_spec (t := t) (c := c) t.length 0 with ⟨j, -, h2, h3, -⟩ | ⟨-, h2⟩
  · rw [← h3]
    exact bt_mem (by omega)
  · rw [h2] at h
    exact absurd h (by decide)
theorem fi_not (hl : t.length ≤ 1000) (h : ¬ 0 ≤ fiX t c t.length 0) : c ∉ t := by
  intro hm
  obtain ⟨j0, hj, e⟩ := mem_bt hm
  rcases fi_spec (t := t) (c := c) t.length 0 with ⟨j, -, h2, -, -, h5⟩ | ⟨h1, -⟩
  · refine h ?_
    rw [h5]
    exact Int32.not_lt.mp (jn_nneg (by omega))
  · exact h1 j0 (Nat.zero_le _) (by omega) e
theorem fi_none (h : c ∉ t) : fiX t c t.length 0 = jz 1 := by
  rcases fi_spec (t := t) (c := c) t.length 0 with ⟨j, -, h2, h3, -⟩ | ⟨-, h2⟩
  · exact absurd (by rw [← h3]; exact bt_mem (by omega)) h
  · exact h2
theorem fi_first {u r : List Int32} (e : t = u ++ c :: r) (h : c ∉ u) : fiX t c t.length 0 = jn u.length := by
  have hu : bt t u.length = c := by
    rw [e, bt_r (Nat.le_refl _), Nat.sub_self]
    rfl
  have ht : u.length < t.length := by rw [e, List.length_append, List.length_cons]; omega
  rcases fi_spec (t := t) (c := c) t.length 0 with ⟨j, -, h2, h3, h4, h5⟩ | ⟨h1, -⟩
  · rw [h5]
    congr 1
    rcases Nat.lt_trichotomy j u.length with q | q | q
    · exfalso
      rw [e, bt_l q] at h3
      exact h (by rw [← h3]; exact bt_mem q)
    · exact q
    · exact absurd hu (h4 u.length (Nat.zero_le _) q)
  · exact absurd hu (h1 u.length (Nat.zero_le _) (by omega))
end
theorem map_take {l : List Int32} {f : Int32 → Int32} {i : Nat} (h : i < l.length) : (l.take (i + 1)).map f = (l.take i).map f ++ [f (bt l i)] := by
  rw [List.take_add_one, List.getElem?_eq_getElem h, List.map_append]
  congr 1
  unfold bt
  rw [List.getD_eq_getElem?_getD, List.getElem?_eq_getElem h]
  rfl
/-- a variable that the left hasn't becomes a -/
def phL (L : Tm) (c : Int32) : Int32 := if isV c ∧ c ∉ en L then jn 97 else c
theorem phL_old {L : Tm} {c : Int32} (h : ¬ isV c ∨ c ∈ en L) : phL L c = c := by
  unfold phL
  rw [if_neg]
  rintro ⟨h1, h2⟩
  rcases h with h | h
  · exact h h1
  · exact h2 h
theorem phL_new {L : Tm} {c : Int32} (h1 : isV c) (h2 : c ∉ en L) : phL L c = jn 97 := if_pos ⟨h1, h2⟩
theorem phL_or (L : Tm) (c : Int32) : phL L c = jn 97 ∧ isV c ∨ phL L c = c ∧ (isV c → c ∈ en L) := by
  by_cases h1 : isV c
  · by_cases h2 : c ∈ en L
    · exact Or.inr ⟨phL_old (Or.inr h2), fun _ => h2⟩
    · exact Or.inl ⟨phL_new h1 h2, h1⟩
  · exact Or.inr ⟨phL_old (Or.inl h1), fun z => absurd z h1⟩
theorem phL_0 {L : Tm} {c : Int32} (h : is0 c) : is0 (phL L c) := by
  rcases phL_or L c with ⟨e, -⟩ | ⟨e, -⟩
  · rw [e]; decide
  · rw [e]; exact h
theorem phL_tree (L : Tm) : ∀ T, wf T → ∃ T2, wf T2 ∧ en T2 = (en T).map (phL L) := by
  refine wf_ind (fun c hc => ?_) (fun c a hc ha iha => ?_) (fun c a b hc ha hb iha ihb => ?_)
  · exact ⟨Nd (phL L c) Lf Lf, wf_0 (phL_0 hc), rfl⟩
  · obtain ⟨a2, h1, h2⟩ := iha
    refine ⟨Nd c a2 Lf, wf_1 hc h1, ?_⟩
    rw [en_1, en_1, List.map_cons, h2, phL_old (Or.inl (by omega))]
  · obtain ⟨a2, h1, h2⟩ := iha
    obtain ⟨b2, h3, h4⟩ := ihb
    refine ⟨Nd c a2 b2, wf_2 hc h1 h3, ?_⟩
    rw [en_2, en_2, List.map_cons, List.map_append, h2, h4, phL_old (Or.inl (by omega))]
theorem phL_vars {L : Tm} {l : List Int32} : ∀ c ∈ l.map (phL L), isV c → c ∈ en L := by
  intro c hc hv
  obtain ⟨d, hd, rfl⟩ := List.mem_map.mp hc
  rcases phL_or L d with ⟨e, -⟩ | ⟨e, h⟩
  · rw [e] at hv
    exact absurd hv (by decide)
  · rw [e] at hv ⊢
    exact h hv
theorem phL_As {L : Tm} {X l : List Int32} {i : Nat} (h : X = (l.take i).map (phL L)) (hl : As l) : As X := by
  rw [h]
  intro c hc
  obtain ⟨d, hd, rfl⟩ := List.mem_map.mp hc
  rcases phL_or L d with ⟨e, -⟩ | ⟨e, -⟩
  · exact ⟨97, e, by decide⟩
  · rw [e]
    exact hl d (List.mem_of_mem_take hd)
set_option maxRecDepth 100000 in
theorem cw_L_variable : Jvm.Cond.code yL_variable cL_variable 1 (some .boolean) ∈ TW := TW_mem (List.mem_append_right _ (List.mem_append_right _ (List.mem_append_right _ (List.mem_append_right _ (List.mem_append_right _ (List.mem_append_left _ (List.mem_of_getElem? (l := tables_1_5) (i := 87) rfl))))))) rfl
theorem d_L_law_0 : decode cL_law 0 = .ok (.iload_n 0, 1) := by decide +kernel
theorem d_L_law_1 : decode cL_law 1 = .ok (.bipush (16), 2) := by decide +kernel
theorem d_L_law_3 : decode cL_law 3 = .ok (.invokestatic 64, 3) := by decide +kernel
theorem d_L_law_6 : decode cL_law 6 = .ok (.tableswitch (112) (0) (13) #[70, 73, 76, 79, 82, 85, 88, 91, 94, 97, 100, 103, 106, 109], 70) := by decide +kernel
theorem d_L_law_76 : decode cL_law 76 = .ok (.ldc 81, 2) := by decide +kernel
theorem d_L_law_78 : decode cL_law 78 = .ok (.areturn, 1) := by decide +kernel
theorem d_L_law_79 : decode cL_law 79 = .ok (.ldc 83, 2) := by decide +kernel
theorem d_L_law_81 : decode cL_law 81 = .ok (.areturn, 1) := by decide +kernel
theorem d_L_law_82 : decode cL_law 82 = .ok (.ldc 85, 2) := by decide +kernel
theorem d_L_law_84 : decode cL_law 84 = .ok (.areturn, 1) := by decide +kernel
theorem d_L_law_85 : decode cL_law 85 = .ok (.ldc 87, 2) := by decide +kernel
theorem d_L_law_87 : decode cL_law 87 = .ok (.areturn, 1) := by decide +kernel
theorem d_L_law_88 : decode cL_law 88 = .ok (.ldc 89, 2) := by decide +kernel
theorem d_L_law_90 : decode cL_law 90 = .ok (.areturn, 1) := by decide +kernel
theorem d_L_law_91 : decode cL_law 91 = .ok (.ldc 91, 2) := by decide +kernel
theorem d_L_law_93 : decode cL_law 93 = .ok (.areturn, 1) := by decide +kernel
theorem d_L_law_94 : decode cL_law 94 = .ok (.ldc 93, 2) := by decide +kernel
theorem d_L_law_96 : decode cL_law 96 = .ok (.areturn, 1) := by decide +kernel
theorem d_L_law_97 : decode cL_law 97 = .ok (.ldc 95, 2) := by decide +kernel
theorem d_L_law_99 : decode cL_law 99 = .ok (.areturn, 1) := by decide +kernel
theorem d_L_law_100 : decode cL_law 100 = .ok (.ldc 97, 2) := by decide +kernel
theorem d_L_law_102 : decode cL_law 102 = .ok (.areturn, 1) := by decide +kernel
theorem d_L_law_103 : decode cL_law 103 = .ok (.ldc 99, 2) := by decide +kernel
theorem d_L_law_105 : decode cL_law 105 = .ok (.areturn, 1) := by decide +kernel
theorem d_L_law_106 : decode cL_law 106 = .ok (.ldc 101, 2) := by decide +kernel
theorem d_L_law_108 : decode cL_law 108 = .ok (.areturn, 1) := by decide +kernel
theorem d_L_law_109 : decode cL_law 109 = .ok (.ldc 103, 2) := by decide +kernel
theorem d_L_law_111 : decode cL_law 111 = .ok (.areturn, 1) := by decide +kernel
theorem d_L_law_112 : decode cL_law 112 = .ok (.ldc 105, 2) := by decide +kernel
theorem d_L_law_114 : decode cL_law 114 = .ok (.areturn, 1) := by decide +kernel
theorem d_L_law_115 : decode cL_law 115 = .ok (.ldc 107, 2) := by decide +kernel
theorem d_L_law_117 : decode cL_law 117 = .ok (.areturn, 1) := by decide +kernel
theorem d_L_law_118 : decode cL_law 118 = .ok (.iload_n 0, 1) := by decide +kernel
theorem d_L_law_119 : decode cL_law 119 = .ok (.iconst 4, 1) := by decide +kernel
theorem d_L_law_120 : decode cL_law 120 = .ok (.ishr, 1) := by decide +kernel
theorem d_L_law_121 : decode cL_law 121 = .ok (.bipush (8), 2) := by decide +kernel
theorem d_L_law_123 : decode cL_law 123 = .ok (.ior, 1) := by decide +kernel
theorem d_L_law_124 : decode cL_law 124 = .ok (.iload_n 1, 1) := by decide +kernel
theorem d_L_law_125 : decode cL_law 125 = .ok (.iconst 0, 1) := by decide +kernel
theorem d_L_law_126 : decode cL_law 126 = .ok (.invokestatic 73, 3) := by decide +kernel
theorem d_L_law_129 : decode cL_law 129 = .ok (.astore_n 2, 1) := by decide +kernel
theorem d_L_law_130 : decode cL_law 130 = .ok (.aload_n 2, 1) := by decide +kernel
theorem d_L_law_131 : decode cL_law 131 = .ok (.iconst 0, 1) := by decide +kernel
theorem d_L_law_132 : decode cL_law 132 = .ok (.invokevirtual 7, 3) := by decide +kernel
theorem d_L_law_135 : decode cL_law 135 = .ok (.invokestatic 109, 3) := by decide +kernel
theorem d_L_law_138 : decode cL_law 138 = .ok (.ifCond .eq (23), 3) := by decide +kernel
theorem d_L_law_141 : decode cL_law 141 = .ok (.new 35, 3) := by decide +kernel
theorem d_L_law_144 : decode cL_law 144 = .ok (.dup, 1) := by decide +kernel
theorem d_L_law_145 : decode cL_law 145 = .ok (.invokespecial 37, 3) := by decide +kernel
theorem d_L_law_148 : decode cL_law 148 = .ok (.ldc 69, 2) := by decide +kernel
theorem d_L_law_150 : decode cL_law 150 = .ok (.invokevirtual 44, 3) := by decide +kernel
theorem d_L_law_153 : decode cL_law 153 = .ok (.aload_n 2, 1) := by decide +kernel
theorem d_L_law_154 : decode cL_law 154 = .ok (.invokevirtual 44, 3) := by decide +kernel
theorem d_L_law_157 : decode cL_law 157 = .ok (.invokevirtual 58, 3) := by decide +kernel
theorem d_L_law_160 : decode cL_law 160 = .ok (.astore_n 2, 1) := by decide +kernel
theorem d_L_law_161 : decode cL_law 161 = .ok (.iload_n 1, 1) := by decide +kernel
theorem d_L_law_162 : decode cL_law 162 = .ok (.iconst 4, 1) := by decide +kernel
theorem d_L_law_163 : decode cL_law 163 = .ok (.ishr, 1) := by decide +kernel
theorem d_L_law_164 : decode cL_law 164 = .ok (.iload_n 0, 1) := by decide +kernel
theorem d_L_law_165 : decode cL_law 165 = .ok (.bipush (9), 2) := by decide +kernel
theorem d_L_law_167 : decode cL_law 167 = .ok (.ishr, 1) := by decide +kernel
theorem d_L_law_168 : decode cL_law 168 = .ok (.iconst 1, 1) := by decide +kernel
theorem d_L_law_169 : decode cL_law 169 = .ok (.invokestatic 73, 3) := by decide +kernel
theorem d_L_law_172 : decode cL_law 172 = .ok (.astore_n 3, 1) := by decide +kernel
theorem d_L_law_173 : decode cL_law 173 = .ok (.ldc 54, 2) := by decide +kernel
theorem d_L_law_175 : decode cL_law 175 = .ok (.astore 4, 2) := by decide +kernel
theorem d_L_law_177 : decode cL_law 177 = .ok (.iconst 0, 1) := by decide +kernel
theorem d_L_law_178 : decode cL_law 178 = .ok (.istore 5, 2) := by decide +kernel
theorem d_L_law_180 : decode cL_law 180 = .ok (.iload 5, 2) := by decide +kernel
theorem d_L_law_182 : decode cL_law 182 = .ok (.aload_n 3, 1) := by decide +kernel
theorem d_L_law_183 : decode cL_law 183 = .ok (.invokevirtual 27, 3) := by decide +kernel
theorem d_L_law_186 : decode cL_law 186 = .ok (.if_icmp .ge (65), 3) := by decide +kernel
theorem d_L_law_189 : decode cL_law 189 = .ok (.new 35, 3) := by decide +kernel
theorem d_L_law_192 : decode cL_law 192 = .ok (.dup, 1) := by decide +kernel
theorem d_L_law_193 : decode cL_law 193 = .ok (.invokespecial 37, 3) := by decide +kernel
theorem d_L_law_196 : decode cL_law 196 = .ok (.aload 4, 2) := by decide +kernel
theorem d_L_law_198 : decode cL_law 198 = .ok (.invokevirtual 44, 3) := by decide +kernel
theorem d_L_law_201 : decode cL_law 201 = .ok (.aload_n 3, 1) := by decide +kernel
theorem d_L_law_202 : decode cL_law 202 = .ok (.iload 5, 2) := by decide +kernel
theorem d_L_law_204 : decode cL_law 204 = .ok (.invokevirtual 7, 3) := by decide +kernel
theorem d_L_law_207 : decode cL_law 207 = .ok (.invokestatic 109, 3) := by decide +kernel
theorem d_L_law_210 : decode cL_law 210 = .ok (.ifCond .eq (21), 3) := by decide +kernel
theorem d_L_law_213 : decode cL_law 213 = .ok (.aload_n 2, 1) := by decide +kernel
theorem d_L_law_214 : decode cL_law 214 = .ok (.aload_n 3, 1) := by decide +kernel
theorem d_L_law_215 : decode cL_law 215 = .ok (.iload 5, 2) := by decide +kernel
theorem d_L_law_217 : decode cL_law 217 = .ok (.invokevirtual 7, 3) := by decide +kernel
theorem d_L_law_220 : decode cL_law 220 = .ok (.invokevirtual 113, 3) := by decide +kernel
theorem d_L_law_223 : decode cL_law 223 = .ok (.ifCond .ge (8), 3) := by decide +kernel
theorem d_L_law_226 : decode cL_law 226 = .ok (.bipush (97), 2) := by decide +kernel
theorem d_L_law_228 : decode cL_law 228 = .ok (.goto (9), 3) := by decide +kernel
theorem d_L_law_231 : decode cL_law 231 = .ok (.aload_n 3, 1) := by decide +kernel
theorem d_L_law_232 : decode cL_law 232 = .ok (.iload 5, 2) := by decide +kernel
theorem d_L_law_234 : decode cL_law 234 = .ok (.invokevirtual 7, 3) := by decide +kernel
theorem d_L_law_237 : decode cL_law 237 = .ok (.invokevirtual 38, 3) := by decide +kernel
theorem d_L_law_240 : decode cL_law 240 = .ok (.invokevirtual 58, 3) := by decide +kernel
theorem d_L_law_243 : decode cL_law 243 = .ok (.astore 4, 2) := by decide +kernel
theorem d_L_law_245 : decode cL_law 245 = .ok (.iinc 5 (1), 3) := by decide +kernel
theorem d_L_law_248 : decode cL_law 248 = .ok (.goto (-68), 3) := by decide +kernel
theorem d_L_law_251 : decode cL_law 251 = .ok (.new 35, 3) := by decide +kernel
theorem d_L_law_254 : decode cL_law 254 = .ok (.dup, 1) := by decide +kernel
theorem d_L_law_255 : decode cL_law 255 = .ok (.invokespecial 37, 3) := by decide +kernel
theorem d_L_law_258 : decode cL_law 258 = .ok (.aload_n 2, 1) := by decide +kernel
theorem d_L_law_259 : decode cL_law 259 = .ok (.invokevirtual 44, 3) := by decide +kernel
theorem d_L_law_262 : decode cL_law 262 = .ok (.ldc 116, 2) := by decide +kernel
theorem d_L_law_264 : decode cL_law 264 = .ok (.invokevirtual 44, 3) := by decide +kernel
theorem d_L_law_267 : decode cL_law 267 = .ok (.aload 4, 2) := by decide +kernel
theorem d_L_law_269 : decode cL_law 269 = .ok (.invokevirtual 44, 3) := by decide +kernel
theorem d_L_law_272 : decode cL_law 272 = .ok (.invokevirtual 58, 3) := by decide +kernel
theorem d_L_law_275 : decode cL_law 275 = .ok (.areturn, 1) := by decide +kernel
set_option maxHeartbeats 4000000 in
set_option maxRecDepth 100000 in
theorem t_law (l : Launch) (g : GQ) (x y : Int32) : MetS l g yL_law cL_law 6 ({ frames := 20, cells := 700, slots := 37000, locals := 1200 } : Room) (700) (37000) [.int x, .int y] [] (True) (fun t => ∃ L R : Tm, LawR L R ∧ t = en L ++ (jn 62 :: en R)) := by
  intro sz0 Z
  refine Met.ofW (cc := cL_law) (maxL := 6) (ret := (some (.object "java/lang/String"))) (by decide) rfl ?_
  intro p e s m args below meth c s₁ B hml hv
  obtain ⟨rfl, hv⟩ := hv
  have hX := hv.1.2.2.2.2
  have hx := B.exec
  have hb := B.bytes
  have hr := B.returns
  have hts0 := atoms_spec (ws := wD yL_law cL_law 6 (some (.object "java/lang/String"))) B.pre
  have hts : ∀ w ∈ TW, w.before _ s = true := fun w h => hts0 w (List.mem_cons_of_mem _ h)
  have hown : s.vm.findClass RL = some m.cls := findClass_of_methodNamed B.named
  have hlocks := B.notSynchronized
  have hsz : s.heap.size = sz0 := hv.1.1
  subst hsz
  have h := lq_entry (U := 100) hv
  have S : CallFix p m c cL_law 6 s _ TW RL := ⟨hx, hb, hml, hown, hts⟩
  have hl := lv_entry ([.int x, .int y]) (n := 6) (Nat.le_of_ble_eq_true rfl)
  rw [lg_entry_eq]
  generalize (lg_sl ([.int x, .int y]) ++ List.replicate (6 - (lg_sl ([.int x, .int y])).length) Slot.unset).toArray = ls at hl ⊢
  have hl : lv_has ls 6 [(0, .int x), (1, .int y)] := hl
  have h : LQ g 100 s _ Z [] [] [] s.heap [] := h
  refine lv_iload_n hx hb d_L_law_0 rfl (lv_at hl 0 rfl) ?_
  refine lv_bipush (v := (16)) hx hb d_L_law_1 (by decide) ?_
  refine lq_callI (As := [.int x, .int (16)]) (rest := []) S hl.1 h (t_some l g x 16) (fun x9 hx9 => absurd hx9 List.not_mem_nil) ⟨by decide, by decide⟩ (va_cwS 2 hts (g_sta (own := RL) (ix := 64) (y := yL_some) (by decide +kernel) (by decide +kernel) (by decide +kernel) (g_con cw_L_some)) rfl rfl rfl (by decide +kernel) ⟨by show 1 + 1 ≤ 20; omega, by show 8 + (3 + 11) + 60 ≤ 1200; omega⟩) rfl rfl (Nat.le_of_ble_eq_true rfl) d_L_law_3 ⟨by show _ ≤ 700; omega, by show _ ≤ 37000; omega⟩ (fun r1 hr1 => ?_)
  obtain ⟨k, hk, rfl⟩ := hr1
  refine w_tail (ι := Unit) (Hf := fun _ => s.heap) (Jf := fun _ => []) (kf := fun _ => 0) (nf := fun _ => 0) (gf := fun _ => F0 m 118 ls []) (PN := fun _ => True) (fun dflt => ?_) (fun _ _ => ?_)
  · rcases (show k = 0 ∨ k = 1 ∨ k = 2 ∨ k = 3 ∨ k = 4 ∨ k = 5 ∨ k = 6 ∨ k = 7 ∨ k = 8 ∨ k = 9 ∨ k = 10 ∨ k = 11 ∨ k = 12 ∨ k = 13 ∨ k = 14 ∨ k = 15 by omega) with rfl | rfl | rfl | rfl | rfl | rfl | rfl | rfl | rfl | rfl | rfl | rfl | rfl | rfl | rfl | rfl
    · refine lv_tableIn (off := 70) (tgt := 76) hx hb d_L_law_6 (by decide) (by decide) (by decide) (by decide) ?_
      refine lq_ldc S h (ix := 81) (tx := "iuv>ivu") (t := [105, 117, 118, 62, 105, 118, 117]) (by decide) d_L_law_76 (fun a2 b3 h => ?_)
      have h : LQ g 100 s _ Z [] [.inl (a2, b3, [105, 117, 118, 62, 105, 118, 117])] [] s.heap [] := h
      refine W.widen (k := 700) (n := 37000) (by omega) (by omega) ?_
      exact W.aret hx hb hr (Or.inl ⟨_, rfl⟩) (Or.inr ⟨_, rfl⟩) (fun t8 ht hW => lq_post (P := fun t => ∃ L R : Tm, LawR L R ∧ t = en L ++ (jn 62 :: en R)) h (List.mem_of_getElem? (i := 0) rfl) ⟨(Nd (jn 105) (Nd (jn 117) Lf Lf) (Nd (jn 118) Lf Lf)), (Nd (jn 105) (Nd (jn 118) Lf Lf) (Nd (jn 117) Lf Lf)), ⟨(wf_2 (by decide) (wf_0 (by decide)) (wf_0 (by decide))), (wf_2 (by decide) (wf_0 (by decide)) (wf_0 (by decide))), by decide, by decide, by decide, by decide⟩, rfl⟩ ht hW) h.lo d_L_law_78
    · refine lv_tableIn (off := 73) (tgt := 79) hx hb d_L_law_6 (by decide) (by decide) (by decide) (by decide) ?_
      refine lq_ldc S h (ix := 83) (tx := "iau>u") (t := [105, 97, 117, 62, 117]) (by decide) d_L_law_79 (fun a4 b5 h => ?_)
      have h : LQ g 100 s _ Z [] [.inl (a4, b5, [105, 97, 117, 62, 117])] [] s.heap [] := h
      refine W.widen (k := 700) (n := 37000) (by omega) (by omega) ?_
      exact W.aret hx hb hr (Or.inl ⟨_, rfl⟩) (Or.inr ⟨_, rfl⟩) (fun t8 ht hW => lq_post (P := fun t => ∃ L R : Tm, LawR L R ∧ t = en L ++ (jn 62 :: en R)) h (List.mem_of_getElem? (i := 0) rfl) ⟨(Nd (jn 105) (Nd (jn 97) Lf Lf) (Nd (jn 117) Lf Lf)), (Nd (jn 117) Lf Lf), ⟨(wf_2 (by decide) (wf_0 (by decide)) (wf_0 (by decide))), (wf_0 (by decide)), by decide, by decide, by decide, by decide⟩, rfl⟩ ht hW) h.lo d_L_law_81
    · refine lv_tableIn (off := 76) (tgt := 82) hx hb d_L_law_6 (by decide) (by decide) (by decide) (by decide) ?_
      refine lq_ldc S h (ix := 85) (tx := "eiuv>ieuev") (t := [101, 105, 117, 118, 62, 105, 101, 117, 101, 118]) (by decide) d_L_law_82 (fun a6 b7 h => ?_)
      have h : LQ g 100 s _ Z [] [.inl (a6, b7, [101, 105, 117, 118, 62, 105, 101, 117, 101, 118])] [] s.heap [] := h
      refine W.widen (k := 700) (n := 37000) (by omega) (by omega) ?_
      exact W.aret hx hb hr (Or.inl ⟨_, rfl⟩) (Or.inr ⟨_, rfl⟩) (fun t8 ht hW => lq_post (P := fun t => ∃ L R : Tm, LawR L R ∧ t = en L ++ (jn 62 :: en R)) h (List.mem_of_getElem? (i := 0) rfl) ⟨(Nd (jn 101) (Nd (jn 105) (Nd (jn 117) Lf Lf) (Nd (jn 118) Lf Lf)) Lf), (Nd (jn 105) (Nd (jn 101) (Nd (jn 117) Lf Lf) Lf) (Nd (jn 101) (Nd (jn 118) Lf Lf) Lf)), ⟨(wf_1 (by decide) (wf_2 (by decide) (wf_0 (by decide)) (wf_0 (by decide)))), (wf_2 (by decide) (wf_1 (by decide) (wf_0 (by decide))) (wf_1 (by decide) (wf_0 (by decide)))), by decide, by decide, by decide, by decide⟩, rfl⟩ ht hW) h.lo d_L_law_84
    · refine lv_tableIn (off := 79) (tgt := 85) hx hb d_L_law_6 (by decide) (by decide) (by decide) (by decide) ?_
      refine lq_ldc S h (ix := 87) (tx := "iiuvw>iuivw") (t := [105, 105, 117, 118, 119, 62, 105, 117, 105, 118, 119]) (by decide) d_L_law_85 (fun a8 b9 h => ?_)
      have h : LQ g 100 s _ Z [] [.inl (a8, b9, [105, 105, 117, 118, 119, 62, 105, 117, 105, 118, 119])] [] s.heap [] := h
      refine W.widen (k := 700) (n := 37000) (by omega) (by omega) ?_
      exact W.aret hx hb hr (Or.inl ⟨_, rfl⟩) (Or.inr ⟨_, rfl⟩) (fun t8 ht hW => lq_post (P := fun t => ∃ L R : Tm, LawR L R ∧ t = en L ++ (jn 62 :: en R)) h (List.mem_of_getElem? (i := 0) rfl) ⟨(Nd (jn 105) (Nd (jn 105) (Nd (jn 117) Lf Lf) (Nd (jn 118) Lf Lf)) (Nd (jn 119) Lf Lf)), (Nd (jn 105) (Nd (jn 117) Lf Lf) (Nd (jn 105) (Nd (jn 118) Lf Lf) (Nd (jn 119) Lf Lf))), ⟨(wf_2 (by decide) (wf_2 (by decide) (wf_0 (by decide)) (wf_0 (by decide))) (wf_0 (by decide))), (wf_2 (by decide) (wf_0 (by decide)) (wf_2 (by decide) (wf_0 (by decide)) (wf_0 (by decide)))), by decide, by decide, by decide, by decide⟩, rfl⟩ ht hW) h.lo d_L_law_87
    · refine lv_tableIn (off := 82) (tgt := 88) hx hb d_L_law_6 (by decide) (by decide) (by decide) (by decide) ?_
      refine lq_ldc S h (ix := 89) (tx := "fa>a") (t := [102, 97, 62, 97]) (by decide) d_L_law_88 (fun a10 b11 h => ?_)
      have h : LQ g 100 s _ Z [] [.inl (a10, b11, [102, 97, 62, 97])] [] s.heap [] := h
      refine W.widen (k := 700) (n := 37000) (by omega) (by omega) ?_
      exact W.aret hx hb hr (Or.inl ⟨_, rfl⟩) (Or.inr ⟨_, rfl⟩) (fun t8 ht hW => lq_post (P := fun t => ∃ L R : Tm, LawR L R ∧ t = en L ++ (jn 62 :: en R)) h (List.mem_of_getElem? (i := 0) rfl) ⟨(Nd (jn 102) (Nd (jn 97) Lf Lf) Lf), (Nd (jn 97) Lf Lf), ⟨(wf_1 (by decide) (wf_0 (by decide))), (wf_0 (by decide)), by decide, by decide, by decide, by decide⟩, rfl⟩ ht hW) h.lo d_L_law_90
    · refine lv_tableIn (off := 85) (tgt := 91) hx hb d_L_law_6 (by decide) (by decide) (by decide) (by decide) ?_
      refine lq_ldc S h (ix := 91) (tx := "jeuv>ejuv") (t := [106, 101, 117, 118, 62, 101, 106, 117, 118]) (by decide) d_L_law_91 (fun a12 b13 h => ?_)
      have h : LQ g 100 s _ Z [] [.inl (a12, b13, [106, 101, 117, 118, 62, 101, 106, 117, 118])] [] s.heap [] := h
      refine W.widen (k := 700) (n := 37000) (by omega) (by omega) ?_
      exact W.aret hx hb hr (Or.inl ⟨_, rfl⟩) (Or.inr ⟨_, rfl⟩) (fun t8 ht hW => lq_post (P := fun t => ∃ L R : Tm, LawR L R ∧ t = en L ++ (jn 62 :: en R)) h (List.mem_of_getElem? (i := 0) rfl) ⟨(Nd (jn 106) (Nd (jn 101) (Nd (jn 117) Lf Lf) Lf) (Nd (jn 118) Lf Lf)), (Nd (jn 101) (Nd (jn 106) (Nd (jn 117) Lf Lf) (Nd (jn 118) Lf Lf)) Lf), ⟨(wf_2 (by decide) (wf_1 (by decide) (wf_0 (by decide))) (wf_0 (by decide))), (wf_1 (by decide) (wf_2 (by decide) (wf_0 (by decide)) (wf_0 (by decide)))), by decide, by decide, by decide, by decide⟩, rfl⟩ ht hW) h.lo d_L_law_93
    · refine lv_tableIn (off := 88) (tgt := 94) hx hb d_L_law_6 (by decide) (by decide) (by decide) (by decide) ?_
      refine lq_ldc S h (ix := 93) (tx := "a>b") (t := [97, 62, 98]) (by decide) d_L_law_94 (fun a14 b15 h => ?_)
      have h : LQ g 100 s _ Z [] [.inl (a14, b15, [97, 62, 98])] [] s.heap [] := h
      refine W.widen (k := 700) (n := 37000) (by omega) (by omega) ?_
      exact W.aret hx hb hr (Or.inl ⟨_, rfl⟩) (Or.inr ⟨_, rfl⟩) (fun t8 ht hW => lq_post (P := fun t => ∃ L R : Tm, LawR L R ∧ t = en L ++ (jn 62 :: en R)) h (List.mem_of_getElem? (i := 0) rfl) ⟨(Nd (jn 97) Lf Lf), (Nd (jn 98) Lf Lf), ⟨(wf_0 (by decide)), (wf_0 (by decide)), by decide, by decide, by decide, by decide⟩, rfl⟩ ht hW) h.lo d_L_law_96
    · refine lv_tableIn (off := 91) (tgt := 97) hx hb d_L_law_6 (by decide) (by decide) (by decide) (by decide) ?_
      refine lq_ldc S h (ix := 95) (tx := "iuu>u") (t := [105, 117, 117, 62, 117]) (by decide) d_L_law_97 (fun a16 b17 h => ?_)
      have h : LQ g 100 s _ Z [] [.inl (a16, b17, [105, 117, 117, 62, 117])] [] s.heap [] := h
      refine W.widen (k := 700) (n := 37000) (by omega) (by omega) ?_
      exact W.aret hx hb hr (Or.inl ⟨_, rfl⟩) (Or.inr ⟨_, rfl⟩) (fun t8 ht hW => lq_post (P := fun t => ∃ L R : Tm, LawR L R ∧ t = en L ++ (jn 62 :: en R)) h (List.mem_of_getElem? (i := 0) rfl) ⟨(Nd (jn 105) (Nd (jn 117) Lf Lf) (Nd (jn 117) Lf Lf)), (Nd (jn 117) Lf Lf), ⟨(wf_2 (by decide) (wf_0 (by decide)) (wf_0 (by decide))), (wf_0 (by decide)), by decide, by decide, by decide, by decide⟩, rfl⟩ ht hW) h.lo d_L_law_99
    · refine lv_tableIn (off := 94) (tgt := 100) hx hb d_L_law_6 (by decide) (by decide) (by decide) (by decide) ?_
      refine lq_ldc S h (ix := 97) (tx := "eeu>eu") (t := [101, 101, 117, 62, 101, 117]) (by decide) d_L_law_100 (fun a18 b19 h => ?_)
      have h : LQ g 100 s _ Z [] [.inl (a18, b19, [101, 101, 117, 62, 101, 117])] [] s.heap [] := h
      refine W.widen (k := 700) (n := 37000) (by omega) (by omega) ?_
      exact W.aret hx hb hr (Or.inl ⟨_, rfl⟩) (Or.inr ⟨_, rfl⟩) (fun t8 ht hW => lq_post (P := fun t => ∃ L R : Tm, LawR L R ∧ t = en L ++ (jn 62 :: en R)) h (List.mem_of_getElem? (i := 0) rfl) ⟨(Nd (jn 101) (Nd (jn 101) (Nd (jn 117) Lf Lf) Lf) Lf), (Nd (jn 101) (Nd (jn 117) Lf Lf) Lf), ⟨(wf_1 (by decide) (wf_1 (by decide) (wf_0 (by decide)))), (wf_1 (by decide) (wf_0 (by decide))), by decide, by decide, by decide, by decide⟩, rfl⟩ ht hW) h.lo d_L_law_102
    · refine lv_tableIn (off := 97) (tgt := 103) hx hb d_L_law_6 (by decide) (by decide) (by decide) (by decide) ?_
      refine lq_ldc S h (ix := 99) (tx := "juv>iuv") (t := [106, 117, 118, 62, 105, 117, 118]) (by decide) d_L_law_103 (fun a20 b21 h => ?_)
      have h : LQ g 100 s _ Z [] [.inl (a20, b21, [106, 117, 118, 62, 105, 117, 118])] [] s.heap [] := h
      refine W.widen (k := 700) (n := 37000) (by omega) (by omega) ?_
      exact W.aret hx hb hr (Or.inl ⟨_, rfl⟩) (Or.inr ⟨_, rfl⟩) (fun t8 ht hW => lq_post (P := fun t => ∃ L R : Tm, LawR L R ∧ t = en L ++ (jn 62 :: en R)) h (List.mem_of_getElem? (i := 0) rfl) ⟨(Nd (jn 106) (Nd (jn 117) Lf Lf) (Nd (jn 118) Lf Lf)), (Nd (jn 105) (Nd (jn 117) Lf Lf) (Nd (jn 118) Lf Lf)), ⟨(wf_2 (by decide) (wf_0 (by decide)) (wf_0 (by decide))), (wf_2 (by decide) (wf_0 (by decide)) (wf_0 (by decide))), by decide, by decide, by decide, by decide⟩, rfl⟩ ht hW) h.lo d_L_law_105
    · refine lv_tableIn (off := 100) (tgt := 106) hx hb d_L_law_6 (by decide) (by decide) (by decide) (by decide) ?_
      refine lq_ldc S h (ix := 101) (tx := "eu>ieuu") (t := [101, 117, 62, 105, 101, 117, 117]) (by decide) d_L_law_106 (fun a22 b23 h => ?_)
      have h : LQ g 100 s _ Z [] [.inl (a22, b23, [101, 117, 62, 105, 101, 117, 117])] [] s.heap [] := h
      refine W.widen (k := 700) (n := 37000) (by omega) (by omega) ?_
      exact W.aret hx hb hr (Or.inl ⟨_, rfl⟩) (Or.inr ⟨_, rfl⟩) (fun t8 ht hW => lq_post (P := fun t => ∃ L R : Tm, LawR L R ∧ t = en L ++ (jn 62 :: en R)) h (List.mem_of_getElem? (i := 0) rfl) ⟨(Nd (jn 101) (Nd (jn 117) Lf Lf) Lf), (Nd (jn 105) (Nd (jn 101) (Nd (jn 117) Lf Lf) Lf) (Nd (jn 117) Lf Lf)), ⟨(wf_1 (by decide) (wf_0 (by decide))), (wf_2 (by decide) (wf_1 (by decide) (wf_0 (by decide))) (wf_0 (by decide))), by decide, by decide, by decide, by decide⟩, rfl⟩ ht hW) h.lo d_L_law_108
    · refine lv_tableIn (off := 103) (tgt := 109) hx hb d_L_law_6 (by decide) (by decide) (by decide) (by decide) ?_
      refine lq_ldc S h (ix := 103) (tx := "iuivw>iiuvw") (t := [105, 117, 105, 118, 119, 62, 105, 105, 117, 118, 119]) (by decide) d_L_law_109 (fun a24 b25 h => ?_)
      have h : LQ g 100 s _ Z [] [.inl (a24, b25, [105, 117, 105, 118, 119, 62, 105, 105, 117, 118, 119])] [] s.heap [] := h
      refine W.widen (k := 700) (n := 37000) (by omega) (by omega) ?_
      exact W.aret hx hb hr (Or.inl ⟨_, rfl⟩) (Or.inr ⟨_, rfl⟩) (fun t8 ht hW => lq_post (P := fun t => ∃ L R : Tm, LawR L R ∧ t = en L ++ (jn 62 :: en R)) h (List.mem_of_getElem? (i := 0) rfl) ⟨(Nd (jn 105) (Nd (jn 117) Lf Lf) (Nd (jn 105) (Nd (jn 118) Lf Lf) (Nd (jn 119) Lf Lf))), (Nd (jn 105) (Nd (jn 105) (Nd (jn 117) Lf Lf) (Nd (jn 118) Lf Lf)) (Nd (jn 119) Lf Lf)), ⟨(wf_2 (by decide) (wf_0 (by decide)) (wf_2 (by decide) (wf_0 (by decide)) (wf_0 (by decide)))), (wf_2 (by decide) (wf_2 (by decide) (wf_0 (by decide)) (wf_0 (by decide))) (wf_0 (by decide))), by decide, by decide, by decide, by decide⟩, rfl⟩ ht hW) h.lo d_L_law_111
    · refine lv_tableIn (off := 106) (tgt := 112) hx hb d_L_law_6 (by decide) (by decide) (by decide) (by decide) ?_
      refine lq_ldc S h (ix := 105) (tx := "fu>u") (t := [102, 117, 62, 117]) (by decide) d_L_law_112 (fun a26 b27 h => ?_)
      have h : LQ g 100 s _ Z [] [.inl (a26, b27, [102, 117, 62, 117])] [] s.heap [] := h
      refine W.widen (k := 700) (n := 37000) (by omega) (by omega) ?_
      exact W.aret hx hb hr (Or.inl ⟨_, rfl⟩) (Or.inr ⟨_, rfl⟩) (fun t8 ht hW => lq_post (P := fun t => ∃ L R : Tm, LawR L R ∧ t = en L ++ (jn 62 :: en R)) h (List.mem_of_getElem? (i := 0) rfl) ⟨(Nd (jn 102) (Nd (jn 117) Lf Lf) Lf), (Nd (jn 117) Lf Lf), ⟨(wf_1 (by decide) (wf_0 (by decide))), (wf_0 (by decide)), by decide, by decide, by decide, by decide⟩, rfl⟩ ht hW) h.lo d_L_law_114
    · refine lv_tableIn (off := 109) (tgt := 115) hx hb d_L_law_6 (by decide) (by decide) (by decide) (by decide) ?_
      refine lq_ldc S h (ix := 107) (tx := "jiuvw>ijuwjvw") (t := [106, 105, 117, 118, 119, 62, 105, 106, 117, 119, 106, 118, 119]) (by decide) d_L_law_115 (fun a28 b29 h => ?_)
      have h : LQ g 100 s _ Z [] [.inl (a28, b29, [106, 105, 117, 118, 119, 62, 105, 106, 117, 119, 106, 118, 119])] [] s.heap [] := h
      refine W.widen (k := 700) (n := 37000) (by omega) (by omega) ?_
      exact W.aret hx hb hr (Or.inl ⟨_, rfl⟩) (Or.inr ⟨_, rfl⟩) (fun t8 ht hW => lq_post (P := fun t => ∃ L R : Tm, LawR L R ∧ t = en L ++ (jn 62 :: en R)) h (List.mem_of_getElem? (i := 0) rfl) ⟨(Nd (jn 106) (Nd (jn 105) (Nd (jn 117) Lf Lf) (Nd (jn 118) Lf Lf)) (Nd (jn 119) Lf Lf)), (Nd (jn 105) (Nd (jn 106) (Nd (jn 117) Lf Lf) (Nd (jn 119) Lf Lf)) (Nd (jn 106) (Nd (jn 118) Lf Lf) (Nd (jn 119) Lf Lf))), ⟨(wf_2 (by decide) (wf_2 (by decide) (wf_0 (by decide)) (wf_0 (by decide))) (wf_0 (by decide))), (wf_2 (by decide) (wf_2 (by decide) (wf_0 (by decide)) (wf_0 (by decide))) (wf_2 (by decide) (wf_0 (by decide)) (wf_0 (by decide)))), by decide, by decide, by decide, by decide⟩, rfl⟩ ht hW) h.lo d_L_law_117
    · exact lv_tableOut (tgt := 118) hx hb d_L_law_6 (by decide) (by decide) (dflt () trivial)
    · exact lv_tableOut (tgt := 118) hx hb d_L_law_6 (by decide) (by decide) (dflt () trivial)
  · show W p l e _ s m _ below meth c s.heap [] 0 0 _ (F0 m 118 ls [])
    clear hk k
    have hz4 : gz 4 = 31 := rfl
    have hz3 : gz 3 = 15 := rfl
    refine lv_iload_n hx hb d_L_law_118 rfl (lv_at hl 0 rfl) ?_
    refine lv_iconst (v := 4) hx hb d_L_law_119 (by decide) ?_
    refine lv_ishr hx hb d_L_law_120 ?_
    refine lv_bipush (v := (8)) hx hb d_L_law_121 (by decide) ?_
    refine lv_ior hx hb d_L_law_123 ?_
    refine lv_iload_n hx hb d_L_law_124 rfl (lv_at hl 1 rfl) ?_
    refine lv_iconst (v := 0) hx hb d_L_law_125 (by decide) ?_
    refine lq_callS (As := [.int ((x >>> ((4 : Int32) &&& 31)) ||| (8)), .int y, .int 0]) (rest := []) S hl.1 h (t_grow l g 4 0 rfl ((x >>> ((4 : Int32) &&& 31)) ||| (8)) y) (fun x9 hx9 => absurd hx9 List.not_mem_nil) trivial (va_cwS 3 hts (g_sta (own := RL) (ix := 73) (y := yL_grow) (by decide +kernel) (by decide +kernel) (by decide +kernel) (g_con cw_L_grow)) rfl rfl rfl (by decide +kernel) ⟨by show (12 + 4) + 1 ≤ 20; omega, by show 8 + (6 + 11) + (600 + 100 * 4) ≤ 1200; omega⟩) rfl rfl (Nat.le_of_ble_eq_true rfl) d_L_law_126 ⟨by show _ ≤ 700; omega, by show _ ≤ 37000; omega⟩ (fun a30 b31 t32 H locs ha30 h => ?_)
    have h : LQ g 100 s _ Z [] [.inl (a30, b31, t32)] [] H locs := h
    obtain ⟨P, hwP, hsP, eP⟩ := ha30
    subst eP
    have h : LQ g 100 s _ Z [] [.inl (a30, b31, (en P))] [] H locs := h
    have hlP : (en P).length ≤ gz 4 := hsP
    have hpP : 0 < (en P).length := sz_pos P hwP
    refine lv_astore_n (lv' := [(2, .ref a30), (0, .int x), (1, .int y)]) hx hb d_L_law_129 rfl hl (by decide) rfl (fun ls hl => ?_)
    refine lv_aload_n hx hb d_L_law_130 rfl (lv_at hl 0 rfl) ?_
    refine lv_iconst (v := 0) hx hb d_L_law_131 (by decide) ?_
    refine lq_chr S hl.1 h (List.mem_of_getElem? (i := 0) rfl) (by omega) (As_en hwP) (i := 0) hpP ⟨by show _ ≤ 20; omega, by show _ ≤ 1200; omega, by show _ ≤ 700; omega, by show _ ≤ 37000; omega⟩ (Nat.le_of_ble_eq_true rfl) d_L_law_132 ?_
    refine lq_callI (As := [.int (bt (en P) 0)]) (rest := []) S hl.1 h (t_variable l g (bt (en P) 0)) (fun x9 hx9 => absurd hx9 List.not_mem_nil) trivial (va_cwS 1 hts (g_sta (own := RL) (ix := 109) (y := yL_variable) (by decide +kernel) (by decide +kernel) (by decide +kernel) (g_con cw_L_variable)) rfl rfl rfl (by decide +kernel) ⟨by show 1 + 1 ≤ 20; omega, by show 8 + (1 + 11) + 60 ≤ 1200; omega⟩) rfl rfl (Nat.le_of_ble_eq_true rfl) d_L_law_135 ⟨by show _ ≤ 700; omega, by show _ ≤ 37000; omega⟩ (fun r33 hr33 => ?_)
    refine w_tail (ι := (Heap × List Loc × Array Slot) × Nat × Nat × Tm) (Hf := fun i => i.1.1) (Jf := fun i => i.1.2.1) (kf := fun _ => 400) (nf := fun _ => 17000) (gf := fun i => F0 m 161 i.1.2.2 []) (PN := fun i => LQ g 100 s (va_A [] s.heap.size) Z [] [.inl (i.2.1, i.2.2.1, en i.2.2.2)] [] i.1.1 i.1.2.1 ∧ lv_has i.1.2.2 6 [(2, .ref i.2.1), (0, .int x), (1, .int y)] ∧ wf i.2.2.2 ∧ sz i.2.2.2 ≤ 32 ∧ ¬ isV (sgn i.2.2.2 0)) (fun tail => ?_) (fun i hi => ?_)
    · rcases hr33 with ⟨hv1, rfl⟩ | ⟨hv1, rfl⟩
      · refine lv_if_eq (tgt := 161) hx hb d_L_law_138 (by decide) (fun h9 => absurd h9 (by decide)) (fun _ => ?_)
        refine lq_new S hl.1 h ⟨by show _ ≤ 20; omega, by show _ ≤ 1200; omega, by show _ ≤ 700; omega, by show _ ≤ 37000; omega⟩ (Nat.le_of_ble_eq_true rfl) d_L_law_141 d_L_law_144 d_L_law_145 (fun q34 H locs h => ?_)
        have h : LQ g 100 s _ Z [] [.inl (a30, b31, (en P))] [(q34, [])] H locs := h
        refine lq_ldc S h (ix := 69) (tx := "e") (t := [101]) (by decide) d_L_law_148 (fun a35 b36 h => ?_)
        have h : LQ g 100 s _ Z [] [.inl (a30, b31, (en P)), .inl (a35, b36, [101])] [(q34, [])] H locs := h
        refine lq_appS S hl.1 h (List.mem_of_getElem? (i := 1) rfl) (by first | omega | (simp only [List.length_append, List.length_cons, List.length_nil]; omega)) (As_k (by decide)) (by first | omega | (simp only [List.length_append, List.length_cons, List.length_nil]; omega)) (by omega) ⟨by show _ ≤ 20; omega, by show _ ≤ 1200; omega, by show _ ≤ 700; omega, by show _ ≤ 37000; omega⟩ (Nat.le_of_ble_eq_true rfl) d_L_law_150 (fun H locs h => ?_)
        have h : LQ g 100 s _ Z [] [.inl (a30, b31, (en P)), .inl (a35, b36, [101])] [(q34, ([] ++ ([101])))] H locs := h
        refine lv_aload_n hx hb d_L_law_153 rfl (lv_at hl 0 rfl) ?_
        refine lq_appS S hl.1 h (List.mem_of_getElem? (i := 0) rfl) (by omega) (As_en hwP) (by first | omega | (simp only [List.length_append, List.length_cons, List.length_nil]; omega)) (by omega) ⟨by show _ ≤ 20; omega, by show _ ≤ 1200; omega, by show _ ≤ 700; omega, by show _ ≤ 37000; omega⟩ (Nat.le_of_ble_eq_true rfl) d_L_law_154 (fun H locs h => ?_)
        have h : LQ g 100 s _ Z [] [.inl (a30, b31, (en P)), .inl (a35, b36, [101])] [(q34, (([] ++ ([101])) ++ (en P)))] H locs := h
        refine lq_toT S hl.1 h (by omega) ⟨by show _ ≤ 20; omega, by show _ ≤ 1200; omega, by show _ ≤ 700; omega, by show _ ≤ 37000; omega⟩ (Nat.le_of_ble_eq_true rfl) d_L_law_157 (fun a37 b38 H locs h => ?_)
        have h : LQ g 100 s _ Z [] [.inl (a30, b31, (en P)), .inl (a35, b36, [101]), .inl (a37, b38, (([] ++ ([101])) ++ (en P)))] [] H locs := h
        rw [show (([] ++ ([101])) ++ (en P)) = (en (Nd (jn 101) P Lf)) from by rw [en_1]; rfl] at h
        have h : LQ g 100 s _ Z [] [.inl (a30, b31, (en P)), .inl (a35, b36, [101]), .inl (a37, b38, (en (Nd (jn 101) P Lf)))] [] H locs := h
        refine lv_astore_n (lv' := [(2, .ref a37), (0, .int x), (1, .int y)]) hx hb d_L_law_160 rfl hl (by decide) rfl (fun ls hl => ?_)
        have h := h.less (RO' := [.inl (a37, b38, (en (Nd (jn 101) P Lf)))]) (fun x9 hx9 => by simp only [List.mem_cons, List.not_mem_nil, or_false, List.append_assoc, List.cons_append, List.nil_append] at hx9 ⊢; simp [hx9])
        have h : LQ g 100 s _ Z [] [.inl (a37, b38, (en (Nd (jn 101) P Lf)))] [] H locs := h
        have hl : lv_has ls 6 [(2, .ref a37), (0, .int x), (1, .int y)] := lv_sub hl [0, 1, 2] rfl
        exact W.widen (by omega) (by omega) (tail ((H, locs, ls), a37, b38, (Nd (jn 101) P Lf)) ⟨h, hl, wf_1 (by decide) hwP, by show sz _ ≤ 32; rw [sz_1]; omega, by show ¬ isV (jn 101); decide⟩)
      · refine lv_if_eq (tgt := 161) hx hb d_L_law_138 (by decide) (fun _ => ?_) (fun h9 => absurd rfl h9)
        have hl : lv_has ls 6 [(2, .ref a30), (0, .int x), (1, .int y)] := lv_sub hl [0, 1, 2] rfl
        exact W.widen (by omega) (by omega) (tail ((H, locs, ls), a30, b31, P) ⟨h, hl, hwP, by show sz P ≤ 32; omega, hv1⟩)
    · obtain ⟨⟨H, locs, ls⟩, a2, b2, L⟩ := i
      obtain ⟨h, hl, hwL, hsL, hvL⟩ := hi
      show W p l e _ s m _ below meth c H locs 400 17000 _ (F0 m 161 ls [])
      have hl : lv_has ls 6 [(2, .ref a2), (0, .int x), (1, .int y)] := hl
      have h : LQ g 100 s _ Z [] [.inl (a2, b2, (en L))] [] H locs := h
      have hlL : (en L).length ≤ 32 := hsL
      refine lv_iload_n hx hb d_L_law_161 rfl (lv_at hl 2 rfl) ?_
      refine lv_iconst (v := 4) hx hb d_L_law_162 (by decide) ?_
      refine lv_ishr hx hb d_L_law_163 ?_
      refine lv_iload_n hx hb d_L_law_164 rfl (lv_at hl 1 rfl) ?_
      refine lv_bipush (v := (9)) hx hb d_L_law_165 (by decide) ?_
      refine lv_ishr hx hb d_L_law_167 ?_
      refine lv_iconst (v := 1) hx hb d_L_law_168 (by decide) ?_
      refine lq_callS (As := [.int (y >>> ((4 : Int32) &&& 31)), .int (x >>> (((9) : Int32) &&& 31)), .int 1]) (rest := []) S hl.1 h (t_grow l g 3 1 rfl (y >>> ((4 : Int32) &&& 31)) (x >>> (((9) : Int32) &&& 31))) (fun x9 hx9 => absurd hx9 List.not_mem_nil) trivial (va_cwS 3 hts (g_sta (own := RL) (ix := 73) (y := yL_grow) (by decide +kernel) (by decide +kernel) (by decide +kernel) (g_con cw_L_grow)) rfl rfl rfl (by decide +kernel) ⟨by show (12 + 3) + 1 ≤ 20; omega, by show 8 + (6 + 11) + (600 + 100 * 3) ≤ 1200; omega⟩) rfl rfl (Nat.le_of_ble_eq_true rfl) d_L_law_169 ⟨by show _ ≤ 700; omega, by show _ ≤ 37000; omega⟩ (fun a39 b40 t41 H locs ha39 h => ?_)
      have h : LQ g 100 s _ Z [] [.inl (a2, b2, (en L)), .inl (a39, b40, t41)] [] H locs := h
      obtain ⟨V, hwV, hsV, eV⟩ := ha39
      subst eV
      have h : LQ g 100 s _ Z [] [.inl (a2, b2, (en L)), .inl (a39, b40, (en V))] [] H locs := h
      have hlV : (en V).length ≤ gz 3 := hsV
      have hpV : 0 < (en V).length := sz_pos V hwV
      refine lv_astore_n (lv' := [(3, .ref a39), (2, .ref a2), (0, .int x), (1, .int y)]) hx hb d_L_law_172 rfl hl (by decide) rfl (fun ls hl => ?_)
      refine lq_ldc S h (ix := 54) (tx := "") (t := []) (by decide) d_L_law_173 (fun a42 b43 h => ?_)
      have h : LQ g 100 s _ Z [] [.inl (a2, b2, (en L)), .inl (a39, b40, (en V)), .inl (a42, b43, [])] [] H locs := h
      refine lv_astore (lv' := [(4, .ref a42), (3, .ref a39), (2, .ref a2), (0, .int x), (1, .int y)]) hx hb d_L_law_175 hl (by decide) rfl (fun ls hl => ?_)
      refine lv_iconst (v := 0) hx hb d_L_law_177 (by decide) ?_
      refine lv_istore (lv' := [(5, .int 0), (4, .ref a42), (3, .ref a39), (2, .ref a2), (0, .int x), (1, .int y)]) hx hb d_L_law_178 hl (by decide) rfl (fun ls hl => ?_)
      have hl : lv_has ls 6 [(4, .ref a42), (5, .int 0), (3, .ref a39), (2, .ref a2)] := lv_sub hl [1, 0, 2, 3] rfl
      refine w_tail (ι := (Heap × List Loc × Array Slot) × Nat × Nat × Nat × Nat) (Hf := fun i => i.1.1) (Jf := fun i => i.1.2.1) (kf := fun i => 600 + 6 * i.2.2.1) (nf := fun i => 25000 + 700 * i.2.2.1) (gf := fun i => F0 m 180 i.1.2.2 []) (PN := fun i => ∃ X : List Int32, i.2.1 + i.2.2.1 = (en V).length ∧ X = ((en V).take i.2.2.1).map (phL L) ∧ LQ g 100 s (va_A [] s.heap.size) Z [] [.inl (a2, b2, en L), .inl (a39, b40, en V), .inl (i.2.2.2.1, i.2.2.2.2, X)] [] i.1.1 i.1.2.1 ∧ lv_has i.1.2.2 6 [(4, .ref i.2.2.2.1), (5, .int (jn i.2.2.1)), (3, .ref a39), (2, .ref a2)]) (fun tail => ?_) ?_
      · exact W.widen (by omega) (by omega) (tail ((H, locs, ls), (en V).length, 0, a42, b43) ⟨[], rfl, rfl, h, hl⟩)
      · rintro ⟨⟨H, locs, ls⟩, n, i, a4, b4⟩ hi
        show W p l e _ s m _ below meth c H locs (600 + 6 * i) (25000 + 700 * i) _ (F0 m 180 ls [])
        clear h hl
        induction n generalizing H locs ls i a4 b4 with
        | zero =>
          obtain ⟨X, hn, hX, h, hl⟩ := hi
          have hn : 0 + i = (en V).length := hn
          have hl : lv_has ls 6 [(4, .ref a4), (5, .int (jn i)), (3, .ref a39), (2, .ref a2)] := hl
          have h : LQ g 100 s _ Z [] [.inl (a2, b2, (en L)), .inl (a39, b40, (en V)), .inl (a4, b4, X)] [] H locs := h
          have hXl : X.length ≤ 15 := by
            rw [hX, List.length_map, List.length_take]
            omega
          refine lv_iload hx hb d_L_law_180 (lv_at hl 1 rfl) ?_
          refine lv_aload_n hx hb d_L_law_182 rfl (lv_at hl 2 rfl) ?_
          refine lq_len S hl.1 h (List.mem_of_getElem? (i := 1) rfl) (by omega) ⟨by show _ ≤ 20; omega, by show _ ≤ 1200; omega, by show _ ≤ 700; omega, by show _ ≤ 37000; omega⟩ (Nat.le_of_ble_eq_true rfl) d_L_law_183 ?_
          have hn : i = (en V).length := by have h8 : 0 + i = (en V).length := hn; omega
          refine lv_icmp_ge (tgt := 251) hx hb d_L_law_186 (by decide) (fun _ => ?_) (fun h9 => absurd (by rw [jn_le (by omega) (by omega)]; omega) h9)
          refine lq_new S hl.1 h ⟨by show _ ≤ 20; omega, by show _ ≤ 1200; omega, by show _ ≤ 700; omega, by show _ ≤ 37000; omega⟩ (Nat.le_of_ble_eq_true rfl) d_L_law_251 d_L_law_254 d_L_law_255 (fun q44 H locs h => ?_)
          have h : LQ g 100 s _ Z [] [.inl (a2, b2, (en L)), .inl (a39, b40, (en V)), .inl (a4, b4, X)] [(q44, [])] H locs := h
          refine lv_aload_n hx hb d_L_law_258 rfl (lv_at hl 3 rfl) ?_
          refine lq_appS S hl.1 h (List.mem_of_getElem? (i := 0) rfl) (by omega) (As_en hwL) (by first | omega | (simp only [List.length_append, List.length_cons, List.length_nil]; omega)) (by omega) ⟨by show _ ≤ 20; omega, by show _ ≤ 1200; omega, by show _ ≤ 700; omega, by show _ ≤ 37000; omega⟩ (Nat.le_of_ble_eq_true rfl) d_L_law_259 (fun H locs h => ?_)
          have h : LQ g 100 s _ Z [] [.inl (a2, b2, (en L)), .inl (a39, b40, (en V)), .inl (a4, b4, X)] [(q44, ([] ++ (en L)))] H locs := h
          refine lq_ldc S h (ix := 116) (tx := ">") (t := [62]) (by decide) d_L_law_262 (fun a45 b46 h => ?_)
          have h : LQ g 100 s _ Z [] [.inl (a2, b2, (en L)), .inl (a39, b40, (en V)), .inl (a4, b4, X), .inl (a45, b46, [62])] [(q44, ([] ++ (en L)))] H locs := h
          refine lq_appS S hl.1 h (List.mem_of_getElem? (i := 3) rfl) (by first | omega | (simp only [List.length_append, List.length_cons, List.length_nil]; omega)) (As_k (by decide)) (by first | omega | (simp only [List.length_append, List.length_cons, List.length_nil]; omega)) (by omega) ⟨by show _ ≤ 20; omega, by show _ ≤ 1200; omega, by show _ ≤ 700; omega, by show _ ≤ 37000; omega⟩ (Nat.le_of_ble_eq_true rfl) d_L_law_264 (fun H locs h => ?_)
          have h : LQ g 100 s _ Z [] [.inl (a2, b2, (en L)), .inl (a39, b40, (en V)), .inl (a4, b4, X), .inl (a45, b46, [62])] [(q44, (([] ++ (en L)) ++ ([62])))] H locs := h
          refine lv_aload hx hb d_L_law_267 (lv_at hl 0 rfl) ?_
          refine lq_appS S hl.1 h (List.mem_of_getElem? (i := 2) rfl) (by omega) (phL_As hX (As_en hwV)) (by first | omega | (simp only [List.length_append, List.length_cons, List.length_nil]; omega)) (by omega) ⟨by show _ ≤ 20; omega, by show _ ≤ 1200; omega, by show _ ≤ 700; omega, by show _ ≤ 37000; omega⟩ (Nat.le_of_ble_eq_true rfl) d_L_law_269 (fun H locs h => ?_)
          have h : LQ g 100 s _ Z [] [.inl (a2, b2, (en L)), .inl (a39, b40, (en V)), .inl (a4, b4, X), .inl (a45, b46, [62])] [(q44, ((([] ++ (en L)) ++ ([62])) ++ X))] H locs := h
          refine lq_toT S hl.1 h (by omega) ⟨by show _ ≤ 20; omega, by show _ ≤ 1200; omega, by show _ ≤ 700; omega, by show _ ≤ 37000; omega⟩ (Nat.le_of_ble_eq_true rfl) d_L_law_272 (fun a47 b48 H locs h => ?_)
          have h : LQ g 100 s _ Z [] [.inl (a2, b2, (en L)), .inl (a39, b40, (en V)), .inl (a4, b4, X), .inl (a45, b46, [62]), .inl (a47, b48, ((([] ++ (en L)) ++ ([62])) ++ X))] [] H locs := h
          obtain ⟨V2, hw2, he2⟩ := phL_tree L V hwV
          have hX2 : X = en V2 := by rw [hX, hn, List.take_length, he2]
          have hsV2 : (en V2).length = (en V).length := by rw [he2, List.length_map]
          refine W.widen (k := 700) (n := 37000) (by omega) (by omega) ?_
          exact W.aret hx hb hr (Or.inl ⟨_, rfl⟩) (Or.inr ⟨_, rfl⟩) (fun t8 ht hW => lq_post (P := fun t => ∃ L R : Tm, LawR L R ∧ t = en L ++ (jn 62 :: en R)) h (List.mem_of_getElem? (i := 4) rfl) ⟨L, V2, ⟨hwL, hw2, by omega, by show (en V2).length ≤ 31; omega, hvL, by rw [he2]; exact phL_vars⟩, by rw [hX2]; simp only [List.nil_append, List.append_assoc, List.cons_append]; rfl⟩ ht hW) h.lo d_L_law_275
        | succ n ih =>
          obtain ⟨X, hn, hX, h, hl⟩ := hi
          have hn : n + 1 + i = (en V).length := hn
          have hl : lv_has ls 6 [(4, .ref a4), (5, .int (jn i)), (3, .ref a39), (2, .ref a2)] := hl
          have h : LQ g 100 s _ Z [] [.inl (a2, b2, (en L)), .inl (a39, b40, (en V)), .inl (a4, b4, X)] [] H locs := h
          have hXl : X.length ≤ 15 := by
            rw [hX, List.length_map, List.length_take]
            omega
          refine lv_iload hx hb d_L_law_180 (lv_at hl 1 rfl) ?_
          refine lv_aload_n hx hb d_L_law_182 rfl (lv_at hl 2 rfl) ?_
          refine lq_len S hl.1 h (List.mem_of_getElem? (i := 1) rfl) (by omega) ⟨by show _ ≤ 20; omega, by show _ ≤ 1200; omega, by show _ ≤ 700; omega, by show _ ≤ 37000; omega⟩ (Nat.le_of_ble_eq_true rfl) d_L_law_183 ?_
          have hn : n + 1 + i = (en V).length := hn
          have hi : i < (en V).length := by omega
          refine lv_icmp_ge (tgt := 251) hx hb d_L_law_186 (by decide) (fun h9 => absurd h9 (by rw [jn_le (by omega) (by omega)]; omega)) (fun _ => ?_)
          refine lq_new S hl.1 h ⟨by show _ ≤ 20; omega, by show _ ≤ 1200; omega, by show _ ≤ 700; omega, by show _ ≤ 37000; omega⟩ (Nat.le_of_ble_eq_true rfl) d_L_law_189 d_L_law_192 d_L_law_193 (fun q49 H locs h => ?_)
          have h : LQ g 100 s _ Z [] [.inl (a2, b2, (en L)), .inl (a39, b40, (en V)), .inl (a4, b4, X)] [(q49, [])] H locs := h
          refine lv_aload hx hb d_L_law_196 (lv_at hl 0 rfl) ?_
          refine lq_appS S hl.1 h (List.mem_of_getElem? (i := 2) rfl) (by omega) (phL_As hX (As_en hwV)) (by first | omega | (simp only [List.length_append, List.length_cons, List.length_nil]; omega)) (by omega) ⟨by show _ ≤ 20; omega, by show _ ≤ 1200; omega, by show _ ≤ 700; omega, by show _ ≤ 37000; omega⟩ (Nat.le_of_ble_eq_true rfl) d_L_law_198 (fun H locs h => ?_)
          have h : LQ g 100 s _ Z [] [.inl (a2, b2, (en L)), .inl (a39, b40, (en V)), .inl (a4, b4, X)] [(q49, ([] ++ X))] H locs := h
          refine lv_aload_n hx hb d_L_law_201 rfl (lv_at hl 2 rfl) ?_
          refine lv_iload hx hb d_L_law_202 (lv_at hl 1 rfl) ?_
          refine lq_chr S hl.1 h (List.mem_of_getElem? (i := 1) rfl) (by omega) (As_en hwV) (i := i) hi ⟨by show _ ≤ 20; omega, by show _ ≤ 1200; omega, by show _ ≤ 700; omega, by show _ ≤ 37000; omega⟩ (Nat.le_of_ble_eq_true rfl) d_L_law_204 ?_
          obtain ⟨k, ek, hk⟩ := as_bt (As_en hwV) hi
          rw [ek]
          refine lq_callI (As := [.int (jn k)]) (rest := [.ref q49]) S hl.1 h (t_variable l g (jn k)) (fun x9 hx9 => absurd hx9 List.not_mem_nil) trivial (va_cwS 1 hts (g_sta (own := RL) (ix := 109) (y := yL_variable) (by decide +kernel) (by decide +kernel) (by decide +kernel) (g_con cw_L_variable)) rfl rfl rfl (by decide +kernel) ⟨by show 1 + 1 ≤ 20; omega, by show 8 + (1 + 11) + 60 ≤ 1200; omega⟩) rfl rfl (Nat.le_of_ble_eq_true rfl) d_L_law_207 ⟨by show _ ≤ 700; omega, by show _ ≤ 37000; omega⟩ (fun r50 hr50 => ?_)
          rcases hr50 with ⟨hv1, rfl⟩ | ⟨hv1, rfl⟩
          · refine lv_if_eq (tgt := 231) hx hb d_L_law_210 (by decide) (fun h9 => absurd h9 (by decide)) (fun _ => ?_)
            refine lv_aload_n hx hb d_L_law_213 rfl (lv_at hl 3 rfl) ?_
            refine lv_aload_n hx hb d_L_law_214 rfl (lv_at hl 2 rfl) ?_
            refine lv_iload hx hb d_L_law_215 (lv_at hl 1 rfl) ?_
            refine lq_chr S hl.1 h (List.mem_of_getElem? (i := 1) rfl) (by omega) (As_en hwV) (i := i) hi ⟨by show _ ≤ 20; omega, by show _ ≤ 1200; omega, by show _ ≤ 700; omega, by show _ ≤ 37000; omega⟩ (Nat.le_of_ble_eq_true rfl) d_L_law_217 ?_
            rw [ek]
            refine lq_idx S hl.1 h (List.mem_of_getElem? (i := 0) rfl) (by omega) (ch := k) hk ⟨by show _ ≤ 20; omega, by show _ ≤ 1200; omega, by show _ ≤ 700; omega, by show _ ≤ 37000; omega⟩ (Nat.le_of_ble_eq_true rfl) d_L_law_220 ?_
            refine lv_if_ge (tgt := 231) hx hb d_L_law_223 (by decide) (fun h9 => ?_) (fun h9 => ?_)
            · have hm := fi_mem h9
              refine lv_aload_n hx hb d_L_law_231 rfl (lv_at hl 2 rfl) ?_
              refine lv_iload hx hb d_L_law_232 (lv_at hl 1 rfl) ?_
              refine lq_chr S hl.1 h (List.mem_of_getElem? (i := 1) rfl) (by omega) (As_en hwV) (i := i) hi ⟨by show _ ≤ 20; omega, by show _ ≤ 1200; omega, by show _ ≤ 700; omega, by show _ ≤ 37000; omega⟩ (Nat.le_of_ble_eq_true rfl) d_L_law_234 ?_
              rw [ek]
              refine lq_appC (k := k) S hl.1 h (by first | omega | (simp only [List.length_append, List.length_cons, List.length_nil]; omega)) (by omega) (by omega) ⟨by show _ ≤ 20; omega, by show _ ≤ 1200; omega, by show _ ≤ 700; omega, by show _ ≤ 37000; omega⟩ (Nat.le_of_ble_eq_true rfl) d_L_law_237 (fun H locs h => ?_)
              have h : LQ g 100 s _ Z [] [.inl (a2, b2, (en L)), .inl (a39, b40, (en V)), .inl (a4, b4, X)] [(q49, (([] ++ X) ++ [jn k]))] H locs := h
              refine lq_toT S hl.1 h (by omega) ⟨by show _ ≤ 20; omega, by show _ ≤ 1200; omega, by show _ ≤ 700; omega, by show _ ≤ 37000; omega⟩ (Nat.le_of_ble_eq_true rfl) d_L_law_240 (fun a51 b52 H locs h => ?_)
              have h : LQ g 100 s _ Z [] [.inl (a2, b2, (en L)), .inl (a39, b40, (en V)), .inl (a4, b4, X), .inl (a51, b52, (([] ++ X) ++ [jn k]))] [] H locs := h
              refine lv_astore (lv' := [(4, .ref a51), (5, .int (jn i)), (3, .ref a39), (2, .ref a2)]) hx hb d_L_law_243 hl (by decide) rfl (fun ls hl => ?_)
              refine lv_iinc (v := ((jn i) + 1)) (lv' := [(5, .int ((jn i) + 1)), (4, .ref a51), (3, .ref a39), (2, .ref a2)]) hx hb d_L_law_245 hl (k := 1) rfl rfl (by decide) rfl (fun ls hl => ?_)
              rw [jn_1p] at hl
              refine lv_goto (tgt := 180) hx hb d_L_law_248 (by decide) ?_
              have h := h.less (RO' := [.inl (a2, b2, (en L)), .inl (a39, b40, (en V)), .inl (a51, b52, (([] ++ X) ++ [jn k]))]) (fun x9 hx9 => by simp only [List.mem_cons, List.not_mem_nil, or_false, List.append_assoc, List.cons_append, List.nil_append] at hx9 ⊢; rcases hx9 with h9 | h9 | h9 <;> simp [h9])
              have h : LQ g 100 s _ Z [] [.inl (a2, b2, (en L)), .inl (a39, b40, (en V)), .inl (a51, b52, (([] ++ X) ++ [jn k]))] [] H locs := h
              have hl : lv_has ls 6 [(4, .ref a51), (5, .int (jn (i + 1))), (3, .ref a39), (2, .ref a2)] := lv_sub hl [1, 0, 2, 3] rfl
              exact W.widen (by omega) (by omega) (ih H locs ls (i + 1) a51 b52 ⟨_, by show n + (i + 1) = (en V).length; omega, by show _ = ((en V).take (i + 1)).map (phL L); rw [map_take hi, ek, ← hX, phL_old (Or.inr hm)]; rfl, h, hl⟩)
            · have hm := fi_not (by omega) h9
              refine lv_bipush (v := (97)) hx hb d_L_law_226 (by decide) ?_
              refine lv_goto (tgt := 237) hx hb d_L_law_228 (by decide) ?_
              refine lq_appC (k := 97) S hl.1 h (by first | omega | (simp only [List.length_append, List.length_cons, List.length_nil]; omega)) (by omega) (by omega) ⟨by show _ ≤ 20; omega, by show _ ≤ 1200; omega, by show _ ≤ 700; omega, by show _ ≤ 37000; omega⟩ (Nat.le_of_ble_eq_true rfl) d_L_law_237 (fun H locs h => ?_)
              have h : LQ g 100 s _ Z [] [.inl (a2, b2, (en L)), .inl (a39, b40, (en V)), .inl (a4, b4, X)] [(q49, (([] ++ X) ++ [jn 97]))] H locs := h
              refine lq_toT S hl.1 h (by omega) ⟨by show _ ≤ 20; omega, by show _ ≤ 1200; omega, by show _ ≤ 700; omega, by show _ ≤ 37000; omega⟩ (Nat.le_of_ble_eq_true rfl) d_L_law_240 (fun a53 b54 H locs h => ?_)
              have h : LQ g 100 s _ Z [] [.inl (a2, b2, (en L)), .inl (a39, b40, (en V)), .inl (a4, b4, X), .inl (a53, b54, (([] ++ X) ++ [jn 97]))] [] H locs := h
              refine lv_astore (lv' := [(4, .ref a53), (5, .int (jn i)), (3, .ref a39), (2, .ref a2)]) hx hb d_L_law_243 hl (by decide) rfl (fun ls hl => ?_)
              refine lv_iinc (v := ((jn i) + 1)) (lv' := [(5, .int ((jn i) + 1)), (4, .ref a53), (3, .ref a39), (2, .ref a2)]) hx hb d_L_law_245 hl (k := 1) rfl rfl (by decide) rfl (fun ls hl => ?_)
              rw [jn_1p] at hl
              refine lv_goto (tgt := 180) hx hb d_L_law_248 (by decide) ?_
              have h := h.less (RO' := [.inl (a2, b2, (en L)), .inl (a39, b40, (en V)), .inl (a53, b54, (([] ++ X) ++ [jn 97]))]) (fun x9 hx9 => by simp only [List.mem_cons, List.not_mem_nil, or_false, List.append_assoc, List.cons_append, List.nil_append] at hx9 ⊢; rcases hx9 with h9 | h9 | h9 <;> simp [h9])
              have h : LQ g 100 s _ Z [] [.inl (a2, b2, (en L)), .inl (a39, b40, (en V)), .inl (a53, b54, (([] ++ X) ++ [jn 97]))] [] H locs := h
              have hl : lv_has ls 6 [(4, .ref a53), (5, .int (jn (i + 1))), (3, .ref a39), (2, .ref a2)] := lv_sub hl [1, 0, 2, 3] rfl
              exact W.widen (by omega) (by omega) (ih H locs ls (i + 1) a53 b54 ⟨_, by show n + (i + 1) = (en V).length; omega, by show _ = ((en V).take (i + 1)).map (phL L); rw [map_take hi, ek, ← hX, phL_new hv1 hm]; rfl, h, hl⟩)
          · refine lv_if_eq (tgt := 231) hx hb d_L_law_210 (by decide) (fun _ => ?_) (fun h9 => absurd rfl h9)
            refine lv_aload_n hx hb d_L_law_231 rfl (lv_at hl 2 rfl) ?_
            refine lv_iload hx hb d_L_law_232 (lv_at hl 1 rfl) ?_
            refine lq_chr S hl.1 h (List.mem_of_getElem? (i := 1) rfl) (by omega) (As_en hwV) (i := i) hi ⟨by show _ ≤ 20; omega, by show _ ≤ 1200; omega, by show _ ≤ 700; omega, by show _ ≤ 37000; omega⟩ (Nat.le_of_ble_eq_true rfl) d_L_law_234 ?_
            rw [ek]
            refine lq_appC (k := k) S hl.1 h (by first | omega | (simp only [List.length_append, List.length_cons, List.length_nil]; omega)) (by omega) (by omega) ⟨by show _ ≤ 20; omega, by show _ ≤ 1200; omega, by show _ ≤ 700; omega, by show _ ≤ 37000; omega⟩ (Nat.le_of_ble_eq_true rfl) d_L_law_237 (fun H locs h => ?_)
            have h : LQ g 100 s _ Z [] [.inl (a2, b2, (en L)), .inl (a39, b40, (en V)), .inl (a4, b4, X)] [(q49, (([] ++ X) ++ [jn k]))] H locs := h
            refine lq_toT S hl.1 h (by omega) ⟨by show _ ≤ 20; omega, by show _ ≤ 1200; omega, by show _ ≤ 700; omega, by show _ ≤ 37000; omega⟩ (Nat.le_of_ble_eq_true rfl) d_L_law_240 (fun a55 b56 H locs h => ?_)
            have h : LQ g 100 s _ Z [] [.inl (a2, b2, (en L)), .inl (a39, b40, (en V)), .inl (a4, b4, X), .inl (a55, b56, (([] ++ X) ++ [jn k]))] [] H locs := h
            refine lv_astore (lv' := [(4, .ref a55), (5, .int (jn i)), (3, .ref a39), (2, .ref a2)]) hx hb d_L_law_243 hl (by decide) rfl (fun ls hl => ?_)
            refine lv_iinc (v := ((jn i) + 1)) (lv' := [(5, .int ((jn i) + 1)), (4, .ref a55), (3, .ref a39), (2, .ref a2)]) hx hb d_L_law_245 hl (k := 1) rfl rfl (by decide) rfl (fun ls hl => ?_)
            rw [jn_1p] at hl
            refine lv_goto (tgt := 180) hx hb d_L_law_248 (by decide) ?_
            have h := h.less (RO' := [.inl (a2, b2, (en L)), .inl (a39, b40, (en V)), .inl (a55, b56, (([] ++ X) ++ [jn k]))]) (fun x9 hx9 => by simp only [List.mem_cons, List.not_mem_nil, or_false, List.append_assoc, List.cons_append, List.nil_append] at hx9 ⊢; rcases hx9 with h9 | h9 | h9 <;> simp [h9])
            have h : LQ g 100 s _ Z [] [.inl (a2, b2, (en L)), .inl (a39, b40, (en V)), .inl (a55, b56, (([] ++ X) ++ [jn k]))] [] H locs := h
            have hl : lv_has ls 6 [(4, .ref a55), (5, .int (jn (i + 1))), (3, .ref a39), (2, .ref a2)] := lv_sub hl [1, 0, 2, 3] rfl
            exact W.widen (by omega) (by omega) (ih H locs ls (i + 1) a55 b56 ⟨_, by show n + (i + 1) = (en V).length; omega, by show _ = ((en V).take (i + 1)).map (phL L); rw [map_take hi, ek, ← hX, phL_old (Or.inl hv1)]; rfl, h, hl⟩)
