/-! the law: world (laid by wip/p41/gen/law8.py) -/
/-- what the law's world keeps while it is built: n terms, R rules, W strategies, the first R of them rules -/
def Wv (A : AT) (M : PM) (n R W : Nat) : Prop := RX A M ∧ AOk A ∧ (tsA A).length = n ∧ (rsA A).length = R ∧ (ssA A).length = W ∧ M.1 52 0 = jn W ∧ M.1 52 3 = jn n ∧ M.1 52 4 = jn R ∧ ∀ r, r < R → r < W → (ssA A)[r]? = some (0, jn r, jz 1)
theorem wv_pr {A : AT} {M : PM} {n R W : Nat} (h : Wv A M n R W) : Pr A M W n R := ⟨h.1, h.2.1, h.2.2.2.2.1, h.2.2.2.2.2.1, h.2.2.2.2.2.2.1, h.2.2.2.2.2.2.2.1⟩
theorem stOk_0 {A : AT} {a : Nat} (ha : a < (rsA A).length) (h : a < 1000) : stOk A (jn 0) (jn a) (jn 0) := by
  refine ⟨by decide, fun _ => ?_, fun z => absurd z (by decide), fun z => absurd z (by decide)⟩
  rw [jn_toInt (by omega)]; omega
theorem wv_add {A : AT} {M : PM} {n R W k a b : Nat} (h : Wv A M n R W) (hs : stOk A (jn k) (jn a) (jn b)) (hW : W < 24) (hq : W < R → sgNew (jn k) (jn a) (jn b) = (0, jn W, jz 1)) : ∃ M1, pcl GG laz 10 72 [.ref 0, .ref 52, .int (jn k), .int (jn a), .int (jn b)] M = rI (jn 1) M1 ∧ Wv (stA A (sgNew (jn k) (jn a) (jn b))) M1 n R (W + 1) := by
  obtain ⟨h1, h2, h3, h4, h5, h6, h7, h8, h9⟩ := h
  obtain ⟨M1, e, r1, k1, z1, j1⟩ := l_adds (d := 10) (by decide) h2 h1 hs h5 hW h6
  refine ⟨M1, e, r1, k1, h3, h4, ?_, z1, by rw [j1 3 (by decide) (by decide)]; exact h7, by rw [j1 4 (by decide) (by decide)]; exact h8, fun r hr hw => ?_⟩
  · show (ssA A ++ [_]).length = W + 1
    rw [List.length_append, h5]
    rfl
  · show (ssA A ++ [_])[r]? = _
    by_cases e9 : r < W
    · rw [List.getElem?_append_left (by omega)]
      exact h9 r hr e9
    · obtain rfl : r = W := by omega
      rw [List.getElem?_append_right (by omega), h5, Nat.sub_self, hq hr]
      rfl
theorem wv_commute {A : AT} {M : PM} {n R W i : Nat} {b : Int32} (h : Wv A M n R W) (hi : i < 4) : ∃ (v : Int32) (A1 : AT) (M1 : PM), pcl GG laz 10 15 [.ref 0, .int (jn (105 + i)), .int b] M = rI v M1 ∧ Wv A1 M1 n R W := by
  obtain ⟨h1, h2, h3, h4, h5, h6, h7, h8, h9⟩ := h
  have x := x_commute (d := 10) (a := jn (105 + i)) (b := b) (by decide) h2 h1
  have k := k_commute (a := jn (105 + i)) (b := b) h2
  have e : tsA (F_commute A (jn (105 + i)) b).2 = tsA A ∧ rsA (F_commute A (jn (105 + i)) b).2 = rsA A ∧ ssA (F_commute A (jn (105 + i)) b).2 = ssA A := by
    unfold F_commute
    split
    · exact ⟨rfl, rfl, rfl⟩
    · exact ⟨rfl, rfl, rfl⟩
  obtain ⟨M1, p1, r1, hi1⟩ := x.up
  have e52 : ∀ j, M1.1 52 j = M.1 52 j := fun j => congrFun (hi1 52 (Nat.le_refl _)).1 j
  exact ⟨_, _, M1, p1, r1, k, by rw [e.1]; exact h3, by rw [e.2.1]; exact h4, by rw [e.2.2]; exact h5, by rw [e52]; exact h6, by rw [e52]; exact h7, by rw [e52]; exact h8, by rw [e.2.2]; exact h9⟩
theorem rem8 : ∀ i, i < 16 → jn i - jn i / 8 * 8 = jn (i % 8) := by decide +kernel
theorem and_1 (v : Int32) : ∃ j, j < 2 ∧ v &&& 1 = jn j := by
  obtain ⟨j, hj, e⟩ := pk_andE v (m := 1) 1 (by decide)
  exact ⟨j, hj, by rw [e]; exact ofNat_jn (by omega)⟩
set_option maxRecDepth 100000 in
theorem cw_L_rules : Jvm.Cond.code yL_rules cL_rules 10 (some (.object "java/lang/String")) ∈ TW := TW_mem (List.mem_append_right _ (List.mem_append_right _ (List.mem_append_right _ (List.mem_append_right _ (List.mem_append_left _ (List.mem_of_getElem? (l := tables_1_4) (i := 55) rfl)))))) rfl
set_option maxRecDepth 100000 in
theorem cw_L_terms : Jvm.Cond.code yL_terms cL_terms 7 (some (.object "java/lang/String")) ∈ TW := TW_mem (List.mem_append_right _ (List.mem_append_right _ (List.mem_append_right _ (List.mem_append_right _ (List.mem_append_right _ (List.mem_append_right _ (List.mem_append_left _ (List.mem_of_getElem? (l := tables_1_6) (i := 4) rfl)))))))) rfl
theorem d_L_world_0 : decode cL_world 0 = .ok (.aload_n 2, 1) := by decide +kernel
theorem d_L_world_1 : decode cL_world 1 = .ok (.iconst 2, 1) := by decide +kernel
theorem d_L_world_2 : decode cL_world 2 = .ok (.iconst 1, 1) := by decide +kernel
theorem d_L_world_3 : decode cL_world 3 = .ok (.iastore, 1) := by decide +kernel
theorem d_L_world_4 : decode cL_world 4 = .ok (.aload_n 2, 1) := by decide +kernel
theorem d_L_world_5 : decode cL_world 5 = .ok (.iconst 4, 1) := by decide +kernel
theorem d_L_world_6 : decode cL_world 6 = .ok (.iconst 1, 1) := by decide +kernel
theorem d_L_world_7 : decode cL_world 7 = .ok (.aload_n 1, 1) := by decide +kernel
theorem d_L_world_8 : decode cL_world 8 = .ok (.iconst 0, 1) := by decide +kernel
theorem d_L_world_9 : decode cL_world 9 = .ok (.invokestatic 137, 3) := by decide +kernel
theorem d_L_world_12 : decode cL_world 12 = .ok (.iconst 4, 1) := by decide +kernel
theorem d_L_world_13 : decode cL_world 13 = .ok (.invokestatic 64, 3) := by decide +kernel
theorem d_L_world_16 : decode cL_world 16 = .ok (.iadd, 1) := by decide +kernel
theorem d_L_world_17 : decode cL_world 17 = .ok (.iastore, 1) := by decide +kernel
theorem d_L_world_18 : decode cL_world 18 = .ok (.aload_n 0, 1) := by decide +kernel
theorem d_L_world_19 : decode cL_world 19 = .ok (.aload_n 1, 1) := by decide +kernel
theorem d_L_world_20 : decode cL_world 20 = .ok (.iconst 1, 1) := by decide +kernel
theorem d_L_world_21 : decode cL_world 21 = .ok (.aload_n 2, 1) := by decide +kernel
theorem d_L_world_22 : decode cL_world 22 = .ok (.iconst 4, 1) := by decide +kernel
theorem d_L_world_23 : decode cL_world 23 = .ok (.iaload, 1) := by decide +kernel
theorem d_L_world_24 : decode cL_world 24 = .ok (.invokestatic 233, 3) := by decide +kernel
theorem d_L_world_27 : decode cL_world 27 = .ok (.astore_n 3, 1) := by decide +kernel
theorem d_L_world_28 : decode cL_world 28 = .ok (.aload_n 2, 1) := by decide +kernel
theorem d_L_world_29 : decode cL_world 29 = .ok (.iconst 3, 1) := by decide +kernel
theorem d_L_world_30 : decode cL_world 30 = .ok (.iconst 1, 1) := by decide +kernel
theorem d_L_world_31 : decode cL_world 31 = .ok (.aload_n 1, 1) := by decide +kernel
theorem d_L_world_32 : decode cL_world 32 = .ok (.iconst 0, 1) := by decide +kernel
theorem d_L_world_33 : decode cL_world 33 = .ok (.invokestatic 137, 3) := by decide +kernel
theorem d_L_world_36 : decode cL_world 36 = .ok (.iconst 3, 1) := by decide +kernel
theorem d_L_world_37 : decode cL_world 37 = .ok (.ishr, 1) := by decide +kernel
theorem d_L_world_38 : decode cL_world 38 = .ok (.iconst 4, 1) := by decide +kernel
theorem d_L_world_39 : decode cL_world 39 = .ok (.invokestatic 64, 3) := by decide +kernel
theorem d_L_world_42 : decode cL_world 42 = .ok (.iadd, 1) := by decide +kernel
theorem d_L_world_43 : decode cL_world 43 = .ok (.iastore, 1) := by decide +kernel
theorem d_L_world_44 : decode cL_world 44 = .ok (.aload_n 0, 1) := by decide +kernel
theorem d_L_world_45 : decode cL_world 45 = .ok (.aload_n 1, 1) := by decide +kernel
theorem d_L_world_46 : decode cL_world 46 = .ok (.bipush (6), 2) := by decide +kernel
theorem d_L_world_48 : decode cL_world 48 = .ok (.aload_n 2, 1) := by decide +kernel
theorem d_L_world_49 : decode cL_world 49 = .ok (.iconst 3, 1) := by decide +kernel
theorem d_L_world_50 : decode cL_world 50 = .ok (.iaload, 1) := by decide +kernel
theorem d_L_world_51 : decode cL_world 51 = .ok (.invokestatic 237, 3) := by decide +kernel
theorem d_L_world_54 : decode cL_world 54 = .ok (.astore 4, 2) := by decide +kernel
theorem d_L_world_56 : decode cL_world 56 = .ok (.aload_n 2, 1) := by decide +kernel
theorem d_L_world_57 : decode cL_world 57 = .ok (.iconst 1, 1) := by decide +kernel
theorem d_L_world_58 : decode cL_world 58 = .ok (.aload_n 1, 1) := by decide +kernel
theorem d_L_world_59 : decode cL_world 59 = .ok (.bipush (11), 2) := by decide +kernel
theorem d_L_world_61 : decode cL_world 61 = .ok (.invokestatic 137, 3) := by decide +kernel
theorem d_L_world_64 : decode cL_world 64 = .ok (.aload_n 1, 1) := by decide +kernel
theorem d_L_world_65 : decode cL_world 65 = .ok (.bipush (12), 2) := by decide +kernel
theorem d_L_world_67 : decode cL_world 67 = .ok (.invokestatic 137, 3) := by decide +kernel
theorem d_L_world_70 : decode cL_world 70 = .ok (.iand, 1) := by decide +kernel
theorem d_L_world_71 : decode cL_world 71 = .ok (.bipush (15), 2) := by decide +kernel
theorem d_L_world_73 : decode cL_world 73 = .ok (.iand, 1) := by decide +kernel
theorem d_L_world_74 : decode cL_world 74 = .ok (.iastore, 1) := by decide +kernel
theorem d_L_world_75 : decode cL_world 75 = .ok (.iconst 0, 1) := by decide +kernel
theorem d_L_world_76 : decode cL_world 76 = .ok (.istore 5, 2) := by decide +kernel
theorem d_L_world_78 : decode cL_world 78 = .ok (.iload 5, 2) := by decide +kernel
theorem d_L_world_80 : decode cL_world 80 = .ok (.iconst 4, 1) := by decide +kernel
theorem d_L_world_81 : decode cL_world 81 = .ok (.if_icmp .ge (36), 3) := by decide +kernel
theorem d_L_world_84 : decode cL_world 84 = .ok (.aload_n 0, 1) := by decide +kernel
theorem d_L_world_85 : decode cL_world 85 = .ok (.bipush (105), 2) := by decide +kernel
theorem d_L_world_87 : decode cL_world 87 = .ok (.iload 5, 2) := by decide +kernel
theorem d_L_world_89 : decode cL_world 89 = .ok (.iadd, 1) := by decide +kernel
theorem d_L_world_90 : decode cL_world 90 = .ok (.aload_n 2, 1) := by decide +kernel
theorem d_L_world_91 : decode cL_world 91 = .ok (.iconst 1, 1) := by decide +kernel
theorem d_L_world_92 : decode cL_world 92 = .ok (.iaload, 1) := by decide +kernel
theorem d_L_world_93 : decode cL_world 93 = .ok (.iload 5, 2) := by decide +kernel
theorem d_L_world_95 : decode cL_world 95 = .ok (.ishr, 1) := by decide +kernel
theorem d_L_world_96 : decode cL_world 96 = .ok (.iconst 1, 1) := by decide +kernel
theorem d_L_world_97 : decode cL_world 97 = .ok (.iand, 1) := by decide +kernel
theorem d_L_world_98 : decode cL_world 98 = .ok (.iconst 1, 1) := by decide +kernel
theorem d_L_world_99 : decode cL_world 99 = .ok (.if_icmp .ne (7), 3) := by decide +kernel
theorem d_L_world_102 : decode cL_world 102 = .ok (.iconst 1, 1) := by decide +kernel
theorem d_L_world_103 : decode cL_world 103 = .ok (.goto (4), 3) := by decide +kernel
theorem d_L_world_106 : decode cL_world 106 = .ok (.iconst 0, 1) := by decide +kernel
theorem d_L_world_107 : decode cL_world 107 = .ok (.invokevirtual 240, 3) := by decide +kernel
theorem d_L_world_110 : decode cL_world 110 = .ok (.pop, 1) := by decide +kernel
theorem d_L_world_111 : decode cL_world 111 = .ok (.iinc 5 (1), 3) := by decide +kernel
theorem d_L_world_114 : decode cL_world 114 = .ok (.goto (-36), 3) := by decide +kernel
theorem d_L_world_117 : decode cL_world 117 = .ok (.aload_n 3, 1) := by decide +kernel
theorem d_L_world_118 : decode cL_world 118 = .ok (.bipush (33), 2) := by decide +kernel
theorem d_L_world_120 : decode cL_world 120 = .ok (.invokevirtual 113, 3) := by decide +kernel
theorem d_L_world_123 : decode cL_world 123 = .ok (.ifCond .ge (17), 3) := by decide +kernel
theorem d_L_world_126 : decode cL_world 126 = .ok (.aload 4, 2) := by decide +kernel
theorem d_L_world_128 : decode cL_world 128 = .ok (.bipush (33), 2) := by decide +kernel
theorem d_L_world_130 : decode cL_world 130 = .ok (.invokevirtual 113, 3) := by decide +kernel
theorem d_L_world_133 : decode cL_world 133 = .ok (.ifCond .ge (7), 3) := by decide +kernel
theorem d_L_world_136 : decode cL_world 136 = .ok (.iconst 1, 1) := by decide +kernel
theorem d_L_world_137 : decode cL_world 137 = .ok (.goto (4), 3) := by decide +kernel
theorem d_L_world_141 : decode cL_world 141 = .ok (.istore 5, 2) := by decide +kernel
theorem d_L_world_143 : decode cL_world 143 = .ok (.iconst 0, 1) := by decide +kernel
theorem d_L_world_144 : decode cL_world 144 = .ok (.istore 6, 2) := by decide +kernel
theorem d_L_world_146 : decode cL_world 146 = .ok (.iload 6, 2) := by decide +kernel
theorem d_L_world_148 : decode cL_world 148 = .ok (.aload_n 2, 1) := by decide +kernel
theorem d_L_world_149 : decode cL_world 149 = .ok (.iconst 4, 1) := by decide +kernel
theorem d_L_world_150 : decode cL_world 150 = .ok (.iaload, 1) := by decide +kernel
theorem d_L_world_151 : decode cL_world 151 = .ok (.if_icmp .ge (25), 3) := by decide +kernel
theorem d_L_world_154 : decode cL_world 154 = .ok (.iload 5, 2) := by decide +kernel
theorem d_L_world_156 : decode cL_world 156 = .ok (.ifCond .eq (20), 3) := by decide +kernel
theorem d_L_world_159 : decode cL_world 159 = .ok (.aload_n 0, 1) := by decide +kernel
theorem d_L_world_160 : decode cL_world 160 = .ok (.aload_n 2, 1) := by decide +kernel
theorem d_L_world_161 : decode cL_world 161 = .ok (.iconst 0, 1) := by decide +kernel
theorem d_L_world_162 : decode cL_world 162 = .ok (.iload 6, 2) := by decide +kernel
theorem d_L_world_164 : decode cL_world 164 = .ok (.iconst 0, 1) := by decide +kernel
theorem d_L_world_165 : decode cL_world 165 = .ok (.invokestatic 244, 3) := by decide +kernel
theorem d_L_world_168 : decode cL_world 168 = .ok (.istore 5, 2) := by decide +kernel
theorem d_L_world_170 : decode cL_world 170 = .ok (.iinc 6 (1), 3) := by decide +kernel
theorem d_L_world_173 : decode cL_world 173 = .ok (.goto (-27), 3) := by decide +kernel
theorem d_L_world_176 : decode cL_world 176 = .ok (.iconst 2, 1) := by decide +kernel
theorem d_L_world_177 : decode cL_world 177 = .ok (.aload_n 1, 1) := by decide +kernel
theorem d_L_world_178 : decode cL_world 178 = .ok (.bipush (13), 2) := by decide +kernel
theorem d_L_world_180 : decode cL_world 180 = .ok (.invokestatic 137, 3) := by decide +kernel
theorem d_L_world_183 : decode cL_world 183 = .ok (.bipush (9), 2) := by decide +kernel
theorem d_L_world_185 : decode cL_world 185 = .ok (.invokestatic 64, 3) := by decide +kernel
theorem d_L_world_188 : decode cL_world 188 = .ok (.iadd, 1) := by decide +kernel
theorem d_L_world_189 : decode cL_world 189 = .ok (.istore 6, 2) := by decide +kernel
theorem d_L_world_191 : decode cL_world 191 = .ok (.iconst 0, 1) := by decide +kernel
theorem d_L_world_192 : decode cL_world 192 = .ok (.istore 7, 2) := by decide +kernel
theorem d_L_world_194 : decode cL_world 194 = .ok (.iload 7, 2) := by decide +kernel
theorem d_L_world_196 : decode cL_world 196 = .ok (.iload 6, 2) := by decide +kernel
theorem d_L_world_198 : decode cL_world 198 = .ok (.if_icmp .ge (153), 3) := by decide +kernel
theorem d_L_world_201 : decode cL_world 201 = .ok (.iload 5, 2) := by decide +kernel
theorem d_L_world_203 : decode cL_world 203 = .ok (.ifCond .eq (148), 3) := by decide +kernel
theorem d_L_world_206 : decode cL_world 206 = .ok (.aload_n 1, 1) := by decide +kernel
theorem d_L_world_207 : decode cL_world 207 = .ok (.bipush (14), 2) := by decide +kernel
theorem d_L_world_209 : decode cL_world 209 = .ok (.iload 7, 2) := by decide +kernel
theorem d_L_world_211 : decode cL_world 211 = .ok (.bipush (8), 2) := by decide +kernel
theorem d_L_world_213 : decode cL_world 213 = .ok (.irem, 1) := by decide +kernel
theorem d_L_world_214 : decode cL_world 214 = .ok (.iadd, 1) := by decide +kernel
theorem d_L_world_215 : decode cL_world 215 = .ok (.invokestatic 137, 3) := by decide +kernel
theorem d_L_world_218 : decode cL_world 218 = .ok (.iload 7, 2) := by decide +kernel
theorem d_L_world_220 : decode cL_world 220 = .ok (.bipush (8), 2) := by decide +kernel
theorem d_L_world_222 : decode cL_world 222 = .ok (.idiv, 1) := by decide +kernel
theorem d_L_world_223 : decode cL_world 223 = .ok (.bipush (9), 2) := by decide +kernel
theorem d_L_world_225 : decode cL_world 225 = .ok (.imul, 1) := by decide +kernel
theorem d_L_world_226 : decode cL_world 226 = .ok (.ishr, 1) := by decide +kernel
theorem d_L_world_227 : decode cL_world 227 = .ok (.iload 7, 2) := by decide +kernel
theorem d_L_world_229 : decode cL_world 229 = .ok (.sipush (1313), 3) := by decide +kernel
theorem d_L_world_232 : decode cL_world 232 = .ok (.imul, 1) := by decide +kernel
theorem d_L_world_233 : decode cL_world 233 = .ok (.ixor, 1) := by decide +kernel
theorem d_L_world_234 : decode cL_world 234 = .ok (.istore 8, 2) := by decide +kernel
theorem d_L_world_236 : decode cL_world 236 = .ok (.iload 8, 2) := by decide +kernel
theorem d_L_world_238 : decode cL_world 238 = .ok (.iconst 1, 1) := by decide +kernel
theorem d_L_world_239 : decode cL_world 239 = .ok (.iand, 1) := by decide +kernel
theorem d_L_world_240 : decode cL_world 240 = .ok (.ifCond .ne (17), 3) := by decide +kernel
theorem d_L_world_243 : decode cL_world 243 = .ok (.iconst 3, 1) := by decide +kernel
theorem d_L_world_244 : decode cL_world 244 = .ok (.iload 8, 2) := by decide +kernel
theorem d_L_world_246 : decode cL_world 246 = .ok (.iconst 1, 1) := by decide +kernel
theorem d_L_world_247 : decode cL_world 247 = .ok (.ishr, 1) := by decide +kernel
theorem d_L_world_248 : decode cL_world 248 = .ok (.bipush (11), 2) := by decide +kernel
theorem d_L_world_250 : decode cL_world 250 = .ok (.invokestatic 64, 3) := by decide +kernel
theorem d_L_world_253 : decode cL_world 253 = .ok (.iadd, 1) := by decide +kernel
theorem d_L_world_254 : decode cL_world 254 = .ok (.goto (36), 3) := by decide +kernel
theorem d_L_world_257 : decode cL_world 257 = .ok (.iload 8, 2) := by decide +kernel
theorem d_L_world_259 : decode cL_world 259 = .ok (.iconst 1, 1) := by decide +kernel
theorem d_L_world_260 : decode cL_world 260 = .ok (.ishr, 1) := by decide +kernel
theorem d_L_world_261 : decode cL_world 261 = .ok (.iconst 3, 1) := by decide +kernel
theorem d_L_world_262 : decode cL_world 262 = .ok (.invokestatic 64, 3) := by decide +kernel
theorem d_L_world_265 : decode cL_world 265 = .ok (.ifCond .ne (14), 3) := by decide +kernel
theorem d_L_world_268 : decode cL_world 268 = .ok (.iconst 1, 1) := by decide +kernel
theorem d_L_world_269 : decode cL_world 269 = .ok (.iload 8, 2) := by decide +kernel
theorem d_L_world_271 : decode cL_world 271 = .ok (.iconst 5, 1) := by decide +kernel
theorem d_L_world_272 : decode cL_world 272 = .ok (.ishr, 1) := by decide +kernel
theorem d_L_world_273 : decode cL_world 273 = .ok (.iconst 1, 1) := by decide +kernel
theorem d_L_world_274 : decode cL_world 274 = .ok (.iand, 1) := by decide +kernel
theorem d_L_world_275 : decode cL_world 275 = .ok (.iadd, 1) := by decide +kernel
theorem d_L_world_276 : decode cL_world 276 = .ok (.goto (14), 3) := by decide +kernel
theorem d_L_world_279 : decode cL_world 279 = .ok (.iconst 4, 1) := by decide +kernel
theorem d_L_world_280 : decode cL_world 280 = .ok (.iload 8, 2) := by decide +kernel
theorem d_L_world_282 : decode cL_world 282 = .ok (.iconst 1, 1) := by decide +kernel
theorem d_L_world_283 : decode cL_world 283 = .ok (.ishr, 1) := by decide +kernel
theorem d_L_world_284 : decode cL_world 284 = .ok (.bipush (10), 2) := by decide +kernel
theorem d_L_world_286 : decode cL_world 286 = .ok (.invokestatic 64, 3) := by decide +kernel
theorem d_L_world_289 : decode cL_world 289 = .ok (.iadd, 1) := by decide +kernel
theorem d_L_world_290 : decode cL_world 290 = .ok (.istore 9, 2) := by decide +kernel
theorem d_L_world_292 : decode cL_world 292 = .ok (.iload 8, 2) := by decide +kernel
theorem d_L_world_294 : decode cL_world 294 = .ok (.bipush (6), 2) := by decide +kernel
theorem d_L_world_296 : decode cL_world 296 = .ok (.ishr, 1) := by decide +kernel
theorem d_L_world_297 : decode cL_world 297 = .ok (.iconst 1, 1) := by decide +kernel
theorem d_L_world_298 : decode cL_world 298 = .ok (.iand, 1) := by decide +kernel
theorem d_L_world_299 : decode cL_world 299 = .ok (.ifCond .ne (17), 3) := by decide +kernel
theorem d_L_world_302 : decode cL_world 302 = .ok (.iload 8, 2) := by decide +kernel
theorem d_L_world_304 : decode cL_world 304 = .ok (.bipush (7), 2) := by decide +kernel
theorem d_L_world_306 : decode cL_world 306 = .ok (.ishr, 1) := by decide +kernel
theorem d_L_world_307 : decode cL_world 307 = .ok (.aload_n 2, 1) := by decide +kernel
theorem d_L_world_308 : decode cL_world 308 = .ok (.iconst 0, 1) := by decide +kernel
theorem d_L_world_309 : decode cL_world 309 = .ok (.iaload, 1) := by decide +kernel
theorem d_L_world_310 : decode cL_world 310 = .ok (.invokestatic 64, 3) := by decide +kernel
theorem d_L_world_313 : decode cL_world 313 = .ok (.goto (8), 3) := by decide +kernel
theorem d_L_world_316 : decode cL_world 316 = .ok (.aload_n 2, 1) := by decide +kernel
theorem d_L_world_317 : decode cL_world 317 = .ok (.iconst 0, 1) := by decide +kernel
theorem d_L_world_318 : decode cL_world 318 = .ok (.iaload, 1) := by decide +kernel
theorem d_L_world_319 : decode cL_world 319 = .ok (.iconst 1, 1) := by decide +kernel
theorem d_L_world_320 : decode cL_world 320 = .ok (.isub, 1) := by decide +kernel
theorem d_L_world_321 : decode cL_world 321 = .ok (.istore 10, 2) := by decide +kernel
theorem d_L_world_323 : decode cL_world 323 = .ok (.aload_n 0, 1) := by decide +kernel
theorem d_L_world_324 : decode cL_world 324 = .ok (.aload_n 2, 1) := by decide +kernel
theorem d_L_world_325 : decode cL_world 325 = .ok (.iload 9, 2) := by decide +kernel
theorem d_L_world_327 : decode cL_world 327 = .ok (.iload 10, 2) := by decide +kernel
theorem d_L_world_329 : decode cL_world 329 = .ok (.iload 8, 2) := by decide +kernel
theorem d_L_world_331 : decode cL_world 331 = .ok (.bipush (11), 2) := by decide +kernel
theorem d_L_world_333 : decode cL_world 333 = .ok (.ishr, 1) := by decide +kernel
theorem d_L_world_334 : decode cL_world 334 = .ok (.aload_n 2, 1) := by decide +kernel
theorem d_L_world_335 : decode cL_world 335 = .ok (.iconst 0, 1) := by decide +kernel
theorem d_L_world_336 : decode cL_world 336 = .ok (.iaload, 1) := by decide +kernel
theorem d_L_world_337 : decode cL_world 337 = .ok (.invokestatic 64, 3) := by decide +kernel
theorem d_L_world_340 : decode cL_world 340 = .ok (.invokestatic 244, 3) := by decide +kernel
theorem d_L_world_343 : decode cL_world 343 = .ok (.istore 5, 2) := by decide +kernel
theorem d_L_world_345 : decode cL_world 345 = .ok (.iinc 7 (1), 3) := by decide +kernel
theorem d_L_world_348 : decode cL_world 348 = .ok (.goto (-154), 3) := by decide +kernel
theorem d_L_world_351 : decode cL_world 351 = .ok (.iload 5, 2) := by decide +kernel
theorem d_L_world_353 : decode cL_world 353 = .ok (.ifCond .eq (30), 3) := by decide +kernel
theorem d_L_world_356 : decode cL_world 356 = .ok (.new 35, 3) := by decide +kernel
theorem d_L_world_359 : decode cL_world 359 = .ok (.dup, 1) := by decide +kernel
theorem d_L_world_360 : decode cL_world 360 = .ok (.invokespecial 37, 3) := by decide +kernel
theorem d_L_world_363 : decode cL_world 363 = .ok (.aload_n 3, 1) := by decide +kernel
theorem d_L_world_364 : decode cL_world 364 = .ok (.invokevirtual 44, 3) := by decide +kernel
theorem d_L_world_367 : decode cL_world 367 = .ok (.ldc 203, 2) := by decide +kernel
theorem d_L_world_369 : decode cL_world 369 = .ok (.invokevirtual 44, 3) := by decide +kernel
theorem d_L_world_372 : decode cL_world 372 = .ok (.aload 4, 2) := by decide +kernel
theorem d_L_world_374 : decode cL_world 374 = .ok (.invokevirtual 44, 3) := by decide +kernel
theorem d_L_world_377 : decode cL_world 377 = .ok (.invokevirtual 58, 3) := by decide +kernel
theorem d_L_world_380 : decode cL_world 380 = .ok (.goto (5), 3) := by decide +kernel
theorem d_L_world_385 : decode cL_world 385 = .ok (.areturn, 1) := by decide +kernel
set_option maxHeartbeats 4000000 in
set_option maxRecDepth 100000 in
theorem t_world (l : Launch) (g : GQ) (hg : g.2.2.2.2.2.1 ≤ 260) (ad : Nat → Nat) (A0 : AT) (M : PM) : MetX l g yL_world cL_world 11 ({ frames := 90, cells := 20000, slots := 2600000, locals := 8000 } : Room) (20000) (2600000) [.ref (ad 0), .ref g.2.2.2.2.1, .ref (ad 52)] [] (WL g ad M) (RX A0 M ∧ AOk A0 ∧ tsA A0 = [] ∧ rsA A0 = [] ∧ ssA A0 = [] ∧ M.1 52 0 = jn 0) (fun tx W1 => As tx ∧ 1 < tx.length ∧ tx.length ≤ 1000 ∧ ∃ (A1 : AT) (M1 : PM) (n R w : Nat), W1 = WL g ad M1 ∧ Pr A1 M1 (w + 1) n R ∧ ((tsA A1).length = n ∧ 1 ≤ n ∧ n ≤ 4) ∧ ((rsA A1).length = R ∧ 1 ≤ R ∧ R ≤ 4) ∧ w + 7 ≤ 24 ∧ (∀ r, r < R → (ssA A1)[r]? = some (0, jn r, jz 1)) ∧ R ≤ w + 1) := by
  intro sz0 Z
  refine Met.ofW (cc := cL_world) (maxL := 11) (ret := (some (.object "java/lang/String"))) (by decide) rfl ?_
  intro p e s m args below meth c s₁ B hml hv
  obtain ⟨rfl, hv⟩ := hv
  have hX := hv.1.2.2.2.2
  have hx := B.exec
  have hb := B.bytes
  have hr := B.returns
  have hts0 := atoms_spec (ws := wD yL_world cL_world 11 (some (.object "java/lang/String"))) B.pre
  have hts : ∀ w ∈ TW, w.before _ s = true := fun w h => hts0 w (List.mem_cons_of_mem _ h)
  have hown : s.vm.findClass RL = some m.cls := findClass_of_methodNamed B.named
  have hlocks := B.notSynchronized
  have hsz : s.heap.size = sz0 := hv.1.1
  subst hsz
  have h := lq_entry (U := 600) hv
  have S : CallFix p m c cL_world 11 s _ TW RL := ⟨hx, hb, hml, hown, hts⟩
  have hl := lv_entry ([.ref (ad 0), .ref g.2.2.2.2.1, .ref (ad 52)]) (n := 11) (Nat.le_of_ble_eq_true rfl)
  rw [lg_entry_eq]
  generalize (lg_sl ([.ref (ad 0), .ref g.2.2.2.2.1, .ref (ad 52)]) ++ List.replicate (11 - (lg_sl ([.ref (ad 0), .ref g.2.2.2.2.1, .ref (ad 52)])).length) Slot.unset).toArray = ls at hl ⊢
  have hl : lv_has ls 11 [(0, .ref (ad 0)), (1, .ref g.2.2.2.2.1), (2, .ref (ad 52))] := hl
  obtain ⟨hRX, hA, hts0, hrs0, hss0, hb0⟩ := hX
  have h : LQ g 600 s _ Z (WL g ad M) [] [] s.heap [] := h
  refine lv_aload_n hx hb d_L_world_0 rfl (lv_at hl 2 rfl) ?_
  refine lv_iconst (v := 2) hx hb d_L_world_1 (by decide) ?_
  refine lv_iconst (v := 1) hx hb d_L_world_2 (by decide) ?_
  refine lq_bst S h (j := 2) (by decide) d_L_world_3 (fun H locs h => ?_)
  generalize hM1 : sI M 52 (va_up (M.1 52) 2 1) = M1 at h
  have h : LQ g 600 s _ Z (WL g ad M1) [] [] H locs := h
  have lM1 : Lo M M1 := by rw [← hM1]; exact lo_52
  have bM1 : ∀ i, M1.1 52 i = if i = 2 then 1 else M.1 52 i := fun i => by rw [← hM1, sI_k, up_at]
  refine lv_aload_n hx hb d_L_world_4 rfl (lv_at hl 2 rfl) ?_
  refine lv_iconst (v := 4) hx hb d_L_world_5 (by decide) ?_
  refine lv_iconst (v := 1) hx hb d_L_world_6 (by decide) ?_
  refine lv_aload_n hx hb d_L_world_7 rfl (lv_at hl 1 rfl) ?_
  refine lv_iconst (v := 0) hx hb d_L_world_8 (by decide) ?_
  refine lq_callI (As := [.ref g.2.2.2.2.1, .int 0]) (rest := [.int 1, .int 4, .ref (ad 52)]) S hl.1 h (t_at l g hg (0)) (fun x9 hx9 => absurd hx9 List.not_mem_nil) (by omega) (va_cwS 2 hts (g_sta (own := RL) (ix := 137) (y := yL_at) (by decide +kernel) (by decide +kernel) (by decide +kernel) (g_con cw_L_at)) rfl rfl rfl (by decide +kernel) ⟨by show 1 + 1 ≤ 90; omega, by show 8 + (2 + 11) + 60 ≤ 8000; omega⟩) rfl rfl (Nat.le_of_ble_eq_true rfl) d_L_world_9 ⟨by show _ ≤ 20000; omega, by show _ ≤ 2600000; omega⟩ (fun xi3 hxi3 => ?_)
  refine lv_iconst (v := 4) hx hb d_L_world_12 (by decide) ?_
  refine lq_callI (As := [.int xi3, .int 4]) (rest := [.int 1, .int 4, .ref (ad 52)]) S hl.1 h (t_some l g xi3 4) (fun x9 hx9 => absurd hx9 List.not_mem_nil) ⟨by decide, by decide⟩ (va_cwS 2 hts (g_sta (own := RL) (ix := 64) (y := yL_some) (by decide +kernel) (by decide +kernel) (by decide +kernel) (g_con cw_L_some)) rfl rfl rfl (by decide +kernel) ⟨by show 1 + 1 ≤ 90; omega, by show 8 + (3 + 11) + 60 ≤ 8000; omega⟩) rfl rfl (Nat.le_of_ble_eq_true rfl) d_L_world_13 ⟨by show _ ≤ 20000; omega, by show _ ≤ 2600000; omega⟩ (fun si1 hsi1 => ?_)
  obtain ⟨k1, hk1, rfl⟩ := hsi1
  refine lv_iadd hx hb d_L_world_16 ?_
  rw [show (1 : Int32) = jn 1 from rfl, jn_add]
  refine lq_bst S h (j := 4) (by decide) d_L_world_17 (fun H locs h => ?_)
  generalize hM2 : sI M1 52 (va_up (M1.1 52) 4 (jn (1 + k1))) = M2 at h
  have h : LQ g 600 s _ Z (WL g ad M2) [] [] H locs := h
  have lM2 : Lo M1 M2 := by rw [← hM2]; exact lo_52
  have bM2 : ∀ i, M2.1 52 i = if i = 4 then (jn (1 + k1)) else M1.1 52 i := fun i => by rw [← hM2, sI_k, up_at]
  refine lv_aload_n hx hb d_L_world_18 rfl (lv_at hl 0 rfl) ?_
  refine lv_aload_n hx hb d_L_world_19 rfl (lv_at hl 1 rfl) ?_
  refine lv_iconst (v := 1) hx hb d_L_world_20 (by decide) ?_
  refine lv_aload_n hx hb d_L_world_21 rfl (lv_at hl 2 rfl) ?_
  refine lv_iconst (v := 4) hx hb d_L_world_22 (by decide) ?_
  refine lq_bld S h (j := 4) (by decide) d_L_world_23 ?_
  rw [bM2, if_pos rfl]
  have r2 := RX_low (RX_low hRX lM1) lM2
  refine lq_callX (As := [.ref (ad 0), .ref g.2.2.2.2.1, .int 1, .int (jn (1 + k1))]) (rest := []) S hl.1 h (t_rules l g hg ad A0 M2 1 (1 + k1)) (fun x9 hx9 => absurd hx9 List.not_mem_nil) ⟨by decide, by omega, r2, hA, hts0, hrs0⟩ (va_cwS 4 hts (g_sta (own := RL) (ix := 233) (y := yL_rules) (by decide +kernel) (by decide +kernel) (by decide +kernel) (g_con cw_L_rules)) rfl rfl rfl (by decide +kernel) ⟨by show 70 + 1 ≤ 90; omega, by show 8 + (10 + 11) + 6000 ≤ 8000; omega⟩) rfl rfl (Nat.le_of_ble_eq_true rfl) d_L_world_24 ⟨by show _ ≤ 20000; omega, by show _ ≤ 2600000; omega⟩ (fun a1 b2 t3 W9 H locs hp9 h => ?_)
  obtain ⟨aX, nX, lX, lX2, A3, M3, rfl, r3, k3, hi3, et3, er3, es3⟩ := hp9
  have h : LQ g 600 s _ Z (WL g ad M3) [.inl (a1, b2, t3)] [] H locs := h
  refine lv_astore_n (lv' := [(3, .ref a1), (0, .ref (ad 0)), (1, .ref g.2.2.2.2.1), (2, .ref (ad 52))]) hx hb d_L_world_27 rfl hl (by decide) rfl (fun ls hl => ?_)
  refine lv_aload_n hx hb d_L_world_28 rfl (lv_at hl 3 rfl) ?_
  refine lv_iconst (v := 3) hx hb d_L_world_29 (by decide) ?_
  refine lv_iconst (v := 1) hx hb d_L_world_30 (by decide) ?_
  refine lv_aload_n hx hb d_L_world_31 rfl (lv_at hl 2 rfl) ?_
  refine lv_iconst (v := 0) hx hb d_L_world_32 (by decide) ?_
  refine lq_callI (As := [.ref g.2.2.2.2.1, .int 0]) (rest := [.int 1, .int 3, .ref (ad 52)]) S hl.1 h (t_at l g hg (0)) (fun x9 hx9 => absurd hx9 List.not_mem_nil) (by omega) (va_cwS 2 hts (g_sta (own := RL) (ix := 137) (y := yL_at) (by decide +kernel) (by decide +kernel) (by decide +kernel) (g_con cw_L_at)) rfl rfl rfl (by decide +kernel) ⟨by show 1 + 1 ≤ 90; omega, by show 8 + (2 + 11) + 60 ≤ 8000; omega⟩) rfl rfl (Nat.le_of_ble_eq_true rfl) d_L_world_33 ⟨by show _ ≤ 20000; omega, by show _ ≤ 2600000; omega⟩ (fun xi4 hxi4 => ?_)
  refine lv_iconst (v := 3) hx hb d_L_world_36 (by decide) ?_
  refine lv_ishr hx hb d_L_world_37 ?_
  refine lv_iconst (v := 4) hx hb d_L_world_38 (by decide) ?_
  refine lq_callI (As := [.int (xi4 >>> ((3 : Int32) &&& 31)), .int 4]) (rest := [.int 1, .int 3, .ref (ad 52)]) S hl.1 h (t_some l g (xi4 >>> ((3 : Int32) &&& 31)) 4) (fun x9 hx9 => absurd hx9 List.not_mem_nil) ⟨by decide, by decide⟩ (va_cwS 2 hts (g_sta (own := RL) (ix := 64) (y := yL_some) (by decide +kernel) (by decide +kernel) (by decide +kernel) (g_con cw_L_some)) rfl rfl rfl (by decide +kernel) ⟨by show 1 + 1 ≤ 90; omega, by show 8 + (3 + 11) + 60 ≤ 8000; omega⟩) rfl rfl (Nat.le_of_ble_eq_true rfl) d_L_world_39 ⟨by show _ ≤ 20000; omega, by show _ ≤ 2600000; omega⟩ (fun si2 hsi2 => ?_)
  obtain ⟨k2, hk2, rfl⟩ := hsi2
  refine lv_iadd hx hb d_L_world_42 ?_
  rw [show (1 : Int32) = jn 1 from rfl, jn_add]
  refine lq_bst S h (j := 3) (by decide) d_L_world_43 (fun H locs h => ?_)
  generalize hM4 : sI M3 52 (va_up (M3.1 52) 3 (jn (1 + k2))) = M4 at h
  have h : LQ g 600 s _ Z (WL g ad M4) [.inl (a1, b2, t3)] [] H locs := h
  have lM4 : Lo M3 M4 := by rw [← hM4]; exact lo_52
  have bM4 : ∀ i, M4.1 52 i = if i = 3 then (jn (1 + k2)) else M3.1 52 i := fun i => by rw [← hM4, sI_k, up_at]
  refine lv_aload_n hx hb d_L_world_44 rfl (lv_at hl 1 rfl) ?_
  refine lv_aload_n hx hb d_L_world_45 rfl (lv_at hl 2 rfl) ?_
  refine lv_bipush (v := (6)) hx hb d_L_world_46 (by decide) ?_
  refine lv_aload_n hx hb d_L_world_48 rfl (lv_at hl 3 rfl) ?_
  refine lv_iconst (v := 3) hx hb d_L_world_49 (by decide) ?_
  refine lq_bld S h (j := 3) (by decide) d_L_world_50 ?_
  rw [bM4, if_pos rfl]
  refine lq_callX (As := [.ref (ad 0), .ref g.2.2.2.2.1, .int (6), .int (jn (1 + k2))]) (rest := []) S hl.1 h (t_terms l g hg ad A3 M4 6 (1 + k2)) (fun x9 hx9 => absurd hx9 List.not_mem_nil) ⟨by decide, by omega, RX_low r3 lM4, k3, et3⟩ (va_cwS 4 hts (g_sta (own := RL) (ix := 237) (y := yL_terms) (by decide +kernel) (by decide +kernel) (by decide +kernel) (g_con cw_L_terms)) rfl rfl rfl (by decide +kernel) ⟨by show 70 + 1 ≤ 90; omega, by show 8 + (7 + 11) + 6000 ≤ 8000; omega⟩) rfl rfl (Nat.le_of_ble_eq_true rfl) d_L_world_51 ⟨by show _ ≤ 20000; omega, by show _ ≤ 2600000; omega⟩ (fun a4 b5 t6 W9 H locs hp9 h => ?_)
  obtain ⟨aY, nY, lY, A5, M5, rfl, r5, k5, hi5, et5, er5, es5⟩ := hp9
  have h : LQ g 600 s _ Z (WL g ad M5) [.inl (a1, b2, t3), .inl (a4, b5, t6)] [] H locs := h
  refine lv_astore (lv' := [(4, .ref a4), (3, .ref a1), (0, .ref (ad 0)), (1, .ref g.2.2.2.2.1), (2, .ref (ad 52))]) hx hb d_L_world_54 hl (by decide) rfl (fun ls hl => ?_)
  refine lv_aload_n hx hb d_L_world_56 rfl (lv_at hl 4 rfl) ?_
  refine lv_iconst (v := 1) hx hb d_L_world_57 (by decide) ?_
  refine lv_aload_n hx hb d_L_world_58 rfl (lv_at hl 3 rfl) ?_
  refine lv_bipush (v := (11)) hx hb d_L_world_59 (by decide) ?_
  refine lq_callI (As := [.ref g.2.2.2.2.1, .int (11)]) (rest := [.int 1, .ref (ad 52)]) S hl.1 h (t_at l g hg (11)) (fun x9 hx9 => absurd hx9 List.not_mem_nil) (by omega) (va_cwS 2 hts (g_sta (own := RL) (ix := 137) (y := yL_at) (by decide +kernel) (by decide +kernel) (by decide +kernel) (g_con cw_L_at)) rfl rfl rfl (by decide +kernel) ⟨by show 1 + 1 ≤ 90; omega, by show 8 + (2 + 11) + 60 ≤ 8000; omega⟩) rfl rfl (Nat.le_of_ble_eq_true rfl) d_L_world_61 ⟨by show _ ≤ 20000; omega, by show _ ≤ 2600000; omega⟩ (fun xi5 hxi5 => ?_)
  refine lv_aload_n hx hb d_L_world_64 rfl (lv_at hl 3 rfl) ?_
  refine lv_bipush (v := (12)) hx hb d_L_world_65 (by decide) ?_
  refine lq_callI (As := [.ref g.2.2.2.2.1, .int (12)]) (rest := [.int xi5, .int 1, .ref (ad 52)]) S hl.1 h (t_at l g hg (12)) (fun x9 hx9 => absurd hx9 List.not_mem_nil) (by omega) (va_cwS 2 hts (g_sta (own := RL) (ix := 137) (y := yL_at) (by decide +kernel) (by decide +kernel) (by decide +kernel) (g_con cw_L_at)) rfl rfl rfl (by decide +kernel) ⟨by show 1 + 1 ≤ 90; omega, by show 8 + (2 + 11) + 60 ≤ 8000; omega⟩) rfl rfl (Nat.le_of_ble_eq_true rfl) d_L_world_67 ⟨by show _ ≤ 20000; omega, by show _ ≤ 2600000; omega⟩ (fun xi6 hxi6 => ?_)
  refine lv_iand hx hb d_L_world_70 ?_
  refine lv_bipush (v := (15)) hx hb d_L_world_71 (by decide) ?_
  refine lv_iand hx hb d_L_world_73 ?_
  refine lq_bst S h (j := 1) (by decide) d_L_world_74 (fun H locs h => ?_)
  generalize hM6 : sI M5 52 (va_up (M5.1 52) 1 ((xi5 &&& xi6) &&& (15))) = M6 at h
  have h : LQ g 600 s _ Z (WL g ad M6) [.inl (a1, b2, t3), .inl (a4, b5, t6)] [] H locs := h
  have lM6 : Lo M5 M6 := by rw [← hM6]; exact lo_52
  have bM6 : ∀ i, M6.1 52 i = if i = 1 then ((xi5 &&& xi6) &&& (15)) else M5.1 52 i := fun i => by rw [← hM6, sI_k, up_at]
  have wv : Wv A5 M6 (1 + k2) (1 + k1) 0 := by
    have e3 : ∀ i, M3.1 52 i = M2.1 52 i := fun i => congrFun (hi3 52 (Nat.le_refl _)).1 i
    have e5 : ∀ i, M5.1 52 i = M4.1 52 i := fun i => congrFun (hi5 52 (Nat.le_refl _)).1 i
    refine ⟨RX_low r5 lM6, k5, et5, by rw [er5]; exact er3, by rw [es5, es3, hss0]; rfl, ?_, ?_, ?_, fun r _ z => absurd z (Nat.not_lt_zero r)⟩
    · rw [bM6, if_neg (by decide), e5, bM4, if_neg (by decide), e3, bM2, if_neg (by decide), bM1, if_neg (by decide)]; exact hb0
    · rw [bM6, if_neg (by decide), e5, bM4, if_pos rfl]
    · rw [bM6, if_neg (by decide), e5, bM4, if_neg (by decide), e3, bM2, if_pos rfl]
  refine lv_iconst (v := 0) hx hb d_L_world_75 (by decide) ?_
  refine lv_istore (lv' := [(5, .int 0), (4, .ref a4), (3, .ref a1), (0, .ref (ad 0)), (1, .ref g.2.2.2.2.1), (2, .ref (ad 52))]) hx hb d_L_world_76 hl (by decide) rfl (fun ls hl => ?_)
  have hl : lv_has ls 11 [(5, .int 0), (0, .ref (ad 0)), (1, .ref g.2.2.2.2.1), (2, .ref (ad 52)), (3, .ref a1), (4, .ref a4)] := lv_sub hl [0, 3, 4, 5, 2, 1] rfl
  refine w_tail (ι := (Heap × List Loc × Array Slot) × Nat × Nat) (Hf := fun i => i.1.1) (Jf := fun i => i.1.2.1) (kf := fun _ => 17000) (nf := fun _ => 2500000) (gf := fun i => F0 m 78 i.1.2.2 []) (PN := fun i => ∃ (A2 : AT) (M2 : PM), i.2.1 + i.2.2 = 4 ∧ Wv A2 M2 (1 + k2) (1 + k1) 0 ∧ LQ g 600 s (va_A (WL g ad M) s.heap.size) Z (WL g ad M2) [.inl (a1, b2, t3), .inl (a4, b5, t6)] [] i.1.1 i.1.2.1 ∧ lv_has i.1.2.2 11 [(5, .int (jn i.2.2)), (0, .ref (ad 0)), (1, .ref g.2.2.2.2.1), (2, .ref (ad 52)), (3, .ref a1), (4, .ref a4)]) (fun tail => ?_) ?_
  · exact W.widen (by omega) (by omega) (tail ((H, locs, ls), 4, 0) ⟨A5, M6, rfl, wv, h, hl⟩)
  · rintro ⟨⟨H, locs, ls⟩, n2, i⟩ hi
    show W p l e _ s m _ below meth c H locs 17000 2500000 _ (F0 m 78 ls [])
    clear h hl wv
    induction n2 generalizing H locs ls i with
    | zero =>
      obtain ⟨A2, M2, hni, wv, h, hl⟩ := hi
      have hni : 0 + i = 4 := hni
      have hl : lv_has ls 11 [(5, .int (jn i)), (0, .ref (ad 0)), (1, .ref g.2.2.2.2.1), (2, .ref (ad 52)), (3, .ref a1), (4, .ref a4)] := hl
      have h : LQ g 600 s _ Z (WL g ad M2) [.inl (a1, b2, t3), .inl (a4, b5, t6)] [] H locs := h
      obtain rfl : i = 4 := by omega
      have wv : Wv A2 M2 (1 + k2) (1 + k1) 0 := wv
      refine lv_iload hx hb d_L_world_78 (lv_at hl 0 rfl) ?_
      refine lv_iconst (v := 4) hx hb d_L_world_80 (by decide) ?_
      refine lv_icmp_ge (tgt := 117) hx hb d_L_world_81 (by decide) (fun _ => ?_) (fun h9 => absurd (Int32.le_refl _) h9)
      refine lv_aload_n hx hb d_L_world_117 rfl (lv_at hl 4 rfl) ?_
      refine lv_bipush (v := (33)) hx hb d_L_world_118 (by decide) ?_
      refine lq_idx S hl.1 h (List.mem_of_getElem? (i := 0) rfl) (by omega) (ch := 33) (by decide) ⟨by show _ ≤ 90; omega, by show _ ≤ 8000; omega, by show _ ≤ 20000; omega, by show _ ≤ 2600000; omega⟩ (Nat.le_of_ble_eq_true rfl) d_L_world_120 ?_
      rw [fi_none nX]
      refine lv_if_ge (tgt := 140) hx hb d_L_world_123 (by decide) (fun h9 => absurd h9 (by decide)) (fun _ => ?_)
      refine lv_aload hx hb d_L_world_126 (lv_at hl 5 rfl) ?_
      refine lv_bipush (v := (33)) hx hb d_L_world_128 (by decide) ?_
      refine lq_idx S hl.1 h (List.mem_of_getElem? (i := 1) rfl) (by omega) (ch := 33) (by decide) ⟨by show _ ≤ 90; omega, by show _ ≤ 8000; omega, by show _ ≤ 20000; omega, by show _ ≤ 2600000; omega⟩ (Nat.le_of_ble_eq_true rfl) d_L_world_130 ?_
      rw [fi_none nY]
      refine lv_if_ge (tgt := 140) hx hb d_L_world_133 (by decide) (fun h9 => absurd h9 (by decide)) (fun _ => ?_)
      refine lv_iconst (v := 1) hx hb d_L_world_136 (by decide) ?_
      refine lv_goto (tgt := 141) hx hb d_L_world_137 (by decide) ?_
      refine lv_istore (lv' := [(5, .int 1), (0, .ref (ad 0)), (1, .ref g.2.2.2.2.1), (2, .ref (ad 52)), (3, .ref a1), (4, .ref a4)]) hx hb d_L_world_141 hl (by decide) rfl (fun ls hl => ?_)
      rw [show (1 : Int32) = jn 1 from rfl] at hl
      refine lv_iconst (v := 0) hx hb d_L_world_143 (by decide) ?_
      refine lv_istore (lv' := [(6, .int 0), (5, .int (jn 1)), (0, .ref (ad 0)), (1, .ref g.2.2.2.2.1), (2, .ref (ad 52)), (3, .ref a1), (4, .ref a4)]) hx hb d_L_world_144 hl (by decide) rfl (fun ls hl => ?_)
      have hl : lv_has ls 11 [(6, .int 0), (5, .int (jn 1)), (0, .ref (ad 0)), (1, .ref g.2.2.2.2.1), (2, .ref (ad 52)), (3, .ref a1), (4, .ref a4)] := lv_sub hl [0, 1, 2, 3, 4, 5, 6] rfl
      refine w_tail (ι := (Heap × List Loc × Array Slot) × Nat × Nat) (Hf := fun i => i.1.1) (Jf := fun i => i.1.2.1) (kf := fun _ => 17000) (nf := fun _ => 2500000) (gf := fun i => F0 m 146 i.1.2.2 []) (PN := fun i => ∃ (A2 : AT) (M2 : PM), i.2.1 + i.2.2 = 1 + k1 ∧ Wv A2 M2 (1 + k2) (1 + k1) i.2.2 ∧ LQ g 600 s (va_A (WL g ad M) s.heap.size) Z (WL g ad M2) [.inl (a1, b2, t3), .inl (a4, b5, t6)] [] i.1.1 i.1.2.1 ∧ lv_has i.1.2.2 11 [(6, .int (jn i.2.2)), (5, .int (jn 1)), (0, .ref (ad 0)), (1, .ref g.2.2.2.2.1), (2, .ref (ad 52)), (3, .ref a1), (4, .ref a4)]) (fun tail => ?_) ?_
      · exact tail ((H, locs, ls), 1 + k1, 0) ⟨A2, M2, rfl, wv, h, hl⟩
      · rintro ⟨⟨H, locs, ls⟩, n2, i⟩ hi
        show W p l e _ s m _ below meth c H locs 17000 2500000 _ (F0 m 146 ls [])
        clear h hl hni
        induction n2 generalizing H locs ls i with
        | zero =>
          obtain ⟨A2, M2, hni, wv, h, hl⟩ := hi
          have hni : 0 + i = 1 + k1 := hni
          have hl : lv_has ls 11 [(6, .int (jn i)), (5, .int (jn 1)), (0, .ref (ad 0)), (1, .ref g.2.2.2.2.1), (2, .ref (ad 52)), (3, .ref a1), (4, .ref a4)] := hl
          have h : LQ g 600 s _ Z (WL g ad M2) [.inl (a1, b2, t3), .inl (a4, b5, t6)] [] H locs := h
          have wv : Wv A2 M2 (1 + k2) (1 + k1) i := wv
          refine lv_iload hx hb d_L_world_146 (lv_at hl 0 rfl) ?_
          refine lv_aload_n hx hb d_L_world_148 rfl (lv_at hl 4 rfl) ?_
          refine lv_iconst (v := 4) hx hb d_L_world_149 (by decide) ?_
          refine lq_bld S h (j := 4) (by decide) d_L_world_150 ?_
          rw [wv.2.2.2.2.2.2.2.1]
          refine lv_icmp_ge (tgt := 176) hx hb d_L_world_151 (by decide) (fun _ => ?_) (fun h9 => absurd (by rw [jn_le (by omega) (by omega)]; omega) h9)
          refine lv_iconst (v := 2) hx hb d_L_world_176 (by decide) ?_
          refine lv_aload_n hx hb d_L_world_177 rfl (lv_at hl 3 rfl) ?_
          refine lv_bipush (v := (13)) hx hb d_L_world_178 (by decide) ?_
          refine lq_callI (As := [.ref g.2.2.2.2.1, .int (13)]) (rest := [.int 2]) S hl.1 h (t_at l g hg (13)) (fun x9 hx9 => absurd hx9 List.not_mem_nil) (by omega) (va_cwS 2 hts (g_sta (own := RL) (ix := 137) (y := yL_at) (by decide +kernel) (by decide +kernel) (by decide +kernel) (g_con cw_L_at)) rfl rfl rfl (by decide +kernel) ⟨by show 1 + 1 ≤ 90; omega, by show 8 + (2 + 11) + 60 ≤ 8000; omega⟩) rfl rfl (Nat.le_of_ble_eq_true rfl) d_L_world_180 ⟨by show _ ≤ 20000; omega, by show _ ≤ 2600000; omega⟩ (fun xi7 hxi7 => ?_)
          refine lv_bipush (v := (9)) hx hb d_L_world_183 (by decide) ?_
          refine lq_callI (As := [.int xi7, .int (9)]) (rest := [.int 2]) S hl.1 h (t_some l g xi7 9) (fun x9 hx9 => absurd hx9 List.not_mem_nil) ⟨by decide, by decide⟩ (va_cwS 2 hts (g_sta (own := RL) (ix := 64) (y := yL_some) (by decide +kernel) (by decide +kernel) (by decide +kernel) (g_con cw_L_some)) rfl rfl rfl (by decide +kernel) ⟨by show 1 + 1 ≤ 90; omega, by show 8 + (3 + 11) + 60 ≤ 8000; omega⟩) rfl rfl (Nat.le_of_ble_eq_true rfl) d_L_world_185 ⟨by show _ ≤ 20000; omega, by show _ ≤ 2600000; omega⟩ (fun si3 hsi3 => ?_)
          obtain ⟨k3, hk3, rfl⟩ := hsi3
          refine lv_iadd hx hb d_L_world_188 ?_
          rw [show (2 : Int32) = jn 2 from rfl, jn_add]
          refine lv_istore (lv' := [(6, .int (jn (2 + k3))), (5, .int (jn 1)), (0, .ref (ad 0)), (1, .ref g.2.2.2.2.1), (2, .ref (ad 52)), (3, .ref a1), (4, .ref a4)]) hx hb d_L_world_189 hl (by decide) rfl (fun ls hl => ?_)
          refine lv_iconst (v := 0) hx hb d_L_world_191 (by decide) ?_
          refine lv_istore (lv' := [(7, .int 0), (6, .int (jn (2 + k3))), (5, .int (jn 1)), (0, .ref (ad 0)), (1, .ref g.2.2.2.2.1), (2, .ref (ad 52)), (3, .ref a1), (4, .ref a4)]) hx hb d_L_world_192 hl (by decide) rfl (fun ls hl => ?_)
          have hl : lv_has ls 11 [(7, .int 0), (6, .int (jn (2 + k3))), (5, .int (jn 1)), (0, .ref (ad 0)), (1, .ref g.2.2.2.2.1), (2, .ref (ad 52)), (3, .ref a1), (4, .ref a4)] := lv_sub hl [0, 1, 2, 3, 4, 5, 6, 7] rfl
          refine w_tail (ι := (Heap × List Loc × Array Slot) × Nat × Nat) (Hf := fun i => i.1.1) (Jf := fun i => i.1.2.1) (kf := fun _ => 17000) (nf := fun _ => 2500000) (gf := fun i => F0 m 194 i.1.2.2 []) (PN := fun i => ∃ (A2 : AT) (M2 : PM), i.2.1 + i.2.2 = 2 + k3 ∧ Wv A2 M2 (1 + k2) (1 + k1) (1 + k1 + i.2.2) ∧ LQ g 600 s (va_A (WL g ad M) s.heap.size) Z (WL g ad M2) [.inl (a1, b2, t3), .inl (a4, b5, t6)] [] i.1.1 i.1.2.1 ∧ lv_has i.1.2.2 11 [(7, .int (jn i.2.2)), (6, .int (jn (2 + k3))), (5, .int (jn 1)), (0, .ref (ad 0)), (1, .ref g.2.2.2.2.1), (2, .ref (ad 52)), (3, .ref a1), (4, .ref a4)]) (fun tail => ?_) ?_
          · exact tail ((H, locs, ls), 2 + k3, 0) ⟨A2, M2, rfl, by rw [show i = 1 + k1 by omega] at wv; exact wv, h, hl⟩
          · rintro ⟨⟨H, locs, ls⟩, n2, i⟩ hi
            show W p l e _ s m _ below meth c H locs 17000 2500000 _ (F0 m 194 ls [])
            clear h hl hni
            induction n2 generalizing H locs ls i with
            | zero =>
              obtain ⟨A2, M2, hni, wv, h, hl⟩ := hi
              have hni : 0 + i = 2 + k3 := hni
              have hl : lv_has ls 11 [(7, .int (jn i)), (6, .int (jn (2 + k3))), (5, .int (jn 1)), (0, .ref (ad 0)), (1, .ref g.2.2.2.2.1), (2, .ref (ad 52)), (3, .ref a1), (4, .ref a4)] := hl
              have h : LQ g 600 s _ Z (WL g ad M2) [.inl (a1, b2, t3), .inl (a4, b5, t6)] [] H locs := h
              have wv : Wv A2 M2 (1 + k2) (1 + k1) (1 + k1 + i) := wv
              refine lv_iload hx hb d_L_world_194 (lv_at hl 0 rfl) ?_
              refine lv_iload hx hb d_L_world_196 (lv_at hl 1 rfl) ?_
              refine lv_icmp_ge (tgt := 351) hx hb d_L_world_198 (by decide) (fun _ => ?_) (fun h9 => absurd (by rw [jn_le (by omega) (by omega)]; omega) h9)
              refine lv_iload hx hb d_L_world_351 (lv_at hl 2 rfl) ?_
              refine lv_if_eq (tgt := 383) hx hb d_L_world_353 (by decide) (fun h9 => absurd h9 (by decide)) (fun _ => ?_)
              refine lq_new S hl.1 h ⟨by show _ ≤ 90; omega, by show _ ≤ 8000; omega, by show _ ≤ 20000; omega, by show _ ≤ 2600000; omega⟩ (Nat.le_of_ble_eq_true rfl) d_L_world_356 d_L_world_359 d_L_world_360 (fun q7 H locs h => ?_)
              have h : LQ g 600 s _ Z (WL g ad M2) [.inl (a1, b2, t3), .inl (a4, b5, t6)] [(q7, [])] H locs := h
              refine lv_aload_n hx hb d_L_world_363 rfl (lv_at hl 6 rfl) ?_
              refine lq_appS S hl.1 h (List.mem_of_getElem? (i := 0) rfl) (by omega) aX (by first | omega | (simp only [List.length_append, List.length_cons, List.length_nil]; omega)) (by omega) ⟨by show _ ≤ 90; omega, by show _ ≤ 8000; omega, by show _ ≤ 20000; omega, by show _ ≤ 2600000; omega⟩ (Nat.le_of_ble_eq_true rfl) d_L_world_364 (fun H locs h => ?_)
              have h : LQ g 600 s _ Z (WL g ad M2) [.inl (a1, b2, t3), .inl (a4, b5, t6)] [(q7, ([] ++ t3))] H locs := h
              refine lq_ldc S h (ix := 203) (tx := "|") (t := [124]) (by decide) d_L_world_367 (fun a8 b9 h => ?_)
              have h : LQ g 600 s _ Z (WL g ad M2) [.inl (a1, b2, t3), .inl (a4, b5, t6), .inl (a8, b9, [124])] [(q7, ([] ++ t3))] H locs := h
              refine lq_appS S hl.1 h (List.mem_of_getElem? (i := 2) rfl) (by first | omega | (simp only [List.length_append, List.length_cons, List.length_nil]; omega)) (As_k (by decide)) (by first | omega | (simp only [List.length_append, List.length_cons, List.length_nil]; omega)) (by omega) ⟨by show _ ≤ 90; omega, by show _ ≤ 8000; omega, by show _ ≤ 20000; omega, by show _ ≤ 2600000; omega⟩ (Nat.le_of_ble_eq_true rfl) d_L_world_369 (fun H locs h => ?_)
              have h : LQ g 600 s _ Z (WL g ad M2) [.inl (a1, b2, t3), .inl (a4, b5, t6), .inl (a8, b9, [124])] [(q7, (([] ++ t3) ++ ([124])))] H locs := h
              refine lv_aload hx hb d_L_world_372 (lv_at hl 7 rfl) ?_
              refine lq_appS S hl.1 h (List.mem_of_getElem? (i := 1) rfl) (by omega) aY (by first | omega | (simp only [List.length_append, List.length_cons, List.length_nil]; omega)) (by omega) ⟨by show _ ≤ 90; omega, by show _ ≤ 8000; omega, by show _ ≤ 20000; omega, by show _ ≤ 2600000; omega⟩ (Nat.le_of_ble_eq_true rfl) d_L_world_374 (fun H locs h => ?_)
              have h : LQ g 600 s _ Z (WL g ad M2) [.inl (a1, b2, t3), .inl (a4, b5, t6), .inl (a8, b9, [124])] [(q7, ((([] ++ t3) ++ ([124])) ++ t6))] H locs := h
              refine lq_toT S hl.1 h (by omega) ⟨by show _ ≤ 90; omega, by show _ ≤ 8000; omega, by show _ ≤ 20000; omega, by show _ ≤ 2600000; omega⟩ (Nat.le_of_ble_eq_true rfl) d_L_world_377 (fun a10 b11 H locs h => ?_)
              have h : LQ g 600 s _ Z (WL g ad M2) [.inl (a1, b2, t3), .inl (a4, b5, t6), .inl (a8, b9, [124]), .inl (a10, b11, ((([] ++ t3) ++ ([124])) ++ t6))] [] H locs := h
              refine lv_goto (tgt := 385) hx hb d_L_world_380 (by decide) ?_
              refine W.widen (k := 20000) (n := 2600000) (by omega) (by omega) ?_
              exact W.aret hx hb hr (Or.inl ⟨_, rfl⟩) (Or.inr ⟨_, rfl⟩) (fun t8 ht hW => lq_postX (post := fun tx W1 => As tx ∧ 1 < tx.length ∧ tx.length ≤ 1000 ∧ ∃ (A1 : AT) (M1 : PM) (n R w : Nat), W1 = WL g ad M1 ∧ Pr A1 M1 (w + 1) n R ∧ ((tsA A1).length = n ∧ 1 ≤ n ∧ n ≤ 4) ∧ ((rsA A1).length = R ∧ 1 ≤ R ∧ R ≤ 4) ∧ w + 7 ≤ 24 ∧ (∀ r, r < R → (ssA A1)[r]? = some (0, jn r, jz 1)) ∧ R ≤ w + 1) h (List.mem_of_getElem? (i := 3) rfl) ⟨As_app (As_app (As_app As_nil aX) (As_k (by decide))) aY, by simp only [List.length_append, List.length_cons, List.length_nil]; omega, by simp only [List.length_append, List.length_cons, List.length_nil]; omega, A2, M2, 1 + k2, 1 + k1, k1 + i, rfl, wv_pr (by rw [show k1 + i + 1 = 1 + k1 + i by omega]; exact wv), ⟨wv.2.2.1, by omega, by omega⟩, ⟨wv.2.2.2.1, by omega, by omega⟩, by omega, fun r hr => wv.2.2.2.2.2.2.2.2 r hr (by omega), by omega⟩ ht hW) h.lo d_L_world_385
            | succ n2 ih =>
              obtain ⟨A2, M2, hni, wv, h, hl⟩ := hi
              have hni : n2 + 1 + i = 2 + k3 := hni
              have hl : lv_has ls 11 [(7, .int (jn i)), (6, .int (jn (2 + k3))), (5, .int (jn 1)), (0, .ref (ad 0)), (1, .ref g.2.2.2.2.1), (2, .ref (ad 52)), (3, .ref a1), (4, .ref a4)] := hl
              have h : LQ g 600 s _ Z (WL g ad M2) [.inl (a1, b2, t3), .inl (a4, b5, t6)] [] H locs := h
              have wv : Wv A2 M2 (1 + k2) (1 + k1) (1 + k1 + i) := wv
              refine lv_iload hx hb d_L_world_194 (lv_at hl 0 rfl) ?_
              refine lv_iload hx hb d_L_world_196 (lv_at hl 1 rfl) ?_
              refine lv_icmp_ge (tgt := 351) hx hb d_L_world_198 (by decide) (fun h9 => absurd h9 (by rw [jn_le (by omega) (by omega)]; omega)) (fun _ => ?_)
              refine lv_iload hx hb d_L_world_201 (lv_at hl 2 rfl) ?_
              refine lv_if_eq (tgt := 351) hx hb d_L_world_203 (by decide) (fun h9 => absurd h9 (by decide)) (fun _ => ?_)
              refine lv_aload_n hx hb d_L_world_206 rfl (lv_at hl 4 rfl) ?_
              refine lv_bipush (v := (14)) hx hb d_L_world_207 (by decide) ?_
              refine lv_iload hx hb d_L_world_209 (lv_at hl 0 rfl) ?_
              refine lv_bipush (v := (8)) hx hb d_L_world_211 (by decide) ?_
              refine lv_irem hx hb d_L_world_213 (by decide) ?_
              rw [rem8 i (by omega)]
              refine lv_iadd hx hb d_L_world_214 ?_
              rw [show (14 : Int32) = jn 14 from rfl, jn_add]
              refine lq_callI (As := [.ref g.2.2.2.2.1, .int (jn (14 + i % 8))]) (rest := []) S hl.1 h (t_at l g hg (14 + i % 8)) (fun x9 hx9 => absurd hx9 List.not_mem_nil) (by omega) (va_cwS 2 hts (g_sta (own := RL) (ix := 137) (y := yL_at) (by decide +kernel) (by decide +kernel) (by decide +kernel) (g_con cw_L_at)) rfl rfl rfl (by decide +kernel) ⟨by show 1 + 1 ≤ 90; omega, by show 8 + (2 + 11) + 60 ≤ 8000; omega⟩) rfl rfl (Nat.le_of_ble_eq_true rfl) d_L_world_215 ⟨by show _ ≤ 20000; omega, by show _ ≤ 2600000; omega⟩ (fun xi8 hxi8 => ?_)
              refine lv_iload hx hb d_L_world_218 (lv_at hl 0 rfl) ?_
              refine lv_bipush (v := (8)) hx hb d_L_world_220 (by decide) ?_
              refine lv_idiv hx hb d_L_world_222 (by decide) ?_
              refine lv_bipush (v := (9)) hx hb d_L_world_223 (by decide) ?_
              refine lv_imul hx hb d_L_world_225 ?_
              refine lv_ishr hx hb d_L_world_226 ?_
              refine lv_iload hx hb d_L_world_227 (lv_at hl 0 rfl) ?_
              refine lv_sipush (v := (1313)) hx hb d_L_world_229 (by decide) ?_
              refine lv_imul hx hb d_L_world_232 ?_
              refine lv_ixor hx hb d_L_world_233 ?_
              generalize ((xi8 >>> (((((jn i) / (8)) * (9)) : Int32) &&& 31)) ^^^ ((jn i) * (1313))) = v8
              refine lv_istore (lv' := [(8, .int v8), (7, .int (jn i)), (6, .int (jn (2 + k3))), (5, .int (jn 1)), (0, .ref (ad 0)), (1, .ref g.2.2.2.2.1), (2, .ref (ad 52)), (3, .ref a1), (4, .ref a4)]) hx hb d_L_world_234 hl (by decide) rfl (fun ls hl => ?_)
              refine w_tail (ι := Nat) (Hf := fun _ => H) (Jf := fun _ => locs) (kf := fun _ => 17000) (nf := fun _ => 2500000) (gf := fun kd => F0 m 290 ls [.int (jn kd)]) (PN := fun kd => 1 ≤ kd ∧ kd < 14) (fun tail => ?_) (fun kd hk => ?_)
              · refine lv_iload hx hb d_L_world_236 (lv_at hl 0 rfl) ?_
                refine lv_iconst (v := 1) hx hb d_L_world_238 (by decide) ?_
                refine lv_iand hx hb d_L_world_239 ?_
                refine lv_if_ne (tgt := 257) hx hb d_L_world_240 (by decide) (fun h9 => ?_) (fun h9 => ?_)
                · refine lv_iload hx hb d_L_world_257 (lv_at hl 0 rfl) ?_
                  refine lv_iconst (v := 1) hx hb d_L_world_259 (by decide) ?_
                  refine lv_ishr hx hb d_L_world_260 ?_
                  refine lv_iconst (v := 3) hx hb d_L_world_261 (by decide) ?_
                  refine lq_callI (As := [.int (v8 >>> ((1 : Int32) &&& 31)), .int 3]) (rest := []) S hl.1 h (t_some l g (v8 >>> ((1 : Int32) &&& 31)) 3) (fun x9 hx9 => absurd hx9 List.not_mem_nil) ⟨by decide, by decide⟩ (va_cwS 2 hts (g_sta (own := RL) (ix := 64) (y := yL_some) (by decide +kernel) (by decide +kernel) (by decide +kernel) (g_con cw_L_some)) rfl rfl rfl (by decide +kernel) ⟨by show 1 + 1 ≤ 90; omega, by show 8 + (3 + 11) + 60 ≤ 8000; omega⟩) rfl rfl (Nat.le_of_ble_eq_true rfl) d_L_world_262 ⟨by show _ ≤ 20000; omega, by show _ ≤ 2600000; omega⟩ (fun si4 hsi4 => ?_)
                  obtain ⟨kr, hkr, rfl⟩ := hsi4
                  refine lv_if_ne (tgt := 279) hx hb d_L_world_265 (by decide) (fun h9 => ?_) (fun h9 => ?_)
                  · refine lv_iconst (v := 4) hx hb d_L_world_279 (by decide) ?_
                    refine lv_iload hx hb d_L_world_280 (lv_at hl 0 rfl) ?_
                    refine lv_iconst (v := 1) hx hb d_L_world_282 (by decide) ?_
                    refine lv_ishr hx hb d_L_world_283 ?_
                    refine lv_bipush (v := (10)) hx hb d_L_world_284 (by decide) ?_
                    refine lq_callI (As := [.int (v8 >>> ((1 : Int32) &&& 31)), .int (10)]) (rest := [.int 4]) S hl.1 h (t_some l g (v8 >>> ((1 : Int32) &&& 31)) 10) (fun x9 hx9 => absurd hx9 List.not_mem_nil) ⟨by decide, by decide⟩ (va_cwS 2 hts (g_sta (own := RL) (ix := 64) (y := yL_some) (by decide +kernel) (by decide +kernel) (by decide +kernel) (g_con cw_L_some)) rfl rfl rfl (by decide +kernel) ⟨by show 1 + 1 ≤ 90; omega, by show 8 + (3 + 11) + 60 ≤ 8000; omega⟩) rfl rfl (Nat.le_of_ble_eq_true rfl) d_L_world_286 ⟨by show _ ≤ 20000; omega, by show _ ≤ 2600000; omega⟩ (fun si5 hsi5 => ?_)
                    obtain ⟨kq, hkq, rfl⟩ := hsi5
                    refine lv_iadd hx hb d_L_world_289 ?_
                    rw [show (4 : Int32) = jn 4 from rfl, jn_add]
                    exact tail (4 + kq) ⟨by omega, by omega⟩
                  · refine lv_iconst (v := 1) hx hb d_L_world_268 (by decide) ?_
                    refine lv_iload hx hb d_L_world_269 (lv_at hl 0 rfl) ?_
                    refine lv_iconst (v := 5) hx hb d_L_world_271 (by decide) ?_
                    refine lv_ishr hx hb d_L_world_272 ?_
                    refine lv_iconst (v := 1) hx hb d_L_world_273 (by decide) ?_
                    refine lv_iand hx hb d_L_world_274 ?_
                    obtain ⟨kj, hkj, ej⟩ := and_1 (v8 >>> ((5 : Int32) &&& 31))
                    rw [ej]
                    refine lv_iadd hx hb d_L_world_275 ?_
                    rw [show (1 : Int32) = jn 1 from rfl, jn_add]
                    refine lv_goto (tgt := 290) hx hb d_L_world_276 (by decide) ?_
                    exact tail (1 + kj) ⟨by omega, by omega⟩
                · refine lv_iconst (v := 3) hx hb d_L_world_243 (by decide) ?_
                  refine lv_iload hx hb d_L_world_244 (lv_at hl 0 rfl) ?_
                  refine lv_iconst (v := 1) hx hb d_L_world_246 (by decide) ?_
                  refine lv_ishr hx hb d_L_world_247 ?_
                  refine lv_bipush (v := (11)) hx hb d_L_world_248 (by decide) ?_
                  refine lq_callI (As := [.int (v8 >>> ((1 : Int32) &&& 31)), .int (11)]) (rest := [.int 3]) S hl.1 h (t_some l g (v8 >>> ((1 : Int32) &&& 31)) 11) (fun x9 hx9 => absurd hx9 List.not_mem_nil) ⟨by decide, by decide⟩ (va_cwS 2 hts (g_sta (own := RL) (ix := 64) (y := yL_some) (by decide +kernel) (by decide +kernel) (by decide +kernel) (g_con cw_L_some)) rfl rfl rfl (by decide +kernel) ⟨by show 1 + 1 ≤ 90; omega, by show 8 + (3 + 11) + 60 ≤ 8000; omega⟩) rfl rfl (Nat.le_of_ble_eq_true rfl) d_L_world_250 ⟨by show _ ≤ 20000; omega, by show _ ≤ 2600000; omega⟩ (fun si6 hsi6 => ?_)
                  obtain ⟨kq, hkq, rfl⟩ := hsi6
                  refine lv_iadd hx hb d_L_world_253 ?_
                  rw [show (3 : Int32) = jn 3 from rfl, jn_add]
                  refine lv_goto (tgt := 290) hx hb d_L_world_254 (by decide) ?_
                  exact tail (3 + kq) ⟨by omega, by omega⟩
              · show W p l e _ s m _ below meth c H locs 17000 2500000 _ (F0 m 290 ls [.int (jn kd)])
                refine lv_istore (lv' := [(9, .int (jn kd)), (8, .int v8), (7, .int (jn i)), (6, .int (jn (2 + k3))), (5, .int (jn 1)), (0, .ref (ad 0)), (1, .ref g.2.2.2.2.1), (2, .ref (ad 52)), (3, .ref a1), (4, .ref a4)]) hx hb d_L_world_290 hl (by decide) rfl (fun ls hl => ?_)
                refine w_tail (ι := Nat) (Hf := fun _ => H) (Jf := fun _ => locs) (kf := fun _ => 17000) (nf := fun _ => 2500000) (gf := fun on => F0 m 321 ls [.int (jn on)]) (PN := fun on => on < 1 + k1 + i) (fun tail => ?_) (fun on hk => ?_)
                · refine lv_iload hx hb d_L_world_292 (lv_at hl 1 rfl) ?_
                  refine lv_bipush (v := (6)) hx hb d_L_world_294 (by decide) ?_
                  refine lv_ishr hx hb d_L_world_296 ?_
                  refine lv_iconst (v := 1) hx hb d_L_world_297 (by decide) ?_
                  refine lv_iand hx hb d_L_world_298 ?_
                  refine lv_if_ne (tgt := 316) hx hb d_L_world_299 (by decide) (fun h9 => ?_) (fun h9 => ?_)
                  · refine lv_aload_n hx hb d_L_world_316 rfl (lv_at hl 7 rfl) ?_
                    refine lv_iconst (v := 0) hx hb d_L_world_317 (by decide) ?_
                    refine lq_bld S h (j := 0) (by decide) d_L_world_318 ?_
                    rw [wv.2.2.2.2.2.1]
                    refine lv_iconst (v := 1) hx hb d_L_world_319 (by decide) ?_
                    refine lv_isub hx hb d_L_world_320 ?_
                    rw [show (1 : Int32) = jn 1 from rfl, jn_sub (by omega)]
                    exact tail (1 + k1 + i - 1) (by show _ < _; omega)
                  · refine lv_iload hx hb d_L_world_302 (lv_at hl 1 rfl) ?_
                    refine lv_bipush (v := (7)) hx hb d_L_world_304 (by decide) ?_
                    refine lv_ishr hx hb d_L_world_306 ?_
                    refine lv_aload_n hx hb d_L_world_307 rfl (lv_at hl 7 rfl) ?_
                    refine lv_iconst (v := 0) hx hb d_L_world_308 (by decide) ?_
                    refine lq_bld S h (j := 0) (by decide) d_L_world_309 ?_
                    rw [wv.2.2.2.2.2.1]
                    refine lq_callI (As := [.int (v8 >>> (((7) : Int32) &&& 31)), .int (jn (1 + k1 + i))]) (rest := []) S hl.1 h (t_some l g (v8 >>> (((7) : Int32) &&& 31)) (1 + k1 + i)) (fun x9 hx9 => absurd hx9 List.not_mem_nil) ⟨by omega, by omega⟩ (va_cwS 2 hts (g_sta (own := RL) (ix := 64) (y := yL_some) (by decide +kernel) (by decide +kernel) (by decide +kernel) (g_con cw_L_some)) rfl rfl rfl (by decide +kernel) ⟨by show 1 + 1 ≤ 90; omega, by show 8 + (3 + 11) + 60 ≤ 8000; omega⟩) rfl rfl (Nat.le_of_ble_eq_true rfl) d_L_world_310 ⟨by show _ ≤ 20000; omega, by show _ ≤ 2600000; omega⟩ (fun si7 hsi7 => ?_)
                    obtain ⟨ko, hko, rfl⟩ := hsi7
                    refine lv_goto (tgt := 321) hx hb d_L_world_313 (by decide) ?_
                    exact tail ko hko
                · show W p l e _ s m _ below meth c H locs 17000 2500000 _ (F0 m 321 ls [.int (jn on)])
                  have hon : on < 1 + k1 + i := hk
                  refine lv_istore (lv' := [(10, .int (jn on)), (9, .int (jn kd)), (8, .int v8), (7, .int (jn i)), (6, .int (jn (2 + k3))), (5, .int (jn 1)), (0, .ref (ad 0)), (1, .ref g.2.2.2.2.1), (2, .ref (ad 52)), (3, .ref a1), (4, .ref a4)]) hx hb d_L_world_321 hl (by decide) rfl (fun ls hl => ?_)
                  refine lv_aload_n hx hb d_L_world_323 rfl (lv_at hl 6 rfl) ?_
                  refine lv_aload_n hx hb d_L_world_324 rfl (lv_at hl 8 rfl) ?_
                  refine lv_iload hx hb d_L_world_325 (lv_at hl 1 rfl) ?_
                  refine lv_iload hx hb d_L_world_327 (lv_at hl 0 rfl) ?_
                  refine lv_iload hx hb d_L_world_329 (lv_at hl 2 rfl) ?_
                  refine lv_bipush (v := (11)) hx hb d_L_world_331 (by decide) ?_
                  refine lv_ishr hx hb d_L_world_333 ?_
                  refine lv_aload_n hx hb d_L_world_334 rfl (lv_at hl 8 rfl) ?_
                  refine lv_iconst (v := 0) hx hb d_L_world_335 (by decide) ?_
                  refine lq_bld S h (j := 0) (by decide) d_L_world_336 ?_
                  rw [wv.2.2.2.2.2.1]
                  refine lq_callI (As := [.int (v8 >>> (((11) : Int32) &&& 31)), .int (jn (1 + k1 + i))]) (rest := [.int (jn on), .int (jn kd), .ref (ad 52), .ref (ad 0)]) S hl.1 h (t_some l g (v8 >>> (((11) : Int32) &&& 31)) (1 + k1 + i)) (fun x9 hx9 => absurd hx9 List.not_mem_nil) ⟨by omega, by omega⟩ (va_cwS 2 hts (g_sta (own := RL) (ix := 64) (y := yL_some) (by decide +kernel) (by decide +kernel) (by decide +kernel) (g_con cw_L_some)) rfl rfl rfl (by decide +kernel) ⟨by show 1 + 1 ≤ 90; omega, by show 8 + (3 + 11) + 60 ≤ 8000; omega⟩) rfl rfl (Nat.le_of_ble_eq_true rfl) d_L_world_337 ⟨by show _ ≤ 20000; omega, by show _ ≤ 2600000; omega⟩ (fun si8 hsi8 => ?_)
                  obtain ⟨tw, htw, rfl⟩ := hsi8
                  obtain ⟨M3, p3, wv3⟩ := wv_add (k := kd) (a := on) (b := tw) wv (stOk_n (by omega) (by omega) (by rw [wv.2.2.2.2.1]; exact hon) (fun _ => by rw [wv.2.2.2.2.1]; exact htw) (by omega) (by omega)) (by omega) (fun z => by omega)
                  refine lq_askS (ix := 244) (id := 72) (vs := [.ref 0, .ref 52, .int (jn kd), .int (jn on), .int (jn tw)]) (d := 10) (mt := t_72) (rest := []) S hl.1 h rfl (by decide) rfl rfl (by decide +kernel) p3 ⟨by show _ ≤ 90; omega, by show _ ≤ 8000; omega, by show _ ≤ 20000; omega, by show _ ≤ 2600000; omega⟩ rfl (Nat.le_of_ble_eq_true rfl) d_L_world_340 (fun H locs h => ?_)
                  have h : LQ g 600 s _ Z (WL g ad M3) [.inl (a1, b2, t3), .inl (a4, b5, t6)] [] H locs := h
                  refine lv_istore (lv' := [(5, .int (jn 1)), (10, .int (jn on)), (9, .int (jn kd)), (8, .int v8), (7, .int (jn i)), (6, .int (jn (2 + k3))), (0, .ref (ad 0)), (1, .ref g.2.2.2.2.1), (2, .ref (ad 52)), (3, .ref a1), (4, .ref a4)]) hx hb d_L_world_343 hl (by decide) rfl (fun ls hl => ?_)
                  refine lv_iinc (v := ((jn i) + 1)) (lv' := [(7, .int ((jn i) + 1)), (5, .int (jn 1)), (10, .int (jn on)), (9, .int (jn kd)), (8, .int v8), (6, .int (jn (2 + k3))), (0, .ref (ad 0)), (1, .ref g.2.2.2.2.1), (2, .ref (ad 52)), (3, .ref a1), (4, .ref a4)]) hx hb d_L_world_345 hl (k := 4) rfl rfl (by decide) rfl (fun ls hl => ?_)
                  rw [jn_1p] at hl
                  refine lv_goto (tgt := 194) hx hb d_L_world_348 (by decide) ?_
                  have hl : lv_has ls 11 [(7, .int (jn (i + 1))), (6, .int (jn (2 + k3))), (5, .int (jn 1)), (0, .ref (ad 0)), (1, .ref g.2.2.2.2.1), (2, .ref (ad 52)), (3, .ref a1), (4, .ref a4)] := lv_sub hl [0, 5, 1, 6, 7, 8, 9, 10] rfl
                  exact ih H locs ls (i + 1) ⟨_, M3, by show n2 + (i + 1) = _; omega, wv3, h, hl⟩
        | succ n2 ih =>
          obtain ⟨A2, M2, hni, wv, h, hl⟩ := hi
          have hni : n2 + 1 + i = 1 + k1 := hni
          have hl : lv_has ls 11 [(6, .int (jn i)), (5, .int (jn 1)), (0, .ref (ad 0)), (1, .ref g.2.2.2.2.1), (2, .ref (ad 52)), (3, .ref a1), (4, .ref a4)] := hl
          have h : LQ g 600 s _ Z (WL g ad M2) [.inl (a1, b2, t3), .inl (a4, b5, t6)] [] H locs := h
          have wv : Wv A2 M2 (1 + k2) (1 + k1) i := wv
          refine lv_iload hx hb d_L_world_146 (lv_at hl 0 rfl) ?_
          refine lv_aload_n hx hb d_L_world_148 rfl (lv_at hl 4 rfl) ?_
          refine lv_iconst (v := 4) hx hb d_L_world_149 (by decide) ?_
          refine lq_bld S h (j := 4) (by decide) d_L_world_150 ?_
          rw [wv.2.2.2.2.2.2.2.1]
          refine lv_icmp_ge (tgt := 176) hx hb d_L_world_151 (by decide) (fun h9 => absurd h9 (by rw [jn_le (by omega) (by omega)]; omega)) (fun _ => ?_)
          refine lv_iload hx hb d_L_world_154 (lv_at hl 1 rfl) ?_
          refine lv_if_eq (tgt := 176) hx hb d_L_world_156 (by decide) (fun h9 => absurd h9 (by decide)) (fun _ => ?_)
          refine lv_aload_n hx hb d_L_world_159 rfl (lv_at hl 2 rfl) ?_
          refine lv_aload_n hx hb d_L_world_160 rfl (lv_at hl 4 rfl) ?_
          refine lv_iconst (v := 0) hx hb d_L_world_161 (by decide) ?_
          refine lv_iload hx hb d_L_world_162 (lv_at hl 0 rfl) ?_
          refine lv_iconst (v := 0) hx hb d_L_world_164 (by decide) ?_
          obtain ⟨M3, p3, wv3⟩ := wv_add (k := 0) (a := i) (b := 0) wv (stOk_0 (by rw [wv.2.2.2.1]; omega) (by omega)) (by omega) (fun _ => rfl)
          refine lq_askS (ix := 244) (id := 72) (vs := [.ref 0, .ref 52, .int (jn 0), .int (jn i), .int (jn 0)]) (d := 10) (mt := t_72) (rest := []) S hl.1 h rfl (by decide) rfl rfl (by decide +kernel) p3 ⟨by show _ ≤ 90; omega, by show _ ≤ 8000; omega, by show _ ≤ 20000; omega, by show _ ≤ 2600000; omega⟩ rfl (Nat.le_of_ble_eq_true rfl) d_L_world_165 (fun H locs h => ?_)
          have h : LQ g 600 s _ Z (WL g ad M3) [.inl (a1, b2, t3), .inl (a4, b5, t6)] [] H locs := h
          refine lv_istore (lv' := [(5, .int (jn 1)), (6, .int (jn i)), (0, .ref (ad 0)), (1, .ref g.2.2.2.2.1), (2, .ref (ad 52)), (3, .ref a1), (4, .ref a4)]) hx hb d_L_world_168 hl (by decide) rfl (fun ls hl => ?_)
          refine lv_iinc (v := ((jn i) + 1)) (lv' := [(6, .int ((jn i) + 1)), (5, .int (jn 1)), (0, .ref (ad 0)), (1, .ref g.2.2.2.2.1), (2, .ref (ad 52)), (3, .ref a1), (4, .ref a4)]) hx hb d_L_world_170 hl (k := 1) rfl rfl (by decide) rfl (fun ls hl => ?_)
          rw [jn_1p] at hl
          refine lv_goto (tgt := 146) hx hb d_L_world_173 (by decide) ?_
          have hl : lv_has ls 11 [(6, .int (jn (i + 1))), (5, .int (jn 1)), (0, .ref (ad 0)), (1, .ref g.2.2.2.2.1), (2, .ref (ad 52)), (3, .ref a1), (4, .ref a4)] := lv_sub hl [0, 1, 2, 3, 4, 5, 6] rfl
          exact ih H locs ls (i + 1) ⟨_, M3, by show n2 + (i + 1) = _; omega, wv3, h, hl⟩
    | succ n2 ih =>
      obtain ⟨A2, M2, hni, wv, h, hl⟩ := hi
      have hni : n2 + 1 + i = 4 := hni
      have hl : lv_has ls 11 [(5, .int (jn i)), (0, .ref (ad 0)), (1, .ref g.2.2.2.2.1), (2, .ref (ad 52)), (3, .ref a1), (4, .ref a4)] := hl
      have h : LQ g 600 s _ Z (WL g ad M2) [.inl (a1, b2, t3), .inl (a4, b5, t6)] [] H locs := h
      have wv : Wv A2 M2 (1 + k2) (1 + k1) 0 := wv
      refine lv_iload hx hb d_L_world_78 (lv_at hl 0 rfl) ?_
      refine lv_iconst (v := 4) hx hb d_L_world_80 (by decide) ?_
      refine lv_icmp_ge (tgt := 117) hx hb d_L_world_81 (by decide) (fun h9 => absurd h9 (by rw [show (4 : Int32) = jn 4 from rfl, jn_le (by omega) (by omega)]; omega)) (fun _ => ?_)
      refine lv_aload_n hx hb d_L_world_84 rfl (lv_at hl 1 rfl) ?_
      refine lv_bipush (v := (105)) hx hb d_L_world_85 (by decide) ?_
      refine lv_iload hx hb d_L_world_87 (lv_at hl 0 rfl) ?_
      refine lv_iadd hx hb d_L_world_89 ?_
      rw [show (105 : Int32) = jn 105 from rfl, jn_add]
      refine lv_aload_n hx hb d_L_world_90 rfl (lv_at hl 3 rfl) ?_
      refine lv_iconst (v := 1) hx hb d_L_world_91 (by decide) ?_
      refine lq_bld S h (j := 1) (by decide) d_L_world_92 ?_
      refine lv_iload hx hb d_L_world_93 (lv_at hl 0 rfl) ?_
      refine lv_ishr hx hb d_L_world_95 ?_
      refine lv_iconst (v := 1) hx hb d_L_world_96 (by decide) ?_
      refine lv_iand hx hb d_L_world_97 ?_
      refine lv_iconst (v := 1) hx hb d_L_world_98 (by decide) ?_
      refine lv_icmp_ne (tgt := 106) hx hb d_L_world_99 (by decide) (fun h9 => ?_) (fun h9 => ?_)
      · refine lv_iconst (v := 0) hx hb d_L_world_106 (by decide) ?_
        obtain ⟨v, A3, M3, p3, wv3⟩ := wv_commute (b := jn 0) wv (show i < 4 by omega)
        refine lq_ask (ix := 240) (id := 15) (vs := [.int (jn (105 + i)), .int (jn 0)]) (d := 10) (mt := t_15) (rest := []) S hl.1 h rfl (by decide) rfl rfl rfl (by decide +kernel) p3 ⟨by show _ ≤ 90; omega, by show _ ≤ 8000; omega, by show _ ≤ 20000; omega, by show _ ≤ 2600000; omega⟩ rfl (Nat.le_of_ble_eq_true rfl) d_L_world_107 (fun H locs h => ?_)
        have h : LQ g 600 s _ Z (WL g ad M3) [.inl (a1, b2, t3), .inl (a4, b5, t6)] [] H locs := h
        refine lv_pop hx hb d_L_world_110 rfl ?_
        refine lv_iinc (v := ((jn i) + 1)) (lv' := [(5, .int ((jn i) + 1)), (0, .ref (ad 0)), (1, .ref g.2.2.2.2.1), (2, .ref (ad 52)), (3, .ref a1), (4, .ref a4)]) hx hb d_L_world_111 hl (k := 0) rfl rfl (by decide) rfl (fun ls hl => ?_)
        rw [jn_1p] at hl
        refine lv_goto (tgt := 78) hx hb d_L_world_114 (by decide) ?_
        have hl : lv_has ls 11 [(5, .int (jn (i + 1))), (0, .ref (ad 0)), (1, .ref g.2.2.2.2.1), (2, .ref (ad 52)), (3, .ref a1), (4, .ref a4)] := lv_sub hl [0, 1, 2, 3, 4, 5] rfl
        exact ih H locs ls (i + 1) ⟨_, M3, by show n2 + (i + 1) = _; omega, wv3, h, hl⟩
      · refine lv_iconst (v := 1) hx hb d_L_world_102 (by decide) ?_
        refine lv_goto (tgt := 107) hx hb d_L_world_103 (by decide) ?_
        obtain ⟨v, A3, M3, p3, wv3⟩ := wv_commute (b := jn 1) wv (show i < 4 by omega)
        refine lq_ask (ix := 240) (id := 15) (vs := [.int (jn (105 + i)), .int (jn 1)]) (d := 10) (mt := t_15) (rest := []) S hl.1 h rfl (by decide) rfl rfl rfl (by decide +kernel) p3 ⟨by show _ ≤ 90; omega, by show _ ≤ 8000; omega, by show _ ≤ 20000; omega, by show _ ≤ 2600000; omega⟩ rfl (Nat.le_of_ble_eq_true rfl) d_L_world_107 (fun H locs h => ?_)
        have h : LQ g 600 s _ Z (WL g ad M3) [.inl (a1, b2, t3), .inl (a4, b5, t6)] [] H locs := h
        refine lv_pop hx hb d_L_world_110 rfl ?_
        refine lv_iinc (v := ((jn i) + 1)) (lv' := [(5, .int ((jn i) + 1)), (0, .ref (ad 0)), (1, .ref g.2.2.2.2.1), (2, .ref (ad 52)), (3, .ref a1), (4, .ref a4)]) hx hb d_L_world_111 hl (k := 0) rfl rfl (by decide) rfl (fun ls hl => ?_)
        rw [jn_1p] at hl
        refine lv_goto (tgt := 78) hx hb d_L_world_114 (by decide) ?_
        have hl : lv_has ls 11 [(5, .int (jn (i + 1))), (0, .ref (ad 0)), (1, .ref g.2.2.2.2.1), (2, .ref (ad 52)), (3, .ref a1), (4, .ref a4)] := lv_sub hl [0, 1, 2, 3, 4, 5] rfl
        exact ih H locs ls (i + 1) ⟨_, M3, by show n2 + (i + 1) = _; omega, wv3, h, hl⟩
