/-- FiveLandsLaw.law([I)Z -/
theorem k_247 {X : Ctx} {d : Nat} (x0 : Nat) (h : Hp) : K X (d + 1) 247 [.ref x0] h = letH (hN h) (alc h (11, 0) 14) fun a1 h1 => gd (hS h1 a1 = (11, 0)) (bV (K X d 96 [.ref a1] h1) fun h2 => letH (hN h2) (alc h2 (12, 0) 89) fun a3 h3 => gd (hS h3 a3 = (12, 0)) (bV (K X d 146 [.ref a3] h3) fun h4 => sem (X, K X d) 247 18 [some (.ref x0), some (.ref a1), some (.ref a3), some (.int 0)] [] h4)) := by
  show sem (X, K X d) 247 0 [some (.ref x0), none, none, none] [] h = _
  refine (s_new 3 mc_247 dL_law_0 rfl mq_247 mo_247 ck_12_7 (by decide)).trans ?_
  refine letH_i (F := fun a1 h1 => sem (X, K X d) 247 3 [some (.ref x0), none, none, none] [.ref a1] h1) (hN h) (alc h (11, 0) 14) ?_
  intro a1 h1
  refine (s_dup 4 mc_247 dL_law_3 rfl rfl).trans ?_
  refine (s_ispV 7 mc_247 dL_law_4 rfl mo_247 mm_12_9 (by decide) mq_247 ms_96 mi_96 mr_96 ma_96 mo_96 (by decide) (Nat.le_of_ble_eq_true rfl) rfl rfl (Nat.le_of_ble_eq_true rfl)).trans ?_
  refine gd_c ?_
  refine bV_c fun h2 => ?_
  refine (s_astore_n 8 mc_247 dL_law_7 rfl rfl (Nat.le_of_ble_eq_true rfl) rfl).trans ?_
  refine (s_new 11 mc_247 dL_law_8 rfl mq_247 mo_247 ck_12_10 (by decide)).trans ?_
  refine letH_i (F := fun a3 h3 => sem (X, K X d) 247 11 [some (.ref x0), some (.ref a1), none, none] [.ref a3] h3) (hN h2) (alc h2 (12, 0) 89) ?_
  intro a3 h3
  refine (s_dup 12 mc_247 dL_law_11 rfl rfl).trans ?_
  refine (s_ispV 15 mc_247 dL_law_12 rfl mo_247 mm_12_12 (by decide) mq_247 ms_146 mi_146 mr_146 ma_146 mo_146 (by decide) (Nat.le_of_ble_eq_true rfl) rfl rfl (Nat.le_of_ble_eq_true rfl)).trans ?_
  refine gd_c ?_
  refine bV_c fun h4 => ?_
  refine (s_astore_n 16 mc_247 dL_law_15 rfl rfl (Nat.le_of_ble_eq_true rfl) rfl).trans ?_
  refine (s_iconst 17 0 mc_247 dL_law_16 rfl (by decide)).trans ?_
  refine (s_istore_n 18 mc_247 dL_law_17 rfl rfl (Nat.le_of_ble_eq_true rfl) rfl).trans ?_
  rfl
theorem b_247_18 {X : Ctx} {d : Nat} (x0 : Nat) (v1 : Option Value) (v2 : Option Value) (x3 : Int32)  (h : Hp) : sem (X, K X d) 247 18 [some (.ref x0), v1, v2, some (.int x3)] [] h = aL X h x0 fun g1 => if (g1 - 7) < x3 then some (some (.int 1), h) else aI X h x0 x3 fun g2 => sem (X, K X d) 247 (tsw 0 [148, 201, 260, 303, 378, 441, 464, 497, 520, 563, 606, 640, 694, 728, 782, 815, 848, 882, 925, 949, 1002, 1015, 1068, 1151, 1164] 1187 (g2 &&& 31)) [some (.ref x0), v1, v2, some (.int x3)] [] h := by
  refine (s_iload_n 19 mc_247 dL_law_18 rfl rfl rfl).trans ?_
  refine (s_aload_n 20 mc_247 dL_law_19 rfl rfl rfl).trans ?_
  refine (s_alen 21 mc_247 dL_law_20 rfl).trans ?_
  refine aL_c fun g1 => ?_
  refine (s_bipush 23 7 mc_247 dL_law_21 rfl (by decide)).trans ?_
  refine (s_isub 24 mc_247 dL_law_23 rfl).trans ?_
  refine (s_icmp_gt 1193 27 mc_247 dL_law_24 rfl rfl).trans ?_
  refine ite_c ?_ ?_
  · skip
    refine (s_iconst 1194 1 mc_247 dL_law_1193 rfl (by decide)).trans ?_
    exact s_zret1 mc_247 dL_law_1194 mt_247
  · skip
    refine (s_aload_n 28 mc_247 dL_law_27 rfl rfl rfl).trans ?_
    refine (s_iload_n 29 mc_247 dL_law_28 rfl rfl rfl).trans ?_
    refine (s_iaload 30 mc_247 dL_law_29 rfl).trans ?_
    refine aI_c fun g2 => ?_
    refine (s_bipush 32 31 mc_247 dL_law_30 rfl (by decide)).trans ?_
    refine (s_iand 33 mc_247 dL_law_32 rfl).trans ?_
    refine (s_tsw [148, 201, 260, 303, 378, 441, 464, 497, 520, 563, 606, 640, 694, 728, 782, 815, 848, 882, 925, 949, 1002, 1015, 1068, 1151, 1164] 1187 mc_247 dL_law_33 rfl rfl rfl).trans ?_
    rfl
theorem b_247_148 {X : Ctx} {d : Nat} (x0 : Nat) (x1 : Nat) (x2 : Nat) (x3 : Int32)  (h : Hp) : sem (X, K X d) 247 148 [some (.ref x0), some (.ref x1), some (.ref x2), some (.int x3)] [] h = aI X h x0 (x3 + 1) fun g1 => aI X h x0 (x3 + 2) fun g2 => aI X h x0 (x3 + 3) fun g3 => aI X h x0 (x3 + 4) fun g4 => gd (hS h x1 = (11, 0)) (bI (K X d 97 [.ref x1, .int g1, .int g2, .int g3, .int g4] h) fun r5 h1 => aI X h1 x0 (x3 + 1) fun g6 => aI X h1 x0 (x3 + 2) fun g7 => aI X h1 x0 (x3 + 3) fun g8 => aI X h1 x0 (x3 + 4) fun g9 => gd (hS h1 x2 = (12, 0)) (bI (K X d 147 [.ref x2, .int g6, .int g7, .int g8, .int g9] h1) fun r10 h2 => if r5 = r10 then sem (X, K X d) 247 1187 [some (.ref x0), some (.ref x1), some (.ref x2), some (.int x3)] [] h2 else some (some (.int 0), h2))) := by
  refine (s_aload_n 149 mc_247 dL_law_148 rfl rfl rfl).trans ?_
  refine (s_aload_n 150 mc_247 dL_law_149 rfl rfl rfl).trans ?_
  refine (s_iload_n 151 mc_247 dL_law_150 rfl rfl rfl).trans ?_
  refine (s_iconst 152 1 mc_247 dL_law_151 rfl (by decide)).trans ?_
  refine (s_iadd 153 mc_247 dL_law_152 rfl).trans ?_
  refine (s_iaload 154 mc_247 dL_law_153 rfl).trans ?_
  refine aI_c fun g1 => ?_
  refine (s_aload_n 155 mc_247 dL_law_154 rfl rfl rfl).trans ?_
  refine (s_iload_n 156 mc_247 dL_law_155 rfl rfl rfl).trans ?_
  refine (s_iconst 157 2 mc_247 dL_law_156 rfl (by decide)).trans ?_
  refine (s_iadd 158 mc_247 dL_law_157 rfl).trans ?_
  refine (s_iaload 159 mc_247 dL_law_158 rfl).trans ?_
  refine aI_c fun g2 => ?_
  refine (s_aload_n 160 mc_247 dL_law_159 rfl rfl rfl).trans ?_
  refine (s_iload_n 161 mc_247 dL_law_160 rfl rfl rfl).trans ?_
  refine (s_iconst 162 3 mc_247 dL_law_161 rfl (by decide)).trans ?_
  refine (s_iadd 163 mc_247 dL_law_162 rfl).trans ?_
  refine (s_iaload 164 mc_247 dL_law_163 rfl).trans ?_
  refine aI_c fun g3 => ?_
  refine (s_aload_n 165 mc_247 dL_law_164 rfl rfl rfl).trans ?_
  refine (s_iload_n 166 mc_247 dL_law_165 rfl rfl rfl).trans ?_
  refine (s_iconst 167 4 mc_247 dL_law_166 rfl (by decide)).trans ?_
  refine (s_iadd 168 mc_247 dL_law_167 rfl).trans ?_
  refine (s_iaload 169 mc_247 dL_law_168 rfl).trans ?_
  refine aI_c fun g4 => ?_
  refine (s_iviI 172 mc_247 dL_law_169 rfl mo_247 mm_12_13 (by decide) ms_97 mi_97 mr_97 ma_97 mo_97 (by decide) (Nat.le_of_ble_eq_true rfl) rfl rfl (Nat.le_of_ble_eq_true rfl)).trans ?_
  refine gd_c ?_
  refine bI_c fun r5 h1 => ?_
  refine (s_aload_n 173 mc_247 dL_law_172 rfl rfl rfl).trans ?_
  refine (s_aload_n 174 mc_247 dL_law_173 rfl rfl rfl).trans ?_
  refine (s_iload_n 175 mc_247 dL_law_174 rfl rfl rfl).trans ?_
  refine (s_iconst 176 1 mc_247 dL_law_175 rfl (by decide)).trans ?_
  refine (s_iadd 177 mc_247 dL_law_176 rfl).trans ?_
  refine (s_iaload 178 mc_247 dL_law_177 rfl).trans ?_
  refine aI_c fun g6 => ?_
  refine (s_aload_n 179 mc_247 dL_law_178 rfl rfl rfl).trans ?_
  refine (s_iload_n 180 mc_247 dL_law_179 rfl rfl rfl).trans ?_
  refine (s_iconst 181 2 mc_247 dL_law_180 rfl (by decide)).trans ?_
  refine (s_iadd 182 mc_247 dL_law_181 rfl).trans ?_
  refine (s_iaload 183 mc_247 dL_law_182 rfl).trans ?_
  refine aI_c fun g7 => ?_
  refine (s_aload_n 184 mc_247 dL_law_183 rfl rfl rfl).trans ?_
  refine (s_iload_n 185 mc_247 dL_law_184 rfl rfl rfl).trans ?_
  refine (s_iconst 186 3 mc_247 dL_law_185 rfl (by decide)).trans ?_
  refine (s_iadd 187 mc_247 dL_law_186 rfl).trans ?_
  refine (s_iaload 188 mc_247 dL_law_187 rfl).trans ?_
  refine aI_c fun g8 => ?_
  refine (s_aload_n 189 mc_247 dL_law_188 rfl rfl rfl).trans ?_
  refine (s_iload_n 190 mc_247 dL_law_189 rfl rfl rfl).trans ?_
  refine (s_iconst 191 4 mc_247 dL_law_190 rfl (by decide)).trans ?_
  refine (s_iadd 192 mc_247 dL_law_191 rfl).trans ?_
  refine (s_iaload 193 mc_247 dL_law_192 rfl).trans ?_
  refine aI_c fun g9 => ?_
  refine (s_iviI 196 mc_247 dL_law_193 rfl mo_247 mm_12_17 (by decide) ms_147 mi_147 mr_147 ma_147 mo_147 (by decide) (Nat.le_of_ble_eq_true rfl) rfl rfl (Nat.le_of_ble_eq_true rfl)).trans ?_
  refine gd_c ?_
  refine bI_c fun r10 h2 => ?_
  refine (s_icmp_eq 1187 199 mc_247 dL_law_196 rfl rfl).trans ?_
  refine ite_c ?_ ?_
  · skip
    rfl
  · skip
    refine (s_iconst 200 0 mc_247 dL_law_199 rfl (by decide)).trans ?_
    exact s_zret0 mc_247 dL_law_200 mt_247
theorem b_247_201 {X : Ctx} {d : Nat} (x0 : Nat) (x1 : Nat) (v2 : Option Value) (x3 : Int32)  (h : Hp) : sem (X, K X d) 247 201 [some (.ref x0), some (.ref x1), v2, some (.int x3)] [] h = aI X h x0 (x3 + 1) fun g1 => aI X h x0 (x3 + 2) fun g2 => aI X h x0 (x3 + 3) fun g3 => if g3 = 0 then sem (X, K X d) 247 225 [some (.ref x0), some (.ref x1), v2, some (.int x3)] [.int 0, .int g2, .int g1, .ref x1] h else sem (X, K X d) 247 225 [some (.ref x0), some (.ref x1), v2, some (.int x3)] [.int 1, .int g2, .int g1, .ref x1] h := by
  refine (s_aload_n 202 mc_247 dL_law_201 rfl rfl rfl).trans ?_
  refine (s_aload_n 203 mc_247 dL_law_202 rfl rfl rfl).trans ?_
  refine (s_iload_n 204 mc_247 dL_law_203 rfl rfl rfl).trans ?_
  refine (s_iconst 205 1 mc_247 dL_law_204 rfl (by decide)).trans ?_
  refine (s_iadd 206 mc_247 dL_law_205 rfl).trans ?_
  refine (s_iaload 207 mc_247 dL_law_206 rfl).trans ?_
  refine aI_c fun g1 => ?_
  refine (s_aload_n 208 mc_247 dL_law_207 rfl rfl rfl).trans ?_
  refine (s_iload_n 209 mc_247 dL_law_208 rfl rfl rfl).trans ?_
  refine (s_iconst 210 2 mc_247 dL_law_209 rfl (by decide)).trans ?_
  refine (s_iadd 211 mc_247 dL_law_210 rfl).trans ?_
  refine (s_iaload 212 mc_247 dL_law_211 rfl).trans ?_
  refine aI_c fun g2 => ?_
  refine (s_aload_n 213 mc_247 dL_law_212 rfl rfl rfl).trans ?_
  refine (s_iload_n 214 mc_247 dL_law_213 rfl rfl rfl).trans ?_
  refine (s_iconst 215 3 mc_247 dL_law_214 rfl (by decide)).trans ?_
  refine (s_iadd 216 mc_247 dL_law_215 rfl).trans ?_
  refine (s_iaload 217 mc_247 dL_law_216 rfl).trans ?_
  refine aI_c fun g3 => ?_
  refine (s_if_eq 224 220 mc_247 dL_law_217 rfl rfl).trans ?_
  refine ite_c ?_ ?_
  · skip
    refine (s_iconst 225 0 mc_247 dL_law_224 rfl (by decide)).trans ?_
    rfl
  · skip
    refine (s_iconst 221 1 mc_247 dL_law_220 rfl (by decide)).trans ?_
    refine (s_goto 225 mc_247 dL_law_221 rfl).trans ?_
    rfl
theorem b_247_225 {X : Ctx} {d : Nat} (x0 : Nat) (v1 : Option Value) (x2 : Nat) (x3 : Int32) (s0 : Nat) (s1 : Int32) (s2 : Int32) (s3 : Int32) (h : Hp) : sem (X, K X d) 247 225 [some (.ref x0), v1, some (.ref x2), some (.int x3)] [.int s3, .int s2, .int s1, .ref s0] h = gd (hS h s0 = (11, 0)) (bI (K X d 98 [.ref s0, .int s1, .int s2, .int s3] h) fun r1 h1 => aI X h1 x0 (x3 + 1) fun g2 => aI X h1 x0 (x3 + 2) fun g3 => aI X h1 x0 (x3 + 3) fun g4 => if g4 = 0 then gd (hS h1 x2 = (12, 0)) (bI (K X d 148 [.ref x2, .int g2, .int g3, .int 0] h1) fun r5 h2 => if r1 = r5 then sem (X, K X d) 247 1187 [some (.ref x0), v1, some (.ref x2), some (.int x3)] [] h2 else some (some (.int 0), h2)) else gd (hS h1 x2 = (12, 0)) (bI (K X d 148 [.ref x2, .int g2, .int g3, .int 1] h1) fun r6 h3 => if r1 = r6 then sem (X, K X d) 247 1187 [some (.ref x0), v1, some (.ref x2), some (.int x3)] [] h3 else some (some (.int 0), h3))) := by
  refine (s_iviI 228 mc_247 dL_law_225 rfl mo_247 mm_12_18 (by decide) ms_98 mi_98 mr_98 ma_98 mo_98 (by decide) (Nat.le_of_ble_eq_true rfl) rfl rfl (Nat.le_of_ble_eq_true rfl)).trans ?_
  refine gd_c ?_
  refine bI_c fun r1 h1 => ?_
  refine (s_aload_n 229 mc_247 dL_law_228 rfl rfl rfl).trans ?_
  refine (s_aload_n 230 mc_247 dL_law_229 rfl rfl rfl).trans ?_
  refine (s_iload_n 231 mc_247 dL_law_230 rfl rfl rfl).trans ?_
  refine (s_iconst 232 1 mc_247 dL_law_231 rfl (by decide)).trans ?_
  refine (s_iadd 233 mc_247 dL_law_232 rfl).trans ?_
  refine (s_iaload 234 mc_247 dL_law_233 rfl).trans ?_
  refine aI_c fun g2 => ?_
  refine (s_aload_n 235 mc_247 dL_law_234 rfl rfl rfl).trans ?_
  refine (s_iload_n 236 mc_247 dL_law_235 rfl rfl rfl).trans ?_
  refine (s_iconst 237 2 mc_247 dL_law_236 rfl (by decide)).trans ?_
  refine (s_iadd 238 mc_247 dL_law_237 rfl).trans ?_
  refine (s_iaload 239 mc_247 dL_law_238 rfl).trans ?_
  refine aI_c fun g3 => ?_
  refine (s_aload_n 240 mc_247 dL_law_239 rfl rfl rfl).trans ?_
  refine (s_iload_n 241 mc_247 dL_law_240 rfl rfl rfl).trans ?_
  refine (s_iconst 242 3 mc_247 dL_law_241 rfl (by decide)).trans ?_
  refine (s_iadd 243 mc_247 dL_law_242 rfl).trans ?_
  refine (s_iaload 244 mc_247 dL_law_243 rfl).trans ?_
  refine aI_c fun g4 => ?_
  refine (s_if_eq 251 247 mc_247 dL_law_244 rfl rfl).trans ?_
  refine ite_c ?_ ?_
  · skip
    refine (s_iconst 252 0 mc_247 dL_law_251 rfl (by decide)).trans ?_
    refine (s_iviI 255 mc_247 dL_law_252 rfl mo_247 mm_12_22 (by decide) ms_148 mi_148 mr_148 ma_148 mo_148 (by decide) (Nat.le_of_ble_eq_true rfl) rfl rfl (Nat.le_of_ble_eq_true rfl)).trans ?_
    refine gd_c ?_
    refine bI_c fun r5 h2 => ?_
    refine (s_icmp_eq 1187 258 mc_247 dL_law_255 rfl rfl).trans ?_
    refine ite_c ?_ ?_
    · skip
      rfl
    · skip
      refine (s_iconst 259 0 mc_247 dL_law_258 rfl (by decide)).trans ?_
      exact s_zret0 mc_247 dL_law_259 mt_247
  · skip
    refine (s_iconst 248 1 mc_247 dL_law_247 rfl (by decide)).trans ?_
    refine (s_goto 252 mc_247 dL_law_248 rfl).trans ?_
    refine (s_iviI 255 mc_247 dL_law_252 rfl mo_247 mm_12_22 (by decide) ms_148 mi_148 mr_148 ma_148 mo_148 (by decide) (Nat.le_of_ble_eq_true rfl) rfl rfl (Nat.le_of_ble_eq_true rfl)).trans ?_
    refine gd_c ?_
    refine bI_c fun r6 h3 => ?_
    refine (s_icmp_eq 1187 258 mc_247 dL_law_255 rfl rfl).trans ?_
    refine ite_c ?_ ?_
    · skip
      rfl
    · skip
      refine (s_iconst 259 0 mc_247 dL_law_258 rfl (by decide)).trans ?_
      exact s_zret0 mc_247 dL_law_259 mt_247
theorem b_247_260 {X : Ctx} {d : Nat} (x0 : Nat) (x1 : Nat) (x2 : Nat) (x3 : Int32)  (h : Hp) : sem (X, K X d) 247 260 [some (.ref x0), some (.ref x1), some (.ref x2), some (.int x3)] [] h = aI X h x0 (x3 + 1) fun g1 => aI X h x0 (x3 + 2) fun g2 => aI X h x0 (x3 + 3) fun g3 => gd (hS h x1 = (11, 0)) (bI (K X d 99 [.ref x1, .int g1, .int g2, .int g3] h) fun r4 h1 => aI X h1 x0 (x3 + 1) fun g5 => aI X h1 x0 (x3 + 2) fun g6 => aI X h1 x0 (x3 + 3) fun g7 => gd (hS h1 x2 = (12, 0)) (bI (K X d 149 [.ref x2, .int g5, .int g6, .int g7] h1) fun r8 h2 => if r4 = r8 then sem (X, K X d) 247 1187 [some (.ref x0), some (.ref x1), some (.ref x2), some (.int x3)] [] h2 else some (some (.int 0), h2))) := by
  refine (s_aload_n 261 mc_247 dL_law_260 rfl rfl rfl).trans ?_
  refine (s_aload_n 262 mc_247 dL_law_261 rfl rfl rfl).trans ?_
  refine (s_iload_n 263 mc_247 dL_law_262 rfl rfl rfl).trans ?_
  refine (s_iconst 264 1 mc_247 dL_law_263 rfl (by decide)).trans ?_
  refine (s_iadd 265 mc_247 dL_law_264 rfl).trans ?_
  refine (s_iaload 266 mc_247 dL_law_265 rfl).trans ?_
  refine aI_c fun g1 => ?_
  refine (s_aload_n 267 mc_247 dL_law_266 rfl rfl rfl).trans ?_
  refine (s_iload_n 268 mc_247 dL_law_267 rfl rfl rfl).trans ?_
  refine (s_iconst 269 2 mc_247 dL_law_268 rfl (by decide)).trans ?_
  refine (s_iadd 270 mc_247 dL_law_269 rfl).trans ?_
  refine (s_iaload 271 mc_247 dL_law_270 rfl).trans ?_
  refine aI_c fun g2 => ?_
  refine (s_aload_n 272 mc_247 dL_law_271 rfl rfl rfl).trans ?_
  refine (s_iload_n 273 mc_247 dL_law_272 rfl rfl rfl).trans ?_
  refine (s_iconst 274 3 mc_247 dL_law_273 rfl (by decide)).trans ?_
  refine (s_iadd 275 mc_247 dL_law_274 rfl).trans ?_
  refine (s_iaload 276 mc_247 dL_law_275 rfl).trans ?_
  refine aI_c fun g3 => ?_
  refine (s_iviI 279 mc_247 dL_law_276 rfl mo_247 mm_12_23 (by decide) ms_99 mi_99 mr_99 ma_99 mo_99 (by decide) (Nat.le_of_ble_eq_true rfl) rfl rfl (Nat.le_of_ble_eq_true rfl)).trans ?_
  refine gd_c ?_
  refine bI_c fun r4 h1 => ?_
  refine (s_aload_n 280 mc_247 dL_law_279 rfl rfl rfl).trans ?_
  refine (s_aload_n 281 mc_247 dL_law_280 rfl rfl rfl).trans ?_
  refine (s_iload_n 282 mc_247 dL_law_281 rfl rfl rfl).trans ?_
  refine (s_iconst 283 1 mc_247 dL_law_282 rfl (by decide)).trans ?_
  refine (s_iadd 284 mc_247 dL_law_283 rfl).trans ?_
  refine (s_iaload 285 mc_247 dL_law_284 rfl).trans ?_
  refine aI_c fun g5 => ?_
  refine (s_aload_n 286 mc_247 dL_law_285 rfl rfl rfl).trans ?_
  refine (s_iload_n 287 mc_247 dL_law_286 rfl rfl rfl).trans ?_
  refine (s_iconst 288 2 mc_247 dL_law_287 rfl (by decide)).trans ?_
  refine (s_iadd 289 mc_247 dL_law_288 rfl).trans ?_
  refine (s_iaload 290 mc_247 dL_law_289 rfl).trans ?_
  refine aI_c fun g6 => ?_
  refine (s_aload_n 291 mc_247 dL_law_290 rfl rfl rfl).trans ?_
  refine (s_iload_n 292 mc_247 dL_law_291 rfl rfl rfl).trans ?_
  refine (s_iconst 293 3 mc_247 dL_law_292 rfl (by decide)).trans ?_
  refine (s_iadd 294 mc_247 dL_law_293 rfl).trans ?_
  refine (s_iaload 295 mc_247 dL_law_294 rfl).trans ?_
  refine aI_c fun g7 => ?_
  refine (s_iviI 298 mc_247 dL_law_295 rfl mo_247 mm_12_27 (by decide) ms_149 mi_149 mr_149 ma_149 mo_149 (by decide) (Nat.le_of_ble_eq_true rfl) rfl rfl (Nat.le_of_ble_eq_true rfl)).trans ?_
  refine gd_c ?_
  refine bI_c fun r8 h2 => ?_
  refine (s_icmp_eq 1187 301 mc_247 dL_law_298 rfl rfl).trans ?_
  refine ite_c ?_ ?_
  · skip
    rfl
  · skip
    refine (s_iconst 302 0 mc_247 dL_law_301 rfl (by decide)).trans ?_
    exact s_zret0 mc_247 dL_law_302 mt_247
theorem b_247_303 {X : Ctx} {d : Nat} (x0 : Nat) (x1 : Nat) (x2 : Nat) (x3 : Int32)  (h : Hp) : sem (X, K X d) 247 303 [some (.ref x0), some (.ref x1), some (.ref x2), some (.int x3)] [] h = aI X h x0 (x3 + 1) fun g1 => aI X h x0 (x3 + 2) fun g2 => aI X h x0 (x3 + 3) fun g3 => aI X h x0 (x3 + 4) fun g4 => aI X h x0 (x3 + 5) fun g5 => aI X h x0 (x3 + 6) fun g6 => gd (hS h x1 = (11, 0)) (bI (K X d 100 [.ref x1, .int g1, .int g2, .int g3, .int g4, .int g5, .int g6] h) fun r7 h1 => aI X h1 x0 (x3 + 1) fun g8 => aI X h1 x0 (x3 + 2) fun g9 => aI X h1 x0 (x3 + 3) fun g10 => aI X h1 x0 (x3 + 4) fun g11 => aI X h1 x0 (x3 + 5) fun g12 => aI X h1 x0 (x3 + 6) fun g13 => gd (hS h1 x2 = (12, 0)) (bI (K X d 150 [.ref x2, .int g8, .int g9, .int g10, .int g11, .int g12, .int g13] h1) fun r14 h2 => if r7 = r14 then sem (X, K X d) 247 1187 [some (.ref x0), some (.ref x1), some (.ref x2), some (.int x3)] [] h2 else some (some (.int 0), h2))) := by
  refine (s_aload_n 304 mc_247 dL_law_303 rfl rfl rfl).trans ?_
  refine (s_aload_n 305 mc_247 dL_law_304 rfl rfl rfl).trans ?_
  refine (s_iload_n 306 mc_247 dL_law_305 rfl rfl rfl).trans ?_
  refine (s_iconst 307 1 mc_247 dL_law_306 rfl (by decide)).trans ?_
  refine (s_iadd 308 mc_247 dL_law_307 rfl).trans ?_
  refine (s_iaload 309 mc_247 dL_law_308 rfl).trans ?_
  refine aI_c fun g1 => ?_
  refine (s_aload_n 310 mc_247 dL_law_309 rfl rfl rfl).trans ?_
  refine (s_iload_n 311 mc_247 dL_law_310 rfl rfl rfl).trans ?_
  refine (s_iconst 312 2 mc_247 dL_law_311 rfl (by decide)).trans ?_
  refine (s_iadd 313 mc_247 dL_law_312 rfl).trans ?_
  refine (s_iaload 314 mc_247 dL_law_313 rfl).trans ?_
  refine aI_c fun g2 => ?_
  refine (s_aload_n 315 mc_247 dL_law_314 rfl rfl rfl).trans ?_
  refine (s_iload_n 316 mc_247 dL_law_315 rfl rfl rfl).trans ?_
  refine (s_iconst 317 3 mc_247 dL_law_316 rfl (by decide)).trans ?_
  refine (s_iadd 318 mc_247 dL_law_317 rfl).trans ?_
  refine (s_iaload 319 mc_247 dL_law_318 rfl).trans ?_
  refine aI_c fun g3 => ?_
  refine (s_aload_n 320 mc_247 dL_law_319 rfl rfl rfl).trans ?_
  refine (s_iload_n 321 mc_247 dL_law_320 rfl rfl rfl).trans ?_
  refine (s_iconst 322 4 mc_247 dL_law_321 rfl (by decide)).trans ?_
  refine (s_iadd 323 mc_247 dL_law_322 rfl).trans ?_
  refine (s_iaload 324 mc_247 dL_law_323 rfl).trans ?_
  refine aI_c fun g4 => ?_
  refine (s_aload_n 325 mc_247 dL_law_324 rfl rfl rfl).trans ?_
  refine (s_iload_n 326 mc_247 dL_law_325 rfl rfl rfl).trans ?_
  refine (s_iconst 327 5 mc_247 dL_law_326 rfl (by decide)).trans ?_
  refine (s_iadd 328 mc_247 dL_law_327 rfl).trans ?_
  refine (s_iaload 329 mc_247 dL_law_328 rfl).trans ?_
  refine aI_c fun g5 => ?_
  refine (s_aload_n 330 mc_247 dL_law_329 rfl rfl rfl).trans ?_
  refine (s_iload_n 331 mc_247 dL_law_330 rfl rfl rfl).trans ?_
  refine (s_bipush 333 6 mc_247 dL_law_331 rfl (by decide)).trans ?_
  refine (s_iadd 334 mc_247 dL_law_333 rfl).trans ?_
  refine (s_iaload 335 mc_247 dL_law_334 rfl).trans ?_
  refine aI_c fun g6 => ?_
  refine (s_iviI 338 mc_247 dL_law_335 rfl mo_247 mm_12_28 (by decide) ms_100 mi_100 mr_100 ma_100 mo_100 (by decide) (Nat.le_of_ble_eq_true rfl) rfl rfl (Nat.le_of_ble_eq_true rfl)).trans ?_
  refine gd_c ?_
  refine bI_c fun r7 h1 => ?_
  refine (s_aload_n 339 mc_247 dL_law_338 rfl rfl rfl).trans ?_
  refine (s_aload_n 340 mc_247 dL_law_339 rfl rfl rfl).trans ?_
  refine (s_iload_n 341 mc_247 dL_law_340 rfl rfl rfl).trans ?_
  refine (s_iconst 342 1 mc_247 dL_law_341 rfl (by decide)).trans ?_
  refine (s_iadd 343 mc_247 dL_law_342 rfl).trans ?_
  refine (s_iaload 344 mc_247 dL_law_343 rfl).trans ?_
  refine aI_c fun g8 => ?_
  refine (s_aload_n 345 mc_247 dL_law_344 rfl rfl rfl).trans ?_
  refine (s_iload_n 346 mc_247 dL_law_345 rfl rfl rfl).trans ?_
  refine (s_iconst 347 2 mc_247 dL_law_346 rfl (by decide)).trans ?_
  refine (s_iadd 348 mc_247 dL_law_347 rfl).trans ?_
  refine (s_iaload 349 mc_247 dL_law_348 rfl).trans ?_
  refine aI_c fun g9 => ?_
  refine (s_aload_n 350 mc_247 dL_law_349 rfl rfl rfl).trans ?_
  refine (s_iload_n 351 mc_247 dL_law_350 rfl rfl rfl).trans ?_
  refine (s_iconst 352 3 mc_247 dL_law_351 rfl (by decide)).trans ?_
  refine (s_iadd 353 mc_247 dL_law_352 rfl).trans ?_
  refine (s_iaload 354 mc_247 dL_law_353 rfl).trans ?_
  refine aI_c fun g10 => ?_
  refine (s_aload_n 355 mc_247 dL_law_354 rfl rfl rfl).trans ?_
  refine (s_iload_n 356 mc_247 dL_law_355 rfl rfl rfl).trans ?_
  refine (s_iconst 357 4 mc_247 dL_law_356 rfl (by decide)).trans ?_
  refine (s_iadd 358 mc_247 dL_law_357 rfl).trans ?_
  refine (s_iaload 359 mc_247 dL_law_358 rfl).trans ?_
  refine aI_c fun g11 => ?_
  refine (s_aload_n 360 mc_247 dL_law_359 rfl rfl rfl).trans ?_
  refine (s_iload_n 361 mc_247 dL_law_360 rfl rfl rfl).trans ?_
  refine (s_iconst 362 5 mc_247 dL_law_361 rfl (by decide)).trans ?_
  refine (s_iadd 363 mc_247 dL_law_362 rfl).trans ?_
  refine (s_iaload 364 mc_247 dL_law_363 rfl).trans ?_
  refine aI_c fun g12 => ?_
  refine (s_aload_n 365 mc_247 dL_law_364 rfl rfl rfl).trans ?_
  refine (s_iload_n 366 mc_247 dL_law_365 rfl rfl rfl).trans ?_
  refine (s_bipush 368 6 mc_247 dL_law_366 rfl (by decide)).trans ?_
  refine (s_iadd 369 mc_247 dL_law_368 rfl).trans ?_
  refine (s_iaload 370 mc_247 dL_law_369 rfl).trans ?_
  refine aI_c fun g13 => ?_
  refine (s_iviI 373 mc_247 dL_law_370 rfl mo_247 mm_12_32 (by decide) ms_150 mi_150 mr_150 ma_150 mo_150 (by decide) (Nat.le_of_ble_eq_true rfl) rfl rfl (Nat.le_of_ble_eq_true rfl)).trans ?_
  refine gd_c ?_
  refine bI_c fun r14 h2 => ?_
  refine (s_icmp_eq 1187 376 mc_247 dL_law_373 rfl rfl).trans ?_
  refine ite_c ?_ ?_
  · skip
    rfl
  · skip
    refine (s_iconst 377 0 mc_247 dL_law_376 rfl (by decide)).trans ?_
    exact s_zret0 mc_247 dL_law_377 mt_247
theorem b_247_378 {X : Ctx} {d : Nat} (x0 : Nat) (x1 : Nat) (x2 : Nat) (x3 : Int32)  (h : Hp) : sem (X, K X d) 247 378 [some (.ref x0), some (.ref x1), some (.ref x2), some (.int x3)] [] h = aI X h x0 (x3 + 1) fun g1 => aI X h x0 (x3 + 2) fun g2 => aI X h x0 (x3 + 3) fun g3 => aI X h x0 (x3 + 4) fun g4 => aI X h x0 (x3 + 5) fun g5 => gd (hS h x1 = (11, 0)) (bI (K X d 101 [.ref x1, .int g1, .int g2, .int g3, .int g4, .int g5] h) fun r6 h1 => aI X h1 x0 (x3 + 1) fun g7 => aI X h1 x0 (x3 + 2) fun g8 => aI X h1 x0 (x3 + 3) fun g9 => aI X h1 x0 (x3 + 4) fun g10 => aI X h1 x0 (x3 + 5) fun g11 => gd (hS h1 x2 = (12, 0)) (bI (K X d 151 [.ref x2, .int g7, .int g8, .int g9, .int g10, .int g11] h1) fun r12 h2 => if r6 = r12 then sem (X, K X d) 247 1187 [some (.ref x0), some (.ref x1), some (.ref x2), some (.int x3)] [] h2 else some (some (.int 0), h2))) := by
  refine (s_aload_n 379 mc_247 dL_law_378 rfl rfl rfl).trans ?_
  refine (s_aload_n 380 mc_247 dL_law_379 rfl rfl rfl).trans ?_
  refine (s_iload_n 381 mc_247 dL_law_380 rfl rfl rfl).trans ?_
  refine (s_iconst 382 1 mc_247 dL_law_381 rfl (by decide)).trans ?_
  refine (s_iadd 383 mc_247 dL_law_382 rfl).trans ?_
  refine (s_iaload 384 mc_247 dL_law_383 rfl).trans ?_
  refine aI_c fun g1 => ?_
  refine (s_aload_n 385 mc_247 dL_law_384 rfl rfl rfl).trans ?_
  refine (s_iload_n 386 mc_247 dL_law_385 rfl rfl rfl).trans ?_
  refine (s_iconst 387 2 mc_247 dL_law_386 rfl (by decide)).trans ?_
  refine (s_iadd 388 mc_247 dL_law_387 rfl).trans ?_
  refine (s_iaload 389 mc_247 dL_law_388 rfl).trans ?_
  refine aI_c fun g2 => ?_
  refine (s_aload_n 390 mc_247 dL_law_389 rfl rfl rfl).trans ?_
  refine (s_iload_n 391 mc_247 dL_law_390 rfl rfl rfl).trans ?_
  refine (s_iconst 392 3 mc_247 dL_law_391 rfl (by decide)).trans ?_
  refine (s_iadd 393 mc_247 dL_law_392 rfl).trans ?_
  refine (s_iaload 394 mc_247 dL_law_393 rfl).trans ?_
  refine aI_c fun g3 => ?_
  refine (s_aload_n 395 mc_247 dL_law_394 rfl rfl rfl).trans ?_
  refine (s_iload_n 396 mc_247 dL_law_395 rfl rfl rfl).trans ?_
  refine (s_iconst 397 4 mc_247 dL_law_396 rfl (by decide)).trans ?_
  refine (s_iadd 398 mc_247 dL_law_397 rfl).trans ?_
  refine (s_iaload 399 mc_247 dL_law_398 rfl).trans ?_
  refine aI_c fun g4 => ?_
  refine (s_aload_n 400 mc_247 dL_law_399 rfl rfl rfl).trans ?_
  refine (s_iload_n 401 mc_247 dL_law_400 rfl rfl rfl).trans ?_
  refine (s_iconst 402 5 mc_247 dL_law_401 rfl (by decide)).trans ?_
  refine (s_iadd 403 mc_247 dL_law_402 rfl).trans ?_
  refine (s_iaload 404 mc_247 dL_law_403 rfl).trans ?_
  refine aI_c fun g5 => ?_
  refine (s_iviI 407 mc_247 dL_law_404 rfl mo_247 mm_12_33 (by decide) ms_101 mi_101 mr_101 ma_101 mo_101 (by decide) (Nat.le_of_ble_eq_true rfl) rfl rfl (Nat.le_of_ble_eq_true rfl)).trans ?_
  refine gd_c ?_
  refine bI_c fun r6 h1 => ?_
  refine (s_aload_n 408 mc_247 dL_law_407 rfl rfl rfl).trans ?_
  refine (s_aload_n 409 mc_247 dL_law_408 rfl rfl rfl).trans ?_
  refine (s_iload_n 410 mc_247 dL_law_409 rfl rfl rfl).trans ?_
  refine (s_iconst 411 1 mc_247 dL_law_410 rfl (by decide)).trans ?_
  refine (s_iadd 412 mc_247 dL_law_411 rfl).trans ?_
  refine (s_iaload 413 mc_247 dL_law_412 rfl).trans ?_
  refine aI_c fun g7 => ?_
  refine (s_aload_n 414 mc_247 dL_law_413 rfl rfl rfl).trans ?_
  refine (s_iload_n 415 mc_247 dL_law_414 rfl rfl rfl).trans ?_
  refine (s_iconst 416 2 mc_247 dL_law_415 rfl (by decide)).trans ?_
  refine (s_iadd 417 mc_247 dL_law_416 rfl).trans ?_
  refine (s_iaload 418 mc_247 dL_law_417 rfl).trans ?_
  refine aI_c fun g8 => ?_
  refine (s_aload_n 419 mc_247 dL_law_418 rfl rfl rfl).trans ?_
  refine (s_iload_n 420 mc_247 dL_law_419 rfl rfl rfl).trans ?_
  refine (s_iconst 421 3 mc_247 dL_law_420 rfl (by decide)).trans ?_
  refine (s_iadd 422 mc_247 dL_law_421 rfl).trans ?_
  refine (s_iaload 423 mc_247 dL_law_422 rfl).trans ?_
  refine aI_c fun g9 => ?_
  refine (s_aload_n 424 mc_247 dL_law_423 rfl rfl rfl).trans ?_
  refine (s_iload_n 425 mc_247 dL_law_424 rfl rfl rfl).trans ?_
  refine (s_iconst 426 4 mc_247 dL_law_425 rfl (by decide)).trans ?_
  refine (s_iadd 427 mc_247 dL_law_426 rfl).trans ?_
  refine (s_iaload 428 mc_247 dL_law_427 rfl).trans ?_
  refine aI_c fun g10 => ?_
  refine (s_aload_n 429 mc_247 dL_law_428 rfl rfl rfl).trans ?_
  refine (s_iload_n 430 mc_247 dL_law_429 rfl rfl rfl).trans ?_
  refine (s_iconst 431 5 mc_247 dL_law_430 rfl (by decide)).trans ?_
  refine (s_iadd 432 mc_247 dL_law_431 rfl).trans ?_
  refine (s_iaload 433 mc_247 dL_law_432 rfl).trans ?_
  refine aI_c fun g11 => ?_
  refine (s_iviI 436 mc_247 dL_law_433 rfl mo_247 mm_12_37 (by decide) ms_151 mi_151 mr_151 ma_151 mo_151 (by decide) (Nat.le_of_ble_eq_true rfl) rfl rfl (Nat.le_of_ble_eq_true rfl)).trans ?_
  refine gd_c ?_
  refine bI_c fun r12 h2 => ?_
  refine (s_icmp_eq 1187 439 mc_247 dL_law_436 rfl rfl).trans ?_
  refine ite_c ?_ ?_
  · skip
    rfl
  · skip
    refine (s_iconst 440 0 mc_247 dL_law_439 rfl (by decide)).trans ?_
    exact s_zret0 mc_247 dL_law_440 mt_247
theorem b_247_441 {X : Ctx} {d : Nat} (x0 : Nat) (x1 : Nat) (x2 : Nat) (x3 : Int32)  (h : Hp) : sem (X, K X d) 247 441 [some (.ref x0), some (.ref x1), some (.ref x2), some (.int x3)] [] h = aI X h x0 (x3 + 1) fun g1 => gd (hS h x1 = (11, 0)) (bI (K X d 103 [.ref x1, .int g1] h) fun r2 h1 => aI X h1 x0 (x3 + 1) fun g3 => gd (hS h1 x2 = (12, 0)) (bI (K X d 152 [.ref x2, .int g3] h1) fun r4 h2 => if r2 = r4 then sem (X, K X d) 247 1187 [some (.ref x0), some (.ref x1), some (.ref x2), some (.int x3)] [] h2 else some (some (.int 0), h2))) := by
  refine (s_aload_n 442 mc_247 dL_law_441 rfl rfl rfl).trans ?_
  refine (s_aload_n 443 mc_247 dL_law_442 rfl rfl rfl).trans ?_
  refine (s_iload_n 444 mc_247 dL_law_443 rfl rfl rfl).trans ?_
  refine (s_iconst 445 1 mc_247 dL_law_444 rfl (by decide)).trans ?_
  refine (s_iadd 446 mc_247 dL_law_445 rfl).trans ?_
  refine (s_iaload 447 mc_247 dL_law_446 rfl).trans ?_
  refine aI_c fun g1 => ?_
  refine (s_iviI 450 mc_247 dL_law_447 rfl mo_247 mm_12_38 (by decide) ms_103 mi_103 mr_103 ma_103 mo_103 (by decide) (Nat.le_of_ble_eq_true rfl) rfl rfl (Nat.le_of_ble_eq_true rfl)).trans ?_
  refine gd_c ?_
  refine bI_c fun r2 h1 => ?_
  refine (s_aload_n 451 mc_247 dL_law_450 rfl rfl rfl).trans ?_
  refine (s_aload_n 452 mc_247 dL_law_451 rfl rfl rfl).trans ?_
  refine (s_iload_n 453 mc_247 dL_law_452 rfl rfl rfl).trans ?_
  refine (s_iconst 454 1 mc_247 dL_law_453 rfl (by decide)).trans ?_
  refine (s_iadd 455 mc_247 dL_law_454 rfl).trans ?_
  refine (s_iaload 456 mc_247 dL_law_455 rfl).trans ?_
  refine aI_c fun g3 => ?_
  refine (s_iviI 459 mc_247 dL_law_456 rfl mo_247 mm_12_42 (by decide) ms_152 mi_152 mr_152 ma_152 mo_152 (by decide) (Nat.le_of_ble_eq_true rfl) rfl rfl (Nat.le_of_ble_eq_true rfl)).trans ?_
  refine gd_c ?_
  refine bI_c fun r4 h2 => ?_
  refine (s_icmp_eq 1187 462 mc_247 dL_law_459 rfl rfl).trans ?_
  refine ite_c ?_ ?_
  · skip
    rfl
  · skip
    refine (s_iconst 463 0 mc_247 dL_law_462 rfl (by decide)).trans ?_
    exact s_zret0 mc_247 dL_law_463 mt_247
theorem b_247_464 {X : Ctx} {d : Nat} (x0 : Nat) (x1 : Nat) (x2 : Nat) (x3 : Int32)  (h : Hp) : sem (X, K X d) 247 464 [some (.ref x0), some (.ref x1), some (.ref x2), some (.int x3)] [] h = aI X h x0 (x3 + 1) fun g1 => aI X h x0 (x3 + 2) fun g2 => gd (hS h x1 = (11, 0)) (bI (K X d 104 [.ref x1, .int g1, .int g2] h) fun r3 h1 => aI X h1 x0 (x3 + 1) fun g4 => aI X h1 x0 (x3 + 2) fun g5 => gd (hS h1 x2 = (12, 0)) (bI (K X d 182 [.ref x2, .int g4, .int g5] h1) fun r6 h2 => if r3 = r6 then sem (X, K X d) 247 1187 [some (.ref x0), some (.ref x1), some (.ref x2), some (.int x3)] [] h2 else some (some (.int 0), h2))) := by
  refine (s_aload_n 465 mc_247 dL_law_464 rfl rfl rfl).trans ?_
  refine (s_aload_n 466 mc_247 dL_law_465 rfl rfl rfl).trans ?_
  refine (s_iload_n 467 mc_247 dL_law_466 rfl rfl rfl).trans ?_
  refine (s_iconst 468 1 mc_247 dL_law_467 rfl (by decide)).trans ?_
  refine (s_iadd 469 mc_247 dL_law_468 rfl).trans ?_
  refine (s_iaload 470 mc_247 dL_law_469 rfl).trans ?_
  refine aI_c fun g1 => ?_
  refine (s_aload_n 471 mc_247 dL_law_470 rfl rfl rfl).trans ?_
  refine (s_iload_n 472 mc_247 dL_law_471 rfl rfl rfl).trans ?_
  refine (s_iconst 473 2 mc_247 dL_law_472 rfl (by decide)).trans ?_
  refine (s_iadd 474 mc_247 dL_law_473 rfl).trans ?_
  refine (s_iaload 475 mc_247 dL_law_474 rfl).trans ?_
  refine aI_c fun g2 => ?_
  refine (s_iviI 478 mc_247 dL_law_475 rfl mo_247 mm_12_43 (by decide) ms_104 mi_104 mr_104 ma_104 mo_104 (by decide) (Nat.le_of_ble_eq_true rfl) rfl rfl (Nat.le_of_ble_eq_true rfl)).trans ?_
  refine gd_c ?_
  refine bI_c fun r3 h1 => ?_
  refine (s_aload_n 479 mc_247 dL_law_478 rfl rfl rfl).trans ?_
  refine (s_aload_n 480 mc_247 dL_law_479 rfl rfl rfl).trans ?_
  refine (s_iload_n 481 mc_247 dL_law_480 rfl rfl rfl).trans ?_
  refine (s_iconst 482 1 mc_247 dL_law_481 rfl (by decide)).trans ?_
  refine (s_iadd 483 mc_247 dL_law_482 rfl).trans ?_
  refine (s_iaload 484 mc_247 dL_law_483 rfl).trans ?_
  refine aI_c fun g4 => ?_
  refine (s_aload_n 485 mc_247 dL_law_484 rfl rfl rfl).trans ?_
  refine (s_iload_n 486 mc_247 dL_law_485 rfl rfl rfl).trans ?_
  refine (s_iconst 487 2 mc_247 dL_law_486 rfl (by decide)).trans ?_
  refine (s_iadd 488 mc_247 dL_law_487 rfl).trans ?_
  refine (s_iaload 489 mc_247 dL_law_488 rfl).trans ?_
  refine aI_c fun g5 => ?_
  refine (s_iviI 492 mc_247 dL_law_489 rfl mo_247 mm_12_47 (by decide) ms_182 mi_182 mr_182 ma_182 mo_182 (by decide) (Nat.le_of_ble_eq_true rfl) rfl rfl (Nat.le_of_ble_eq_true rfl)).trans ?_
  refine gd_c ?_
  refine bI_c fun r6 h2 => ?_
  refine (s_icmp_eq 1187 495 mc_247 dL_law_492 rfl rfl).trans ?_
  refine ite_c ?_ ?_
  · skip
    rfl
  · skip
    refine (s_iconst 496 0 mc_247 dL_law_495 rfl (by decide)).trans ?_
    exact s_zret0 mc_247 dL_law_496 mt_247
theorem b_247_497 {X : Ctx} {d : Nat} (x0 : Nat) (x1 : Nat) (x2 : Nat) (x3 : Int32)  (h : Hp) : sem (X, K X d) 247 497 [some (.ref x0), some (.ref x1), some (.ref x2), some (.int x3)] [] h = aI X h x0 (x3 + 1) fun g1 => gd (hS h x1 = (11, 0)) (bI (K X d 105 [.ref x1, .int g1] h) fun r2 h1 => aI X h1 x0 (x3 + 1) fun g3 => gd (hS h1 x2 = (12, 0)) (bI (K X d 183 [.ref x2, .int g3] h1) fun r4 h2 => if r2 = r4 then sem (X, K X d) 247 1187 [some (.ref x0), some (.ref x1), some (.ref x2), some (.int x3)] [] h2 else some (some (.int 0), h2))) := by
  refine (s_aload_n 498 mc_247 dL_law_497 rfl rfl rfl).trans ?_
  refine (s_aload_n 499 mc_247 dL_law_498 rfl rfl rfl).trans ?_
  refine (s_iload_n 500 mc_247 dL_law_499 rfl rfl rfl).trans ?_
  refine (s_iconst 501 1 mc_247 dL_law_500 rfl (by decide)).trans ?_
  refine (s_iadd 502 mc_247 dL_law_501 rfl).trans ?_
  refine (s_iaload 503 mc_247 dL_law_502 rfl).trans ?_
  refine aI_c fun g1 => ?_
  refine (s_iviI 506 mc_247 dL_law_503 rfl mo_247 mm_12_48 (by decide) ms_105 mi_105 mr_105 ma_105 mo_105 (by decide) (Nat.le_of_ble_eq_true rfl) rfl rfl (Nat.le_of_ble_eq_true rfl)).trans ?_
  refine gd_c ?_
  refine bI_c fun r2 h1 => ?_
  refine (s_aload_n 507 mc_247 dL_law_506 rfl rfl rfl).trans ?_
  refine (s_aload_n 508 mc_247 dL_law_507 rfl rfl rfl).trans ?_
  refine (s_iload_n 509 mc_247 dL_law_508 rfl rfl rfl).trans ?_
  refine (s_iconst 510 1 mc_247 dL_law_509 rfl (by decide)).trans ?_
  refine (s_iadd 511 mc_247 dL_law_510 rfl).trans ?_
  refine (s_iaload 512 mc_247 dL_law_511 rfl).trans ?_
  refine aI_c fun g3 => ?_
  refine (s_iviI 515 mc_247 dL_law_512 rfl mo_247 mm_12_52 (by decide) ms_183 mi_183 mr_183 ma_183 mo_183 (by decide) (Nat.le_of_ble_eq_true rfl) rfl rfl (Nat.le_of_ble_eq_true rfl)).trans ?_
  refine gd_c ?_
  refine bI_c fun r4 h2 => ?_
  refine (s_icmp_eq 1187 518 mc_247 dL_law_515 rfl rfl).trans ?_
  refine ite_c ?_ ?_
  · skip
    rfl
  · skip
    refine (s_iconst 519 0 mc_247 dL_law_518 rfl (by decide)).trans ?_
    exact s_zret0 mc_247 dL_law_519 mt_247
theorem b_247_520 {X : Ctx} {d : Nat} (x0 : Nat) (x1 : Nat) (x2 : Nat) (x3 : Int32)  (h : Hp) : sem (X, K X d) 247 520 [some (.ref x0), some (.ref x1), some (.ref x2), some (.int x3)] [] h = aI X h x0 (x3 + 1) fun g1 => aI X h x0 (x3 + 2) fun g2 => aI X h x0 (x3 + 3) fun g3 => gd (hS h x1 = (11, 0)) (bI (K X d 106 [.ref x1, .int g1, .int g2, .int g3] h) fun r4 h1 => aI X h1 x0 (x3 + 1) fun g5 => aI X h1 x0 (x3 + 2) fun g6 => aI X h1 x0 (x3 + 3) fun g7 => gd (hS h1 x2 = (12, 0)) (bI (K X d 198 [.ref x2, .int g5, .int g6, .int g7] h1) fun r8 h2 => if r4 = r8 then sem (X, K X d) 247 1187 [some (.ref x0), some (.ref x1), some (.ref x2), some (.int x3)] [] h2 else some (some (.int 0), h2))) := by
  refine (s_aload_n 521 mc_247 dL_law_520 rfl rfl rfl).trans ?_
  refine (s_aload_n 522 mc_247 dL_law_521 rfl rfl rfl).trans ?_
  refine (s_iload_n 523 mc_247 dL_law_522 rfl rfl rfl).trans ?_
  refine (s_iconst 524 1 mc_247 dL_law_523 rfl (by decide)).trans ?_
  refine (s_iadd 525 mc_247 dL_law_524 rfl).trans ?_
  refine (s_iaload 526 mc_247 dL_law_525 rfl).trans ?_
  refine aI_c fun g1 => ?_
  refine (s_aload_n 527 mc_247 dL_law_526 rfl rfl rfl).trans ?_
  refine (s_iload_n 528 mc_247 dL_law_527 rfl rfl rfl).trans ?_
  refine (s_iconst 529 2 mc_247 dL_law_528 rfl (by decide)).trans ?_
  refine (s_iadd 530 mc_247 dL_law_529 rfl).trans ?_
  refine (s_iaload 531 mc_247 dL_law_530 rfl).trans ?_
  refine aI_c fun g2 => ?_
  refine (s_aload_n 532 mc_247 dL_law_531 rfl rfl rfl).trans ?_
  refine (s_iload_n 533 mc_247 dL_law_532 rfl rfl rfl).trans ?_
  refine (s_iconst 534 3 mc_247 dL_law_533 rfl (by decide)).trans ?_
  refine (s_iadd 535 mc_247 dL_law_534 rfl).trans ?_
  refine (s_iaload 536 mc_247 dL_law_535 rfl).trans ?_
  refine aI_c fun g3 => ?_
  refine (s_iviI 539 mc_247 dL_law_536 rfl mo_247 mm_12_53 (by decide) ms_106 mi_106 mr_106 ma_106 mo_106 (by decide) (Nat.le_of_ble_eq_true rfl) rfl rfl (Nat.le_of_ble_eq_true rfl)).trans ?_
  refine gd_c ?_
  refine bI_c fun r4 h1 => ?_
  refine (s_aload_n 540 mc_247 dL_law_539 rfl rfl rfl).trans ?_
  refine (s_aload_n 541 mc_247 dL_law_540 rfl rfl rfl).trans ?_
  refine (s_iload_n 542 mc_247 dL_law_541 rfl rfl rfl).trans ?_
  refine (s_iconst 543 1 mc_247 dL_law_542 rfl (by decide)).trans ?_
  refine (s_iadd 544 mc_247 dL_law_543 rfl).trans ?_
  refine (s_iaload 545 mc_247 dL_law_544 rfl).trans ?_
  refine aI_c fun g5 => ?_
  refine (s_aload_n 546 mc_247 dL_law_545 rfl rfl rfl).trans ?_
  refine (s_iload_n 547 mc_247 dL_law_546 rfl rfl rfl).trans ?_
  refine (s_iconst 548 2 mc_247 dL_law_547 rfl (by decide)).trans ?_
  refine (s_iadd 549 mc_247 dL_law_548 rfl).trans ?_
  refine (s_iaload 550 mc_247 dL_law_549 rfl).trans ?_
  refine aI_c fun g6 => ?_
  refine (s_aload_n 551 mc_247 dL_law_550 rfl rfl rfl).trans ?_
  refine (s_iload_n 552 mc_247 dL_law_551 rfl rfl rfl).trans ?_
  refine (s_iconst 553 3 mc_247 dL_law_552 rfl (by decide)).trans ?_
  refine (s_iadd 554 mc_247 dL_law_553 rfl).trans ?_
  refine (s_iaload 555 mc_247 dL_law_554 rfl).trans ?_
  refine aI_c fun g7 => ?_
  refine (s_iviI 558 mc_247 dL_law_555 rfl mo_247 mm_12_57 (by decide) ms_198 mi_198 mr_198 ma_198 mo_198 (by decide) (Nat.le_of_ble_eq_true rfl) rfl rfl (Nat.le_of_ble_eq_true rfl)).trans ?_
  refine gd_c ?_
  refine bI_c fun r8 h2 => ?_
  refine (s_icmp_eq 1187 561 mc_247 dL_law_558 rfl rfl).trans ?_
  refine ite_c ?_ ?_
  · skip
    rfl
  · skip
    refine (s_iconst 562 0 mc_247 dL_law_561 rfl (by decide)).trans ?_
    exact s_zret0 mc_247 dL_law_562 mt_247
theorem b_247_563 {X : Ctx} {d : Nat} (x0 : Nat) (x1 : Nat) (x2 : Nat) (x3 : Int32)  (h : Hp) : sem (X, K X d) 247 563 [some (.ref x0), some (.ref x1), some (.ref x2), some (.int x3)] [] h = aI X h x0 (x3 + 1) fun g1 => aI X h x0 (x3 + 2) fun g2 => aI X h x0 (x3 + 3) fun g3 => gd (hS h x1 = (11, 0)) (bI (K X d 108 [.ref x1, .int g1, .int g2, .int g3] h) fun r4 h1 => aI X h1 x0 (x3 + 1) fun g5 => aI X h1 x0 (x3 + 2) fun g6 => aI X h1 x0 (x3 + 3) fun g7 => gd (hS h1 x2 = (12, 0)) (bI (K X d 199 [.ref x2, .int g5, .int g6, .int g7] h1) fun r8 h2 => if r4 = r8 then sem (X, K X d) 247 1187 [some (.ref x0), some (.ref x1), some (.ref x2), some (.int x3)] [] h2 else some (some (.int 0), h2))) := by
  refine (s_aload_n 564 mc_247 dL_law_563 rfl rfl rfl).trans ?_
  refine (s_aload_n 565 mc_247 dL_law_564 rfl rfl rfl).trans ?_
  refine (s_iload_n 566 mc_247 dL_law_565 rfl rfl rfl).trans ?_
  refine (s_iconst 567 1 mc_247 dL_law_566 rfl (by decide)).trans ?_
  refine (s_iadd 568 mc_247 dL_law_567 rfl).trans ?_
  refine (s_iaload 569 mc_247 dL_law_568 rfl).trans ?_
  refine aI_c fun g1 => ?_
  refine (s_aload_n 570 mc_247 dL_law_569 rfl rfl rfl).trans ?_
  refine (s_iload_n 571 mc_247 dL_law_570 rfl rfl rfl).trans ?_
  refine (s_iconst 572 2 mc_247 dL_law_571 rfl (by decide)).trans ?_
  refine (s_iadd 573 mc_247 dL_law_572 rfl).trans ?_
  refine (s_iaload 574 mc_247 dL_law_573 rfl).trans ?_
  refine aI_c fun g2 => ?_
  refine (s_aload_n 575 mc_247 dL_law_574 rfl rfl rfl).trans ?_
  refine (s_iload_n 576 mc_247 dL_law_575 rfl rfl rfl).trans ?_
  refine (s_iconst 577 3 mc_247 dL_law_576 rfl (by decide)).trans ?_
  refine (s_iadd 578 mc_247 dL_law_577 rfl).trans ?_
  refine (s_iaload 579 mc_247 dL_law_578 rfl).trans ?_
  refine aI_c fun g3 => ?_
  refine (s_iviI 582 mc_247 dL_law_579 rfl mo_247 mm_12_58 (by decide) ms_108 mi_108 mr_108 ma_108 mo_108 (by decide) (Nat.le_of_ble_eq_true rfl) rfl rfl (Nat.le_of_ble_eq_true rfl)).trans ?_
  refine gd_c ?_
  refine bI_c fun r4 h1 => ?_
  refine (s_aload_n 583 mc_247 dL_law_582 rfl rfl rfl).trans ?_
  refine (s_aload_n 584 mc_247 dL_law_583 rfl rfl rfl).trans ?_
  refine (s_iload_n 585 mc_247 dL_law_584 rfl rfl rfl).trans ?_
  refine (s_iconst 586 1 mc_247 dL_law_585 rfl (by decide)).trans ?_
  refine (s_iadd 587 mc_247 dL_law_586 rfl).trans ?_
  refine (s_iaload 588 mc_247 dL_law_587 rfl).trans ?_
  refine aI_c fun g5 => ?_
  refine (s_aload_n 589 mc_247 dL_law_588 rfl rfl rfl).trans ?_
  refine (s_iload_n 590 mc_247 dL_law_589 rfl rfl rfl).trans ?_
  refine (s_iconst 591 2 mc_247 dL_law_590 rfl (by decide)).trans ?_
  refine (s_iadd 592 mc_247 dL_law_591 rfl).trans ?_
  refine (s_iaload 593 mc_247 dL_law_592 rfl).trans ?_
  refine aI_c fun g6 => ?_
  refine (s_aload_n 594 mc_247 dL_law_593 rfl rfl rfl).trans ?_
  refine (s_iload_n 595 mc_247 dL_law_594 rfl rfl rfl).trans ?_
  refine (s_iconst 596 3 mc_247 dL_law_595 rfl (by decide)).trans ?_
  refine (s_iadd 597 mc_247 dL_law_596 rfl).trans ?_
  refine (s_iaload 598 mc_247 dL_law_597 rfl).trans ?_
  refine aI_c fun g7 => ?_
  refine (s_iviI 601 mc_247 dL_law_598 rfl mo_247 mm_12_61 (by decide) ms_199 mi_199 mr_199 ma_199 mo_199 (by decide) (Nat.le_of_ble_eq_true rfl) rfl rfl (Nat.le_of_ble_eq_true rfl)).trans ?_
  refine gd_c ?_
  refine bI_c fun r8 h2 => ?_
  refine (s_icmp_eq 1187 604 mc_247 dL_law_601 rfl rfl).trans ?_
  refine ite_c ?_ ?_
  · skip
    rfl
  · skip
    refine (s_iconst 605 0 mc_247 dL_law_604 rfl (by decide)).trans ?_
    exact s_zret0 mc_247 dL_law_605 mt_247
theorem b_247_606 {X : Ctx} {d : Nat} (x0 : Nat) (x1 : Nat) (x2 : Nat) (x3 : Int32)  (h : Hp) : sem (X, K X d) 247 606 [some (.ref x0), some (.ref x1), some (.ref x2), some (.int x3)] [] h = aI X h x0 (x3 + 1) fun g1 => aI X h x0 (x3 + 2) fun g2 => gd (hS h x1 = (11, 0)) (bJ (K X d 109 [.ref x1, .int g1, .int g2] h) fun r3 h1 => aI X h1 x0 (x3 + 1) fun g4 => aI X h1 x0 (x3 + 2) fun g5 => gd (hS h1 x2 = (12, 0)) (bJ (K X d 201 [.ref x2, .int g4, .int g5] h1) fun r6 h2 => if (lg_cmp r3 r6) = 0 then sem (X, K X d) 247 1187 [some (.ref x0), some (.ref x1), some (.ref x2), some (.int x3)] [] h2 else some (some (.int 0), h2))) := by
  refine (s_aload_n 607 mc_247 dL_law_606 rfl rfl rfl).trans ?_
  refine (s_aload_n 608 mc_247 dL_law_607 rfl rfl rfl).trans ?_
  refine (s_iload_n 609 mc_247 dL_law_608 rfl rfl rfl).trans ?_
  refine (s_iconst 610 1 mc_247 dL_law_609 rfl (by decide)).trans ?_
  refine (s_iadd 611 mc_247 dL_law_610 rfl).trans ?_
  refine (s_iaload 612 mc_247 dL_law_611 rfl).trans ?_
  refine aI_c fun g1 => ?_
  refine (s_aload_n 613 mc_247 dL_law_612 rfl rfl rfl).trans ?_
  refine (s_iload_n 614 mc_247 dL_law_613 rfl rfl rfl).trans ?_
  refine (s_iconst 615 2 mc_247 dL_law_614 rfl (by decide)).trans ?_
  refine (s_iadd 616 mc_247 dL_law_615 rfl).trans ?_
  refine (s_iaload 617 mc_247 dL_law_616 rfl).trans ?_
  refine aI_c fun g2 => ?_
  refine (s_iviJ 620 mc_247 dL_law_617 rfl mo_247 mm_12_62 (by decide) ms_109 mi_109 mr_109 ma_109 mo_109 (by decide) (Nat.le_of_ble_eq_true rfl) rfl rfl (Nat.le_of_ble_eq_true rfl)).trans ?_
  refine gd_c ?_
  refine bJ_c fun r3 h1 => ?_
  refine (s_aload_n 621 mc_247 dL_law_620 rfl rfl rfl).trans ?_
  refine (s_aload_n 622 mc_247 dL_law_621 rfl rfl rfl).trans ?_
  refine (s_iload_n 623 mc_247 dL_law_622 rfl rfl rfl).trans ?_
  refine (s_iconst 624 1 mc_247 dL_law_623 rfl (by decide)).trans ?_
  refine (s_iadd 625 mc_247 dL_law_624 rfl).trans ?_
  refine (s_iaload 626 mc_247 dL_law_625 rfl).trans ?_
  refine aI_c fun g4 => ?_
  refine (s_aload_n 627 mc_247 dL_law_626 rfl rfl rfl).trans ?_
  refine (s_iload_n 628 mc_247 dL_law_627 rfl rfl rfl).trans ?_
  refine (s_iconst 629 2 mc_247 dL_law_628 rfl (by decide)).trans ?_
  refine (s_iadd 630 mc_247 dL_law_629 rfl).trans ?_
  refine (s_iaload 631 mc_247 dL_law_630 rfl).trans ?_
  refine aI_c fun g5 => ?_
  refine (s_iviJ 634 mc_247 dL_law_631 rfl mo_247 mm_12_66 (by decide) ms_201 mi_201 mr_201 ma_201 mo_201 (by decide) (Nat.le_of_ble_eq_true rfl) rfl rfl (Nat.le_of_ble_eq_true rfl)).trans ?_
  refine gd_c ?_
  refine bJ_c fun r6 h2 => ?_
  refine (s_lcmp 635 mc_247 dL_law_634 rfl).trans ?_
  refine (s_if_eq 1187 638 mc_247 dL_law_635 rfl rfl).trans ?_
  refine ite_c ?_ ?_
  · skip
    rfl
  · skip
    refine (s_iconst 639 0 mc_247 dL_law_638 rfl (by decide)).trans ?_
    exact s_zret0 mc_247 dL_law_639 mt_247
theorem b_247_640 {X : Ctx} {d : Nat} (x0 : Nat) (x1 : Nat) (x2 : Nat) (x3 : Int32)  (h : Hp) : sem (X, K X d) 247 640 [some (.ref x0), some (.ref x1), some (.ref x2), some (.int x3)] [] h = aI X h x0 (x3 + 1) fun g1 => aI X h x0 (x3 + 2) fun g2 => aI X h x0 (x3 + 3) fun g3 => aI X h x0 (x3 + 4) fun g4 => gd (hS h x1 = (11, 0)) (bJ (K X d 110 [.ref x1, .int g1, .int g2, .int g3, .int g4] h) fun r5 h1 => aI X h1 x0 (x3 + 1) fun g6 => aI X h1 x0 (x3 + 2) fun g7 => aI X h1 x0 (x3 + 3) fun g8 => aI X h1 x0 (x3 + 4) fun g9 => gd (hS h1 x2 = (12, 0)) (bJ (K X d 214 [.ref x2, .int g6, .int g7, .int g8, .int g9] h1) fun r10 h2 => if (lg_cmp r5 r10) = 0 then sem (X, K X d) 247 1187 [some (.ref x0), some (.ref x1), some (.ref x2), some (.int x3)] [] h2 else some (some (.int 0), h2))) := by
  refine (s_aload_n 641 mc_247 dL_law_640 rfl rfl rfl).trans ?_
  refine (s_aload_n 642 mc_247 dL_law_641 rfl rfl rfl).trans ?_
  refine (s_iload_n 643 mc_247 dL_law_642 rfl rfl rfl).trans ?_
  refine (s_iconst 644 1 mc_247 dL_law_643 rfl (by decide)).trans ?_
  refine (s_iadd 645 mc_247 dL_law_644 rfl).trans ?_
  refine (s_iaload 646 mc_247 dL_law_645 rfl).trans ?_
  refine aI_c fun g1 => ?_
  refine (s_aload_n 647 mc_247 dL_law_646 rfl rfl rfl).trans ?_
  refine (s_iload_n 648 mc_247 dL_law_647 rfl rfl rfl).trans ?_
  refine (s_iconst 649 2 mc_247 dL_law_648 rfl (by decide)).trans ?_
  refine (s_iadd 650 mc_247 dL_law_649 rfl).trans ?_
  refine (s_iaload 651 mc_247 dL_law_650 rfl).trans ?_
  refine aI_c fun g2 => ?_
  refine (s_aload_n 652 mc_247 dL_law_651 rfl rfl rfl).trans ?_
  refine (s_iload_n 653 mc_247 dL_law_652 rfl rfl rfl).trans ?_
  refine (s_iconst 654 3 mc_247 dL_law_653 rfl (by decide)).trans ?_
  refine (s_iadd 655 mc_247 dL_law_654 rfl).trans ?_
  refine (s_iaload 656 mc_247 dL_law_655 rfl).trans ?_
  refine aI_c fun g3 => ?_
  refine (s_aload_n 657 mc_247 dL_law_656 rfl rfl rfl).trans ?_
  refine (s_iload_n 658 mc_247 dL_law_657 rfl rfl rfl).trans ?_
  refine (s_iconst 659 4 mc_247 dL_law_658 rfl (by decide)).trans ?_
  refine (s_iadd 660 mc_247 dL_law_659 rfl).trans ?_
  refine (s_iaload 661 mc_247 dL_law_660 rfl).trans ?_
  refine aI_c fun g4 => ?_
  refine (s_iviJ 664 mc_247 dL_law_661 rfl mo_247 mm_12_67 (by decide) ms_110 mi_110 mr_110 ma_110 mo_110 (by decide) (Nat.le_of_ble_eq_true rfl) rfl rfl (Nat.le_of_ble_eq_true rfl)).trans ?_
  refine gd_c ?_
  refine bJ_c fun r5 h1 => ?_
  refine (s_aload_n 665 mc_247 dL_law_664 rfl rfl rfl).trans ?_
  refine (s_aload_n 666 mc_247 dL_law_665 rfl rfl rfl).trans ?_
  refine (s_iload_n 667 mc_247 dL_law_666 rfl rfl rfl).trans ?_
  refine (s_iconst 668 1 mc_247 dL_law_667 rfl (by decide)).trans ?_
  refine (s_iadd 669 mc_247 dL_law_668 rfl).trans ?_
  refine (s_iaload 670 mc_247 dL_law_669 rfl).trans ?_
  refine aI_c fun g6 => ?_
  refine (s_aload_n 671 mc_247 dL_law_670 rfl rfl rfl).trans ?_
  refine (s_iload_n 672 mc_247 dL_law_671 rfl rfl rfl).trans ?_
  refine (s_iconst 673 2 mc_247 dL_law_672 rfl (by decide)).trans ?_
  refine (s_iadd 674 mc_247 dL_law_673 rfl).trans ?_
  refine (s_iaload 675 mc_247 dL_law_674 rfl).trans ?_
  refine aI_c fun g7 => ?_
  refine (s_aload_n 676 mc_247 dL_law_675 rfl rfl rfl).trans ?_
  refine (s_iload_n 677 mc_247 dL_law_676 rfl rfl rfl).trans ?_
  refine (s_iconst 678 3 mc_247 dL_law_677 rfl (by decide)).trans ?_
  refine (s_iadd 679 mc_247 dL_law_678 rfl).trans ?_
  refine (s_iaload 680 mc_247 dL_law_679 rfl).trans ?_
  refine aI_c fun g8 => ?_
  refine (s_aload_n 681 mc_247 dL_law_680 rfl rfl rfl).trans ?_
  refine (s_iload_n 682 mc_247 dL_law_681 rfl rfl rfl).trans ?_
  refine (s_iconst 683 4 mc_247 dL_law_682 rfl (by decide)).trans ?_
  refine (s_iadd 684 mc_247 dL_law_683 rfl).trans ?_
  refine (s_iaload 685 mc_247 dL_law_684 rfl).trans ?_
  refine aI_c fun g9 => ?_
  refine (s_iviJ 688 mc_247 dL_law_685 rfl mo_247 mm_12_71 (by decide) ms_214 mi_214 mr_214 ma_214 mo_214 (by decide) (Nat.le_of_ble_eq_true rfl) rfl rfl (Nat.le_of_ble_eq_true rfl)).trans ?_
  refine gd_c ?_
  refine bJ_c fun r10 h2 => ?_
  refine (s_lcmp 689 mc_247 dL_law_688 rfl).trans ?_
  refine (s_if_eq 1187 692 mc_247 dL_law_689 rfl rfl).trans ?_
  refine ite_c ?_ ?_
  · skip
    rfl
  · skip
    refine (s_iconst 693 0 mc_247 dL_law_692 rfl (by decide)).trans ?_
    exact s_zret0 mc_247 dL_law_693 mt_247
theorem b_247_694 {X : Ctx} {d : Nat} (x0 : Nat) (x1 : Nat) (x2 : Nat) (x3 : Int32)  (h : Hp) : sem (X, K X d) 247 694 [some (.ref x0), some (.ref x1), some (.ref x2), some (.int x3)] [] h = aI X h x0 (x3 + 1) fun g1 => aI X h x0 (x3 + 2) fun g2 => gd (hS h x1 = (11, 0)) (bJ (K X d 111 [.ref x1, .int g1, .int g2] h) fun r3 h1 => aI X h1 x0 (x3 + 1) fun g4 => aI X h1 x0 (x3 + 2) fun g5 => gd (hS h1 x2 = (12, 0)) (bJ (K X d 216 [.ref x2, .int g4, .int g5] h1) fun r6 h2 => if (lg_cmp r3 r6) = 0 then sem (X, K X d) 247 1187 [some (.ref x0), some (.ref x1), some (.ref x2), some (.int x3)] [] h2 else some (some (.int 0), h2))) := by
  refine (s_aload_n 695 mc_247 dL_law_694 rfl rfl rfl).trans ?_
  refine (s_aload_n 696 mc_247 dL_law_695 rfl rfl rfl).trans ?_
  refine (s_iload_n 697 mc_247 dL_law_696 rfl rfl rfl).trans ?_
  refine (s_iconst 698 1 mc_247 dL_law_697 rfl (by decide)).trans ?_
  refine (s_iadd 699 mc_247 dL_law_698 rfl).trans ?_
  refine (s_iaload 700 mc_247 dL_law_699 rfl).trans ?_
  refine aI_c fun g1 => ?_
  refine (s_aload_n 701 mc_247 dL_law_700 rfl rfl rfl).trans ?_
  refine (s_iload_n 702 mc_247 dL_law_701 rfl rfl rfl).trans ?_
  refine (s_iconst 703 2 mc_247 dL_law_702 rfl (by decide)).trans ?_
  refine (s_iadd 704 mc_247 dL_law_703 rfl).trans ?_
  refine (s_iaload 705 mc_247 dL_law_704 rfl).trans ?_
  refine aI_c fun g2 => ?_
  refine (s_iviJ 708 mc_247 dL_law_705 rfl mo_247 mm_12_72 (by decide) ms_111 mi_111 mr_111 ma_111 mo_111 (by decide) (Nat.le_of_ble_eq_true rfl) rfl rfl (Nat.le_of_ble_eq_true rfl)).trans ?_
  refine gd_c ?_
  refine bJ_c fun r3 h1 => ?_
  refine (s_aload_n 709 mc_247 dL_law_708 rfl rfl rfl).trans ?_
  refine (s_aload_n 710 mc_247 dL_law_709 rfl rfl rfl).trans ?_
  refine (s_iload_n 711 mc_247 dL_law_710 rfl rfl rfl).trans ?_
  refine (s_iconst 712 1 mc_247 dL_law_711 rfl (by decide)).trans ?_
  refine (s_iadd 713 mc_247 dL_law_712 rfl).trans ?_
  refine (s_iaload 714 mc_247 dL_law_713 rfl).trans ?_
  refine aI_c fun g4 => ?_
  refine (s_aload_n 715 mc_247 dL_law_714 rfl rfl rfl).trans ?_
  refine (s_iload_n 716 mc_247 dL_law_715 rfl rfl rfl).trans ?_
  refine (s_iconst 717 2 mc_247 dL_law_716 rfl (by decide)).trans ?_
  refine (s_iadd 718 mc_247 dL_law_717 rfl).trans ?_
  refine (s_iaload 719 mc_247 dL_law_718 rfl).trans ?_
  refine aI_c fun g5 => ?_
  refine (s_iviJ 722 mc_247 dL_law_719 rfl mo_247 mm_12_75 (by decide) ms_216 mi_216 mr_216 ma_216 mo_216 (by decide) (Nat.le_of_ble_eq_true rfl) rfl rfl (Nat.le_of_ble_eq_true rfl)).trans ?_
  refine gd_c ?_
  refine bJ_c fun r6 h2 => ?_
  refine (s_lcmp 723 mc_247 dL_law_722 rfl).trans ?_
  refine (s_if_eq 1187 726 mc_247 dL_law_723 rfl rfl).trans ?_
  refine ite_c ?_ ?_
  · skip
    rfl
  · skip
    refine (s_iconst 727 0 mc_247 dL_law_726 rfl (by decide)).trans ?_
    exact s_zret0 mc_247 dL_law_727 mt_247
theorem b_247_728 {X : Ctx} {d : Nat} (x0 : Nat) (x1 : Nat) (x2 : Nat) (x3 : Int32)  (h : Hp) : sem (X, K X d) 247 728 [some (.ref x0), some (.ref x1), some (.ref x2), some (.int x3)] [] h = aI X h x0 (x3 + 1) fun g1 => aI X h x0 (x3 + 2) fun g2 => aI X h x0 (x3 + 3) fun g3 => aI X h x0 (x3 + 4) fun g4 => gd (hS h x1 = (11, 0)) (bJ (K X d 113 [.ref x1, .int g1, .int g2, .int g3, .int g4] h) fun r5 h1 => aI X h1 x0 (x3 + 1) fun g6 => aI X h1 x0 (x3 + 2) fun g7 => aI X h1 x0 (x3 + 3) fun g8 => aI X h1 x0 (x3 + 4) fun g9 => gd (hS h1 x2 = (12, 0)) (bJ (K X d 217 [.ref x2, .int g6, .int g7, .int g8, .int g9] h1) fun r10 h2 => if (lg_cmp r5 r10) = 0 then sem (X, K X d) 247 1187 [some (.ref x0), some (.ref x1), some (.ref x2), some (.int x3)] [] h2 else some (some (.int 0), h2))) := by
  refine (s_aload_n 729 mc_247 dL_law_728 rfl rfl rfl).trans ?_
  refine (s_aload_n 730 mc_247 dL_law_729 rfl rfl rfl).trans ?_
  refine (s_iload_n 731 mc_247 dL_law_730 rfl rfl rfl).trans ?_
  refine (s_iconst 732 1 mc_247 dL_law_731 rfl (by decide)).trans ?_
  refine (s_iadd 733 mc_247 dL_law_732 rfl).trans ?_
  refine (s_iaload 734 mc_247 dL_law_733 rfl).trans ?_
  refine aI_c fun g1 => ?_
  refine (s_aload_n 735 mc_247 dL_law_734 rfl rfl rfl).trans ?_
  refine (s_iload_n 736 mc_247 dL_law_735 rfl rfl rfl).trans ?_
  refine (s_iconst 737 2 mc_247 dL_law_736 rfl (by decide)).trans ?_
  refine (s_iadd 738 mc_247 dL_law_737 rfl).trans ?_
  refine (s_iaload 739 mc_247 dL_law_738 rfl).trans ?_
  refine aI_c fun g2 => ?_
  refine (s_aload_n 740 mc_247 dL_law_739 rfl rfl rfl).trans ?_
  refine (s_iload_n 741 mc_247 dL_law_740 rfl rfl rfl).trans ?_
  refine (s_iconst 742 3 mc_247 dL_law_741 rfl (by decide)).trans ?_
  refine (s_iadd 743 mc_247 dL_law_742 rfl).trans ?_
  refine (s_iaload 744 mc_247 dL_law_743 rfl).trans ?_
  refine aI_c fun g3 => ?_
  refine (s_aload_n 745 mc_247 dL_law_744 rfl rfl rfl).trans ?_
  refine (s_iload_n 746 mc_247 dL_law_745 rfl rfl rfl).trans ?_
  refine (s_iconst 747 4 mc_247 dL_law_746 rfl (by decide)).trans ?_
  refine (s_iadd 748 mc_247 dL_law_747 rfl).trans ?_
  refine (s_iaload 749 mc_247 dL_law_748 rfl).trans ?_
  refine aI_c fun g4 => ?_
  refine (s_iviJ 752 mc_247 dL_law_749 rfl mo_247 mm_12_76 (by decide) ms_113 mi_113 mr_113 ma_113 mo_113 (by decide) (Nat.le_of_ble_eq_true rfl) rfl rfl (Nat.le_of_ble_eq_true rfl)).trans ?_
  refine gd_c ?_
  refine bJ_c fun r5 h1 => ?_
  refine (s_aload_n 753 mc_247 dL_law_752 rfl rfl rfl).trans ?_
  refine (s_aload_n 754 mc_247 dL_law_753 rfl rfl rfl).trans ?_
  refine (s_iload_n 755 mc_247 dL_law_754 rfl rfl rfl).trans ?_
  refine (s_iconst 756 1 mc_247 dL_law_755 rfl (by decide)).trans ?_
  refine (s_iadd 757 mc_247 dL_law_756 rfl).trans ?_
  refine (s_iaload 758 mc_247 dL_law_757 rfl).trans ?_
  refine aI_c fun g6 => ?_
  refine (s_aload_n 759 mc_247 dL_law_758 rfl rfl rfl).trans ?_
  refine (s_iload_n 760 mc_247 dL_law_759 rfl rfl rfl).trans ?_
  refine (s_iconst 761 2 mc_247 dL_law_760 rfl (by decide)).trans ?_
  refine (s_iadd 762 mc_247 dL_law_761 rfl).trans ?_
  refine (s_iaload 763 mc_247 dL_law_762 rfl).trans ?_
  refine aI_c fun g7 => ?_
  refine (s_aload_n 764 mc_247 dL_law_763 rfl rfl rfl).trans ?_
  refine (s_iload_n 765 mc_247 dL_law_764 rfl rfl rfl).trans ?_
  refine (s_iconst 766 3 mc_247 dL_law_765 rfl (by decide)).trans ?_
  refine (s_iadd 767 mc_247 dL_law_766 rfl).trans ?_
  refine (s_iaload 768 mc_247 dL_law_767 rfl).trans ?_
  refine aI_c fun g8 => ?_
  refine (s_aload_n 769 mc_247 dL_law_768 rfl rfl rfl).trans ?_
  refine (s_iload_n 770 mc_247 dL_law_769 rfl rfl rfl).trans ?_
  refine (s_iconst 771 4 mc_247 dL_law_770 rfl (by decide)).trans ?_
  refine (s_iadd 772 mc_247 dL_law_771 rfl).trans ?_
  refine (s_iaload 773 mc_247 dL_law_772 rfl).trans ?_
  refine aI_c fun g9 => ?_
  refine (s_iviJ 776 mc_247 dL_law_773 rfl mo_247 mm_12_79 (by decide) ms_217 mi_217 mr_217 ma_217 mo_217 (by decide) (Nat.le_of_ble_eq_true rfl) rfl rfl (Nat.le_of_ble_eq_true rfl)).trans ?_
  refine gd_c ?_
  refine bJ_c fun r10 h2 => ?_
  refine (s_lcmp 777 mc_247 dL_law_776 rfl).trans ?_
  refine (s_if_eq 1187 780 mc_247 dL_law_777 rfl rfl).trans ?_
  refine ite_c ?_ ?_
  · skip
    rfl
  · skip
    refine (s_iconst 781 0 mc_247 dL_law_780 rfl (by decide)).trans ?_
    exact s_zret0 mc_247 dL_law_781 mt_247
theorem b_247_782 {X : Ctx} {d : Nat} (x0 : Nat) (x1 : Nat) (x2 : Nat) (x3 : Int32)  (h : Hp) : sem (X, K X d) 247 782 [some (.ref x0), some (.ref x1), some (.ref x2), some (.int x3)] [] h = aI X h x0 (x3 + 1) fun g1 => aI X h x0 (x3 + 2) fun g2 => gd (hS h x1 = (11, 0)) (bI (K X d 116 [.ref x1, .int g1, .int g2] h) fun r3 h1 => aI X h1 x0 (x3 + 1) fun g4 => aI X h1 x0 (x3 + 2) fun g5 => gd (hS h1 x2 = (12, 0)) (bI (K X d 218 [.ref x2, .int g4, .int g5] h1) fun r6 h2 => if r3 = r6 then sem (X, K X d) 247 1187 [some (.ref x0), some (.ref x1), some (.ref x2), some (.int x3)] [] h2 else some (some (.int 0), h2))) := by
  refine (s_aload_n 783 mc_247 dL_law_782 rfl rfl rfl).trans ?_
  refine (s_aload_n 784 mc_247 dL_law_783 rfl rfl rfl).trans ?_
  refine (s_iload_n 785 mc_247 dL_law_784 rfl rfl rfl).trans ?_
  refine (s_iconst 786 1 mc_247 dL_law_785 rfl (by decide)).trans ?_
  refine (s_iadd 787 mc_247 dL_law_786 rfl).trans ?_
  refine (s_iaload 788 mc_247 dL_law_787 rfl).trans ?_
  refine aI_c fun g1 => ?_
  refine (s_aload_n 789 mc_247 dL_law_788 rfl rfl rfl).trans ?_
  refine (s_iload_n 790 mc_247 dL_law_789 rfl rfl rfl).trans ?_
  refine (s_iconst 791 2 mc_247 dL_law_790 rfl (by decide)).trans ?_
  refine (s_iadd 792 mc_247 dL_law_791 rfl).trans ?_
  refine (s_iaload 793 mc_247 dL_law_792 rfl).trans ?_
  refine aI_c fun g2 => ?_
  refine (s_iviI 796 mc_247 dL_law_793 rfl mo_247 mm_12_80 (by decide) ms_116 mi_116 mr_116 ma_116 mo_116 (by decide) (Nat.le_of_ble_eq_true rfl) rfl rfl (Nat.le_of_ble_eq_true rfl)).trans ?_
  refine gd_c ?_
  refine bI_c fun r3 h1 => ?_
  refine (s_aload_n 797 mc_247 dL_law_796 rfl rfl rfl).trans ?_
  refine (s_aload_n 798 mc_247 dL_law_797 rfl rfl rfl).trans ?_
  refine (s_iload_n 799 mc_247 dL_law_798 rfl rfl rfl).trans ?_
  refine (s_iconst 800 1 mc_247 dL_law_799 rfl (by decide)).trans ?_
  refine (s_iadd 801 mc_247 dL_law_800 rfl).trans ?_
  refine (s_iaload 802 mc_247 dL_law_801 rfl).trans ?_
  refine aI_c fun g4 => ?_
  refine (s_aload_n 803 mc_247 dL_law_802 rfl rfl rfl).trans ?_
  refine (s_iload_n 804 mc_247 dL_law_803 rfl rfl rfl).trans ?_
  refine (s_iconst 805 2 mc_247 dL_law_804 rfl (by decide)).trans ?_
  refine (s_iadd 806 mc_247 dL_law_805 rfl).trans ?_
  refine (s_iaload 807 mc_247 dL_law_806 rfl).trans ?_
  refine aI_c fun g5 => ?_
  refine (s_iviI 810 mc_247 dL_law_807 rfl mo_247 mm_12_83 (by decide) ms_218 mi_218 mr_218 ma_218 mo_218 (by decide) (Nat.le_of_ble_eq_true rfl) rfl rfl (Nat.le_of_ble_eq_true rfl)).trans ?_
  refine gd_c ?_
  refine bI_c fun r6 h2 => ?_
  refine (s_icmp_eq 1187 813 mc_247 dL_law_810 rfl rfl).trans ?_
  refine ite_c ?_ ?_
  · skip
    rfl
  · skip
    refine (s_iconst 814 0 mc_247 dL_law_813 rfl (by decide)).trans ?_
    exact s_zret0 mc_247 dL_law_814 mt_247
theorem b_247_815 {X : Ctx} {d : Nat} (x0 : Nat) (x1 : Nat) (x2 : Nat) (x3 : Int32)  (h : Hp) : sem (X, K X d) 247 815 [some (.ref x0), some (.ref x1), some (.ref x2), some (.int x3)] [] h = aI X h x0 (x3 + 1) fun g1 => aI X h x0 (x3 + 2) fun g2 => gd (hS h x1 = (11, 0)) (bI (K X d 118 [.ref x1, .int g1, .int g2] h) fun r3 h1 => aI X h1 x0 (x3 + 1) fun g4 => aI X h1 x0 (x3 + 2) fun g5 => gd (hS h1 x2 = (12, 0)) (bI (K X d 219 [.ref x2, .int g4, .int g5] h1) fun r6 h2 => if r3 = r6 then sem (X, K X d) 247 1187 [some (.ref x0), some (.ref x1), some (.ref x2), some (.int x3)] [] h2 else some (some (.int 0), h2))) := by
  refine (s_aload_n 816 mc_247 dL_law_815 rfl rfl rfl).trans ?_
  refine (s_aload_n 817 mc_247 dL_law_816 rfl rfl rfl).trans ?_
  refine (s_iload_n 818 mc_247 dL_law_817 rfl rfl rfl).trans ?_
  refine (s_iconst 819 1 mc_247 dL_law_818 rfl (by decide)).trans ?_
  refine (s_iadd 820 mc_247 dL_law_819 rfl).trans ?_
  refine (s_iaload 821 mc_247 dL_law_820 rfl).trans ?_
  refine aI_c fun g1 => ?_
  refine (s_aload_n 822 mc_247 dL_law_821 rfl rfl rfl).trans ?_
  refine (s_iload_n 823 mc_247 dL_law_822 rfl rfl rfl).trans ?_
  refine (s_iconst 824 2 mc_247 dL_law_823 rfl (by decide)).trans ?_
  refine (s_iadd 825 mc_247 dL_law_824 rfl).trans ?_
  refine (s_iaload 826 mc_247 dL_law_825 rfl).trans ?_
  refine aI_c fun g2 => ?_
  refine (s_iviI 829 mc_247 dL_law_826 rfl mo_247 mm_12_84 (by decide) ms_118 mi_118 mr_118 ma_118 mo_118 (by decide) (Nat.le_of_ble_eq_true rfl) rfl rfl (Nat.le_of_ble_eq_true rfl)).trans ?_
  refine gd_c ?_
  refine bI_c fun r3 h1 => ?_
  refine (s_aload_n 830 mc_247 dL_law_829 rfl rfl rfl).trans ?_
  refine (s_aload_n 831 mc_247 dL_law_830 rfl rfl rfl).trans ?_
  refine (s_iload_n 832 mc_247 dL_law_831 rfl rfl rfl).trans ?_
  refine (s_iconst 833 1 mc_247 dL_law_832 rfl (by decide)).trans ?_
  refine (s_iadd 834 mc_247 dL_law_833 rfl).trans ?_
  refine (s_iaload 835 mc_247 dL_law_834 rfl).trans ?_
  refine aI_c fun g4 => ?_
  refine (s_aload_n 836 mc_247 dL_law_835 rfl rfl rfl).trans ?_
  refine (s_iload_n 837 mc_247 dL_law_836 rfl rfl rfl).trans ?_
  refine (s_iconst 838 2 mc_247 dL_law_837 rfl (by decide)).trans ?_
  refine (s_iadd 839 mc_247 dL_law_838 rfl).trans ?_
  refine (s_iaload 840 mc_247 dL_law_839 rfl).trans ?_
  refine aI_c fun g5 => ?_
  refine (s_iviI 843 mc_247 dL_law_840 rfl mo_247 mm_12_87 (by decide) ms_219 mi_219 mr_219 ma_219 mo_219 (by decide) (Nat.le_of_ble_eq_true rfl) rfl rfl (Nat.le_of_ble_eq_true rfl)).trans ?_
  refine gd_c ?_
  refine bI_c fun r6 h2 => ?_
  refine (s_icmp_eq 1187 846 mc_247 dL_law_843 rfl rfl).trans ?_
  refine ite_c ?_ ?_
  · skip
    rfl
  · skip
    refine (s_iconst 847 0 mc_247 dL_law_846 rfl (by decide)).trans ?_
    exact s_zret0 mc_247 dL_law_847 mt_247
theorem b_247_848 {X : Ctx} {d : Nat} (x0 : Nat) (x1 : Nat) (x2 : Nat) (x3 : Int32)  (h : Hp) : sem (X, K X d) 247 848 [some (.ref x0), some (.ref x1), some (.ref x2), some (.int x3)] [] h = aI X h x0 (x3 + 1) fun g1 => aI X h x0 (x3 + 2) fun g2 => gd (hS h x1 = (11, 0)) (bJ (K X d 119 [.ref x1, .int g1, .int g2] h) fun r3 h1 => aI X h1 x0 (x3 + 1) fun g4 => aI X h1 x0 (x3 + 2) fun g5 => gd (hS h1 x2 = (12, 0)) (bJ (K X d 221 [.ref x2, .int g4, .int g5] h1) fun r6 h2 => if (lg_cmp r3 r6) = 0 then sem (X, K X d) 247 1187 [some (.ref x0), some (.ref x1), some (.ref x2), some (.int x3)] [] h2 else some (some (.int 0), h2))) := by
  refine (s_aload_n 849 mc_247 dL_law_848 rfl rfl rfl).trans ?_
  refine (s_aload_n 850 mc_247 dL_law_849 rfl rfl rfl).trans ?_
  refine (s_iload_n 851 mc_247 dL_law_850 rfl rfl rfl).trans ?_
  refine (s_iconst 852 1 mc_247 dL_law_851 rfl (by decide)).trans ?_
  refine (s_iadd 853 mc_247 dL_law_852 rfl).trans ?_
  refine (s_iaload 854 mc_247 dL_law_853 rfl).trans ?_
  refine aI_c fun g1 => ?_
  refine (s_aload_n 855 mc_247 dL_law_854 rfl rfl rfl).trans ?_
  refine (s_iload_n 856 mc_247 dL_law_855 rfl rfl rfl).trans ?_
  refine (s_iconst 857 2 mc_247 dL_law_856 rfl (by decide)).trans ?_
  refine (s_iadd 858 mc_247 dL_law_857 rfl).trans ?_
  refine (s_iaload 859 mc_247 dL_law_858 rfl).trans ?_
  refine aI_c fun g2 => ?_
  refine (s_iviJ 862 mc_247 dL_law_859 rfl mo_247 mm_12_88 (by decide) ms_119 mi_119 mr_119 ma_119 mo_119 (by decide) (Nat.le_of_ble_eq_true rfl) rfl rfl (Nat.le_of_ble_eq_true rfl)).trans ?_
  refine gd_c ?_
  refine bJ_c fun r3 h1 => ?_
  refine (s_aload_n 863 mc_247 dL_law_862 rfl rfl rfl).trans ?_
  refine (s_aload_n 864 mc_247 dL_law_863 rfl rfl rfl).trans ?_
  refine (s_iload_n 865 mc_247 dL_law_864 rfl rfl rfl).trans ?_
  refine (s_iconst 866 1 mc_247 dL_law_865 rfl (by decide)).trans ?_
  refine (s_iadd 867 mc_247 dL_law_866 rfl).trans ?_
  refine (s_iaload 868 mc_247 dL_law_867 rfl).trans ?_
  refine aI_c fun g4 => ?_
  refine (s_aload_n 869 mc_247 dL_law_868 rfl rfl rfl).trans ?_
  refine (s_iload_n 870 mc_247 dL_law_869 rfl rfl rfl).trans ?_
  refine (s_iconst 871 2 mc_247 dL_law_870 rfl (by decide)).trans ?_
  refine (s_iadd 872 mc_247 dL_law_871 rfl).trans ?_
  refine (s_iaload 873 mc_247 dL_law_872 rfl).trans ?_
  refine aI_c fun g5 => ?_
  refine (s_iviJ 876 mc_247 dL_law_873 rfl mo_247 mm_12_91 (by decide) ms_221 mi_221 mr_221 ma_221 mo_221 (by decide) (Nat.le_of_ble_eq_true rfl) rfl rfl (Nat.le_of_ble_eq_true rfl)).trans ?_
  refine gd_c ?_
  refine bJ_c fun r6 h2 => ?_
  refine (s_lcmp 877 mc_247 dL_law_876 rfl).trans ?_
  refine (s_if_eq 1187 880 mc_247 dL_law_877 rfl rfl).trans ?_
  refine ite_c ?_ ?_
  · skip
    rfl
  · skip
    refine (s_iconst 881 0 mc_247 dL_law_880 rfl (by decide)).trans ?_
    exact s_zret0 mc_247 dL_law_881 mt_247
theorem b_247_882 {X : Ctx} {d : Nat} (x0 : Nat) (x1 : Nat) (x2 : Nat) (x3 : Int32)  (h : Hp) : sem (X, K X d) 247 882 [some (.ref x0), some (.ref x1), some (.ref x2), some (.int x3)] [] h = aI X h x0 (x3 + 1) fun g1 => aI X h x0 (x3 + 2) fun g2 => aI X h x0 (x3 + 3) fun g3 => gd (hS h x1 = (11, 0)) (bI (K X d 121 [.ref x1, .int g1, .int g2, .int g3] h) fun r4 h1 => aI X h1 x0 (x3 + 1) fun g5 => aI X h1 x0 (x3 + 2) fun g6 => aI X h1 x0 (x3 + 3) fun g7 => gd (hS h1 x2 = (12, 0)) (bI (K X d 222 [.ref x2, .int g5, .int g6, .int g7] h1) fun r8 h2 => if r4 = r8 then sem (X, K X d) 247 1187 [some (.ref x0), some (.ref x1), some (.ref x2), some (.int x3)] [] h2 else some (some (.int 0), h2))) := by
  refine (s_aload_n 883 mc_247 dL_law_882 rfl rfl rfl).trans ?_
  refine (s_aload_n 884 mc_247 dL_law_883 rfl rfl rfl).trans ?_
  refine (s_iload_n 885 mc_247 dL_law_884 rfl rfl rfl).trans ?_
  refine (s_iconst 886 1 mc_247 dL_law_885 rfl (by decide)).trans ?_
  refine (s_iadd 887 mc_247 dL_law_886 rfl).trans ?_
  refine (s_iaload 888 mc_247 dL_law_887 rfl).trans ?_
  refine aI_c fun g1 => ?_
  refine (s_aload_n 889 mc_247 dL_law_888 rfl rfl rfl).trans ?_
  refine (s_iload_n 890 mc_247 dL_law_889 rfl rfl rfl).trans ?_
  refine (s_iconst 891 2 mc_247 dL_law_890 rfl (by decide)).trans ?_
  refine (s_iadd 892 mc_247 dL_law_891 rfl).trans ?_
  refine (s_iaload 893 mc_247 dL_law_892 rfl).trans ?_
  refine aI_c fun g2 => ?_
  refine (s_aload_n 894 mc_247 dL_law_893 rfl rfl rfl).trans ?_
  refine (s_iload_n 895 mc_247 dL_law_894 rfl rfl rfl).trans ?_
  refine (s_iconst 896 3 mc_247 dL_law_895 rfl (by decide)).trans ?_
  refine (s_iadd 897 mc_247 dL_law_896 rfl).trans ?_
  refine (s_iaload 898 mc_247 dL_law_897 rfl).trans ?_
  refine aI_c fun g3 => ?_
  refine (s_iviI 901 mc_247 dL_law_898 rfl mo_247 mm_12_92 (by decide) ms_121 mi_121 mr_121 ma_121 mo_121 (by decide) (Nat.le_of_ble_eq_true rfl) rfl rfl (Nat.le_of_ble_eq_true rfl)).trans ?_
  refine gd_c ?_
  refine bI_c fun r4 h1 => ?_
  refine (s_aload_n 902 mc_247 dL_law_901 rfl rfl rfl).trans ?_
  refine (s_aload_n 903 mc_247 dL_law_902 rfl rfl rfl).trans ?_
  refine (s_iload_n 904 mc_247 dL_law_903 rfl rfl rfl).trans ?_
  refine (s_iconst 905 1 mc_247 dL_law_904 rfl (by decide)).trans ?_
  refine (s_iadd 906 mc_247 dL_law_905 rfl).trans ?_
  refine (s_iaload 907 mc_247 dL_law_906 rfl).trans ?_
  refine aI_c fun g5 => ?_
  refine (s_aload_n 908 mc_247 dL_law_907 rfl rfl rfl).trans ?_
  refine (s_iload_n 909 mc_247 dL_law_908 rfl rfl rfl).trans ?_
  refine (s_iconst 910 2 mc_247 dL_law_909 rfl (by decide)).trans ?_
  refine (s_iadd 911 mc_247 dL_law_910 rfl).trans ?_
  refine (s_iaload 912 mc_247 dL_law_911 rfl).trans ?_
  refine aI_c fun g6 => ?_
  refine (s_aload_n 913 mc_247 dL_law_912 rfl rfl rfl).trans ?_
  refine (s_iload_n 914 mc_247 dL_law_913 rfl rfl rfl).trans ?_
  refine (s_iconst 915 3 mc_247 dL_law_914 rfl (by decide)).trans ?_
  refine (s_iadd 916 mc_247 dL_law_915 rfl).trans ?_
  refine (s_iaload 917 mc_247 dL_law_916 rfl).trans ?_
  refine aI_c fun g7 => ?_
  refine (s_iviI 920 mc_247 dL_law_917 rfl mo_247 mm_12_95 (by decide) ms_222 mi_222 mr_222 ma_222 mo_222 (by decide) (Nat.le_of_ble_eq_true rfl) rfl rfl (Nat.le_of_ble_eq_true rfl)).trans ?_
  refine gd_c ?_
  refine bI_c fun r8 h2 => ?_
  refine (s_icmp_eq 1187 923 mc_247 dL_law_920 rfl rfl).trans ?_
  refine ite_c ?_ ?_
  · skip
    rfl
  · skip
    refine (s_iconst 924 0 mc_247 dL_law_923 rfl (by decide)).trans ?_
    exact s_zret0 mc_247 dL_law_924 mt_247
theorem b_247_925 {X : Ctx} {d : Nat} (x0 : Nat) (x1 : Nat) (x2 : Nat) (x3 : Int32)  (h : Hp) : sem (X, K X d) 247 925 [some (.ref x0), some (.ref x1), some (.ref x2), some (.int x3)] [] h = aI X h x0 (x3 + 1) fun g1 => gd (hS h x1 = (11, 0)) (bJ (K X d 122 [.ref x1, .int g1] h) fun r2 h1 => aI X h1 x0 (x3 + 1) fun g3 => gd (hS h1 x2 = (12, 0)) (bJ (K X d 225 [.ref x2, .int g3] h1) fun r4 h2 => if (lg_cmp r2 r4) = 0 then sem (X, K X d) 247 1187 [some (.ref x0), some (.ref x1), some (.ref x2), some (.int x3)] [] h2 else some (some (.int 0), h2))) := by
  refine (s_aload_n 926 mc_247 dL_law_925 rfl rfl rfl).trans ?_
  refine (s_aload_n 927 mc_247 dL_law_926 rfl rfl rfl).trans ?_
  refine (s_iload_n 928 mc_247 dL_law_927 rfl rfl rfl).trans ?_
  refine (s_iconst 929 1 mc_247 dL_law_928 rfl (by decide)).trans ?_
  refine (s_iadd 930 mc_247 dL_law_929 rfl).trans ?_
  refine (s_iaload 931 mc_247 dL_law_930 rfl).trans ?_
  refine aI_c fun g1 => ?_
  refine (s_iviJ 934 mc_247 dL_law_931 rfl mo_247 mm_12_96 (by decide) ms_122 mi_122 mr_122 ma_122 mo_122 (by decide) (Nat.le_of_ble_eq_true rfl) rfl rfl (Nat.le_of_ble_eq_true rfl)).trans ?_
  refine gd_c ?_
  refine bJ_c fun r2 h1 => ?_
  refine (s_aload_n 935 mc_247 dL_law_934 rfl rfl rfl).trans ?_
  refine (s_aload_n 936 mc_247 dL_law_935 rfl rfl rfl).trans ?_
  refine (s_iload_n 937 mc_247 dL_law_936 rfl rfl rfl).trans ?_
  refine (s_iconst 938 1 mc_247 dL_law_937 rfl (by decide)).trans ?_
  refine (s_iadd 939 mc_247 dL_law_938 rfl).trans ?_
  refine (s_iaload 940 mc_247 dL_law_939 rfl).trans ?_
  refine aI_c fun g3 => ?_
  refine (s_iviJ 943 mc_247 dL_law_940 rfl mo_247 mm_12_100 (by decide) ms_225 mi_225 mr_225 ma_225 mo_225 (by decide) (Nat.le_of_ble_eq_true rfl) rfl rfl (Nat.le_of_ble_eq_true rfl)).trans ?_
  refine gd_c ?_
  refine bJ_c fun r4 h2 => ?_
  refine (s_lcmp 944 mc_247 dL_law_943 rfl).trans ?_
  refine (s_if_eq 1187 947 mc_247 dL_law_944 rfl rfl).trans ?_
  refine ite_c ?_ ?_
  · skip
    rfl
  · skip
    refine (s_iconst 948 0 mc_247 dL_law_947 rfl (by decide)).trans ?_
    exact s_zret0 mc_247 dL_law_948 mt_247
theorem b_247_949 {X : Ctx} {d : Nat} (x0 : Nat) (x1 : Nat) (x2 : Nat) (x3 : Int32)  (h : Hp) : sem (X, K X d) 247 949 [some (.ref x0), some (.ref x1), some (.ref x2), some (.int x3)] [] h = aI X h x0 (x3 + 1) fun g1 => aI X h x0 (x3 + 2) fun g2 => aI X h x0 (x3 + 3) fun g3 => aI X h x0 (x3 + 4) fun g4 => gd (hS h x1 = (11, 0)) (bI (K X d 124 [.ref x1, .int g1, .int g2, .int g3, .int g4] h) fun r5 h1 => aI X h1 x0 (x3 + 1) fun g6 => aI X h1 x0 (x3 + 2) fun g7 => aI X h1 x0 (x3 + 3) fun g8 => aI X h1 x0 (x3 + 4) fun g9 => gd (hS h1 x2 = (12, 0)) (bI (K X d 226 [.ref x2, .int g6, .int g7, .int g8, .int g9] h1) fun r10 h2 => if r5 = r10 then sem (X, K X d) 247 1187 [some (.ref x0), some (.ref x1), some (.ref x2), some (.int x3)] [] h2 else some (some (.int 0), h2))) := by
  refine (s_aload_n 950 mc_247 dL_law_949 rfl rfl rfl).trans ?_
  refine (s_aload_n 951 mc_247 dL_law_950 rfl rfl rfl).trans ?_
  refine (s_iload_n 952 mc_247 dL_law_951 rfl rfl rfl).trans ?_
  refine (s_iconst 953 1 mc_247 dL_law_952 rfl (by decide)).trans ?_
  refine (s_iadd 954 mc_247 dL_law_953 rfl).trans ?_
  refine (s_iaload 955 mc_247 dL_law_954 rfl).trans ?_
  refine aI_c fun g1 => ?_
  refine (s_aload_n 956 mc_247 dL_law_955 rfl rfl rfl).trans ?_
  refine (s_iload_n 957 mc_247 dL_law_956 rfl rfl rfl).trans ?_
  refine (s_iconst 958 2 mc_247 dL_law_957 rfl (by decide)).trans ?_
  refine (s_iadd 959 mc_247 dL_law_958 rfl).trans ?_
  refine (s_iaload 960 mc_247 dL_law_959 rfl).trans ?_
  refine aI_c fun g2 => ?_
  refine (s_aload_n 961 mc_247 dL_law_960 rfl rfl rfl).trans ?_
  refine (s_iload_n 962 mc_247 dL_law_961 rfl rfl rfl).trans ?_
  refine (s_iconst 963 3 mc_247 dL_law_962 rfl (by decide)).trans ?_
  refine (s_iadd 964 mc_247 dL_law_963 rfl).trans ?_
  refine (s_iaload 965 mc_247 dL_law_964 rfl).trans ?_
  refine aI_c fun g3 => ?_
  refine (s_aload_n 966 mc_247 dL_law_965 rfl rfl rfl).trans ?_
  refine (s_iload_n 967 mc_247 dL_law_966 rfl rfl rfl).trans ?_
  refine (s_iconst 968 4 mc_247 dL_law_967 rfl (by decide)).trans ?_
  refine (s_iadd 969 mc_247 dL_law_968 rfl).trans ?_
  refine (s_iaload 970 mc_247 dL_law_969 rfl).trans ?_
  refine aI_c fun g4 => ?_
  refine (s_iviI 973 mc_247 dL_law_970 rfl mo_247 mm_12_101 (by decide) ms_124 mi_124 mr_124 ma_124 mo_124 (by decide) (Nat.le_of_ble_eq_true rfl) rfl rfl (Nat.le_of_ble_eq_true rfl)).trans ?_
  refine gd_c ?_
  refine bI_c fun r5 h1 => ?_
  refine (s_aload_n 974 mc_247 dL_law_973 rfl rfl rfl).trans ?_
  refine (s_aload_n 975 mc_247 dL_law_974 rfl rfl rfl).trans ?_
  refine (s_iload_n 976 mc_247 dL_law_975 rfl rfl rfl).trans ?_
  refine (s_iconst 977 1 mc_247 dL_law_976 rfl (by decide)).trans ?_
  refine (s_iadd 978 mc_247 dL_law_977 rfl).trans ?_
  refine (s_iaload 979 mc_247 dL_law_978 rfl).trans ?_
  refine aI_c fun g6 => ?_
  refine (s_aload_n 980 mc_247 dL_law_979 rfl rfl rfl).trans ?_
  refine (s_iload_n 981 mc_247 dL_law_980 rfl rfl rfl).trans ?_
  refine (s_iconst 982 2 mc_247 dL_law_981 rfl (by decide)).trans ?_
  refine (s_iadd 983 mc_247 dL_law_982 rfl).trans ?_
  refine (s_iaload 984 mc_247 dL_law_983 rfl).trans ?_
  refine aI_c fun g7 => ?_
  refine (s_aload_n 985 mc_247 dL_law_984 rfl rfl rfl).trans ?_
  refine (s_iload_n 986 mc_247 dL_law_985 rfl rfl rfl).trans ?_
  refine (s_iconst 987 3 mc_247 dL_law_986 rfl (by decide)).trans ?_
  refine (s_iadd 988 mc_247 dL_law_987 rfl).trans ?_
  refine (s_iaload 989 mc_247 dL_law_988 rfl).trans ?_
  refine aI_c fun g8 => ?_
  refine (s_aload_n 990 mc_247 dL_law_989 rfl rfl rfl).trans ?_
  refine (s_iload_n 991 mc_247 dL_law_990 rfl rfl rfl).trans ?_
  refine (s_iconst 992 4 mc_247 dL_law_991 rfl (by decide)).trans ?_
  refine (s_iadd 993 mc_247 dL_law_992 rfl).trans ?_
  refine (s_iaload 994 mc_247 dL_law_993 rfl).trans ?_
  refine aI_c fun g9 => ?_
  refine (s_iviI 997 mc_247 dL_law_994 rfl mo_247 mm_12_105 (by decide) ms_226 mi_226 mr_226 ma_226 mo_226 (by decide) (Nat.le_of_ble_eq_true rfl) rfl rfl (Nat.le_of_ble_eq_true rfl)).trans ?_
  refine gd_c ?_
  refine bI_c fun r10 h2 => ?_
  refine (s_icmp_eq 1187 1000 mc_247 dL_law_997 rfl rfl).trans ?_
  refine ite_c ?_ ?_
  · skip
    rfl
  · skip
    refine (s_iconst 1001 0 mc_247 dL_law_1000 rfl (by decide)).trans ?_
    exact s_zret0 mc_247 dL_law_1001 mt_247
theorem b_247_1002 {X : Ctx} {d : Nat} (v0 : Option Value) (x1 : Nat) (x2 : Nat) (v3 : Option Value)  (h : Hp) : sem (X, K X d) 247 1002 [v0, some (.ref x1), some (.ref x2), v3] [] h = gd (hS h x1 = (11, 0)) (bI (K X d 125 [.ref x1] h) fun r1 h1 => gd (hS h1 x2 = (12, 0)) (bI (K X d 228 [.ref x2] h1) fun r2 h2 => if r1 = r2 then sem (X, K X d) 247 1187 [v0, some (.ref x1), some (.ref x2), v3] [] h2 else some (some (.int 0), h2))) := by
  refine (s_aload_n 1003 mc_247 dL_law_1002 rfl rfl rfl).trans ?_
  refine (s_iviI 1006 mc_247 dL_law_1003 rfl mo_247 mm_12_106 (by decide) ms_125 mi_125 mr_125 ma_125 mo_125 (by decide) (Nat.le_of_ble_eq_true rfl) rfl rfl (Nat.le_of_ble_eq_true rfl)).trans ?_
  refine gd_c ?_
  refine bI_c fun r1 h1 => ?_
  refine (s_aload_n 1007 mc_247 dL_law_1006 rfl rfl rfl).trans ?_
  refine (s_iviI 1010 mc_247 dL_law_1007 rfl mo_247 mm_12_110 (by decide) ms_228 mi_228 mr_228 ma_228 mo_228 (by decide) (Nat.le_of_ble_eq_true rfl) rfl rfl (Nat.le_of_ble_eq_true rfl)).trans ?_
  refine gd_c ?_
  refine bI_c fun r2 h2 => ?_
  refine (s_icmp_eq 1187 1013 mc_247 dL_law_1010 rfl rfl).trans ?_
  refine ite_c ?_ ?_
  · skip
    rfl
  · skip
    refine (s_iconst 1014 0 mc_247 dL_law_1013 rfl (by decide)).trans ?_
    exact s_zret0 mc_247 dL_law_1014 mt_247
theorem b_247_1015 {X : Ctx} {d : Nat} (x0 : Nat) (x1 : Nat) (x2 : Nat) (x3 : Int32)  (h : Hp) : sem (X, K X d) 247 1015 [some (.ref x0), some (.ref x1), some (.ref x2), some (.int x3)] [] h = aI X h x0 (x3 + 1) fun g1 => aI X h x0 (x3 + 2) fun g2 => aI X h x0 (x3 + 3) fun g3 => aI X h x0 (x3 + 4) fun g4 => gd (hS h x1 = (11, 0)) (bI (K X d 130 [.ref x1, .int g1, .int g2, .int g3, .int g4] h) fun r5 h1 => aI X h1 x0 (x3 + 1) fun g6 => aI X h1 x0 (x3 + 2) fun g7 => aI X h1 x0 (x3 + 3) fun g8 => aI X h1 x0 (x3 + 4) fun g9 => gd (hS h1 x2 = (12, 0)) (bI (K X d 230 [.ref x2, .int g6, .int g7, .int g8, .int g9] h1) fun r10 h2 => if r5 = r10 then sem (X, K X d) 247 1187 [some (.ref x0), some (.ref x1), some (.ref x2), some (.int x3)] [] h2 else some (some (.int 0), h2))) := by
  refine (s_aload_n 1016 mc_247 dL_law_1015 rfl rfl rfl).trans ?_
  refine (s_aload_n 1017 mc_247 dL_law_1016 rfl rfl rfl).trans ?_
  refine (s_iload_n 1018 mc_247 dL_law_1017 rfl rfl rfl).trans ?_
  refine (s_iconst 1019 1 mc_247 dL_law_1018 rfl (by decide)).trans ?_
  refine (s_iadd 1020 mc_247 dL_law_1019 rfl).trans ?_
  refine (s_iaload 1021 mc_247 dL_law_1020 rfl).trans ?_
  refine aI_c fun g1 => ?_
  refine (s_aload_n 1022 mc_247 dL_law_1021 rfl rfl rfl).trans ?_
  refine (s_iload_n 1023 mc_247 dL_law_1022 rfl rfl rfl).trans ?_
  refine (s_iconst 1024 2 mc_247 dL_law_1023 rfl (by decide)).trans ?_
  refine (s_iadd 1025 mc_247 dL_law_1024 rfl).trans ?_
  refine (s_iaload 1026 mc_247 dL_law_1025 rfl).trans ?_
  refine aI_c fun g2 => ?_
  refine (s_aload_n 1027 mc_247 dL_law_1026 rfl rfl rfl).trans ?_
  refine (s_iload_n 1028 mc_247 dL_law_1027 rfl rfl rfl).trans ?_
  refine (s_iconst 1029 3 mc_247 dL_law_1028 rfl (by decide)).trans ?_
  refine (s_iadd 1030 mc_247 dL_law_1029 rfl).trans ?_
  refine (s_iaload 1031 mc_247 dL_law_1030 rfl).trans ?_
  refine aI_c fun g3 => ?_
  refine (s_aload_n 1032 mc_247 dL_law_1031 rfl rfl rfl).trans ?_
  refine (s_iload_n 1033 mc_247 dL_law_1032 rfl rfl rfl).trans ?_
  refine (s_iconst 1034 4 mc_247 dL_law_1033 rfl (by decide)).trans ?_
  refine (s_iadd 1035 mc_247 dL_law_1034 rfl).trans ?_
  refine (s_iaload 1036 mc_247 dL_law_1035 rfl).trans ?_
  refine aI_c fun g4 => ?_
  refine (s_iviI 1039 mc_247 dL_law_1036 rfl mo_247 mm_12_111 (by decide) ms_130 mi_130 mr_130 ma_130 mo_130 (by decide) (Nat.le_of_ble_eq_true rfl) rfl rfl (Nat.le_of_ble_eq_true rfl)).trans ?_
  refine gd_c ?_
  refine bI_c fun r5 h1 => ?_
  refine (s_aload_n 1040 mc_247 dL_law_1039 rfl rfl rfl).trans ?_
  refine (s_aload_n 1041 mc_247 dL_law_1040 rfl rfl rfl).trans ?_
  refine (s_iload_n 1042 mc_247 dL_law_1041 rfl rfl rfl).trans ?_
  refine (s_iconst 1043 1 mc_247 dL_law_1042 rfl (by decide)).trans ?_
  refine (s_iadd 1044 mc_247 dL_law_1043 rfl).trans ?_
  refine (s_iaload 1045 mc_247 dL_law_1044 rfl).trans ?_
  refine aI_c fun g6 => ?_
  refine (s_aload_n 1046 mc_247 dL_law_1045 rfl rfl rfl).trans ?_
  refine (s_iload_n 1047 mc_247 dL_law_1046 rfl rfl rfl).trans ?_
  refine (s_iconst 1048 2 mc_247 dL_law_1047 rfl (by decide)).trans ?_
  refine (s_iadd 1049 mc_247 dL_law_1048 rfl).trans ?_
  refine (s_iaload 1050 mc_247 dL_law_1049 rfl).trans ?_
  refine aI_c fun g7 => ?_
  refine (s_aload_n 1051 mc_247 dL_law_1050 rfl rfl rfl).trans ?_
  refine (s_iload_n 1052 mc_247 dL_law_1051 rfl rfl rfl).trans ?_
  refine (s_iconst 1053 3 mc_247 dL_law_1052 rfl (by decide)).trans ?_
  refine (s_iadd 1054 mc_247 dL_law_1053 rfl).trans ?_
  refine (s_iaload 1055 mc_247 dL_law_1054 rfl).trans ?_
  refine aI_c fun g8 => ?_
  refine (s_aload_n 1056 mc_247 dL_law_1055 rfl rfl rfl).trans ?_
  refine (s_iload_n 1057 mc_247 dL_law_1056 rfl rfl rfl).trans ?_
  refine (s_iconst 1058 4 mc_247 dL_law_1057 rfl (by decide)).trans ?_
  refine (s_iadd 1059 mc_247 dL_law_1058 rfl).trans ?_
  refine (s_iaload 1060 mc_247 dL_law_1059 rfl).trans ?_
  refine aI_c fun g9 => ?_
  refine (s_iviI 1063 mc_247 dL_law_1060 rfl mo_247 mm_12_114 (by decide) ms_230 mi_230 mr_230 ma_230 mo_230 (by decide) (Nat.le_of_ble_eq_true rfl) rfl rfl (Nat.le_of_ble_eq_true rfl)).trans ?_
  refine gd_c ?_
  refine bI_c fun r10 h2 => ?_
  refine (s_icmp_eq 1187 1066 mc_247 dL_law_1063 rfl rfl).trans ?_
  refine ite_c ?_ ?_
  · skip
    rfl
  · skip
    refine (s_iconst 1067 0 mc_247 dL_law_1066 rfl (by decide)).trans ?_
    exact s_zret0 mc_247 dL_law_1067 mt_247
theorem b_247_1068 {X : Ctx} {d : Nat} (x0 : Nat) (x1 : Nat) (x2 : Nat) (x3 : Int32)  (h : Hp) : sem (X, K X d) 247 1068 [some (.ref x0), some (.ref x1), some (.ref x2), some (.int x3)] [] h = aI X h x0 (x3 + 1) fun g1 => aI X h x0 (x3 + 2) fun g2 => aI X h x0 (x3 + 3) fun g3 => aI X h x0 (x3 + 4) fun g4 => aI X h x0 (x3 + 5) fun g5 => gd (hS h x1 = (11, 0)) (bI (K X d 132 [.ref x1, .int g1, .int g2, .int g3, .long (((g4 : Int32).toInt64 <<< ((32 : Int32).toInt64 &&& 63)) ||| ((g5 : Int32).toInt64 &&& 4294967295))] h) fun r6 h1 => aI X h1 x0 (x3 + 1) fun g7 => aI X h1 x0 (x3 + 2) fun g8 => aI X h1 x0 (x3 + 3) fun g9 => aI X h1 x0 (x3 + 4) fun g10 => aI X h1 x0 (x3 + 5) fun g11 => gd (hS h1 x2 = (12, 0)) (bI (K X d 231 [.ref x2, .int g7, .int g8, .int g9, .long (((g10 : Int32).toInt64 <<< ((32 : Int32).toInt64 &&& 63)) ||| ((g11 : Int32).toInt64 &&& 4294967295))] h1) fun r12 h2 => if r6 = r12 then sem (X, K X d) 247 1187 [some (.ref x0), some (.ref x1), some (.ref x2), some (.int x3)] [] h2 else some (some (.int 0), h2))) := by
  refine (s_aload_n 1069 mc_247 dL_law_1068 rfl rfl rfl).trans ?_
  refine (s_aload_n 1070 mc_247 dL_law_1069 rfl rfl rfl).trans ?_
  refine (s_iload_n 1071 mc_247 dL_law_1070 rfl rfl rfl).trans ?_
  refine (s_iconst 1072 1 mc_247 dL_law_1071 rfl (by decide)).trans ?_
  refine (s_iadd 1073 mc_247 dL_law_1072 rfl).trans ?_
  refine (s_iaload 1074 mc_247 dL_law_1073 rfl).trans ?_
  refine aI_c fun g1 => ?_
  refine (s_aload_n 1075 mc_247 dL_law_1074 rfl rfl rfl).trans ?_
  refine (s_iload_n 1076 mc_247 dL_law_1075 rfl rfl rfl).trans ?_
  refine (s_iconst 1077 2 mc_247 dL_law_1076 rfl (by decide)).trans ?_
  refine (s_iadd 1078 mc_247 dL_law_1077 rfl).trans ?_
  refine (s_iaload 1079 mc_247 dL_law_1078 rfl).trans ?_
  refine aI_c fun g2 => ?_
  refine (s_aload_n 1080 mc_247 dL_law_1079 rfl rfl rfl).trans ?_
  refine (s_iload_n 1081 mc_247 dL_law_1080 rfl rfl rfl).trans ?_
  refine (s_iconst 1082 3 mc_247 dL_law_1081 rfl (by decide)).trans ?_
  refine (s_iadd 1083 mc_247 dL_law_1082 rfl).trans ?_
  refine (s_iaload 1084 mc_247 dL_law_1083 rfl).trans ?_
  refine aI_c fun g3 => ?_
  refine (s_aload_n 1085 mc_247 dL_law_1084 rfl rfl rfl).trans ?_
  refine (s_iload_n 1086 mc_247 dL_law_1085 rfl rfl rfl).trans ?_
  refine (s_iconst 1087 4 mc_247 dL_law_1086 rfl (by decide)).trans ?_
  refine (s_iadd 1088 mc_247 dL_law_1087 rfl).trans ?_
  refine (s_iaload 1089 mc_247 dL_law_1088 rfl).trans ?_
  refine aI_c fun g4 => ?_
  refine (s_i2l 1090 mc_247 dL_law_1089 rfl).trans ?_
  refine (s_bipush 1092 32 mc_247 dL_law_1090 rfl (by decide)).trans ?_
  refine (s_lshl 1093 mc_247 dL_law_1092 rfl).trans ?_
  refine (s_aload_n 1094 mc_247 dL_law_1093 rfl rfl rfl).trans ?_
  refine (s_iload_n 1095 mc_247 dL_law_1094 rfl rfl rfl).trans ?_
  refine (s_iconst 1096 5 mc_247 dL_law_1095 rfl (by decide)).trans ?_
  refine (s_iadd 1097 mc_247 dL_law_1096 rfl).trans ?_
  refine (s_iaload 1098 mc_247 dL_law_1097 rfl).trans ?_
  refine aI_c fun g5 => ?_
  refine (s_i2l 1099 mc_247 dL_law_1098 rfl).trans ?_
  refine (s_ldc2_w 1102 4294967295 mc_247 dL_law_1099 rfl mo_247 cl_12_115 (by decide)).trans ?_
  refine (s_land 1103 mc_247 dL_law_1102 rfl).trans ?_
  refine (s_lor 1104 mc_247 dL_law_1103 rfl).trans ?_
  refine (s_iviI 1107 mc_247 dL_law_1104 rfl mo_247 mm_12_117 (by decide) ms_132 mi_132 mr_132 ma_132 mo_132 (by decide) (Nat.le_of_ble_eq_true rfl) rfl rfl (Nat.le_of_ble_eq_true rfl)).trans ?_
  refine gd_c ?_
  refine bI_c fun r6 h1 => ?_
  refine (s_aload_n 1108 mc_247 dL_law_1107 rfl rfl rfl).trans ?_
  refine (s_aload_n 1109 mc_247 dL_law_1108 rfl rfl rfl).trans ?_
  refine (s_iload_n 1110 mc_247 dL_law_1109 rfl rfl rfl).trans ?_
  refine (s_iconst 1111 1 mc_247 dL_law_1110 rfl (by decide)).trans ?_
  refine (s_iadd 1112 mc_247 dL_law_1111 rfl).trans ?_
  refine (s_iaload 1113 mc_247 dL_law_1112 rfl).trans ?_
  refine aI_c fun g7 => ?_
  refine (s_aload_n 1114 mc_247 dL_law_1113 rfl rfl rfl).trans ?_
  refine (s_iload_n 1115 mc_247 dL_law_1114 rfl rfl rfl).trans ?_
  refine (s_iconst 1116 2 mc_247 dL_law_1115 rfl (by decide)).trans ?_
  refine (s_iadd 1117 mc_247 dL_law_1116 rfl).trans ?_
  refine (s_iaload 1118 mc_247 dL_law_1117 rfl).trans ?_
  refine aI_c fun g8 => ?_
  refine (s_aload_n 1119 mc_247 dL_law_1118 rfl rfl rfl).trans ?_
  refine (s_iload_n 1120 mc_247 dL_law_1119 rfl rfl rfl).trans ?_
  refine (s_iconst 1121 3 mc_247 dL_law_1120 rfl (by decide)).trans ?_
  refine (s_iadd 1122 mc_247 dL_law_1121 rfl).trans ?_
  refine (s_iaload 1123 mc_247 dL_law_1122 rfl).trans ?_
  refine aI_c fun g9 => ?_
  refine (s_aload_n 1124 mc_247 dL_law_1123 rfl rfl rfl).trans ?_
  refine (s_iload_n 1125 mc_247 dL_law_1124 rfl rfl rfl).trans ?_
  refine (s_iconst 1126 4 mc_247 dL_law_1125 rfl (by decide)).trans ?_
  refine (s_iadd 1127 mc_247 dL_law_1126 rfl).trans ?_
  refine (s_iaload 1128 mc_247 dL_law_1127 rfl).trans ?_
  refine aI_c fun g10 => ?_
  refine (s_i2l 1129 mc_247 dL_law_1128 rfl).trans ?_
  refine (s_bipush 1131 32 mc_247 dL_law_1129 rfl (by decide)).trans ?_
  refine (s_lshl 1132 mc_247 dL_law_1131 rfl).trans ?_
  refine (s_aload_n 1133 mc_247 dL_law_1132 rfl rfl rfl).trans ?_
  refine (s_iload_n 1134 mc_247 dL_law_1133 rfl rfl rfl).trans ?_
  refine (s_iconst 1135 5 mc_247 dL_law_1134 rfl (by decide)).trans ?_
  refine (s_iadd 1136 mc_247 dL_law_1135 rfl).trans ?_
  refine (s_iaload 1137 mc_247 dL_law_1136 rfl).trans ?_
  refine aI_c fun g11 => ?_
  refine (s_i2l 1138 mc_247 dL_law_1137 rfl).trans ?_
  refine (s_ldc2_w 1141 4294967295 mc_247 dL_law_1138 rfl mo_247 cl_12_115 (by decide)).trans ?_
  refine (s_land 1142 mc_247 dL_law_1141 rfl).trans ?_
  refine (s_lor 1143 mc_247 dL_law_1142 rfl).trans ?_
  refine (s_iviI 1146 mc_247 dL_law_1143 rfl mo_247 mm_12_121 (by decide) ms_231 mi_231 mr_231 ma_231 mo_231 (by decide) (Nat.le_of_ble_eq_true rfl) rfl rfl (Nat.le_of_ble_eq_true rfl)).trans ?_
  refine gd_c ?_
  refine bI_c fun r12 h2 => ?_
  refine (s_icmp_eq 1187 1149 mc_247 dL_law_1146 rfl rfl).trans ?_
  refine ite_c ?_ ?_
  · skip
    rfl
  · skip
    refine (s_iconst 1150 0 mc_247 dL_law_1149 rfl (by decide)).trans ?_
    exact s_zret0 mc_247 dL_law_1150 mt_247
theorem b_247_1151 {X : Ctx} {d : Nat} (v0 : Option Value) (x1 : Nat) (x2 : Nat) (v3 : Option Value)  (h : Hp) : sem (X, K X d) 247 1151 [v0, some (.ref x1), some (.ref x2), v3] [] h = gd (hS h x1 = (11, 0)) (bI (K X d 133 [.ref x1] h) fun r1 h1 => gd (hS h1 x2 = (12, 0)) (bI (K X d 232 [.ref x2] h1) fun r2 h2 => if r1 = r2 then sem (X, K X d) 247 1187 [v0, some (.ref x1), some (.ref x2), v3] [] h2 else some (some (.int 0), h2))) := by
  refine (s_aload_n 1152 mc_247 dL_law_1151 rfl rfl rfl).trans ?_
  refine (s_iviI 1155 mc_247 dL_law_1152 rfl mo_247 mm_12_122 (by decide) ms_133 mi_133 mr_133 ma_133 mo_133 (by decide) (Nat.le_of_ble_eq_true rfl) rfl rfl (Nat.le_of_ble_eq_true rfl)).trans ?_
  refine gd_c ?_
  refine bI_c fun r1 h1 => ?_
  refine (s_aload_n 1156 mc_247 dL_law_1155 rfl rfl rfl).trans ?_
  refine (s_iviI 1159 mc_247 dL_law_1156 rfl mo_247 mm_12_125 (by decide) ms_232 mi_232 mr_232 ma_232 mo_232 (by decide) (Nat.le_of_ble_eq_true rfl) rfl rfl (Nat.le_of_ble_eq_true rfl)).trans ?_
  refine gd_c ?_
  refine bI_c fun r2 h2 => ?_
  refine (s_icmp_eq 1187 1162 mc_247 dL_law_1159 rfl rfl).trans ?_
  refine ite_c ?_ ?_
  · skip
    rfl
  · skip
    refine (s_iconst 1163 0 mc_247 dL_law_1162 rfl (by decide)).trans ?_
    exact s_zret0 mc_247 dL_law_1163 mt_247
theorem b_247_1164 {X : Ctx} {d : Nat} (x0 : Nat) (x1 : Nat) (x2 : Nat) (x3 : Int32)  (h : Hp) : sem (X, K X d) 247 1164 [some (.ref x0), some (.ref x1), some (.ref x2), some (.int x3)] [] h = aI X h x0 (x3 + 1) fun g1 => gd (hS h x1 = (11, 0)) (bI (K X d 135 [.ref x1, .int g1] h) fun r2 h1 => aI X h1 x0 (x3 + 1) fun g3 => gd (hS h1 x2 = (12, 0)) (bI (K X d 233 [.ref x2, .int g3] h1) fun r4 h2 => if r2 = r4 then sem (X, K X d) 247 1187 [some (.ref x0), some (.ref x1), some (.ref x2), some (.int x3)] [] h2 else some (some (.int 0), h2))) := by
  refine (s_aload_n 1165 mc_247 dL_law_1164 rfl rfl rfl).trans ?_
  refine (s_aload_n 1166 mc_247 dL_law_1165 rfl rfl rfl).trans ?_
  refine (s_iload_n 1167 mc_247 dL_law_1166 rfl rfl rfl).trans ?_
  refine (s_iconst 1168 1 mc_247 dL_law_1167 rfl (by decide)).trans ?_
  refine (s_iadd 1169 mc_247 dL_law_1168 rfl).trans ?_
  refine (s_iaload 1170 mc_247 dL_law_1169 rfl).trans ?_
  refine aI_c fun g1 => ?_
  refine (s_iviI 1173 mc_247 dL_law_1170 rfl mo_247 mm_12_126 (by decide) ms_135 mi_135 mr_135 ma_135 mo_135 (by decide) (Nat.le_of_ble_eq_true rfl) rfl rfl (Nat.le_of_ble_eq_true rfl)).trans ?_
  refine gd_c ?_
  refine bI_c fun r2 h1 => ?_
  refine (s_aload_n 1174 mc_247 dL_law_1173 rfl rfl rfl).trans ?_
  refine (s_aload_n 1175 mc_247 dL_law_1174 rfl rfl rfl).trans ?_
  refine (s_iload_n 1176 mc_247 dL_law_1175 rfl rfl rfl).trans ?_
  refine (s_iconst 1177 1 mc_247 dL_law_1176 rfl (by decide)).trans ?_
  refine (s_iadd 1178 mc_247 dL_law_1177 rfl).trans ?_
  refine (s_iaload 1179 mc_247 dL_law_1178 rfl).trans ?_
  refine aI_c fun g3 => ?_
  refine (s_iviI 1182 mc_247 dL_law_1179 rfl mo_247 mm_12_129 (by decide) ms_233 mi_233 mr_233 ma_233 mo_233 (by decide) (Nat.le_of_ble_eq_true rfl) rfl rfl (Nat.le_of_ble_eq_true rfl)).trans ?_
  refine gd_c ?_
  refine bI_c fun r4 h2 => ?_
  refine (s_icmp_eq 1187 1185 mc_247 dL_law_1182 rfl rfl).trans ?_
  refine ite_c ?_ ?_
  · skip
    rfl
  · skip
    refine (s_iconst 1186 0 mc_247 dL_law_1185 rfl (by decide)).trans ?_
    exact s_zret0 mc_247 dL_law_1186 mt_247
theorem b_247_1187 {X : Ctx} {d : Nat} (v0 : Option Value) (v1 : Option Value) (v2 : Option Value) (x3 : Int32)  (h : Hp) : sem (X, K X d) 247 1187 [v0, v1, v2, some (.int x3)] [] h = sem (X, K X d) 247 18 [v0, v1, v2, some (.int (x3 + 7))] [] h := by
  refine (s_iinc 7 1190 mc_247 dL_law_1187 rfl rfl (Nat.le_of_ble_eq_true rfl) (by decide) rfl).trans ?_
  refine (s_goto 18 mc_247 dL_law_1190 rfl).trans ?_
  rfl
