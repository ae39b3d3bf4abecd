/-! ===== the law's body; printed by gen31.py ===== -/
def m_Law_law : ma_M := (x, code, 7, ret, [])
section EL
variable {t : q_V} {F Lc k n : Nat} {M M1 : ma_M} {pc : Nat} {ls : List (Nat × Value)} {st : List Value} {f g : q_F} {Z : ma_Z}
theorem et_sld {L : Nat} {xs : Nat → Int32} {z : Int} (hLx : g_L (q_G t) = L) (hxs : g_xs (q_G t) = xs) (hL : L ≤ 100000) (dc : decode (m_c M) pc = .ok (.iaload, 1)) (hb : 0 ≤ z ∧ z < (L : Int)) (E : ma_Ev (q_G t) F Lc k n M (pc + 1) ls (ma_i (xs z.toNat).toInt :: st) (q_h f g) Z) : ma_Ev (q_G t) F Lc k n M pc ls (ma_i z :: .ref (g_b (q_G t)) :: st) (q_h f g) Z := by
  subst hLx
  subst hxs
  exact ev_sld dc hb.1 hb.2 (by omega) E
theorem et_slen {L : Nat} (hLx : g_L (q_G t) = L) (dc : decode (m_c M) pc = .ok (.arraylength, 1)) (E : ma_Ev (q_G t) F Lc k n M (pc + 1) ls (ma_i (L : Int) :: st) (q_h f g) Z) : ma_Ev (q_G t) F Lc k n M pc ls (.ref (g_b (q_G t)) :: st) (q_h f g) Z := by
  subst hLx
  exact ev_slen dc E
theorem et_callW (ok : ma_ok (q_G t)) {np index F1 L1 : Nat} {r : Int} {f1 g1 : q_F} (As rest : List Value) {st0 : List Value} (f9 : ma_CW (q_G t) (m_y M).cls index M1 np) (dc : decode (m_c M) pc = .ok (.invokestatic index, 3)) (hM : ma_Met (q_G t) false F1 L1 1 6 M1 As (q_h f g) (fun v h' => v = some (ma_i r) ∧ h' = q_h f1 g1)) (hst : st0 = As.reverse ++ rest) (hn : As.length = np) (hF : F1 + 1 ≤ F) (hL : 8 + (m_n M1 + 11) + L1 ≤ Lc) (hr : (rest.map fun v => v.category).sum ≤ 8)
    (E : ma_Ev (q_G t) F Lc k n M (pc + 3) ls (ma_i r :: rest) (q_h f1 g1) Z) : ma_Ev (q_G t) F Lc (k + 1) (n + 6) M pc ls st0 (q_h f g) Z := by
  refine ev_callW ok As rest f9 dc hM hst hn hF hL hr ?_
  intro v h' hq _
  obtain ⟨e1, e2⟩ := hq
  subst e1
  subst e2
  exact E
end EL
theorem d_Law_law_0 : decode (m_c m_Law_law) 0 = .ok (.new 8, 3) := by decide +kernel
theorem d_Law_law_3 : decode (m_c m_Law_law) 3 = .ok (.dup, 1) := by decide +kernel
theorem d_Law_law_4 : decode (m_c m_Law_law) 4 = .ok (.invokespecial 52, 3) := by decide +kernel
theorem d_Law_law_7 : decode (m_c m_Law_law) 7 = .ok (.astore_n 1, 1) := by decide +kernel
theorem d_Law_law_8 : decode (m_c m_Law_law) 8 = .ok (.new 53, 3) := by decide +kernel
theorem d_Law_law_11 : decode (m_c m_Law_law) 11 = .ok (.dup, 1) := by decide +kernel
theorem d_Law_law_12 : decode (m_c m_Law_law) 12 = .ok (.invokespecial 55, 3) := by decide +kernel
theorem d_Law_law_15 : decode (m_c m_Law_law) 15 = .ok (.astore_n 2, 1) := by decide +kernel
theorem d_Law_law_16 : decode (m_c m_Law_law) 16 = .ok (.iconst 1, 1) := by decide +kernel
theorem d_Law_law_17 : decode (m_c m_Law_law) 17 = .ok (.newarray .long, 2) := by decide +kernel
theorem d_Law_law_19 : decode (m_c m_Law_law) 19 = .ok (.astore_n 3, 1) := by decide +kernel
theorem d_Law_law_20 : decode (m_c m_Law_law) 20 = .ok (.iconst 0, 1) := by decide +kernel
theorem d_Law_law_21 : decode (m_c m_Law_law) 21 = .ok (.istore 4, 2) := by decide +kernel
theorem d_Law_law_23 : decode (m_c m_Law_law) 23 = .ok (.iload 4, 2) := by decide +kernel
theorem d_Law_law_25 : decode (m_c m_Law_law) 25 = .ok (.aload_n 0, 1) := by decide +kernel
theorem d_Law_law_26 : decode (m_c m_Law_law) 26 = .ok (.arraylength, 1) := by decide +kernel
theorem d_Law_law_27 : decode (m_c m_Law_law) 27 = .ok (.iconst 5, 1) := by decide +kernel
theorem d_Law_law_28 : decode (m_c m_Law_law) 28 = .ok (.isub, 1) := by decide +kernel
theorem d_Law_law_29 : decode (m_c m_Law_law) 29 = .ok (.if_icmp .gt 686, 3) := by decide +kernel
theorem d_Law_law_32 : decode (m_c m_Law_law) 32 = .ok (.aload_n 0, 1) := by decide +kernel
theorem d_Law_law_33 : decode (m_c m_Law_law) 33 = .ok (.iload 4, 2) := by decide +kernel
theorem d_Law_law_35 : decode (m_c m_Law_law) 35 = .ok (.iaload, 1) := by decide +kernel
theorem d_Law_law_36 : decode (m_c m_Law_law) 36 = .ok (.bipush 15, 2) := by decide +kernel
theorem d_Law_law_38 : decode (m_c m_Law_law) 38 = .ok (.iand, 1) := by decide +kernel
theorem d_Law_law_39 : decode (m_c m_Law_law) 39 = .ok (.tableswitch 670 0 12 #[65, 137, 237, 248, 261, 274, 342, 398, 454, 498, 566, 590, 614], 65) := by decide +kernel
theorem d_Law_law_104 : decode (m_c m_Law_law) 104 = .ok (.aload_n 1, 1) := by decide +kernel
theorem d_Law_law_105 : decode (m_c m_Law_law) 105 = .ok (.aload_n 0, 1) := by decide +kernel
theorem d_Law_law_106 : decode (m_c m_Law_law) 106 = .ok (.iload 4, 2) := by decide +kernel
theorem d_Law_law_108 : decode (m_c m_Law_law) 108 = .ok (.iconst 1, 1) := by decide +kernel
theorem d_Law_law_109 : decode (m_c m_Law_law) 109 = .ok (.iadd, 1) := by decide +kernel
theorem d_Law_law_110 : decode (m_c m_Law_law) 110 = .ok (.iaload, 1) := by decide +kernel
theorem d_Law_law_111 : decode (m_c m_Law_law) 111 = .ok (.aload_n 0, 1) := by decide +kernel
theorem d_Law_law_112 : decode (m_c m_Law_law) 112 = .ok (.iload 4, 2) := by decide +kernel
theorem d_Law_law_114 : decode (m_c m_Law_law) 114 = .ok (.iconst 2, 1) := by decide +kernel
theorem d_Law_law_115 : decode (m_c m_Law_law) 115 = .ok (.iadd, 1) := by decide +kernel
theorem d_Law_law_116 : decode (m_c m_Law_law) 116 = .ok (.iaload, 1) := by decide +kernel
theorem d_Law_law_117 : decode (m_c m_Law_law) 117 = .ok (.aload_n 0, 1) := by decide +kernel
theorem d_Law_law_118 : decode (m_c m_Law_law) 118 = .ok (.iload 4, 2) := by decide +kernel
theorem d_Law_law_120 : decode (m_c m_Law_law) 120 = .ok (.iconst 3, 1) := by decide +kernel
theorem d_Law_law_121 : decode (m_c m_Law_law) 121 = .ok (.iadd, 1) := by decide +kernel
theorem d_Law_law_122 : decode (m_c m_Law_law) 122 = .ok (.iaload, 1) := by decide +kernel
theorem d_Law_law_123 : decode (m_c m_Law_law) 123 = .ok (.aload_n 0, 1) := by decide +kernel
theorem d_Law_law_124 : decode (m_c m_Law_law) 124 = .ok (.iload 4, 2) := by decide +kernel
theorem d_Law_law_126 : decode (m_c m_Law_law) 126 = .ok (.iconst 4, 1) := by decide +kernel
theorem d_Law_law_127 : decode (m_c m_Law_law) 127 = .ok (.iadd, 1) := by decide +kernel
theorem d_Law_law_128 : decode (m_c m_Law_law) 128 = .ok (.iaload, 1) := by decide +kernel
theorem d_Law_law_129 : decode (m_c m_Law_law) 129 = .ok (.invokestatic 56, 3) := by decide +kernel
theorem d_Law_law_132 : decode (m_c m_Law_law) 132 = .ok (.istore 5, 2) := by decide +kernel
theorem d_Law_law_134 : decode (m_c m_Law_law) 134 = .ok (.aload_n 2, 1) := by decide +kernel
theorem d_Law_law_135 : decode (m_c m_Law_law) 135 = .ok (.aload_n 0, 1) := by decide +kernel
theorem d_Law_law_136 : decode (m_c m_Law_law) 136 = .ok (.iload 4, 2) := by decide +kernel
theorem d_Law_law_138 : decode (m_c m_Law_law) 138 = .ok (.iconst 1, 1) := by decide +kernel
theorem d_Law_law_139 : decode (m_c m_Law_law) 139 = .ok (.iadd, 1) := by decide +kernel
theorem d_Law_law_140 : decode (m_c m_Law_law) 140 = .ok (.iaload, 1) := by decide +kernel
theorem d_Law_law_141 : decode (m_c m_Law_law) 141 = .ok (.aload_n 0, 1) := by decide +kernel
theorem d_Law_law_142 : decode (m_c m_Law_law) 142 = .ok (.iload 4, 2) := by decide +kernel
theorem d_Law_law_144 : decode (m_c m_Law_law) 144 = .ok (.iconst 2, 1) := by decide +kernel
theorem d_Law_law_145 : decode (m_c m_Law_law) 145 = .ok (.iadd, 1) := by decide +kernel
theorem d_Law_law_146 : decode (m_c m_Law_law) 146 = .ok (.iaload, 1) := by decide +kernel
theorem d_Law_law_147 : decode (m_c m_Law_law) 147 = .ok (.aload_n 0, 1) := by decide +kernel
theorem d_Law_law_148 : decode (m_c m_Law_law) 148 = .ok (.iload 4, 2) := by decide +kernel
theorem d_Law_law_150 : decode (m_c m_Law_law) 150 = .ok (.iconst 3, 1) := by decide +kernel
theorem d_Law_law_151 : decode (m_c m_Law_law) 151 = .ok (.iadd, 1) := by decide +kernel
theorem d_Law_law_152 : decode (m_c m_Law_law) 152 = .ok (.iaload, 1) := by decide +kernel
theorem d_Law_law_153 : decode (m_c m_Law_law) 153 = .ok (.aload_n 0, 1) := by decide +kernel
theorem d_Law_law_154 : decode (m_c m_Law_law) 154 = .ok (.iload 4, 2) := by decide +kernel
theorem d_Law_law_156 : decode (m_c m_Law_law) 156 = .ok (.iconst 4, 1) := by decide +kernel
theorem d_Law_law_157 : decode (m_c m_Law_law) 157 = .ok (.iadd, 1) := by decide +kernel
theorem d_Law_law_158 : decode (m_c m_Law_law) 158 = .ok (.iaload, 1) := by decide +kernel
theorem d_Law_law_159 : decode (m_c m_Law_law) 159 = .ok (.invokevirtual 61, 3) := by decide +kernel
theorem d_Law_law_162 : decode (m_c m_Law_law) 162 = .ok (.aload_n 2, 1) := by decide +kernel
theorem d_Law_law_163 : decode (m_c m_Law_law) 163 = .ok (.invokevirtual 62, 3) := by decide +kernel
theorem d_Law_law_166 : decode (m_c m_Law_law) 166 = .ok (.iload 5, 2) := by decide +kernel
theorem d_Law_law_168 : decode (m_c m_Law_law) 168 = .ok (.if_icmp .eq 5, 3) := by decide +kernel
theorem d_Law_law_171 : decode (m_c m_Law_law) 171 = .ok (.iconst 0, 1) := by decide +kernel
theorem d_Law_law_172 : decode (m_c m_Law_law) 172 = .ok (.ireturn, 1) := by decide +kernel
theorem d_Law_law_173 : decode (m_c m_Law_law) 173 = .ok (.goto 536, 3) := by decide +kernel
theorem d_Law_law_176 : decode (m_c m_Law_law) 176 = .ok (.aload_n 1, 1) := by decide +kernel
theorem d_Law_law_177 : decode (m_c m_Law_law) 177 = .ok (.aload_n 0, 1) := by decide +kernel
theorem d_Law_law_178 : decode (m_c m_Law_law) 178 = .ok (.iload 4, 2) := by decide +kernel
theorem d_Law_law_180 : decode (m_c m_Law_law) 180 = .ok (.iconst 1, 1) := by decide +kernel
theorem d_Law_law_181 : decode (m_c m_Law_law) 181 = .ok (.iadd, 1) := by decide +kernel
theorem d_Law_law_182 : decode (m_c m_Law_law) 182 = .ok (.iaload, 1) := by decide +kernel
theorem d_Law_law_183 : decode (m_c m_Law_law) 183 = .ok (.i2l, 1) := by decide +kernel
theorem d_Law_law_184 : decode (m_c m_Law_law) 184 = .ok (.bipush 32, 2) := by decide +kernel
theorem d_Law_law_186 : decode (m_c m_Law_law) 186 = .ok (.lshl, 1) := by decide +kernel
theorem d_Law_law_187 : decode (m_c m_Law_law) 187 = .ok (.aload_n 0, 1) := by decide +kernel
theorem d_Law_law_188 : decode (m_c m_Law_law) 188 = .ok (.iload 4, 2) := by decide +kernel
theorem d_Law_law_190 : decode (m_c m_Law_law) 190 = .ok (.iconst 2, 1) := by decide +kernel
theorem d_Law_law_191 : decode (m_c m_Law_law) 191 = .ok (.iadd, 1) := by decide +kernel
theorem d_Law_law_192 : decode (m_c m_Law_law) 192 = .ok (.iaload, 1) := by decide +kernel
theorem d_Law_law_193 : decode (m_c m_Law_law) 193 = .ok (.i2l, 1) := by decide +kernel
theorem d_Law_law_194 : decode (m_c m_Law_law) 194 = .ok (.ldc2_w 65, 3) := by decide +kernel
theorem d_Law_law_197 : decode (m_c m_Law_law) 197 = .ok (.land, 1) := by decide +kernel
theorem d_Law_law_198 : decode (m_c m_Law_law) 198 = .ok (.lor, 1) := by decide +kernel
theorem d_Law_law_199 : decode (m_c m_Law_law) 199 = .ok (.aload_n 0, 1) := by decide +kernel
theorem d_Law_law_200 : decode (m_c m_Law_law) 200 = .ok (.iload 4, 2) := by decide +kernel
theorem d_Law_law_202 : decode (m_c m_Law_law) 202 = .ok (.iconst 3, 1) := by decide +kernel
theorem d_Law_law_203 : decode (m_c m_Law_law) 203 = .ok (.iadd, 1) := by decide +kernel
theorem d_Law_law_204 : decode (m_c m_Law_law) 204 = .ok (.iaload, 1) := by decide +kernel
theorem d_Law_law_205 : decode (m_c m_Law_law) 205 = .ok (.aload_n 3, 1) := by decide +kernel
theorem d_Law_law_206 : decode (m_c m_Law_law) 206 = .ok (.invokestatic 67, 3) := by decide +kernel
theorem d_Law_law_209 : decode (m_c m_Law_law) 209 = .ok (.istore 5, 2) := by decide +kernel
theorem d_Law_law_211 : decode (m_c m_Law_law) 211 = .ok (.aload_n 2, 1) := by decide +kernel
theorem d_Law_law_212 : decode (m_c m_Law_law) 212 = .ok (.aload_n 0, 1) := by decide +kernel
theorem d_Law_law_213 : decode (m_c m_Law_law) 213 = .ok (.iload 4, 2) := by decide +kernel
theorem d_Law_law_215 : decode (m_c m_Law_law) 215 = .ok (.iconst 1, 1) := by decide +kernel
theorem d_Law_law_216 : decode (m_c m_Law_law) 216 = .ok (.iadd, 1) := by decide +kernel
theorem d_Law_law_217 : decode (m_c m_Law_law) 217 = .ok (.iaload, 1) := by decide +kernel
theorem d_Law_law_218 : decode (m_c m_Law_law) 218 = .ok (.i2l, 1) := by decide +kernel
theorem d_Law_law_219 : decode (m_c m_Law_law) 219 = .ok (.bipush 32, 2) := by decide +kernel
theorem d_Law_law_221 : decode (m_c m_Law_law) 221 = .ok (.lshl, 1) := by decide +kernel
theorem d_Law_law_222 : decode (m_c m_Law_law) 222 = .ok (.aload_n 0, 1) := by decide +kernel
theorem d_Law_law_223 : decode (m_c m_Law_law) 223 = .ok (.iload 4, 2) := by decide +kernel
theorem d_Law_law_225 : decode (m_c m_Law_law) 225 = .ok (.iconst 2, 1) := by decide +kernel
theorem d_Law_law_226 : decode (m_c m_Law_law) 226 = .ok (.iadd, 1) := by decide +kernel
theorem d_Law_law_227 : decode (m_c m_Law_law) 227 = .ok (.iaload, 1) := by decide +kernel
theorem d_Law_law_228 : decode (m_c m_Law_law) 228 = .ok (.i2l, 1) := by decide +kernel
theorem d_Law_law_229 : decode (m_c m_Law_law) 229 = .ok (.ldc2_w 65, 3) := by decide +kernel
theorem d_Law_law_232 : decode (m_c m_Law_law) 232 = .ok (.land, 1) := by decide +kernel
theorem d_Law_law_233 : decode (m_c m_Law_law) 233 = .ok (.lor, 1) := by decide +kernel
theorem d_Law_law_234 : decode (m_c m_Law_law) 234 = .ok (.aload_n 0, 1) := by decide +kernel
theorem d_Law_law_235 : decode (m_c m_Law_law) 235 = .ok (.iload 4, 2) := by decide +kernel
theorem d_Law_law_237 : decode (m_c m_Law_law) 237 = .ok (.iconst 3, 1) := by decide +kernel
theorem d_Law_law_238 : decode (m_c m_Law_law) 238 = .ok (.iadd, 1) := by decide +kernel
theorem d_Law_law_239 : decode (m_c m_Law_law) 239 = .ok (.iaload, 1) := by decide +kernel
theorem d_Law_law_240 : decode (m_c m_Law_law) 240 = .ok (.invokevirtual 70, 3) := by decide +kernel
theorem d_Law_law_243 : decode (m_c m_Law_law) 243 = .ok (.istore 6, 2) := by decide +kernel
theorem d_Law_law_245 : decode (m_c m_Law_law) 245 = .ok (.aload_n 2, 1) := by decide +kernel
theorem d_Law_law_246 : decode (m_c m_Law_law) 246 = .ok (.invokevirtual 62, 3) := by decide +kernel
theorem d_Law_law_249 : decode (m_c m_Law_law) 249 = .ok (.iload 5, 2) := by decide +kernel
theorem d_Law_law_251 : decode (m_c m_Law_law) 251 = .ok (.if_icmp .eq 5, 3) := by decide +kernel
theorem d_Law_law_254 : decode (m_c m_Law_law) 254 = .ok (.iconst 0, 1) := by decide +kernel
theorem d_Law_law_255 : decode (m_c m_Law_law) 255 = .ok (.ireturn, 1) := by decide +kernel
theorem d_Law_law_256 : decode (m_c m_Law_law) 256 = .ok (.iload 5, 2) := by decide +kernel
theorem d_Law_law_258 : decode (m_c m_Law_law) 258 = .ok (.ifCond .ne 15, 3) := by decide +kernel
theorem d_Law_law_261 : decode (m_c m_Law_law) 261 = .ok (.aload_n 3, 1) := by decide +kernel
theorem d_Law_law_262 : decode (m_c m_Law_law) 262 = .ok (.iconst 0, 1) := by decide +kernel
theorem d_Law_law_263 : decode (m_c m_Law_law) 263 = .ok (.laload, 1) := by decide +kernel
theorem d_Law_law_264 : decode (m_c m_Law_law) 264 = .ok (.iload 6, 2) := by decide +kernel
theorem d_Law_law_266 : decode (m_c m_Law_law) 266 = .ok (.i2l, 1) := by decide +kernel
theorem d_Law_law_267 : decode (m_c m_Law_law) 267 = .ok (.lcmp, 1) := by decide +kernel
theorem d_Law_law_268 : decode (m_c m_Law_law) 268 = .ok (.ifCond .eq 5, 3) := by decide +kernel
theorem d_Law_law_271 : decode (m_c m_Law_law) 271 = .ok (.iconst 0, 1) := by decide +kernel
theorem d_Law_law_272 : decode (m_c m_Law_law) 272 = .ok (.ireturn, 1) := by decide +kernel
theorem d_Law_law_273 : decode (m_c m_Law_law) 273 = .ok (.goto 436, 3) := by decide +kernel
theorem d_Law_law_276 : decode (m_c m_Law_law) 276 = .ok (.aload_n 1, 1) := by decide +kernel
theorem d_Law_law_277 : decode (m_c m_Law_law) 277 = .ok (.invokevirtual 71, 3) := by decide +kernel
theorem d_Law_law_280 : decode (m_c m_Law_law) 280 = .ok (.aload_n 2, 1) := by decide +kernel
theorem d_Law_law_281 : decode (m_c m_Law_law) 281 = .ok (.invokevirtual 74, 3) := by decide +kernel
theorem d_Law_law_284 : decode (m_c m_Law_law) 284 = .ok (.goto 425, 3) := by decide +kernel
theorem d_Law_law_287 : decode (m_c m_Law_law) 287 = .ok (.aload_n 1, 1) := by decide +kernel
theorem d_Law_law_288 : decode (m_c m_Law_law) 288 = .ok (.invokevirtual 75, 3) := by decide +kernel
theorem d_Law_law_291 : decode (m_c m_Law_law) 291 = .ok (.aload_n 2, 1) := by decide +kernel
theorem d_Law_law_292 : decode (m_c m_Law_law) 292 = .ok (.invokevirtual 78, 3) := by decide +kernel
theorem d_Law_law_295 : decode (m_c m_Law_law) 295 = .ok (.if_icmp .eq 414, 3) := by decide +kernel
theorem d_Law_law_298 : decode (m_c m_Law_law) 298 = .ok (.iconst 0, 1) := by decide +kernel
theorem d_Law_law_299 : decode (m_c m_Law_law) 299 = .ok (.ireturn, 1) := by decide +kernel
theorem d_Law_law_300 : decode (m_c m_Law_law) 300 = .ok (.aload_n 1, 1) := by decide +kernel
theorem d_Law_law_301 : decode (m_c m_Law_law) 301 = .ok (.invokevirtual 79, 3) := by decide +kernel
theorem d_Law_law_304 : decode (m_c m_Law_law) 304 = .ok (.aload_n 2, 1) := by decide +kernel
theorem d_Law_law_305 : decode (m_c m_Law_law) 305 = .ok (.invokevirtual 82, 3) := by decide +kernel
theorem d_Law_law_308 : decode (m_c m_Law_law) 308 = .ok (.if_icmp .eq 401, 3) := by decide +kernel
theorem d_Law_law_311 : decode (m_c m_Law_law) 311 = .ok (.iconst 0, 1) := by decide +kernel
theorem d_Law_law_312 : decode (m_c m_Law_law) 312 = .ok (.ireturn, 1) := by decide +kernel
theorem d_Law_law_313 : decode (m_c m_Law_law) 313 = .ok (.aload_n 1, 1) := by decide +kernel
theorem d_Law_law_314 : decode (m_c m_Law_law) 314 = .ok (.aload_n 0, 1) := by decide +kernel
theorem d_Law_law_315 : decode (m_c m_Law_law) 315 = .ok (.iload 4, 2) := by decide +kernel
theorem d_Law_law_317 : decode (m_c m_Law_law) 317 = .ok (.iconst 1, 1) := by decide +kernel
theorem d_Law_law_318 : decode (m_c m_Law_law) 318 = .ok (.iadd, 1) := by decide +kernel
theorem d_Law_law_319 : decode (m_c m_Law_law) 319 = .ok (.iaload, 1) := by decide +kernel
theorem d_Law_law_320 : decode (m_c m_Law_law) 320 = .ok (.aload_n 0, 1) := by decide +kernel
theorem d_Law_law_321 : decode (m_c m_Law_law) 321 = .ok (.iload 4, 2) := by decide +kernel
theorem d_Law_law_323 : decode (m_c m_Law_law) 323 = .ok (.iconst 2, 1) := by decide +kernel
theorem d_Law_law_324 : decode (m_c m_Law_law) 324 = .ok (.iadd, 1) := by decide +kernel
theorem d_Law_law_325 : decode (m_c m_Law_law) 325 = .ok (.iaload, 1) := by decide +kernel
theorem d_Law_law_326 : decode (m_c m_Law_law) 326 = .ok (.aload_n 3, 1) := by decide +kernel
theorem d_Law_law_327 : decode (m_c m_Law_law) 327 = .ok (.invokestatic 83, 3) := by decide +kernel
theorem d_Law_law_330 : decode (m_c m_Law_law) 330 = .ok (.istore 5, 2) := by decide +kernel
theorem d_Law_law_332 : decode (m_c m_Law_law) 332 = .ok (.aload_n 2, 1) := by decide +kernel
theorem d_Law_law_333 : decode (m_c m_Law_law) 333 = .ok (.aload_n 0, 1) := by decide +kernel
theorem d_Law_law_334 : decode (m_c m_Law_law) 334 = .ok (.iload 4, 2) := by decide +kernel
theorem d_Law_law_336 : decode (m_c m_Law_law) 336 = .ok (.iconst 1, 1) := by decide +kernel
theorem d_Law_law_337 : decode (m_c m_Law_law) 337 = .ok (.iadd, 1) := by decide +kernel
theorem d_Law_law_338 : decode (m_c m_Law_law) 338 = .ok (.iaload, 1) := by decide +kernel
theorem d_Law_law_339 : decode (m_c m_Law_law) 339 = .ok (.aload_n 0, 1) := by decide +kernel
theorem d_Law_law_340 : decode (m_c m_Law_law) 340 = .ok (.iload 4, 2) := by decide +kernel
theorem d_Law_law_342 : decode (m_c m_Law_law) 342 = .ok (.iconst 2, 1) := by decide +kernel
theorem d_Law_law_343 : decode (m_c m_Law_law) 343 = .ok (.iadd, 1) := by decide +kernel
theorem d_Law_law_344 : decode (m_c m_Law_law) 344 = .ok (.iaload, 1) := by decide +kernel
theorem d_Law_law_345 : decode (m_c m_Law_law) 345 = .ok (.invokevirtual 86, 3) := by decide +kernel
theorem d_Law_law_348 : decode (m_c m_Law_law) 348 = .ok (.istore 6, 2) := by decide +kernel
theorem d_Law_law_350 : decode (m_c m_Law_law) 350 = .ok (.aload_n 2, 1) := by decide +kernel
theorem d_Law_law_351 : decode (m_c m_Law_law) 351 = .ok (.invokevirtual 62, 3) := by decide +kernel
theorem d_Law_law_354 : decode (m_c m_Law_law) 354 = .ok (.iload 5, 2) := by decide +kernel
theorem d_Law_law_356 : decode (m_c m_Law_law) 356 = .ok (.if_icmp .eq 5, 3) := by decide +kernel
theorem d_Law_law_359 : decode (m_c m_Law_law) 359 = .ok (.iconst 0, 1) := by decide +kernel
theorem d_Law_law_360 : decode (m_c m_Law_law) 360 = .ok (.ireturn, 1) := by decide +kernel
theorem d_Law_law_361 : decode (m_c m_Law_law) 361 = .ok (.iload 5, 2) := by decide +kernel
theorem d_Law_law_363 : decode (m_c m_Law_law) 363 = .ok (.ifCond .ne 15, 3) := by decide +kernel
theorem d_Law_law_366 : decode (m_c m_Law_law) 366 = .ok (.aload_n 3, 1) := by decide +kernel
theorem d_Law_law_367 : decode (m_c m_Law_law) 367 = .ok (.iconst 0, 1) := by decide +kernel
theorem d_Law_law_368 : decode (m_c m_Law_law) 368 = .ok (.laload, 1) := by decide +kernel
theorem d_Law_law_369 : decode (m_c m_Law_law) 369 = .ok (.iload 6, 2) := by decide +kernel
theorem d_Law_law_371 : decode (m_c m_Law_law) 371 = .ok (.i2l, 1) := by decide +kernel
theorem d_Law_law_372 : decode (m_c m_Law_law) 372 = .ok (.lcmp, 1) := by decide +kernel
theorem d_Law_law_373 : decode (m_c m_Law_law) 373 = .ok (.ifCond .eq 5, 3) := by decide +kernel
theorem d_Law_law_376 : decode (m_c m_Law_law) 376 = .ok (.iconst 0, 1) := by decide +kernel
theorem d_Law_law_377 : decode (m_c m_Law_law) 377 = .ok (.ireturn, 1) := by decide +kernel
theorem d_Law_law_378 : decode (m_c m_Law_law) 378 = .ok (.goto 331, 3) := by decide +kernel
theorem d_Law_law_381 : decode (m_c m_Law_law) 381 = .ok (.aload_n 1, 1) := by decide +kernel
theorem d_Law_law_382 : decode (m_c m_Law_law) 382 = .ok (.aload_n 0, 1) := by decide +kernel
theorem d_Law_law_383 : decode (m_c m_Law_law) 383 = .ok (.iload 4, 2) := by decide +kernel
theorem d_Law_law_385 : decode (m_c m_Law_law) 385 = .ok (.iconst 1, 1) := by decide +kernel
theorem d_Law_law_386 : decode (m_c m_Law_law) 386 = .ok (.iadd, 1) := by decide +kernel
theorem d_Law_law_387 : decode (m_c m_Law_law) 387 = .ok (.iaload, 1) := by decide +kernel
theorem d_Law_law_388 : decode (m_c m_Law_law) 388 = .ok (.aload_n 3, 1) := by decide +kernel
theorem d_Law_law_389 : decode (m_c m_Law_law) 389 = .ok (.invokestatic 87, 3) := by decide +kernel
theorem d_Law_law_392 : decode (m_c m_Law_law) 392 = .ok (.istore 5, 2) := by decide +kernel
theorem d_Law_law_394 : decode (m_c m_Law_law) 394 = .ok (.aload_n 2, 1) := by decide +kernel
theorem d_Law_law_395 : decode (m_c m_Law_law) 395 = .ok (.aload_n 0, 1) := by decide +kernel
theorem d_Law_law_396 : decode (m_c m_Law_law) 396 = .ok (.iload 4, 2) := by decide +kernel
theorem d_Law_law_398 : decode (m_c m_Law_law) 398 = .ok (.iconst 1, 1) := by decide +kernel
theorem d_Law_law_399 : decode (m_c m_Law_law) 399 = .ok (.iadd, 1) := by decide +kernel
theorem d_Law_law_400 : decode (m_c m_Law_law) 400 = .ok (.iaload, 1) := by decide +kernel
theorem d_Law_law_401 : decode (m_c m_Law_law) 401 = .ok (.invokevirtual 90, 3) := by decide +kernel
theorem d_Law_law_404 : decode (m_c m_Law_law) 404 = .ok (.istore 6, 2) := by decide +kernel
theorem d_Law_law_406 : decode (m_c m_Law_law) 406 = .ok (.aload_n 2, 1) := by decide +kernel
theorem d_Law_law_407 : decode (m_c m_Law_law) 407 = .ok (.invokevirtual 62, 3) := by decide +kernel
theorem d_Law_law_410 : decode (m_c m_Law_law) 410 = .ok (.iload 5, 2) := by decide +kernel
theorem d_Law_law_412 : decode (m_c m_Law_law) 412 = .ok (.if_icmp .eq 5, 3) := by decide +kernel
theorem d_Law_law_415 : decode (m_c m_Law_law) 415 = .ok (.iconst 0, 1) := by decide +kernel
theorem d_Law_law_416 : decode (m_c m_Law_law) 416 = .ok (.ireturn, 1) := by decide +kernel
theorem d_Law_law_417 : decode (m_c m_Law_law) 417 = .ok (.iload 5, 2) := by decide +kernel
theorem d_Law_law_419 : decode (m_c m_Law_law) 419 = .ok (.ifCond .ne 15, 3) := by decide +kernel
theorem d_Law_law_422 : decode (m_c m_Law_law) 422 = .ok (.aload_n 3, 1) := by decide +kernel
theorem d_Law_law_423 : decode (m_c m_Law_law) 423 = .ok (.iconst 0, 1) := by decide +kernel
theorem d_Law_law_424 : decode (m_c m_Law_law) 424 = .ok (.laload, 1) := by decide +kernel
theorem d_Law_law_425 : decode (m_c m_Law_law) 425 = .ok (.iload 6, 2) := by decide +kernel
theorem d_Law_law_427 : decode (m_c m_Law_law) 427 = .ok (.i2l, 1) := by decide +kernel
theorem d_Law_law_428 : decode (m_c m_Law_law) 428 = .ok (.lcmp, 1) := by decide +kernel
theorem d_Law_law_429 : decode (m_c m_Law_law) 429 = .ok (.ifCond .eq 5, 3) := by decide +kernel
theorem d_Law_law_432 : decode (m_c m_Law_law) 432 = .ok (.iconst 0, 1) := by decide +kernel
theorem d_Law_law_433 : decode (m_c m_Law_law) 433 = .ok (.ireturn, 1) := by decide +kernel
theorem d_Law_law_434 : decode (m_c m_Law_law) 434 = .ok (.goto 275, 3) := by decide +kernel
theorem d_Law_law_437 : decode (m_c m_Law_law) 437 = .ok (.aload_n 1, 1) := by decide +kernel
theorem d_Law_law_438 : decode (m_c m_Law_law) 438 = .ok (.aload_n 0, 1) := by decide +kernel
theorem d_Law_law_439 : decode (m_c m_Law_law) 439 = .ok (.iload 4, 2) := by decide +kernel
theorem d_Law_law_441 : decode (m_c m_Law_law) 441 = .ok (.iconst 1, 1) := by decide +kernel
theorem d_Law_law_442 : decode (m_c m_Law_law) 442 = .ok (.iadd, 1) := by decide +kernel
theorem d_Law_law_443 : decode (m_c m_Law_law) 443 = .ok (.iaload, 1) := by decide +kernel
theorem d_Law_law_444 : decode (m_c m_Law_law) 444 = .ok (.aload_n 3, 1) := by decide +kernel
theorem d_Law_law_445 : decode (m_c m_Law_law) 445 = .ok (.invokestatic 91, 3) := by decide +kernel
theorem d_Law_law_448 : decode (m_c m_Law_law) 448 = .ok (.istore 5, 2) := by decide +kernel
theorem d_Law_law_450 : decode (m_c m_Law_law) 450 = .ok (.aload_n 2, 1) := by decide +kernel
theorem d_Law_law_451 : decode (m_c m_Law_law) 451 = .ok (.aload_n 0, 1) := by decide +kernel
theorem d_Law_law_452 : decode (m_c m_Law_law) 452 = .ok (.iload 4, 2) := by decide +kernel
theorem d_Law_law_454 : decode (m_c m_Law_law) 454 = .ok (.iconst 1, 1) := by decide +kernel
theorem d_Law_law_455 : decode (m_c m_Law_law) 455 = .ok (.iadd, 1) := by decide +kernel
theorem d_Law_law_456 : decode (m_c m_Law_law) 456 = .ok (.iaload, 1) := by decide +kernel
theorem d_Law_law_457 : decode (m_c m_Law_law) 457 = .ok (.invokevirtual 93, 3) := by decide +kernel
theorem d_Law_law_460 : decode (m_c m_Law_law) 460 = .ok (.istore 6, 2) := by decide +kernel
theorem d_Law_law_462 : decode (m_c m_Law_law) 462 = .ok (.aload_n 2, 1) := by decide +kernel
theorem d_Law_law_463 : decode (m_c m_Law_law) 463 = .ok (.invokevirtual 62, 3) := by decide +kernel
theorem d_Law_law_466 : decode (m_c m_Law_law) 466 = .ok (.iload 5, 2) := by decide +kernel
theorem d_Law_law_468 : decode (m_c m_Law_law) 468 = .ok (.if_icmp .eq 5, 3) := by decide +kernel
theorem d_Law_law_471 : decode (m_c m_Law_law) 471 = .ok (.iconst 0, 1) := by decide +kernel
theorem d_Law_law_472 : decode (m_c m_Law_law) 472 = .ok (.ireturn, 1) := by decide +kernel
theorem d_Law_law_473 : decode (m_c m_Law_law) 473 = .ok (.iload 5, 2) := by decide +kernel
theorem d_Law_law_475 : decode (m_c m_Law_law) 475 = .ok (.ifCond .ne 15, 3) := by decide +kernel
theorem d_Law_law_478 : decode (m_c m_Law_law) 478 = .ok (.aload_n 3, 1) := by decide +kernel
theorem d_Law_law_479 : decode (m_c m_Law_law) 479 = .ok (.iconst 0, 1) := by decide +kernel
theorem d_Law_law_480 : decode (m_c m_Law_law) 480 = .ok (.laload, 1) := by decide +kernel
theorem d_Law_law_481 : decode (m_c m_Law_law) 481 = .ok (.iload 6, 2) := by decide +kernel
theorem d_Law_law_483 : decode (m_c m_Law_law) 483 = .ok (.i2l, 1) := by decide +kernel
theorem d_Law_law_484 : decode (m_c m_Law_law) 484 = .ok (.lcmp, 1) := by decide +kernel
theorem d_Law_law_485 : decode (m_c m_Law_law) 485 = .ok (.ifCond .eq 5, 3) := by decide +kernel
theorem d_Law_law_488 : decode (m_c m_Law_law) 488 = .ok (.iconst 0, 1) := by decide +kernel
theorem d_Law_law_489 : decode (m_c m_Law_law) 489 = .ok (.ireturn, 1) := by decide +kernel
theorem d_Law_law_490 : decode (m_c m_Law_law) 490 = .ok (.goto 219, 3) := by decide +kernel
theorem d_Law_law_493 : decode (m_c m_Law_law) 493 = .ok (.aload_n 1, 1) := by decide +kernel
theorem d_Law_law_494 : decode (m_c m_Law_law) 494 = .ok (.aload_n 3, 1) := by decide +kernel
theorem d_Law_law_495 : decode (m_c m_Law_law) 495 = .ok (.invokestatic 94, 3) := by decide +kernel
theorem d_Law_law_498 : decode (m_c m_Law_law) 498 = .ok (.istore 5, 2) := by decide +kernel
theorem d_Law_law_500 : decode (m_c m_Law_law) 500 = .ok (.aload_n 2, 1) := by decide +kernel
theorem d_Law_law_501 : decode (m_c m_Law_law) 501 = .ok (.invokevirtual 97, 3) := by decide +kernel
theorem d_Law_law_504 : decode (m_c m_Law_law) 504 = .ok (.istore 6, 2) := by decide +kernel
theorem d_Law_law_506 : decode (m_c m_Law_law) 506 = .ok (.aload_n 2, 1) := by decide +kernel
theorem d_Law_law_507 : decode (m_c m_Law_law) 507 = .ok (.invokevirtual 62, 3) := by decide +kernel
theorem d_Law_law_510 : decode (m_c m_Law_law) 510 = .ok (.iload 5, 2) := by decide +kernel
theorem d_Law_law_512 : decode (m_c m_Law_law) 512 = .ok (.if_icmp .eq 5, 3) := by decide +kernel
theorem d_Law_law_515 : decode (m_c m_Law_law) 515 = .ok (.iconst 0, 1) := by decide +kernel
theorem d_Law_law_516 : decode (m_c m_Law_law) 516 = .ok (.ireturn, 1) := by decide +kernel
theorem d_Law_law_517 : decode (m_c m_Law_law) 517 = .ok (.iload 5, 2) := by decide +kernel
theorem d_Law_law_519 : decode (m_c m_Law_law) 519 = .ok (.ifCond .ne 15, 3) := by decide +kernel
theorem d_Law_law_522 : decode (m_c m_Law_law) 522 = .ok (.aload_n 3, 1) := by decide +kernel
theorem d_Law_law_523 : decode (m_c m_Law_law) 523 = .ok (.iconst 0, 1) := by decide +kernel
theorem d_Law_law_524 : decode (m_c m_Law_law) 524 = .ok (.laload, 1) := by decide +kernel
theorem d_Law_law_525 : decode (m_c m_Law_law) 525 = .ok (.iload 6, 2) := by decide +kernel
theorem d_Law_law_527 : decode (m_c m_Law_law) 527 = .ok (.i2l, 1) := by decide +kernel
theorem d_Law_law_528 : decode (m_c m_Law_law) 528 = .ok (.lcmp, 1) := by decide +kernel
theorem d_Law_law_529 : decode (m_c m_Law_law) 529 = .ok (.ifCond .eq 5, 3) := by decide +kernel
theorem d_Law_law_532 : decode (m_c m_Law_law) 532 = .ok (.iconst 0, 1) := by decide +kernel
theorem d_Law_law_533 : decode (m_c m_Law_law) 533 = .ok (.ireturn, 1) := by decide +kernel
theorem d_Law_law_534 : decode (m_c m_Law_law) 534 = .ok (.goto 175, 3) := by decide +kernel
theorem d_Law_law_537 : decode (m_c m_Law_law) 537 = .ok (.aload_n 1, 1) := by decide +kernel
theorem d_Law_law_538 : decode (m_c m_Law_law) 538 = .ok (.aload_n 0, 1) := by decide +kernel
theorem d_Law_law_539 : decode (m_c m_Law_law) 539 = .ok (.iload 4, 2) := by decide +kernel
theorem d_Law_law_541 : decode (m_c m_Law_law) 541 = .ok (.iconst 1, 1) := by decide +kernel
theorem d_Law_law_542 : decode (m_c m_Law_law) 542 = .ok (.iadd, 1) := by decide +kernel
theorem d_Law_law_543 : decode (m_c m_Law_law) 543 = .ok (.iaload, 1) := by decide +kernel
theorem d_Law_law_544 : decode (m_c m_Law_law) 544 = .ok (.aload_n 0, 1) := by decide +kernel
theorem d_Law_law_545 : decode (m_c m_Law_law) 545 = .ok (.iload 4, 2) := by decide +kernel
theorem d_Law_law_547 : decode (m_c m_Law_law) 547 = .ok (.iconst 2, 1) := by decide +kernel
theorem d_Law_law_548 : decode (m_c m_Law_law) 548 = .ok (.iadd, 1) := by decide +kernel
theorem d_Law_law_549 : decode (m_c m_Law_law) 549 = .ok (.iaload, 1) := by decide +kernel
theorem d_Law_law_550 : decode (m_c m_Law_law) 550 = .ok (.aload_n 3, 1) := by decide +kernel
theorem d_Law_law_551 : decode (m_c m_Law_law) 551 = .ok (.invokestatic 98, 3) := by decide +kernel
theorem d_Law_law_554 : decode (m_c m_Law_law) 554 = .ok (.istore 5, 2) := by decide +kernel
theorem d_Law_law_556 : decode (m_c m_Law_law) 556 = .ok (.aload_n 2, 1) := by decide +kernel
theorem d_Law_law_557 : decode (m_c m_Law_law) 557 = .ok (.aload_n 0, 1) := by decide +kernel
theorem d_Law_law_558 : decode (m_c m_Law_law) 558 = .ok (.iload 4, 2) := by decide +kernel
theorem d_Law_law_560 : decode (m_c m_Law_law) 560 = .ok (.iconst 1, 1) := by decide +kernel
theorem d_Law_law_561 : decode (m_c m_Law_law) 561 = .ok (.iadd, 1) := by decide +kernel
theorem d_Law_law_562 : decode (m_c m_Law_law) 562 = .ok (.iaload, 1) := by decide +kernel
theorem d_Law_law_563 : decode (m_c m_Law_law) 563 = .ok (.aload_n 0, 1) := by decide +kernel
theorem d_Law_law_564 : decode (m_c m_Law_law) 564 = .ok (.iload 4, 2) := by decide +kernel
theorem d_Law_law_566 : decode (m_c m_Law_law) 566 = .ok (.iconst 2, 1) := by decide +kernel
theorem d_Law_law_567 : decode (m_c m_Law_law) 567 = .ok (.iadd, 1) := by decide +kernel
theorem d_Law_law_568 : decode (m_c m_Law_law) 568 = .ok (.iaload, 1) := by decide +kernel
theorem d_Law_law_569 : decode (m_c m_Law_law) 569 = .ok (.invokevirtual 100, 3) := by decide +kernel
theorem d_Law_law_572 : decode (m_c m_Law_law) 572 = .ok (.istore 6, 2) := by decide +kernel
theorem d_Law_law_574 : decode (m_c m_Law_law) 574 = .ok (.aload_n 2, 1) := by decide +kernel
theorem d_Law_law_575 : decode (m_c m_Law_law) 575 = .ok (.invokevirtual 62, 3) := by decide +kernel
theorem d_Law_law_578 : decode (m_c m_Law_law) 578 = .ok (.iload 5, 2) := by decide +kernel
theorem d_Law_law_580 : decode (m_c m_Law_law) 580 = .ok (.if_icmp .eq 5, 3) := by decide +kernel
theorem d_Law_law_583 : decode (m_c m_Law_law) 583 = .ok (.iconst 0, 1) := by decide +kernel
theorem d_Law_law_584 : decode (m_c m_Law_law) 584 = .ok (.ireturn, 1) := by decide +kernel
theorem d_Law_law_585 : decode (m_c m_Law_law) 585 = .ok (.iload 5, 2) := by decide +kernel
theorem d_Law_law_587 : decode (m_c m_Law_law) 587 = .ok (.ifCond .ne 15, 3) := by decide +kernel
theorem d_Law_law_590 : decode (m_c m_Law_law) 590 = .ok (.aload_n 3, 1) := by decide +kernel
theorem d_Law_law_591 : decode (m_c m_Law_law) 591 = .ok (.iconst 0, 1) := by decide +kernel
theorem d_Law_law_592 : decode (m_c m_Law_law) 592 = .ok (.laload, 1) := by decide +kernel
theorem d_Law_law_593 : decode (m_c m_Law_law) 593 = .ok (.iload 6, 2) := by decide +kernel
theorem d_Law_law_595 : decode (m_c m_Law_law) 595 = .ok (.i2l, 1) := by decide +kernel
theorem d_Law_law_596 : decode (m_c m_Law_law) 596 = .ok (.lcmp, 1) := by decide +kernel
theorem d_Law_law_597 : decode (m_c m_Law_law) 597 = .ok (.ifCond .eq 5, 3) := by decide +kernel
theorem d_Law_law_600 : decode (m_c m_Law_law) 600 = .ok (.iconst 0, 1) := by decide +kernel
theorem d_Law_law_601 : decode (m_c m_Law_law) 601 = .ok (.ireturn, 1) := by decide +kernel
theorem d_Law_law_602 : decode (m_c m_Law_law) 602 = .ok (.goto 107, 3) := by decide +kernel
theorem d_Law_law_605 : decode (m_c m_Law_law) 605 = .ok (.aload_n 1, 1) := by decide +kernel
theorem d_Law_law_606 : decode (m_c m_Law_law) 606 = .ok (.invokestatic 101, 3) := by decide +kernel
theorem d_Law_law_609 : decode (m_c m_Law_law) 609 = .ok (.istore 5, 2) := by decide +kernel
theorem d_Law_law_611 : decode (m_c m_Law_law) 611 = .ok (.aload_n 2, 1) := by decide +kernel
theorem d_Law_law_612 : decode (m_c m_Law_law) 612 = .ok (.invokevirtual 104, 3) := by decide +kernel
theorem d_Law_law_615 : decode (m_c m_Law_law) 615 = .ok (.aload_n 2, 1) := by decide +kernel
theorem d_Law_law_616 : decode (m_c m_Law_law) 616 = .ok (.invokevirtual 62, 3) := by decide +kernel
theorem d_Law_law_619 : decode (m_c m_Law_law) 619 = .ok (.iload 5, 2) := by decide +kernel
theorem d_Law_law_621 : decode (m_c m_Law_law) 621 = .ok (.if_icmp .eq 5, 3) := by decide +kernel
theorem d_Law_law_624 : decode (m_c m_Law_law) 624 = .ok (.iconst 0, 1) := by decide +kernel
theorem d_Law_law_625 : decode (m_c m_Law_law) 625 = .ok (.ireturn, 1) := by decide +kernel
theorem d_Law_law_626 : decode (m_c m_Law_law) 626 = .ok (.goto 83, 3) := by decide +kernel
theorem d_Law_law_629 : decode (m_c m_Law_law) 629 = .ok (.aload_n 1, 1) := by decide +kernel
theorem d_Law_law_630 : decode (m_c m_Law_law) 630 = .ok (.invokestatic 105, 3) := by decide +kernel
theorem d_Law_law_633 : decode (m_c m_Law_law) 633 = .ok (.istore 5, 2) := by decide +kernel
theorem d_Law_law_635 : decode (m_c m_Law_law) 635 = .ok (.aload_n 2, 1) := by decide +kernel
theorem d_Law_law_636 : decode (m_c m_Law_law) 636 = .ok (.invokevirtual 107, 3) := by decide +kernel
theorem d_Law_law_639 : decode (m_c m_Law_law) 639 = .ok (.aload_n 2, 1) := by decide +kernel
theorem d_Law_law_640 : decode (m_c m_Law_law) 640 = .ok (.invokevirtual 62, 3) := by decide +kernel
theorem d_Law_law_643 : decode (m_c m_Law_law) 643 = .ok (.iload 5, 2) := by decide +kernel
theorem d_Law_law_645 : decode (m_c m_Law_law) 645 = .ok (.if_icmp .eq 5, 3) := by decide +kernel
theorem d_Law_law_648 : decode (m_c m_Law_law) 648 = .ok (.iconst 0, 1) := by decide +kernel
theorem d_Law_law_649 : decode (m_c m_Law_law) 649 = .ok (.ireturn, 1) := by decide +kernel
theorem d_Law_law_650 : decode (m_c m_Law_law) 650 = .ok (.goto 59, 3) := by decide +kernel
theorem d_Law_law_653 : decode (m_c m_Law_law) 653 = .ok (.aload_n 1, 1) := by decide +kernel
theorem d_Law_law_654 : decode (m_c m_Law_law) 654 = .ok (.aload_n 0, 1) := by decide +kernel
theorem d_Law_law_655 : decode (m_c m_Law_law) 655 = .ok (.iload 4, 2) := by decide +kernel
theorem d_Law_law_657 : decode (m_c m_Law_law) 657 = .ok (.iconst 1, 1) := by decide +kernel
theorem d_Law_law_658 : decode (m_c m_Law_law) 658 = .ok (.iadd, 1) := by decide +kernel
theorem d_Law_law_659 : decode (m_c m_Law_law) 659 = .ok (.iaload, 1) := by decide +kernel
theorem d_Law_law_660 : decode (m_c m_Law_law) 660 = .ok (.aload_n 3, 1) := by decide +kernel
theorem d_Law_law_661 : decode (m_c m_Law_law) 661 = .ok (.invokestatic 108, 3) := by decide +kernel
theorem d_Law_law_664 : decode (m_c m_Law_law) 664 = .ok (.istore 5, 2) := by decide +kernel
theorem d_Law_law_666 : decode (m_c m_Law_law) 666 = .ok (.aload_n 2, 1) := by decide +kernel
theorem d_Law_law_667 : decode (m_c m_Law_law) 667 = .ok (.aload_n 0, 1) := by decide +kernel
theorem d_Law_law_668 : decode (m_c m_Law_law) 668 = .ok (.iload 4, 2) := by decide +kernel
theorem d_Law_law_670 : decode (m_c m_Law_law) 670 = .ok (.iconst 1, 1) := by decide +kernel
theorem d_Law_law_671 : decode (m_c m_Law_law) 671 = .ok (.iadd, 1) := by decide +kernel
theorem d_Law_law_672 : decode (m_c m_Law_law) 672 = .ok (.iaload, 1) := by decide +kernel
theorem d_Law_law_673 : decode (m_c m_Law_law) 673 = .ok (.invokevirtual 110, 3) := by decide +kernel
theorem d_Law_law_676 : decode (m_c m_Law_law) 676 = .ok (.istore 6, 2) := by decide +kernel
theorem d_Law_law_678 : decode (m_c m_Law_law) 678 = .ok (.aload_n 2, 1) := by decide +kernel
theorem d_Law_law_679 : decode (m_c m_Law_law) 679 = .ok (.invokevirtual 62, 3) := by decide +kernel
theorem d_Law_law_682 : decode (m_c m_Law_law) 682 = .ok (.iload 5, 2) := by decide +kernel
theorem d_Law_law_684 : decode (m_c m_Law_law) 684 = .ok (.if_icmp .eq 5, 3) := by decide +kernel
theorem d_Law_law_687 : decode (m_c m_Law_law) 687 = .ok (.iconst 0, 1) := by decide +kernel
theorem d_Law_law_688 : decode (m_c m_Law_law) 688 = .ok (.ireturn, 1) := by decide +kernel
theorem d_Law_law_689 : decode (m_c m_Law_law) 689 = .ok (.iload 5, 2) := by decide +kernel
theorem d_Law_law_691 : decode (m_c m_Law_law) 691 = .ok (.ifCond .ne 15, 3) := by decide +kernel
theorem d_Law_law_694 : decode (m_c m_Law_law) 694 = .ok (.aload_n 3, 1) := by decide +kernel
theorem d_Law_law_695 : decode (m_c m_Law_law) 695 = .ok (.iconst 0, 1) := by decide +kernel
theorem d_Law_law_696 : decode (m_c m_Law_law) 696 = .ok (.laload, 1) := by decide +kernel
theorem d_Law_law_697 : decode (m_c m_Law_law) 697 = .ok (.iload 6, 2) := by decide +kernel
theorem d_Law_law_699 : decode (m_c m_Law_law) 699 = .ok (.i2l, 1) := by decide +kernel
theorem d_Law_law_700 : decode (m_c m_Law_law) 700 = .ok (.lcmp, 1) := by decide +kernel
theorem d_Law_law_701 : decode (m_c m_Law_law) 701 = .ok (.ifCond .eq 5, 3) := by decide +kernel
theorem d_Law_law_704 : decode (m_c m_Law_law) 704 = .ok (.iconst 0, 1) := by decide +kernel
theorem d_Law_law_705 : decode (m_c m_Law_law) 705 = .ok (.ireturn, 1) := by decide +kernel
theorem d_Law_law_706 : decode (m_c m_Law_law) 706 = .ok (.goto 3, 3) := by decide +kernel
theorem d_Law_law_709 : decode (m_c m_Law_law) 709 = .ok (.iinc 4 5, 3) := by decide +kernel
theorem d_Law_law_712 : decode (m_c m_Law_law) 712 = .ok (.goto (-689), 3) := by decide +kernel
theorem d_Law_law_715 : decode (m_c m_Law_law) 715 = .ok (.iconst 1, 1) := by decide +kernel
theorem d_Law_law_716 : decode (m_c m_Law_law) 716 = .ok (.ireturn, 1) := by decide +kernel
