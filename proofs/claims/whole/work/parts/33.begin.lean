/-! ===== from the law's entry to its loop; printed by gen33.py ===== -/
def q_B (R : Nat → Nat → Option Nat) : Prop := ∀ a k, 98 ≤ a ∨ 50 ≤ k → R a k = none
theorem q_B_clr {R : Nat → Nat → Option Nat} {a : Nat} (h : q_B R) : q_B (ma_clr R a none) := by
  intro b k hb
  unfold ma_clr
  split
  · rfl
  · exact h b k hb
theorem q_B_up {R : Nat → Nat → Option Nat} {a j q : Nat} (h : q_B R) (ha : a < 98) (hj : j < 50) : q_B (ma_up R a j (some q)) := by
  intro b k hb
  unfold ma_up
  split
  · rename_i e
    split
    · omega
    · exact h b k hb
  · exact h b k hb
theorem cb_0 : q_B cz_R0 := fun _ _ _ => rfl
theorem cb_D : q_B cz_RD := (q_B_clr cb_0)
theorem cb_2 : q_B cz_R2 := (q_B_clr cb_D)
theorem cb_4 : q_B cz_R4 := (q_B_up (q_B_clr cb_2) (by decide) (by decide))
theorem cb_5 : q_B cz_R5 := (q_B_up cb_4 (by decide) (by decide))
theorem cb_7 : q_B cz_R7 := (q_B_clr cb_5)
theorem cb_9 : q_B cz_R9 := (q_B_clr cb_7)
theorem cb_10 : q_B cz_R10 := (q_B_up cb_9 (by decide) (by decide))
theorem cb_12 : q_B cz_R12 := (q_B_clr cb_10)
theorem cb_13 : q_B cz_R13 := (q_B_up cb_12 (by decide) (by decide))
theorem cb_15 : q_B cz_R15 := (q_B_clr cb_13)
theorem cb_16 : q_B cz_R16 := (q_B_up cb_15 (by decide) (by decide))
theorem cb_18 : q_B cz_R18 := (q_B_clr cb_16)
theorem cb_19 : q_B cz_R19 := (q_B_up cb_18 (by decide) (by decide))
theorem cb_21 : q_B cz_R21 := (q_B_clr cb_19)
theorem cb_23 : q_B cz_R23 := (q_B_up (q_B_clr (q_B_up (q_B_clr cb_21) (by decide) (by decide))) (by decide) (by decide))
theorem cb_24 : q_B cz_R24 := (q_B_up cb_23 (by decide) (by decide))
theorem cb_26 : q_B cz_R26 := (q_B_clr cb_24)
theorem cb_28 : q_B cz_R28 := (q_B_up (q_B_clr (q_B_up (q_B_clr cb_26) (by decide) (by decide))) (by decide) (by decide))
theorem cb_29 : q_B cz_R29 := (q_B_up cb_28 (by decide) (by decide))
theorem cb_31 : q_B cz_R31 := (q_B_clr cb_29)
theorem cb_32 : q_B cz_R32 := (q_B_up cb_31 (by decide) (by decide))
theorem cb_35 : q_B cz_R35 := (q_B_clr cb_32)
theorem cb_36 : q_B cz_R36 := (q_B_up cb_35 (by decide) (by decide))
theorem cb_39 : q_B cz_R39 := (q_B_clr cb_36)
theorem cb_41 : q_B cz_R41 := (q_B_up cb_39 (by decide) (by decide))
theorem cb_43 : q_B cz_R43 := (q_B_clr cb_41)
theorem cb_45 : q_B cz_R45 := (q_B_up cb_43 (by decide) (by decide))
theorem cb_47 : q_B cz_R47 := (q_B_clr cb_45)
theorem cb_49 : q_B cz_R49 := (q_B_up cb_47 (by decide) (by decide))
theorem cb_51 : q_B cz_R51 := (q_B_clr cb_49)
theorem cb_53 : q_B cz_R53 := (q_B_up cb_51 (by decide) (by decide))
theorem cb_55 : q_B cz_R55 := (q_B_clr cb_53)
theorem cb_57 : q_B cz_R57 := (q_B_up cb_55 (by decide) (by decide))
theorem cb_59 : q_B cz_R59 := (q_B_clr cb_57)
theorem cb_61 : q_B cz_R61 := (q_B_up cb_59 (by decide) (by decide))
theorem cb_63 : q_B cz_R63 := (q_B_clr cb_61)
theorem cb_65 : q_B cz_R65 := (q_B_up cb_63 (by decide) (by decide))
theorem cb_67 : q_B cz_R67 := (q_B_clr cb_65)
theorem cb_69 : q_B cz_R69 := (q_B_up cb_67 (by decide) (by decide))
theorem cb_71 : q_B cz_R71 := (q_B_clr cb_69)
theorem cb_73 : q_B cz_R73 := (q_B_up cb_71 (by decide) (by decide))
theorem cb_75 : q_B cz_R75 := (q_B_clr cb_73)
theorem cb_77 : q_B cz_R77 := (q_B_up cb_75 (by decide) (by decide))
theorem cb_79 : q_B cz_R79 := (q_B_clr cb_77)
theorem cb_81 : q_B cz_R81 := (q_B_up cb_79 (by decide) (by decide))
theorem cb_83 : q_B cz_R83 := (q_B_clr cb_81)
theorem cb_85 : q_B cz_R85 := (q_B_up cb_83 (by decide) (by decide))
theorem cb_87 : q_B cz_R87 := (q_B_clr cb_85)
theorem cb_89 : q_B cz_R89 := (q_B_up cb_87 (by decide) (by decide))
theorem cb_91 : q_B cz_R91 := (q_B_clr cb_89)
theorem cb_93 : q_B cz_R93 := (q_B_up cb_91 (by decide) (by decide))
theorem cb_95 : q_B cz_R95 := (q_B_clr cb_93)
theorem cb_97 : q_B cz_R97 := (q_B_up cb_95 (by decide) (by decide))
theorem cb_99 : q_B cz_R99 := (q_B_clr cb_97)
theorem cb_101 : q_B cz_R101 := (q_B_up cb_99 (by decide) (by decide))
theorem cb_103 : q_B cz_R103 := (q_B_clr cb_101)
theorem cb_105 : q_B cz_R105 := (q_B_up cb_103 (by decide) (by decide))
theorem cb_107 : q_B cz_R107 := (q_B_clr cb_105)
theorem cb_109 : q_B cz_R109 := (q_B_up cb_107 (by decide) (by decide))
theorem cb_111 : q_B cz_R111 := (q_B_clr cb_109)
theorem cb_113 : q_B cz_R113 := (q_B_up cb_111 (by decide) (by decide))
theorem cb_115 : q_B cz_R115 := (q_B_clr cb_113)
theorem cb_117 : q_B cz_R117 := (q_B_up cb_115 (by decide) (by decide))
theorem cb_119 : q_B cz_R119 := (q_B_clr cb_117)
theorem cb_121 : q_B cz_R121 := (q_B_up cb_119 (by decide) (by decide))
theorem cb_123 : q_B cz_R123 := (q_B_clr cb_121)
theorem cb_125 : q_B cz_R125 := (q_B_up cb_123 (by decide) (by decide))
theorem cb_127 : q_B cz_R127 := (q_B_clr cb_125)
theorem cb_129 : q_B cz_R129 := (q_B_up cb_127 (by decide) (by decide))
theorem cb_131 : q_B cz_R131 := (q_B_clr cb_129)
theorem cb_133 : q_B cz_R133 := (q_B_up cb_131 (by decide) (by decide))
theorem cb_135 : q_B cz_R135 := (q_B_clr cb_133)
theorem cb_137 : q_B cz_R137 := (q_B_up cb_135 (by decide) (by decide))
theorem cb_139 : q_B cz_R139 := (q_B_clr cb_137)
theorem cb_141 : q_B cz_R141 := (q_B_up cb_139 (by decide) (by decide))
theorem cb_143 : q_B cz_R143 := (q_B_clr cb_141)
theorem cb_145 : q_B cz_R145 := (q_B_up cb_143 (by decide) (by decide))
theorem cb_147 : q_B cz_R147 := (q_B_clr cb_145)
theorem cb_149 : q_B cz_R149 := (q_B_up cb_147 (by decide) (by decide))
theorem cb_151 : q_B cz_R151 := (q_B_clr cb_149)
theorem cb_153 : q_B cz_R153 := (q_B_up cb_151 (by decide) (by decide))
theorem cb_155 : q_B cz_R155 := (q_B_clr cb_153)
theorem cb_157 : q_B cz_R157 := (q_B_up cb_155 (by decide) (by decide))
theorem cb_159 : q_B cz_R159 := (q_B_clr cb_157)
theorem cb_161 : q_B cz_R161 := (q_B_up cb_159 (by decide) (by decide))
theorem cb_163 : q_B cz_R163 := (q_B_clr cb_161)
theorem cb_165 : q_B cz_R165 := (q_B_up cb_163 (by decide) (by decide))
theorem cb_167 : q_B cz_R167 := (q_B_clr cb_165)
theorem cb_169 : q_B cz_R169 := (q_B_up cb_167 (by decide) (by decide))
theorem cb_171 : q_B cz_R171 := (q_B_clr cb_169)
theorem cb_173 : q_B cz_R173 := (q_B_up cb_171 (by decide) (by decide))
theorem cb_175 : q_B cz_R175 := (q_B_clr cb_173)
theorem cb_177 : q_B cz_R177 := (q_B_up cb_175 (by decide) (by decide))
theorem cb_179 : q_B cz_R179 := (q_B_clr cb_177)
theorem cb_181 : q_B cz_R181 := (q_B_up cb_179 (by decide) (by decide))
theorem cb_183 : q_B cz_R183 := (q_B_clr cb_181)
theorem cb_185 : q_B cz_R185 := (q_B_up cb_183 (by decide) (by decide))
theorem cb_187 : q_B cz_R187 := (q_B_clr cb_185)
theorem cb_189 : q_B cz_R189 := (q_B_up cb_187 (by decide) (by decide))
theorem cb_191 : q_B cz_R191 := cb_189
theorem cb_192 : q_B cz_R192 := (q_B_up cb_191 (by decide) (by decide))
theorem cb_194 : q_B cz_R194 := (q_B_clr cb_192)
theorem cb_196 : q_B cz_R196 := (q_B_up (q_B_up cb_194 (by decide) (by decide)) (by decide) (by decide))
theorem cb_197 : q_B cz_R197 := (q_B_up cb_196 (by decide) (by decide))
theorem cb_199 : q_B cz_R199 := (q_B_clr cb_197)
theorem cb_201 : q_B cz_R201 := (q_B_up (q_B_up (q_B_clr cb_199) (by decide) (by decide)) (by decide) (by decide))
theorem cb_202 : q_B cz_R202 := (q_B_up cb_201 (by decide) (by decide))
theorem cb_204 : q_B cz_R204 := (q_B_clr cb_202)
theorem cb_205 : q_B cz_R205 := (q_B_up cb_204 (by decide) (by decide))
theorem cb_206 : q_B cz_R206 := (q_B_up cb_205 (by decide) (by decide))
theorem cb_208 : q_B cz_R208 := (q_B_clr cb_206)
theorem cb_210 : q_B cz_R210 := (q_B_up (q_B_clr cb_208) (by decide) (by decide))
theorem cb_211 : q_B cz_R211 := (q_B_up cb_210 (by decide) (by decide))
theorem cb_M : q_B cz_RM := (q_B_clr cb_211)
theorem cb_215 : q_B cz_R215 := (q_B_clr cb_M)
theorem cb_216 : q_B cz_R216 := (q_B_up cb_215 (by decide) (by decide))
theorem cb_218 : q_B cz_R218 := (q_B_clr cb_216)
theorem cb_219 : q_B cz_R219 := (q_B_up cb_218 (by decide) (by decide))
theorem cb_221 : q_B cz_R221 := (q_B_clr cb_219)
theorem cb_222 : q_B cz_R222 := (q_B_up cb_221 (by decide) (by decide))
theorem cb_224 : q_B cz_R224 := (q_B_clr cb_222)
theorem cb_225 : q_B cz_R225 := (q_B_up cb_224 (by decide) (by decide))
theorem cb_227 : q_B cz_R227 := (q_B_clr cb_225)
theorem cb_228 : q_B cz_R228 := (q_B_up cb_227 (by decide) (by decide))
theorem cb_230 : q_B cz_R230 := (q_B_clr cb_228)
theorem cb_231 : q_B cz_R231 := (q_B_up cb_230 (by decide) (by decide))
theorem cb_234 : q_B cz_R234 := (q_B_clr cb_231)
theorem cb_235 : q_B cz_R235 := (q_B_up cb_234 (by decide) (by decide))
theorem cb_237 : q_B cz_R237 := (q_B_clr cb_235)
theorem cb_238 : q_B cz_R238 := (q_B_up cb_237 (by decide) (by decide))
theorem cb_240 : q_B cz_R240 := (q_B_clr cb_238)
theorem cb_241 : q_B cz_R241 := (q_B_up cb_240 (by decide) (by decide))
theorem cb_243 : q_B cz_R243 := (q_B_clr cb_241)
theorem cb_244 : q_B cz_R244 := (q_B_up cb_243 (by decide) (by decide))
theorem cb_246 : q_B cz_R246 := (q_B_clr cb_244)
theorem cb_247 : q_B cz_R247 := (q_B_up cb_246 (by decide) (by decide))
theorem cb_249 : q_B cz_R249 := (q_B_clr cb_247)
theorem cb_250 : q_B cz_R250 := (q_B_up cb_249 (by decide) (by decide))
theorem cb_252 : q_B cz_R252 := (q_B_clr cb_250)
theorem cb_253 : q_B cz_R253 := (q_B_up cb_252 (by decide) (by decide))
theorem cb_255 : q_B cz_R255 := (q_B_clr cb_253)
theorem cb_256 : q_B cz_R256 := (q_B_up cb_255 (by decide) (by decide))
theorem cb_258 : q_B cz_R258 := (q_B_clr cb_256)
theorem cb_259 : q_B cz_R259 := (q_B_up cb_258 (by decide) (by decide))
theorem cb_261 : q_B cz_R261 := (q_B_clr cb_259)
theorem cb_262 : q_B cz_R262 := (q_B_up cb_261 (by decide) (by decide))
theorem cb_264 : q_B cz_R264 := (q_B_clr cb_262)
theorem cb_265 : q_B cz_R265 := (q_B_up cb_264 (by decide) (by decide))
theorem cb_267 : q_B cz_R267 := (q_B_clr cb_265)
theorem cb_268 : q_B cz_R268 := (q_B_up cb_267 (by decide) (by decide))
theorem cb_270 : q_B cz_R270 := (q_B_clr cb_268)
theorem cb_271 : q_B cz_R271 := (q_B_up cb_270 (by decide) (by decide))
theorem cb_273 : q_B cz_R273 := (q_B_clr cb_271)
theorem cb_274 : q_B cz_R274 := (q_B_up cb_273 (by decide) (by decide))
theorem cb_276 : q_B cz_R276 := (q_B_clr cb_274)
theorem cb_277 : q_B cz_R277 := (q_B_up cb_276 (by decide) (by decide))
theorem cb_279 : q_B cz_R279 := (q_B_clr cb_277)
theorem cb_280 : q_B cz_R280 := (q_B_up cb_279 (by decide) (by decide))
theorem cb_282 : q_B cz_R282 := (q_B_clr cb_280)
theorem cb_283 : q_B cz_R283 := (q_B_up cb_282 (by decide) (by decide))
theorem cb_285 : q_B cz_R285 := (q_B_clr cb_283)
theorem cb_286 : q_B cz_R286 := (q_B_up cb_285 (by decide) (by decide))
theorem cb_288 : q_B cz_R288 := (q_B_clr cb_286)
theorem cb_289 : q_B cz_R289 := (q_B_up cb_288 (by decide) (by decide))
theorem cb_291 : q_B cz_R291 := (q_B_clr cb_289)
theorem cb_292 : q_B cz_R292 := (q_B_up cb_291 (by decide) (by decide))
theorem cb_294 : q_B cz_R294 := (q_B_clr cb_292)
theorem cb_295 : q_B cz_R295 := (q_B_up cb_294 (by decide) (by decide))
theorem cb_297 : q_B cz_R297 := (q_B_clr cb_295)
theorem cb_298 : q_B cz_R298 := (q_B_up cb_297 (by decide) (by decide))
theorem cb_300 : q_B cz_R300 := (q_B_clr cb_298)
theorem cb_301 : q_B cz_R301 := (q_B_up cb_300 (by decide) (by decide))
theorem cb_303 : q_B cz_R303 := (q_B_clr cb_301)
theorem cb_304 : q_B cz_R304 := (q_B_up cb_303 (by decide) (by decide))
theorem cb_306 : q_B cz_R306 := (q_B_clr cb_304)
theorem cb_307 : q_B cz_R307 := (q_B_up cb_306 (by decide) (by decide))
theorem cb_309 : q_B cz_R309 := (q_B_clr cb_307)
theorem cb_310 : q_B cz_R310 := (q_B_up cb_309 (by decide) (by decide))
theorem cb_312 : q_B cz_R312 := (q_B_clr cb_310)
theorem cb_313 : q_B cz_R313 := (q_B_up cb_312 (by decide) (by decide))
theorem cb_315 : q_B cz_R315 := (q_B_clr cb_313)
theorem cb_316 : q_B cz_R316 := (q_B_up cb_315 (by decide) (by decide))
theorem cb_318 : q_B cz_R318 := (q_B_clr cb_316)
theorem cb_319 : q_B cz_R319 := (q_B_up cb_318 (by decide) (by decide))
theorem cb_321 : q_B cz_R321 := (q_B_clr cb_319)
theorem cb_322 : q_B cz_R322 := (q_B_up cb_321 (by decide) (by decide))
theorem cb_E : q_B cz_RE := (q_B_clr cb_322)
theorem cz_R_in : ∀ a, a < 98 → ∀ k, k < 50 → cz_RE a k = q_R a k := by decide +kernel
theorem q_RLl : q_RL.length = 98 := by decide +kernel
theorem q_RL_row : ∀ r ∈ q_RL, r.length ≤ 50 := by decide +kernel
theorem q_R_out {a k : Nat} (h : 98 ≤ a ∨ 50 ≤ k) : q_R a k = none := by
  unfold q_R
  rw [List.getD_eq_getElem?_getD, List.getD_eq_getElem?_getD]
  by_cases ha : 98 ≤ a
  · have h9 : q_RL[a]? = none := List.getElem?_eq_none (by rw [q_RLl]; exact ha)
    rw [h9]
    rfl
  · have h2 : 50 ≤ k := by omega
    have hl : a < q_RL.length := by rw [q_RLl]; omega
    rw [List.getElem?_eq_getElem hl]
    have h3 := q_RL_row _ (List.getElem_mem hl)
    show (q_RL[a][k]?).getD none = none
    rw [List.getElem?_eq_none (by omega)]
    rfl
theorem cz_R_eq : cz_RE = q_R := by
  funext a k
  by_cases h : 98 ≤ a ∨ 50 ≤ k
  · rw [cb_E a k h, q_R_out h]
  · exact cz_R_in a (by omega) k (by omega)
theorem q_c_all : q_c 98 cz_fE cz_RE = ((true, q_SH), cz_fE, (fun _ _ => 0), q_R) := by
  unfold q_c
  rw [List.take_of_length_le (by rw [q_SHl]; exact Nat.le_refl _), cz_R_eq]
theorem law_begin (t : q_V) (ok : ma_ok (q_G t)) (L : Nat) (xs : Nat → Int32) (hLx : g_L (q_G t) = L) (hxs : g_xs (q_G t) = xs) (hL : L ≤ 100000) {Q : Option Value → ma_H → Prop} {y : Int × q_F × q_F} (hQ : Q (some (ma_i y.1)) (q_h y.2.1 y.2.2)) (hp : p_Law_law_23 L xs 600 0 cz_fE (fun _ _ => 0) = some y) : ma_Ev (q_G t) 2048 84000 601024 7293034 m_Law_law 0 [(0, .ref (g_b (q_G t)))] [] (q_c 0 cz_f0 cz_R0) (ma_zr (q_G t) false Q) := by
  refine ec_new (pc := 0) (k := 601023) (n := 7293026) ok cz_fD cz_RD d_Law_law_0 s_0 k_0 rfl q_df0 (q_in 22 (by decide +kernel) rfl) (q_in 23 (by decide +kernel) rfl) (q_in 1 (by decide +kernel) rfl) rfl rfl ?_
  refine ev_dup (pc := 3) d_Law_law_3 rfl ?_
  refine ec_callI (pc := 4) (k := 600964) (n := 7291235) (c1 := 60) (f1 := cz_f213) (R1 := cz_R211) (mc := 59) (ms := 1791) ok [] [q_a t 0] (cf_Law_52 t) d_Law_law_4 (t_Desk_init t ok) rfl rfl (q_ble rfl) (q_ble rfl) (q_ble rfl) ?_
  refine ev_astore_n (pc := 7) d_Law_law_7 rfl (by decide) [(1, q_a t 0), (0, .ref (g_b (q_G t)))] rfl ?_
  refine ec_new (pc := 8) (k := 600963) (n := 7291188) ok cz_fM cz_RM d_Law_law_8 s_60 k_12 rfl q_df12 (q_in 821 (by decide +kernel) rfl) (q_in 822 (by decide +kernel) rfl) (q_in 13 (by decide +kernel) rfl) rfl rfl ?_
  refine ev_dup (pc := 11) d_Law_law_11 rfl ?_
  refine ec_callI (pc := 12) (k := 600927) (n := 7289544) (c1 := 97) (f1 := cz_f330) (R1 := cz_R322) (mc := 36) (ms := 1644) ok [] [q_a t 60] (cf_Law_55 t) d_Law_law_12 (t_Mod_init t ok) rfl rfl (q_ble rfl) (q_ble rfl) (q_ble rfl) ?_
  refine ev_astore_n (pc := 15) d_Law_law_15 rfl (by decide) [(2, q_a t 60), (1, q_a t 0), (0, .ref (g_b (q_G t)))] rfl ?_
  refine ev_iconst (pc := 16) d_Law_law_16 ?_
  refine ec_newa (pc := 17) (k := 600926) (n := 7289543) cz_fE cz_RE d_Law_law_17 s_97 rfl (.inr rfl) (by decide) (by decide) (q_in 970 (by decide +kernel) rfl) rfl rfl ?_
  refine ev_astore_n (pc := 19) d_Law_law_19 rfl (by decide) [(3, q_a t 97), (2, q_a t 60), (1, q_a t 0), (0, .ref (g_b (q_G t)))] rfl ?_
  rw [q_c_all]
  refine ev_close q_SHl ?_
  change ma_Ev (q_G t) 2048 84000 600926 7289543 m_Law_law 20 [(3, q_a t 97), (2, q_a t 60), (1, q_a t 0), (0, .ref (g_b (q_G t)))] [] (q_h cz_fE fun _ _ => 0) (ma_zr (q_G t) false Q)
  refine ev_iconst (pc := 20) d_Law_law_20 ?_
  refine ev_istore (pc := 21) d_Law_law_21 (by decide) [(4, ma_i 0), (3, q_a t 97), (2, q_a t 60), (1, q_a t 0), (0, .ref (g_b (q_G t)))] rfl ?_
  refine ev_sub (ls2 := [(0, .ref (g_b (q_G t))), (1, q_a t 0), (2, q_a t 60), (3, q_a t 97), (4, ma_i 0)]) [4, 3, 2, 1, 0] rfl ?_
  refine ev_less (k2 := 600) (n2 := 6 * 600) rfl (q_ble rfl) (q_ble rfl) ?_
  exact e_Law_law_23 t ok L xs hLx hxs hL hQ 600 0 cz_fE (fun _ _ => 0) hp
