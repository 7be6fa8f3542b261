/-! THE LAW'S LOOP: a theorem a case (written by gen_law.py) -/
theorem mq_L_13 : Cond.methodLink "ThreeColoursLaw" 13 yX11_thing ∈ lwG := (lwT3 92 rfl rfl)
theorem mq_L_17 : Cond.methodLink "ThreeColoursLaw" 17 yX12_thing ∈ lwG := (lwT7 56 rfl rfl)
theorem mq_L_18 : Cond.methodLink "ThreeColoursLaw" 18 yX11_put ∈ lwG := (lwT3 115 rfl rfl)
theorem mq_L_22 : Cond.methodLink "ThreeColoursLaw" 22 yX12_put ∈ lwG := (lwT7 67 rfl rfl)
theorem mq_L_23 : Cond.methodLink "ThreeColoursLaw" 23 yX11_bloom ∈ lwG := (lwT3 128 rfl rfl)
theorem mq_L_26 : Cond.methodLink "ThreeColoursLaw" 26 yX12_bloom ∈ lwG := (lwT7 82 rfl rfl)
theorem mq_L_27 : Cond.methodLink "ThreeColoursLaw" 27 yX11_window ∈ lwG := (lwT3 132 rfl rfl)
theorem mq_L_30 : Cond.methodLink "ThreeColoursLaw" 30 yX12_window ∈ lwG := (lwT7 86 rfl rfl)
theorem mq_L_31 : Cond.methodLink "ThreeColoursLaw" 31 yX11_turn ∈ lwG := (lwT3 140 rfl rfl)
theorem mq_L_34 : Cond.methodLink "ThreeColoursLaw" 34 yX12_turn ∈ lwG := (lwT7 94 rfl rfl)
theorem mq_L_35 : Cond.methodLink "ThreeColoursLaw" 35 yX11_of ∈ lwG := (lwT3 150 rfl rfl)
theorem mq_L_39 : Cond.methodLink "ThreeColoursLaw" 39 yX12_of ∈ lwG := (lwT7 102 rfl rfl)
theorem mq_L_40 : Cond.methodLink "ThreeColoursLaw" 40 yX11_street ∈ lwG := (lwT3 159 rfl rfl)
theorem mq_L_43 : Cond.methodLink "ThreeColoursLaw" 43 yX12_street ∈ lwG := (lwT7 117 rfl rfl)
theorem mq_L_44 : Cond.methodLink "ThreeColoursLaw" 44 yX11_person ∈ lwG := (lwT3 167 rfl rfl)
theorem mq_L_48 : Cond.methodLink "ThreeColoursLaw" 48 yX12_person ∈ lwG := (lwT7 124 rfl rfl)
theorem mq_L_49 : Cond.methodLink "ThreeColoursLaw" 49 yX11_coat ∈ lwG := (lwT3 171 rfl rfl)
theorem mq_L_52 : Cond.methodLink "ThreeColoursLaw" 52 yX12_coat ∈ lwG := (lwT7 132 rfl rfl)
theorem mq_L_53 : Cond.methodLink "ThreeColoursLaw" 53 yX11_same ∈ lwG := (lwT3 175 rfl rfl)
theorem mq_L_56 : Cond.methodLink "ThreeColoursLaw" 56 yX12_same ∈ lwG := (lwT7 140 rfl rfl)
theorem mq_L_57 : Cond.methodLink "ThreeColoursLaw" 57 yX11_counts ∈ lwG := (lwT3 190 rfl rfl)
theorem mq_L_60 : Cond.methodLink "ThreeColoursLaw" 60 yX12_counts ∈ lwG := (lwT7 144 rfl rfl)
theorem mq_L_61 : Cond.methodLink "ThreeColoursLaw" 61 yX11_month ∈ lwG := (lwT3 194 rfl rfl)
theorem mq_L_64 : Cond.methodLink "ThreeColoursLaw" 64 yX12_month ∈ lwG := (lwT7 152 rfl rfl)
theorem mq_L_65 : Cond.methodLink "ThreeColoursLaw" 65 yX11_walk ∈ lwG := (lwT3 198 rfl rfl)
theorem mq_L_68 : Cond.methodLink "ThreeColoursLaw" 68 yX12_walk ∈ lwG := (lwT7 156 rfl rfl)
theorem mq_L_69 : Cond.methodLink "ThreeColoursLaw" 69 yX11_where ∈ lwG := (lwT3 206 rfl rfl)
theorem mq_L_72 : Cond.methodLink "ThreeColoursLaw" 72 yX12_where ∈ lwG := (lwT7 167 rfl rfl)
theorem mq_L_73 : Cond.methodLink "ThreeColoursLaw" 73 yX11_feed ∈ lwG := (lwT3 214 rfl rfl)
theorem mq_L_76 : Cond.methodLink "ThreeColoursLaw" 76 yX12_feed ∈ lwG := (lwT7 183 rfl rfl)
theorem mq_L_77 : Cond.methodLink "ThreeColoursLaw" 77 yX11_end ∈ lwG := (lwT3 222 rfl rfl)
theorem mq_L_80 : Cond.methodLink "ThreeColoursLaw" 80 yX12_end ∈ lwG := (lwT7 187 rfl rfl)
theorem mq_L_81 : Cond.methodLink "ThreeColoursLaw" 81 yX11_row ∈ lwG := (lwT3 226 rfl rfl)
theorem mq_L_85 : Cond.methodLink "ThreeColoursLaw" 85 yX12_row ∈ lwG := (lwT7 175 rfl rfl)
theorem mq_L_86 : Cond.methodLink "ThreeColoursLaw" 86 yX11_spoilt ∈ lwG := (lwT3 234 rfl rfl)
theorem mq_L_89 : Cond.methodLink "ThreeColoursLaw" 89 yX12_spoilt ∈ lwG := (lwT7 179 rfl rfl)
theorem mq_L_90 : Cond.methodLink "ThreeColoursLaw" 90 yX11_law ∈ lwG := (lwT3 238 rfl rfl)
theorem mq_L_93 : Cond.methodLink "ThreeColoursLaw" 93 yX12_law ∈ lwG := (lwT7 191 rfl rfl)
theorem mq_L_94 : Cond.methodLink "ThreeColoursLaw" 94 yX11_fault ∈ lwG := (lwT4 149 rfl rfl)
theorem mq_L_97 : Cond.methodLink "ThreeColoursLaw" 97 yX12_fault ∈ lwG := (lwT8 25 rfl rfl)
theorem mq_L_98 : Cond.methodLink "ThreeColoursLaw" 98 yX11_force ∈ lwG := (lwT4 153 rfl rfl)
theorem mq_L_101 : Cond.methodLink "ThreeColoursLaw" 101 yX12_force ∈ lwG := (lwT8 29 rfl rfl)
theorem mq_L_102 : Cond.methodLink "ThreeColoursLaw" 102 yX11_costs ∈ lwG := (lwT4 157 rfl rfl)
theorem mq_L_105 : Cond.methodLink "ThreeColoursLaw" 105 yX12_costs ∈ lwG := (lwT8 33 rfl rfl)
theorem mq_L_106 : Cond.methodLink "ThreeColoursLaw" 106 yX11_sees ∈ lwG := (lwT4 194 rfl rfl)
theorem mq_L_109 : Cond.methodLink "ThreeColoursLaw" 109 yX12_sees ∈ lwG := (lwT8 91 rfl rfl)
theorem mq_L_110 : Cond.methodLink "ThreeColoursLaw" 110 yX11_judge ∈ lwG := (lwT5 13 rfl rfl)
theorem mq_L_113 : Cond.methodLink "ThreeColoursLaw" 113 yX12_judge ∈ lwG := (lwT8 130 rfl rfl)
theorem mq_L_114 : Cond.methodLink "ThreeColoursLaw" 114 yX11_bad ∈ lwG := (lwT5 33 rfl rfl)
theorem mq_L_117 : Cond.methodLink "ThreeColoursLaw" 117 yX12_bad ∈ lwG := (lwT8 134 rfl rfl)
theorem mq_L_118 : Cond.methodLink "ThreeColoursLaw" 118 yX11_best ∈ lwG := (lwT5 37 rfl rfl)
theorem mq_L_121 : Cond.methodLink "ThreeColoursLaw" 121 yX12_best ∈ lwG := (lwT8 138 rfl rfl)
theorem mq_L_122 : Cond.methodLink "ThreeColoursLaw" 122 yX11_paint ∈ lwG := (lwT5 151 rfl rfl)
theorem mq_L_125 : Cond.methodLink "ThreeColoursLaw" 125 yX12_paint ∈ lwG := (lwT8 172 rfl rfl)
theorem mq_L_126 : Cond.methodLink "ThreeColoursLaw" 126 yX11_fewest ∈ lwG := (lwT5 156 rfl rfl)
theorem mq_L_129 : Cond.methodLink "ThreeColoursLaw" 129 yX12_fewest ∈ lwG := (lwT8 176 rfl rfl)
theorem mq_L_130 : Cond.methodLink "ThreeColoursLaw" 130 yX11_take ∈ lwG := (lwT5 164 rfl rfl)
theorem mq_L_133 : Cond.methodLink "ThreeColoursLaw" 133 yX12_take ∈ lwG := (lwT8 180 rfl rfl)
theorem mq_L_134 : Cond.methodLink "ThreeColoursLaw" 134 yX11_mend ∈ lwG := (lwT5 168 rfl rfl)
theorem mq_L_137 : Cond.methodLink "ThreeColoursLaw" 137 yX12_mend ∈ lwG := (lwT8 184 rfl rfl)
theorem mq_L_138 : Cond.methodLink "ThreeColoursLaw" 138 yX11_shut ∈ lwG := (lwT5 213 rfl rfl)
theorem mq_L_141 : Cond.methodLink "ThreeColoursLaw" 141 yX12_shut ∈ lwG := (lwT8 188 rfl rfl)
theorem mq_L_142 : Cond.methodLink "ThreeColoursLaw" 142 yX11_bars ∈ lwG := (lwT5 221 rfl rfl)
theorem mq_L_145 : Cond.methodLink "ThreeColoursLaw" 145 yX12_bars ∈ lwG := (lwT8 192 rfl rfl)
theorem mq_L_146 : Cond.methodLink "ThreeColoursLaw" 146 yX11_third ∈ lwG := (lwT5 229 rfl rfl)
theorem mq_L_149 : Cond.methodLink "ThreeColoursLaw" 149 yX12_third ∈ lwG := (lwT8 200 rfl rfl)
theorem mq_L_150 : Cond.methodLink "ThreeColoursLaw" 150 yX11_near ∈ lwG := (lwT5 237 rfl rfl)
theorem mq_L_153 : Cond.methodLink "ThreeColoursLaw" 153 yX12_near ∈ lwG := (lwT8 204 rfl rfl)
theorem mq_L_154 : Cond.methodLink "ThreeColoursLaw" 154 yX11_soon ∈ lwG := (lwT6 11 rfl rfl)
theorem mq_L_158 : Cond.methodLink "ThreeColoursLaw" 158 yX12_soon ∈ lwG := (lwT8 208 rfl rfl)
theorem mq_L_159 : Cond.methodLink "ThreeColoursLaw" 159 yX11_way ∈ lwG := (lwT6 43 rfl rfl)
theorem mq_L_162 : Cond.methodLink "ThreeColoursLaw" 162 yX12_way ∈ lwG := (lwT8 228 rfl rfl)
theorem mq_L_163 : Cond.methodLink "ThreeColoursLaw" 163 yX11_file ∈ lwG := (lwT6 47 rfl rfl)
theorem mq_L_166 : Cond.methodLink "ThreeColoursLaw" 166 yX12_file ∈ lwG := (lwT8 232 rfl rfl)
theorem mq_L_167 : Cond.methodLink "ThreeColoursLaw" 167 yX11_day ∈ lwG := (lwT6 66 rfl rfl)
theorem mq_L_170 : Cond.methodLink "ThreeColoursLaw" 170 yX12_day ∈ lwG := (lwT9 4 rfl rfl)
theorem mq_L_171 : Cond.methodLink "ThreeColoursLaw" 171 yX11_drawn ∈ lwG := (lwT6 88 rfl rfl)
theorem mq_L_174 : Cond.methodLink "ThreeColoursLaw" 174 yX12_drawn ∈ lwG := (lwT9 19 rfl rfl)
theorem mq_L_175 : Cond.methodLink "ThreeColoursLaw" 175 yX11_image ∈ lwG := (lwT6 92 rfl rfl)
theorem mq_L_178 : Cond.methodLink "ThreeColoursLaw" 178 yX12_image ∈ lwG := (lwT7 37 rfl rfl)
theorem mq_L_179 : Cond.methodLink "ThreeColoursLaw" 179 yX11_back ∈ lwG := (lwT6 101 rfl rfl)
theorem mq_L_182 : Cond.methodLink "ThreeColoursLaw" 182 yX12_back ∈ lwG := (lwT7 52 rfl rfl)
theorem mq_L_183 : Cond.methodLink "ThreeColoursLaw" 183 yX11_count ∈ lwG := (lwT6 105 rfl rfl)
theorem mq_L_186 : Cond.methodLink "ThreeColoursLaw" 186 yX12_count ∈ lwG := (lwT9 23 rfl rfl)
theorem mq_L_187 : Cond.methodLink "ThreeColoursLaw" 187 yX11_status ∈ lwG := (lwT6 109 rfl rfl)
theorem mq_L_190 : Cond.methodLink "ThreeColoursLaw" 190 yX12_status ∈ lwG := (lwT9 27 rfl rfl)
theorem lc_0 {w : Wd} {k c0 s0 L : Nat} {i : IM} {l : LM} {xs : Nat → Int32} {x : Int} (hx : 0 ≤ x ∧ x + 6 ≤ (L : Int)) (hL : L ≤ 3072) (hB : BoE w k 1000 0 0 X_X11_thing X_X12_thing [vI (eSc xs x 1), vI (eSc xs x 2), vI (eSc xs x 3), vI (eSc xs x 4), vI (eSc xs x 5)] i l) (hc : c0 + 0 ≤ room_1.cells ∧ s0 + 0 ≤ room_1.slots) (kk : ∀ (w1 : Wd) (i2 : IM) (l2 : LM), w1.1 = w.1 → BkA w1 → Inv w1 (k + 2) i2 l2 → G w.1 room_1 X_L_law (QL w.1 L xs) (c0 + 0) (s0 + 0) (dw w1) i2 l2 1589 [(3, vI x), (2, vR (some 99)), (1, vR (some 6)), (0, vR (some 0))] []) : G w.1 room_1 X_L_law (QL w.1 L xs) c0 s0 (dw w) i l 220 [(3, vI x), (2, vR (some 99)), (1, vR (some 6)), (0, vR (some 0))] [] := by
  refine g_aload_n (pc' := 221) 2 dL_law_220 rfl rfl ?_
  refine g_aload_n (pc' := 222) 3 dL_law_221 rfl rfl ?_
  refine g_iload_n (pc' := 223) 0 dL_law_222 rfl rfl ?_
  refine g_iconst (pc' := 224) dL_law_223 rfl ?_
  refine g_iadd (pc' := 225) dL_law_224 rfl ?_
  refine g_sld (pc' := 226) (by omega) (by omega) dL_law_225 rfl ?_
  refine g_aload_n (pc' := 227) 3 dL_law_226 rfl rfl ?_
  refine g_iload_n (pc' := 228) 0 dL_law_227 rfl rfl ?_
  refine g_iconst (pc' := 229) dL_law_228 rfl ?_
  refine g_iadd (pc' := 230) dL_law_229 rfl ?_
  refine g_sld (pc' := 231) (by omega) (by omega) dL_law_230 rfl ?_
  refine g_aload_n (pc' := 232) 3 dL_law_231 rfl rfl ?_
  refine g_iload_n (pc' := 233) 0 dL_law_232 rfl rfl ?_
  refine g_iconst (pc' := 234) dL_law_233 rfl ?_
  refine g_iadd (pc' := 235) dL_law_234 rfl ?_
  refine g_sld (pc' := 236) (by omega) (by omega) dL_law_235 rfl ?_
  refine g_aload_n (pc' := 237) 3 dL_law_236 rfl rfl ?_
  refine g_iload_n (pc' := 238) 0 dL_law_237 rfl rfl ?_
  refine g_iconst (pc' := 239) dL_law_238 rfl ?_
  refine g_iadd (pc' := 240) dL_law_239 rfl ?_
  refine g_sld (pc' := 241) (by omega) (by omega) dL_law_240 rfl ?_
  refine g_aload_n (pc' := 242) 3 dL_law_241 rfl rfl ?_
  refine g_iload_n (pc' := 243) 0 dL_law_242 rfl rfl ?_
  refine g_iconst (pc' := 244) dL_law_243 rfl ?_
  refine g_iadd (pc' := 245) dL_law_244 rfl ?_
  refine g_sld (pc' := 246) (by omega) (by omega) dL_law_245 rfl ?_
  refine g_callV (pc' := 249) (Y := X_X11_thing) (vs := [vI (eSc xs x 1), vI (eSc xs x 2), vI (eSc xs x 3), vI (eSc xs x 4), vI (eSc xs x 5)]) (st := []) (c := 11) hB mv_X11_thing mq_L_13 rfl rfl rfl rfl (Nat.le_of_ble_eq_true rfl) ⟨Nat.le_of_ble_eq_true rfl, Nat.le_of_ble_eq_true rfl⟩ hc rfl dL_law_246 rfl ?_
  rintro r δ' i' l' ⟨v, w1, rfl, hv, rfl, hw1, hb1, hM⟩
  have hM' : CI w.1 1000 X_X12_thing (vR (some 99) :: [vI (eSc xs x 1), vI (eSc xs x 2), vI (eSc xs x 3), vI (eSc xs x 4), vI (eSc xs x 5)]) (dw w1) i' l' (fun v' i2 l2 => v' = v ∧ Inv w1 (k + 2) i2 l2) := by rw [← hw1]; exact hM
  refine g_aload_n (pc' := 250) 1 dL_law_249 rfl rfl ?_
  refine g_aload_n (pc' := 251) 3 dL_law_250 rfl rfl ?_
  refine g_iload_n (pc' := 252) 0 dL_law_251 rfl rfl ?_
  refine g_iconst (pc' := 253) dL_law_252 rfl ?_
  refine g_iadd (pc' := 254) dL_law_253 rfl ?_
  refine g_sld (pc' := 255) (by omega) (by omega) dL_law_254 rfl ?_
  refine g_aload_n (pc' := 256) 3 dL_law_255 rfl rfl ?_
  refine g_iload_n (pc' := 257) 0 dL_law_256 rfl rfl ?_
  refine g_iconst (pc' := 258) dL_law_257 rfl ?_
  refine g_iadd (pc' := 259) dL_law_258 rfl ?_
  refine g_sld (pc' := 260) (by omega) (by omega) dL_law_259 rfl ?_
  refine g_aload_n (pc' := 261) 3 dL_law_260 rfl rfl ?_
  refine g_iload_n (pc' := 262) 0 dL_law_261 rfl rfl ?_
  refine g_iconst (pc' := 263) dL_law_262 rfl ?_
  refine g_iadd (pc' := 264) dL_law_263 rfl ?_
  refine g_sld (pc' := 265) (by omega) (by omega) dL_law_264 rfl ?_
  refine g_aload_n (pc' := 266) 3 dL_law_265 rfl rfl ?_
  refine g_iload_n (pc' := 267) 0 dL_law_266 rfl rfl ?_
  refine g_iconst (pc' := 268) dL_law_267 rfl ?_
  refine g_iadd (pc' := 269) dL_law_268 rfl ?_
  refine g_sld (pc' := 270) (by omega) (by omega) dL_law_269 rfl ?_
  refine g_aload_n (pc' := 271) 3 dL_law_270 rfl rfl ?_
  refine g_iload_n (pc' := 272) 0 dL_law_271 rfl rfl ?_
  refine g_iconst (pc' := 273) dL_law_272 rfl ?_
  refine g_iadd (pc' := 274) dL_law_273 rfl ?_
  refine g_sld (pc' := 275) (by omega) (by omega) dL_law_274 rfl ?_
  refine g_callV (pc' := 278) (Y := X_X12_thing) (vs := [vI (eSc xs x 1), vI (eSc xs x 2), vI (eSc xs x 3), vI (eSc xs x 4), vI (eSc xs x 5)]) (st := [vI v]) (c := 12) hM' mv_X12_thing mq_L_17 rfl rfl rfl rfl (Nat.le_of_ble_eq_true rfl) ⟨Nat.le_of_ble_eq_true rfl, Nat.le_of_ble_eq_true rfl⟩ hc rfl dL_law_275 rfl ?_
  rintro r δ2 i2 l2 ⟨rfl, v', rfl, hv', rfl, hI2⟩
  refine g_icmp_eq (tgt := 1589) (pc' := 281) hv hv' Iff.rfl dL_law_278 rfl rfl (fun _ => kk w1 i2 l2 hw1 hb1 hI2) (fun q => absurd rfl q)
theorem lc_1 {w : Wd} {k c0 s0 L : Nat} {i : IM} {l : LM} {xs : Nat → Int32} {x : Int} (hx : 0 ≤ x ∧ x + 6 ≤ (L : Int)) (hL : L ≤ 3072) (hB : BoE w k 1000 0 0 X_X11_put X_X12_put [vI (eSc xs x 1), vI (eSc xs x 2), vI (eSc xs x 3)] i l) (hc : c0 + 0 ≤ room_1.cells ∧ s0 + 0 ≤ room_1.slots) (kk : ∀ (w1 : Wd) (i2 : IM) (l2 : LM), w1.1 = w.1 → BkA w1 → Inv w1 (k + 2) i2 l2 → G w.1 room_1 X_L_law (QL w.1 L xs) (c0 + 0) (s0 + 0) (dw w1) i2 l2 1589 [(3, vI x), (2, vR (some 99)), (1, vR (some 6)), (0, vR (some 0))] []) : G w.1 room_1 X_L_law (QL w.1 L xs) c0 s0 (dw w) i l 283 [(3, vI x), (2, vR (some 99)), (1, vR (some 6)), (0, vR (some 0))] [] := by
  refine g_aload_n (pc' := 284) 2 dL_law_283 rfl rfl ?_
  refine g_aload_n (pc' := 285) 3 dL_law_284 rfl rfl ?_
  refine g_iload_n (pc' := 286) 0 dL_law_285 rfl rfl ?_
  refine g_iconst (pc' := 287) dL_law_286 rfl ?_
  refine g_iadd (pc' := 288) dL_law_287 rfl ?_
  refine g_sld (pc' := 289) (by omega) (by omega) dL_law_288 rfl ?_
  refine g_aload_n (pc' := 290) 3 dL_law_289 rfl rfl ?_
  refine g_iload_n (pc' := 291) 0 dL_law_290 rfl rfl ?_
  refine g_iconst (pc' := 292) dL_law_291 rfl ?_
  refine g_iadd (pc' := 293) dL_law_292 rfl ?_
  refine g_sld (pc' := 294) (by omega) (by omega) dL_law_293 rfl ?_
  refine g_aload_n (pc' := 295) 3 dL_law_294 rfl rfl ?_
  refine g_iload_n (pc' := 296) 0 dL_law_295 rfl rfl ?_
  refine g_iconst (pc' := 297) dL_law_296 rfl ?_
  refine g_iadd (pc' := 298) dL_law_297 rfl ?_
  refine g_sld (pc' := 299) (by omega) (by omega) dL_law_298 rfl ?_
  refine g_callV (pc' := 302) (Y := X_X11_put) (vs := [vI (eSc xs x 1), vI (eSc xs x 2), vI (eSc xs x 3)]) (st := []) (c := 11) hB mv_X11_put mq_L_18 rfl rfl rfl rfl (Nat.le_of_ble_eq_true rfl) ⟨Nat.le_of_ble_eq_true rfl, Nat.le_of_ble_eq_true rfl⟩ hc rfl dL_law_299 rfl ?_
  rintro r δ' i' l' ⟨v, w1, rfl, hv, rfl, hw1, hb1, hM⟩
  have hM' : CI w.1 1000 X_X12_put (vR (some 99) :: [vI (eSc xs x 1), vI (eSc xs x 2), vI (eSc xs x 3)]) (dw w1) i' l' (fun v' i2 l2 => v' = v ∧ Inv w1 (k + 2) i2 l2) := by rw [← hw1]; exact hM
  refine g_aload_n (pc' := 303) 1 dL_law_302 rfl rfl ?_
  refine g_aload_n (pc' := 304) 3 dL_law_303 rfl rfl ?_
  refine g_iload_n (pc' := 305) 0 dL_law_304 rfl rfl ?_
  refine g_iconst (pc' := 306) dL_law_305 rfl ?_
  refine g_iadd (pc' := 307) dL_law_306 rfl ?_
  refine g_sld (pc' := 308) (by omega) (by omega) dL_law_307 rfl ?_
  refine g_aload_n (pc' := 309) 3 dL_law_308 rfl rfl ?_
  refine g_iload_n (pc' := 310) 0 dL_law_309 rfl rfl ?_
  refine g_iconst (pc' := 311) dL_law_310 rfl ?_
  refine g_iadd (pc' := 312) dL_law_311 rfl ?_
  refine g_sld (pc' := 313) (by omega) (by omega) dL_law_312 rfl ?_
  refine g_aload_n (pc' := 314) 3 dL_law_313 rfl rfl ?_
  refine g_iload_n (pc' := 315) 0 dL_law_314 rfl rfl ?_
  refine g_iconst (pc' := 316) dL_law_315 rfl ?_
  refine g_iadd (pc' := 317) dL_law_316 rfl ?_
  refine g_sld (pc' := 318) (by omega) (by omega) dL_law_317 rfl ?_
  refine g_callV (pc' := 321) (Y := X_X12_put) (vs := [vI (eSc xs x 1), vI (eSc xs x 2), vI (eSc xs x 3)]) (st := [vI v]) (c := 12) hM' mv_X12_put mq_L_22 rfl rfl rfl rfl (Nat.le_of_ble_eq_true rfl) ⟨Nat.le_of_ble_eq_true rfl, Nat.le_of_ble_eq_true rfl⟩ hc rfl dL_law_318 rfl ?_
  rintro r δ2 i2 l2 ⟨rfl, v', rfl, hv', rfl, hI2⟩
  refine g_icmp_eq (tgt := 1589) (pc' := 324) hv hv' Iff.rfl dL_law_321 rfl rfl (fun _ => kk w1 i2 l2 hw1 hb1 hI2) (fun q => absurd rfl q)
theorem lc_2 {w : Wd} {k c0 s0 L : Nat} {i : IM} {l : LM} {xs : Nat → Int32} {x : Int} (hx : 0 ≤ x ∧ x + 6 ≤ (L : Int)) (hL : L ≤ 3072) (hB : BoE w k 1000 0 0 X_X11_bloom X_X12_bloom [vI (eSc xs x 1), vI (eSc xs x 2), vI (eSc xs x 3)] i l) (hc : c0 + 0 ≤ room_1.cells ∧ s0 + 0 ≤ room_1.slots) (kk : ∀ (w1 : Wd) (i2 : IM) (l2 : LM), w1.1 = w.1 → BkA w1 → Inv w1 (k + 2) i2 l2 → G w.1 room_1 X_L_law (QL w.1 L xs) (c0 + 0) (s0 + 0) (dw w1) i2 l2 1589 [(3, vI x), (2, vR (some 99)), (1, vR (some 6)), (0, vR (some 0))] []) : G w.1 room_1 X_L_law (QL w.1 L xs) c0 s0 (dw w) i l 326 [(3, vI x), (2, vR (some 99)), (1, vR (some 6)), (0, vR (some 0))] [] := by
  refine g_aload_n (pc' := 327) 2 dL_law_326 rfl rfl ?_
  refine g_aload_n (pc' := 328) 3 dL_law_327 rfl rfl ?_
  refine g_iload_n (pc' := 329) 0 dL_law_328 rfl rfl ?_
  refine g_iconst (pc' := 330) dL_law_329 rfl ?_
  refine g_iadd (pc' := 331) dL_law_330 rfl ?_
  refine g_sld (pc' := 332) (by omega) (by omega) dL_law_331 rfl ?_
  refine g_aload_n (pc' := 333) 3 dL_law_332 rfl rfl ?_
  refine g_iload_n (pc' := 334) 0 dL_law_333 rfl rfl ?_
  refine g_iconst (pc' := 335) dL_law_334 rfl ?_
  refine g_iadd (pc' := 336) dL_law_335 rfl ?_
  refine g_sld (pc' := 337) (by omega) (by omega) dL_law_336 rfl ?_
  refine g_aload_n (pc' := 338) 3 dL_law_337 rfl rfl ?_
  refine g_iload_n (pc' := 339) 0 dL_law_338 rfl rfl ?_
  refine g_iconst (pc' := 340) dL_law_339 rfl ?_
  refine g_iadd (pc' := 341) dL_law_340 rfl ?_
  refine g_sld (pc' := 342) (by omega) (by omega) dL_law_341 rfl ?_
  refine g_callV (pc' := 345) (Y := X_X11_bloom) (vs := [vI (eSc xs x 1), vI (eSc xs x 2), vI (eSc xs x 3)]) (st := []) (c := 11) hB mv_X11_bloom mq_L_23 rfl rfl rfl rfl (Nat.le_of_ble_eq_true rfl) ⟨Nat.le_of_ble_eq_true rfl, Nat.le_of_ble_eq_true rfl⟩ hc rfl dL_law_342 rfl ?_
  rintro r δ' i' l' ⟨v, w1, rfl, hv, rfl, hw1, hb1, hM⟩
  have hM' : CI w.1 1000 X_X12_bloom (vR (some 99) :: [vI (eSc xs x 1), vI (eSc xs x 2), vI (eSc xs x 3)]) (dw w1) i' l' (fun v' i2 l2 => v' = v ∧ Inv w1 (k + 2) i2 l2) := by rw [← hw1]; exact hM
  refine g_aload_n (pc' := 346) 1 dL_law_345 rfl rfl ?_
  refine g_aload_n (pc' := 347) 3 dL_law_346 rfl rfl ?_
  refine g_iload_n (pc' := 348) 0 dL_law_347 rfl rfl ?_
  refine g_iconst (pc' := 349) dL_law_348 rfl ?_
  refine g_iadd (pc' := 350) dL_law_349 rfl ?_
  refine g_sld (pc' := 351) (by omega) (by omega) dL_law_350 rfl ?_
  refine g_aload_n (pc' := 352) 3 dL_law_351 rfl rfl ?_
  refine g_iload_n (pc' := 353) 0 dL_law_352 rfl rfl ?_
  refine g_iconst (pc' := 354) dL_law_353 rfl ?_
  refine g_iadd (pc' := 355) dL_law_354 rfl ?_
  refine g_sld (pc' := 356) (by omega) (by omega) dL_law_355 rfl ?_
  refine g_aload_n (pc' := 357) 3 dL_law_356 rfl rfl ?_
  refine g_iload_n (pc' := 358) 0 dL_law_357 rfl rfl ?_
  refine g_iconst (pc' := 359) dL_law_358 rfl ?_
  refine g_iadd (pc' := 360) dL_law_359 rfl ?_
  refine g_sld (pc' := 361) (by omega) (by omega) dL_law_360 rfl ?_
  refine g_callV (pc' := 364) (Y := X_X12_bloom) (vs := [vI (eSc xs x 1), vI (eSc xs x 2), vI (eSc xs x 3)]) (st := [vI v]) (c := 12) hM' mv_X12_bloom mq_L_26 rfl rfl rfl rfl (Nat.le_of_ble_eq_true rfl) ⟨Nat.le_of_ble_eq_true rfl, Nat.le_of_ble_eq_true rfl⟩ hc rfl dL_law_361 rfl ?_
  rintro r δ2 i2 l2 ⟨rfl, v', rfl, hv', rfl, hI2⟩
  refine g_icmp_eq (tgt := 1589) (pc' := 367) hv hv' Iff.rfl dL_law_364 rfl rfl (fun _ => kk w1 i2 l2 hw1 hb1 hI2) (fun q => absurd rfl q)
theorem lc_3 {w : Wd} {k c0 s0 L : Nat} {i : IM} {l : LM} {xs : Nat → Int32} {x : Int} (hx : 0 ≤ x ∧ x + 6 ≤ (L : Int)) (hL : L ≤ 3072) (hB : BoE w k 1000 0 0 X_X11_window X_X12_window [vI (eSc xs x 1), vI (eSc xs x 2), vI (eSc xs x 3)] i l) (hc : c0 + 0 ≤ room_1.cells ∧ s0 + 0 ≤ room_1.slots) (kk : ∀ (w1 : Wd) (i2 : IM) (l2 : LM), w1.1 = w.1 → BkA w1 → Inv w1 (k + 2) i2 l2 → G w.1 room_1 X_L_law (QL w.1 L xs) (c0 + 0) (s0 + 0) (dw w1) i2 l2 1589 [(3, vI x), (2, vR (some 99)), (1, vR (some 6)), (0, vR (some 0))] []) : G w.1 room_1 X_L_law (QL w.1 L xs) c0 s0 (dw w) i l 369 [(3, vI x), (2, vR (some 99)), (1, vR (some 6)), (0, vR (some 0))] [] := by
  refine g_aload_n (pc' := 370) 2 dL_law_369 rfl rfl ?_
  refine g_aload_n (pc' := 371) 3 dL_law_370 rfl rfl ?_
  refine g_iload_n (pc' := 372) 0 dL_law_371 rfl rfl ?_
  refine g_iconst (pc' := 373) dL_law_372 rfl ?_
  refine g_iadd (pc' := 374) dL_law_373 rfl ?_
  refine g_sld (pc' := 375) (by omega) (by omega) dL_law_374 rfl ?_
  refine g_aload_n (pc' := 376) 3 dL_law_375 rfl rfl ?_
  refine g_iload_n (pc' := 377) 0 dL_law_376 rfl rfl ?_
  refine g_iconst (pc' := 378) dL_law_377 rfl ?_
  refine g_iadd (pc' := 379) dL_law_378 rfl ?_
  refine g_sld (pc' := 380) (by omega) (by omega) dL_law_379 rfl ?_
  refine g_aload_n (pc' := 381) 3 dL_law_380 rfl rfl ?_
  refine g_iload_n (pc' := 382) 0 dL_law_381 rfl rfl ?_
  refine g_iconst (pc' := 383) dL_law_382 rfl ?_
  refine g_iadd (pc' := 384) dL_law_383 rfl ?_
  refine g_sld (pc' := 385) (by omega) (by omega) dL_law_384 rfl ?_
  refine g_callV (pc' := 388) (Y := X_X11_window) (vs := [vI (eSc xs x 1), vI (eSc xs x 2), vI (eSc xs x 3)]) (st := []) (c := 11) hB mv_X11_window mq_L_27 rfl rfl rfl rfl (Nat.le_of_ble_eq_true rfl) ⟨Nat.le_of_ble_eq_true rfl, Nat.le_of_ble_eq_true rfl⟩ hc rfl dL_law_385 rfl ?_
  rintro r δ' i' l' ⟨v, w1, rfl, hv, rfl, hw1, hb1, hM⟩
  have hM' : CI w.1 1000 X_X12_window (vR (some 99) :: [vI (eSc xs x 1), vI (eSc xs x 2), vI (eSc xs x 3)]) (dw w1) i' l' (fun v' i2 l2 => v' = v ∧ Inv w1 (k + 2) i2 l2) := by rw [← hw1]; exact hM
  refine g_aload_n (pc' := 389) 1 dL_law_388 rfl rfl ?_
  refine g_aload_n (pc' := 390) 3 dL_law_389 rfl rfl ?_
  refine g_iload_n (pc' := 391) 0 dL_law_390 rfl rfl ?_
  refine g_iconst (pc' := 392) dL_law_391 rfl ?_
  refine g_iadd (pc' := 393) dL_law_392 rfl ?_
  refine g_sld (pc' := 394) (by omega) (by omega) dL_law_393 rfl ?_
  refine g_aload_n (pc' := 395) 3 dL_law_394 rfl rfl ?_
  refine g_iload_n (pc' := 396) 0 dL_law_395 rfl rfl ?_
  refine g_iconst (pc' := 397) dL_law_396 rfl ?_
  refine g_iadd (pc' := 398) dL_law_397 rfl ?_
  refine g_sld (pc' := 399) (by omega) (by omega) dL_law_398 rfl ?_
  refine g_aload_n (pc' := 400) 3 dL_law_399 rfl rfl ?_
  refine g_iload_n (pc' := 401) 0 dL_law_400 rfl rfl ?_
  refine g_iconst (pc' := 402) dL_law_401 rfl ?_
  refine g_iadd (pc' := 403) dL_law_402 rfl ?_
  refine g_sld (pc' := 404) (by omega) (by omega) dL_law_403 rfl ?_
  refine g_callV (pc' := 407) (Y := X_X12_window) (vs := [vI (eSc xs x 1), vI (eSc xs x 2), vI (eSc xs x 3)]) (st := [vI v]) (c := 12) hM' mv_X12_window mq_L_30 rfl rfl rfl rfl (Nat.le_of_ble_eq_true rfl) ⟨Nat.le_of_ble_eq_true rfl, Nat.le_of_ble_eq_true rfl⟩ hc rfl dL_law_404 rfl ?_
  rintro r δ2 i2 l2 ⟨rfl, v', rfl, hv', rfl, hI2⟩
  refine g_icmp_eq (tgt := 1589) (pc' := 410) hv hv' Iff.rfl dL_law_407 rfl rfl (fun _ => kk w1 i2 l2 hw1 hb1 hI2) (fun q => absurd rfl q)
theorem lc_4 {w : Wd} {k c0 s0 L : Nat} {i : IM} {l : LM} {xs : Nat → Int32} {x : Int} (hx : 0 ≤ x ∧ x + 6 ≤ (L : Int)) (hL : L ≤ 3072) (hB : BoE w k 1000 0 0 X_X11_turn X_X12_turn [vI (eSc xs x 1), vI (eSc xs x 2), vI (eSc xs x 3)] i l) (hc : c0 + 0 ≤ room_1.cells ∧ s0 + 0 ≤ room_1.slots) (kk : ∀ (w1 : Wd) (i2 : IM) (l2 : LM), w1.1 = w.1 → BkA w1 → Inv w1 (k + 2) i2 l2 → G w.1 room_1 X_L_law (QL w.1 L xs) (c0 + 0) (s0 + 0) (dw w1) i2 l2 1589 [(3, vI x), (2, vR (some 99)), (1, vR (some 6)), (0, vR (some 0))] []) : G w.1 room_1 X_L_law (QL w.1 L xs) c0 s0 (dw w) i l 412 [(3, vI x), (2, vR (some 99)), (1, vR (some 6)), (0, vR (some 0))] [] := by
  refine g_aload_n (pc' := 413) 2 dL_law_412 rfl rfl ?_
  refine g_aload_n (pc' := 414) 3 dL_law_413 rfl rfl ?_
  refine g_iload_n (pc' := 415) 0 dL_law_414 rfl rfl ?_
  refine g_iconst (pc' := 416) dL_law_415 rfl ?_
  refine g_iadd (pc' := 417) dL_law_416 rfl ?_
  refine g_sld (pc' := 418) (by omega) (by omega) dL_law_417 rfl ?_
  refine g_aload_n (pc' := 419) 3 dL_law_418 rfl rfl ?_
  refine g_iload_n (pc' := 420) 0 dL_law_419 rfl rfl ?_
  refine g_iconst (pc' := 421) dL_law_420 rfl ?_
  refine g_iadd (pc' := 422) dL_law_421 rfl ?_
  refine g_sld (pc' := 423) (by omega) (by omega) dL_law_422 rfl ?_
  refine g_aload_n (pc' := 424) 3 dL_law_423 rfl rfl ?_
  refine g_iload_n (pc' := 425) 0 dL_law_424 rfl rfl ?_
  refine g_iconst (pc' := 426) dL_law_425 rfl ?_
  refine g_iadd (pc' := 427) dL_law_426 rfl ?_
  refine g_sld (pc' := 428) (by omega) (by omega) dL_law_427 rfl ?_
  refine g_callV (pc' := 431) (Y := X_X11_turn) (vs := [vI (eSc xs x 1), vI (eSc xs x 2), vI (eSc xs x 3)]) (st := []) (c := 11) hB mv_X11_turn mq_L_31 rfl rfl rfl rfl (Nat.le_of_ble_eq_true rfl) ⟨Nat.le_of_ble_eq_true rfl, Nat.le_of_ble_eq_true rfl⟩ hc rfl dL_law_428 rfl ?_
  rintro r δ' i' l' ⟨v, w1, rfl, hv, rfl, hw1, hb1, hM⟩
  have hM' : CI w.1 1000 X_X12_turn (vR (some 99) :: [vI (eSc xs x 1), vI (eSc xs x 2), vI (eSc xs x 3)]) (dw w1) i' l' (fun v' i2 l2 => v' = v ∧ Inv w1 (k + 2) i2 l2) := by rw [← hw1]; exact hM
  refine g_aload_n (pc' := 432) 1 dL_law_431 rfl rfl ?_
  refine g_aload_n (pc' := 433) 3 dL_law_432 rfl rfl ?_
  refine g_iload_n (pc' := 434) 0 dL_law_433 rfl rfl ?_
  refine g_iconst (pc' := 435) dL_law_434 rfl ?_
  refine g_iadd (pc' := 436) dL_law_435 rfl ?_
  refine g_sld (pc' := 437) (by omega) (by omega) dL_law_436 rfl ?_
  refine g_aload_n (pc' := 438) 3 dL_law_437 rfl rfl ?_
  refine g_iload_n (pc' := 439) 0 dL_law_438 rfl rfl ?_
  refine g_iconst (pc' := 440) dL_law_439 rfl ?_
  refine g_iadd (pc' := 441) dL_law_440 rfl ?_
  refine g_sld (pc' := 442) (by omega) (by omega) dL_law_441 rfl ?_
  refine g_aload_n (pc' := 443) 3 dL_law_442 rfl rfl ?_
  refine g_iload_n (pc' := 444) 0 dL_law_443 rfl rfl ?_
  refine g_iconst (pc' := 445) dL_law_444 rfl ?_
  refine g_iadd (pc' := 446) dL_law_445 rfl ?_
  refine g_sld (pc' := 447) (by omega) (by omega) dL_law_446 rfl ?_
  refine g_callV (pc' := 450) (Y := X_X12_turn) (vs := [vI (eSc xs x 1), vI (eSc xs x 2), vI (eSc xs x 3)]) (st := [vI v]) (c := 12) hM' mv_X12_turn mq_L_34 rfl rfl rfl rfl (Nat.le_of_ble_eq_true rfl) ⟨Nat.le_of_ble_eq_true rfl, Nat.le_of_ble_eq_true rfl⟩ hc rfl dL_law_447 rfl ?_
  rintro r δ2 i2 l2 ⟨rfl, v', rfl, hv', rfl, hI2⟩
  refine g_icmp_eq (tgt := 1589) (pc' := 453) hv hv' Iff.rfl dL_law_450 rfl rfl (fun _ => kk w1 i2 l2 hw1 hb1 hI2) (fun q => absurd rfl q)
theorem lc_5 {w : Wd} {k c0 s0 L : Nat} {i : IM} {l : LM} {xs : Nat → Int32} {x : Int} (hx : 0 ≤ x ∧ x + 6 ≤ (L : Int)) (hL : L ≤ 3072) (hB : BoE w k 1000 0 0 X_X11_of X_X12_of [vI (eSc xs x 1), vI (eSc xs x 2)] i l) (hc : c0 + 0 ≤ room_1.cells ∧ s0 + 0 ≤ room_1.slots) (kk : ∀ (w1 : Wd) (i2 : IM) (l2 : LM), w1.1 = w.1 → BkA w1 → Inv w1 (k + 2) i2 l2 → G w.1 room_1 X_L_law (QL w.1 L xs) (c0 + 0) (s0 + 0) (dw w1) i2 l2 1589 [(3, vI x), (2, vR (some 99)), (1, vR (some 6)), (0, vR (some 0))] []) : G w.1 room_1 X_L_law (QL w.1 L xs) c0 s0 (dw w) i l 455 [(3, vI x), (2, vR (some 99)), (1, vR (some 6)), (0, vR (some 0))] [] := by
  refine g_aload_n (pc' := 456) 2 dL_law_455 rfl rfl ?_
  refine g_aload_n (pc' := 457) 3 dL_law_456 rfl rfl ?_
  refine g_iload_n (pc' := 458) 0 dL_law_457 rfl rfl ?_
  refine g_iconst (pc' := 459) dL_law_458 rfl ?_
  refine g_iadd (pc' := 460) dL_law_459 rfl ?_
  refine g_sld (pc' := 461) (by omega) (by omega) dL_law_460 rfl ?_
  refine g_aload_n (pc' := 462) 3 dL_law_461 rfl rfl ?_
  refine g_iload_n (pc' := 463) 0 dL_law_462 rfl rfl ?_
  refine g_iconst (pc' := 464) dL_law_463 rfl ?_
  refine g_iadd (pc' := 465) dL_law_464 rfl ?_
  refine g_sld (pc' := 466) (by omega) (by omega) dL_law_465 rfl ?_
  refine g_callV (pc' := 469) (Y := X_X11_of) (vs := [vI (eSc xs x 1), vI (eSc xs x 2)]) (st := []) (c := 11) hB mv_X11_of mq_L_35 rfl rfl rfl rfl (Nat.le_of_ble_eq_true rfl) ⟨Nat.le_of_ble_eq_true rfl, Nat.le_of_ble_eq_true rfl⟩ hc rfl dL_law_466 rfl ?_
  rintro r δ' i' l' ⟨v, w1, rfl, hv, rfl, hw1, hb1, hM⟩
  have hM' : CI w.1 1000 X_X12_of (vR (some 99) :: [vI (eSc xs x 1), vI (eSc xs x 2)]) (dw w1) i' l' (fun v' i2 l2 => v' = v ∧ Inv w1 (k + 2) i2 l2) := by rw [← hw1]; exact hM
  refine g_aload_n (pc' := 470) 1 dL_law_469 rfl rfl ?_
  refine g_aload_n (pc' := 471) 3 dL_law_470 rfl rfl ?_
  refine g_iload_n (pc' := 472) 0 dL_law_471 rfl rfl ?_
  refine g_iconst (pc' := 473) dL_law_472 rfl ?_
  refine g_iadd (pc' := 474) dL_law_473 rfl ?_
  refine g_sld (pc' := 475) (by omega) (by omega) dL_law_474 rfl ?_
  refine g_aload_n (pc' := 476) 3 dL_law_475 rfl rfl ?_
  refine g_iload_n (pc' := 477) 0 dL_law_476 rfl rfl ?_
  refine g_iconst (pc' := 478) dL_law_477 rfl ?_
  refine g_iadd (pc' := 479) dL_law_478 rfl ?_
  refine g_sld (pc' := 480) (by omega) (by omega) dL_law_479 rfl ?_
  refine g_callV (pc' := 483) (Y := X_X12_of) (vs := [vI (eSc xs x 1), vI (eSc xs x 2)]) (st := [vI v]) (c := 12) hM' mv_X12_of mq_L_39 rfl rfl rfl rfl (Nat.le_of_ble_eq_true rfl) ⟨Nat.le_of_ble_eq_true rfl, Nat.le_of_ble_eq_true rfl⟩ hc rfl dL_law_480 rfl ?_
  rintro r δ2 i2 l2 ⟨rfl, v', rfl, hv', rfl, hI2⟩
  refine g_icmp_eq (tgt := 1589) (pc' := 486) hv hv' Iff.rfl dL_law_483 rfl rfl (fun _ => kk w1 i2 l2 hw1 hb1 hI2) (fun q => absurd rfl q)
theorem lc_6 {w : Wd} {k c0 s0 L : Nat} {i : IM} {l : LM} {xs : Nat → Int32} {x : Int} (hx : 0 ≤ x ∧ x + 6 ≤ (L : Int)) (hL : L ≤ 3072) (hB : BoE w k 1000 0 0 X_X11_street X_X12_street [vI (eSc xs x 1), vI (eSc xs x 2), vI (eSc xs x 3)] i l) (hc : c0 + 0 ≤ room_1.cells ∧ s0 + 0 ≤ room_1.slots) (kk : ∀ (w1 : Wd) (i2 : IM) (l2 : LM), w1.1 = w.1 → BkA w1 → Inv w1 (k + 2) i2 l2 → G w.1 room_1 X_L_law (QL w.1 L xs) (c0 + 0) (s0 + 0) (dw w1) i2 l2 1589 [(3, vI x), (2, vR (some 99)), (1, vR (some 6)), (0, vR (some 0))] []) : G w.1 room_1 X_L_law (QL w.1 L xs) c0 s0 (dw w) i l 488 [(3, vI x), (2, vR (some 99)), (1, vR (some 6)), (0, vR (some 0))] [] := by
  refine g_aload_n (pc' := 489) 2 dL_law_488 rfl rfl ?_
  refine g_aload_n (pc' := 490) 3 dL_law_489 rfl rfl ?_
  refine g_iload_n (pc' := 491) 0 dL_law_490 rfl rfl ?_
  refine g_iconst (pc' := 492) dL_law_491 rfl ?_
  refine g_iadd (pc' := 493) dL_law_492 rfl ?_
  refine g_sld (pc' := 494) (by omega) (by omega) dL_law_493 rfl ?_
  refine g_aload_n (pc' := 495) 3 dL_law_494 rfl rfl ?_
  refine g_iload_n (pc' := 496) 0 dL_law_495 rfl rfl ?_
  refine g_iconst (pc' := 497) dL_law_496 rfl ?_
  refine g_iadd (pc' := 498) dL_law_497 rfl ?_
  refine g_sld (pc' := 499) (by omega) (by omega) dL_law_498 rfl ?_
  refine g_aload_n (pc' := 500) 3 dL_law_499 rfl rfl ?_
  refine g_iload_n (pc' := 501) 0 dL_law_500 rfl rfl ?_
  refine g_iconst (pc' := 502) dL_law_501 rfl ?_
  refine g_iadd (pc' := 503) dL_law_502 rfl ?_
  refine g_sld (pc' := 504) (by omega) (by omega) dL_law_503 rfl ?_
  refine g_callV (pc' := 507) (Y := X_X11_street) (vs := [vI (eSc xs x 1), vI (eSc xs x 2), vI (eSc xs x 3)]) (st := []) (c := 11) hB mv_X11_street mq_L_40 rfl rfl rfl rfl (Nat.le_of_ble_eq_true rfl) ⟨Nat.le_of_ble_eq_true rfl, Nat.le_of_ble_eq_true rfl⟩ hc rfl dL_law_504 rfl ?_
  rintro r δ' i' l' ⟨v, w1, rfl, hv, rfl, hw1, hb1, hM⟩
  have hM' : CI w.1 1000 X_X12_street (vR (some 99) :: [vI (eSc xs x 1), vI (eSc xs x 2), vI (eSc xs x 3)]) (dw w1) i' l' (fun v' i2 l2 => v' = v ∧ Inv w1 (k + 2) i2 l2) := by rw [← hw1]; exact hM
  refine g_aload_n (pc' := 508) 1 dL_law_507 rfl rfl ?_
  refine g_aload_n (pc' := 509) 3 dL_law_508 rfl rfl ?_
  refine g_iload_n (pc' := 510) 0 dL_law_509 rfl rfl ?_
  refine g_iconst (pc' := 511) dL_law_510 rfl ?_
  refine g_iadd (pc' := 512) dL_law_511 rfl ?_
  refine g_sld (pc' := 513) (by omega) (by omega) dL_law_512 rfl ?_
  refine g_aload_n (pc' := 514) 3 dL_law_513 rfl rfl ?_
  refine g_iload_n (pc' := 515) 0 dL_law_514 rfl rfl ?_
  refine g_iconst (pc' := 516) dL_law_515 rfl ?_
  refine g_iadd (pc' := 517) dL_law_516 rfl ?_
  refine g_sld (pc' := 518) (by omega) (by omega) dL_law_517 rfl ?_
  refine g_aload_n (pc' := 519) 3 dL_law_518 rfl rfl ?_
  refine g_iload_n (pc' := 520) 0 dL_law_519 rfl rfl ?_
  refine g_iconst (pc' := 521) dL_law_520 rfl ?_
  refine g_iadd (pc' := 522) dL_law_521 rfl ?_
  refine g_sld (pc' := 523) (by omega) (by omega) dL_law_522 rfl ?_
  refine g_callV (pc' := 526) (Y := X_X12_street) (vs := [vI (eSc xs x 1), vI (eSc xs x 2), vI (eSc xs x 3)]) (st := [vI v]) (c := 12) hM' mv_X12_street mq_L_43 rfl rfl rfl rfl (Nat.le_of_ble_eq_true rfl) ⟨Nat.le_of_ble_eq_true rfl, Nat.le_of_ble_eq_true rfl⟩ hc rfl dL_law_523 rfl ?_
  rintro r δ2 i2 l2 ⟨rfl, v', rfl, hv', rfl, hI2⟩
  refine g_icmp_eq (tgt := 1589) (pc' := 529) hv hv' Iff.rfl dL_law_526 rfl rfl (fun _ => kk w1 i2 l2 hw1 hb1 hI2) (fun q => absurd rfl q)
theorem lc_7 {w : Wd} {k c0 s0 L : Nat} {i : IM} {l : LM} {xs : Nat → Int32} {x : Int} (hx : 0 ≤ x ∧ x + 6 ≤ (L : Int)) (hL : L ≤ 3072) (hB : BoE w k 1000 0 0 X_X11_person X_X12_person [vI (eSc xs x 1)] i l) (hc : c0 + 0 ≤ room_1.cells ∧ s0 + 0 ≤ room_1.slots) (kk : ∀ (w1 : Wd) (i2 : IM) (l2 : LM), w1.1 = w.1 → BkA w1 → Inv w1 (k + 2) i2 l2 → G w.1 room_1 X_L_law (QL w.1 L xs) (c0 + 0) (s0 + 0) (dw w1) i2 l2 1589 [(3, vI x), (2, vR (some 99)), (1, vR (some 6)), (0, vR (some 0))] []) : G w.1 room_1 X_L_law (QL w.1 L xs) c0 s0 (dw w) i l 531 [(3, vI x), (2, vR (some 99)), (1, vR (some 6)), (0, vR (some 0))] [] := by
  refine g_aload_n (pc' := 532) 2 dL_law_531 rfl rfl ?_
  refine g_aload_n (pc' := 533) 3 dL_law_532 rfl rfl ?_
  refine g_iload_n (pc' := 534) 0 dL_law_533 rfl rfl ?_
  refine g_iconst (pc' := 535) dL_law_534 rfl ?_
  refine g_iadd (pc' := 536) dL_law_535 rfl ?_
  refine g_sld (pc' := 537) (by omega) (by omega) dL_law_536 rfl ?_
  refine g_callV (pc' := 540) (Y := X_X11_person) (vs := [vI (eSc xs x 1)]) (st := []) (c := 11) hB mv_X11_person mq_L_44 rfl rfl rfl rfl (Nat.le_of_ble_eq_true rfl) ⟨Nat.le_of_ble_eq_true rfl, Nat.le_of_ble_eq_true rfl⟩ hc rfl dL_law_537 rfl ?_
  rintro r δ' i' l' ⟨v, w1, rfl, hv, rfl, hw1, hb1, hM⟩
  have hM' : CI w.1 1000 X_X12_person (vR (some 99) :: [vI (eSc xs x 1)]) (dw w1) i' l' (fun v' i2 l2 => v' = v ∧ Inv w1 (k + 2) i2 l2) := by rw [← hw1]; exact hM
  refine g_aload_n (pc' := 541) 1 dL_law_540 rfl rfl ?_
  refine g_aload_n (pc' := 542) 3 dL_law_541 rfl rfl ?_
  refine g_iload_n (pc' := 543) 0 dL_law_542 rfl rfl ?_
  refine g_iconst (pc' := 544) dL_law_543 rfl ?_
  refine g_iadd (pc' := 545) dL_law_544 rfl ?_
  refine g_sld (pc' := 546) (by omega) (by omega) dL_law_545 rfl ?_
  refine g_callV (pc' := 549) (Y := X_X12_person) (vs := [vI (eSc xs x 1)]) (st := [vI v]) (c := 12) hM' mv_X12_person mq_L_48 rfl rfl rfl rfl (Nat.le_of_ble_eq_true rfl) ⟨Nat.le_of_ble_eq_true rfl, Nat.le_of_ble_eq_true rfl⟩ hc rfl dL_law_546 rfl ?_
  rintro r δ2 i2 l2 ⟨rfl, v', rfl, hv', rfl, hI2⟩
  refine g_icmp_eq (tgt := 1589) (pc' := 552) hv hv' Iff.rfl dL_law_549 rfl rfl (fun _ => kk w1 i2 l2 hw1 hb1 hI2) (fun q => absurd rfl q)
theorem lc_8 {w : Wd} {k c0 s0 L : Nat} {i : IM} {l : LM} {xs : Nat → Int32} {x : Int} (hx : 0 ≤ x ∧ x + 6 ≤ (L : Int)) (hL : L ≤ 3072) (hB : BoE w k 1000 0 0 X_X11_coat X_X12_coat [vI (eSc xs x 1), vI (eSc xs x 2)] i l) (hc : c0 + 0 ≤ room_1.cells ∧ s0 + 0 ≤ room_1.slots) (kk : ∀ (w1 : Wd) (i2 : IM) (l2 : LM), w1.1 = w.1 → BkA w1 → Inv w1 (k + 2) i2 l2 → G w.1 room_1 X_L_law (QL w.1 L xs) (c0 + 0) (s0 + 0) (dw w1) i2 l2 1589 [(3, vI x), (2, vR (some 99)), (1, vR (some 6)), (0, vR (some 0))] []) : G w.1 room_1 X_L_law (QL w.1 L xs) c0 s0 (dw w) i l 554 [(3, vI x), (2, vR (some 99)), (1, vR (some 6)), (0, vR (some 0))] [] := by
  refine g_aload_n (pc' := 555) 2 dL_law_554 rfl rfl ?_
  refine g_aload_n (pc' := 556) 3 dL_law_555 rfl rfl ?_
  refine g_iload_n (pc' := 557) 0 dL_law_556 rfl rfl ?_
  refine g_iconst (pc' := 558) dL_law_557 rfl ?_
  refine g_iadd (pc' := 559) dL_law_558 rfl ?_
  refine g_sld (pc' := 560) (by omega) (by omega) dL_law_559 rfl ?_
  refine g_aload_n (pc' := 561) 3 dL_law_560 rfl rfl ?_
  refine g_iload_n (pc' := 562) 0 dL_law_561 rfl rfl ?_
  refine g_iconst (pc' := 563) dL_law_562 rfl ?_
  refine g_iadd (pc' := 564) dL_law_563 rfl ?_
  refine g_sld (pc' := 565) (by omega) (by omega) dL_law_564 rfl ?_
  refine g_callV (pc' := 568) (Y := X_X11_coat) (vs := [vI (eSc xs x 1), vI (eSc xs x 2)]) (st := []) (c := 11) hB mv_X11_coat mq_L_49 rfl rfl rfl rfl (Nat.le_of_ble_eq_true rfl) ⟨Nat.le_of_ble_eq_true rfl, Nat.le_of_ble_eq_true rfl⟩ hc rfl dL_law_565 rfl ?_
  rintro r δ' i' l' ⟨v, w1, rfl, hv, rfl, hw1, hb1, hM⟩
  have hM' : CI w.1 1000 X_X12_coat (vR (some 99) :: [vI (eSc xs x 1), vI (eSc xs x 2)]) (dw w1) i' l' (fun v' i2 l2 => v' = v ∧ Inv w1 (k + 2) i2 l2) := by rw [← hw1]; exact hM
  refine g_aload_n (pc' := 569) 1 dL_law_568 rfl rfl ?_
  refine g_aload_n (pc' := 570) 3 dL_law_569 rfl rfl ?_
  refine g_iload_n (pc' := 571) 0 dL_law_570 rfl rfl ?_
  refine g_iconst (pc' := 572) dL_law_571 rfl ?_
  refine g_iadd (pc' := 573) dL_law_572 rfl ?_
  refine g_sld (pc' := 574) (by omega) (by omega) dL_law_573 rfl ?_
  refine g_aload_n (pc' := 575) 3 dL_law_574 rfl rfl ?_
  refine g_iload_n (pc' := 576) 0 dL_law_575 rfl rfl ?_
  refine g_iconst (pc' := 577) dL_law_576 rfl ?_
  refine g_iadd (pc' := 578) dL_law_577 rfl ?_
  refine g_sld (pc' := 579) (by omega) (by omega) dL_law_578 rfl ?_
  refine g_callV (pc' := 582) (Y := X_X12_coat) (vs := [vI (eSc xs x 1), vI (eSc xs x 2)]) (st := [vI v]) (c := 12) hM' mv_X12_coat mq_L_52 rfl rfl rfl rfl (Nat.le_of_ble_eq_true rfl) ⟨Nat.le_of_ble_eq_true rfl, Nat.le_of_ble_eq_true rfl⟩ hc rfl dL_law_579 rfl ?_
  rintro r δ2 i2 l2 ⟨rfl, v', rfl, hv', rfl, hI2⟩
  refine g_icmp_eq (tgt := 1589) (pc' := 585) hv hv' Iff.rfl dL_law_582 rfl rfl (fun _ => kk w1 i2 l2 hw1 hb1 hI2) (fun q => absurd rfl q)
theorem lc_9 {w : Wd} {k c0 s0 L : Nat} {i : IM} {l : LM} {xs : Nat → Int32} {x : Int} (hx : 0 ≤ x ∧ x + 6 ≤ (L : Int)) (hL : L ≤ 3072) (hB : BoE w k 1000 0 0 X_X11_same X_X12_same [vI (eSc xs x 1), vI (eSc xs x 2), vI (eSc xs x 3)] i l) (hc : c0 + 0 ≤ room_1.cells ∧ s0 + 0 ≤ room_1.slots) (kk : ∀ (w1 : Wd) (i2 : IM) (l2 : LM), w1.1 = w.1 → BkA w1 → Inv w1 (k + 2) i2 l2 → G w.1 room_1 X_L_law (QL w.1 L xs) (c0 + 0) (s0 + 0) (dw w1) i2 l2 1589 [(3, vI x), (2, vR (some 99)), (1, vR (some 6)), (0, vR (some 0))] []) : G w.1 room_1 X_L_law (QL w.1 L xs) c0 s0 (dw w) i l 587 [(3, vI x), (2, vR (some 99)), (1, vR (some 6)), (0, vR (some 0))] [] := by
  refine g_aload_n (pc' := 588) 2 dL_law_587 rfl rfl ?_
  refine g_aload_n (pc' := 589) 3 dL_law_588 rfl rfl ?_
  refine g_iload_n (pc' := 590) 0 dL_law_589 rfl rfl ?_
  refine g_iconst (pc' := 591) dL_law_590 rfl ?_
  refine g_iadd (pc' := 592) dL_law_591 rfl ?_
  refine g_sld (pc' := 593) (by omega) (by omega) dL_law_592 rfl ?_
  refine g_aload_n (pc' := 594) 3 dL_law_593 rfl rfl ?_
  refine g_iload_n (pc' := 595) 0 dL_law_594 rfl rfl ?_
  refine g_iconst (pc' := 596) dL_law_595 rfl ?_
  refine g_iadd (pc' := 597) dL_law_596 rfl ?_
  refine g_sld (pc' := 598) (by omega) (by omega) dL_law_597 rfl ?_
  refine g_aload_n (pc' := 599) 3 dL_law_598 rfl rfl ?_
  refine g_iload_n (pc' := 600) 0 dL_law_599 rfl rfl ?_
  refine g_iconst (pc' := 601) dL_law_600 rfl ?_
  refine g_iadd (pc' := 602) dL_law_601 rfl ?_
  refine g_sld (pc' := 603) (by omega) (by omega) dL_law_602 rfl ?_
  refine g_callV (pc' := 606) (Y := X_X11_same) (vs := [vI (eSc xs x 1), vI (eSc xs x 2), vI (eSc xs x 3)]) (st := []) (c := 11) hB mv_X11_same mq_L_53 rfl rfl rfl rfl (Nat.le_of_ble_eq_true rfl) ⟨Nat.le_of_ble_eq_true rfl, Nat.le_of_ble_eq_true rfl⟩ hc rfl dL_law_603 rfl ?_
  rintro r δ' i' l' ⟨v, w1, rfl, hv, rfl, hw1, hb1, hM⟩
  have hM' : CI w.1 1000 X_X12_same (vR (some 99) :: [vI (eSc xs x 1), vI (eSc xs x 2), vI (eSc xs x 3)]) (dw w1) i' l' (fun v' i2 l2 => v' = v ∧ Inv w1 (k + 2) i2 l2) := by rw [← hw1]; exact hM
  refine g_aload_n (pc' := 607) 1 dL_law_606 rfl rfl ?_
  refine g_aload_n (pc' := 608) 3 dL_law_607 rfl rfl ?_
  refine g_iload_n (pc' := 609) 0 dL_law_608 rfl rfl ?_
  refine g_iconst (pc' := 610) dL_law_609 rfl ?_
  refine g_iadd (pc' := 611) dL_law_610 rfl ?_
  refine g_sld (pc' := 612) (by omega) (by omega) dL_law_611 rfl ?_
  refine g_aload_n (pc' := 613) 3 dL_law_612 rfl rfl ?_
  refine g_iload_n (pc' := 614) 0 dL_law_613 rfl rfl ?_
  refine g_iconst (pc' := 615) dL_law_614 rfl ?_
  refine g_iadd (pc' := 616) dL_law_615 rfl ?_
  refine g_sld (pc' := 617) (by omega) (by omega) dL_law_616 rfl ?_
  refine g_aload_n (pc' := 618) 3 dL_law_617 rfl rfl ?_
  refine g_iload_n (pc' := 619) 0 dL_law_618 rfl rfl ?_
  refine g_iconst (pc' := 620) dL_law_619 rfl ?_
  refine g_iadd (pc' := 621) dL_law_620 rfl ?_
  refine g_sld (pc' := 622) (by omega) (by omega) dL_law_621 rfl ?_
  refine g_callV (pc' := 625) (Y := X_X12_same) (vs := [vI (eSc xs x 1), vI (eSc xs x 2), vI (eSc xs x 3)]) (st := [vI v]) (c := 12) hM' mv_X12_same mq_L_56 rfl rfl rfl rfl (Nat.le_of_ble_eq_true rfl) ⟨Nat.le_of_ble_eq_true rfl, Nat.le_of_ble_eq_true rfl⟩ hc rfl dL_law_622 rfl ?_
  rintro r δ2 i2 l2 ⟨rfl, v', rfl, hv', rfl, hI2⟩
  refine g_icmp_eq (tgt := 1589) (pc' := 628) hv hv' Iff.rfl dL_law_625 rfl rfl (fun _ => kk w1 i2 l2 hw1 hb1 hI2) (fun q => absurd rfl q)
theorem lc_10 {w : Wd} {k c0 s0 L : Nat} {i : IM} {l : LM} {xs : Nat → Int32} {x : Int} (hx : 0 ≤ x ∧ x + 6 ≤ (L : Int)) (hL : L ≤ 3072) (hB : BoE w k 1000 0 0 X_X11_counts X_X12_counts [vI (eSc xs x 1)] i l) (hc : c0 + 0 ≤ room_1.cells ∧ s0 + 0 ≤ room_1.slots) (kk : ∀ (w1 : Wd) (i2 : IM) (l2 : LM), w1.1 = w.1 → BkA w1 → Inv w1 (k + 2) i2 l2 → G w.1 room_1 X_L_law (QL w.1 L xs) (c0 + 0) (s0 + 0) (dw w1) i2 l2 1589 [(3, vI x), (2, vR (some 99)), (1, vR (some 6)), (0, vR (some 0))] []) : G w.1 room_1 X_L_law (QL w.1 L xs) c0 s0 (dw w) i l 630 [(3, vI x), (2, vR (some 99)), (1, vR (some 6)), (0, vR (some 0))] [] := by
  refine g_aload_n (pc' := 631) 2 dL_law_630 rfl rfl ?_
  refine g_aload_n (pc' := 632) 3 dL_law_631 rfl rfl ?_
  refine g_iload_n (pc' := 633) 0 dL_law_632 rfl rfl ?_
  refine g_iconst (pc' := 634) dL_law_633 rfl ?_
  refine g_iadd (pc' := 635) dL_law_634 rfl ?_
  refine g_sld (pc' := 636) (by omega) (by omega) dL_law_635 rfl ?_
  refine g_callV (pc' := 639) (Y := X_X11_counts) (vs := [vI (eSc xs x 1)]) (st := []) (c := 11) hB mv_X11_counts mq_L_57 rfl rfl rfl rfl (Nat.le_of_ble_eq_true rfl) ⟨Nat.le_of_ble_eq_true rfl, Nat.le_of_ble_eq_true rfl⟩ hc rfl dL_law_636 rfl ?_
  rintro r δ' i' l' ⟨v, w1, rfl, hv, rfl, hw1, hb1, hM⟩
  have hM' : CI w.1 1000 X_X12_counts (vR (some 99) :: [vI (eSc xs x 1)]) (dw w1) i' l' (fun v' i2 l2 => v' = v ∧ Inv w1 (k + 2) i2 l2) := by rw [← hw1]; exact hM
  refine g_aload_n (pc' := 640) 1 dL_law_639 rfl rfl ?_
  refine g_aload_n (pc' := 641) 3 dL_law_640 rfl rfl ?_
  refine g_iload_n (pc' := 642) 0 dL_law_641 rfl rfl ?_
  refine g_iconst (pc' := 643) dL_law_642 rfl ?_
  refine g_iadd (pc' := 644) dL_law_643 rfl ?_
  refine g_sld (pc' := 645) (by omega) (by omega) dL_law_644 rfl ?_
  refine g_callV (pc' := 648) (Y := X_X12_counts) (vs := [vI (eSc xs x 1)]) (st := [vI v]) (c := 12) hM' mv_X12_counts mq_L_60 rfl rfl rfl rfl (Nat.le_of_ble_eq_true rfl) ⟨Nat.le_of_ble_eq_true rfl, Nat.le_of_ble_eq_true rfl⟩ hc rfl dL_law_645 rfl ?_
  rintro r δ2 i2 l2 ⟨rfl, v', rfl, hv', rfl, hI2⟩
  refine g_icmp_eq (tgt := 1589) (pc' := 651) hv hv' Iff.rfl dL_law_648 rfl rfl (fun _ => kk w1 i2 l2 hw1 hb1 hI2) (fun q => absurd rfl q)
theorem lc_11 {w : Wd} {k c0 s0 L : Nat} {i : IM} {l : LM} {xs : Nat → Int32} {x : Int} (hx : 0 ≤ x ∧ x + 6 ≤ (L : Int)) (hL : L ≤ 3072) (hB : BoE w k 1000 0 0 X_X11_month X_X12_month [vI (eSc xs x 1)] i l) (hc : c0 + 0 ≤ room_1.cells ∧ s0 + 0 ≤ room_1.slots) (kk : ∀ (w1 : Wd) (i2 : IM) (l2 : LM), w1.1 = w.1 → BkA w1 → Inv w1 (k + 2) i2 l2 → G w.1 room_1 X_L_law (QL w.1 L xs) (c0 + 0) (s0 + 0) (dw w1) i2 l2 1589 [(3, vI x), (2, vR (some 99)), (1, vR (some 6)), (0, vR (some 0))] []) : G w.1 room_1 X_L_law (QL w.1 L xs) c0 s0 (dw w) i l 653 [(3, vI x), (2, vR (some 99)), (1, vR (some 6)), (0, vR (some 0))] [] := by
  refine g_aload_n (pc' := 654) 2 dL_law_653 rfl rfl ?_
  refine g_aload_n (pc' := 655) 3 dL_law_654 rfl rfl ?_
  refine g_iload_n (pc' := 656) 0 dL_law_655 rfl rfl ?_
  refine g_iconst (pc' := 657) dL_law_656 rfl ?_
  refine g_iadd (pc' := 658) dL_law_657 rfl ?_
  refine g_sld (pc' := 659) (by omega) (by omega) dL_law_658 rfl ?_
  refine g_callV (pc' := 662) (Y := X_X11_month) (vs := [vI (eSc xs x 1)]) (st := []) (c := 11) hB mv_X11_month mq_L_61 rfl rfl rfl rfl (Nat.le_of_ble_eq_true rfl) ⟨Nat.le_of_ble_eq_true rfl, Nat.le_of_ble_eq_true rfl⟩ hc rfl dL_law_659 rfl ?_
  rintro r δ' i' l' ⟨v, w1, rfl, hv, rfl, hw1, hb1, hM⟩
  have hM' : CI w.1 1000 X_X12_month (vR (some 99) :: [vI (eSc xs x 1)]) (dw w1) i' l' (fun v' i2 l2 => v' = v ∧ Inv w1 (k + 2) i2 l2) := by rw [← hw1]; exact hM
  refine g_aload_n (pc' := 663) 1 dL_law_662 rfl rfl ?_
  refine g_aload_n (pc' := 664) 3 dL_law_663 rfl rfl ?_
  refine g_iload_n (pc' := 665) 0 dL_law_664 rfl rfl ?_
  refine g_iconst (pc' := 666) dL_law_665 rfl ?_
  refine g_iadd (pc' := 667) dL_law_666 rfl ?_
  refine g_sld (pc' := 668) (by omega) (by omega) dL_law_667 rfl ?_
  refine g_callV (pc' := 671) (Y := X_X12_month) (vs := [vI (eSc xs x 1)]) (st := [vI v]) (c := 12) hM' mv_X12_month mq_L_64 rfl rfl rfl rfl (Nat.le_of_ble_eq_true rfl) ⟨Nat.le_of_ble_eq_true rfl, Nat.le_of_ble_eq_true rfl⟩ hc rfl dL_law_668 rfl ?_
  rintro r δ2 i2 l2 ⟨rfl, v', rfl, hv', rfl, hI2⟩
  refine g_icmp_eq (tgt := 1589) (pc' := 674) hv hv' Iff.rfl dL_law_671 rfl rfl (fun _ => kk w1 i2 l2 hw1 hb1 hI2) (fun q => absurd rfl q)
theorem lc_12 {w : Wd} {k c0 s0 L : Nat} {i : IM} {l : LM} {xs : Nat → Int32} {x : Int} (hx : 0 ≤ x ∧ x + 6 ≤ (L : Int)) (hL : L ≤ 3072) (hB : BoE w k 1000 0 0 X_X11_walk X_X12_walk [vI (eSc xs x 1), vI (eSc xs x 2), vI (eSc xs x 3)] i l) (hc : c0 + 0 ≤ room_1.cells ∧ s0 + 0 ≤ room_1.slots) (kk : ∀ (w1 : Wd) (i2 : IM) (l2 : LM), w1.1 = w.1 → BkA w1 → Inv w1 (k + 2) i2 l2 → G w.1 room_1 X_L_law (QL w.1 L xs) (c0 + 0) (s0 + 0) (dw w1) i2 l2 1589 [(3, vI x), (2, vR (some 99)), (1, vR (some 6)), (0, vR (some 0))] []) : G w.1 room_1 X_L_law (QL w.1 L xs) c0 s0 (dw w) i l 676 [(3, vI x), (2, vR (some 99)), (1, vR (some 6)), (0, vR (some 0))] [] := by
  refine g_aload_n (pc' := 677) 2 dL_law_676 rfl rfl ?_
  refine g_aload_n (pc' := 678) 3 dL_law_677 rfl rfl ?_
  refine g_iload_n (pc' := 679) 0 dL_law_678 rfl rfl ?_
  refine g_iconst (pc' := 680) dL_law_679 rfl ?_
  refine g_iadd (pc' := 681) dL_law_680 rfl ?_
  refine g_sld (pc' := 682) (by omega) (by omega) dL_law_681 rfl ?_
  refine g_aload_n (pc' := 683) 3 dL_law_682 rfl rfl ?_
  refine g_iload_n (pc' := 684) 0 dL_law_683 rfl rfl ?_
  refine g_iconst (pc' := 685) dL_law_684 rfl ?_
  refine g_iadd (pc' := 686) dL_law_685 rfl ?_
  refine g_sld (pc' := 687) (by omega) (by omega) dL_law_686 rfl ?_
  refine g_aload_n (pc' := 688) 3 dL_law_687 rfl rfl ?_
  refine g_iload_n (pc' := 689) 0 dL_law_688 rfl rfl ?_
  refine g_iconst (pc' := 690) dL_law_689 rfl ?_
  refine g_iadd (pc' := 691) dL_law_690 rfl ?_
  refine g_sld (pc' := 692) (by omega) (by omega) dL_law_691 rfl ?_
  refine g_callV (pc' := 695) (Y := X_X11_walk) (vs := [vI (eSc xs x 1), vI (eSc xs x 2), vI (eSc xs x 3)]) (st := []) (c := 11) hB mv_X11_walk mq_L_65 rfl rfl rfl rfl (Nat.le_of_ble_eq_true rfl) ⟨Nat.le_of_ble_eq_true rfl, Nat.le_of_ble_eq_true rfl⟩ hc rfl dL_law_692 rfl ?_
  rintro r δ' i' l' ⟨v, w1, rfl, hv, rfl, hw1, hb1, hM⟩
  have hM' : CI w.1 1000 X_X12_walk (vR (some 99) :: [vI (eSc xs x 1), vI (eSc xs x 2), vI (eSc xs x 3)]) (dw w1) i' l' (fun v' i2 l2 => v' = v ∧ Inv w1 (k + 2) i2 l2) := by rw [← hw1]; exact hM
  refine g_aload_n (pc' := 696) 1 dL_law_695 rfl rfl ?_
  refine g_aload_n (pc' := 697) 3 dL_law_696 rfl rfl ?_
  refine g_iload_n (pc' := 698) 0 dL_law_697 rfl rfl ?_
  refine g_iconst (pc' := 699) dL_law_698 rfl ?_
  refine g_iadd (pc' := 700) dL_law_699 rfl ?_
  refine g_sld (pc' := 701) (by omega) (by omega) dL_law_700 rfl ?_
  refine g_aload_n (pc' := 702) 3 dL_law_701 rfl rfl ?_
  refine g_iload_n (pc' := 703) 0 dL_law_702 rfl rfl ?_
  refine g_iconst (pc' := 704) dL_law_703 rfl ?_
  refine g_iadd (pc' := 705) dL_law_704 rfl ?_
  refine g_sld (pc' := 706) (by omega) (by omega) dL_law_705 rfl ?_
  refine g_aload_n (pc' := 707) 3 dL_law_706 rfl rfl ?_
  refine g_iload_n (pc' := 708) 0 dL_law_707 rfl rfl ?_
  refine g_iconst (pc' := 709) dL_law_708 rfl ?_
  refine g_iadd (pc' := 710) dL_law_709 rfl ?_
  refine g_sld (pc' := 711) (by omega) (by omega) dL_law_710 rfl ?_
  refine g_callV (pc' := 714) (Y := X_X12_walk) (vs := [vI (eSc xs x 1), vI (eSc xs x 2), vI (eSc xs x 3)]) (st := [vI v]) (c := 12) hM' mv_X12_walk mq_L_68 rfl rfl rfl rfl (Nat.le_of_ble_eq_true rfl) ⟨Nat.le_of_ble_eq_true rfl, Nat.le_of_ble_eq_true rfl⟩ hc rfl dL_law_711 rfl ?_
  rintro r δ2 i2 l2 ⟨rfl, v', rfl, hv', rfl, hI2⟩
  refine g_icmp_eq (tgt := 1589) (pc' := 717) hv hv' Iff.rfl dL_law_714 rfl rfl (fun _ => kk w1 i2 l2 hw1 hb1 hI2) (fun q => absurd rfl q)
theorem lc_13 {w : Wd} {k c0 s0 L : Nat} {i : IM} {l : LM} {xs : Nat → Int32} {x : Int} (hx : 0 ≤ x ∧ x + 6 ≤ (L : Int)) (hL : L ≤ 3072) (hB : BoE w k 1000 0 0 X_X11_where X_X12_where [vI (eSc xs x 1), vI (eSc xs x 2)] i l) (hc : c0 + 0 ≤ room_1.cells ∧ s0 + 0 ≤ room_1.slots) (kk : ∀ (w1 : Wd) (i2 : IM) (l2 : LM), w1.1 = w.1 → BkA w1 → Inv w1 (k + 2) i2 l2 → G w.1 room_1 X_L_law (QL w.1 L xs) (c0 + 0) (s0 + 0) (dw w1) i2 l2 1589 [(3, vI x), (2, vR (some 99)), (1, vR (some 6)), (0, vR (some 0))] []) : G w.1 room_1 X_L_law (QL w.1 L xs) c0 s0 (dw w) i l 719 [(3, vI x), (2, vR (some 99)), (1, vR (some 6)), (0, vR (some 0))] [] := by
  refine g_aload_n (pc' := 720) 2 dL_law_719 rfl rfl ?_
  refine g_aload_n (pc' := 721) 3 dL_law_720 rfl rfl ?_
  refine g_iload_n (pc' := 722) 0 dL_law_721 rfl rfl ?_
  refine g_iconst (pc' := 723) dL_law_722 rfl ?_
  refine g_iadd (pc' := 724) dL_law_723 rfl ?_
  refine g_sld (pc' := 725) (by omega) (by omega) dL_law_724 rfl ?_
  refine g_aload_n (pc' := 726) 3 dL_law_725 rfl rfl ?_
  refine g_iload_n (pc' := 727) 0 dL_law_726 rfl rfl ?_
  refine g_iconst (pc' := 728) dL_law_727 rfl ?_
  refine g_iadd (pc' := 729) dL_law_728 rfl ?_
  refine g_sld (pc' := 730) (by omega) (by omega) dL_law_729 rfl ?_
  refine g_callV (pc' := 733) (Y := X_X11_where) (vs := [vI (eSc xs x 1), vI (eSc xs x 2)]) (st := []) (c := 11) hB mv_X11_where mq_L_69 rfl rfl rfl rfl (Nat.le_of_ble_eq_true rfl) ⟨Nat.le_of_ble_eq_true rfl, Nat.le_of_ble_eq_true rfl⟩ hc rfl dL_law_730 rfl ?_
  rintro r δ' i' l' ⟨v, w1, rfl, hv, rfl, hw1, hb1, hM⟩
  have hM' : CI w.1 1000 X_X12_where (vR (some 99) :: [vI (eSc xs x 1), vI (eSc xs x 2)]) (dw w1) i' l' (fun v' i2 l2 => v' = v ∧ Inv w1 (k + 2) i2 l2) := by rw [← hw1]; exact hM
  refine g_aload_n (pc' := 734) 1 dL_law_733 rfl rfl ?_
  refine g_aload_n (pc' := 735) 3 dL_law_734 rfl rfl ?_
  refine g_iload_n (pc' := 736) 0 dL_law_735 rfl rfl ?_
  refine g_iconst (pc' := 737) dL_law_736 rfl ?_
  refine g_iadd (pc' := 738) dL_law_737 rfl ?_
  refine g_sld (pc' := 739) (by omega) (by omega) dL_law_738 rfl ?_
  refine g_aload_n (pc' := 740) 3 dL_law_739 rfl rfl ?_
  refine g_iload_n (pc' := 741) 0 dL_law_740 rfl rfl ?_
  refine g_iconst (pc' := 742) dL_law_741 rfl ?_
  refine g_iadd (pc' := 743) dL_law_742 rfl ?_
  refine g_sld (pc' := 744) (by omega) (by omega) dL_law_743 rfl ?_
  refine g_callV (pc' := 747) (Y := X_X12_where) (vs := [vI (eSc xs x 1), vI (eSc xs x 2)]) (st := [vI v]) (c := 12) hM' mv_X12_where mq_L_72 rfl rfl rfl rfl (Nat.le_of_ble_eq_true rfl) ⟨Nat.le_of_ble_eq_true rfl, Nat.le_of_ble_eq_true rfl⟩ hc rfl dL_law_744 rfl ?_
  rintro r δ2 i2 l2 ⟨rfl, v', rfl, hv', rfl, hI2⟩
  refine g_icmp_eq (tgt := 1589) (pc' := 750) hv hv' Iff.rfl dL_law_747 rfl rfl (fun _ => kk w1 i2 l2 hw1 hb1 hI2) (fun q => absurd rfl q)
theorem lc_14 {w : Wd} {k c0 s0 L : Nat} {i : IM} {l : LM} {xs : Nat → Int32} {x : Int} (hx : 0 ≤ x ∧ x + 6 ≤ (L : Int)) (hL : L ≤ 3072) (hB : BoE w k 1000 0 0 X_X11_feed X_X12_feed [vI (eSc xs x 1), vI (eSc xs x 2), vI (eSc xs x 3), vI (eSc xs x 4), vI (eSc xs x 5)] i l) (hc : c0 + 0 ≤ room_1.cells ∧ s0 + 0 ≤ room_1.slots) (kk : ∀ (w1 : Wd) (i2 : IM) (l2 : LM), w1.1 = w.1 → BkA w1 → Inv w1 (k + 2) i2 l2 → G w.1 room_1 X_L_law (QL w.1 L xs) (c0 + 0) (s0 + 0) (dw w1) i2 l2 1589 [(3, vI x), (2, vR (some 99)), (1, vR (some 6)), (0, vR (some 0))] []) : G w.1 room_1 X_L_law (QL w.1 L xs) c0 s0 (dw w) i l 752 [(3, vI x), (2, vR (some 99)), (1, vR (some 6)), (0, vR (some 0))] [] := by
  refine g_aload_n (pc' := 753) 2 dL_law_752 rfl rfl ?_
  refine g_aload_n (pc' := 754) 3 dL_law_753 rfl rfl ?_
  refine g_iload_n (pc' := 755) 0 dL_law_754 rfl rfl ?_
  refine g_iconst (pc' := 756) dL_law_755 rfl ?_
  refine g_iadd (pc' := 757) dL_law_756 rfl ?_
  refine g_sld (pc' := 758) (by omega) (by omega) dL_law_757 rfl ?_
  refine g_aload_n (pc' := 759) 3 dL_law_758 rfl rfl ?_
  refine g_iload_n (pc' := 760) 0 dL_law_759 rfl rfl ?_
  refine g_iconst (pc' := 761) dL_law_760 rfl ?_
  refine g_iadd (pc' := 762) dL_law_761 rfl ?_
  refine g_sld (pc' := 763) (by omega) (by omega) dL_law_762 rfl ?_
  refine g_aload_n (pc' := 764) 3 dL_law_763 rfl rfl ?_
  refine g_iload_n (pc' := 765) 0 dL_law_764 rfl rfl ?_
  refine g_iconst (pc' := 766) dL_law_765 rfl ?_
  refine g_iadd (pc' := 767) dL_law_766 rfl ?_
  refine g_sld (pc' := 768) (by omega) (by omega) dL_law_767 rfl ?_
  refine g_aload_n (pc' := 769) 3 dL_law_768 rfl rfl ?_
  refine g_iload_n (pc' := 770) 0 dL_law_769 rfl rfl ?_
  refine g_iconst (pc' := 771) dL_law_770 rfl ?_
  refine g_iadd (pc' := 772) dL_law_771 rfl ?_
  refine g_sld (pc' := 773) (by omega) (by omega) dL_law_772 rfl ?_
  refine g_aload_n (pc' := 774) 3 dL_law_773 rfl rfl ?_
  refine g_iload_n (pc' := 775) 0 dL_law_774 rfl rfl ?_
  refine g_iconst (pc' := 776) dL_law_775 rfl ?_
  refine g_iadd (pc' := 777) dL_law_776 rfl ?_
  refine g_sld (pc' := 778) (by omega) (by omega) dL_law_777 rfl ?_
  refine g_callV (pc' := 781) (Y := X_X11_feed) (vs := [vI (eSc xs x 1), vI (eSc xs x 2), vI (eSc xs x 3), vI (eSc xs x 4), vI (eSc xs x 5)]) (st := []) (c := 11) hB mv_X11_feed mq_L_73 rfl rfl rfl rfl (Nat.le_of_ble_eq_true rfl) ⟨Nat.le_of_ble_eq_true rfl, Nat.le_of_ble_eq_true rfl⟩ hc rfl dL_law_778 rfl ?_
  rintro r δ' i' l' ⟨v, w1, rfl, hv, rfl, hw1, hb1, hM⟩
  have hM' : CI w.1 1000 X_X12_feed (vR (some 99) :: [vI (eSc xs x 1), vI (eSc xs x 2), vI (eSc xs x 3), vI (eSc xs x 4), vI (eSc xs x 5)]) (dw w1) i' l' (fun v' i2 l2 => v' = v ∧ Inv w1 (k + 2) i2 l2) := by rw [← hw1]; exact hM
  refine g_aload_n (pc' := 782) 1 dL_law_781 rfl rfl ?_
  refine g_aload_n (pc' := 783) 3 dL_law_782 rfl rfl ?_
  refine g_iload_n (pc' := 784) 0 dL_law_783 rfl rfl ?_
  refine g_iconst (pc' := 785) dL_law_784 rfl ?_
  refine g_iadd (pc' := 786) dL_law_785 rfl ?_
  refine g_sld (pc' := 787) (by omega) (by omega) dL_law_786 rfl ?_
  refine g_aload_n (pc' := 788) 3 dL_law_787 rfl rfl ?_
  refine g_iload_n (pc' := 789) 0 dL_law_788 rfl rfl ?_
  refine g_iconst (pc' := 790) dL_law_789 rfl ?_
  refine g_iadd (pc' := 791) dL_law_790 rfl ?_
  refine g_sld (pc' := 792) (by omega) (by omega) dL_law_791 rfl ?_
  refine g_aload_n (pc' := 793) 3 dL_law_792 rfl rfl ?_
  refine g_iload_n (pc' := 794) 0 dL_law_793 rfl rfl ?_
  refine g_iconst (pc' := 795) dL_law_794 rfl ?_
  refine g_iadd (pc' := 796) dL_law_795 rfl ?_
  refine g_sld (pc' := 797) (by omega) (by omega) dL_law_796 rfl ?_
  refine g_aload_n (pc' := 798) 3 dL_law_797 rfl rfl ?_
  refine g_iload_n (pc' := 799) 0 dL_law_798 rfl rfl ?_
  refine g_iconst (pc' := 800) dL_law_799 rfl ?_
  refine g_iadd (pc' := 801) dL_law_800 rfl ?_
  refine g_sld (pc' := 802) (by omega) (by omega) dL_law_801 rfl ?_
  refine g_aload_n (pc' := 803) 3 dL_law_802 rfl rfl ?_
  refine g_iload_n (pc' := 804) 0 dL_law_803 rfl rfl ?_
  refine g_iconst (pc' := 805) dL_law_804 rfl ?_
  refine g_iadd (pc' := 806) dL_law_805 rfl ?_
  refine g_sld (pc' := 807) (by omega) (by omega) dL_law_806 rfl ?_
  refine g_callV (pc' := 810) (Y := X_X12_feed) (vs := [vI (eSc xs x 1), vI (eSc xs x 2), vI (eSc xs x 3), vI (eSc xs x 4), vI (eSc xs x 5)]) (st := [vI v]) (c := 12) hM' mv_X12_feed mq_L_76 rfl rfl rfl rfl (Nat.le_of_ble_eq_true rfl) ⟨Nat.le_of_ble_eq_true rfl, Nat.le_of_ble_eq_true rfl⟩ hc rfl dL_law_807 rfl ?_
  rintro r δ2 i2 l2 ⟨rfl, v', rfl, hv', rfl, hI2⟩
  refine g_icmp_eq (tgt := 1589) (pc' := 813) hv hv' Iff.rfl dL_law_810 rfl rfl (fun _ => kk w1 i2 l2 hw1 hb1 hI2) (fun q => absurd rfl q)
theorem lc_15 {w : Wd} {k c0 s0 L : Nat} {i : IM} {l : LM} {xs : Nat → Int32} {x : Int} (hx : 0 ≤ x ∧ x + 6 ≤ (L : Int)) (hL : L ≤ 3072) (hB : BoE w k 1000 0 0 X_X11_end X_X12_end [vI (eSc xs x 1)] i l) (hc : c0 + 0 ≤ room_1.cells ∧ s0 + 0 ≤ room_1.slots) (kk : ∀ (w1 : Wd) (i2 : IM) (l2 : LM), w1.1 = w.1 → BkA w1 → Inv w1 (k + 2) i2 l2 → G w.1 room_1 X_L_law (QL w.1 L xs) (c0 + 0) (s0 + 0) (dw w1) i2 l2 1589 [(3, vI x), (2, vR (some 99)), (1, vR (some 6)), (0, vR (some 0))] []) : G w.1 room_1 X_L_law (QL w.1 L xs) c0 s0 (dw w) i l 815 [(3, vI x), (2, vR (some 99)), (1, vR (some 6)), (0, vR (some 0))] [] := by
  refine g_aload_n (pc' := 816) 2 dL_law_815 rfl rfl ?_
  refine g_aload_n (pc' := 817) 3 dL_law_816 rfl rfl ?_
  refine g_iload_n (pc' := 818) 0 dL_law_817 rfl rfl ?_
  refine g_iconst (pc' := 819) dL_law_818 rfl ?_
  refine g_iadd (pc' := 820) dL_law_819 rfl ?_
  refine g_sld (pc' := 821) (by omega) (by omega) dL_law_820 rfl ?_
  refine g_callV (pc' := 824) (Y := X_X11_end) (vs := [vI (eSc xs x 1)]) (st := []) (c := 11) hB mv_X11_end mq_L_77 rfl rfl rfl rfl (Nat.le_of_ble_eq_true rfl) ⟨Nat.le_of_ble_eq_true rfl, Nat.le_of_ble_eq_true rfl⟩ hc rfl dL_law_821 rfl ?_
  rintro r δ' i' l' ⟨v, w1, rfl, hv, rfl, hw1, hb1, hM⟩
  have hM' : CI w.1 1000 X_X12_end (vR (some 99) :: [vI (eSc xs x 1)]) (dw w1) i' l' (fun v' i2 l2 => v' = v ∧ Inv w1 (k + 2) i2 l2) := by rw [← hw1]; exact hM
  refine g_aload_n (pc' := 825) 1 dL_law_824 rfl rfl ?_
  refine g_aload_n (pc' := 826) 3 dL_law_825 rfl rfl ?_
  refine g_iload_n (pc' := 827) 0 dL_law_826 rfl rfl ?_
  refine g_iconst (pc' := 828) dL_law_827 rfl ?_
  refine g_iadd (pc' := 829) dL_law_828 rfl ?_
  refine g_sld (pc' := 830) (by omega) (by omega) dL_law_829 rfl ?_
  refine g_callV (pc' := 833) (Y := X_X12_end) (vs := [vI (eSc xs x 1)]) (st := [vI v]) (c := 12) hM' mv_X12_end mq_L_80 rfl rfl rfl rfl (Nat.le_of_ble_eq_true rfl) ⟨Nat.le_of_ble_eq_true rfl, Nat.le_of_ble_eq_true rfl⟩ hc rfl dL_law_830 rfl ?_
  rintro r δ2 i2 l2 ⟨rfl, v', rfl, hv', rfl, hI2⟩
  refine g_icmp_eq (tgt := 1589) (pc' := 836) hv hv' Iff.rfl dL_law_833 rfl rfl (fun _ => kk w1 i2 l2 hw1 hb1 hI2) (fun q => absurd rfl q)
theorem lc_16 {w : Wd} {k c0 s0 L : Nat} {i : IM} {l : LM} {xs : Nat → Int32} {x : Int} (hx : 0 ≤ x ∧ x + 6 ≤ (L : Int)) (hL : L ≤ 3072) (hB : BoE w k 1000 0 0 X_X11_row X_X12_row [] i l) (hc : c0 + 0 ≤ room_1.cells ∧ s0 + 0 ≤ room_1.slots) (kk : ∀ (w1 : Wd) (i2 : IM) (l2 : LM), w1.1 = w.1 → BkA w1 → Inv w1 (k + 2) i2 l2 → G w.1 room_1 X_L_law (QL w.1 L xs) (c0 + 0) (s0 + 0) (dw w1) i2 l2 1589 [(3, vI x), (2, vR (some 99)), (1, vR (some 6)), (0, vR (some 0))] []) : G w.1 room_1 X_L_law (QL w.1 L xs) c0 s0 (dw w) i l 838 [(3, vI x), (2, vR (some 99)), (1, vR (some 6)), (0, vR (some 0))] [] := by
  refine g_aload_n (pc' := 839) 2 dL_law_838 rfl rfl ?_
  refine g_callV (pc' := 842) (Y := X_X11_row) (vs := []) (st := []) (c := 11) hB mv_X11_row mq_L_81 rfl rfl rfl rfl (Nat.le_of_ble_eq_true rfl) ⟨Nat.le_of_ble_eq_true rfl, Nat.le_of_ble_eq_true rfl⟩ hc rfl dL_law_839 rfl ?_
  rintro r δ' i' l' ⟨v, w1, rfl, hv, rfl, hw1, hb1, hM⟩
  have hM' : CI w.1 1000 X_X12_row (vR (some 99) :: []) (dw w1) i' l' (fun v' i2 l2 => v' = v ∧ Inv w1 (k + 2) i2 l2) := by rw [← hw1]; exact hM
  refine g_aload_n (pc' := 843) 1 dL_law_842 rfl rfl ?_
  refine g_callV (pc' := 846) (Y := X_X12_row) (vs := []) (st := [vI v]) (c := 12) hM' mv_X12_row mq_L_85 rfl rfl rfl rfl (Nat.le_of_ble_eq_true rfl) ⟨Nat.le_of_ble_eq_true rfl, Nat.le_of_ble_eq_true rfl⟩ hc rfl dL_law_843 rfl ?_
  rintro r δ2 i2 l2 ⟨rfl, v', rfl, hv', rfl, hI2⟩
  refine g_icmp_eq (tgt := 1589) (pc' := 849) hv hv' Iff.rfl dL_law_846 rfl rfl (fun _ => kk w1 i2 l2 hw1 hb1 hI2) (fun q => absurd rfl q)
theorem lc_17 {w : Wd} {k c0 s0 L : Nat} {i : IM} {l : LM} {xs : Nat → Int32} {x : Int} (hx : 0 ≤ x ∧ x + 6 ≤ (L : Int)) (hL : L ≤ 3072) (hB : BoE w k 1000 0 0 X_X11_spoilt X_X12_spoilt [] i l) (hc : c0 + 0 ≤ room_1.cells ∧ s0 + 0 ≤ room_1.slots) (kk : ∀ (w1 : Wd) (i2 : IM) (l2 : LM), w1.1 = w.1 → BkA w1 → Inv w1 (k + 2) i2 l2 → G w.1 room_1 X_L_law (QL w.1 L xs) (c0 + 0) (s0 + 0) (dw w1) i2 l2 1589 [(3, vI x), (2, vR (some 99)), (1, vR (some 6)), (0, vR (some 0))] []) : G w.1 room_1 X_L_law (QL w.1 L xs) c0 s0 (dw w) i l 851 [(3, vI x), (2, vR (some 99)), (1, vR (some 6)), (0, vR (some 0))] [] := by
  refine g_aload_n (pc' := 852) 2 dL_law_851 rfl rfl ?_
  refine g_callV (pc' := 855) (Y := X_X11_spoilt) (vs := []) (st := []) (c := 11) hB mv_X11_spoilt mq_L_86 rfl rfl rfl rfl (Nat.le_of_ble_eq_true rfl) ⟨Nat.le_of_ble_eq_true rfl, Nat.le_of_ble_eq_true rfl⟩ hc rfl dL_law_852 rfl ?_
  rintro r δ' i' l' ⟨v, w1, rfl, hv, rfl, hw1, hb1, hM⟩
  have hM' : CI w.1 1000 X_X12_spoilt (vR (some 99) :: []) (dw w1) i' l' (fun v' i2 l2 => v' = v ∧ Inv w1 (k + 2) i2 l2) := by rw [← hw1]; exact hM
  refine g_aload_n (pc' := 856) 1 dL_law_855 rfl rfl ?_
  refine g_callV (pc' := 859) (Y := X_X12_spoilt) (vs := []) (st := [vI v]) (c := 12) hM' mv_X12_spoilt mq_L_89 rfl rfl rfl rfl (Nat.le_of_ble_eq_true rfl) ⟨Nat.le_of_ble_eq_true rfl, Nat.le_of_ble_eq_true rfl⟩ hc rfl dL_law_856 rfl ?_
  rintro r δ2 i2 l2 ⟨rfl, v', rfl, hv', rfl, hI2⟩
  refine g_icmp_eq (tgt := 1589) (pc' := 862) hv hv' Iff.rfl dL_law_859 rfl rfl (fun _ => kk w1 i2 l2 hw1 hb1 hI2) (fun q => absurd rfl q)
theorem lc_18 {w : Wd} {k c0 s0 L : Nat} {i : IM} {l : LM} {xs : Nat → Int32} {x : Int} (hx : 0 ≤ x ∧ x + 6 ≤ (L : Int)) (hL : L ≤ 3072) (hB : BoE w k 1000 4 455 X_X11_law X_X12_law [] i l) (hc : c0 + 4 ≤ room_1.cells ∧ s0 + 455 ≤ room_1.slots) (kk : ∀ (w1 : Wd) (i2 : IM) (l2 : LM), w1.1 = w.1 → BkA w1 → Inv w1 (k + 2) i2 l2 → G w.1 room_1 X_L_law (QL w.1 L xs) (c0 + 4) (s0 + 455) (dw w1) i2 l2 1589 [(3, vI x), (2, vR (some 99)), (1, vR (some 6)), (0, vR (some 0))] []) : G w.1 room_1 X_L_law (QL w.1 L xs) c0 s0 (dw w) i l 864 [(3, vI x), (2, vR (some 99)), (1, vR (some 6)), (0, vR (some 0))] [] := by
  refine g_aload_n (pc' := 865) 2 dL_law_864 rfl rfl ?_
  refine g_callV (pc' := 868) (Y := X_X11_law) (vs := []) (st := []) (c := 11) hB mv_X11_law mq_L_90 rfl rfl rfl rfl (Nat.le_of_ble_eq_true rfl) ⟨Nat.le_of_ble_eq_true rfl, Nat.le_of_ble_eq_true rfl⟩ hc rfl dL_law_865 rfl ?_
  rintro r δ' i' l' ⟨v, w1, rfl, hv, rfl, hw1, hb1, hM⟩
  have hM' : CI w.1 1000 X_X12_law (vR (some 99) :: []) (dw w1) i' l' (fun v' i2 l2 => v' = v ∧ Inv w1 (k + 2) i2 l2) := by rw [← hw1]; exact hM
  refine g_aload_n (pc' := 869) 1 dL_law_868 rfl rfl ?_
  refine g_callV (pc' := 872) (Y := X_X12_law) (vs := []) (st := [vI v]) (c := 12) hM' mv_X12_law mq_L_93 rfl rfl rfl rfl (Nat.le_of_ble_eq_true rfl) ⟨Nat.le_of_ble_eq_true rfl, Nat.le_of_ble_eq_true rfl⟩ hc rfl dL_law_869 rfl ?_
  rintro r δ2 i2 l2 ⟨rfl, v', rfl, hv', rfl, hI2⟩
  refine g_icmp_eq (tgt := 1589) (pc' := 875) hv hv' Iff.rfl dL_law_872 rfl rfl (fun _ => kk w1 i2 l2 hw1 hb1 hI2) (fun q => absurd rfl q)
theorem lc_19 {w : Wd} {k c0 s0 L : Nat} {i : IM} {l : LM} {xs : Nat → Int32} {x : Int} (hx : 0 ≤ x ∧ x + 6 ≤ (L : Int)) (hL : L ≤ 3072) (hB : BoE w k 1000 0 0 X_X11_fault X_X12_fault [] i l) (hc : c0 + 0 ≤ room_1.cells ∧ s0 + 0 ≤ room_1.slots) (kk : ∀ (w1 : Wd) (i2 : IM) (l2 : LM), w1.1 = w.1 → BkA w1 → Inv w1 (k + 2) i2 l2 → G w.1 room_1 X_L_law (QL w.1 L xs) (c0 + 0) (s0 + 0) (dw w1) i2 l2 1589 [(3, vI x), (2, vR (some 99)), (1, vR (some 6)), (0, vR (some 0))] []) : G w.1 room_1 X_L_law (QL w.1 L xs) c0 s0 (dw w) i l 877 [(3, vI x), (2, vR (some 99)), (1, vR (some 6)), (0, vR (some 0))] [] := by
  refine g_aload_n (pc' := 878) 2 dL_law_877 rfl rfl ?_
  refine g_callV (pc' := 881) (Y := X_X11_fault) (vs := []) (st := []) (c := 11) hB mv_X11_fault mq_L_94 rfl rfl rfl rfl (Nat.le_of_ble_eq_true rfl) ⟨Nat.le_of_ble_eq_true rfl, Nat.le_of_ble_eq_true rfl⟩ hc rfl dL_law_878 rfl ?_
  rintro r δ' i' l' ⟨v, w1, rfl, hv, rfl, hw1, hb1, hM⟩
  have hM' : CI w.1 1000 X_X12_fault (vR (some 99) :: []) (dw w1) i' l' (fun v' i2 l2 => v' = v ∧ Inv w1 (k + 2) i2 l2) := by rw [← hw1]; exact hM
  refine g_aload_n (pc' := 882) 1 dL_law_881 rfl rfl ?_
  refine g_callV (pc' := 885) (Y := X_X12_fault) (vs := []) (st := [vI v]) (c := 12) hM' mv_X12_fault mq_L_97 rfl rfl rfl rfl (Nat.le_of_ble_eq_true rfl) ⟨Nat.le_of_ble_eq_true rfl, Nat.le_of_ble_eq_true rfl⟩ hc rfl dL_law_882 rfl ?_
  rintro r δ2 i2 l2 ⟨rfl, v', rfl, hv', rfl, hI2⟩
  refine g_icmp_eq (tgt := 1589) (pc' := 888) hv hv' Iff.rfl dL_law_885 rfl rfl (fun _ => kk w1 i2 l2 hw1 hb1 hI2) (fun q => absurd rfl q)
theorem lc_20 {w : Wd} {k c0 s0 L : Nat} {i : IM} {l : LM} {xs : Nat → Int32} {x : Int} (hx : 0 ≤ x ∧ x + 6 ≤ (L : Int)) (hL : L ≤ 3072) (hB : BoE w k 1000 0 0 X_X11_force X_X12_force [vI (eSc xs x 1)] i l) (hc : c0 + 0 ≤ room_1.cells ∧ s0 + 0 ≤ room_1.slots) (kk : ∀ (w1 : Wd) (i2 : IM) (l2 : LM), w1.1 = w.1 → BkA w1 → Inv w1 (k + 2) i2 l2 → G w.1 room_1 X_L_law (QL w.1 L xs) (c0 + 0) (s0 + 0) (dw w1) i2 l2 1589 [(3, vI x), (2, vR (some 99)), (1, vR (some 6)), (0, vR (some 0))] []) : G w.1 room_1 X_L_law (QL w.1 L xs) c0 s0 (dw w) i l 890 [(3, vI x), (2, vR (some 99)), (1, vR (some 6)), (0, vR (some 0))] [] := by
  refine g_aload_n (pc' := 891) 2 dL_law_890 rfl rfl ?_
  refine g_aload_n (pc' := 892) 3 dL_law_891 rfl rfl ?_
  refine g_iload_n (pc' := 893) 0 dL_law_892 rfl rfl ?_
  refine g_iconst (pc' := 894) dL_law_893 rfl ?_
  refine g_iadd (pc' := 895) dL_law_894 rfl ?_
  refine g_sld (pc' := 896) (by omega) (by omega) dL_law_895 rfl ?_
  refine g_callV (pc' := 899) (Y := X_X11_force) (vs := [vI (eSc xs x 1)]) (st := []) (c := 11) hB mv_X11_force mq_L_98 rfl rfl rfl rfl (Nat.le_of_ble_eq_true rfl) ⟨Nat.le_of_ble_eq_true rfl, Nat.le_of_ble_eq_true rfl⟩ hc rfl dL_law_896 rfl ?_
  rintro r δ' i' l' ⟨v, w1, rfl, hv, rfl, hw1, hb1, hM⟩
  have hM' : CI w.1 1000 X_X12_force (vR (some 99) :: [vI (eSc xs x 1)]) (dw w1) i' l' (fun v' i2 l2 => v' = v ∧ Inv w1 (k + 2) i2 l2) := by rw [← hw1]; exact hM
  refine g_aload_n (pc' := 900) 1 dL_law_899 rfl rfl ?_
  refine g_aload_n (pc' := 901) 3 dL_law_900 rfl rfl ?_
  refine g_iload_n (pc' := 902) 0 dL_law_901 rfl rfl ?_
  refine g_iconst (pc' := 903) dL_law_902 rfl ?_
  refine g_iadd (pc' := 904) dL_law_903 rfl ?_
  refine g_sld (pc' := 905) (by omega) (by omega) dL_law_904 rfl ?_
  refine g_callV (pc' := 908) (Y := X_X12_force) (vs := [vI (eSc xs x 1)]) (st := [vI v]) (c := 12) hM' mv_X12_force mq_L_101 rfl rfl rfl rfl (Nat.le_of_ble_eq_true rfl) ⟨Nat.le_of_ble_eq_true rfl, Nat.le_of_ble_eq_true rfl⟩ hc rfl dL_law_905 rfl ?_
  rintro r δ2 i2 l2 ⟨rfl, v', rfl, hv', rfl, hI2⟩
  refine g_icmp_eq (tgt := 1589) (pc' := 911) hv hv' Iff.rfl dL_law_908 rfl rfl (fun _ => kk w1 i2 l2 hw1 hb1 hI2) (fun q => absurd rfl q)
theorem lc_21 {w : Wd} {k c0 s0 L : Nat} {i : IM} {l : LM} {xs : Nat → Int32} {x : Int} (hx : 0 ≤ x ∧ x + 6 ≤ (L : Int)) (hL : L ≤ 3072) (hB : BoE w k 1000 0 0 X_X11_costs X_X12_costs [vI (eSc xs x 1), vI (eSc xs x 2)] i l) (hc : c0 + 0 ≤ room_1.cells ∧ s0 + 0 ≤ room_1.slots) (kk : ∀ (w1 : Wd) (i2 : IM) (l2 : LM), w1.1 = w.1 → BkA w1 → Inv w1 (k + 2) i2 l2 → G w.1 room_1 X_L_law (QL w.1 L xs) (c0 + 0) (s0 + 0) (dw w1) i2 l2 1589 [(3, vI x), (2, vR (some 99)), (1, vR (some 6)), (0, vR (some 0))] []) : G w.1 room_1 X_L_law (QL w.1 L xs) c0 s0 (dw w) i l 913 [(3, vI x), (2, vR (some 99)), (1, vR (some 6)), (0, vR (some 0))] [] := by
  refine g_aload_n (pc' := 914) 2 dL_law_913 rfl rfl ?_
  refine g_aload_n (pc' := 915) 3 dL_law_914 rfl rfl ?_
  refine g_iload_n (pc' := 916) 0 dL_law_915 rfl rfl ?_
  refine g_iconst (pc' := 917) dL_law_916 rfl ?_
  refine g_iadd (pc' := 918) dL_law_917 rfl ?_
  refine g_sld (pc' := 919) (by omega) (by omega) dL_law_918 rfl ?_
  refine g_aload_n (pc' := 920) 3 dL_law_919 rfl rfl ?_
  refine g_iload_n (pc' := 921) 0 dL_law_920 rfl rfl ?_
  refine g_iconst (pc' := 922) dL_law_921 rfl ?_
  refine g_iadd (pc' := 923) dL_law_922 rfl ?_
  refine g_sld (pc' := 924) (by omega) (by omega) dL_law_923 rfl ?_
  refine g_callV (pc' := 927) (Y := X_X11_costs) (vs := [vI (eSc xs x 1), vI (eSc xs x 2)]) (st := []) (c := 11) hB mv_X11_costs mq_L_102 rfl rfl rfl rfl (Nat.le_of_ble_eq_true rfl) ⟨Nat.le_of_ble_eq_true rfl, Nat.le_of_ble_eq_true rfl⟩ hc rfl dL_law_924 rfl ?_
  rintro r δ' i' l' ⟨v, w1, rfl, hv, rfl, hw1, hb1, hM⟩
  have hM' : CI w.1 1000 X_X12_costs (vR (some 99) :: [vI (eSc xs x 1), vI (eSc xs x 2)]) (dw w1) i' l' (fun v' i2 l2 => v' = v ∧ Inv w1 (k + 2) i2 l2) := by rw [← hw1]; exact hM
  refine g_aload_n (pc' := 928) 1 dL_law_927 rfl rfl ?_
  refine g_aload_n (pc' := 929) 3 dL_law_928 rfl rfl ?_
  refine g_iload_n (pc' := 930) 0 dL_law_929 rfl rfl ?_
  refine g_iconst (pc' := 931) dL_law_930 rfl ?_
  refine g_iadd (pc' := 932) dL_law_931 rfl ?_
  refine g_sld (pc' := 933) (by omega) (by omega) dL_law_932 rfl ?_
  refine g_aload_n (pc' := 934) 3 dL_law_933 rfl rfl ?_
  refine g_iload_n (pc' := 935) 0 dL_law_934 rfl rfl ?_
  refine g_iconst (pc' := 936) dL_law_935 rfl ?_
  refine g_iadd (pc' := 937) dL_law_936 rfl ?_
  refine g_sld (pc' := 938) (by omega) (by omega) dL_law_937 rfl ?_
  refine g_callV (pc' := 941) (Y := X_X12_costs) (vs := [vI (eSc xs x 1), vI (eSc xs x 2)]) (st := [vI v]) (c := 12) hM' mv_X12_costs mq_L_105 rfl rfl rfl rfl (Nat.le_of_ble_eq_true rfl) ⟨Nat.le_of_ble_eq_true rfl, Nat.le_of_ble_eq_true rfl⟩ hc rfl dL_law_938 rfl ?_
  rintro r δ2 i2 l2 ⟨rfl, v', rfl, hv', rfl, hI2⟩
  refine g_icmp_eq (tgt := 1589) (pc' := 944) hv hv' Iff.rfl dL_law_941 rfl rfl (fun _ => kk w1 i2 l2 hw1 hb1 hI2) (fun q => absurd rfl q)
theorem lc_22 {w : Wd} {k c0 s0 L : Nat} {i : IM} {l : LM} {xs : Nat → Int32} {x : Int} (hx : 0 ≤ x ∧ x + 6 ≤ (L : Int)) (hL : L ≤ 3072) (hB : BoE w k 1000 0 0 X_X11_sees X_X12_sees [vI (eSc xs x 1), vI (eSc xs x 2), vI (eSc xs x 3)] i l) (hc : c0 + 0 ≤ room_1.cells ∧ s0 + 0 ≤ room_1.slots) (kk : ∀ (w1 : Wd) (i2 : IM) (l2 : LM), w1.1 = w.1 → BkA w1 → Inv w1 (k + 2) i2 l2 → G w.1 room_1 X_L_law (QL w.1 L xs) (c0 + 0) (s0 + 0) (dw w1) i2 l2 1589 [(3, vI x), (2, vR (some 99)), (1, vR (some 6)), (0, vR (some 0))] []) : G w.1 room_1 X_L_law (QL w.1 L xs) c0 s0 (dw w) i l 946 [(3, vI x), (2, vR (some 99)), (1, vR (some 6)), (0, vR (some 0))] [] := by
  refine g_aload_n (pc' := 947) 2 dL_law_946 rfl rfl ?_
  refine g_aload_n (pc' := 948) 3 dL_law_947 rfl rfl ?_
  refine g_iload_n (pc' := 949) 0 dL_law_948 rfl rfl ?_
  refine g_iconst (pc' := 950) dL_law_949 rfl ?_
  refine g_iadd (pc' := 951) dL_law_950 rfl ?_
  refine g_sld (pc' := 952) (by omega) (by omega) dL_law_951 rfl ?_
  refine g_aload_n (pc' := 953) 3 dL_law_952 rfl rfl ?_
  refine g_iload_n (pc' := 954) 0 dL_law_953 rfl rfl ?_
  refine g_iconst (pc' := 955) dL_law_954 rfl ?_
  refine g_iadd (pc' := 956) dL_law_955 rfl ?_
  refine g_sld (pc' := 957) (by omega) (by omega) dL_law_956 rfl ?_
  refine g_aload_n (pc' := 958) 3 dL_law_957 rfl rfl ?_
  refine g_iload_n (pc' := 959) 0 dL_law_958 rfl rfl ?_
  refine g_iconst (pc' := 960) dL_law_959 rfl ?_
  refine g_iadd (pc' := 961) dL_law_960 rfl ?_
  refine g_sld (pc' := 962) (by omega) (by omega) dL_law_961 rfl ?_
  refine g_callV (pc' := 965) (Y := X_X11_sees) (vs := [vI (eSc xs x 1), vI (eSc xs x 2), vI (eSc xs x 3)]) (st := []) (c := 11) hB mv_X11_sees mq_L_106 rfl rfl rfl rfl (Nat.le_of_ble_eq_true rfl) ⟨Nat.le_of_ble_eq_true rfl, Nat.le_of_ble_eq_true rfl⟩ hc rfl dL_law_962 rfl ?_
  rintro r δ' i' l' ⟨v, w1, rfl, hv, rfl, hw1, hb1, hM⟩
  have hM' : CI w.1 1000 X_X12_sees (vR (some 99) :: [vI (eSc xs x 1), vI (eSc xs x 2), vI (eSc xs x 3)]) (dw w1) i' l' (fun v' i2 l2 => v' = v ∧ Inv w1 (k + 2) i2 l2) := by rw [← hw1]; exact hM
  refine g_aload_n (pc' := 966) 1 dL_law_965 rfl rfl ?_
  refine g_aload_n (pc' := 967) 3 dL_law_966 rfl rfl ?_
  refine g_iload_n (pc' := 968) 0 dL_law_967 rfl rfl ?_
  refine g_iconst (pc' := 969) dL_law_968 rfl ?_
  refine g_iadd (pc' := 970) dL_law_969 rfl ?_
  refine g_sld (pc' := 971) (by omega) (by omega) dL_law_970 rfl ?_
  refine g_aload_n (pc' := 972) 3 dL_law_971 rfl rfl ?_
  refine g_iload_n (pc' := 973) 0 dL_law_972 rfl rfl ?_
  refine g_iconst (pc' := 974) dL_law_973 rfl ?_
  refine g_iadd (pc' := 975) dL_law_974 rfl ?_
  refine g_sld (pc' := 976) (by omega) (by omega) dL_law_975 rfl ?_
  refine g_aload_n (pc' := 977) 3 dL_law_976 rfl rfl ?_
  refine g_iload_n (pc' := 978) 0 dL_law_977 rfl rfl ?_
  refine g_iconst (pc' := 979) dL_law_978 rfl ?_
  refine g_iadd (pc' := 980) dL_law_979 rfl ?_
  refine g_sld (pc' := 981) (by omega) (by omega) dL_law_980 rfl ?_
  refine g_callV (pc' := 984) (Y := X_X12_sees) (vs := [vI (eSc xs x 1), vI (eSc xs x 2), vI (eSc xs x 3)]) (st := [vI v]) (c := 12) hM' mv_X12_sees mq_L_109 rfl rfl rfl rfl (Nat.le_of_ble_eq_true rfl) ⟨Nat.le_of_ble_eq_true rfl, Nat.le_of_ble_eq_true rfl⟩ hc rfl dL_law_981 rfl ?_
  rintro r δ2 i2 l2 ⟨rfl, v', rfl, hv', rfl, hI2⟩
  refine g_icmp_eq (tgt := 1589) (pc' := 987) hv hv' Iff.rfl dL_law_984 rfl rfl (fun _ => kk w1 i2 l2 hw1 hb1 hI2) (fun q => absurd rfl q)
theorem lc_23 {w : Wd} {k c0 s0 L : Nat} {i : IM} {l : LM} {xs : Nat → Int32} {x : Int} (hx : 0 ≤ x ∧ x + 6 ≤ (L : Int)) (hL : L ≤ 3072) (hB : BoE w k 1000 0 0 X_X11_judge X_X12_judge [vI (eSc xs x 1)] i l) (hc : c0 + 0 ≤ room_1.cells ∧ s0 + 0 ≤ room_1.slots) (kk : ∀ (w1 : Wd) (i2 : IM) (l2 : LM), w1.1 = w.1 → BkA w1 → Inv w1 (k + 2) i2 l2 → G w.1 room_1 X_L_law (QL w.1 L xs) (c0 + 0) (s0 + 0) (dw w1) i2 l2 1589 [(3, vI x), (2, vR (some 99)), (1, vR (some 6)), (0, vR (some 0))] []) : G w.1 room_1 X_L_law (QL w.1 L xs) c0 s0 (dw w) i l 989 [(3, vI x), (2, vR (some 99)), (1, vR (some 6)), (0, vR (some 0))] [] := by
  refine g_aload_n (pc' := 990) 2 dL_law_989 rfl rfl ?_
  refine g_aload_n (pc' := 991) 3 dL_law_990 rfl rfl ?_
  refine g_iload_n (pc' := 992) 0 dL_law_991 rfl rfl ?_
  refine g_iconst (pc' := 993) dL_law_992 rfl ?_
  refine g_iadd (pc' := 994) dL_law_993 rfl ?_
  refine g_sld (pc' := 995) (by omega) (by omega) dL_law_994 rfl ?_
  refine g_callV (pc' := 998) (Y := X_X11_judge) (vs := [vI (eSc xs x 1)]) (st := []) (c := 11) hB mv_X11_judge mq_L_110 rfl rfl rfl rfl (Nat.le_of_ble_eq_true rfl) ⟨Nat.le_of_ble_eq_true rfl, Nat.le_of_ble_eq_true rfl⟩ hc rfl dL_law_995 rfl ?_
  rintro r δ' i' l' ⟨v, w1, rfl, hv, rfl, hw1, hb1, hM⟩
  have hM' : CI w.1 1000 X_X12_judge (vR (some 99) :: [vI (eSc xs x 1)]) (dw w1) i' l' (fun v' i2 l2 => v' = v ∧ Inv w1 (k + 2) i2 l2) := by rw [← hw1]; exact hM
  refine g_aload_n (pc' := 999) 1 dL_law_998 rfl rfl ?_
  refine g_aload_n (pc' := 1000) 3 dL_law_999 rfl rfl ?_
  refine g_iload_n (pc' := 1001) 0 dL_law_1000 rfl rfl ?_
  refine g_iconst (pc' := 1002) dL_law_1001 rfl ?_
  refine g_iadd (pc' := 1003) dL_law_1002 rfl ?_
  refine g_sld (pc' := 1004) (by omega) (by omega) dL_law_1003 rfl ?_
  refine g_callV (pc' := 1007) (Y := X_X12_judge) (vs := [vI (eSc xs x 1)]) (st := [vI v]) (c := 12) hM' mv_X12_judge mq_L_113 rfl rfl rfl rfl (Nat.le_of_ble_eq_true rfl) ⟨Nat.le_of_ble_eq_true rfl, Nat.le_of_ble_eq_true rfl⟩ hc rfl dL_law_1004 rfl ?_
  rintro r δ2 i2 l2 ⟨rfl, v', rfl, hv', rfl, hI2⟩
  refine g_icmp_eq (tgt := 1589) (pc' := 1010) hv hv' Iff.rfl dL_law_1007 rfl rfl (fun _ => kk w1 i2 l2 hw1 hb1 hI2) (fun q => absurd rfl q)
theorem lc_24 {w : Wd} {k c0 s0 L : Nat} {i : IM} {l : LM} {xs : Nat → Int32} {x : Int} (hx : 0 ≤ x ∧ x + 6 ≤ (L : Int)) (hL : L ≤ 3072) (hB : BoE w k 1000 0 0 X_X11_bad X_X12_bad [vI (eSc xs x 1)] i l) (hc : c0 + 0 ≤ room_1.cells ∧ s0 + 0 ≤ room_1.slots) (kk : ∀ (w1 : Wd) (i2 : IM) (l2 : LM), w1.1 = w.1 → BkA w1 → Inv w1 (k + 2) i2 l2 → G w.1 room_1 X_L_law (QL w.1 L xs) (c0 + 0) (s0 + 0) (dw w1) i2 l2 1589 [(3, vI x), (2, vR (some 99)), (1, vR (some 6)), (0, vR (some 0))] []) : G w.1 room_1 X_L_law (QL w.1 L xs) c0 s0 (dw w) i l 1012 [(3, vI x), (2, vR (some 99)), (1, vR (some 6)), (0, vR (some 0))] [] := by
  refine g_aload_n (pc' := 1013) 2 dL_law_1012 rfl rfl ?_
  refine g_aload_n (pc' := 1014) 3 dL_law_1013 rfl rfl ?_
  refine g_iload_n (pc' := 1015) 0 dL_law_1014 rfl rfl ?_
  refine g_iconst (pc' := 1016) dL_law_1015 rfl ?_
  refine g_iadd (pc' := 1017) dL_law_1016 rfl ?_
  refine g_sld (pc' := 1018) (by omega) (by omega) dL_law_1017 rfl ?_
  refine g_callV (pc' := 1021) (Y := X_X11_bad) (vs := [vI (eSc xs x 1)]) (st := []) (c := 11) hB mv_X11_bad mq_L_114 rfl rfl rfl rfl (Nat.le_of_ble_eq_true rfl) ⟨Nat.le_of_ble_eq_true rfl, Nat.le_of_ble_eq_true rfl⟩ hc rfl dL_law_1018 rfl ?_
  rintro r δ' i' l' ⟨v, w1, rfl, hv, rfl, hw1, hb1, hM⟩
  have hM' : CI w.1 1000 X_X12_bad (vR (some 99) :: [vI (eSc xs x 1)]) (dw w1) i' l' (fun v' i2 l2 => v' = v ∧ Inv w1 (k + 2) i2 l2) := by rw [← hw1]; exact hM
  refine g_aload_n (pc' := 1022) 1 dL_law_1021 rfl rfl ?_
  refine g_aload_n (pc' := 1023) 3 dL_law_1022 rfl rfl ?_
  refine g_iload_n (pc' := 1024) 0 dL_law_1023 rfl rfl ?_
  refine g_iconst (pc' := 1025) dL_law_1024 rfl ?_
  refine g_iadd (pc' := 1026) dL_law_1025 rfl ?_
  refine g_sld (pc' := 1027) (by omega) (by omega) dL_law_1026 rfl ?_
  refine g_callV (pc' := 1030) (Y := X_X12_bad) (vs := [vI (eSc xs x 1)]) (st := [vI v]) (c := 12) hM' mv_X12_bad mq_L_117 rfl rfl rfl rfl (Nat.le_of_ble_eq_true rfl) ⟨Nat.le_of_ble_eq_true rfl, Nat.le_of_ble_eq_true rfl⟩ hc rfl dL_law_1027 rfl ?_
  rintro r δ2 i2 l2 ⟨rfl, v', rfl, hv', rfl, hI2⟩
  refine g_icmp_eq (tgt := 1589) (pc' := 1033) hv hv' Iff.rfl dL_law_1030 rfl rfl (fun _ => kk w1 i2 l2 hw1 hb1 hI2) (fun q => absurd rfl q)
theorem lc_25 {w : Wd} {k c0 s0 L : Nat} {i : IM} {l : LM} {xs : Nat → Int32} {x : Int} (hx : 0 ≤ x ∧ x + 6 ≤ (L : Int)) (hL : L ≤ 3072) (hB : BoE w k 1000 0 0 X_X11_best X_X12_best [vI (eSc xs x 1), vI (eSc xs x 2)] i l) (hc : c0 + 0 ≤ room_1.cells ∧ s0 + 0 ≤ room_1.slots) (kk : ∀ (w1 : Wd) (i2 : IM) (l2 : LM), w1.1 = w.1 → BkA w1 → Inv w1 (k + 2) i2 l2 → G w.1 room_1 X_L_law (QL w.1 L xs) (c0 + 0) (s0 + 0) (dw w1) i2 l2 1589 [(3, vI x), (2, vR (some 99)), (1, vR (some 6)), (0, vR (some 0))] []) : G w.1 room_1 X_L_law (QL w.1 L xs) c0 s0 (dw w) i l 1035 [(3, vI x), (2, vR (some 99)), (1, vR (some 6)), (0, vR (some 0))] [] := by
  refine g_aload_n (pc' := 1036) 2 dL_law_1035 rfl rfl ?_
  refine g_aload_n (pc' := 1037) 3 dL_law_1036 rfl rfl ?_
  refine g_iload_n (pc' := 1038) 0 dL_law_1037 rfl rfl ?_
  refine g_iconst (pc' := 1039) dL_law_1038 rfl ?_
  refine g_iadd (pc' := 1040) dL_law_1039 rfl ?_
  refine g_sld (pc' := 1041) (by omega) (by omega) dL_law_1040 rfl ?_
  refine g_aload_n (pc' := 1042) 3 dL_law_1041 rfl rfl ?_
  refine g_iload_n (pc' := 1043) 0 dL_law_1042 rfl rfl ?_
  refine g_iconst (pc' := 1044) dL_law_1043 rfl ?_
  refine g_iadd (pc' := 1045) dL_law_1044 rfl ?_
  refine g_sld (pc' := 1046) (by omega) (by omega) dL_law_1045 rfl ?_
  refine g_callV (pc' := 1049) (Y := X_X11_best) (vs := [vI (eSc xs x 1), vI (eSc xs x 2)]) (st := []) (c := 11) hB mv_X11_best mq_L_118 rfl rfl rfl rfl (Nat.le_of_ble_eq_true rfl) ⟨Nat.le_of_ble_eq_true rfl, Nat.le_of_ble_eq_true rfl⟩ hc rfl dL_law_1046 rfl ?_
  rintro r δ' i' l' ⟨v, w1, rfl, hv, rfl, hw1, hb1, hM⟩
  have hM' : CI w.1 1000 X_X12_best (vR (some 99) :: [vI (eSc xs x 1), vI (eSc xs x 2)]) (dw w1) i' l' (fun v' i2 l2 => v' = v ∧ Inv w1 (k + 2) i2 l2) := by rw [← hw1]; exact hM
  refine g_aload_n (pc' := 1050) 1 dL_law_1049 rfl rfl ?_
  refine g_aload_n (pc' := 1051) 3 dL_law_1050 rfl rfl ?_
  refine g_iload_n (pc' := 1052) 0 dL_law_1051 rfl rfl ?_
  refine g_iconst (pc' := 1053) dL_law_1052 rfl ?_
  refine g_iadd (pc' := 1054) dL_law_1053 rfl ?_
  refine g_sld (pc' := 1055) (by omega) (by omega) dL_law_1054 rfl ?_
  refine g_aload_n (pc' := 1056) 3 dL_law_1055 rfl rfl ?_
  refine g_iload_n (pc' := 1057) 0 dL_law_1056 rfl rfl ?_
  refine g_iconst (pc' := 1058) dL_law_1057 rfl ?_
  refine g_iadd (pc' := 1059) dL_law_1058 rfl ?_
  refine g_sld (pc' := 1060) (by omega) (by omega) dL_law_1059 rfl ?_
  refine g_callV (pc' := 1063) (Y := X_X12_best) (vs := [vI (eSc xs x 1), vI (eSc xs x 2)]) (st := [vI v]) (c := 12) hM' mv_X12_best mq_L_121 rfl rfl rfl rfl (Nat.le_of_ble_eq_true rfl) ⟨Nat.le_of_ble_eq_true rfl, Nat.le_of_ble_eq_true rfl⟩ hc rfl dL_law_1060 rfl ?_
  rintro r δ2 i2 l2 ⟨rfl, v', rfl, hv', rfl, hI2⟩
  refine g_icmp_eq (tgt := 1589) (pc' := 1066) hv hv' Iff.rfl dL_law_1063 rfl rfl (fun _ => kk w1 i2 l2 hw1 hb1 hI2) (fun q => absurd rfl q)
theorem lc_26 {w : Wd} {k c0 s0 L : Nat} {i : IM} {l : LM} {xs : Nat → Int32} {x : Int} (hx : 0 ≤ x ∧ x + 6 ≤ (L : Int)) (hL : L ≤ 3072) (hB : BoE w k 1000 0 0 X_X11_paint X_X12_paint [vI (eSc xs x 1), vI (eSc xs x 2)] i l) (hc : c0 + 0 ≤ room_1.cells ∧ s0 + 0 ≤ room_1.slots) (kk : ∀ (w1 : Wd) (i2 : IM) (l2 : LM), w1.1 = w.1 → BkA w1 → Inv w1 (k + 2) i2 l2 → G w.1 room_1 X_L_law (QL w.1 L xs) (c0 + 0) (s0 + 0) (dw w1) i2 l2 1589 [(3, vI x), (2, vR (some 99)), (1, vR (some 6)), (0, vR (some 0))] []) : G w.1 room_1 X_L_law (QL w.1 L xs) c0 s0 (dw w) i l 1068 [(3, vI x), (2, vR (some 99)), (1, vR (some 6)), (0, vR (some 0))] [] := by
  refine g_aload_n (pc' := 1069) 2 dL_law_1068 rfl rfl ?_
  refine g_aload_n (pc' := 1070) 3 dL_law_1069 rfl rfl ?_
  refine g_iload_n (pc' := 1071) 0 dL_law_1070 rfl rfl ?_
  refine g_iconst (pc' := 1072) dL_law_1071 rfl ?_
  refine g_iadd (pc' := 1073) dL_law_1072 rfl ?_
  refine g_sld (pc' := 1074) (by omega) (by omega) dL_law_1073 rfl ?_
  refine g_aload_n (pc' := 1075) 3 dL_law_1074 rfl rfl ?_
  refine g_iload_n (pc' := 1076) 0 dL_law_1075 rfl rfl ?_
  refine g_iconst (pc' := 1077) dL_law_1076 rfl ?_
  refine g_iadd (pc' := 1078) dL_law_1077 rfl ?_
  refine g_sld (pc' := 1079) (by omega) (by omega) dL_law_1078 rfl ?_
  refine g_callV (pc' := 1082) (Y := X_X11_paint) (vs := [vI (eSc xs x 1), vI (eSc xs x 2)]) (st := []) (c := 11) hB mv_X11_paint mq_L_122 rfl rfl rfl rfl (Nat.le_of_ble_eq_true rfl) ⟨Nat.le_of_ble_eq_true rfl, Nat.le_of_ble_eq_true rfl⟩ hc rfl dL_law_1079 rfl ?_
  rintro r δ' i' l' ⟨v, w1, rfl, hv, rfl, hw1, hb1, hM⟩
  have hM' : CI w.1 1000 X_X12_paint (vR (some 99) :: [vI (eSc xs x 1), vI (eSc xs x 2)]) (dw w1) i' l' (fun v' i2 l2 => v' = v ∧ Inv w1 (k + 2) i2 l2) := by rw [← hw1]; exact hM
  refine g_aload_n (pc' := 1083) 1 dL_law_1082 rfl rfl ?_
  refine g_aload_n (pc' := 1084) 3 dL_law_1083 rfl rfl ?_
  refine g_iload_n (pc' := 1085) 0 dL_law_1084 rfl rfl ?_
  refine g_iconst (pc' := 1086) dL_law_1085 rfl ?_
  refine g_iadd (pc' := 1087) dL_law_1086 rfl ?_
  refine g_sld (pc' := 1088) (by omega) (by omega) dL_law_1087 rfl ?_
  refine g_aload_n (pc' := 1089) 3 dL_law_1088 rfl rfl ?_
  refine g_iload_n (pc' := 1090) 0 dL_law_1089 rfl rfl ?_
  refine g_iconst (pc' := 1091) dL_law_1090 rfl ?_
  refine g_iadd (pc' := 1092) dL_law_1091 rfl ?_
  refine g_sld (pc' := 1093) (by omega) (by omega) dL_law_1092 rfl ?_
  refine g_callV (pc' := 1096) (Y := X_X12_paint) (vs := [vI (eSc xs x 1), vI (eSc xs x 2)]) (st := [vI v]) (c := 12) hM' mv_X12_paint mq_L_125 rfl rfl rfl rfl (Nat.le_of_ble_eq_true rfl) ⟨Nat.le_of_ble_eq_true rfl, Nat.le_of_ble_eq_true rfl⟩ hc rfl dL_law_1093 rfl ?_
  rintro r δ2 i2 l2 ⟨rfl, v', rfl, hv', rfl, hI2⟩
  refine g_icmp_eq (tgt := 1589) (pc' := 1099) hv hv' Iff.rfl dL_law_1096 rfl rfl (fun _ => kk w1 i2 l2 hw1 hb1 hI2) (fun q => absurd rfl q)
theorem lc_27 {w : Wd} {k c0 s0 L : Nat} {i : IM} {l : LM} {xs : Nat → Int32} {x : Int} (hx : 0 ≤ x ∧ x + 6 ≤ (L : Int)) (hL : L ≤ 3072) (hB : BoE w k 1000 0 0 X_X11_fewest X_X12_fewest [vI (eSc xs x 1), vI (eSc xs x 2)] i l) (hc : c0 + 0 ≤ room_1.cells ∧ s0 + 0 ≤ room_1.slots) (kk : ∀ (w1 : Wd) (i2 : IM) (l2 : LM), w1.1 = w.1 → BkA w1 → Inv w1 (k + 2) i2 l2 → G w.1 room_1 X_L_law (QL w.1 L xs) (c0 + 0) (s0 + 0) (dw w1) i2 l2 1589 [(3, vI x), (2, vR (some 99)), (1, vR (some 6)), (0, vR (some 0))] []) : G w.1 room_1 X_L_law (QL w.1 L xs) c0 s0 (dw w) i l 1101 [(3, vI x), (2, vR (some 99)), (1, vR (some 6)), (0, vR (some 0))] [] := by
  refine g_aload_n (pc' := 1102) 2 dL_law_1101 rfl rfl ?_
  refine g_aload_n (pc' := 1103) 3 dL_law_1102 rfl rfl ?_
  refine g_iload_n (pc' := 1104) 0 dL_law_1103 rfl rfl ?_
  refine g_iconst (pc' := 1105) dL_law_1104 rfl ?_
  refine g_iadd (pc' := 1106) dL_law_1105 rfl ?_
  refine g_sld (pc' := 1107) (by omega) (by omega) dL_law_1106 rfl ?_
  refine g_aload_n (pc' := 1108) 3 dL_law_1107 rfl rfl ?_
  refine g_iload_n (pc' := 1109) 0 dL_law_1108 rfl rfl ?_
  refine g_iconst (pc' := 1110) dL_law_1109 rfl ?_
  refine g_iadd (pc' := 1111) dL_law_1110 rfl ?_
  refine g_sld (pc' := 1112) (by omega) (by omega) dL_law_1111 rfl ?_
  refine g_callV (pc' := 1115) (Y := X_X11_fewest) (vs := [vI (eSc xs x 1), vI (eSc xs x 2)]) (st := []) (c := 11) hB mv_X11_fewest mq_L_126 rfl rfl rfl rfl (Nat.le_of_ble_eq_true rfl) ⟨Nat.le_of_ble_eq_true rfl, Nat.le_of_ble_eq_true rfl⟩ hc rfl dL_law_1112 rfl ?_
  rintro r δ' i' l' ⟨v, w1, rfl, hv, rfl, hw1, hb1, hM⟩
  have hM' : CI w.1 1000 X_X12_fewest (vR (some 99) :: [vI (eSc xs x 1), vI (eSc xs x 2)]) (dw w1) i' l' (fun v' i2 l2 => v' = v ∧ Inv w1 (k + 2) i2 l2) := by rw [← hw1]; exact hM
  refine g_aload_n (pc' := 1116) 1 dL_law_1115 rfl rfl ?_
  refine g_aload_n (pc' := 1117) 3 dL_law_1116 rfl rfl ?_
  refine g_iload_n (pc' := 1118) 0 dL_law_1117 rfl rfl ?_
  refine g_iconst (pc' := 1119) dL_law_1118 rfl ?_
  refine g_iadd (pc' := 1120) dL_law_1119 rfl ?_
  refine g_sld (pc' := 1121) (by omega) (by omega) dL_law_1120 rfl ?_
  refine g_aload_n (pc' := 1122) 3 dL_law_1121 rfl rfl ?_
  refine g_iload_n (pc' := 1123) 0 dL_law_1122 rfl rfl ?_
  refine g_iconst (pc' := 1124) dL_law_1123 rfl ?_
  refine g_iadd (pc' := 1125) dL_law_1124 rfl ?_
  refine g_sld (pc' := 1126) (by omega) (by omega) dL_law_1125 rfl ?_
  refine g_callV (pc' := 1129) (Y := X_X12_fewest) (vs := [vI (eSc xs x 1), vI (eSc xs x 2)]) (st := [vI v]) (c := 12) hM' mv_X12_fewest mq_L_129 rfl rfl rfl rfl (Nat.le_of_ble_eq_true rfl) ⟨Nat.le_of_ble_eq_true rfl, Nat.le_of_ble_eq_true rfl⟩ hc rfl dL_law_1126 rfl ?_
  rintro r δ2 i2 l2 ⟨rfl, v', rfl, hv', rfl, hI2⟩
  refine g_icmp_eq (tgt := 1589) (pc' := 1132) hv hv' Iff.rfl dL_law_1129 rfl rfl (fun _ => kk w1 i2 l2 hw1 hb1 hI2) (fun q => absurd rfl q)
theorem lc_28 {w : Wd} {k c0 s0 L : Nat} {i : IM} {l : LM} {xs : Nat → Int32} {x : Int} (hx : 0 ≤ x ∧ x + 6 ≤ (L : Int)) (hL : L ≤ 3072) (hB : BoE w k 1000 0 0 X_X11_take X_X12_take [vI (eSc xs x 1)] i l) (hc : c0 + 0 ≤ room_1.cells ∧ s0 + 0 ≤ room_1.slots) (kk : ∀ (w1 : Wd) (i2 : IM) (l2 : LM), w1.1 = w.1 → BkA w1 → Inv w1 (k + 2) i2 l2 → G w.1 room_1 X_L_law (QL w.1 L xs) (c0 + 0) (s0 + 0) (dw w1) i2 l2 1589 [(3, vI x), (2, vR (some 99)), (1, vR (some 6)), (0, vR (some 0))] []) : G w.1 room_1 X_L_law (QL w.1 L xs) c0 s0 (dw w) i l 1134 [(3, vI x), (2, vR (some 99)), (1, vR (some 6)), (0, vR (some 0))] [] := by
  refine g_aload_n (pc' := 1135) 2 dL_law_1134 rfl rfl ?_
  refine g_aload_n (pc' := 1136) 3 dL_law_1135 rfl rfl ?_
  refine g_iload_n (pc' := 1137) 0 dL_law_1136 rfl rfl ?_
  refine g_iconst (pc' := 1138) dL_law_1137 rfl ?_
  refine g_iadd (pc' := 1139) dL_law_1138 rfl ?_
  refine g_sld (pc' := 1140) (by omega) (by omega) dL_law_1139 rfl ?_
  refine g_callV (pc' := 1143) (Y := X_X11_take) (vs := [vI (eSc xs x 1)]) (st := []) (c := 11) hB mv_X11_take mq_L_130 rfl rfl rfl rfl (Nat.le_of_ble_eq_true rfl) ⟨Nat.le_of_ble_eq_true rfl, Nat.le_of_ble_eq_true rfl⟩ hc rfl dL_law_1140 rfl ?_
  rintro r δ' i' l' ⟨v, w1, rfl, hv, rfl, hw1, hb1, hM⟩
  have hM' : CI w.1 1000 X_X12_take (vR (some 99) :: [vI (eSc xs x 1)]) (dw w1) i' l' (fun v' i2 l2 => v' = v ∧ Inv w1 (k + 2) i2 l2) := by rw [← hw1]; exact hM
  refine g_aload_n (pc' := 1144) 1 dL_law_1143 rfl rfl ?_
  refine g_aload_n (pc' := 1145) 3 dL_law_1144 rfl rfl ?_
  refine g_iload_n (pc' := 1146) 0 dL_law_1145 rfl rfl ?_
  refine g_iconst (pc' := 1147) dL_law_1146 rfl ?_
  refine g_iadd (pc' := 1148) dL_law_1147 rfl ?_
  refine g_sld (pc' := 1149) (by omega) (by omega) dL_law_1148 rfl ?_
  refine g_callV (pc' := 1152) (Y := X_X12_take) (vs := [vI (eSc xs x 1)]) (st := [vI v]) (c := 12) hM' mv_X12_take mq_L_133 rfl rfl rfl rfl (Nat.le_of_ble_eq_true rfl) ⟨Nat.le_of_ble_eq_true rfl, Nat.le_of_ble_eq_true rfl⟩ hc rfl dL_law_1149 rfl ?_
  rintro r δ2 i2 l2 ⟨rfl, v', rfl, hv', rfl, hI2⟩
  refine g_icmp_eq (tgt := 1589) (pc' := 1155) hv hv' Iff.rfl dL_law_1152 rfl rfl (fun _ => kk w1 i2 l2 hw1 hb1 hI2) (fun q => absurd rfl q)
theorem lc_29 {w : Wd} {k c0 s0 L : Nat} {i : IM} {l : LM} {xs : Nat → Int32} {x : Int} (hx : 0 ≤ x ∧ x + 6 ≤ (L : Int)) (hL : L ≤ 3072) (hB : BoE w k 1000 0 0 X_X11_mend X_X12_mend [vI (eSc xs x 1), vI (eSc xs x 2)] i l) (hc : c0 + 0 ≤ room_1.cells ∧ s0 + 0 ≤ room_1.slots) (kk : ∀ (w1 : Wd) (i2 : IM) (l2 : LM), w1.1 = w.1 → BkA w1 → Inv w1 (k + 2) i2 l2 → G w.1 room_1 X_L_law (QL w.1 L xs) (c0 + 0) (s0 + 0) (dw w1) i2 l2 1589 [(3, vI x), (2, vR (some 99)), (1, vR (some 6)), (0, vR (some 0))] []) : G w.1 room_1 X_L_law (QL w.1 L xs) c0 s0 (dw w) i l 1157 [(3, vI x), (2, vR (some 99)), (1, vR (some 6)), (0, vR (some 0))] [] := by
  refine g_aload_n (pc' := 1158) 2 dL_law_1157 rfl rfl ?_
  refine g_aload_n (pc' := 1159) 3 dL_law_1158 rfl rfl ?_
  refine g_iload_n (pc' := 1160) 0 dL_law_1159 rfl rfl ?_
  refine g_iconst (pc' := 1161) dL_law_1160 rfl ?_
  refine g_iadd (pc' := 1162) dL_law_1161 rfl ?_
  refine g_sld (pc' := 1163) (by omega) (by omega) dL_law_1162 rfl ?_
  refine g_aload_n (pc' := 1164) 3 dL_law_1163 rfl rfl ?_
  refine g_iload_n (pc' := 1165) 0 dL_law_1164 rfl rfl ?_
  refine g_iconst (pc' := 1166) dL_law_1165 rfl ?_
  refine g_iadd (pc' := 1167) dL_law_1166 rfl ?_
  refine g_sld (pc' := 1168) (by omega) (by omega) dL_law_1167 rfl ?_
  refine g_callV (pc' := 1171) (Y := X_X11_mend) (vs := [vI (eSc xs x 1), vI (eSc xs x 2)]) (st := []) (c := 11) hB mv_X11_mend mq_L_134 rfl rfl rfl rfl (Nat.le_of_ble_eq_true rfl) ⟨Nat.le_of_ble_eq_true rfl, Nat.le_of_ble_eq_true rfl⟩ hc rfl dL_law_1168 rfl ?_
  rintro r δ' i' l' ⟨v, w1, rfl, hv, rfl, hw1, hb1, hM⟩
  have hM' : CI w.1 1000 X_X12_mend (vR (some 99) :: [vI (eSc xs x 1), vI (eSc xs x 2)]) (dw w1) i' l' (fun v' i2 l2 => v' = v ∧ Inv w1 (k + 2) i2 l2) := by rw [← hw1]; exact hM
  refine g_aload_n (pc' := 1172) 1 dL_law_1171 rfl rfl ?_
  refine g_aload_n (pc' := 1173) 3 dL_law_1172 rfl rfl ?_
  refine g_iload_n (pc' := 1174) 0 dL_law_1173 rfl rfl ?_
  refine g_iconst (pc' := 1175) dL_law_1174 rfl ?_
  refine g_iadd (pc' := 1176) dL_law_1175 rfl ?_
  refine g_sld (pc' := 1177) (by omega) (by omega) dL_law_1176 rfl ?_
  refine g_aload_n (pc' := 1178) 3 dL_law_1177 rfl rfl ?_
  refine g_iload_n (pc' := 1179) 0 dL_law_1178 rfl rfl ?_
  refine g_iconst (pc' := 1180) dL_law_1179 rfl ?_
  refine g_iadd (pc' := 1181) dL_law_1180 rfl ?_
  refine g_sld (pc' := 1182) (by omega) (by omega) dL_law_1181 rfl ?_
  refine g_callV (pc' := 1185) (Y := X_X12_mend) (vs := [vI (eSc xs x 1), vI (eSc xs x 2)]) (st := [vI v]) (c := 12) hM' mv_X12_mend mq_L_137 rfl rfl rfl rfl (Nat.le_of_ble_eq_true rfl) ⟨Nat.le_of_ble_eq_true rfl, Nat.le_of_ble_eq_true rfl⟩ hc rfl dL_law_1182 rfl ?_
  rintro r δ2 i2 l2 ⟨rfl, v', rfl, hv', rfl, hI2⟩
  refine g_icmp_eq (tgt := 1589) (pc' := 1188) hv hv' Iff.rfl dL_law_1185 rfl rfl (fun _ => kk w1 i2 l2 hw1 hb1 hI2) (fun q => absurd rfl q)
theorem lc_30 {w : Wd} {k c0 s0 L : Nat} {i : IM} {l : LM} {xs : Nat → Int32} {x : Int} (hx : 0 ≤ x ∧ x + 6 ≤ (L : Int)) (hL : L ≤ 3072) (hB : BoE w k 1000 0 0 X_X11_shut X_X12_shut [vI (eSc xs x 1)] i l) (hc : c0 + 0 ≤ room_1.cells ∧ s0 + 0 ≤ room_1.slots) (kk : ∀ (w1 : Wd) (i2 : IM) (l2 : LM), w1.1 = w.1 → BkA w1 → Inv w1 (k + 2) i2 l2 → G w.1 room_1 X_L_law (QL w.1 L xs) (c0 + 0) (s0 + 0) (dw w1) i2 l2 1589 [(3, vI x), (2, vR (some 99)), (1, vR (some 6)), (0, vR (some 0))] []) : G w.1 room_1 X_L_law (QL w.1 L xs) c0 s0 (dw w) i l 1190 [(3, vI x), (2, vR (some 99)), (1, vR (some 6)), (0, vR (some 0))] [] := by
  refine g_aload_n (pc' := 1191) 2 dL_law_1190 rfl rfl ?_
  refine g_aload_n (pc' := 1192) 3 dL_law_1191 rfl rfl ?_
  refine g_iload_n (pc' := 1193) 0 dL_law_1192 rfl rfl ?_
  refine g_iconst (pc' := 1194) dL_law_1193 rfl ?_
  refine g_iadd (pc' := 1195) dL_law_1194 rfl ?_
  refine g_sld (pc' := 1196) (by omega) (by omega) dL_law_1195 rfl ?_
  refine g_callV (pc' := 1199) (Y := X_X11_shut) (vs := [vI (eSc xs x 1)]) (st := []) (c := 11) hB mv_X11_shut mq_L_138 rfl rfl rfl rfl (Nat.le_of_ble_eq_true rfl) ⟨Nat.le_of_ble_eq_true rfl, Nat.le_of_ble_eq_true rfl⟩ hc rfl dL_law_1196 rfl ?_
  rintro r δ' i' l' ⟨v, w1, rfl, hv, rfl, hw1, hb1, hM⟩
  have hM' : CI w.1 1000 X_X12_shut (vR (some 99) :: [vI (eSc xs x 1)]) (dw w1) i' l' (fun v' i2 l2 => v' = v ∧ Inv w1 (k + 2) i2 l2) := by rw [← hw1]; exact hM
  refine g_aload_n (pc' := 1200) 1 dL_law_1199 rfl rfl ?_
  refine g_aload_n (pc' := 1201) 3 dL_law_1200 rfl rfl ?_
  refine g_iload_n (pc' := 1202) 0 dL_law_1201 rfl rfl ?_
  refine g_iconst (pc' := 1203) dL_law_1202 rfl ?_
  refine g_iadd (pc' := 1204) dL_law_1203 rfl ?_
  refine g_sld (pc' := 1205) (by omega) (by omega) dL_law_1204 rfl ?_
  refine g_callV (pc' := 1208) (Y := X_X12_shut) (vs := [vI (eSc xs x 1)]) (st := [vI v]) (c := 12) hM' mv_X12_shut mq_L_141 rfl rfl rfl rfl (Nat.le_of_ble_eq_true rfl) ⟨Nat.le_of_ble_eq_true rfl, Nat.le_of_ble_eq_true rfl⟩ hc rfl dL_law_1205 rfl ?_
  rintro r δ2 i2 l2 ⟨rfl, v', rfl, hv', rfl, hI2⟩
  refine g_icmp_eq (tgt := 1589) (pc' := 1211) hv hv' Iff.rfl dL_law_1208 rfl rfl (fun _ => kk w1 i2 l2 hw1 hb1 hI2) (fun q => absurd rfl q)
theorem lc_31 {w : Wd} {k c0 s0 L : Nat} {i : IM} {l : LM} {xs : Nat → Int32} {x : Int} (hx : 0 ≤ x ∧ x + 6 ≤ (L : Int)) (hL : L ≤ 3072) (hB : BoE w k 1000 0 0 X_X11_bars X_X12_bars [vI (eSc xs x 1)] i l) (hc : c0 + 0 ≤ room_1.cells ∧ s0 + 0 ≤ room_1.slots) (kk : ∀ (w1 : Wd) (i2 : IM) (l2 : LM), w1.1 = w.1 → BkA w1 → Inv w1 (k + 2) i2 l2 → G w.1 room_1 X_L_law (QL w.1 L xs) (c0 + 0) (s0 + 0) (dw w1) i2 l2 1589 [(3, vI x), (2, vR (some 99)), (1, vR (some 6)), (0, vR (some 0))] []) : G w.1 room_1 X_L_law (QL w.1 L xs) c0 s0 (dw w) i l 1213 [(3, vI x), (2, vR (some 99)), (1, vR (some 6)), (0, vR (some 0))] [] := by
  refine g_aload_n (pc' := 1214) 2 dL_law_1213 rfl rfl ?_
  refine g_aload_n (pc' := 1215) 3 dL_law_1214 rfl rfl ?_
  refine g_iload_n (pc' := 1216) 0 dL_law_1215 rfl rfl ?_
  refine g_iconst (pc' := 1217) dL_law_1216 rfl ?_
  refine g_iadd (pc' := 1218) dL_law_1217 rfl ?_
  refine g_sld (pc' := 1219) (by omega) (by omega) dL_law_1218 rfl ?_
  refine g_callV (pc' := 1222) (Y := X_X11_bars) (vs := [vI (eSc xs x 1)]) (st := []) (c := 11) hB mv_X11_bars mq_L_142 rfl rfl rfl rfl (Nat.le_of_ble_eq_true rfl) ⟨Nat.le_of_ble_eq_true rfl, Nat.le_of_ble_eq_true rfl⟩ hc rfl dL_law_1219 rfl ?_
  rintro r δ' i' l' ⟨v, w1, rfl, hv, rfl, hw1, hb1, hM⟩
  have hM' : CI w.1 1000 X_X12_bars (vR (some 99) :: [vI (eSc xs x 1)]) (dw w1) i' l' (fun v' i2 l2 => v' = v ∧ Inv w1 (k + 2) i2 l2) := by rw [← hw1]; exact hM
  refine g_aload_n (pc' := 1223) 1 dL_law_1222 rfl rfl ?_
  refine g_aload_n (pc' := 1224) 3 dL_law_1223 rfl rfl ?_
  refine g_iload_n (pc' := 1225) 0 dL_law_1224 rfl rfl ?_
  refine g_iconst (pc' := 1226) dL_law_1225 rfl ?_
  refine g_iadd (pc' := 1227) dL_law_1226 rfl ?_
  refine g_sld (pc' := 1228) (by omega) (by omega) dL_law_1227 rfl ?_
  refine g_callV (pc' := 1231) (Y := X_X12_bars) (vs := [vI (eSc xs x 1)]) (st := [vI v]) (c := 12) hM' mv_X12_bars mq_L_145 rfl rfl rfl rfl (Nat.le_of_ble_eq_true rfl) ⟨Nat.le_of_ble_eq_true rfl, Nat.le_of_ble_eq_true rfl⟩ hc rfl dL_law_1228 rfl ?_
  rintro r δ2 i2 l2 ⟨rfl, v', rfl, hv', rfl, hI2⟩
  refine g_icmp_eq (tgt := 1589) (pc' := 1234) hv hv' Iff.rfl dL_law_1231 rfl rfl (fun _ => kk w1 i2 l2 hw1 hb1 hI2) (fun q => absurd rfl q)
theorem lc_32 {w : Wd} {k c0 s0 L : Nat} {i : IM} {l : LM} {xs : Nat → Int32} {x : Int} (hx : 0 ≤ x ∧ x + 6 ≤ (L : Int)) (hL : L ≤ 3072) (hB : BoE w k 1000 0 0 X_X11_third X_X12_third [vI (eSc xs x 1), vI (eSc xs x 2)] i l) (hc : c0 + 0 ≤ room_1.cells ∧ s0 + 0 ≤ room_1.slots) (kk : ∀ (w1 : Wd) (i2 : IM) (l2 : LM), w1.1 = w.1 → BkA w1 → Inv w1 (k + 2) i2 l2 → G w.1 room_1 X_L_law (QL w.1 L xs) (c0 + 0) (s0 + 0) (dw w1) i2 l2 1589 [(3, vI x), (2, vR (some 99)), (1, vR (some 6)), (0, vR (some 0))] []) : G w.1 room_1 X_L_law (QL w.1 L xs) c0 s0 (dw w) i l 1236 [(3, vI x), (2, vR (some 99)), (1, vR (some 6)), (0, vR (some 0))] [] := by
  refine g_aload_n (pc' := 1237) 2 dL_law_1236 rfl rfl ?_
  refine g_aload_n (pc' := 1238) 3 dL_law_1237 rfl rfl ?_
  refine g_iload_n (pc' := 1239) 0 dL_law_1238 rfl rfl ?_
  refine g_iconst (pc' := 1240) dL_law_1239 rfl ?_
  refine g_iadd (pc' := 1241) dL_law_1240 rfl ?_
  refine g_sld (pc' := 1242) (by omega) (by omega) dL_law_1241 rfl ?_
  refine g_aload_n (pc' := 1243) 3 dL_law_1242 rfl rfl ?_
  refine g_iload_n (pc' := 1244) 0 dL_law_1243 rfl rfl ?_
  refine g_iconst (pc' := 1245) dL_law_1244 rfl ?_
  refine g_iadd (pc' := 1246) dL_law_1245 rfl ?_
  refine g_sld (pc' := 1247) (by omega) (by omega) dL_law_1246 rfl ?_
  refine g_callV (pc' := 1250) (Y := X_X11_third) (vs := [vI (eSc xs x 1), vI (eSc xs x 2)]) (st := []) (c := 11) hB mv_X11_third mq_L_146 rfl rfl rfl rfl (Nat.le_of_ble_eq_true rfl) ⟨Nat.le_of_ble_eq_true rfl, Nat.le_of_ble_eq_true rfl⟩ hc rfl dL_law_1247 rfl ?_
  rintro r δ' i' l' ⟨v, w1, rfl, hv, rfl, hw1, hb1, hM⟩
  have hM' : CI w.1 1000 X_X12_third (vR (some 99) :: [vI (eSc xs x 1), vI (eSc xs x 2)]) (dw w1) i' l' (fun v' i2 l2 => v' = v ∧ Inv w1 (k + 2) i2 l2) := by rw [← hw1]; exact hM
  refine g_aload_n (pc' := 1251) 1 dL_law_1250 rfl rfl ?_
  refine g_aload_n (pc' := 1252) 3 dL_law_1251 rfl rfl ?_
  refine g_iload_n (pc' := 1253) 0 dL_law_1252 rfl rfl ?_
  refine g_iconst (pc' := 1254) dL_law_1253 rfl ?_
  refine g_iadd (pc' := 1255) dL_law_1254 rfl ?_
  refine g_sld (pc' := 1256) (by omega) (by omega) dL_law_1255 rfl ?_
  refine g_aload_n (pc' := 1257) 3 dL_law_1256 rfl rfl ?_
  refine g_iload_n (pc' := 1258) 0 dL_law_1257 rfl rfl ?_
  refine g_iconst (pc' := 1259) dL_law_1258 rfl ?_
  refine g_iadd (pc' := 1260) dL_law_1259 rfl ?_
  refine g_sld (pc' := 1261) (by omega) (by omega) dL_law_1260 rfl ?_
  refine g_callV (pc' := 1264) (Y := X_X12_third) (vs := [vI (eSc xs x 1), vI (eSc xs x 2)]) (st := [vI v]) (c := 12) hM' mv_X12_third mq_L_149 rfl rfl rfl rfl (Nat.le_of_ble_eq_true rfl) ⟨Nat.le_of_ble_eq_true rfl, Nat.le_of_ble_eq_true rfl⟩ hc rfl dL_law_1261 rfl ?_
  rintro r δ2 i2 l2 ⟨rfl, v', rfl, hv', rfl, hI2⟩
  refine g_icmp_eq (tgt := 1589) (pc' := 1267) hv hv' Iff.rfl dL_law_1264 rfl rfl (fun _ => kk w1 i2 l2 hw1 hb1 hI2) (fun q => absurd rfl q)
theorem lc_33 {w : Wd} {k c0 s0 L : Nat} {i : IM} {l : LM} {xs : Nat → Int32} {x : Int} (hx : 0 ≤ x ∧ x + 6 ≤ (L : Int)) (hL : L ≤ 3072) (hB : BoE w k 1000 0 0 X_X11_near X_X12_near [vI (eSc xs x 1)] i l) (hc : c0 + 0 ≤ room_1.cells ∧ s0 + 0 ≤ room_1.slots) (kk : ∀ (w1 : Wd) (i2 : IM) (l2 : LM), w1.1 = w.1 → BkA w1 → Inv w1 (k + 2) i2 l2 → G w.1 room_1 X_L_law (QL w.1 L xs) (c0 + 0) (s0 + 0) (dw w1) i2 l2 1589 [(3, vI x), (2, vR (some 99)), (1, vR (some 6)), (0, vR (some 0))] []) : G w.1 room_1 X_L_law (QL w.1 L xs) c0 s0 (dw w) i l 1269 [(3, vI x), (2, vR (some 99)), (1, vR (some 6)), (0, vR (some 0))] [] := by
  refine g_aload_n (pc' := 1270) 2 dL_law_1269 rfl rfl ?_
  refine g_aload_n (pc' := 1271) 3 dL_law_1270 rfl rfl ?_
  refine g_iload_n (pc' := 1272) 0 dL_law_1271 rfl rfl ?_
  refine g_iconst (pc' := 1273) dL_law_1272 rfl ?_
  refine g_iadd (pc' := 1274) dL_law_1273 rfl ?_
  refine g_sld (pc' := 1275) (by omega) (by omega) dL_law_1274 rfl ?_
  refine g_callV (pc' := 1278) (Y := X_X11_near) (vs := [vI (eSc xs x 1)]) (st := []) (c := 11) hB mv_X11_near mq_L_150 rfl rfl rfl rfl (Nat.le_of_ble_eq_true rfl) ⟨Nat.le_of_ble_eq_true rfl, Nat.le_of_ble_eq_true rfl⟩ hc rfl dL_law_1275 rfl ?_
  rintro r δ' i' l' ⟨v, w1, rfl, hv, rfl, hw1, hb1, hM⟩
  have hM' : CI w.1 1000 X_X12_near (vR (some 99) :: [vI (eSc xs x 1)]) (dw w1) i' l' (fun v' i2 l2 => v' = v ∧ Inv w1 (k + 2) i2 l2) := by rw [← hw1]; exact hM
  refine g_aload_n (pc' := 1279) 1 dL_law_1278 rfl rfl ?_
  refine g_aload_n (pc' := 1280) 3 dL_law_1279 rfl rfl ?_
  refine g_iload_n (pc' := 1281) 0 dL_law_1280 rfl rfl ?_
  refine g_iconst (pc' := 1282) dL_law_1281 rfl ?_
  refine g_iadd (pc' := 1283) dL_law_1282 rfl ?_
  refine g_sld (pc' := 1284) (by omega) (by omega) dL_law_1283 rfl ?_
  refine g_callV (pc' := 1287) (Y := X_X12_near) (vs := [vI (eSc xs x 1)]) (st := [vI v]) (c := 12) hM' mv_X12_near mq_L_153 rfl rfl rfl rfl (Nat.le_of_ble_eq_true rfl) ⟨Nat.le_of_ble_eq_true rfl, Nat.le_of_ble_eq_true rfl⟩ hc rfl dL_law_1284 rfl ?_
  rintro r δ2 i2 l2 ⟨rfl, v', rfl, hv', rfl, hI2⟩
  refine g_icmp_eq (tgt := 1589) (pc' := 1290) hv hv' Iff.rfl dL_law_1287 rfl rfl (fun _ => kk w1 i2 l2 hw1 hb1 hI2) (fun q => absurd rfl q)
theorem lc_34 {w : Wd} {k c0 s0 L : Nat} {i : IM} {l : LM} {xs : Nat → Int32} {x : Int} (hx : 0 ≤ x ∧ x + 6 ≤ (L : Int)) (hL : L ≤ 3072) (hB : BoE w k 1000 0 0 X_X11_soon X_X12_soon [vI (eSc xs x 1), vI (eSc xs x 2), vI (eSc xs x 3), vI (eSc xs x 4)] i l) (hc : c0 + 0 ≤ room_1.cells ∧ s0 + 0 ≤ room_1.slots) (kk : ∀ (w1 : Wd) (i2 : IM) (l2 : LM), w1.1 = w.1 → BkA w1 → Inv w1 (k + 2) i2 l2 → G w.1 room_1 X_L_law (QL w.1 L xs) (c0 + 0) (s0 + 0) (dw w1) i2 l2 1589 [(3, vI x), (2, vR (some 99)), (1, vR (some 6)), (0, vR (some 0))] []) : G w.1 room_1 X_L_law (QL w.1 L xs) c0 s0 (dw w) i l 1292 [(3, vI x), (2, vR (some 99)), (1, vR (some 6)), (0, vR (some 0))] [] := by
  refine g_aload_n (pc' := 1293) 2 dL_law_1292 rfl rfl ?_
  refine g_aload_n (pc' := 1294) 3 dL_law_1293 rfl rfl ?_
  refine g_iload_n (pc' := 1295) 0 dL_law_1294 rfl rfl ?_
  refine g_iconst (pc' := 1296) dL_law_1295 rfl ?_
  refine g_iadd (pc' := 1297) dL_law_1296 rfl ?_
  refine g_sld (pc' := 1298) (by omega) (by omega) dL_law_1297 rfl ?_
  refine g_aload_n (pc' := 1299) 3 dL_law_1298 rfl rfl ?_
  refine g_iload_n (pc' := 1300) 0 dL_law_1299 rfl rfl ?_
  refine g_iconst (pc' := 1301) dL_law_1300 rfl ?_
  refine g_iadd (pc' := 1302) dL_law_1301 rfl ?_
  refine g_sld (pc' := 1303) (by omega) (by omega) dL_law_1302 rfl ?_
  refine g_aload_n (pc' := 1304) 3 dL_law_1303 rfl rfl ?_
  refine g_iload_n (pc' := 1305) 0 dL_law_1304 rfl rfl ?_
  refine g_iconst (pc' := 1306) dL_law_1305 rfl ?_
  refine g_iadd (pc' := 1307) dL_law_1306 rfl ?_
  refine g_sld (pc' := 1308) (by omega) (by omega) dL_law_1307 rfl ?_
  refine g_aload_n (pc' := 1309) 3 dL_law_1308 rfl rfl ?_
  refine g_iload_n (pc' := 1310) 0 dL_law_1309 rfl rfl ?_
  refine g_iconst (pc' := 1311) dL_law_1310 rfl ?_
  refine g_iadd (pc' := 1312) dL_law_1311 rfl ?_
  refine g_sld (pc' := 1313) (by omega) (by omega) dL_law_1312 rfl ?_
  refine g_callV (pc' := 1316) (Y := X_X11_soon) (vs := [vI (eSc xs x 1), vI (eSc xs x 2), vI (eSc xs x 3), vI (eSc xs x 4)]) (st := []) (c := 11) hB mv_X11_soon mq_L_154 rfl rfl rfl rfl (Nat.le_of_ble_eq_true rfl) ⟨Nat.le_of_ble_eq_true rfl, Nat.le_of_ble_eq_true rfl⟩ hc rfl dL_law_1313 rfl ?_
  rintro r δ' i' l' ⟨v, w1, rfl, hv, rfl, hw1, hb1, hM⟩
  have hM' : CI w.1 1000 X_X12_soon (vR (some 99) :: [vI (eSc xs x 1), vI (eSc xs x 2), vI (eSc xs x 3), vI (eSc xs x 4)]) (dw w1) i' l' (fun v' i2 l2 => v' = v ∧ Inv w1 (k + 2) i2 l2) := by rw [← hw1]; exact hM
  refine g_aload_n (pc' := 1317) 1 dL_law_1316 rfl rfl ?_
  refine g_aload_n (pc' := 1318) 3 dL_law_1317 rfl rfl ?_
  refine g_iload_n (pc' := 1319) 0 dL_law_1318 rfl rfl ?_
  refine g_iconst (pc' := 1320) dL_law_1319 rfl ?_
  refine g_iadd (pc' := 1321) dL_law_1320 rfl ?_
  refine g_sld (pc' := 1322) (by omega) (by omega) dL_law_1321 rfl ?_
  refine g_aload_n (pc' := 1323) 3 dL_law_1322 rfl rfl ?_
  refine g_iload_n (pc' := 1324) 0 dL_law_1323 rfl rfl ?_
  refine g_iconst (pc' := 1325) dL_law_1324 rfl ?_
  refine g_iadd (pc' := 1326) dL_law_1325 rfl ?_
  refine g_sld (pc' := 1327) (by omega) (by omega) dL_law_1326 rfl ?_
  refine g_aload_n (pc' := 1328) 3 dL_law_1327 rfl rfl ?_
  refine g_iload_n (pc' := 1329) 0 dL_law_1328 rfl rfl ?_
  refine g_iconst (pc' := 1330) dL_law_1329 rfl ?_
  refine g_iadd (pc' := 1331) dL_law_1330 rfl ?_
  refine g_sld (pc' := 1332) (by omega) (by omega) dL_law_1331 rfl ?_
  refine g_aload_n (pc' := 1333) 3 dL_law_1332 rfl rfl ?_
  refine g_iload_n (pc' := 1334) 0 dL_law_1333 rfl rfl ?_
  refine g_iconst (pc' := 1335) dL_law_1334 rfl ?_
  refine g_iadd (pc' := 1336) dL_law_1335 rfl ?_
  refine g_sld (pc' := 1337) (by omega) (by omega) dL_law_1336 rfl ?_
  refine g_callV (pc' := 1340) (Y := X_X12_soon) (vs := [vI (eSc xs x 1), vI (eSc xs x 2), vI (eSc xs x 3), vI (eSc xs x 4)]) (st := [vI v]) (c := 12) hM' mv_X12_soon mq_L_158 rfl rfl rfl rfl (Nat.le_of_ble_eq_true rfl) ⟨Nat.le_of_ble_eq_true rfl, Nat.le_of_ble_eq_true rfl⟩ hc rfl dL_law_1337 rfl ?_
  rintro r δ2 i2 l2 ⟨rfl, v', rfl, hv', rfl, hI2⟩
  refine g_icmp_eq (tgt := 1589) (pc' := 1343) hv hv' Iff.rfl dL_law_1340 rfl rfl (fun _ => kk w1 i2 l2 hw1 hb1 hI2) (fun q => absurd rfl q)
theorem lc_35 {w : Wd} {k c0 s0 L : Nat} {i : IM} {l : LM} {xs : Nat → Int32} {x : Int} (hx : 0 ≤ x ∧ x + 6 ≤ (L : Int)) (hL : L ≤ 3072) (hB : BoE w k 1000 0 0 X_X11_way X_X12_way [vI (eSc xs x 1), vI (eSc xs x 2), vI (eSc xs x 3), vI (eSc xs x 4), vI (eSc xs x 5)] i l) (hc : c0 + 0 ≤ room_1.cells ∧ s0 + 0 ≤ room_1.slots) (kk : ∀ (w1 : Wd) (i2 : IM) (l2 : LM), w1.1 = w.1 → BkA w1 → Inv w1 (k + 2) i2 l2 → G w.1 room_1 X_L_law (QL w.1 L xs) (c0 + 0) (s0 + 0) (dw w1) i2 l2 1589 [(3, vI x), (2, vR (some 99)), (1, vR (some 6)), (0, vR (some 0))] []) : G w.1 room_1 X_L_law (QL w.1 L xs) c0 s0 (dw w) i l 1345 [(3, vI x), (2, vR (some 99)), (1, vR (some 6)), (0, vR (some 0))] [] := by
  refine g_aload_n (pc' := 1346) 2 dL_law_1345 rfl rfl ?_
  refine g_aload_n (pc' := 1347) 3 dL_law_1346 rfl rfl ?_
  refine g_iload_n (pc' := 1348) 0 dL_law_1347 rfl rfl ?_
  refine g_iconst (pc' := 1349) dL_law_1348 rfl ?_
  refine g_iadd (pc' := 1350) dL_law_1349 rfl ?_
  refine g_sld (pc' := 1351) (by omega) (by omega) dL_law_1350 rfl ?_
  refine g_aload_n (pc' := 1352) 3 dL_law_1351 rfl rfl ?_
  refine g_iload_n (pc' := 1353) 0 dL_law_1352 rfl rfl ?_
  refine g_iconst (pc' := 1354) dL_law_1353 rfl ?_
  refine g_iadd (pc' := 1355) dL_law_1354 rfl ?_
  refine g_sld (pc' := 1356) (by omega) (by omega) dL_law_1355 rfl ?_
  refine g_aload_n (pc' := 1357) 3 dL_law_1356 rfl rfl ?_
  refine g_iload_n (pc' := 1358) 0 dL_law_1357 rfl rfl ?_
  refine g_iconst (pc' := 1359) dL_law_1358 rfl ?_
  refine g_iadd (pc' := 1360) dL_law_1359 rfl ?_
  refine g_sld (pc' := 1361) (by omega) (by omega) dL_law_1360 rfl ?_
  refine g_aload_n (pc' := 1362) 3 dL_law_1361 rfl rfl ?_
  refine g_iload_n (pc' := 1363) 0 dL_law_1362 rfl rfl ?_
  refine g_iconst (pc' := 1364) dL_law_1363 rfl ?_
  refine g_iadd (pc' := 1365) dL_law_1364 rfl ?_
  refine g_sld (pc' := 1366) (by omega) (by omega) dL_law_1365 rfl ?_
  refine g_aload_n (pc' := 1367) 3 dL_law_1366 rfl rfl ?_
  refine g_iload_n (pc' := 1368) 0 dL_law_1367 rfl rfl ?_
  refine g_iconst (pc' := 1369) dL_law_1368 rfl ?_
  refine g_iadd (pc' := 1370) dL_law_1369 rfl ?_
  refine g_sld (pc' := 1371) (by omega) (by omega) dL_law_1370 rfl ?_
  refine g_callV (pc' := 1374) (Y := X_X11_way) (vs := [vI (eSc xs x 1), vI (eSc xs x 2), vI (eSc xs x 3), vI (eSc xs x 4), vI (eSc xs x 5)]) (st := []) (c := 11) hB mv_X11_way mq_L_159 rfl rfl rfl rfl (Nat.le_of_ble_eq_true rfl) ⟨Nat.le_of_ble_eq_true rfl, Nat.le_of_ble_eq_true rfl⟩ hc rfl dL_law_1371 rfl ?_
  rintro r δ' i' l' ⟨v, w1, rfl, hv, rfl, hw1, hb1, hM⟩
  have hM' : CI w.1 1000 X_X12_way (vR (some 99) :: [vI (eSc xs x 1), vI (eSc xs x 2), vI (eSc xs x 3), vI (eSc xs x 4), vI (eSc xs x 5)]) (dw w1) i' l' (fun v' i2 l2 => v' = v ∧ Inv w1 (k + 2) i2 l2) := by rw [← hw1]; exact hM
  refine g_aload_n (pc' := 1375) 1 dL_law_1374 rfl rfl ?_
  refine g_aload_n (pc' := 1376) 3 dL_law_1375 rfl rfl ?_
  refine g_iload_n (pc' := 1377) 0 dL_law_1376 rfl rfl ?_
  refine g_iconst (pc' := 1378) dL_law_1377 rfl ?_
  refine g_iadd (pc' := 1379) dL_law_1378 rfl ?_
  refine g_sld (pc' := 1380) (by omega) (by omega) dL_law_1379 rfl ?_
  refine g_aload_n (pc' := 1381) 3 dL_law_1380 rfl rfl ?_
  refine g_iload_n (pc' := 1382) 0 dL_law_1381 rfl rfl ?_
  refine g_iconst (pc' := 1383) dL_law_1382 rfl ?_
  refine g_iadd (pc' := 1384) dL_law_1383 rfl ?_
  refine g_sld (pc' := 1385) (by omega) (by omega) dL_law_1384 rfl ?_
  refine g_aload_n (pc' := 1386) 3 dL_law_1385 rfl rfl ?_
  refine g_iload_n (pc' := 1387) 0 dL_law_1386 rfl rfl ?_
  refine g_iconst (pc' := 1388) dL_law_1387 rfl ?_
  refine g_iadd (pc' := 1389) dL_law_1388 rfl ?_
  refine g_sld (pc' := 1390) (by omega) (by omega) dL_law_1389 rfl ?_
  refine g_aload_n (pc' := 1391) 3 dL_law_1390 rfl rfl ?_
  refine g_iload_n (pc' := 1392) 0 dL_law_1391 rfl rfl ?_
  refine g_iconst (pc' := 1393) dL_law_1392 rfl ?_
  refine g_iadd (pc' := 1394) dL_law_1393 rfl ?_
  refine g_sld (pc' := 1395) (by omega) (by omega) dL_law_1394 rfl ?_
  refine g_aload_n (pc' := 1396) 3 dL_law_1395 rfl rfl ?_
  refine g_iload_n (pc' := 1397) 0 dL_law_1396 rfl rfl ?_
  refine g_iconst (pc' := 1398) dL_law_1397 rfl ?_
  refine g_iadd (pc' := 1399) dL_law_1398 rfl ?_
  refine g_sld (pc' := 1400) (by omega) (by omega) dL_law_1399 rfl ?_
  refine g_callV (pc' := 1403) (Y := X_X12_way) (vs := [vI (eSc xs x 1), vI (eSc xs x 2), vI (eSc xs x 3), vI (eSc xs x 4), vI (eSc xs x 5)]) (st := [vI v]) (c := 12) hM' mv_X12_way mq_L_162 rfl rfl rfl rfl (Nat.le_of_ble_eq_true rfl) ⟨Nat.le_of_ble_eq_true rfl, Nat.le_of_ble_eq_true rfl⟩ hc rfl dL_law_1400 rfl ?_
  rintro r δ2 i2 l2 ⟨rfl, v', rfl, hv', rfl, hI2⟩
  refine g_icmp_eq (tgt := 1589) (pc' := 1406) hv hv' Iff.rfl dL_law_1403 rfl rfl (fun _ => kk w1 i2 l2 hw1 hb1 hI2) (fun q => absurd rfl q)
theorem lc_36 {w : Wd} {k c0 s0 L : Nat} {i : IM} {l : LM} {xs : Nat → Int32} {x : Int} (hx : 0 ≤ x ∧ x + 6 ≤ (L : Int)) (hL : L ≤ 3072) (hB : BoE w k 1000 0 0 X_X11_file X_X12_file [vI (eSc xs x 1), vI (eSc xs x 2), vI (eSc xs x 3)] i l) (hc : c0 + 0 ≤ room_1.cells ∧ s0 + 0 ≤ room_1.slots) (kk : ∀ (w1 : Wd) (i2 : IM) (l2 : LM), w1.1 = w.1 → BkA w1 → Inv w1 (k + 2) i2 l2 → G w.1 room_1 X_L_law (QL w.1 L xs) (c0 + 0) (s0 + 0) (dw w1) i2 l2 1589 [(3, vI x), (2, vR (some 99)), (1, vR (some 6)), (0, vR (some 0))] []) : G w.1 room_1 X_L_law (QL w.1 L xs) c0 s0 (dw w) i l 1408 [(3, vI x), (2, vR (some 99)), (1, vR (some 6)), (0, vR (some 0))] [] := by
  refine g_aload_n (pc' := 1409) 2 dL_law_1408 rfl rfl ?_
  refine g_aload_n (pc' := 1410) 3 dL_law_1409 rfl rfl ?_
  refine g_iload_n (pc' := 1411) 0 dL_law_1410 rfl rfl ?_
  refine g_iconst (pc' := 1412) dL_law_1411 rfl ?_
  refine g_iadd (pc' := 1413) dL_law_1412 rfl ?_
  refine g_sld (pc' := 1414) (by omega) (by omega) dL_law_1413 rfl ?_
  refine g_aload_n (pc' := 1415) 3 dL_law_1414 rfl rfl ?_
  refine g_iload_n (pc' := 1416) 0 dL_law_1415 rfl rfl ?_
  refine g_iconst (pc' := 1417) dL_law_1416 rfl ?_
  refine g_iadd (pc' := 1418) dL_law_1417 rfl ?_
  refine g_sld (pc' := 1419) (by omega) (by omega) dL_law_1418 rfl ?_
  refine g_aload_n (pc' := 1420) 3 dL_law_1419 rfl rfl ?_
  refine g_iload_n (pc' := 1421) 0 dL_law_1420 rfl rfl ?_
  refine g_iconst (pc' := 1422) dL_law_1421 rfl ?_
  refine g_iadd (pc' := 1423) dL_law_1422 rfl ?_
  refine g_sld (pc' := 1424) (by omega) (by omega) dL_law_1423 rfl ?_
  refine g_callV (pc' := 1427) (Y := X_X11_file) (vs := [vI (eSc xs x 1), vI (eSc xs x 2), vI (eSc xs x 3)]) (st := []) (c := 11) hB mv_X11_file mq_L_163 rfl rfl rfl rfl (Nat.le_of_ble_eq_true rfl) ⟨Nat.le_of_ble_eq_true rfl, Nat.le_of_ble_eq_true rfl⟩ hc rfl dL_law_1424 rfl ?_
  rintro r δ' i' l' ⟨v, w1, rfl, hv, rfl, hw1, hb1, hM⟩
  have hM' : CI w.1 1000 X_X12_file (vR (some 99) :: [vI (eSc xs x 1), vI (eSc xs x 2), vI (eSc xs x 3)]) (dw w1) i' l' (fun v' i2 l2 => v' = v ∧ Inv w1 (k + 2) i2 l2) := by rw [← hw1]; exact hM
  refine g_aload_n (pc' := 1428) 1 dL_law_1427 rfl rfl ?_
  refine g_aload_n (pc' := 1429) 3 dL_law_1428 rfl rfl ?_
  refine g_iload_n (pc' := 1430) 0 dL_law_1429 rfl rfl ?_
  refine g_iconst (pc' := 1431) dL_law_1430 rfl ?_
  refine g_iadd (pc' := 1432) dL_law_1431 rfl ?_
  refine g_sld (pc' := 1433) (by omega) (by omega) dL_law_1432 rfl ?_
  refine g_aload_n (pc' := 1434) 3 dL_law_1433 rfl rfl ?_
  refine g_iload_n (pc' := 1435) 0 dL_law_1434 rfl rfl ?_
  refine g_iconst (pc' := 1436) dL_law_1435 rfl ?_
  refine g_iadd (pc' := 1437) dL_law_1436 rfl ?_
  refine g_sld (pc' := 1438) (by omega) (by omega) dL_law_1437 rfl ?_
  refine g_aload_n (pc' := 1439) 3 dL_law_1438 rfl rfl ?_
  refine g_iload_n (pc' := 1440) 0 dL_law_1439 rfl rfl ?_
  refine g_iconst (pc' := 1441) dL_law_1440 rfl ?_
  refine g_iadd (pc' := 1442) dL_law_1441 rfl ?_
  refine g_sld (pc' := 1443) (by omega) (by omega) dL_law_1442 rfl ?_
  refine g_callV (pc' := 1446) (Y := X_X12_file) (vs := [vI (eSc xs x 1), vI (eSc xs x 2), vI (eSc xs x 3)]) (st := [vI v]) (c := 12) hM' mv_X12_file mq_L_166 rfl rfl rfl rfl (Nat.le_of_ble_eq_true rfl) ⟨Nat.le_of_ble_eq_true rfl, Nat.le_of_ble_eq_true rfl⟩ hc rfl dL_law_1443 rfl ?_
  rintro r δ2 i2 l2 ⟨rfl, v', rfl, hv', rfl, hI2⟩
  refine g_icmp_eq (tgt := 1589) (pc' := 1449) hv hv' Iff.rfl dL_law_1446 rfl rfl (fun _ => kk w1 i2 l2 hw1 hb1 hI2) (fun q => absurd rfl q)
theorem lc_37 {w : Wd} {k c0 s0 L : Nat} {i : IM} {l : LM} {xs : Nat → Int32} {x : Int} (hx : 0 ≤ x ∧ x + 6 ≤ (L : Int)) (hL : L ≤ 3072) (hB : BoE w k 1000 0 0 X_X11_day X_X12_day [vI (eSc xs x 1)] i l) (hc : c0 + 0 ≤ room_1.cells ∧ s0 + 0 ≤ room_1.slots) (kk : ∀ (w1 : Wd) (i2 : IM) (l2 : LM), w1.1 = w.1 → BkA w1 → Inv w1 (k + 2) i2 l2 → G w.1 room_1 X_L_law (QL w.1 L xs) (c0 + 0) (s0 + 0) (dw w1) i2 l2 1589 [(3, vI x), (2, vR (some 99)), (1, vR (some 6)), (0, vR (some 0))] []) : G w.1 room_1 X_L_law (QL w.1 L xs) c0 s0 (dw w) i l 1451 [(3, vI x), (2, vR (some 99)), (1, vR (some 6)), (0, vR (some 0))] [] := by
  refine g_aload_n (pc' := 1452) 2 dL_law_1451 rfl rfl ?_
  refine g_aload_n (pc' := 1453) 3 dL_law_1452 rfl rfl ?_
  refine g_iload_n (pc' := 1454) 0 dL_law_1453 rfl rfl ?_
  refine g_iconst (pc' := 1455) dL_law_1454 rfl ?_
  refine g_iadd (pc' := 1456) dL_law_1455 rfl ?_
  refine g_sld (pc' := 1457) (by omega) (by omega) dL_law_1456 rfl ?_
  refine g_callV (pc' := 1460) (Y := X_X11_day) (vs := [vI (eSc xs x 1)]) (st := []) (c := 11) hB mv_X11_day mq_L_167 rfl rfl rfl rfl (Nat.le_of_ble_eq_true rfl) ⟨Nat.le_of_ble_eq_true rfl, Nat.le_of_ble_eq_true rfl⟩ hc rfl dL_law_1457 rfl ?_
  rintro r δ' i' l' ⟨v, w1, rfl, hv, rfl, hw1, hb1, hM⟩
  have hM' : CI w.1 1000 X_X12_day (vR (some 99) :: [vI (eSc xs x 1)]) (dw w1) i' l' (fun v' i2 l2 => v' = v ∧ Inv w1 (k + 2) i2 l2) := by rw [← hw1]; exact hM
  refine g_aload_n (pc' := 1461) 1 dL_law_1460 rfl rfl ?_
  refine g_aload_n (pc' := 1462) 3 dL_law_1461 rfl rfl ?_
  refine g_iload_n (pc' := 1463) 0 dL_law_1462 rfl rfl ?_
  refine g_iconst (pc' := 1464) dL_law_1463 rfl ?_
  refine g_iadd (pc' := 1465) dL_law_1464 rfl ?_
  refine g_sld (pc' := 1466) (by omega) (by omega) dL_law_1465 rfl ?_
  refine g_callV (pc' := 1469) (Y := X_X12_day) (vs := [vI (eSc xs x 1)]) (st := [vI v]) (c := 12) hM' mv_X12_day mq_L_170 rfl rfl rfl rfl (Nat.le_of_ble_eq_true rfl) ⟨Nat.le_of_ble_eq_true rfl, Nat.le_of_ble_eq_true rfl⟩ hc rfl dL_law_1466 rfl ?_
  rintro r δ2 i2 l2 ⟨rfl, v', rfl, hv', rfl, hI2⟩
  refine g_icmp_eq (tgt := 1589) (pc' := 1472) hv hv' Iff.rfl dL_law_1469 rfl rfl (fun _ => kk w1 i2 l2 hw1 hb1 hI2) (fun q => absurd rfl q)
theorem lc_38 {w : Wd} {k c0 s0 L : Nat} {i : IM} {l : LM} {xs : Nat → Int32} {x : Int} (hx : 0 ≤ x ∧ x + 6 ≤ (L : Int)) (hL : L ≤ 3072) (hB : BoE w k 1000 0 0 X_X11_drawn X_X12_drawn [vI (eSc xs x 1), vI (eSc xs x 2)] i l) (hc : c0 + 0 ≤ room_1.cells ∧ s0 + 0 ≤ room_1.slots) (kk : ∀ (w1 : Wd) (i2 : IM) (l2 : LM), w1.1 = w.1 → BkA w1 → Inv w1 (k + 2) i2 l2 → G w.1 room_1 X_L_law (QL w.1 L xs) (c0 + 0) (s0 + 0) (dw w1) i2 l2 1589 [(3, vI x), (2, vR (some 99)), (1, vR (some 6)), (0, vR (some 0))] []) : G w.1 room_1 X_L_law (QL w.1 L xs) c0 s0 (dw w) i l 1474 [(3, vI x), (2, vR (some 99)), (1, vR (some 6)), (0, vR (some 0))] [] := by
  refine g_aload_n (pc' := 1475) 2 dL_law_1474 rfl rfl ?_
  refine g_aload_n (pc' := 1476) 3 dL_law_1475 rfl rfl ?_
  refine g_iload_n (pc' := 1477) 0 dL_law_1476 rfl rfl ?_
  refine g_iconst (pc' := 1478) dL_law_1477 rfl ?_
  refine g_iadd (pc' := 1479) dL_law_1478 rfl ?_
  refine g_sld (pc' := 1480) (by omega) (by omega) dL_law_1479 rfl ?_
  refine g_aload_n (pc' := 1481) 3 dL_law_1480 rfl rfl ?_
  refine g_iload_n (pc' := 1482) 0 dL_law_1481 rfl rfl ?_
  refine g_iconst (pc' := 1483) dL_law_1482 rfl ?_
  refine g_iadd (pc' := 1484) dL_law_1483 rfl ?_
  refine g_sld (pc' := 1485) (by omega) (by omega) dL_law_1484 rfl ?_
  refine g_callV (pc' := 1488) (Y := X_X11_drawn) (vs := [vI (eSc xs x 1), vI (eSc xs x 2)]) (st := []) (c := 11) hB mv_X11_drawn mq_L_171 rfl rfl rfl rfl (Nat.le_of_ble_eq_true rfl) ⟨Nat.le_of_ble_eq_true rfl, Nat.le_of_ble_eq_true rfl⟩ hc rfl dL_law_1485 rfl ?_
  rintro r δ' i' l' ⟨v, w1, rfl, hv, rfl, hw1, hb1, hM⟩
  have hM' : CI w.1 1000 X_X12_drawn (vR (some 99) :: [vI (eSc xs x 1), vI (eSc xs x 2)]) (dw w1) i' l' (fun v' i2 l2 => v' = v ∧ Inv w1 (k + 2) i2 l2) := by rw [← hw1]; exact hM
  refine g_aload_n (pc' := 1489) 1 dL_law_1488 rfl rfl ?_
  refine g_aload_n (pc' := 1490) 3 dL_law_1489 rfl rfl ?_
  refine g_iload_n (pc' := 1491) 0 dL_law_1490 rfl rfl ?_
  refine g_iconst (pc' := 1492) dL_law_1491 rfl ?_
  refine g_iadd (pc' := 1493) dL_law_1492 rfl ?_
  refine g_sld (pc' := 1494) (by omega) (by omega) dL_law_1493 rfl ?_
  refine g_aload_n (pc' := 1495) 3 dL_law_1494 rfl rfl ?_
  refine g_iload_n (pc' := 1496) 0 dL_law_1495 rfl rfl ?_
  refine g_iconst (pc' := 1497) dL_law_1496 rfl ?_
  refine g_iadd (pc' := 1498) dL_law_1497 rfl ?_
  refine g_sld (pc' := 1499) (by omega) (by omega) dL_law_1498 rfl ?_
  refine g_callV (pc' := 1502) (Y := X_X12_drawn) (vs := [vI (eSc xs x 1), vI (eSc xs x 2)]) (st := [vI v]) (c := 12) hM' mv_X12_drawn mq_L_174 rfl rfl rfl rfl (Nat.le_of_ble_eq_true rfl) ⟨Nat.le_of_ble_eq_true rfl, Nat.le_of_ble_eq_true rfl⟩ hc rfl dL_law_1499 rfl ?_
  rintro r δ2 i2 l2 ⟨rfl, v', rfl, hv', rfl, hI2⟩
  refine g_icmp_eq (tgt := 1589) (pc' := 1505) hv hv' Iff.rfl dL_law_1502 rfl rfl (fun _ => kk w1 i2 l2 hw1 hb1 hI2) (fun q => absurd rfl q)
theorem lc_39 {w : Wd} {k c0 s0 L : Nat} {i : IM} {l : LM} {xs : Nat → Int32} {x : Int} (hx : 0 ≤ x ∧ x + 6 ≤ (L : Int)) (hL : L ≤ 3072) (hB : BoE w k 1000 0 0 X_X11_image X_X12_image [vI (eSc xs x 1)] i l) (hc : c0 + 0 ≤ room_1.cells ∧ s0 + 0 ≤ room_1.slots) (kk : ∀ (w1 : Wd) (i2 : IM) (l2 : LM), w1.1 = w.1 → BkA w1 → Inv w1 (k + 2) i2 l2 → G w.1 room_1 X_L_law (QL w.1 L xs) (c0 + 0) (s0 + 0) (dw w1) i2 l2 1589 [(3, vI x), (2, vR (some 99)), (1, vR (some 6)), (0, vR (some 0))] []) : G w.1 room_1 X_L_law (QL w.1 L xs) c0 s0 (dw w) i l 1507 [(3, vI x), (2, vR (some 99)), (1, vR (some 6)), (0, vR (some 0))] [] := by
  refine g_aload_n (pc' := 1508) 2 dL_law_1507 rfl rfl ?_
  refine g_aload_n (pc' := 1509) 3 dL_law_1508 rfl rfl ?_
  refine g_iload_n (pc' := 1510) 0 dL_law_1509 rfl rfl ?_
  refine g_iconst (pc' := 1511) dL_law_1510 rfl ?_
  refine g_iadd (pc' := 1512) dL_law_1511 rfl ?_
  refine g_sld (pc' := 1513) (by omega) (by omega) dL_law_1512 rfl ?_
  refine g_callV (pc' := 1516) (Y := X_X11_image) (vs := [vI (eSc xs x 1)]) (st := []) (c := 11) hB mv_X11_image mq_L_175 rfl rfl rfl rfl (Nat.le_of_ble_eq_true rfl) ⟨Nat.le_of_ble_eq_true rfl, Nat.le_of_ble_eq_true rfl⟩ hc rfl dL_law_1513 rfl ?_
  rintro r δ' i' l' ⟨v, w1, rfl, hv, rfl, hw1, hb1, hM⟩
  have hM' : CI w.1 1000 X_X12_image (vR (some 99) :: [vI (eSc xs x 1)]) (dw w1) i' l' (fun v' i2 l2 => v' = v ∧ Inv w1 (k + 2) i2 l2) := by rw [← hw1]; exact hM
  refine g_aload_n (pc' := 1517) 1 dL_law_1516 rfl rfl ?_
  refine g_aload_n (pc' := 1518) 3 dL_law_1517 rfl rfl ?_
  refine g_iload_n (pc' := 1519) 0 dL_law_1518 rfl rfl ?_
  refine g_iconst (pc' := 1520) dL_law_1519 rfl ?_
  refine g_iadd (pc' := 1521) dL_law_1520 rfl ?_
  refine g_sld (pc' := 1522) (by omega) (by omega) dL_law_1521 rfl ?_
  refine g_callV (pc' := 1525) (Y := X_X12_image) (vs := [vI (eSc xs x 1)]) (st := [vI v]) (c := 12) hM' mv_X12_image mq_L_178 rfl rfl rfl rfl (Nat.le_of_ble_eq_true rfl) ⟨Nat.le_of_ble_eq_true rfl, Nat.le_of_ble_eq_true rfl⟩ hc rfl dL_law_1522 rfl ?_
  rintro r δ2 i2 l2 ⟨rfl, v', rfl, hv', rfl, hI2⟩
  refine g_icmp_eq (tgt := 1589) (pc' := 1528) hv hv' Iff.rfl dL_law_1525 rfl rfl (fun _ => kk w1 i2 l2 hw1 hb1 hI2) (fun q => absurd rfl q)
theorem lc_40 {w : Wd} {k c0 s0 L : Nat} {i : IM} {l : LM} {xs : Nat → Int32} {x : Int} (hx : 0 ≤ x ∧ x + 6 ≤ (L : Int)) (hL : L ≤ 3072) (hB : BoE w k 1000 0 0 X_X11_back X_X12_back [vI (eSc xs x 1)] i l) (hc : c0 + 0 ≤ room_1.cells ∧ s0 + 0 ≤ room_1.slots) (kk : ∀ (w1 : Wd) (i2 : IM) (l2 : LM), w1.1 = w.1 → BkA w1 → Inv w1 (k + 2) i2 l2 → G w.1 room_1 X_L_law (QL w.1 L xs) (c0 + 0) (s0 + 0) (dw w1) i2 l2 1589 [(3, vI x), (2, vR (some 99)), (1, vR (some 6)), (0, vR (some 0))] []) : G w.1 room_1 X_L_law (QL w.1 L xs) c0 s0 (dw w) i l 1530 [(3, vI x), (2, vR (some 99)), (1, vR (some 6)), (0, vR (some 0))] [] := by
  refine g_aload_n (pc' := 1531) 2 dL_law_1530 rfl rfl ?_
  refine g_aload_n (pc' := 1532) 3 dL_law_1531 rfl rfl ?_
  refine g_iload_n (pc' := 1533) 0 dL_law_1532 rfl rfl ?_
  refine g_iconst (pc' := 1534) dL_law_1533 rfl ?_
  refine g_iadd (pc' := 1535) dL_law_1534 rfl ?_
  refine g_sld (pc' := 1536) (by omega) (by omega) dL_law_1535 rfl ?_
  refine g_callV (pc' := 1539) (Y := X_X11_back) (vs := [vI (eSc xs x 1)]) (st := []) (c := 11) hB mv_X11_back mq_L_179 rfl rfl rfl rfl (Nat.le_of_ble_eq_true rfl) ⟨Nat.le_of_ble_eq_true rfl, Nat.le_of_ble_eq_true rfl⟩ hc rfl dL_law_1536 rfl ?_
  rintro r δ' i' l' ⟨v, w1, rfl, hv, rfl, hw1, hb1, hM⟩
  have hM' : CI w.1 1000 X_X12_back (vR (some 99) :: [vI (eSc xs x 1)]) (dw w1) i' l' (fun v' i2 l2 => v' = v ∧ Inv w1 (k + 2) i2 l2) := by rw [← hw1]; exact hM
  refine g_aload_n (pc' := 1540) 1 dL_law_1539 rfl rfl ?_
  refine g_aload_n (pc' := 1541) 3 dL_law_1540 rfl rfl ?_
  refine g_iload_n (pc' := 1542) 0 dL_law_1541 rfl rfl ?_
  refine g_iconst (pc' := 1543) dL_law_1542 rfl ?_
  refine g_iadd (pc' := 1544) dL_law_1543 rfl ?_
  refine g_sld (pc' := 1545) (by omega) (by omega) dL_law_1544 rfl ?_
  refine g_callV (pc' := 1548) (Y := X_X12_back) (vs := [vI (eSc xs x 1)]) (st := [vI v]) (c := 12) hM' mv_X12_back mq_L_182 rfl rfl rfl rfl (Nat.le_of_ble_eq_true rfl) ⟨Nat.le_of_ble_eq_true rfl, Nat.le_of_ble_eq_true rfl⟩ hc rfl dL_law_1545 rfl ?_
  rintro r δ2 i2 l2 ⟨rfl, v', rfl, hv', rfl, hI2⟩
  refine g_icmp_eq (tgt := 1589) (pc' := 1551) hv hv' Iff.rfl dL_law_1548 rfl rfl (fun _ => kk w1 i2 l2 hw1 hb1 hI2) (fun q => absurd rfl q)
theorem lc_41 {w : Wd} {k c0 s0 L : Nat} {i : IM} {l : LM} {xs : Nat → Int32} {x : Int} (hx : 0 ≤ x ∧ x + 6 ≤ (L : Int)) (hL : L ≤ 3072) (hB : BoE w k 1000 0 0 X_X11_count X_X12_count [vI (eSc xs x 1)] i l) (hc : c0 + 0 ≤ room_1.cells ∧ s0 + 0 ≤ room_1.slots) (kk : ∀ (w1 : Wd) (i2 : IM) (l2 : LM), w1.1 = w.1 → BkA w1 → Inv w1 (k + 2) i2 l2 → G w.1 room_1 X_L_law (QL w.1 L xs) (c0 + 0) (s0 + 0) (dw w1) i2 l2 1589 [(3, vI x), (2, vR (some 99)), (1, vR (some 6)), (0, vR (some 0))] []) : G w.1 room_1 X_L_law (QL w.1 L xs) c0 s0 (dw w) i l 1553 [(3, vI x), (2, vR (some 99)), (1, vR (some 6)), (0, vR (some 0))] [] := by
  refine g_aload_n (pc' := 1554) 2 dL_law_1553 rfl rfl ?_
  refine g_aload_n (pc' := 1555) 3 dL_law_1554 rfl rfl ?_
  refine g_iload_n (pc' := 1556) 0 dL_law_1555 rfl rfl ?_
  refine g_iconst (pc' := 1557) dL_law_1556 rfl ?_
  refine g_iadd (pc' := 1558) dL_law_1557 rfl ?_
  refine g_sld (pc' := 1559) (by omega) (by omega) dL_law_1558 rfl ?_
  refine g_callV (pc' := 1562) (Y := X_X11_count) (vs := [vI (eSc xs x 1)]) (st := []) (c := 11) hB mv_X11_count mq_L_183 rfl rfl rfl rfl (Nat.le_of_ble_eq_true rfl) ⟨Nat.le_of_ble_eq_true rfl, Nat.le_of_ble_eq_true rfl⟩ hc rfl dL_law_1559 rfl ?_
  rintro r δ' i' l' ⟨v, w1, rfl, hv, rfl, hw1, hb1, hM⟩
  have hM' : CI w.1 1000 X_X12_count (vR (some 99) :: [vI (eSc xs x 1)]) (dw w1) i' l' (fun v' i2 l2 => v' = v ∧ Inv w1 (k + 2) i2 l2) := by rw [← hw1]; exact hM
  refine g_aload_n (pc' := 1563) 1 dL_law_1562 rfl rfl ?_
  refine g_aload_n (pc' := 1564) 3 dL_law_1563 rfl rfl ?_
  refine g_iload_n (pc' := 1565) 0 dL_law_1564 rfl rfl ?_
  refine g_iconst (pc' := 1566) dL_law_1565 rfl ?_
  refine g_iadd (pc' := 1567) dL_law_1566 rfl ?_
  refine g_sld (pc' := 1568) (by omega) (by omega) dL_law_1567 rfl ?_
  refine g_callV (pc' := 1571) (Y := X_X12_count) (vs := [vI (eSc xs x 1)]) (st := [vI v]) (c := 12) hM' mv_X12_count mq_L_186 rfl rfl rfl rfl (Nat.le_of_ble_eq_true rfl) ⟨Nat.le_of_ble_eq_true rfl, Nat.le_of_ble_eq_true rfl⟩ hc rfl dL_law_1568 rfl ?_
  rintro r δ2 i2 l2 ⟨rfl, v', rfl, hv', rfl, hI2⟩
  refine g_icmp_eq (tgt := 1589) (pc' := 1574) hv hv' Iff.rfl dL_law_1571 rfl rfl (fun _ => kk w1 i2 l2 hw1 hb1 hI2) (fun q => absurd rfl q)
theorem lc_42 {w : Wd} {k c0 s0 L : Nat} {i : IM} {l : LM} {xs : Nat → Int32} {x : Int} (hx : 0 ≤ x ∧ x + 6 ≤ (L : Int)) (hL : L ≤ 3072) (hB : BoE w k 1000 0 0 X_X11_status X_X12_status [] i l) (hc : c0 + 0 ≤ room_1.cells ∧ s0 + 0 ≤ room_1.slots) (kk : ∀ (w1 : Wd) (i2 : IM) (l2 : LM), w1.1 = w.1 → BkA w1 → Inv w1 (k + 2) i2 l2 → G w.1 room_1 X_L_law (QL w.1 L xs) (c0 + 0) (s0 + 0) (dw w1) i2 l2 1589 [(3, vI x), (2, vR (some 99)), (1, vR (some 6)), (0, vR (some 0))] []) : G w.1 room_1 X_L_law (QL w.1 L xs) c0 s0 (dw w) i l 1576 [(3, vI x), (2, vR (some 99)), (1, vR (some 6)), (0, vR (some 0))] [] := by
  refine g_aload_n (pc' := 1577) 2 dL_law_1576 rfl rfl ?_
  refine g_callV (pc' := 1580) (Y := X_X11_status) (vs := []) (st := []) (c := 11) hB mv_X11_status mq_L_187 rfl rfl rfl rfl (Nat.le_of_ble_eq_true rfl) ⟨Nat.le_of_ble_eq_true rfl, Nat.le_of_ble_eq_true rfl⟩ hc rfl dL_law_1577 rfl ?_
  rintro r δ' i' l' ⟨v, w1, rfl, hv, rfl, hw1, hb1, hM⟩
  have hM' : CI w.1 1000 X_X12_status (vR (some 99) :: []) (dw w1) i' l' (fun v' i2 l2 => v' = v ∧ Inv w1 (k + 2) i2 l2) := by rw [← hw1]; exact hM
  refine g_aload_n (pc' := 1581) 1 dL_law_1580 rfl rfl ?_
  refine g_callV (pc' := 1584) (Y := X_X12_status) (vs := []) (st := [vI v]) (c := 12) hM' mv_X12_status mq_L_190 rfl rfl rfl rfl (Nat.le_of_ble_eq_true rfl) ⟨Nat.le_of_ble_eq_true rfl, Nat.le_of_ble_eq_true rfl⟩ hc rfl dL_law_1581 rfl ?_
  rintro r δ2 i2 l2 ⟨rfl, v', rfl, hv', rfl, hI2⟩
  refine g_icmp_eq (tgt := 1589) (pc' := 1587) hv hv' Iff.rfl dL_law_1584 rfl rfl (fun _ => kk w1 i2 l2 hw1 hb1 hI2) (fun q => absurd rfl q)
