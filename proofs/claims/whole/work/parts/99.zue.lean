/-! the constructor of the model -/
set_option maxRecDepth 20000 in
theorem ct_99 (E : GE) : Cn E 1 25 24467 X_X12_init [vR (some 99)] zD203 zI35 zL (fun r δ' i' l' => r = none ∧ δ' = zD253 ∧ i' = zI141 ∧ l' = zL) := by
  refine Cn_of (by decide +kernel) (Nat.le_of_ble_eq_true rfl) ?_
  refine g_aload_n (pc' := 1) 0 dX12_init_0 rfl rfl ?_
  refine g_objInit (pc' := 4) mq_X12_14 objI objC (by decide) (Nat.le_of_ble_eq_true rfl) dX12_init_1 rfl ?_
  refine g_aload_n (pc' := 5) 0 dX12_init_4 rfl rfl ?_
  refine g_bipush (pc' := 7) dX12_init_5 rfl rfl ?_
  refine g_newaN (pc' := 9) (δ2 := zD204) 100 (c1 := 1) (s1 := 7) (kd := 0) (n := 7) rfl (by decide) rfl aq_int rfl (by decide) dX12_init_7 rfl rfl rfl (Nat.le_of_ble_eq_true rfl) (Nat.le_of_ble_eq_true rfl) (fun _ => rfl) rfl ?_
  refine g_putRN (pc' := 12) (δ2 := zD205) 101 rfl fq_X12_7 rfl rfl rfl rfl dX12_init_9 rfl rfl ?_
  refine g_aload_n (pc' := 13) 0 dX12_init_12 rfl rfl ?_
  refine g_sipush (pc' := 16) dX12_init_13 rfl rfl ?_
  refine g_newaN (pc' := 18) (δ2 := zD206) 101 (c1 := 2) (s1 := 5127) (kd := 0) (n := 5120) rfl (by decide) rfl aq_int rfl (by decide) dX12_init_16 rfl rfl rfl (Nat.le_of_ble_eq_true rfl) (Nat.le_of_ble_eq_true rfl) (fun _ => rfl) rfl ?_
  refine g_putRN (pc' := 21) (δ2 := zD207) 102 rfl fq_X12_20 rfl rfl rfl rfl dX12_init_18 rfl rfl ?_
  refine g_aload_n (pc' := 22) 0 dX12_init_21 rfl rfl ?_
  refine g_sipush (pc' := 25) dX12_init_22 rfl rfl ?_
  refine g_newaN (pc' := 27) (δ2 := zD208) 102 (c1 := 3) (s1 := 15367) (kd := 0) (n := 10240) rfl (by decide) rfl aq_int rfl (by decide) dX12_init_25 rfl rfl rfl (Nat.le_of_ble_eq_true rfl) (Nat.le_of_ble_eq_true rfl) (fun _ => rfl) rfl ?_
  refine g_putRN (pc' := 30) (δ2 := zD209) 103 rfl fq_X12_23 rfl rfl rfl rfl dX12_init_27 rfl rfl ?_
  refine g_aload_n (pc' := 31) 0 dX12_init_30 rfl rfl ?_
  refine g_iconst (pc' := 32) dX12_init_31 rfl ?_
  refine g_newaN (pc' := 34) (δ2 := zD210) 103 (c1 := 4) (s1 := 15369) (kd := 2) (n := 2) rfl (by decide) rfl aq_boolean rfl (by decide) dX12_init_32 rfl rfl rfl (Nat.le_of_ble_eq_true rfl) (Nat.le_of_ble_eq_true rfl) (fun _ => rfl) rfl ?_
  refine g_putRN (pc' := 37) (δ2 := zD211) 104 rfl fq_X12_26 rfl rfl rfl rfl dX12_init_34 rfl rfl ?_
  refine g_aload_n (pc' := 38) 0 dX12_init_37 rfl rfl ?_
  refine g_bipush (pc' := 40) dX12_init_38 rfl rfl ?_
  refine g_newaN (pc' := 42) (δ2 := zD212) 104 (c1 := 5) (s1 := 15462) (kd := 3) (n := 93) rfl (by decide) rfl aq_byte rfl (by decide) dX12_init_40 rfl rfl rfl (Nat.le_of_ble_eq_true rfl) (Nat.le_of_ble_eq_true rfl) (fun _ => rfl) rfl ?_
  refine g_dup (pc' := 43) dX12_init_42 rfl rfl ?_
  refine g_iconst (pc' := 44) dX12_init_43 rfl ?_
  refine g_bipush (pc' := 46) dX12_init_44 rfl rfl ?_
  refine g_bast (pc' := 47) (n := 93) (N := 93) rfl rfl (by decide) (by decide) dX12_init_46 rfl ?_
  refine g_toI (i2 := zI36) rfl ?_
  refine g_dup (pc' := 48) dX12_init_47 rfl rfl ?_
  refine g_iconst (pc' := 49) dX12_init_48 rfl ?_
  refine g_bipush (pc' := 51) dX12_init_49 rfl rfl ?_
  refine g_bast (pc' := 52) (n := 93) (N := 93) rfl rfl (by decide) (by decide) dX12_init_51 rfl ?_
  refine g_toI (i2 := zI37) rfl ?_
  refine g_dup (pc' := 53) dX12_init_52 rfl rfl ?_
  refine g_iconst (pc' := 54) dX12_init_53 rfl ?_
  refine g_bipush (pc' := 56) dX12_init_54 rfl rfl ?_
  refine g_bast (pc' := 57) (n := 93) (N := 93) rfl rfl (by decide) (by decide) dX12_init_56 rfl ?_
  refine g_toI (i2 := zI38) rfl ?_
  refine g_dup (pc' := 58) dX12_init_57 rfl rfl ?_
  refine g_iconst (pc' := 59) dX12_init_58 rfl ?_
  refine g_bipush (pc' := 61) dX12_init_59 rfl rfl ?_
  refine g_bast (pc' := 62) (n := 93) (N := 93) rfl rfl (by decide) (by decide) dX12_init_61 rfl ?_
  refine g_toI (i2 := zI39) rfl ?_
  refine g_dup (pc' := 63) dX12_init_62 rfl rfl ?_
  refine g_iconst (pc' := 64) dX12_init_63 rfl ?_
  refine g_bipush (pc' := 66) dX12_init_64 rfl rfl ?_
  refine g_bast (pc' := 67) (n := 93) (N := 93) rfl rfl (by decide) (by decide) dX12_init_66 rfl ?_
  refine g_toI (i2 := zI40) rfl ?_
  refine g_dup (pc' := 68) dX12_init_67 rfl rfl ?_
  refine g_iconst (pc' := 69) dX12_init_68 rfl ?_
  refine g_bipush (pc' := 71) dX12_init_69 rfl rfl ?_
  refine g_bast (pc' := 72) (n := 93) (N := 93) rfl rfl (by decide) (by decide) dX12_init_71 rfl ?_
  refine g_toI (i2 := zI41) rfl ?_
  refine g_dup (pc' := 73) dX12_init_72 rfl rfl ?_
  refine g_bipush (pc' := 75) dX12_init_73 rfl rfl ?_
  refine g_bipush (pc' := 77) dX12_init_75 rfl rfl ?_
  refine g_bast (pc' := 78) (n := 93) (N := 93) rfl rfl (by decide) (by decide) dX12_init_77 rfl ?_
  refine g_toI (i2 := zI42) rfl ?_
  refine g_dup (pc' := 79) dX12_init_78 rfl rfl ?_
  refine g_bipush (pc' := 81) dX12_init_79 rfl rfl ?_
  refine g_bipush (pc' := 83) dX12_init_81 rfl rfl ?_
  refine g_bast (pc' := 84) (n := 93) (N := 93) rfl rfl (by decide) (by decide) dX12_init_83 rfl ?_
  refine g_toI (i2 := zI43) rfl ?_
  refine g_dup (pc' := 85) dX12_init_84 rfl rfl ?_
  refine g_bipush (pc' := 87) dX12_init_85 rfl rfl ?_
  refine g_bipush (pc' := 89) dX12_init_87 rfl rfl ?_
  refine g_bast (pc' := 90) (n := 93) (N := 93) rfl rfl (by decide) (by decide) dX12_init_89 rfl ?_
  refine g_toI (i2 := zI44) rfl ?_
  refine g_dup (pc' := 91) dX12_init_90 rfl rfl ?_
  refine g_bipush (pc' := 93) dX12_init_91 rfl rfl ?_
  refine g_bipush (pc' := 95) dX12_init_93 rfl rfl ?_
  refine g_bast (pc' := 96) (n := 93) (N := 93) rfl rfl (by decide) (by decide) dX12_init_95 rfl ?_
  refine g_toI (i2 := zI45) rfl ?_
  refine g_dup (pc' := 97) dX12_init_96 rfl rfl ?_
  refine g_bipush (pc' := 99) dX12_init_97 rfl rfl ?_
  refine g_bipush (pc' := 101) dX12_init_99 rfl rfl ?_
  refine g_bast (pc' := 102) (n := 93) (N := 93) rfl rfl (by decide) (by decide) dX12_init_101 rfl ?_
  refine g_toI (i2 := zI46) rfl ?_
  refine g_dup (pc' := 103) dX12_init_102 rfl rfl ?_
  refine g_bipush (pc' := 105) dX12_init_103 rfl rfl ?_
  refine g_bipush (pc' := 107) dX12_init_105 rfl rfl ?_
  refine g_bast (pc' := 108) (n := 93) (N := 93) rfl rfl (by decide) (by decide) dX12_init_107 rfl ?_
  refine g_toI (i2 := zI47) rfl ?_
  refine g_dup (pc' := 109) dX12_init_108 rfl rfl ?_
  refine g_bipush (pc' := 111) dX12_init_109 rfl rfl ?_
  refine g_bipush (pc' := 113) dX12_init_111 rfl rfl ?_
  refine g_bast (pc' := 114) (n := 93) (N := 93) rfl rfl (by decide) (by decide) dX12_init_113 rfl ?_
  refine g_toI (i2 := zI48) rfl ?_
  refine g_dup (pc' := 115) dX12_init_114 rfl rfl ?_
  refine g_bipush (pc' := 117) dX12_init_115 rfl rfl ?_
  refine g_bipush (pc' := 119) dX12_init_117 rfl rfl ?_
  refine g_bast (pc' := 120) (n := 93) (N := 93) rfl rfl (by decide) (by decide) dX12_init_119 rfl ?_
  refine g_toI (i2 := zI49) rfl ?_
  refine g_dup (pc' := 121) dX12_init_120 rfl rfl ?_
  refine g_bipush (pc' := 123) dX12_init_121 rfl rfl ?_
  refine g_bipush (pc' := 125) dX12_init_123 rfl rfl ?_
  refine g_bast (pc' := 126) (n := 93) (N := 93) rfl rfl (by decide) (by decide) dX12_init_125 rfl ?_
  refine g_toI (i2 := zI50) rfl ?_
  refine g_dup (pc' := 127) dX12_init_126 rfl rfl ?_
  refine g_bipush (pc' := 129) dX12_init_127 rfl rfl ?_
  refine g_bipush (pc' := 131) dX12_init_129 rfl rfl ?_
  refine g_bast (pc' := 132) (n := 93) (N := 93) rfl rfl (by decide) (by decide) dX12_init_131 rfl ?_
  refine g_toI (i2 := zI51) rfl ?_
  refine g_dup (pc' := 133) dX12_init_132 rfl rfl ?_
  refine g_bipush (pc' := 135) dX12_init_133 rfl rfl ?_
  refine g_bipush (pc' := 137) dX12_init_135 rfl rfl ?_
  refine g_bast (pc' := 138) (n := 93) (N := 93) rfl rfl (by decide) (by decide) dX12_init_137 rfl ?_
  refine g_toI (i2 := zI52) rfl ?_
  refine g_dup (pc' := 139) dX12_init_138 rfl rfl ?_
  refine g_bipush (pc' := 141) dX12_init_139 rfl rfl ?_
  refine g_bipush (pc' := 143) dX12_init_141 rfl rfl ?_
  refine g_bast (pc' := 144) (n := 93) (N := 93) rfl rfl (by decide) (by decide) dX12_init_143 rfl ?_
  refine g_toI (i2 := zI53) rfl ?_
  refine g_dup (pc' := 145) dX12_init_144 rfl rfl ?_
  refine g_bipush (pc' := 147) dX12_init_145 rfl rfl ?_
  refine g_bipush (pc' := 149) dX12_init_147 rfl rfl ?_
  refine g_bast (pc' := 150) (n := 93) (N := 93) rfl rfl (by decide) (by decide) dX12_init_149 rfl ?_
  refine g_toI (i2 := zI54) rfl ?_
  refine g_dup (pc' := 151) dX12_init_150 rfl rfl ?_
  refine g_bipush (pc' := 153) dX12_init_151 rfl rfl ?_
  refine g_bipush (pc' := 155) dX12_init_153 rfl rfl ?_
  refine g_bast (pc' := 156) (n := 93) (N := 93) rfl rfl (by decide) (by decide) dX12_init_155 rfl ?_
  refine g_toI (i2 := zI55) rfl ?_
  refine g_dup (pc' := 157) dX12_init_156 rfl rfl ?_
  refine g_bipush (pc' := 159) dX12_init_157 rfl rfl ?_
  refine g_bipush (pc' := 161) dX12_init_159 rfl rfl ?_
  refine g_bast (pc' := 162) (n := 93) (N := 93) rfl rfl (by decide) (by decide) dX12_init_161 rfl ?_
  refine g_toI (i2 := zI56) rfl ?_
  refine g_dup (pc' := 163) dX12_init_162 rfl rfl ?_
  refine g_bipush (pc' := 165) dX12_init_163 rfl rfl ?_
  refine g_bipush (pc' := 167) dX12_init_165 rfl rfl ?_
  refine g_bast (pc' := 168) (n := 93) (N := 93) rfl rfl (by decide) (by decide) dX12_init_167 rfl ?_
  refine g_toI (i2 := zI57) rfl ?_
  refine g_dup (pc' := 169) dX12_init_168 rfl rfl ?_
  refine g_bipush (pc' := 171) dX12_init_169 rfl rfl ?_
  refine g_bipush (pc' := 173) dX12_init_171 rfl rfl ?_
  refine g_bast (pc' := 174) (n := 93) (N := 93) rfl rfl (by decide) (by decide) dX12_init_173 rfl ?_
  refine g_toI (i2 := zI58) rfl ?_
  refine g_dup (pc' := 175) dX12_init_174 rfl rfl ?_
  refine g_bipush (pc' := 177) dX12_init_175 rfl rfl ?_
  refine g_bipush (pc' := 179) dX12_init_177 rfl rfl ?_
  refine g_bast (pc' := 180) (n := 93) (N := 93) rfl rfl (by decide) (by decide) dX12_init_179 rfl ?_
  refine g_toI (i2 := zI59) rfl ?_
  refine g_dup (pc' := 181) dX12_init_180 rfl rfl ?_
  refine g_bipush (pc' := 183) dX12_init_181 rfl rfl ?_
  refine g_bipush (pc' := 185) dX12_init_183 rfl rfl ?_
  refine g_bast (pc' := 186) (n := 93) (N := 93) rfl rfl (by decide) (by decide) dX12_init_185 rfl ?_
  refine g_toI (i2 := zI60) rfl ?_
  refine g_dup (pc' := 187) dX12_init_186 rfl rfl ?_
  refine g_bipush (pc' := 189) dX12_init_187 rfl rfl ?_
  refine g_bipush (pc' := 191) dX12_init_189 rfl rfl ?_
  refine g_bast (pc' := 192) (n := 93) (N := 93) rfl rfl (by decide) (by decide) dX12_init_191 rfl ?_
  refine g_toI (i2 := zI61) rfl ?_
  refine g_dup (pc' := 193) dX12_init_192 rfl rfl ?_
  refine g_bipush (pc' := 195) dX12_init_193 rfl rfl ?_
  refine g_bipush (pc' := 197) dX12_init_195 rfl rfl ?_
  refine g_bast (pc' := 198) (n := 93) (N := 93) rfl rfl (by decide) (by decide) dX12_init_197 rfl ?_
  refine g_toI (i2 := zI62) rfl ?_
  refine g_dup (pc' := 199) dX12_init_198 rfl rfl ?_
  refine g_bipush (pc' := 201) dX12_init_199 rfl rfl ?_
  refine g_bipush (pc' := 203) dX12_init_201 rfl rfl ?_
  refine g_bast (pc' := 204) (n := 93) (N := 93) rfl rfl (by decide) (by decide) dX12_init_203 rfl ?_
  refine g_toI (i2 := zI63) rfl ?_
  refine g_dup (pc' := 205) dX12_init_204 rfl rfl ?_
  refine g_bipush (pc' := 207) dX12_init_205 rfl rfl ?_
  refine g_bipush (pc' := 209) dX12_init_207 rfl rfl ?_
  refine g_bast (pc' := 210) (n := 93) (N := 93) rfl rfl (by decide) (by decide) dX12_init_209 rfl ?_
  refine g_toI (i2 := zI64) rfl ?_
  refine g_dup (pc' := 211) dX12_init_210 rfl rfl ?_
  refine g_bipush (pc' := 213) dX12_init_211 rfl rfl ?_
  refine g_bipush (pc' := 215) dX12_init_213 rfl rfl ?_
  refine g_bast (pc' := 216) (n := 93) (N := 93) rfl rfl (by decide) (by decide) dX12_init_215 rfl ?_
  refine g_toI (i2 := zI65) rfl ?_
  refine g_dup (pc' := 217) dX12_init_216 rfl rfl ?_
  refine g_bipush (pc' := 219) dX12_init_217 rfl rfl ?_
  refine g_bipush (pc' := 221) dX12_init_219 rfl rfl ?_
  refine g_bast (pc' := 222) (n := 93) (N := 93) rfl rfl (by decide) (by decide) dX12_init_221 rfl ?_
  refine g_toI (i2 := zI66) rfl ?_
  refine g_dup (pc' := 223) dX12_init_222 rfl rfl ?_
  refine g_bipush (pc' := 225) dX12_init_223 rfl rfl ?_
  refine g_bipush (pc' := 227) dX12_init_225 rfl rfl ?_
  refine g_bast (pc' := 228) (n := 93) (N := 93) rfl rfl (by decide) (by decide) dX12_init_227 rfl ?_
  refine g_toI (i2 := zI67) rfl ?_
  refine g_dup (pc' := 229) dX12_init_228 rfl rfl ?_
  refine g_bipush (pc' := 231) dX12_init_229 rfl rfl ?_
  refine g_bipush (pc' := 233) dX12_init_231 rfl rfl ?_
  refine g_bast (pc' := 234) (n := 93) (N := 93) rfl rfl (by decide) (by decide) dX12_init_233 rfl ?_
  refine g_toI (i2 := zI68) rfl ?_
  refine g_dup (pc' := 235) dX12_init_234 rfl rfl ?_
  refine g_bipush (pc' := 237) dX12_init_235 rfl rfl ?_
  refine g_bipush (pc' := 239) dX12_init_237 rfl rfl ?_
  refine g_bast (pc' := 240) (n := 93) (N := 93) rfl rfl (by decide) (by decide) dX12_init_239 rfl ?_
  refine g_toI (i2 := zI69) rfl ?_
  refine g_dup (pc' := 241) dX12_init_240 rfl rfl ?_
  refine g_bipush (pc' := 243) dX12_init_241 rfl rfl ?_
  refine g_bipush (pc' := 245) dX12_init_243 rfl rfl ?_
  refine g_bast (pc' := 246) (n := 93) (N := 93) rfl rfl (by decide) (by decide) dX12_init_245 rfl ?_
  refine g_toI (i2 := zI70) rfl ?_
  refine g_dup (pc' := 247) dX12_init_246 rfl rfl ?_
  refine g_bipush (pc' := 249) dX12_init_247 rfl rfl ?_
  refine g_bipush (pc' := 251) dX12_init_249 rfl rfl ?_
  refine g_bast (pc' := 252) (n := 93) (N := 93) rfl rfl (by decide) (by decide) dX12_init_251 rfl ?_
  refine g_toI (i2 := zI71) rfl ?_
  refine g_dup (pc' := 253) dX12_init_252 rfl rfl ?_
  refine g_bipush (pc' := 255) dX12_init_253 rfl rfl ?_
  refine g_bipush (pc' := 257) dX12_init_255 rfl rfl ?_
  refine g_bast (pc' := 258) (n := 93) (N := 93) rfl rfl (by decide) (by decide) dX12_init_257 rfl ?_
  refine g_toI (i2 := zI72) rfl ?_
  refine g_dup (pc' := 259) dX12_init_258 rfl rfl ?_
  refine g_bipush (pc' := 261) dX12_init_259 rfl rfl ?_
  refine g_bipush (pc' := 263) dX12_init_261 rfl rfl ?_
  refine g_bast (pc' := 264) (n := 93) (N := 93) rfl rfl (by decide) (by decide) dX12_init_263 rfl ?_
  refine g_toI (i2 := zI73) rfl ?_
  refine g_dup (pc' := 265) dX12_init_264 rfl rfl ?_
  refine g_bipush (pc' := 267) dX12_init_265 rfl rfl ?_
  refine g_bipush (pc' := 269) dX12_init_267 rfl rfl ?_
  refine g_bast (pc' := 270) (n := 93) (N := 93) rfl rfl (by decide) (by decide) dX12_init_269 rfl ?_
  refine g_toI (i2 := zI74) rfl ?_
  refine g_dup (pc' := 271) dX12_init_270 rfl rfl ?_
  refine g_bipush (pc' := 273) dX12_init_271 rfl rfl ?_
  refine g_bipush (pc' := 275) dX12_init_273 rfl rfl ?_
  refine g_bast (pc' := 276) (n := 93) (N := 93) rfl rfl (by decide) (by decide) dX12_init_275 rfl ?_
  refine g_toI (i2 := zI75) rfl ?_
  refine g_dup (pc' := 277) dX12_init_276 rfl rfl ?_
  refine g_bipush (pc' := 279) dX12_init_277 rfl rfl ?_
  refine g_bipush (pc' := 281) dX12_init_279 rfl rfl ?_
  refine g_bast (pc' := 282) (n := 93) (N := 93) rfl rfl (by decide) (by decide) dX12_init_281 rfl ?_
  refine g_toI (i2 := zI76) rfl ?_
  refine g_dup (pc' := 283) dX12_init_282 rfl rfl ?_
  refine g_bipush (pc' := 285) dX12_init_283 rfl rfl ?_
  refine g_bipush (pc' := 287) dX12_init_285 rfl rfl ?_
  refine g_bast (pc' := 288) (n := 93) (N := 93) rfl rfl (by decide) (by decide) dX12_init_287 rfl ?_
  refine g_toI (i2 := zI77) rfl ?_
  refine g_dup (pc' := 289) dX12_init_288 rfl rfl ?_
  refine g_bipush (pc' := 291) dX12_init_289 rfl rfl ?_
  refine g_bipush (pc' := 293) dX12_init_291 rfl rfl ?_
  refine g_bast (pc' := 294) (n := 93) (N := 93) rfl rfl (by decide) (by decide) dX12_init_293 rfl ?_
  refine g_toI (i2 := zI78) rfl ?_
  refine g_dup (pc' := 295) dX12_init_294 rfl rfl ?_
  refine g_bipush (pc' := 297) dX12_init_295 rfl rfl ?_
  refine g_bipush (pc' := 299) dX12_init_297 rfl rfl ?_
  refine g_bast (pc' := 300) (n := 93) (N := 93) rfl rfl (by decide) (by decide) dX12_init_299 rfl ?_
  refine g_toI (i2 := zI79) rfl ?_
  refine g_dup (pc' := 301) dX12_init_300 rfl rfl ?_
  refine g_bipush (pc' := 303) dX12_init_301 rfl rfl ?_
  refine g_bipush (pc' := 305) dX12_init_303 rfl rfl ?_
  refine g_bast (pc' := 306) (n := 93) (N := 93) rfl rfl (by decide) (by decide) dX12_init_305 rfl ?_
  refine g_toI (i2 := zI80) rfl ?_
  refine g_dup (pc' := 307) dX12_init_306 rfl rfl ?_
  refine g_bipush (pc' := 309) dX12_init_307 rfl rfl ?_
  refine g_bipush (pc' := 311) dX12_init_309 rfl rfl ?_
  refine g_bast (pc' := 312) (n := 93) (N := 93) rfl rfl (by decide) (by decide) dX12_init_311 rfl ?_
  refine g_toI (i2 := zI81) rfl ?_
  refine g_dup (pc' := 313) dX12_init_312 rfl rfl ?_
  refine g_bipush (pc' := 315) dX12_init_313 rfl rfl ?_
  refine g_bipush (pc' := 317) dX12_init_315 rfl rfl ?_
  refine g_bast (pc' := 318) (n := 93) (N := 93) rfl rfl (by decide) (by decide) dX12_init_317 rfl ?_
  refine g_toI (i2 := zI82) rfl ?_
  refine g_dup (pc' := 319) dX12_init_318 rfl rfl ?_
  refine g_bipush (pc' := 321) dX12_init_319 rfl rfl ?_
  refine g_bipush (pc' := 323) dX12_init_321 rfl rfl ?_
  refine g_bast (pc' := 324) (n := 93) (N := 93) rfl rfl (by decide) (by decide) dX12_init_323 rfl ?_
  refine g_toI (i2 := zI83) rfl ?_
  refine g_dup (pc' := 325) dX12_init_324 rfl rfl ?_
  refine g_bipush (pc' := 327) dX12_init_325 rfl rfl ?_
  refine g_bipush (pc' := 329) dX12_init_327 rfl rfl ?_
  refine g_bast (pc' := 330) (n := 93) (N := 93) rfl rfl (by decide) (by decide) dX12_init_329 rfl ?_
  refine g_toI (i2 := zI84) rfl ?_
  refine g_dup (pc' := 331) dX12_init_330 rfl rfl ?_
  refine g_bipush (pc' := 333) dX12_init_331 rfl rfl ?_
  refine g_bipush (pc' := 335) dX12_init_333 rfl rfl ?_
  refine g_bast (pc' := 336) (n := 93) (N := 93) rfl rfl (by decide) (by decide) dX12_init_335 rfl ?_
  refine g_toI (i2 := zI85) rfl ?_
  refine g_dup (pc' := 337) dX12_init_336 rfl rfl ?_
  refine g_bipush (pc' := 339) dX12_init_337 rfl rfl ?_
  refine g_bipush (pc' := 341) dX12_init_339 rfl rfl ?_
  refine g_bast (pc' := 342) (n := 93) (N := 93) rfl rfl (by decide) (by decide) dX12_init_341 rfl ?_
  refine g_toI (i2 := zI86) rfl ?_
  refine g_dup (pc' := 343) dX12_init_342 rfl rfl ?_
  refine g_bipush (pc' := 345) dX12_init_343 rfl rfl ?_
  refine g_bipush (pc' := 347) dX12_init_345 rfl rfl ?_
  refine g_bast (pc' := 348) (n := 93) (N := 93) rfl rfl (by decide) (by decide) dX12_init_347 rfl ?_
  refine g_toI (i2 := zI87) rfl ?_
  refine g_dup (pc' := 349) dX12_init_348 rfl rfl ?_
  refine g_bipush (pc' := 351) dX12_init_349 rfl rfl ?_
  refine g_bipush (pc' := 353) dX12_init_351 rfl rfl ?_
  refine g_bast (pc' := 354) (n := 93) (N := 93) rfl rfl (by decide) (by decide) dX12_init_353 rfl ?_
  refine g_toI (i2 := zI88) rfl ?_
  refine g_dup (pc' := 355) dX12_init_354 rfl rfl ?_
  refine g_bipush (pc' := 357) dX12_init_355 rfl rfl ?_
  refine g_bipush (pc' := 359) dX12_init_357 rfl rfl ?_
  refine g_bast (pc' := 360) (n := 93) (N := 93) rfl rfl (by decide) (by decide) dX12_init_359 rfl ?_
  refine g_toI (i2 := zI89) rfl ?_
  refine g_dup (pc' := 361) dX12_init_360 rfl rfl ?_
  refine g_bipush (pc' := 363) dX12_init_361 rfl rfl ?_
  refine g_bipush (pc' := 365) dX12_init_363 rfl rfl ?_
  refine g_bast (pc' := 366) (n := 93) (N := 93) rfl rfl (by decide) (by decide) dX12_init_365 rfl ?_
  refine g_toI (i2 := zI90) rfl ?_
  refine g_dup (pc' := 367) dX12_init_366 rfl rfl ?_
  refine g_bipush (pc' := 369) dX12_init_367 rfl rfl ?_
  refine g_bipush (pc' := 371) dX12_init_369 rfl rfl ?_
  refine g_bast (pc' := 372) (n := 93) (N := 93) rfl rfl (by decide) (by decide) dX12_init_371 rfl ?_
  refine g_toI (i2 := zI91) rfl ?_
  refine g_dup (pc' := 373) dX12_init_372 rfl rfl ?_
  refine g_bipush (pc' := 375) dX12_init_373 rfl rfl ?_
  refine g_bipush (pc' := 377) dX12_init_375 rfl rfl ?_
  refine g_bast (pc' := 378) (n := 93) (N := 93) rfl rfl (by decide) (by decide) dX12_init_377 rfl ?_
  refine g_toI (i2 := zI92) rfl ?_
  refine g_dup (pc' := 379) dX12_init_378 rfl rfl ?_
  refine g_bipush (pc' := 381) dX12_init_379 rfl rfl ?_
  refine g_bipush (pc' := 383) dX12_init_381 rfl rfl ?_
  refine g_bast (pc' := 384) (n := 93) (N := 93) rfl rfl (by decide) (by decide) dX12_init_383 rfl ?_
  refine g_toI (i2 := zI93) rfl ?_
  refine g_dup (pc' := 385) dX12_init_384 rfl rfl ?_
  refine g_bipush (pc' := 387) dX12_init_385 rfl rfl ?_
  refine g_bipush (pc' := 389) dX12_init_387 rfl rfl ?_
  refine g_bast (pc' := 390) (n := 93) (N := 93) rfl rfl (by decide) (by decide) dX12_init_389 rfl ?_
  refine g_toI (i2 := zI94) rfl ?_
  refine g_dup (pc' := 391) dX12_init_390 rfl rfl ?_
  refine g_bipush (pc' := 393) dX12_init_391 rfl rfl ?_
  refine g_bipush (pc' := 395) dX12_init_393 rfl rfl ?_
  refine g_bast (pc' := 396) (n := 93) (N := 93) rfl rfl (by decide) (by decide) dX12_init_395 rfl ?_
  refine g_toI (i2 := zI95) rfl ?_
  refine g_dup (pc' := 397) dX12_init_396 rfl rfl ?_
  refine g_bipush (pc' := 399) dX12_init_397 rfl rfl ?_
  refine g_bipush (pc' := 401) dX12_init_399 rfl rfl ?_
  refine g_bast (pc' := 402) (n := 93) (N := 93) rfl rfl (by decide) (by decide) dX12_init_401 rfl ?_
  refine g_toI (i2 := zI96) rfl ?_
  refine g_dup (pc' := 403) dX12_init_402 rfl rfl ?_
  refine g_bipush (pc' := 405) dX12_init_403 rfl rfl ?_
  refine g_bipush (pc' := 407) dX12_init_405 rfl rfl ?_
  refine g_bast (pc' := 408) (n := 93) (N := 93) rfl rfl (by decide) (by decide) dX12_init_407 rfl ?_
  refine g_toI (i2 := zI97) rfl ?_
  refine g_dup (pc' := 409) dX12_init_408 rfl rfl ?_
  refine g_bipush (pc' := 411) dX12_init_409 rfl rfl ?_
  refine g_bipush (pc' := 413) dX12_init_411 rfl rfl ?_
  refine g_bast (pc' := 414) (n := 93) (N := 93) rfl rfl (by decide) (by decide) dX12_init_413 rfl ?_
  refine g_toI (i2 := zI98) rfl ?_
  refine g_dup (pc' := 415) dX12_init_414 rfl rfl ?_
  refine g_bipush (pc' := 417) dX12_init_415 rfl rfl ?_
  refine g_bipush (pc' := 419) dX12_init_417 rfl rfl ?_
  refine g_bast (pc' := 420) (n := 93) (N := 93) rfl rfl (by decide) (by decide) dX12_init_419 rfl ?_
  refine g_toI (i2 := zI99) rfl ?_
  refine g_dup (pc' := 421) dX12_init_420 rfl rfl ?_
  refine g_bipush (pc' := 423) dX12_init_421 rfl rfl ?_
  refine g_bipush (pc' := 425) dX12_init_423 rfl rfl ?_
  refine g_bast (pc' := 426) (n := 93) (N := 93) rfl rfl (by decide) (by decide) dX12_init_425 rfl ?_
  refine g_toI (i2 := zI100) rfl ?_
  refine g_dup (pc' := 427) dX12_init_426 rfl rfl ?_
  refine g_bipush (pc' := 429) dX12_init_427 rfl rfl ?_
  refine g_bipush (pc' := 431) dX12_init_429 rfl rfl ?_
  refine g_bast (pc' := 432) (n := 93) (N := 93) rfl rfl (by decide) (by decide) dX12_init_431 rfl ?_
  refine g_toI (i2 := zI101) rfl ?_
  refine g_dup (pc' := 433) dX12_init_432 rfl rfl ?_
  refine g_bipush (pc' := 435) dX12_init_433 rfl rfl ?_
  refine g_bipush (pc' := 437) dX12_init_435 rfl rfl ?_
  refine g_bast (pc' := 438) (n := 93) (N := 93) rfl rfl (by decide) (by decide) dX12_init_437 rfl ?_
  refine g_toI (i2 := zI102) rfl ?_
  refine g_dup (pc' := 439) dX12_init_438 rfl rfl ?_
  refine g_bipush (pc' := 441) dX12_init_439 rfl rfl ?_
  refine g_bipush (pc' := 443) dX12_init_441 rfl rfl ?_
  refine g_bast (pc' := 444) (n := 93) (N := 93) rfl rfl (by decide) (by decide) dX12_init_443 rfl ?_
  refine g_toI (i2 := zI103) rfl ?_
  refine g_dup (pc' := 445) dX12_init_444 rfl rfl ?_
  refine g_bipush (pc' := 447) dX12_init_445 rfl rfl ?_
  refine g_bipush (pc' := 449) dX12_init_447 rfl rfl ?_
  refine g_bast (pc' := 450) (n := 93) (N := 93) rfl rfl (by decide) (by decide) dX12_init_449 rfl ?_
  refine g_toI (i2 := zI104) rfl ?_
  refine g_dup (pc' := 451) dX12_init_450 rfl rfl ?_
  refine g_bipush (pc' := 453) dX12_init_451 rfl rfl ?_
  refine g_bipush (pc' := 455) dX12_init_453 rfl rfl ?_
  refine g_bast (pc' := 456) (n := 93) (N := 93) rfl rfl (by decide) (by decide) dX12_init_455 rfl ?_
  refine g_toI (i2 := zI105) rfl ?_
  refine g_dup (pc' := 457) dX12_init_456 rfl rfl ?_
  refine g_bipush (pc' := 459) dX12_init_457 rfl rfl ?_
  refine g_bipush (pc' := 461) dX12_init_459 rfl rfl ?_
  refine g_bast (pc' := 462) (n := 93) (N := 93) rfl rfl (by decide) (by decide) dX12_init_461 rfl ?_
  refine g_toI (i2 := zI106) rfl ?_
  refine g_dup (pc' := 463) dX12_init_462 rfl rfl ?_
  refine g_bipush (pc' := 465) dX12_init_463 rfl rfl ?_
  refine g_bipush (pc' := 467) dX12_init_465 rfl rfl ?_
  refine g_bast (pc' := 468) (n := 93) (N := 93) rfl rfl (by decide) (by decide) dX12_init_467 rfl ?_
  refine g_toI (i2 := zI107) rfl ?_
  refine g_dup (pc' := 469) dX12_init_468 rfl rfl ?_
  refine g_bipush (pc' := 471) dX12_init_469 rfl rfl ?_
  refine g_bipush (pc' := 473) dX12_init_471 rfl rfl ?_
  refine g_bast (pc' := 474) (n := 93) (N := 93) rfl rfl (by decide) (by decide) dX12_init_473 rfl ?_
  refine g_toI (i2 := zI108) rfl ?_
  refine g_dup (pc' := 475) dX12_init_474 rfl rfl ?_
  refine g_bipush (pc' := 477) dX12_init_475 rfl rfl ?_
  refine g_bipush (pc' := 479) dX12_init_477 rfl rfl ?_
  refine g_bast (pc' := 480) (n := 93) (N := 93) rfl rfl (by decide) (by decide) dX12_init_479 rfl ?_
  refine g_toI (i2 := zI109) rfl ?_
  refine g_dup (pc' := 481) dX12_init_480 rfl rfl ?_
  refine g_bipush (pc' := 483) dX12_init_481 rfl rfl ?_
  refine g_bipush (pc' := 485) dX12_init_483 rfl rfl ?_
  refine g_bast (pc' := 486) (n := 93) (N := 93) rfl rfl (by decide) (by decide) dX12_init_485 rfl ?_
  refine g_toI (i2 := zI110) rfl ?_
  refine g_dup (pc' := 487) dX12_init_486 rfl rfl ?_
  refine g_bipush (pc' := 489) dX12_init_487 rfl rfl ?_
  refine g_bipush (pc' := 491) dX12_init_489 rfl rfl ?_
  refine g_bast (pc' := 492) (n := 93) (N := 93) rfl rfl (by decide) (by decide) dX12_init_491 rfl ?_
  refine g_toI (i2 := zI111) rfl ?_
  refine g_dup (pc' := 493) dX12_init_492 rfl rfl ?_
  refine g_bipush (pc' := 495) dX12_init_493 rfl rfl ?_
  refine g_bipush (pc' := 497) dX12_init_495 rfl rfl ?_
  refine g_bast (pc' := 498) (n := 93) (N := 93) rfl rfl (by decide) (by decide) dX12_init_497 rfl ?_
  refine g_toI (i2 := zI112) rfl ?_
  refine g_dup (pc' := 499) dX12_init_498 rfl rfl ?_
  refine g_bipush (pc' := 501) dX12_init_499 rfl rfl ?_
  refine g_bipush (pc' := 503) dX12_init_501 rfl rfl ?_
  refine g_bast (pc' := 504) (n := 93) (N := 93) rfl rfl (by decide) (by decide) dX12_init_503 rfl ?_
  refine g_toI (i2 := zI113) rfl ?_
  refine g_dup (pc' := 505) dX12_init_504 rfl rfl ?_
  refine g_bipush (pc' := 507) dX12_init_505 rfl rfl ?_
  refine g_bipush (pc' := 509) dX12_init_507 rfl rfl ?_
  refine g_bast (pc' := 510) (n := 93) (N := 93) rfl rfl (by decide) (by decide) dX12_init_509 rfl ?_
  refine g_toI (i2 := zI114) rfl ?_
  refine g_dup (pc' := 511) dX12_init_510 rfl rfl ?_
  refine g_bipush (pc' := 513) dX12_init_511 rfl rfl ?_
  refine g_bipush (pc' := 515) dX12_init_513 rfl rfl ?_
  refine g_bast (pc' := 516) (n := 93) (N := 93) rfl rfl (by decide) (by decide) dX12_init_515 rfl ?_
  refine g_toI (i2 := zI115) rfl ?_
  refine g_dup (pc' := 517) dX12_init_516 rfl rfl ?_
  refine g_bipush (pc' := 519) dX12_init_517 rfl rfl ?_
  refine g_bipush (pc' := 521) dX12_init_519 rfl rfl ?_
  refine g_bast (pc' := 522) (n := 93) (N := 93) rfl rfl (by decide) (by decide) dX12_init_521 rfl ?_
  refine g_toI (i2 := zI116) rfl ?_
  refine g_dup (pc' := 523) dX12_init_522 rfl rfl ?_
  refine g_bipush (pc' := 525) dX12_init_523 rfl rfl ?_
  refine g_bipush (pc' := 527) dX12_init_525 rfl rfl ?_
  refine g_bast (pc' := 528) (n := 93) (N := 93) rfl rfl (by decide) (by decide) dX12_init_527 rfl ?_
  refine g_toI (i2 := zI117) rfl ?_
  refine g_dup (pc' := 529) dX12_init_528 rfl rfl ?_
  refine g_bipush (pc' := 531) dX12_init_529 rfl rfl ?_
  refine g_bipush (pc' := 533) dX12_init_531 rfl rfl ?_
  refine g_bast (pc' := 534) (n := 93) (N := 93) rfl rfl (by decide) (by decide) dX12_init_533 rfl ?_
  refine g_toI (i2 := zI118) rfl ?_
  refine g_dup (pc' := 535) dX12_init_534 rfl rfl ?_
  refine g_bipush (pc' := 537) dX12_init_535 rfl rfl ?_
  refine g_bipush (pc' := 539) dX12_init_537 rfl rfl ?_
  refine g_bast (pc' := 540) (n := 93) (N := 93) rfl rfl (by decide) (by decide) dX12_init_539 rfl ?_
  refine g_toI (i2 := zI119) rfl ?_
  refine g_dup (pc' := 541) dX12_init_540 rfl rfl ?_
  refine g_bipush (pc' := 543) dX12_init_541 rfl rfl ?_
  refine g_bipush (pc' := 545) dX12_init_543 rfl rfl ?_
  refine g_bast (pc' := 546) (n := 93) (N := 93) rfl rfl (by decide) (by decide) dX12_init_545 rfl ?_
  refine g_toI (i2 := zI120) rfl ?_
  refine g_dup (pc' := 547) dX12_init_546 rfl rfl ?_
  refine g_bipush (pc' := 549) dX12_init_547 rfl rfl ?_
  refine g_bipush (pc' := 551) dX12_init_549 rfl rfl ?_
  refine g_bast (pc' := 552) (n := 93) (N := 93) rfl rfl (by decide) (by decide) dX12_init_551 rfl ?_
  refine g_toI (i2 := zI121) rfl ?_
  refine g_dup (pc' := 553) dX12_init_552 rfl rfl ?_
  refine g_bipush (pc' := 555) dX12_init_553 rfl rfl ?_
  refine g_bipush (pc' := 557) dX12_init_555 rfl rfl ?_
  refine g_bast (pc' := 558) (n := 93) (N := 93) rfl rfl (by decide) (by decide) dX12_init_557 rfl ?_
  refine g_toI (i2 := zI122) rfl ?_
  refine g_dup (pc' := 559) dX12_init_558 rfl rfl ?_
  refine g_bipush (pc' := 561) dX12_init_559 rfl rfl ?_
  refine g_bipush (pc' := 563) dX12_init_561 rfl rfl ?_
  refine g_bast (pc' := 564) (n := 93) (N := 93) rfl rfl (by decide) (by decide) dX12_init_563 rfl ?_
  refine g_toI (i2 := zI123) rfl ?_
  refine g_dup (pc' := 565) dX12_init_564 rfl rfl ?_
  refine g_bipush (pc' := 567) dX12_init_565 rfl rfl ?_
  refine g_bipush (pc' := 569) dX12_init_567 rfl rfl ?_
  refine g_bast (pc' := 570) (n := 93) (N := 93) rfl rfl (by decide) (by decide) dX12_init_569 rfl ?_
  refine g_toI (i2 := zI124) rfl ?_
  refine g_dup (pc' := 571) dX12_init_570 rfl rfl ?_
  refine g_bipush (pc' := 573) dX12_init_571 rfl rfl ?_
  refine g_bipush (pc' := 575) dX12_init_573 rfl rfl ?_
  refine g_bast (pc' := 576) (n := 93) (N := 93) rfl rfl (by decide) (by decide) dX12_init_575 rfl ?_
  refine g_toI (i2 := zI125) rfl ?_
  refine g_dup (pc' := 577) dX12_init_576 rfl rfl ?_
  refine g_bipush (pc' := 579) dX12_init_577 rfl rfl ?_
  refine g_bipush (pc' := 581) dX12_init_579 rfl rfl ?_
  refine g_bast (pc' := 582) (n := 93) (N := 93) rfl rfl (by decide) (by decide) dX12_init_581 rfl ?_
  refine g_toI (i2 := zI126) rfl ?_
  refine g_dup (pc' := 583) dX12_init_582 rfl rfl ?_
  refine g_bipush (pc' := 585) dX12_init_583 rfl rfl ?_
  refine g_bipush (pc' := 587) dX12_init_585 rfl rfl ?_
  refine g_bast (pc' := 588) (n := 93) (N := 93) rfl rfl (by decide) (by decide) dX12_init_587 rfl ?_
  refine g_toI (i2 := zI127) rfl ?_
  refine g_dup (pc' := 589) dX12_init_588 rfl rfl ?_
  refine g_bipush (pc' := 591) dX12_init_589 rfl rfl ?_
  refine g_bipush (pc' := 593) dX12_init_591 rfl rfl ?_
  refine g_bast (pc' := 594) (n := 93) (N := 93) rfl rfl (by decide) (by decide) dX12_init_593 rfl ?_
  refine g_toI (i2 := zI128) rfl ?_
  refine g_putRN (pc' := 597) (δ2 := zD213) 105 rfl fq_X12_30 rfl rfl rfl rfl dX12_init_594 rfl rfl ?_
  refine g_aload_n (pc' := 598) 0 dX12_init_597 rfl rfl ?_
  refine g_sipush (pc' := 601) dX12_init_598 rfl rfl ?_
  refine g_newaN (pc' := 603) (δ2 := zD214) 105 (c1 := 6) (s1 := 15862) (kd := 3) (n := 400) rfl (by decide) rfl aq_byte rfl (by decide) dX12_init_601 rfl rfl rfl (Nat.le_of_ble_eq_true rfl) (Nat.le_of_ble_eq_true rfl) (fun _ => rfl) rfl ?_
  refine g_putRN (pc' := 606) (δ2 := zD215) 106 rfl fq_X12_34 rfl rfl rfl rfl dX12_init_603 rfl rfl ?_
  refine g_aload_n (pc' := 607) 0 dX12_init_606 rfl rfl ?_
  refine g_iconst (pc' := 608) dX12_init_607 rfl ?_
  refine g_newaN (pc' := 610) (δ2 := zD216) 106 (c1 := 7) (s1 := 15867) (kd := 0) (n := 5) rfl (by decide) rfl aq_int rfl (by decide) dX12_init_608 rfl rfl rfl (Nat.le_of_ble_eq_true rfl) (Nat.le_of_ble_eq_true rfl) (fun _ => rfl) rfl ?_
  refine g_putRN (pc' := 613) (δ2 := zD217) 107 rfl fq_X12_37 rfl rfl rfl rfl dX12_init_610 rfl rfl ?_
  refine g_aload_n (pc' := 614) 0 dX12_init_613 rfl rfl ?_
  refine g_iconst (pc' := 615) dX12_init_614 rfl ?_
  refine g_putI (pc' := 618) (z := 11) rfl fq_X12_40 rfl rfl (rg_lit rfl) dX12_init_615 rfl ?_
  refine g_toI (i2 := zI129) rfl ?_
  refine g_aload_n (pc' := 619) 0 dX12_init_618 rfl rfl ?_
  refine g_sipush (pc' := 622) dX12_init_619 rfl rfl ?_
  refine g_newaN (pc' := 624) (δ2 := zD218) 107 (c1 := 8) (s1 := 16268) (kd := 0) (n := 401) rfl (by decide) rfl aq_int rfl (by decide) dX12_init_622 rfl rfl rfl (Nat.le_of_ble_eq_true rfl) (Nat.le_of_ble_eq_true rfl) (fun _ => rfl) rfl ?_
  refine g_putRN (pc' := 627) (δ2 := zD219) 108 rfl fq_X12_43 rfl rfl rfl rfl dX12_init_624 rfl rfl ?_
  refine g_aload_n (pc' := 628) 0 dX12_init_627 rfl rfl ?_
  refine g_sipush (pc' := 631) dX12_init_628 rfl rfl ?_
  refine g_newaN (pc' := 633) (δ2 := zD220) 108 (c1 := 9) (s1 := 16669) (kd := 0) (n := 401) rfl (by decide) rfl aq_int rfl (by decide) dX12_init_631 rfl rfl rfl (Nat.le_of_ble_eq_true rfl) (Nat.le_of_ble_eq_true rfl) (fun _ => rfl) rfl ?_
  refine g_putRN (pc' := 636) (δ2 := zD221) 109 rfl fq_X12_46 rfl rfl rfl rfl dX12_init_633 rfl rfl ?_
  refine g_aload_n (pc' := 637) 0 dX12_init_636 rfl rfl ?_
  refine g_sipush (pc' := 640) dX12_init_637 rfl rfl ?_
  refine g_newaN (pc' := 642) (δ2 := zD222) 109 (c1 := 10) (s1 := 17070) (kd := 0) (n := 401) rfl (by decide) rfl aq_int rfl (by decide) dX12_init_640 rfl rfl rfl (Nat.le_of_ble_eq_true rfl) (Nat.le_of_ble_eq_true rfl) (fun _ => rfl) rfl ?_
  refine g_putRN (pc' := 645) (δ2 := zD223) 110 rfl fq_X12_49 rfl rfl rfl rfl dX12_init_642 rfl rfl ?_
  refine g_aload_n (pc' := 646) 0 dX12_init_645 rfl rfl ?_
  refine g_bipush (pc' := 648) dX12_init_646 rfl rfl ?_
  refine g_newaN (pc' := 650) (δ2 := zD224) 110 (c1 := 11) (s1 := 17079) (kd := 0) (n := 9) rfl (by decide) rfl aq_int rfl (by decide) dX12_init_648 rfl rfl rfl (Nat.le_of_ble_eq_true rfl) (Nat.le_of_ble_eq_true rfl) (fun _ => rfl) rfl ?_
  refine g_putRN (pc' := 653) (δ2 := zD225) 111 rfl fq_X12_52 rfl rfl rfl rfl dX12_init_650 rfl rfl ?_
  refine g_aload_n (pc' := 654) 0 dX12_init_653 rfl rfl ?_
  refine g_sipush (pc' := 657) dX12_init_654 rfl rfl ?_
  refine g_newaN (pc' := 659) (δ2 := zD226) 111 (c1 := 12) (s1 := 19959) (kd := 0) (n := 2880) rfl (by decide) rfl aq_int rfl (by decide) dX12_init_657 rfl rfl rfl (Nat.le_of_ble_eq_true rfl) (Nat.le_of_ble_eq_true rfl) (fun _ => rfl) rfl ?_
  refine g_putRN (pc' := 662) (δ2 := zD227) 112 rfl fq_X12_55 rfl rfl rfl rfl dX12_init_659 rfl rfl ?_
  refine g_aload_n (pc' := 663) 0 dX12_init_662 rfl rfl ?_
  refine g_bipush (pc' := 665) dX12_init_663 rfl rfl ?_
  refine g_newaN (pc' := 667) (δ2 := zD228) 112 (c1 := 13) (s1 := 20055) (kd := 0) (n := 96) rfl (by decide) rfl aq_int rfl (by decide) dX12_init_665 rfl rfl rfl (Nat.le_of_ble_eq_true rfl) (Nat.le_of_ble_eq_true rfl) (fun _ => rfl) rfl ?_
  refine g_putRN (pc' := 670) (δ2 := zD229) 113 rfl fq_X12_58 rfl rfl rfl rfl dX12_init_667 rfl rfl ?_
  refine g_aload_n (pc' := 671) 0 dX12_init_670 rfl rfl ?_
  refine g_sipush (pc' := 674) dX12_init_671 rfl rfl ?_
  refine g_newaN (pc' := 676) (δ2 := zD230) 113 (c1 := 14) (s1 := 21111) (kd := 0) (n := 1056) rfl (by decide) rfl aq_int rfl (by decide) dX12_init_674 rfl rfl rfl (Nat.le_of_ble_eq_true rfl) (Nat.le_of_ble_eq_true rfl) (fun _ => rfl) rfl ?_
  refine g_putRN (pc' := 679) (δ2 := zD231) 114 rfl fq_X12_61 rfl rfl rfl rfl dX12_init_676 rfl rfl ?_
  refine g_aload_n (pc' := 680) 0 dX12_init_679 rfl rfl ?_
  refine g_bipush (pc' := 682) dX12_init_680 rfl rfl ?_
  refine g_newaN (pc' := 684) (δ2 := zD232) 114 (c1 := 15) (s1 := 21141) (kd := 0) (n := 30) rfl (by decide) rfl aq_int rfl (by decide) dX12_init_682 rfl rfl rfl (Nat.le_of_ble_eq_true rfl) (Nat.le_of_ble_eq_true rfl) (fun _ => rfl) rfl ?_
  refine g_putRN (pc' := 687) (δ2 := zD233) 115 rfl fq_X12_64 rfl rfl rfl rfl dX12_init_684 rfl rfl ?_
  refine g_aload_n (pc' := 688) 0 dX12_init_687 rfl rfl ?_
  refine g_bipush (pc' := 690) dX12_init_688 rfl rfl ?_
  refine g_newaN (pc' := 692) (δ2 := zD234) 115 (c1 := 16) (s1 := 21171) (kd := 2) (n := 30) rfl (by decide) rfl aq_boolean rfl (by decide) dX12_init_690 rfl rfl rfl (Nat.le_of_ble_eq_true rfl) (Nat.le_of_ble_eq_true rfl) (fun _ => rfl) rfl ?_
  refine g_putRN (pc' := 695) (δ2 := zD235) 116 rfl fq_X12_67 rfl rfl rfl rfl dX12_init_692 rfl rfl ?_
  refine g_aload_n (pc' := 696) 0 dX12_init_695 rfl rfl ?_
  refine g_bipush (pc' := 698) dX12_init_696 rfl rfl ?_
  refine g_newaN (pc' := 700) (δ2 := zD236) 116 (c1 := 17) (s1 := 21181) (kd := 0) (n := 10) rfl (by decide) rfl aq_int rfl (by decide) dX12_init_698 rfl rfl rfl (Nat.le_of_ble_eq_true rfl) (Nat.le_of_ble_eq_true rfl) (fun _ => rfl) rfl ?_
  refine g_putRN (pc' := 703) (δ2 := zD237) 117 rfl fq_X12_70 rfl rfl rfl rfl dX12_init_700 rfl rfl ?_
  refine g_aload_n (pc' := 704) 0 dX12_init_703 rfl rfl ?_
  refine g_bipush (pc' := 706) dX12_init_704 rfl rfl ?_
  refine g_newaN (pc' := 708) (δ2 := zD238) 117 (c1 := 18) (s1 := 21191) (kd := 0) (n := 10) rfl (by decide) rfl aq_int rfl (by decide) dX12_init_706 rfl rfl rfl (Nat.le_of_ble_eq_true rfl) (Nat.le_of_ble_eq_true rfl) (fun _ => rfl) rfl ?_
  refine g_putRN (pc' := 711) (δ2 := zD239) 118 rfl fq_X12_73 rfl rfl rfl rfl dX12_init_708 rfl rfl ?_
  refine g_aload_n (pc' := 712) 0 dX12_init_711 rfl rfl ?_
  refine g_bipush (pc' := 714) dX12_init_712 rfl rfl ?_
  refine g_newaN (pc' := 716) (δ2 := zD240) 118 (c1 := 19) (s1 := 21201) (kd := 0) (n := 10) rfl (by decide) rfl aq_int rfl (by decide) dX12_init_714 rfl rfl rfl (Nat.le_of_ble_eq_true rfl) (Nat.le_of_ble_eq_true rfl) (fun _ => rfl) rfl ?_
  refine g_putRN (pc' := 719) (δ2 := zD241) 119 rfl fq_X12_76 rfl rfl rfl rfl dX12_init_716 rfl rfl ?_
  refine g_aload_n (pc' := 720) 0 dX12_init_719 rfl rfl ?_
  refine g_sipush (pc' := 723) dX12_init_720 rfl rfl ?_
  refine g_newaN (pc' := 725) (δ2 := zD242) 119 (c1 := 20) (s1 := 21457) (kd := 2) (n := 256) rfl (by decide) rfl aq_boolean rfl (by decide) dX12_init_723 rfl rfl rfl (Nat.le_of_ble_eq_true rfl) (Nat.le_of_ble_eq_true rfl) (fun _ => rfl) rfl ?_
  refine g_putRN (pc' := 728) (δ2 := zD243) 120 rfl fq_X12_79 rfl rfl rfl rfl dX12_init_725 rfl rfl ?_
  refine g_aload_n (pc' := 729) 0 dX12_init_728 rfl rfl ?_
  refine g_iconst (pc' := 730) dX12_init_729 rfl ?_
  refine g_putI (pc' := 733) (z := 32) rfl fq_X12_82 rfl rfl (rg_lit rfl) dX12_init_730 rfl ?_
  refine g_toI (i2 := zI130) rfl ?_
  refine g_aload_n (pc' := 734) 0 dX12_init_733 rfl rfl ?_
  refine g_bipush (pc' := 736) dX12_init_734 rfl rfl ?_
  refine g_putI (pc' := 739) (z := 34) rfl fq_X12_85 rfl rfl (rg_lit rfl) dX12_init_736 rfl ?_
  refine g_toI (i2 := zI131) rfl ?_
  refine g_aload_n (pc' := 740) 0 dX12_init_739 rfl rfl ?_
  refine g_sipush (pc' := 743) dX12_init_740 rfl rfl ?_
  refine g_newaN (pc' := 745) (δ2 := zD244) 120 (c1 := 21) (s1 := 22657) (kd := 2) (n := 1200) rfl (by decide) rfl aq_boolean rfl (by decide) dX12_init_743 rfl rfl rfl (Nat.le_of_ble_eq_true rfl) (Nat.le_of_ble_eq_true rfl) (fun _ => rfl) rfl ?_
  refine g_putRN (pc' := 748) (δ2 := zD245) 121 rfl fq_X12_88 rfl rfl rfl rfl dX12_init_745 rfl rfl ?_
  refine g_aload_n (pc' := 749) 0 dX12_init_748 rfl rfl ?_
  refine g_sipush (pc' := 752) dX12_init_749 rfl rfl ?_
  refine g_newaN (pc' := 754) (δ2 := zD246) 121 (c1 := 22) (s1 := 23857) (kd := 2) (n := 1200) rfl (by decide) rfl aq_boolean rfl (by decide) dX12_init_752 rfl rfl rfl (Nat.le_of_ble_eq_true rfl) (Nat.le_of_ble_eq_true rfl) (fun _ => rfl) rfl ?_
  refine g_putRN (pc' := 757) (δ2 := zD247) 122 rfl fq_X12_91 rfl rfl rfl rfl dX12_init_754 rfl rfl ?_
  refine g_aload_n (pc' := 758) 0 dX12_init_757 rfl rfl ?_
  refine g_iconst (pc' := 759) dX12_init_758 rfl ?_
  refine g_newaN (pc' := 761) (δ2 := zD248) 122 (c1 := 23) (s1 := 23862) (kd := 0) (n := 5) rfl (by decide) rfl aq_int rfl (by decide) dX12_init_759 rfl rfl rfl (Nat.le_of_ble_eq_true rfl) (Nat.le_of_ble_eq_true rfl) (fun _ => rfl) rfl ?_
  refine g_putRN (pc' := 764) (δ2 := zD249) 123 rfl fq_X12_94 rfl rfl rfl rfl dX12_init_761 rfl rfl ?_
  refine g_aload_n (pc' := 765) 0 dX12_init_764 rfl rfl ?_
  refine g_iconst (pc' := 766) dX12_init_765 rfl ?_
  refine g_newaN (pc' := 768) (δ2 := zD250) 123 (c1 := 24) (s1 := 23867) (kd := 0) (n := 5) rfl (by decide) rfl aq_int rfl (by decide) dX12_init_766 rfl rfl rfl (Nat.le_of_ble_eq_true rfl) (Nat.le_of_ble_eq_true rfl) (fun _ => rfl) rfl ?_
  refine g_putRN (pc' := 771) (δ2 := zD251) 124 rfl fq_X12_97 rfl rfl rfl rfl dX12_init_768 rfl rfl ?_
  refine g_aload_n (pc' := 772) 0 dX12_init_771 rfl rfl ?_
  refine g_sipush (pc' := 775) dX12_init_772 rfl rfl ?_
  refine g_newaN (pc' := 777) (δ2 := zD252) 124 (c1 := 25) (s1 := 24467) (kd := 0) (n := 600) rfl (by decide) rfl aq_int rfl (by decide) dX12_init_775 rfl rfl rfl (Nat.le_of_ble_eq_true rfl) (Nat.le_of_ble_eq_true rfl) (fun _ => rfl) rfl ?_
  refine g_putRN (pc' := 780) (δ2 := zD253) 125 rfl fq_X12_100 rfl rfl rfl rfl dX12_init_777 rfl rfl ?_
  refine g_aload_n (pc' := 781) 0 dX12_init_780 rfl rfl ?_
  refine g_iconst (pc' := 782) dX12_init_781 rfl ?_
  refine g_putI (pc' := 785) (z := 50) rfl fq_X12_103 rfl rfl (rg_lit rfl) dX12_init_782 rfl ?_
  refine g_toI (i2 := zI132) rfl ?_
  refine g_aload_n (pc' := 786) 0 dX12_init_785 rfl rfl ?_
  refine g_getR (pc' := 789) (o := some 101) fg_X12_20 rfl rfl rfl dX12_init_786 rfl ?_
  refine g_sipush (pc' := 792) dX12_init_789 rfl rfl ?_
  refine g_iconst (pc' := 793) dX12_init_792 rfl ?_
  refine g_iast (pc' := 794) (n := 5120) (N := 5120) rfl rfl (by decide) (by decide) (rg_lit rfl) dX12_init_793 rfl ?_
  refine g_toI (i2 := zI133) rfl ?_
  refine g_iconst (pc' := 795) dX12_init_794 rfl ?_
  refine g_istore_n (pc' := 796) (L' := [(1, vI 0), (0, vR (some 99))]) dX12_init_795 rfl (Nat.le_of_ble_eq_true rfl) rfl ?_
  refine g_iload_n (pc' := 797) 0 dX12_init_796 rfl rfl ?_
  refine g_bipush (pc' := 799) dX12_init_797 rfl rfl ?_
  refine g_icmp_ge (tgt := 820) (pc' := 802) (rg_lit rfl) (rg_lit rfl) Iff.rfl dX12_init_799 rfl rfl (fun q => absurd q (by decide)) (fun _ => ?_)
  refine g_aload_n (pc' := 803) 1 dX12_init_802 rfl rfl ?_
  refine g_getR (pc' := 806) (o := some 101) fg_X12_20 rfl rfl rfl dX12_init_803 rfl ?_
  refine g_bipush (pc' := 808) dX12_init_806 rfl rfl ?_
  refine g_iload_n (pc' := 809) 0 dX12_init_808 rfl rfl ?_
  refine g_iadd (pc' := 810) dX12_init_809 rfl ?_
  refine g_top (y := 119) rfl ?_
  refine g_iconst (pc' := 811) dX12_init_810 rfl ?_
  refine g_iload_n (pc' := 812) 0 dX12_init_811 rfl rfl ?_
  refine g_ishl (pc' := 813) dX12_init_812 rfl ?_
  refine g_top (y := 1) (by decide +kernel) ?_
  refine g_iast (pc' := 814) (n := 5120) (N := 5120) rfl rfl (by decide) (by decide) (rg_lit rfl) dX12_init_813 rfl ?_
  refine g_toI (i2 := zI134) rfl ?_
  refine g_iinc (pc' := 817) (L' := [(1, vI 1), (0, vR (some 99))]) 0 dX12_init_814 rfl (Nat.le_of_ble_eq_true rfl) rfl rfl ?_
  refine g_goto (tgt := 796) dX12_init_817 rfl ?_
  refine g_iload_n (pc' := 797) 0 dX12_init_796 rfl rfl ?_
  refine g_bipush (pc' := 799) dX12_init_797 rfl rfl ?_
  refine g_icmp_ge (tgt := 820) (pc' := 802) (rg_lit rfl) (rg_lit rfl) Iff.rfl dX12_init_799 rfl rfl (fun q => absurd q (by decide)) (fun _ => ?_)
  refine g_aload_n (pc' := 803) 1 dX12_init_802 rfl rfl ?_
  refine g_getR (pc' := 806) (o := some 101) fg_X12_20 rfl rfl rfl dX12_init_803 rfl ?_
  refine g_bipush (pc' := 808) dX12_init_806 rfl rfl ?_
  refine g_iload_n (pc' := 809) 0 dX12_init_808 rfl rfl ?_
  refine g_iadd (pc' := 810) dX12_init_809 rfl ?_
  refine g_top (y := 120) rfl ?_
  refine g_iconst (pc' := 811) dX12_init_810 rfl ?_
  refine g_iload_n (pc' := 812) 0 dX12_init_811 rfl rfl ?_
  refine g_ishl (pc' := 813) dX12_init_812 rfl ?_
  refine g_top (y := 2) (by decide +kernel) ?_
  refine g_iast (pc' := 814) (n := 5120) (N := 5120) rfl rfl (by decide) (by decide) (rg_lit rfl) dX12_init_813 rfl ?_
  refine g_toI (i2 := zI135) rfl ?_
  refine g_iinc (pc' := 817) (L' := [(1, vI 2), (0, vR (some 99))]) 0 dX12_init_814 rfl (Nat.le_of_ble_eq_true rfl) rfl rfl ?_
  refine g_goto (tgt := 796) dX12_init_817 rfl ?_
  refine g_iload_n (pc' := 797) 0 dX12_init_796 rfl rfl ?_
  refine g_bipush (pc' := 799) dX12_init_797 rfl rfl ?_
  refine g_icmp_ge (tgt := 820) (pc' := 802) (rg_lit rfl) (rg_lit rfl) Iff.rfl dX12_init_799 rfl rfl (fun q => absurd q (by decide)) (fun _ => ?_)
  refine g_aload_n (pc' := 803) 1 dX12_init_802 rfl rfl ?_
  refine g_getR (pc' := 806) (o := some 101) fg_X12_20 rfl rfl rfl dX12_init_803 rfl ?_
  refine g_bipush (pc' := 808) dX12_init_806 rfl rfl ?_
  refine g_iload_n (pc' := 809) 0 dX12_init_808 rfl rfl ?_
  refine g_iadd (pc' := 810) dX12_init_809 rfl ?_
  refine g_top (y := 121) rfl ?_
  refine g_iconst (pc' := 811) dX12_init_810 rfl ?_
  refine g_iload_n (pc' := 812) 0 dX12_init_811 rfl rfl ?_
  refine g_ishl (pc' := 813) dX12_init_812 rfl ?_
  refine g_top (y := 4) (by decide +kernel) ?_
  refine g_iast (pc' := 814) (n := 5120) (N := 5120) rfl rfl (by decide) (by decide) (rg_lit rfl) dX12_init_813 rfl ?_
  refine g_toI (i2 := zI136) rfl ?_
  refine g_iinc (pc' := 817) (L' := [(1, vI 3), (0, vR (some 99))]) 0 dX12_init_814 rfl (Nat.le_of_ble_eq_true rfl) rfl rfl ?_
  refine g_goto (tgt := 796) dX12_init_817 rfl ?_
  refine g_iload_n (pc' := 797) 0 dX12_init_796 rfl rfl ?_
  refine g_bipush (pc' := 799) dX12_init_797 rfl rfl ?_
  refine g_icmp_ge (tgt := 820) (pc' := 802) (rg_lit rfl) (rg_lit rfl) Iff.rfl dX12_init_799 rfl rfl (fun q => absurd q (by decide)) (fun _ => ?_)
  refine g_aload_n (pc' := 803) 1 dX12_init_802 rfl rfl ?_
  refine g_getR (pc' := 806) (o := some 101) fg_X12_20 rfl rfl rfl dX12_init_803 rfl ?_
  refine g_bipush (pc' := 808) dX12_init_806 rfl rfl ?_
  refine g_iload_n (pc' := 809) 0 dX12_init_808 rfl rfl ?_
  refine g_iadd (pc' := 810) dX12_init_809 rfl ?_
  refine g_top (y := 122) rfl ?_
  refine g_iconst (pc' := 811) dX12_init_810 rfl ?_
  refine g_iload_n (pc' := 812) 0 dX12_init_811 rfl rfl ?_
  refine g_ishl (pc' := 813) dX12_init_812 rfl ?_
  refine g_top (y := 8) (by decide +kernel) ?_
  refine g_iast (pc' := 814) (n := 5120) (N := 5120) rfl rfl (by decide) (by decide) (rg_lit rfl) dX12_init_813 rfl ?_
  refine g_toI (i2 := zI137) rfl ?_
  refine g_iinc (pc' := 817) (L' := [(1, vI 4), (0, vR (some 99))]) 0 dX12_init_814 rfl (Nat.le_of_ble_eq_true rfl) rfl rfl ?_
  refine g_goto (tgt := 796) dX12_init_817 rfl ?_
  refine g_iload_n (pc' := 797) 0 dX12_init_796 rfl rfl ?_
  refine g_bipush (pc' := 799) dX12_init_797 rfl rfl ?_
  refine g_icmp_ge (tgt := 820) (pc' := 802) (rg_lit rfl) (rg_lit rfl) Iff.rfl dX12_init_799 rfl rfl (fun q => absurd q (by decide)) (fun _ => ?_)
  refine g_aload_n (pc' := 803) 1 dX12_init_802 rfl rfl ?_
  refine g_getR (pc' := 806) (o := some 101) fg_X12_20 rfl rfl rfl dX12_init_803 rfl ?_
  refine g_bipush (pc' := 808) dX12_init_806 rfl rfl ?_
  refine g_iload_n (pc' := 809) 0 dX12_init_808 rfl rfl ?_
  refine g_iadd (pc' := 810) dX12_init_809 rfl ?_
  refine g_top (y := 123) rfl ?_
  refine g_iconst (pc' := 811) dX12_init_810 rfl ?_
  refine g_iload_n (pc' := 812) 0 dX12_init_811 rfl rfl ?_
  refine g_ishl (pc' := 813) dX12_init_812 rfl ?_
  refine g_top (y := 16) (by decide +kernel) ?_
  refine g_iast (pc' := 814) (n := 5120) (N := 5120) rfl rfl (by decide) (by decide) (rg_lit rfl) dX12_init_813 rfl ?_
  refine g_toI (i2 := zI138) rfl ?_
  refine g_iinc (pc' := 817) (L' := [(1, vI 5), (0, vR (some 99))]) 0 dX12_init_814 rfl (Nat.le_of_ble_eq_true rfl) rfl rfl ?_
  refine g_goto (tgt := 796) dX12_init_817 rfl ?_
  refine g_iload_n (pc' := 797) 0 dX12_init_796 rfl rfl ?_
  refine g_bipush (pc' := 799) dX12_init_797 rfl rfl ?_
  refine g_icmp_ge (tgt := 820) (pc' := 802) (rg_lit rfl) (rg_lit rfl) Iff.rfl dX12_init_799 rfl rfl (fun q => absurd q (by decide)) (fun _ => ?_)
  refine g_aload_n (pc' := 803) 1 dX12_init_802 rfl rfl ?_
  refine g_getR (pc' := 806) (o := some 101) fg_X12_20 rfl rfl rfl dX12_init_803 rfl ?_
  refine g_bipush (pc' := 808) dX12_init_806 rfl rfl ?_
  refine g_iload_n (pc' := 809) 0 dX12_init_808 rfl rfl ?_
  refine g_iadd (pc' := 810) dX12_init_809 rfl ?_
  refine g_top (y := 124) rfl ?_
  refine g_iconst (pc' := 811) dX12_init_810 rfl ?_
  refine g_iload_n (pc' := 812) 0 dX12_init_811 rfl rfl ?_
  refine g_ishl (pc' := 813) dX12_init_812 rfl ?_
  refine g_top (y := 32) (by decide +kernel) ?_
  refine g_iast (pc' := 814) (n := 5120) (N := 5120) rfl rfl (by decide) (by decide) (rg_lit rfl) dX12_init_813 rfl ?_
  refine g_toI (i2 := zI139) rfl ?_
  refine g_iinc (pc' := 817) (L' := [(1, vI 6), (0, vR (some 99))]) 0 dX12_init_814 rfl (Nat.le_of_ble_eq_true rfl) rfl rfl ?_
  refine g_goto (tgt := 796) dX12_init_817 rfl ?_
  refine g_iload_n (pc' := 797) 0 dX12_init_796 rfl rfl ?_
  refine g_bipush (pc' := 799) dX12_init_797 rfl rfl ?_
  refine g_icmp_ge (tgt := 820) (pc' := 802) (rg_lit rfl) (rg_lit rfl) Iff.rfl dX12_init_799 rfl rfl (fun q => absurd q (by decide)) (fun _ => ?_)
  refine g_aload_n (pc' := 803) 1 dX12_init_802 rfl rfl ?_
  refine g_getR (pc' := 806) (o := some 101) fg_X12_20 rfl rfl rfl dX12_init_803 rfl ?_
  refine g_bipush (pc' := 808) dX12_init_806 rfl rfl ?_
  refine g_iload_n (pc' := 809) 0 dX12_init_808 rfl rfl ?_
  refine g_iadd (pc' := 810) dX12_init_809 rfl ?_
  refine g_top (y := 125) rfl ?_
  refine g_iconst (pc' := 811) dX12_init_810 rfl ?_
  refine g_iload_n (pc' := 812) 0 dX12_init_811 rfl rfl ?_
  refine g_ishl (pc' := 813) dX12_init_812 rfl ?_
  refine g_top (y := 64) (by decide +kernel) ?_
  refine g_iast (pc' := 814) (n := 5120) (N := 5120) rfl rfl (by decide) (by decide) (rg_lit rfl) dX12_init_813 rfl ?_
  refine g_toI (i2 := zI140) rfl ?_
  refine g_iinc (pc' := 817) (L' := [(1, vI 7), (0, vR (some 99))]) 0 dX12_init_814 rfl (Nat.le_of_ble_eq_true rfl) rfl rfl ?_
  refine g_goto (tgt := 796) dX12_init_817 rfl ?_
  refine g_iload_n (pc' := 797) 0 dX12_init_796 rfl rfl ?_
  refine g_bipush (pc' := 799) dX12_init_797 rfl rfl ?_
  refine g_icmp_ge (tgt := 820) (pc' := 802) (rg_lit rfl) (rg_lit rfl) Iff.rfl dX12_init_799 rfl rfl (fun q => absurd q (by decide)) (fun _ => ?_)
  refine g_aload_n (pc' := 803) 1 dX12_init_802 rfl rfl ?_
  refine g_getR (pc' := 806) (o := some 101) fg_X12_20 rfl rfl rfl dX12_init_803 rfl ?_
  refine g_bipush (pc' := 808) dX12_init_806 rfl rfl ?_
  refine g_iload_n (pc' := 809) 0 dX12_init_808 rfl rfl ?_
  refine g_iadd (pc' := 810) dX12_init_809 rfl ?_
  refine g_top (y := 126) rfl ?_
  refine g_iconst (pc' := 811) dX12_init_810 rfl ?_
  refine g_iload_n (pc' := 812) 0 dX12_init_811 rfl rfl ?_
  refine g_ishl (pc' := 813) dX12_init_812 rfl ?_
  refine g_top (y := 128) (by decide +kernel) ?_
  refine g_iast (pc' := 814) (n := 5120) (N := 5120) rfl rfl (by decide) (by decide) (rg_lit rfl) dX12_init_813 rfl ?_
  refine g_toI (i2 := zI141) rfl ?_
  refine g_iinc (pc' := 817) (L' := [(1, vI 8), (0, vR (some 99))]) 0 dX12_init_814 rfl (Nat.le_of_ble_eq_true rfl) rfl rfl ?_
  refine g_goto (tgt := 796) dX12_init_817 rfl ?_
  refine g_iload_n (pc' := 797) 0 dX12_init_796 rfl rfl ?_
  refine g_bipush (pc' := 799) dX12_init_797 rfl rfl ?_
  refine g_icmp_ge (tgt := 820) (pc' := 802) (rg_lit rfl) (rg_lit rfl) Iff.rfl dX12_init_799 rfl rfl (fun _ => ?_) (fun q => absurd (by decide) q)
  exact g_vret (Nat.le_of_ble_eq_true rfl) (Nat.le_of_ble_eq_true rfl) rfl dX12_init_820 ⟨rfl, rfl, rfl, rfl⟩
