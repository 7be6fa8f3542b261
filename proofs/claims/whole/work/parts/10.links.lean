/-! links: fields, methods, constants, by class and entry -/
theorem lk_L_9 : Cond.methodLink "ThreeColoursLaw" 9 yX11_init ∈ lwG := (lwT1 24 rfl rfl)
theorem lk_X11_1 : Cond.methodLink "ThreeColours" 1 Lib.objectInit ∈ lwG := (lwT1 27 rfl rfl)
theorem lk_X11_9 : Cond.methodLink "ThreeColours" 9 yX9_init ∈ lwG := (lwT1 32 rfl rfl)
theorem lk_X9_3 : Cond.methodLink "ThreeColours$Town" 3 Lib.objectInit ∈ lwG := (lwT1 35 rfl rfl)
theorem fl_X9_9 : FL "ThreeColours$Town" 9 9 0 := ⟨(RX9, TX9, 16), rfl, rfl, by decide, (lwT1 38 rfl rfl)⟩
theorem fp_X9_9 : FP "ThreeColours$Town" 9 9 0 true (tyX9 0) := ⟨(RX9, TX9, 16), rfl, rfl, by decide, (lwT1 38 rfl rfl), rfl, by decide +kernel, fun _ => rfl⟩
theorem fl_X11_135 : FL "ThreeColours" 135 9 0 := ⟨(RX9, TX9, 16), rfl, rfl, by decide, (lwT1 39 rfl rfl)⟩
theorem fl_X9_15 : FL "ThreeColours$Town" 15 9 1 := ⟨(RX9, TX9, 16), rfl, rfl, by decide, (lwT1 40 rfl rfl)⟩
theorem fp_X9_15 : FP "ThreeColours$Town" 15 9 1 true (tyX9 1) := ⟨(RX9, TX9, 16), rfl, rfl, by decide, (lwT1 40 rfl rfl), rfl, by decide +kernel, fun _ => rfl⟩
theorem fl_X11_151 : FL "ThreeColours" 151 9 1 := ⟨(RX9, TX9, 16), rfl, rfl, by decide, (lwT1 41 rfl rfl)⟩
theorem fl_X9_18 : FL "ThreeColours$Town" 18 9 2 := ⟨(RX9, TX9, 16), rfl, rfl, by decide, (lwT1 42 rfl rfl)⟩
theorem fp_X9_18 : FP "ThreeColours$Town" 18 9 2 true (tyX9 2) := ⟨(RX9, TX9, 16), rfl, rfl, by decide, (lwT1 42 rfl rfl), rfl, by decide +kernel, fun _ => rfl⟩
theorem fl_X6_60 : FL "ThreeColours$Procession" 60 9 2 := ⟨(RX9, TX9, 16), rfl, rfl, by decide, (lwT1 43 rfl rfl)⟩
theorem fl_X0_44 : FL "ThreeColours$Asker" 44 9 2 := ⟨(RX9, TX9, 16), rfl, rfl, by decide, (lwT1 44 rfl rfl)⟩
theorem fl_X8_112 : FL "ThreeColours$Sight" 112 9 2 := ⟨(RX9, TX9, 16), rfl, rfl, by decide, (lwT1 45 rfl rfl)⟩
theorem fl_X11_170 : FL "ThreeColours" 170 9 2 := ⟨(RX9, TX9, 16), rfl, rfl, by decide, (lwT1 46 rfl rfl)⟩
theorem fl_X9_21 : FL "ThreeColours$Town" 21 9 3 := ⟨(RX9, TX9, 16), rfl, rfl, by decide, (lwT1 47 rfl rfl)⟩
theorem fp_X9_21 : FP "ThreeColours$Town" 21 9 3 true (tyX9 3) := ⟨(RX9, TX9, 16), rfl, rfl, by decide, (lwT1 47 rfl rfl), rfl, by decide +kernel, fun _ => rfl⟩
theorem fl_X4_61 : FL "ThreeColours$Outing" 61 9 3 := ⟨(RX9, TX9, 16), rfl, rfl, by decide, (lwT1 48 rfl rfl)⟩
theorem fl_X10_91 : FL "ThreeColours$Walker" 91 9 3 := ⟨(RX9, TX9, 16), rfl, rfl, by decide, (lwT1 49 rfl rfl)⟩
theorem fl_X11_160 : FL "ThreeColours" 160 9 3 := ⟨(RX9, TX9, 16), rfl, rfl, by decide, (lwT1 50 rfl rfl)⟩
theorem fl_X9_24 : FL "ThreeColours$Town" 24 9 4 := ⟨(RX9, TX9, 16), rfl, rfl, by decide, (lwT1 51 rfl rfl)⟩
theorem fp_X9_24 : FP "ThreeColours$Town" 24 9 4 true (tyX9 4) := ⟨(RX9, TX9, 16), rfl, rfl, by decide, (lwT1 51 rfl rfl), rfl, by decide +kernel, fun _ => rfl⟩
theorem fl_X11_173 : FL "ThreeColours" 173 9 4 := ⟨(RX9, TX9, 16), rfl, rfl, by decide, (lwT1 52 rfl rfl)⟩
theorem fl_X9_27 : FL "ThreeColours$Town" 27 9 5 := ⟨(RX9, TX9, 16), rfl, rfl, by decide, (lwT1 53 rfl rfl)⟩
theorem fp_X9_27 : FP "ThreeColours$Town" 27 9 5 true (tyX9 5) := ⟨(RX9, TX9, 16), rfl, rfl, by decide, (lwT1 53 rfl rfl), rfl, by decide +kernel, fun _ => rfl⟩
theorem fl_X6_57 : FL "ThreeColours$Procession" 57 9 5 := ⟨(RX9, TX9, 16), rfl, rfl, by decide, (lwT1 54 rfl rfl)⟩
theorem fl_X8_102 : FL "ThreeColours$Sight" 102 9 5 := ⟨(RX9, TX9, 16), rfl, rfl, by decide, (lwT1 55 rfl rfl)⟩
theorem fl_X1_136 : FL "ThreeColours$Canvas" 136 9 5 := ⟨(RX9, TX9, 16), rfl, rfl, by decide, (lwT1 56 rfl rfl)⟩
theorem fl_X11_179 : FL "ThreeColours" 179 9 5 := ⟨(RX9, TX9, 16), rfl, rfl, by decide, (lwT1 57 rfl rfl)⟩
theorem fl_X9_30 : FL "ThreeColours$Town" 30 9 6 := ⟨(RX9, TX9, 16), rfl, rfl, by decide, (lwT1 58 rfl rfl)⟩
theorem fp_X9_30 : FP "ThreeColours$Town" 30 9 6 true (tyX9 6) := ⟨(RX9, TX9, 16), rfl, rfl, by decide, (lwT1 58 rfl rfl), rfl, by decide +kernel, fun _ => rfl⟩
theorem fl_X8_77 : FL "ThreeColours$Sight" 77 9 6 := ⟨(RX9, TX9, 16), rfl, rfl, by decide, (lwT1 59 rfl rfl)⟩
theorem fl_X9_35 : FL "ThreeColours$Town" 35 9 7 := ⟨(RX9, TX9, 16), rfl, rfl, by decide, (lwT1 60 rfl rfl)⟩
theorem fp_X9_35 : FP "ThreeColours$Town" 35 9 7 true (tyX9 7) := ⟨(RX9, TX9, 16), rfl, rfl, by decide, (lwT1 60 rfl rfl), rfl, by decide +kernel, fun _ => rfl⟩
theorem fl_X11_217 : FL "ThreeColours" 217 9 7 := ⟨(RX9, TX9, 16), rfl, rfl, by decide, (lwT1 61 rfl rfl)⟩
theorem fl_X11_115 : FL "ThreeColours" 115 9 8 := ⟨(RX9, TX9, 16), rfl, rfl, by decide, (lwT1 62 rfl rfl)⟩
theorem fp_X11_115 : FP "ThreeColours" 115 9 8 false .int := ⟨(RX9, TX9, 16), rfl, rfl, by decide, (lwT1 62 rfl rfl), rfl, by decide +kernel, fun h => by cases h⟩
theorem fl_X1_64 : FL "ThreeColours$Canvas" 64 9 8 := ⟨(RX9, TX9, 16), rfl, rfl, by decide, (lwT1 63 rfl rfl)⟩
theorem fp_X1_64 : FP "ThreeColours$Canvas" 64 9 8 false .int := ⟨(RX9, TX9, 16), rfl, rfl, by decide, (lwT1 63 rfl rfl), rfl, by decide +kernel, fun h => by cases h⟩
theorem fl_X3_66 : FL "ThreeColours$Mender" 66 9 8 := ⟨(RX9, TX9, 16), rfl, rfl, by decide, (lwT1 64 rfl rfl)⟩
theorem fp_X3_66 : FP "ThreeColours$Mender" 66 9 8 false .int := ⟨(RX9, TX9, 16), rfl, rfl, by decide, (lwT1 64 rfl rfl), rfl, by decide +kernel, fun h => by cases h⟩
theorem fl_X9_43 : FL "ThreeColours$Town" 43 9 8 := ⟨(RX9, TX9, 16), rfl, rfl, by decide, (lwT1 65 rfl rfl)⟩
theorem fp_X9_43 : FP "ThreeColours$Town" 43 9 8 false .int := ⟨(RX9, TX9, 16), rfl, rfl, by decide, (lwT1 65 rfl rfl), rfl, by decide +kernel, fun h => by cases h⟩
theorem fl_X8_93 : FL "ThreeColours$Sight" 93 9 8 := ⟨(RX9, TX9, 16), rfl, rfl, by decide, (lwT1 66 rfl rfl)⟩
theorem fp_X8_93 : FP "ThreeColours$Sight" 93 9 8 false .int := ⟨(RX9, TX9, 16), rfl, rfl, by decide, (lwT1 66 rfl rfl), rfl, by decide +kernel, fun h => by cases h⟩
theorem fl_X5_98 : FL "ThreeColours$Painter" 98 9 8 := ⟨(RX9, TX9, 16), rfl, rfl, by decide, (lwT1 67 rfl rfl)⟩
theorem fp_X5_98 : FP "ThreeColours$Painter" 98 9 8 false .int := ⟨(RX9, TX9, 16), rfl, rfl, by decide, (lwT1 67 rfl rfl), rfl, by decide +kernel, fun h => by cases h⟩
theorem fl_X10_66 : FL "ThreeColours$Walker" 66 9 9 := ⟨(RX9, TX9, 16), rfl, rfl, by decide, (lwT1 68 rfl rfl)⟩
theorem fp_X10_66 : FP "ThreeColours$Walker" 66 9 9 false .int := ⟨(RX9, TX9, 16), rfl, rfl, by decide, (lwT1 68 rfl rfl), rfl, by decide +kernel, fun h => by cases h⟩
theorem fl_X9_46 : FL "ThreeColours$Town" 46 9 9 := ⟨(RX9, TX9, 16), rfl, rfl, by decide, (lwT1 69 rfl rfl)⟩
theorem fp_X9_46 : FP "ThreeColours$Town" 46 9 9 false .int := ⟨(RX9, TX9, 16), rfl, rfl, by decide, (lwT1 69 rfl rfl), rfl, by decide +kernel, fun h => by cases h⟩
theorem fl_X1_103 : FL "ThreeColours$Canvas" 103 9 9 := ⟨(RX9, TX9, 16), rfl, rfl, by decide, (lwT1 70 rfl rfl)⟩
theorem fp_X1_103 : FP "ThreeColours$Canvas" 103 9 9 false .int := ⟨(RX9, TX9, 16), rfl, rfl, by decide, (lwT1 70 rfl rfl), rfl, by decide +kernel, fun h => by cases h⟩
theorem fl_X11_138 : FL "ThreeColours" 138 9 9 := ⟨(RX9, TX9, 16), rfl, rfl, by decide, (lwT1 71 rfl rfl)⟩
theorem fp_X11_138 : FP "ThreeColours" 138 9 9 false .int := ⟨(RX9, TX9, 16), rfl, rfl, by decide, (lwT1 71 rfl rfl), rfl, by decide +kernel, fun h => by cases h⟩
theorem fl_X8_125 : FL "ThreeColours$Sight" 125 9 9 := ⟨(RX9, TX9, 16), rfl, rfl, by decide, (lwT1 72 rfl rfl)⟩
theorem fp_X8_125 : FP "ThreeColours$Sight" 125 9 9 false .int := ⟨(RX9, TX9, 16), rfl, rfl, by decide, (lwT1 72 rfl rfl), rfl, by decide +kernel, fun h => by cases h⟩
theorem fl_X3_123 : FL "ThreeColours$Mender" 123 9 9 := ⟨(RX9, TX9, 16), rfl, rfl, by decide, (lwT1 73 rfl rfl)⟩
theorem fp_X3_123 : FP "ThreeColours$Mender" 123 9 9 false .int := ⟨(RX9, TX9, 16), rfl, rfl, by decide, (lwT1 73 rfl rfl), rfl, by decide +kernel, fun h => by cases h⟩
theorem fl_X4_27 : FL "ThreeColours$Outing" 27 9 10 := ⟨(RX9, TX9, 16), rfl, rfl, by decide, (lwT1 74 rfl rfl)⟩
theorem fp_X4_27 : FP "ThreeColours$Outing" 27 9 10 false .int := ⟨(RX9, TX9, 16), rfl, rfl, by decide, (lwT1 74 rfl rfl), rfl, by decide +kernel, fun h => by cases h⟩
theorem fl_X6_36 : FL "ThreeColours$Procession" 36 9 10 := ⟨(RX9, TX9, 16), rfl, rfl, by decide, (lwT1 75 rfl rfl)⟩
theorem fp_X6_36 : FP "ThreeColours$Procession" 36 9 10 false .int := ⟨(RX9, TX9, 16), rfl, rfl, by decide, (lwT1 75 rfl rfl), rfl, by decide +kernel, fun h => by cases h⟩
theorem fl_X8_118 : FL "ThreeColours$Sight" 118 9 10 := ⟨(RX9, TX9, 16), rfl, rfl, by decide, (lwT1 76 rfl rfl)⟩
theorem fp_X8_118 : FP "ThreeColours$Sight" 118 9 10 false .int := ⟨(RX9, TX9, 16), rfl, rfl, by decide, (lwT1 76 rfl rfl), rfl, by decide +kernel, fun h => by cases h⟩
theorem fl_X11_167 : FL "ThreeColours" 167 9 10 := ⟨(RX9, TX9, 16), rfl, rfl, by decide, (lwT1 77 rfl rfl)⟩
theorem fp_X11_167 : FP "ThreeColours" 167 9 10 false .int := ⟨(RX9, TX9, 16), rfl, rfl, by decide, (lwT1 77 rfl rfl), rfl, by decide +kernel, fun h => by cases h⟩
theorem fl_X9_75 : FL "ThreeColours$Town" 75 9 10 := ⟨(RX9, TX9, 16), rfl, rfl, by decide, (lwT1 78 rfl rfl)⟩
theorem fp_X9_75 : FP "ThreeColours$Town" 75 9 10 false .int := ⟨(RX9, TX9, 16), rfl, rfl, by decide, (lwT1 78 rfl rfl), rfl, by decide +kernel, fun h => by cases h⟩
theorem fl_X8_74 : FL "ThreeColours$Sight" 74 9 11 := ⟨(RX9, TX9, 16), rfl, rfl, by decide, (lwT1 79 rfl rfl)⟩
theorem fp_X8_74 : FP "ThreeColours$Sight" 74 9 11 false .int := ⟨(RX9, TX9, 16), rfl, rfl, by decide, (lwT1 79 rfl rfl), rfl, by decide +kernel, fun h => by cases h⟩
theorem fl_X9_49 : FL "ThreeColours$Town" 49 9 11 := ⟨(RX9, TX9, 16), rfl, rfl, by decide, (lwT1 80 rfl rfl)⟩
theorem fp_X9_49 : FP "ThreeColours$Town" 49 9 11 false .int := ⟨(RX9, TX9, 16), rfl, rfl, by decide, (lwT1 80 rfl rfl), rfl, by decide +kernel, fun h => by cases h⟩
theorem fl_X11_182 : FL "ThreeColours" 182 9 11 := ⟨(RX9, TX9, 16), rfl, rfl, by decide, (lwT1 81 rfl rfl)⟩
theorem fp_X11_182 : FP "ThreeColours" 182 9 11 false .int := ⟨(RX9, TX9, 16), rfl, rfl, by decide, (lwT1 81 rfl rfl), rfl, by decide +kernel, fun h => by cases h⟩
theorem fl_X9_66 : FL "ThreeColours$Town" 66 9 12 := ⟨(RX9, TX9, 16), rfl, rfl, by decide, (lwT1 82 rfl rfl)⟩
theorem fp_X9_66 : FP "ThreeColours$Town" 66 9 12 false .int := ⟨(RX9, TX9, 16), rfl, rfl, by decide, (lwT1 82 rfl rfl), rfl, by decide +kernel, fun h => by cases h⟩
theorem fl_X11_206 : FL "ThreeColours" 206 9 12 := ⟨(RX9, TX9, 16), rfl, rfl, by decide, (lwT1 83 rfl rfl)⟩
theorem fp_X11_206 : FP "ThreeColours" 206 9 12 false .int := ⟨(RX9, TX9, 16), rfl, rfl, by decide, (lwT1 83 rfl rfl), rfl, by decide +kernel, fun h => by cases h⟩
theorem fl_X8_80 : FL "ThreeColours$Sight" 80 9 13 := ⟨(RX9, TX9, 16), rfl, rfl, by decide, (lwT1 84 rfl rfl)⟩
theorem fp_X8_80 : FP "ThreeColours$Sight" 80 9 13 false .int := ⟨(RX9, TX9, 16), rfl, rfl, by decide, (lwT1 84 rfl rfl), rfl, by decide +kernel, fun h => by cases h⟩
theorem fl_X11_154 : FL "ThreeColours" 154 9 13 := ⟨(RX9, TX9, 16), rfl, rfl, by decide, (lwT1 85 rfl rfl)⟩
theorem fp_X11_154 : FP "ThreeColours" 154 9 13 false .int := ⟨(RX9, TX9, 16), rfl, rfl, by decide, (lwT1 85 rfl rfl), rfl, by decide +kernel, fun h => by cases h⟩
theorem fl_X9_78 : FL "ThreeColours$Town" 78 9 13 := ⟨(RX9, TX9, 16), rfl, rfl, by decide, (lwT1 86 rfl rfl)⟩
theorem fp_X9_78 : FP "ThreeColours$Town" 78 9 13 false .int := ⟨(RX9, TX9, 16), rfl, rfl, by decide, (lwT1 86 rfl rfl), rfl, by decide +kernel, fun h => by cases h⟩
theorem fl_X9_39 : FL "ThreeColours$Town" 39 9 14 := ⟨(RX9, TX9, 16), rfl, rfl, by decide, (lwT1 87 rfl rfl)⟩
theorem fp_X9_39 : FP "ThreeColours$Town" 39 9 14 false .int := ⟨(RX9, TX9, 16), rfl, rfl, by decide, (lwT1 87 rfl rfl), rfl, by decide +kernel, fun h => by cases h⟩
theorem fl_X11_221 : FL "ThreeColours" 221 9 14 := ⟨(RX9, TX9, 16), rfl, rfl, by decide, (lwT1 88 rfl rfl)⟩
theorem fp_X11_221 : FP "ThreeColours" 221 9 14 false .int := ⟨(RX9, TX9, 16), rfl, rfl, by decide, (lwT1 88 rfl rfl), rfl, by decide +kernel, fun h => by cases h⟩
theorem fl_X8_42 : FL "ThreeColours$Sight" 42 9 15 := ⟨(RX9, TX9, 16), rfl, rfl, by decide, (lwT1 89 rfl rfl)⟩
theorem fp_X8_42 : FP "ThreeColours$Sight" 42 9 15 false .int := ⟨(RX9, TX9, 16), rfl, rfl, by decide, (lwT1 89 rfl rfl), rfl, by decide +kernel, fun h => by cases h⟩
theorem fl_X10_36 : FL "ThreeColours$Walker" 36 9 15 := ⟨(RX9, TX9, 16), rfl, rfl, by decide, (lwT1 90 rfl rfl)⟩
theorem fp_X10_36 : FP "ThreeColours$Walker" 36 9 15 false .int := ⟨(RX9, TX9, 16), rfl, rfl, by decide, (lwT1 90 rfl rfl), rfl, by decide +kernel, fun h => by cases h⟩
theorem fl_X1_58 : FL "ThreeColours$Canvas" 58 9 15 := ⟨(RX9, TX9, 16), rfl, rfl, by decide, (lwT1 91 rfl rfl)⟩
theorem fp_X1_58 : FP "ThreeColours$Canvas" 58 9 15 false .int := ⟨(RX9, TX9, 16), rfl, rfl, by decide, (lwT1 91 rfl rfl), rfl, by decide +kernel, fun h => by cases h⟩
theorem fl_X5_55 : FL "ThreeColours$Painter" 55 9 15 := ⟨(RX9, TX9, 16), rfl, rfl, by decide, (lwT1 92 rfl rfl)⟩
theorem fp_X5_55 : FP "ThreeColours$Painter" 55 9 15 false .int := ⟨(RX9, TX9, 16), rfl, rfl, by decide, (lwT1 92 rfl rfl), rfl, by decide +kernel, fun h => by cases h⟩
theorem fl_X3_47 : FL "ThreeColours$Mender" 47 9 15 := ⟨(RX9, TX9, 16), rfl, rfl, by decide, (lwT1 93 rfl rfl)⟩
theorem fp_X3_47 : FP "ThreeColours$Mender" 47 9 15 false .int := ⟨(RX9, TX9, 16), rfl, rfl, by decide, (lwT1 93 rfl rfl), rfl, by decide +kernel, fun h => by cases h⟩
theorem fl_X11_351 : FL "ThreeColours" 351 9 15 := ⟨(RX9, TX9, 16), rfl, rfl, by decide, (lwT1 94 rfl rfl)⟩
theorem fp_X11_351 : FP "ThreeColours" 351 9 15 false .int := ⟨(RX9, TX9, 16), rfl, rfl, by decide, (lwT1 94 rfl rfl), rfl, by decide +kernel, fun h => by cases h⟩
theorem lk_X11_29 : Cond.methodLink "ThreeColours" 29 yX7_init ∈ lwG := (lwT1 132 rfl rfl)
theorem lk_X7_5 : Cond.methodLink "ThreeColours$Reader" 5 Lib.objectInit ∈ lwG := (lwT1 135 rfl rfl)
theorem fl_X7_23 : FL "ThreeColours$Reader" 23 7 0 := ⟨(RX7, TX7, 12), rfl, rfl, by decide, (lwT1 136 rfl rfl)⟩
theorem fp_X7_23 : FP "ThreeColours$Reader" 23 7 0 true (tyX7 0) := ⟨(RX7, TX7, 12), rfl, rfl, by decide, (lwT1 136 rfl rfl), rfl, by decide +kernel, fun _ => rfl⟩
theorem fl_X7_11 : FL "ThreeColours$Reader" 11 7 1 := ⟨(RX7, TX7, 12), rfl, rfl, by decide, (lwT1 137 rfl rfl)⟩
theorem fp_X7_11 : FP "ThreeColours$Reader" 11 7 1 true (tyX7 1) := ⟨(RX7, TX7, 12), rfl, rfl, by decide, (lwT1 137 rfl rfl), rfl, by decide +kernel, fun _ => rfl⟩
theorem fl_X7_17 : FL "ThreeColours$Reader" 17 7 2 := ⟨(RX7, TX7, 12), rfl, rfl, by decide, (lwT1 138 rfl rfl)⟩
theorem fp_X7_17 : FP "ThreeColours$Reader" 17 7 2 true (tyX7 2) := ⟨(RX7, TX7, 12), rfl, rfl, by decide, (lwT1 138 rfl rfl), rfl, by decide +kernel, fun _ => rfl⟩
theorem fl_X7_20 : FL "ThreeColours$Reader" 20 7 3 := ⟨(RX7, TX7, 12), rfl, rfl, by decide, (lwT1 139 rfl rfl)⟩
theorem fp_X7_20 : FP "ThreeColours$Reader" 20 7 3 true (tyX7 3) := ⟨(RX7, TX7, 12), rfl, rfl, by decide, (lwT1 139 rfl rfl), rfl, by decide +kernel, fun _ => rfl⟩
theorem fl_X7_30 : FL "ThreeColours$Reader" 30 7 4 := ⟨(RX7, TX7, 12), rfl, rfl, by decide, (lwT1 140 rfl rfl)⟩
theorem fp_X7_30 : FP "ThreeColours$Reader" 30 7 4 false .int := ⟨(RX7, TX7, 12), rfl, rfl, by decide, (lwT1 140 rfl rfl), rfl, by decide +kernel, fun h => by cases h⟩
theorem fl_X7_26 : FL "ThreeColours$Reader" 26 7 5 := ⟨(RX7, TX7, 12), rfl, rfl, by decide, (lwT1 141 rfl rfl)⟩
theorem fp_X7_26 : FP "ThreeColours$Reader" 26 7 5 false .int := ⟨(RX7, TX7, 12), rfl, rfl, by decide, (lwT1 141 rfl rfl), rfl, by decide +kernel, fun h => by cases h⟩
theorem fl_X7_33 : FL "ThreeColours$Reader" 33 7 6 := ⟨(RX7, TX7, 12), rfl, rfl, by decide, (lwT1 142 rfl rfl)⟩
theorem fp_X7_33 : FP "ThreeColours$Reader" 33 7 6 false .int := ⟨(RX7, TX7, 12), rfl, rfl, by decide, (lwT1 142 rfl rfl), rfl, by decide +kernel, fun h => by cases h⟩
theorem fl_X7_55 : FL "ThreeColours$Reader" 55 7 7 := ⟨(RX7, TX7, 12), rfl, rfl, by decide, (lwT1 143 rfl rfl)⟩
theorem fp_X7_55 : FP "ThreeColours$Reader" 55 7 7 false .int := ⟨(RX7, TX7, 12), rfl, rfl, by decide, (lwT1 143 rfl rfl), rfl, by decide +kernel, fun h => by cases h⟩
theorem fl_X7_100 : FL "ThreeColours$Reader" 100 7 8 := ⟨(RX7, TX7, 12), rfl, rfl, by decide, (lwT1 144 rfl rfl)⟩
theorem fp_X7_100 : FP "ThreeColours$Reader" 100 7 8 false .int := ⟨(RX7, TX7, 12), rfl, rfl, by decide, (lwT1 144 rfl rfl), rfl, by decide +kernel, fun h => by cases h⟩
theorem fl_X7_36 : FL "ThreeColours$Reader" 36 7 9 := ⟨(RX7, TX7, 12), rfl, rfl, by decide, (lwT1 145 rfl rfl)⟩
theorem fp_X7_36 : FP "ThreeColours$Reader" 36 7 9 false .int := ⟨(RX7, TX7, 12), rfl, rfl, by decide, (lwT1 145 rfl rfl), rfl, by decide +kernel, fun h => by cases h⟩
theorem fl_X7_39 : FL "ThreeColours$Reader" 39 7 10 := ⟨(RX7, TX7, 12), rfl, rfl, by decide, (lwT1 146 rfl rfl)⟩
theorem fp_X7_39 : FP "ThreeColours$Reader" 39 7 10 false .int := ⟨(RX7, TX7, 12), rfl, rfl, by decide, (lwT1 146 rfl rfl), rfl, by decide +kernel, fun h => by cases h⟩
theorem fl_X7_65 : FL "ThreeColours$Reader" 65 7 11 := ⟨(RX7, TX7, 12), rfl, rfl, by decide, (lwT1 147 rfl rfl)⟩
theorem fp_X7_65 : FP "ThreeColours$Reader" 65 7 11 false .int := ⟨(RX7, TX7, 12), rfl, rfl, by decide, (lwT1 147 rfl rfl), rfl, by decide +kernel, fun h => by cases h⟩
theorem lk_X11_38 : Cond.methodLink "ThreeColours" 38 yX0_init ∈ lwG := (lwT1 175 rfl rfl)
theorem lk_X0_3 : Cond.methodLink "ThreeColours$Asker" 3 Lib.objectInit ∈ lwG := (lwT1 178 rfl rfl)
theorem fl_X0_19 : FL "ThreeColours$Asker" 19 0 0 := ⟨(RX0, TX0, 4), rfl, rfl, by decide, (lwT1 179 rfl rfl)⟩
theorem fp_X0_19 : FP "ThreeColours$Asker" 19 0 0 true (tyX0 0) := ⟨(RX0, TX0, 4), rfl, rfl, by decide, (lwT1 179 rfl rfl), rfl, by decide +kernel, fun _ => rfl⟩
theorem fl_X0_9 : FL "ThreeColours$Asker" 9 0 1 := ⟨(RX0, TX0, 4), rfl, rfl, by decide, (lwT1 180 rfl rfl)⟩
theorem fp_X0_9 : FP "ThreeColours$Asker" 9 0 1 true (tyX0 1) := ⟨(RX0, TX0, 4), rfl, rfl, by decide, (lwT1 180 rfl rfl), rfl, by decide +kernel, fun _ => rfl⟩
theorem fl_X0_15 : FL "ThreeColours$Asker" 15 0 2 := ⟨(RX0, TX0, 4), rfl, rfl, by decide, (lwT1 181 rfl rfl)⟩
theorem fp_X0_15 : FP "ThreeColours$Asker" 15 0 2 true (tyX0 2) := ⟨(RX0, TX0, 4), rfl, rfl, by decide, (lwT1 181 rfl rfl), rfl, by decide +kernel, fun _ => rfl⟩
theorem fl_X0_31 : FL "ThreeColours$Asker" 31 0 3 := ⟨(RX0, TX0, 4), rfl, rfl, by decide, (lwT1 182 rfl rfl)⟩
theorem fp_X0_31 : FP "ThreeColours$Asker" 31 0 3 false .int := ⟨(RX0, TX0, 4), rfl, rfl, by decide, (lwT1 182 rfl rfl), rfl, by decide +kernel, fun h => by cases h⟩
theorem lk_X11_47 : Cond.methodLink "ThreeColours" 47 yX8_init ∈ lwG := (lwT1 195 rfl rfl)
theorem lk_X8_3 : Cond.methodLink "ThreeColours$Sight" 3 Lib.objectInit ∈ lwG := (lwT1 198 rfl rfl)
theorem fl_X8_34 : FL "ThreeColours$Sight" 34 8 0 := ⟨(RX8, TX8, 15), rfl, rfl, by decide, (lwT1 199 rfl rfl)⟩
theorem fp_X8_34 : FP "ThreeColours$Sight" 34 8 0 true (tyX8 0) := ⟨(RX8, TX8, 15), rfl, rfl, by decide, (lwT1 199 rfl rfl), rfl, by decide +kernel, fun _ => rfl⟩
theorem fl_X8_38 : FL "ThreeColours$Sight" 38 8 1 := ⟨(RX8, TX8, 15), rfl, rfl, by decide, (lwT1 200 rfl rfl)⟩
theorem fp_X8_38 : FP "ThreeColours$Sight" 38 8 1 true (tyX8 1) := ⟨(RX8, TX8, 15), rfl, rfl, by decide, (lwT1 200 rfl rfl), rfl, by decide +kernel, fun _ => rfl⟩
theorem fl_X8_9 : FL "ThreeColours$Sight" 9 8 2 := ⟨(RX8, TX8, 15), rfl, rfl, by decide, (lwT1 201 rfl rfl)⟩
theorem fp_X8_9 : FP "ThreeColours$Sight" 9 8 2 true (tyX8 2) := ⟨(RX8, TX8, 15), rfl, rfl, by decide, (lwT1 201 rfl rfl), rfl, by decide +kernel, fun _ => rfl⟩
theorem fl_X8_15 : FL "ThreeColours$Sight" 15 8 3 := ⟨(RX8, TX8, 15), rfl, rfl, by decide, (lwT1 202 rfl rfl)⟩
theorem fp_X8_15 : FP "ThreeColours$Sight" 15 8 3 true (tyX8 3) := ⟨(RX8, TX8, 15), rfl, rfl, by decide, (lwT1 202 rfl rfl), rfl, by decide +kernel, fun _ => rfl⟩
theorem fl_X8_18 : FL "ThreeColours$Sight" 18 8 4 := ⟨(RX8, TX8, 15), rfl, rfl, by decide, (lwT1 203 rfl rfl)⟩
theorem fp_X8_18 : FP "ThreeColours$Sight" 18 8 4 true (tyX8 4) := ⟨(RX8, TX8, 15), rfl, rfl, by decide, (lwT1 203 rfl rfl), rfl, by decide +kernel, fun _ => rfl⟩
theorem fl_X8_21 : FL "ThreeColours$Sight" 21 8 5 := ⟨(RX8, TX8, 15), rfl, rfl, by decide, (lwT1 204 rfl rfl)⟩
theorem fp_X8_21 : FP "ThreeColours$Sight" 21 8 5 true (tyX8 5) := ⟨(RX8, TX8, 15), rfl, rfl, by decide, (lwT1 204 rfl rfl), rfl, by decide +kernel, fun _ => rfl⟩
theorem fl_X8_24 : FL "ThreeColours$Sight" 24 8 6 := ⟨(RX8, TX8, 15), rfl, rfl, by decide, (lwT1 205 rfl rfl)⟩
theorem fp_X8_24 : FP "ThreeColours$Sight" 24 8 6 true (tyX8 6) := ⟨(RX8, TX8, 15), rfl, rfl, by decide, (lwT1 205 rfl rfl), rfl, by decide +kernel, fun _ => rfl⟩
theorem fl_X4_46 : FL "ThreeColours$Outing" 46 8 6 := ⟨(RX8, TX8, 15), rfl, rfl, by decide, (lwT1 206 rfl rfl)⟩
theorem fl_X8_27 : FL "ThreeColours$Sight" 27 8 7 := ⟨(RX8, TX8, 15), rfl, rfl, by decide, (lwT1 207 rfl rfl)⟩
theorem fp_X8_27 : FP "ThreeColours$Sight" 27 8 7 true (tyX8 7) := ⟨(RX8, TX8, 15), rfl, rfl, by decide, (lwT1 207 rfl rfl), rfl, by decide +kernel, fun _ => rfl⟩
theorem fl_X11_257 : FL "ThreeColours" 257 8 7 := ⟨(RX8, TX8, 15), rfl, rfl, by decide, (lwT1 208 rfl rfl)⟩
theorem fl_X8_143 : FL "ThreeColours$Sight" 143 8 8 := ⟨(RX8, TX8, 15), rfl, rfl, by decide, (lwT1 209 rfl rfl)⟩
theorem fp_X8_143 : FP "ThreeColours$Sight" 143 8 8 false .int := ⟨(RX8, TX8, 15), rfl, rfl, by decide, (lwT1 209 rfl rfl), rfl, by decide +kernel, fun h => by cases h⟩
theorem fl_X11_248 : FL "ThreeColours" 248 8 8 := ⟨(RX8, TX8, 15), rfl, rfl, by decide, (lwT1 210 rfl rfl)⟩
theorem fp_X11_248 : FP "ThreeColours" 248 8 8 false .int := ⟨(RX8, TX8, 15), rfl, rfl, by decide, (lwT1 210 rfl rfl), rfl, by decide +kernel, fun h => by cases h⟩
theorem fl_X8_146 : FL "ThreeColours$Sight" 146 8 9 := ⟨(RX8, TX8, 15), rfl, rfl, by decide, (lwT1 211 rfl rfl)⟩
theorem fp_X8_146 : FP "ThreeColours$Sight" 146 8 9 false .int := ⟨(RX8, TX8, 15), rfl, rfl, by decide, (lwT1 211 rfl rfl), rfl, by decide +kernel, fun h => by cases h⟩
theorem fl_X11_251 : FL "ThreeColours" 251 8 9 := ⟨(RX8, TX8, 15), rfl, rfl, by decide, (lwT1 212 rfl rfl)⟩
theorem fp_X11_251 : FP "ThreeColours" 251 8 9 false .int := ⟨(RX8, TX8, 15), rfl, rfl, by decide, (lwT1 212 rfl rfl), rfl, by decide +kernel, fun h => by cases h⟩
theorem fl_X8_149 : FL "ThreeColours$Sight" 149 8 10 := ⟨(RX8, TX8, 15), rfl, rfl, by decide, (lwT1 213 rfl rfl)⟩
theorem fp_X8_149 : FP "ThreeColours$Sight" 149 8 10 false .int := ⟨(RX8, TX8, 15), rfl, rfl, by decide, (lwT1 213 rfl rfl), rfl, by decide +kernel, fun h => by cases h⟩
theorem fl_X11_254 : FL "ThreeColours" 254 8 10 := ⟨(RX8, TX8, 15), rfl, rfl, by decide, (lwT1 214 rfl rfl)⟩
theorem fp_X11_254 : FP "ThreeColours" 254 8 10 false .int := ⟨(RX8, TX8, 15), rfl, rfl, by decide, (lwT1 214 rfl rfl), rfl, by decide +kernel, fun h => by cases h⟩
theorem fl_X8_45 : FL "ThreeColours$Sight" 45 8 11 := ⟨(RX8, TX8, 15), rfl, rfl, by decide, (lwT1 215 rfl rfl)⟩
theorem fp_X8_45 : FP "ThreeColours$Sight" 45 8 11 false .boolean := ⟨(RX8, TX8, 15), rfl, rfl, by decide, (lwT1 215 rfl rfl), rfl, by decide +kernel, fun h => by cases h⟩
theorem fl_X8_65 : FL "ThreeColours$Sight" 65 8 12 := ⟨(RX8, TX8, 15), rfl, rfl, by decide, (lwT1 216 rfl rfl)⟩
theorem fp_X8_65 : FP "ThreeColours$Sight" 65 8 12 false .boolean := ⟨(RX8, TX8, 15), rfl, rfl, by decide, (lwT1 216 rfl rfl), rfl, by decide +kernel, fun h => by cases h⟩
theorem fl_X8_68 : FL "ThreeColours$Sight" 68 8 13 := ⟨(RX8, TX8, 15), rfl, rfl, by decide, (lwT1 217 rfl rfl)⟩
theorem fp_X8_68 : FP "ThreeColours$Sight" 68 8 13 false .boolean := ⟨(RX8, TX8, 15), rfl, rfl, by decide, (lwT1 217 rfl rfl), rfl, by decide +kernel, fun h => by cases h⟩
theorem fl_X8_30 : FL "ThreeColours$Sight" 30 8 14 := ⟨(RX8, TX8, 15), rfl, rfl, by decide, (lwT1 218 rfl rfl)⟩
theorem fp_X8_30 : FP "ThreeColours$Sight" 30 8 14 false .int := ⟨(RX8, TX8, 15), rfl, rfl, by decide, (lwT1 218 rfl rfl), rfl, by decide +kernel, fun h => by cases h⟩
theorem lk_X11_56 : Cond.methodLink "ThreeColours" 56 yX1_init ∈ lwG := (lwT2 12 rfl rfl)
theorem lk_X1_5 : Cond.methodLink "ThreeColours$Canvas" 5 Lib.objectInit ∈ lwG := (lwT2 15 rfl rfl)
theorem fl_X1_50 : FL "ThreeColours$Canvas" 50 1 0 := ⟨(RX1, TX1, 16), rfl, rfl, by decide, (lwT2 16 rfl rfl)⟩
theorem fp_X1_50 : FP "ThreeColours$Canvas" 50 1 0 true (tyX1 0) := ⟨(RX1, TX1, 16), rfl, rfl, by decide, (lwT2 16 rfl rfl), rfl, by decide +kernel, fun _ => rfl⟩
theorem fl_X1_54 : FL "ThreeColours$Canvas" 54 1 1 := ⟨(RX1, TX1, 16), rfl, rfl, by decide, (lwT2 17 rfl rfl)⟩
theorem fp_X1_54 : FP "ThreeColours$Canvas" 54 1 1 true (tyX1 1) := ⟨(RX1, TX1, 16), rfl, rfl, by decide, (lwT2 17 rfl rfl), rfl, by decide +kernel, fun _ => rfl⟩
theorem fl_X1_11 : FL "ThreeColours$Canvas" 11 1 2 := ⟨(RX1, TX1, 16), rfl, rfl, by decide, (lwT2 18 rfl rfl)⟩
theorem fp_X1_11 : FP "ThreeColours$Canvas" 11 1 2 true (tyX1 2) := ⟨(RX1, TX1, 16), rfl, rfl, by decide, (lwT2 18 rfl rfl), rfl, by decide +kernel, fun _ => rfl⟩
theorem fl_X3_88 : FL "ThreeColours$Mender" 88 1 2 := ⟨(RX1, TX1, 16), rfl, rfl, by decide, (lwT2 19 rfl rfl)⟩
theorem fl_X5_105 : FL "ThreeColours$Painter" 105 1 2 := ⟨(RX1, TX1, 16), rfl, rfl, by decide, (lwT2 20 rfl rfl)⟩
theorem fl_X1_15 : FL "ThreeColours$Canvas" 15 1 3 := ⟨(RX1, TX1, 16), rfl, rfl, by decide, (lwT2 21 rfl rfl)⟩
theorem fp_X1_15 : FP "ThreeColours$Canvas" 15 1 3 true (tyX1 3) := ⟨(RX1, TX1, 16), rfl, rfl, by decide, (lwT2 21 rfl rfl), rfl, by decide +kernel, fun _ => rfl⟩
theorem fl_X3_85 : FL "ThreeColours$Mender" 85 1 3 := ⟨(RX1, TX1, 16), rfl, rfl, by decide, (lwT2 22 rfl rfl)⟩
theorem fl_X1_18 : FL "ThreeColours$Canvas" 18 1 4 := ⟨(RX1, TX1, 16), rfl, rfl, by decide, (lwT2 23 rfl rfl)⟩
theorem fp_X1_18 : FP "ThreeColours$Canvas" 18 1 4 true (tyX1 4) := ⟨(RX1, TX1, 16), rfl, rfl, by decide, (lwT2 23 rfl rfl), rfl, by decide +kernel, fun _ => rfl⟩
theorem fl_X5_108 : FL "ThreeColours$Painter" 108 1 4 := ⟨(RX1, TX1, 16), rfl, rfl, by decide, (lwT2 24 rfl rfl)⟩
theorem fl_X1_21 : FL "ThreeColours$Canvas" 21 1 5 := ⟨(RX1, TX1, 16), rfl, rfl, by decide, (lwT2 25 rfl rfl)⟩
theorem fp_X1_21 : FP "ThreeColours$Canvas" 21 1 5 true (tyX1 5) := ⟨(RX1, TX1, 16), rfl, rfl, by decide, (lwT2 25 rfl rfl), rfl, by decide +kernel, fun _ => rfl⟩
theorem fl_X5_111 : FL "ThreeColours$Painter" 111 1 5 := ⟨(RX1, TX1, 16), rfl, rfl, by decide, (lwT2 26 rfl rfl)⟩
theorem fl_X1_24 : FL "ThreeColours$Canvas" 24 1 6 := ⟨(RX1, TX1, 16), rfl, rfl, by decide, (lwT2 27 rfl rfl)⟩
theorem fp_X1_24 : FP "ThreeColours$Canvas" 24 1 6 true (tyX1 6) := ⟨(RX1, TX1, 16), rfl, rfl, by decide, (lwT2 27 rfl rfl), rfl, by decide +kernel, fun _ => rfl⟩
theorem fl_X3_110 : FL "ThreeColours$Mender" 110 1 6 := ⟨(RX1, TX1, 16), rfl, rfl, by decide, (lwT2 28 rfl rfl)⟩
theorem fl_X5_148 : FL "ThreeColours$Painter" 148 1 6 := ⟨(RX1, TX1, 16), rfl, rfl, by decide, (lwT2 29 rfl rfl)⟩
theorem fl_X1_28 : FL "ThreeColours$Canvas" 28 1 7 := ⟨(RX1, TX1, 16), rfl, rfl, by decide, (lwT2 30 rfl rfl)⟩
theorem fp_X1_28 : FP "ThreeColours$Canvas" 28 1 7 true (tyX1 7) := ⟨(RX1, TX1, 16), rfl, rfl, by decide, (lwT2 30 rfl rfl), rfl, by decide +kernel, fun _ => rfl⟩
theorem fl_X1_31 : FL "ThreeColours$Canvas" 31 1 8 := ⟨(RX1, TX1, 16), rfl, rfl, by decide, (lwT2 31 rfl rfl)⟩
theorem fp_X1_31 : FP "ThreeColours$Canvas" 31 1 8 true (tyX1 8) := ⟨(RX1, TX1, 16), rfl, rfl, by decide, (lwT2 31 rfl rfl), rfl, by decide +kernel, fun _ => rfl⟩
theorem fl_X1_34 : FL "ThreeColours$Canvas" 34 1 9 := ⟨(RX1, TX1, 16), rfl, rfl, by decide, (lwT2 32 rfl rfl)⟩
theorem fp_X1_34 : FP "ThreeColours$Canvas" 34 1 9 true (tyX1 9) := ⟨(RX1, TX1, 16), rfl, rfl, by decide, (lwT2 32 rfl rfl), rfl, by decide +kernel, fun _ => rfl⟩
theorem fl_X1_37 : FL "ThreeColours$Canvas" 37 1 10 := ⟨(RX1, TX1, 16), rfl, rfl, by decide, (lwT2 33 rfl rfl)⟩
theorem fp_X1_37 : FP "ThreeColours$Canvas" 37 1 10 true (tyX1 10) := ⟨(RX1, TX1, 16), rfl, rfl, by decide, (lwT2 33 rfl rfl), rfl, by decide +kernel, fun _ => rfl⟩
theorem fl_X1_40 : FL "ThreeColours$Canvas" 40 1 11 := ⟨(RX1, TX1, 16), rfl, rfl, by decide, (lwT2 34 rfl rfl)⟩
theorem fp_X1_40 : FP "ThreeColours$Canvas" 40 1 11 true (tyX1 11) := ⟨(RX1, TX1, 16), rfl, rfl, by decide, (lwT2 34 rfl rfl), rfl, by decide +kernel, fun _ => rfl⟩
theorem fl_X1_43 : FL "ThreeColours$Canvas" 43 1 12 := ⟨(RX1, TX1, 16), rfl, rfl, by decide, (lwT2 35 rfl rfl)⟩
theorem fp_X1_43 : FP "ThreeColours$Canvas" 43 1 12 true (tyX1 12) := ⟨(RX1, TX1, 16), rfl, rfl, by decide, (lwT2 35 rfl rfl), rfl, by decide +kernel, fun _ => rfl⟩
theorem fl_X3_57 : FL "ThreeColours$Mender" 57 1 13 := ⟨(RX1, TX1, 16), rfl, rfl, by decide, (lwT2 36 rfl rfl)⟩
theorem fp_X3_57 : FP "ThreeColours$Mender" 57 1 13 false .int := ⟨(RX1, TX1, 16), rfl, rfl, by decide, (lwT2 36 rfl rfl), rfl, by decide +kernel, fun h => by cases h⟩
theorem fl_X1_87 : FL "ThreeColours$Canvas" 87 1 13 := ⟨(RX1, TX1, 16), rfl, rfl, by decide, (lwT2 37 rfl rfl)⟩
theorem fp_X1_87 : FP "ThreeColours$Canvas" 87 1 13 false .int := ⟨(RX1, TX1, 16), rfl, rfl, by decide, (lwT2 37 rfl rfl), rfl, by decide +kernel, fun h => by cases h⟩
theorem fl_X5_91 : FL "ThreeColours$Painter" 91 1 13 := ⟨(RX1, TX1, 16), rfl, rfl, by decide, (lwT2 38 rfl rfl)⟩
theorem fp_X5_91 : FP "ThreeColours$Painter" 91 1 13 false .int := ⟨(RX1, TX1, 16), rfl, rfl, by decide, (lwT2 38 rfl rfl), rfl, by decide +kernel, fun h => by cases h⟩
theorem fl_X1_61 : FL "ThreeColours$Canvas" 61 1 14 := ⟨(RX1, TX1, 16), rfl, rfl, by decide, (lwT2 39 rfl rfl)⟩
theorem fp_X1_61 : FP "ThreeColours$Canvas" 61 1 14 false .int := ⟨(RX1, TX1, 16), rfl, rfl, by decide, (lwT2 39 rfl rfl), rfl, by decide +kernel, fun h => by cases h⟩
theorem fl_X1_46 : FL "ThreeColours$Canvas" 46 1 15 := ⟨(RX1, TX1, 16), rfl, rfl, by decide, (lwT2 40 rfl rfl)⟩
theorem fp_X1_46 : FP "ThreeColours$Canvas" 46 1 15 false .int := ⟨(RX1, TX1, 16), rfl, rfl, by decide, (lwT2 40 rfl rfl), rfl, by decide +kernel, fun h => by cases h⟩
theorem lk_X11_63 : Cond.methodLink "ThreeColours" 63 yX5_init ∈ lwG := (lwT2 76 rfl rfl)
theorem lk_X5_3 : Cond.methodLink "ThreeColours$Painter" 3 Lib.objectInit ∈ lwG := (lwT2 79 rfl rfl)
theorem fl_X5_44 : FL "ThreeColours$Painter" 44 5 0 := ⟨(RX5, TX5, 19), rfl, rfl, by decide, (lwT2 80 rfl rfl)⟩
theorem fp_X5_44 : FP "ThreeColours$Painter" 44 5 0 true (tyX5 0) := ⟨(RX5, TX5, 19), rfl, rfl, by decide, (lwT2 80 rfl rfl), rfl, by decide +kernel, fun _ => rfl⟩
theorem fl_X5_48 : FL "ThreeColours$Painter" 48 5 1 := ⟨(RX5, TX5, 19), rfl, rfl, by decide, (lwT2 81 rfl rfl)⟩
theorem fp_X5_48 : FP "ThreeColours$Painter" 48 5 1 true (tyX5 1) := ⟨(RX5, TX5, 19), rfl, rfl, by decide, (lwT2 81 rfl rfl), rfl, by decide +kernel, fun _ => rfl⟩
theorem fl_X5_9 : FL "ThreeColours$Painter" 9 5 2 := ⟨(RX5, TX5, 19), rfl, rfl, by decide, (lwT2 82 rfl rfl)⟩
theorem fp_X5_9 : FP "ThreeColours$Painter" 9 5 2 true (tyX5 2) := ⟨(RX5, TX5, 19), rfl, rfl, by decide, (lwT2 82 rfl rfl), rfl, by decide +kernel, fun _ => rfl⟩
theorem fl_X5_15 : FL "ThreeColours$Painter" 15 5 3 := ⟨(RX5, TX5, 19), rfl, rfl, by decide, (lwT2 83 rfl rfl)⟩
theorem fp_X5_15 : FP "ThreeColours$Painter" 15 5 3 true (tyX5 3) := ⟨(RX5, TX5, 19), rfl, rfl, by decide, (lwT2 83 rfl rfl), rfl, by decide +kernel, fun _ => rfl⟩
theorem fl_X5_18 : FL "ThreeColours$Painter" 18 5 4 := ⟨(RX5, TX5, 19), rfl, rfl, by decide, (lwT2 84 rfl rfl)⟩
theorem fp_X5_18 : FP "ThreeColours$Painter" 18 5 4 true (tyX5 4) := ⟨(RX5, TX5, 19), rfl, rfl, by decide, (lwT2 84 rfl rfl), rfl, by decide +kernel, fun _ => rfl⟩
theorem fl_X5_22 : FL "ThreeColours$Painter" 22 5 5 := ⟨(RX5, TX5, 19), rfl, rfl, by decide, (lwT2 85 rfl rfl)⟩
theorem fp_X5_22 : FP "ThreeColours$Painter" 22 5 5 true (tyX5 5) := ⟨(RX5, TX5, 19), rfl, rfl, by decide, (lwT2 85 rfl rfl), rfl, by decide +kernel, fun _ => rfl⟩
theorem fl_X5_25 : FL "ThreeColours$Painter" 25 5 6 := ⟨(RX5, TX5, 19), rfl, rfl, by decide, (lwT2 86 rfl rfl)⟩
theorem fp_X5_25 : FP "ThreeColours$Painter" 25 5 6 true (tyX5 6) := ⟨(RX5, TX5, 19), rfl, rfl, by decide, (lwT2 86 rfl rfl), rfl, by decide +kernel, fun _ => rfl⟩
theorem fl_X5_28 : FL "ThreeColours$Painter" 28 5 7 := ⟨(RX5, TX5, 19), rfl, rfl, by decide, (lwT2 87 rfl rfl)⟩
theorem fp_X5_28 : FP "ThreeColours$Painter" 28 5 7 true (tyX5 7) := ⟨(RX5, TX5, 19), rfl, rfl, by decide, (lwT2 87 rfl rfl), rfl, by decide +kernel, fun _ => rfl⟩
theorem fl_X5_31 : FL "ThreeColours$Painter" 31 5 8 := ⟨(RX5, TX5, 19), rfl, rfl, by decide, (lwT2 88 rfl rfl)⟩
theorem fp_X5_31 : FP "ThreeColours$Painter" 31 5 8 true (tyX5 8) := ⟨(RX5, TX5, 19), rfl, rfl, by decide, (lwT2 88 rfl rfl), rfl, by decide +kernel, fun _ => rfl⟩
theorem fl_X5_34 : FL "ThreeColours$Painter" 34 5 9 := ⟨(RX5, TX5, 19), rfl, rfl, by decide, (lwT2 89 rfl rfl)⟩
theorem fp_X5_34 : FP "ThreeColours$Painter" 34 5 9 true (tyX5 9) := ⟨(RX5, TX5, 19), rfl, rfl, by decide, (lwT2 89 rfl rfl), rfl, by decide +kernel, fun _ => rfl⟩
theorem fl_X5_37 : FL "ThreeColours$Painter" 37 5 10 := ⟨(RX5, TX5, 19), rfl, rfl, by decide, (lwT2 90 rfl rfl)⟩
theorem fp_X5_37 : FP "ThreeColours$Painter" 37 5 10 true (tyX5 10) := ⟨(RX5, TX5, 19), rfl, rfl, by decide, (lwT2 90 rfl rfl), rfl, by decide +kernel, fun _ => rfl⟩
theorem fl_X11_275 : FL "ThreeColours" 275 5 10 := ⟨(RX5, TX5, 19), rfl, rfl, by decide, (lwT2 91 rfl rfl)⟩
theorem fl_X5_71 : FL "ThreeColours$Painter" 71 5 11 := ⟨(RX5, TX5, 19), rfl, rfl, by decide, (lwT2 92 rfl rfl)⟩
theorem fp_X5_71 : FP "ThreeColours$Painter" 71 5 11 false .int := ⟨(RX5, TX5, 19), rfl, rfl, by decide, (lwT2 92 rfl rfl), rfl, by decide +kernel, fun h => by cases h⟩
theorem fl_X11_266 : FL "ThreeColours" 266 5 11 := ⟨(RX5, TX5, 19), rfl, rfl, by decide, (lwT2 93 rfl rfl)⟩
theorem fp_X11_266 : FP "ThreeColours" 266 5 11 false .int := ⟨(RX5, TX5, 19), rfl, rfl, by decide, (lwT2 93 rfl rfl), rfl, by decide +kernel, fun h => by cases h⟩
theorem fl_X5_65 : FL "ThreeColours$Painter" 65 5 12 := ⟨(RX5, TX5, 19), rfl, rfl, by decide, (lwT2 94 rfl rfl)⟩
theorem fp_X5_65 : FP "ThreeColours$Painter" 65 5 12 false .int := ⟨(RX5, TX5, 19), rfl, rfl, by decide, (lwT2 94 rfl rfl), rfl, by decide +kernel, fun h => by cases h⟩
theorem fl_X11_269 : FL "ThreeColours" 269 5 12 := ⟨(RX5, TX5, 19), rfl, rfl, by decide, (lwT2 95 rfl rfl)⟩
theorem fp_X11_269 : FP "ThreeColours" 269 5 12 false .int := ⟨(RX5, TX5, 19), rfl, rfl, by decide, (lwT2 95 rfl rfl), rfl, by decide +kernel, fun h => by cases h⟩
theorem fl_X5_74 : FL "ThreeColours$Painter" 74 5 13 := ⟨(RX5, TX5, 19), rfl, rfl, by decide, (lwT2 96 rfl rfl)⟩
theorem fp_X5_74 : FP "ThreeColours$Painter" 74 5 13 false .int := ⟨(RX5, TX5, 19), rfl, rfl, by decide, (lwT2 96 rfl rfl), rfl, by decide +kernel, fun h => by cases h⟩
theorem fl_X11_272 : FL "ThreeColours" 272 5 13 := ⟨(RX5, TX5, 19), rfl, rfl, by decide, (lwT2 97 rfl rfl)⟩
theorem fp_X11_272 : FP "ThreeColours" 272 5 13 false .int := ⟨(RX5, TX5, 19), rfl, rfl, by decide, (lwT2 97 rfl rfl), rfl, by decide +kernel, fun h => by cases h⟩
theorem fl_X5_52 : FL "ThreeColours$Painter" 52 5 14 := ⟨(RX5, TX5, 19), rfl, rfl, by decide, (lwT2 98 rfl rfl)⟩
theorem fp_X5_52 : FP "ThreeColours$Painter" 52 5 14 false .int := ⟨(RX5, TX5, 19), rfl, rfl, by decide, (lwT2 98 rfl rfl), rfl, by decide +kernel, fun h => by cases h⟩
theorem fl_X5_77 : FL "ThreeColours$Painter" 77 5 15 := ⟨(RX5, TX5, 19), rfl, rfl, by decide, (lwT2 99 rfl rfl)⟩
theorem fp_X5_77 : FP "ThreeColours$Painter" 77 5 15 false .int := ⟨(RX5, TX5, 19), rfl, rfl, by decide, (lwT2 99 rfl rfl), rfl, by decide +kernel, fun h => by cases h⟩
theorem fl_X5_86 : FL "ThreeColours$Painter" 86 5 16 := ⟨(RX5, TX5, 19), rfl, rfl, by decide, (lwT2 100 rfl rfl)⟩
theorem fp_X5_86 : FP "ThreeColours$Painter" 86 5 16 false .long := ⟨(RX5, TX5, 19), rfl, rfl, by decide, (lwT2 100 rfl rfl), rfl, by decide +kernel, fun h => by cases h⟩
theorem fl_X5_58 : FL "ThreeColours$Painter" 58 5 17 := ⟨(RX5, TX5, 19), rfl, rfl, by decide, (lwT2 101 rfl rfl)⟩
theorem fp_X5_58 : FP "ThreeColours$Painter" 58 5 17 false .int := ⟨(RX5, TX5, 19), rfl, rfl, by decide, (lwT2 101 rfl rfl), rfl, by decide +kernel, fun h => by cases h⟩
theorem fl_X5_40 : FL "ThreeColours$Painter" 40 5 18 := ⟨(RX5, TX5, 19), rfl, rfl, by decide, (lwT2 102 rfl rfl)⟩
theorem fp_X5_40 : FP "ThreeColours$Painter" 40 5 18 false .int := ⟨(RX5, TX5, 19), rfl, rfl, by decide, (lwT2 102 rfl rfl), rfl, by decide +kernel, fun h => by cases h⟩
theorem lk_X11_75 : Cond.methodLink "ThreeColours" 75 yX3_init ∈ lwG := (lwT2 144 rfl rfl)
theorem lk_X3_3 : Cond.methodLink "ThreeColours$Mender" 3 Lib.objectInit ∈ lwG := (lwT2 147 rfl rfl)
theorem fl_X3_35 : FL "ThreeColours$Mender" 35 3 0 := ⟨(RX3, TX3, 12), rfl, rfl, by decide, (lwT2 148 rfl rfl)⟩
theorem fp_X3_35 : FP "ThreeColours$Mender" 35 3 0 true (tyX3 0) := ⟨(RX3, TX3, 12), rfl, rfl, by decide, (lwT2 148 rfl rfl), rfl, by decide +kernel, fun _ => rfl⟩
theorem fl_X3_39 : FL "ThreeColours$Mender" 39 3 1 := ⟨(RX3, TX3, 12), rfl, rfl, by decide, (lwT2 149 rfl rfl)⟩
theorem fp_X3_39 : FP "ThreeColours$Mender" 39 3 1 true (tyX3 1) := ⟨(RX3, TX3, 12), rfl, rfl, by decide, (lwT2 149 rfl rfl), rfl, by decide +kernel, fun _ => rfl⟩
theorem fl_X3_9 : FL "ThreeColours$Mender" 9 3 2 := ⟨(RX3, TX3, 12), rfl, rfl, by decide, (lwT2 150 rfl rfl)⟩
theorem fp_X3_9 : FP "ThreeColours$Mender" 9 3 2 true (tyX3 2) := ⟨(RX3, TX3, 12), rfl, rfl, by decide, (lwT2 150 rfl rfl), rfl, by decide +kernel, fun _ => rfl⟩
theorem fl_X3_15 : FL "ThreeColours$Mender" 15 3 3 := ⟨(RX3, TX3, 12), rfl, rfl, by decide, (lwT2 151 rfl rfl)⟩
theorem fp_X3_15 : FP "ThreeColours$Mender" 15 3 3 true (tyX3 3) := ⟨(RX3, TX3, 12), rfl, rfl, by decide, (lwT2 151 rfl rfl), rfl, by decide +kernel, fun _ => rfl⟩
theorem fl_X3_18 : FL "ThreeColours$Mender" 18 3 4 := ⟨(RX3, TX3, 12), rfl, rfl, by decide, (lwT2 152 rfl rfl)⟩
theorem fp_X3_18 : FP "ThreeColours$Mender" 18 3 4 true (tyX3 4) := ⟨(RX3, TX3, 12), rfl, rfl, by decide, (lwT2 152 rfl rfl), rfl, by decide +kernel, fun _ => rfl⟩
theorem fl_X3_22 : FL "ThreeColours$Mender" 22 3 5 := ⟨(RX3, TX3, 12), rfl, rfl, by decide, (lwT2 153 rfl rfl)⟩
theorem fp_X3_22 : FP "ThreeColours$Mender" 22 3 5 true (tyX3 5) := ⟨(RX3, TX3, 12), rfl, rfl, by decide, (lwT2 153 rfl rfl), rfl, by decide +kernel, fun _ => rfl⟩
theorem fl_X3_25 : FL "ThreeColours$Mender" 25 3 6 := ⟨(RX3, TX3, 12), rfl, rfl, by decide, (lwT2 154 rfl rfl)⟩
theorem fp_X3_25 : FP "ThreeColours$Mender" 25 3 6 true (tyX3 6) := ⟨(RX3, TX3, 12), rfl, rfl, by decide, (lwT2 154 rfl rfl), rfl, by decide +kernel, fun _ => rfl⟩
theorem fl_X3_28 : FL "ThreeColours$Mender" 28 3 7 := ⟨(RX3, TX3, 12), rfl, rfl, by decide, (lwT2 155 rfl rfl)⟩
theorem fp_X3_28 : FP "ThreeColours$Mender" 28 3 7 true (tyX3 7) := ⟨(RX3, TX3, 12), rfl, rfl, by decide, (lwT2 155 rfl rfl), rfl, by decide +kernel, fun _ => rfl⟩
theorem fl_X11_293 : FL "ThreeColours" 293 3 7 := ⟨(RX3, TX3, 12), rfl, rfl, by decide, (lwT2 156 rfl rfl)⟩
theorem fl_X3_54 : FL "ThreeColours$Mender" 54 3 8 := ⟨(RX3, TX3, 12), rfl, rfl, by decide, (lwT2 157 rfl rfl)⟩
theorem fp_X3_54 : FP "ThreeColours$Mender" 54 3 8 false .int := ⟨(RX3, TX3, 12), rfl, rfl, by decide, (lwT2 157 rfl rfl), rfl, by decide +kernel, fun h => by cases h⟩
theorem fl_X11_290 : FL "ThreeColours" 290 3 8 := ⟨(RX3, TX3, 12), rfl, rfl, by decide, (lwT2 158 rfl rfl)⟩
theorem fp_X11_290 : FP "ThreeColours" 290 3 8 false .int := ⟨(RX3, TX3, 12), rfl, rfl, by decide, (lwT2 158 rfl rfl), rfl, by decide +kernel, fun h => by cases h⟩
theorem fl_X3_43 : FL "ThreeColours$Mender" 43 3 9 := ⟨(RX3, TX3, 12), rfl, rfl, by decide, (lwT2 159 rfl rfl)⟩
theorem fp_X3_43 : FP "ThreeColours$Mender" 43 3 9 false .long := ⟨(RX3, TX3, 12), rfl, rfl, by decide, (lwT2 159 rfl rfl), rfl, by decide +kernel, fun h => by cases h⟩
theorem fl_X3_50 : FL "ThreeColours$Mender" 50 3 10 := ⟨(RX3, TX3, 12), rfl, rfl, by decide, (lwT2 160 rfl rfl)⟩
theorem fp_X3_50 : FP "ThreeColours$Mender" 50 3 10 false .int := ⟨(RX3, TX3, 12), rfl, rfl, by decide, (lwT2 160 rfl rfl), rfl, by decide +kernel, fun h => by cases h⟩
theorem fl_X3_31 : FL "ThreeColours$Mender" 31 3 11 := ⟨(RX3, TX3, 12), rfl, rfl, by decide, (lwT2 161 rfl rfl)⟩
theorem fp_X3_31 : FP "ThreeColours$Mender" 31 3 11 false .int := ⟨(RX3, TX3, 12), rfl, rfl, by decide, (lwT2 161 rfl rfl), rfl, by decide +kernel, fun h => by cases h⟩
theorem lk_X11_82 : Cond.methodLink "ThreeColours" 82 yX10_init ∈ lwG := (lwT2 189 rfl rfl)
theorem lk_X10_3 : Cond.methodLink "ThreeColours$Walker" 3 Lib.objectInit ∈ lwG := (lwT2 192 rfl rfl)
theorem fl_X10_28 : FL "ThreeColours$Walker" 28 10 0 := ⟨(RX10, TX10, 9), rfl, rfl, by decide, (lwT2 193 rfl rfl)⟩
theorem fp_X10_28 : FP "ThreeColours$Walker" 28 10 0 true (tyX10 0) := ⟨(RX10, TX10, 9), rfl, rfl, by decide, (lwT2 193 rfl rfl), rfl, by decide +kernel, fun _ => rfl⟩
theorem fl_X10_32 : FL "ThreeColours$Walker" 32 10 1 := ⟨(RX10, TX10, 9), rfl, rfl, by decide, (lwT2 194 rfl rfl)⟩
theorem fp_X10_32 : FP "ThreeColours$Walker" 32 10 1 true (tyX10 1) := ⟨(RX10, TX10, 9), rfl, rfl, by decide, (lwT2 194 rfl rfl), rfl, by decide +kernel, fun _ => rfl⟩
theorem fl_X10_9 : FL "ThreeColours$Walker" 9 10 2 := ⟨(RX10, TX10, 9), rfl, rfl, by decide, (lwT2 195 rfl rfl)⟩
theorem fp_X10_9 : FP "ThreeColours$Walker" 9 10 2 true (tyX10 2) := ⟨(RX10, TX10, 9), rfl, rfl, by decide, (lwT2 195 rfl rfl), rfl, by decide +kernel, fun _ => rfl⟩
theorem fl_X10_15 : FL "ThreeColours$Walker" 15 10 3 := ⟨(RX10, TX10, 9), rfl, rfl, by decide, (lwT2 196 rfl rfl)⟩
theorem fp_X10_15 : FP "ThreeColours$Walker" 15 10 3 true (tyX10 3) := ⟨(RX10, TX10, 9), rfl, rfl, by decide, (lwT2 196 rfl rfl), rfl, by decide +kernel, fun _ => rfl⟩
theorem fl_X10_18 : FL "ThreeColours$Walker" 18 10 4 := ⟨(RX10, TX10, 9), rfl, rfl, by decide, (lwT2 197 rfl rfl)⟩
theorem fp_X10_18 : FP "ThreeColours$Walker" 18 10 4 true (tyX10 4) := ⟨(RX10, TX10, 9), rfl, rfl, by decide, (lwT2 197 rfl rfl), rfl, by decide +kernel, fun _ => rfl⟩
theorem fl_X11_313 : FL "ThreeColours" 313 10 4 := ⟨(RX10, TX10, 9), rfl, rfl, by decide, (lwT2 198 rfl rfl)⟩
theorem fl_X10_47 : FL "ThreeColours$Walker" 47 10 5 := ⟨(RX10, TX10, 9), rfl, rfl, by decide, (lwT2 199 rfl rfl)⟩
theorem fp_X10_47 : FP "ThreeColours$Walker" 47 10 5 false .int := ⟨(RX10, TX10, 9), rfl, rfl, by decide, (lwT2 199 rfl rfl), rfl, by decide +kernel, fun h => by cases h⟩
theorem fl_X11_310 : FL "ThreeColours" 310 10 5 := ⟨(RX10, TX10, 9), rfl, rfl, by decide, (lwT2 200 rfl rfl)⟩
theorem fp_X11_310 : FP "ThreeColours" 310 10 5 false .int := ⟨(RX10, TX10, 9), rfl, rfl, by decide, (lwT2 200 rfl rfl), rfl, by decide +kernel, fun h => by cases h⟩
theorem fl_X10_39 : FL "ThreeColours$Walker" 39 10 6 := ⟨(RX10, TX10, 9), rfl, rfl, by decide, (lwT2 201 rfl rfl)⟩
theorem fp_X10_39 : FP "ThreeColours$Walker" 39 10 6 false .int := ⟨(RX10, TX10, 9), rfl, rfl, by decide, (lwT2 201 rfl rfl), rfl, by decide +kernel, fun h => by cases h⟩
theorem fl_X10_21 : FL "ThreeColours$Walker" 21 10 7 := ⟨(RX10, TX10, 9), rfl, rfl, by decide, (lwT2 202 rfl rfl)⟩
theorem fp_X10_21 : FP "ThreeColours$Walker" 21 10 7 false .int := ⟨(RX10, TX10, 9), rfl, rfl, by decide, (lwT2 202 rfl rfl), rfl, by decide +kernel, fun h => by cases h⟩
theorem fl_X10_25 : FL "ThreeColours$Walker" 25 10 8 := ⟨(RX10, TX10, 9), rfl, rfl, by decide, (lwT2 203 rfl rfl)⟩
theorem fp_X10_25 : FP "ThreeColours$Walker" 25 10 8 false .int := ⟨(RX10, TX10, 9), rfl, rfl, by decide, (lwT2 203 rfl rfl), rfl, by decide +kernel, fun h => by cases h⟩
theorem lk_X11_91 : Cond.methodLink "ThreeColours" 91 yX4_init ∈ lwG := (lwT2 225 rfl rfl)
theorem lk_X4_3 : Cond.methodLink "ThreeColours$Outing" 3 Lib.objectInit ∈ lwG := (lwT2 228 rfl rfl)
theorem fl_X4_15 : FL "ThreeColours$Outing" 15 4 0 := ⟨(RX4, TX4, 5), rfl, rfl, by decide, (lwT2 229 rfl rfl)⟩
theorem fp_X4_15 : FP "ThreeColours$Outing" 15 4 0 true (tyX4 0) := ⟨(RX4, TX4, 5), rfl, rfl, by decide, (lwT2 229 rfl rfl), rfl, by decide +kernel, fun _ => rfl⟩
theorem fl_X4_19 : FL "ThreeColours$Outing" 19 4 1 := ⟨(RX4, TX4, 5), rfl, rfl, by decide, (lwT2 230 rfl rfl)⟩
theorem fp_X4_19 : FP "ThreeColours$Outing" 19 4 1 true (tyX4 1) := ⟨(RX4, TX4, 5), rfl, rfl, by decide, (lwT2 230 rfl rfl), rfl, by decide +kernel, fun _ => rfl⟩
theorem fl_X4_9 : FL "ThreeColours$Outing" 9 4 2 := ⟨(RX4, TX4, 5), rfl, rfl, by decide, (lwT2 231 rfl rfl)⟩
theorem fp_X4_9 : FP "ThreeColours$Outing" 9 4 2 true (tyX4 2) := ⟨(RX4, TX4, 5), rfl, rfl, by decide, (lwT2 231 rfl rfl), rfl, by decide +kernel, fun _ => rfl⟩
theorem fl_X11_331 : FL "ThreeColours" 331 4 2 := ⟨(RX4, TX4, 5), rfl, rfl, by decide, (lwT2 232 rfl rfl)⟩
theorem fl_X4_32 : FL "ThreeColours$Outing" 32 4 3 := ⟨(RX4, TX4, 5), rfl, rfl, by decide, (lwT2 233 rfl rfl)⟩
theorem fp_X4_32 : FP "ThreeColours$Outing" 32 4 3 false .int := ⟨(RX4, TX4, 5), rfl, rfl, by decide, (lwT2 233 rfl rfl), rfl, by decide +kernel, fun h => by cases h⟩
theorem fl_X11_330 : FL "ThreeColours" 330 4 3 := ⟨(RX4, TX4, 5), rfl, rfl, by decide, (lwT2 234 rfl rfl)⟩
theorem fp_X11_330 : FP "ThreeColours" 330 4 3 false .int := ⟨(RX4, TX4, 5), rfl, rfl, by decide, (lwT2 234 rfl rfl), rfl, by decide +kernel, fun h => by cases h⟩
theorem fl_X4_23 : FL "ThreeColours$Outing" 23 4 4 := ⟨(RX4, TX4, 5), rfl, rfl, by decide, (lwT2 235 rfl rfl)⟩
theorem fp_X4_23 : FP "ThreeColours$Outing" 23 4 4 false .int := ⟨(RX4, TX4, 5), rfl, rfl, by decide, (lwT2 235 rfl rfl), rfl, by decide +kernel, fun h => by cases h⟩
theorem lk_X11_98 : Cond.methodLink "ThreeColours" 98 yX6_init ∈ lwG := (lwT3 9 rfl rfl)
theorem lk_X6_3 : Cond.methodLink "ThreeColours$Procession" 3 Lib.objectInit ∈ lwG := (lwT3 12 rfl rfl)
theorem fl_X6_18 : FL "ThreeColours$Procession" 18 6 0 := ⟨(RX6, TX6, 6), rfl, rfl, by decide, (lwT3 13 rfl rfl)⟩
theorem fp_X6_18 : FP "ThreeColours$Procession" 18 6 0 true (tyX6 0) := ⟨(RX6, TX6, 6), rfl, rfl, by decide, (lwT3 13 rfl rfl), rfl, by decide +kernel, fun _ => rfl⟩
theorem fl_X6_9 : FL "ThreeColours$Procession" 9 6 1 := ⟨(RX6, TX6, 6), rfl, rfl, by decide, (lwT3 14 rfl rfl)⟩
theorem fp_X6_9 : FP "ThreeColours$Procession" 9 6 1 true (tyX6 1) := ⟨(RX6, TX6, 6), rfl, rfl, by decide, (lwT3 14 rfl rfl), rfl, by decide +kernel, fun _ => rfl⟩
theorem fl_X6_15 : FL "ThreeColours$Procession" 15 6 2 := ⟨(RX6, TX6, 6), rfl, rfl, by decide, (lwT3 15 rfl rfl)⟩
theorem fp_X6_15 : FP "ThreeColours$Procession" 15 6 2 true (tyX6 2) := ⟨(RX6, TX6, 6), rfl, rfl, by decide, (lwT3 15 rfl rfl), rfl, by decide +kernel, fun _ => rfl⟩
theorem fl_X11_322 : FL "ThreeColours" 322 6 2 := ⟨(RX6, TX6, 6), rfl, rfl, by decide, (lwT3 16 rfl rfl)⟩
theorem fl_X6_29 : FL "ThreeColours$Procession" 29 6 3 := ⟨(RX6, TX6, 6), rfl, rfl, by decide, (lwT3 17 rfl rfl)⟩
theorem fp_X6_29 : FP "ThreeColours$Procession" 29 6 3 false .int := ⟨(RX6, TX6, 6), rfl, rfl, by decide, (lwT3 17 rfl rfl), rfl, by decide +kernel, fun h => by cases h⟩
theorem fl_X11_319 : FL "ThreeColours" 319 6 3 := ⟨(RX6, TX6, 6), rfl, rfl, by decide, (lwT3 18 rfl rfl)⟩
theorem fp_X11_319 : FP "ThreeColours" 319 6 3 false .int := ⟨(RX6, TX6, 6), rfl, rfl, by decide, (lwT3 18 rfl rfl), rfl, by decide +kernel, fun h => by cases h⟩
theorem fl_X6_22 : FL "ThreeColours$Procession" 22 6 4 := ⟨(RX6, TX6, 6), rfl, rfl, by decide, (lwT3 19 rfl rfl)⟩
theorem fp_X6_22 : FP "ThreeColours$Procession" 22 6 4 false .int := ⟨(RX6, TX6, 6), rfl, rfl, by decide, (lwT3 19 rfl rfl), rfl, by decide +kernel, fun h => by cases h⟩
theorem fl_X6_26 : FL "ThreeColours$Procession" 26 6 5 := ⟨(RX6, TX6, 6), rfl, rfl, by decide, (lwT3 20 rfl rfl)⟩
theorem fp_X6_26 : FP "ThreeColours$Procession" 26 6 5 false .int := ⟨(RX6, TX6, 6), rfl, rfl, by decide, (lwT3 20 rfl rfl), rfl, by decide +kernel, fun h => by cases h⟩
theorem fl_X11_10 : FL "ThreeColours" 10 11 0 := ⟨(RX11, TX11, 19), rfl, rfl, by decide, (lwT3 34 rfl rfl)⟩
theorem fp_X11_10 : FP "ThreeColours" 10 11 0 true (tyX11 0) := ⟨(RX11, TX11, 19), rfl, rfl, by decide, (lwT3 34 rfl rfl), rfl, by decide +kernel, fun _ => rfl⟩
theorem fl_X11_16 : FL "ThreeColours" 16 11 1 := ⟨(RX11, TX11, 19), rfl, rfl, by decide, (lwT3 35 rfl rfl)⟩
theorem fp_X11_16 : FP "ThreeColours" 16 11 1 true (tyX11 1) := ⟨(RX11, TX11, 19), rfl, rfl, by decide, (lwT3 35 rfl rfl), rfl, by decide +kernel, fun _ => rfl⟩
theorem fl_X11_20 : FL "ThreeColours" 20 11 2 := ⟨(RX11, TX11, 19), rfl, rfl, by decide, (lwT3 36 rfl rfl)⟩
theorem fp_X11_20 : FP "ThreeColours" 20 11 2 true (tyX11 2) := ⟨(RX11, TX11, 19), rfl, rfl, by decide, (lwT3 36 rfl rfl), rfl, by decide +kernel, fun _ => rfl⟩
theorem fl_X11_24 : FL "ThreeColours" 24 11 3 := ⟨(RX11, TX11, 19), rfl, rfl, by decide, (lwT3 37 rfl rfl)⟩
theorem fp_X11_24 : FP "ThreeColours" 24 11 3 true (tyX11 3) := ⟨(RX11, TX11, 19), rfl, rfl, by decide, (lwT3 37 rfl rfl), rfl, by decide +kernel, fun _ => rfl⟩
theorem fl_X11_32 : FL "ThreeColours" 32 11 4 := ⟨(RX11, TX11, 19), rfl, rfl, by decide, (lwT3 38 rfl rfl)⟩
theorem fp_X11_32 : FP "ThreeColours" 32 11 4 true (tyX11 4) := ⟨(RX11, TX11, 19), rfl, rfl, by decide, (lwT3 38 rfl rfl), rfl, by decide +kernel, fun _ => rfl⟩
theorem fl_X11_41 : FL "ThreeColours" 41 11 5 := ⟨(RX11, TX11, 19), rfl, rfl, by decide, (lwT3 39 rfl rfl)⟩
theorem fp_X11_41 : FP "ThreeColours" 41 11 5 true (tyX11 5) := ⟨(RX11, TX11, 19), rfl, rfl, by decide, (lwT3 39 rfl rfl), rfl, by decide +kernel, fun _ => rfl⟩
theorem fl_X11_50 : FL "ThreeColours" 50 11 6 := ⟨(RX11, TX11, 19), rfl, rfl, by decide, (lwT3 40 rfl rfl)⟩
theorem fp_X11_50 : FP "ThreeColours" 50 11 6 true (tyX11 6) := ⟨(RX11, TX11, 19), rfl, rfl, by decide, (lwT3 40 rfl rfl), rfl, by decide +kernel, fun _ => rfl⟩
theorem fl_X11_57 : FL "ThreeColours" 57 11 7 := ⟨(RX11, TX11, 19), rfl, rfl, by decide, (lwT3 41 rfl rfl)⟩
theorem fp_X11_57 : FP "ThreeColours" 57 11 7 true (tyX11 7) := ⟨(RX11, TX11, 19), rfl, rfl, by decide, (lwT3 41 rfl rfl), rfl, by decide +kernel, fun _ => rfl⟩
theorem fl_X11_66 : FL "ThreeColours" 66 11 8 := ⟨(RX11, TX11, 19), rfl, rfl, by decide, (lwT3 42 rfl rfl)⟩
theorem fp_X11_66 : FP "ThreeColours" 66 11 8 true (tyX11 8) := ⟨(RX11, TX11, 19), rfl, rfl, by decide, (lwT3 42 rfl rfl), rfl, by decide +kernel, fun _ => rfl⟩
theorem fl_X11_70 : FL "ThreeColours" 70 11 9 := ⟨(RX11, TX11, 19), rfl, rfl, by decide, (lwT3 43 rfl rfl)⟩
theorem fp_X11_70 : FP "ThreeColours" 70 11 9 true (tyX11 9) := ⟨(RX11, TX11, 19), rfl, rfl, by decide, (lwT3 43 rfl rfl), rfl, by decide +kernel, fun _ => rfl⟩
theorem fl_X11_76 : FL "ThreeColours" 76 11 10 := ⟨(RX11, TX11, 19), rfl, rfl, by decide, (lwT3 44 rfl rfl)⟩
theorem fp_X11_76 : FP "ThreeColours" 76 11 10 true (tyX11 10) := ⟨(RX11, TX11, 19), rfl, rfl, by decide, (lwT3 44 rfl rfl), rfl, by decide +kernel, fun _ => rfl⟩
theorem fl_X11_85 : FL "ThreeColours" 85 11 11 := ⟨(RX11, TX11, 19), rfl, rfl, by decide, (lwT3 45 rfl rfl)⟩
theorem fp_X11_85 : FP "ThreeColours" 85 11 11 true (tyX11 11) := ⟨(RX11, TX11, 19), rfl, rfl, by decide, (lwT3 45 rfl rfl), rfl, by decide +kernel, fun _ => rfl⟩
theorem fl_X11_92 : FL "ThreeColours" 92 11 12 := ⟨(RX11, TX11, 19), rfl, rfl, by decide, (lwT3 46 rfl rfl)⟩
theorem fp_X11_92 : FP "ThreeColours" 92 11 12 true (tyX11 12) := ⟨(RX11, TX11, 19), rfl, rfl, by decide, (lwT3 46 rfl rfl), rfl, by decide +kernel, fun _ => rfl⟩
theorem fl_X11_99 : FL "ThreeColours" 99 11 13 := ⟨(RX11, TX11, 19), rfl, rfl, by decide, (lwT3 47 rfl rfl)⟩
theorem fp_X11_99 : FP "ThreeColours" 99 11 13 true (tyX11 13) := ⟨(RX11, TX11, 19), rfl, rfl, by decide, (lwT3 47 rfl rfl), rfl, by decide +kernel, fun _ => rfl⟩
theorem fl_X11_337 : FL "ThreeColours" 337 11 14 := ⟨(RX11, TX11, 19), rfl, rfl, by decide, (lwT3 48 rfl rfl)⟩
theorem fp_X11_337 : FP "ThreeColours" 337 11 14 false .int := ⟨(RX11, TX11, 19), rfl, rfl, by decide, (lwT3 48 rfl rfl), rfl, by decide +kernel, fun h => by cases h⟩
theorem fl_X11_192 : FL "ThreeColours" 192 11 15 := ⟨(RX11, TX11, 19), rfl, rfl, by decide, (lwT3 49 rfl rfl)⟩
theorem fp_X11_192 : FP "ThreeColours" 192 11 15 false .int := ⟨(RX11, TX11, 19), rfl, rfl, by decide, (lwT3 49 rfl rfl), rfl, by decide +kernel, fun h => by cases h⟩
theorem fl_X11_103 : FL "ThreeColours" 103 11 16 := ⟨(RX11, TX11, 19), rfl, rfl, by decide, (lwT3 50 rfl rfl)⟩
theorem fp_X11_103 : FP "ThreeColours" 103 11 16 false .int := ⟨(RX11, TX11, 19), rfl, rfl, by decide, (lwT3 50 rfl rfl), rfl, by decide +kernel, fun h => by cases h⟩
theorem fl_X11_203 : FL "ThreeColours" 203 11 17 := ⟨(RX11, TX11, 19), rfl, rfl, by decide, (lwT3 51 rfl rfl)⟩
theorem fp_X11_203 : FP "ThreeColours" 203 11 17 false .int := ⟨(RX11, TX11, 19), rfl, rfl, by decide, (lwT3 51 rfl rfl), rfl, by decide +kernel, fun h => by cases h⟩
theorem fl_X11_340 : FL "ThreeColours" 340 11 18 := ⟨(RX11, TX11, 19), rfl, rfl, by decide, (lwT3 52 rfl rfl)⟩
theorem fp_X11_340 : FP "ThreeColours" 340 11 18 false .int := ⟨(RX11, TX11, 19), rfl, rfl, by decide, (lwT3 52 rfl rfl), rfl, by decide +kernel, fun h => by cases h⟩
theorem lk_L_13 : Cond.methodLink "ThreeColoursLaw" 13 yX11_thing ∈ lwG := (lwT3 92 rfl rfl)
theorem lk_X11_107 : Cond.methodLink "ThreeColours" 107 yX11_upTo ∈ lwG := (lwT3 96 rfl rfl)
theorem lk_X11_111 : Cond.methodLink "ThreeColours" 111 yX11_refuse ∈ lwG := (lwT3 99 rfl rfl)
theorem lk_X11_118 : Cond.methodLink "ThreeColours" 118 yX9_addThing ∈ lwG := (lwT3 103 rfl rfl)
theorem lk_X11_122 : Cond.methodLink "ThreeColours" 122 yX11_changed ∈ lwG := (lwT3 107 rfl rfl)
theorem lk_X11_327 : Cond.methodLink "ThreeColours" 327 yX11_granted ∈ lwG := (lwT3 111 rfl rfl)
theorem lk_L_18 : Cond.methodLink "ThreeColoursLaw" 18 yX11_put ∈ lwG := (lwT3 115 rfl rfl)
theorem lk_X11_128 : Cond.methodLink "ThreeColours" 128 yX11_below ∈ lwG := (lwT3 121 rfl rfl)
theorem lk_X11_131 : Cond.methodLink "ThreeColours" 131 yX9_trait ∈ lwG := (lwT3 124 rfl rfl)
theorem lk_L_23 : Cond.methodLink "ThreeColoursLaw" 23 yX11_bloom ∈ lwG := (lwT3 128 rfl rfl)
theorem lk_L_27 : Cond.methodLink "ThreeColoursLaw" 27 yX11_window ∈ lwG := (lwT3 132 rfl rfl)
theorem lk_X11_141 : Cond.methodLink "ThreeColours" 141 yX9_addWindow ∈ lwG := (lwT3 136 rfl rfl)
theorem lk_L_31 : Cond.methodLink "ThreeColoursLaw" 31 yX11_turn ∈ lwG := (lwT3 140 rfl rfl)
theorem lk_X11_148 : Cond.methodLink "ThreeColours" 148 yX9_view ∈ lwG := (lwT3 146 rfl rfl)
theorem lk_L_35 : Cond.methodLink "ThreeColoursLaw" 35 yX11_of ∈ lwG := (lwT3 150 rfl rfl)
theorem lk_X11_157 : Cond.methodLink "ThreeColours" 157 yX9_shownIn ∈ lwG := (lwT3 154 rfl rfl)
theorem lk_X9_52 : Cond.methodLink "ThreeColours$Town" 52 yX9_trait ∈ lwG := (lwT3 158 rfl rfl)
theorem lk_L_40 : Cond.methodLink "ThreeColoursLaw" 40 yX11_street ∈ lwG := (lwT3 159 rfl rfl)
theorem lk_X11_163 : Cond.methodLink "ThreeColours" 163 yX9_join ∈ lwG := (lwT3 163 rfl rfl)
theorem lk_L_44 : Cond.methodLink "ThreeColoursLaw" 44 yX11_person ∈ lwG := (lwT3 167 rfl rfl)
theorem lk_L_49 : Cond.methodLink "ThreeColoursLaw" 49 yX11_coat ∈ lwG := (lwT3 171 rfl rfl)
theorem lk_L_53 : Cond.methodLink "ThreeColoursLaw" 53 yX11_same ∈ lwG := (lwT3 175 rfl rfl)
theorem lk_X11_176 : Cond.methodLink "ThreeColours" 176 yX9_gather ∈ lwG := (lwT3 179 rfl rfl)
theorem lk_X9_56 : Cond.methodLink "ThreeColours$Town" 56 yJ7_fill_53178 ∈ lwG := (lwT3 183 rfl rfl)
theorem lk_X9_62 : Cond.methodLink "ThreeColours$Town" 62 yX9_allWith ∈ lwG := (lwT3 186 rfl rfl)
theorem lk_L_57 : Cond.methodLink "ThreeColoursLaw" 57 yX11_counts ∈ lwG := (lwT3 190 rfl rfl)
theorem lk_L_61 : Cond.methodLink "ThreeColoursLaw" 61 yX11_month ∈ lwG := (lwT3 194 rfl rfl)
theorem lk_L_65 : Cond.methodLink "ThreeColoursLaw" 65 yX11_walk ∈ lwG := (lwT3 198 rfl rfl)
theorem lk_X11_185 : Cond.methodLink "ThreeColours" 185 yX9_addWalk ∈ lwG := (lwT3 202 rfl rfl)
theorem lk_L_69 : Cond.methodLink "ThreeColoursLaw" 69 yX11_where ∈ lwG := (lwT3 206 rfl rfl)
theorem lk_X11_189 : Cond.methodLink "ThreeColours" 189 yX9_placeAt ∈ lwG := (lwT3 210 rfl rfl)
theorem lk_L_73 : Cond.methodLink "ThreeColoursLaw" 73 yX11_feed ∈ lwG := (lwT3 214 rfl rfl)
theorem lk_X11_195 : Cond.methodLink "ThreeColours" 195 yX11_append ∈ lwG := (lwT3 218 rfl rfl)
theorem lk_L_77 : Cond.methodLink "ThreeColoursLaw" 77 yX11_end ∈ lwG := (lwT3 222 rfl rfl)
theorem lk_L_81 : Cond.methodLink "ThreeColoursLaw" 81 yX11_row ∈ lwG := (lwT3 226 rfl rfl)
theorem lk_X11_199 : Cond.methodLink "ThreeColours" 199 yX11_comes ∈ lwG := (lwT3 230 rfl rfl)
theorem lk_L_86 : Cond.methodLink "ThreeColoursLaw" 86 yX11_spoilt ∈ lwG := (lwT3 234 rfl rfl)
theorem lk_L_90 : Cond.methodLink "ThreeColoursLaw" 90 yX11_law ∈ lwG := (lwT3 238 rfl rfl)
theorem lk_X11_209 : Cond.methodLink "ThreeColours" 209 yX7_lawOf ∈ lwG := (lwT4 2 rfl rfl)
theorem lk_X7_42 : Cond.methodLink "ThreeColours$Reader" 42 yJ7_fill_53178 ∈ lwG := (lwT4 6 rfl rfl)
theorem lk_X7_48 : Cond.methodLink "ThreeColours$Reader" 48 yX7_step ∈ lwG := (lwT4 7 rfl rfl)
theorem lk_X7_103 : Cond.methodLink "ThreeColours$Reader" 103 yX7_isLetter ∈ lwG := (lwT4 11 rfl rfl)
theorem lk_X7_106 : Cond.methodLink "ThreeColours$Reader" 106 yX7_wordThere ∈ lwG := (lwT4 14 rfl rfl)
theorem lk_X7_118 : Cond.methodLink "ThreeColours$Reader" 118 yJ0_length_8abf5 ∈ lwG := (lwT4 19 rfl rfl)
theorem lk_java_lang_String_335 : Cond.methodLink "java/lang/String" 335 yJ0_coder_7d493 ∈ lwG := (lwT4 23 rfl rfl)
theorem lk_X7_122 : Cond.methodLink "ThreeColours$Reader" 122 yJ0_charAt_5068e ∈ lwG := (lwT4 29 rfl rfl)
theorem lk_java_lang_String_492 : Cond.methodLink "java/lang/String" 492 yJ0_isLatin1_aae02 ∈ lwG := (lwT4 33 rfl rfl)
theorem lk_java_lang_String_495 : Cond.methodLink "java/lang/String" 495 yJ1_charAt_3b067 ∈ lwG := (lwT4 37 rfl rfl)
theorem lk_java_lang_StringLatin1_9 : Cond.methodLink "java/lang/StringLatin1" 9 yJ0_checkIndex_df160 ∈ lwG := (lwT4 40 rfl rfl)
theorem lk_java_lang_String_1059 : Cond.methodLink "java/lang/String" 1059 yJ3_checkIndex_8e157 ∈ lwG := (lwT4 45 rfl rfl)
theorem lk_java_lang_String_498 : Cond.methodLink "java/lang/String" 498 yJ2_charAt_3b067 ∈ lwG := (lwT4 48 rfl rfl)
theorem lk_java_lang_StringUTF16_67 : Cond.methodLink "java/lang/StringUTF16" 67 yJ2_checkIndex_2214a ∈ lwG := (lwT4 51 rfl rfl)
theorem lk_java_lang_StringUTF16_48 : Cond.methodLink "java/lang/StringUTF16" 48 yJ2_length_9d52b ∈ lwG := (lwT4 54 rfl rfl)
theorem lk_java_lang_StringUTF16_414 : Cond.methodLink "java/lang/StringUTF16" 414 yJ0_checkIndex_df160 ∈ lwG := (lwT4 57 rfl rfl)
theorem lk_java_lang_StringUTF16_71 : Cond.methodLink "java/lang/StringUTF16" 71 yJ2_getChar_3b067 ∈ lwG := (lwT4 58 rfl rfl)
theorem lk_X7_110 : Cond.methodLink "ThreeColours$Reader" 110 yX7_isDigit ∈ lwG := (lwT4 67 rfl rfl)
theorem lk_X7_113 : Cond.methodLink "ThreeColours$Reader" 113 yJ9_min_7cf53 ∈ lwG := (lwT4 70 rfl rfl)
theorem lk_X7_51 : Cond.methodLink "ThreeColours$Reader" 51 yX7_readClause ∈ lwG := (lwT4 73 rfl rfl)
theorem lk_X7_68 : Cond.methodLink "ThreeColours$Reader" 68 yX7_readSum ∈ lwG := (lwT4 77 rfl rfl)
theorem lk_X7_94 : Cond.methodLink "ThreeColours$Reader" 94 yX7_readTerm ∈ lwG := (lwT4 81 rfl rfl)
theorem lk_X7_97 : Cond.methodLink "ThreeColours$Reader" 97 yX7_readPart ∈ lwG := (lwT4 85 rfl rfl)
theorem lk_X7_83 : Cond.methodLink "ThreeColours$Reader" 83 yX7_write ∈ lwG := (lwT4 89 rfl rfl)
theorem lk_X7_71 : Cond.methodLink "ThreeColours$Reader" 71 yX7_readTest ∈ lwG := (lwT4 93 rfl rfl)
theorem lk_X7_80 : Cond.methodLink "ThreeColours$Reader" 80 yX7_readBoth ∈ lwG := (lwT4 97 rfl rfl)
theorem lk_X7_91 : Cond.methodLink "ThreeColours$Reader" 91 yX7_readPlain ∈ lwG := (lwT4 101 rfl rfl)
theorem lk_X7_87 : Cond.methodLink "ThreeColours$Reader" 87 yX7_aim ∈ lwG := (lwT4 105 rfl rfl)
theorem lk_X7_74 : Cond.methodLink "ThreeColours$Reader" 74 yJ9_max_7cf53 ∈ lwG := (lwT4 109 rfl rfl)
theorem lk_X7_58 : Cond.methodLink "ThreeColours$Reader" 58 yJ7_copyOf_59c91 ∈ lwG := (lwT4 114 rfl rfl)
theorem lk_java_util_Arrays_304 : Cond.methodLink "java/util/Arrays" 304 yJ9_min_7cf53 ∈ lwG := (lwT4 124 rfl rfl)
theorem lk_X7_62 : Cond.methodLink "ThreeColours$Reader" 62 yX2_init ∈ lwG := (lwT4 128 rfl rfl)
theorem lk_X2_1 : Cond.methodLink "ThreeColours$Law" 1 Lib.objectInit ∈ lwG := (lwT4 131 rfl rfl)
theorem fl_X2_7 : FL "ThreeColours$Law" 7 2 0 := ⟨(RX2, TX2, 3), rfl, rfl, by decide, (lwT4 132 rfl rfl)⟩
theorem fp_X2_7 : FP "ThreeColours$Law" 7 2 0 true (tyX2 0) := ⟨(RX2, TX2, 3), rfl, rfl, by decide, (lwT4 132 rfl rfl), rfl, by decide +kernel, fun _ => rfl⟩
theorem fl_X0_65 : FL "ThreeColours$Asker" 65 2 0 := ⟨(RX2, TX2, 3), rfl, rfl, by decide, (lwT4 133 rfl rfl)⟩
theorem fl_X2_13 : FL "ThreeColours$Law" 13 2 1 := ⟨(RX2, TX2, 3), rfl, rfl, by decide, (lwT4 134 rfl rfl)⟩
theorem fp_X2_13 : FP "ThreeColours$Law" 13 2 1 true (tyX2 1) := ⟨(RX2, TX2, 3), rfl, rfl, by decide, (lwT4 134 rfl rfl), rfl, by decide +kernel, fun _ => rfl⟩
theorem fl_X0_62 : FL "ThreeColours$Asker" 62 2 1 := ⟨(RX2, TX2, 3), rfl, rfl, by decide, (lwT4 135 rfl rfl)⟩
theorem fl_X2_16 : FL "ThreeColours$Law" 16 2 2 := ⟨(RX2, TX2, 3), rfl, rfl, by decide, (lwT4 136 rfl rfl)⟩
theorem fp_X2_16 : FP "ThreeColours$Law" 16 2 2 true (tyX2 2) := ⟨(RX2, TX2, 3), rfl, rfl, by decide, (lwT4 136 rfl rfl), rfl, by decide +kernel, fun _ => rfl⟩
theorem lk_X11_213 : Cond.methodLink "ThreeColours" 213 yX7_place ∈ lwG := (lwT4 145 rfl rfl)
theorem lk_L_94 : Cond.methodLink "ThreeColoursLaw" 94 yX11_fault ∈ lwG := (lwT4 149 rfl rfl)
theorem lk_L_98 : Cond.methodLink "ThreeColoursLaw" 98 yX11_force ∈ lwG := (lwT4 153 rfl rfl)
theorem lk_L_102 : Cond.methodLink "ThreeColoursLaw" 102 yX11_costs ∈ lwG := (lwT4 157 rfl rfl)
theorem lk_X11_224 : Cond.methodLink "ThreeColours" 224 yX0_priceOf ∈ lwG := (lwT4 161 rfl rfl)
theorem lk_X0_39 : Cond.methodLink "ThreeColours$Asker" 39 yX9_trait ∈ lwG := (lwT4 165 rfl rfl)
theorem lk_X0_23 : Cond.methodLink "ThreeColours$Asker" 23 yX0_ask ∈ lwG := (lwT4 166 rfl rfl)
theorem lk_X0_47 : Cond.methodLink "ThreeColours$Asker" 47 yJ7_fill_53178 ∈ lwG := (lwT4 170 rfl rfl)
theorem lk_X0_27 : Cond.methodLink "ThreeColours$Asker" 27 yX0_tells ∈ lwG := (lwT4 171 rfl rfl)
theorem lk_X0_53 : Cond.methodLink "ThreeColours$Asker" 53 yX9_ruling ∈ lwG := (lwT4 175 rfl rfl)
theorem lk_X0_57 : Cond.methodLink "ThreeColours$Asker" 57 yX2_has ∈ lwG := (lwT4 179 rfl rfl)
theorem lk_X0_68 : Cond.methodLink "ThreeColours$Asker" 68 yX0_runs ∈ lwG := (lwT4 183 rfl rfl)
theorem kl_X0_72 : Cond.constantLong "ThreeColours$Asker" 72 (1000000000) ∈ lwG := (lwT4 187 rfl rfl)
theorem kl_X0_74 : Cond.constantLong "ThreeColours$Asker" 74 (-1000000000) ∈ lwG := (lwT4 188 rfl rfl)
theorem lk_X11_343 : Cond.methodLink "ThreeColours" 343 yJ9_min_7cf53 ∈ lwG := (lwT4 192 rfl rfl)
theorem lk_X11_348 : Cond.methodLink "ThreeColours" 348 yJ9_max_7cf53 ∈ lwG := (lwT4 193 rfl rfl)
theorem lk_L_106 : Cond.methodLink "ThreeColoursLaw" 106 yX11_sees ∈ lwG := (lwT4 194 rfl rfl)
theorem lk_X11_227 : Cond.methodLink "ThreeColours" 227 yX8_refresh ∈ lwG := (lwT4 198 rfl rfl)
theorem lk_X8_49 : Cond.methodLink "ThreeColours$Sight" 49 yJ7_fill_53178 ∈ lwG := (lwT4 202 rfl rfl)
theorem lk_X8_55 : Cond.methodLink "ThreeColours$Sight" 55 yX9_ruling ∈ lwG := (lwT4 203 rfl rfl)
theorem lk_X8_59 : Cond.methodLink "ThreeColours$Sight" 59 yX2_mentions ∈ lwG := (lwT4 204 rfl rfl)
theorem lk_X8_71 : Cond.methodLink "ThreeColours$Sight" 71 yX8_layStays ∈ lwG := (lwT4 208 rfl rfl)
theorem lk_X11_230 : Cond.methodLink "ThreeColours" 230 yX8_letOut ∈ lwG := (lwT4 212 rfl rfl)
theorem lk_X11_234 : Cond.methodLink "ThreeColours" 234 yX8_limitAt ∈ lwG := (lwT4 216 rfl rfl)
theorem lk_X8_83 : Cond.methodLink "ThreeColours$Sight" 83 yX0_limitOf ∈ lwG := (lwT4 220 rfl rfl)
theorem lk_X11_237 : Cond.methodLink "ThreeColours" 237 yX8_seenFrom ∈ lwG := (lwT4 224 rfl rfl)
theorem lk_X8_115 : Cond.methodLink "ThreeColours$Sight" 115 yX8_thingsFrom ∈ lwG := (lwT4 228 rfl rfl)
theorem lk_X8_89 : Cond.methodLink "ThreeColours$Sight" 89 yX9_view ∈ lwG := (lwT4 232 rfl rfl)
theorem lk_X8_96 : Cond.methodLink "ThreeColours$Sight" 96 yX9_trait ∈ lwG := (lwT4 233 rfl rfl)
theorem lk_X8_99 : Cond.methodLink "ThreeColours$Sight" 99 yX9_shownIn ∈ lwG := (lwT4 234 rfl rfl)
theorem lk_X8_105 : Cond.methodLink "ThreeColours$Sight" 105 yX0_showsThing ∈ lwG := (lwT4 235 rfl rfl)
theorem lk_X8_121 : Cond.methodLink "ThreeColours$Sight" 121 yX8_oneFrom ∈ lwG := (lwT4 239 rfl rfl)
theorem lk_X8_109 : Cond.methodLink "ThreeColours$Sight" 109 yX0_showsOne ∈ lwG := (lwT5 3 rfl rfl)
theorem lk_X11_240 : Cond.methodLink "ThreeColours" 240 yJ6_bitCount_0f7a4 ∈ lwG := (lwT5 7 rfl rfl)
theorem kc_java_lang_Integer_265 : Cond.constant "java/lang/Integer" 265 (Int32.ofInt 1431655765) ∈ lwG := (lwT5 10 rfl rfl)
theorem kc_java_lang_Integer_266 : Cond.constant "java/lang/Integer" 266 (Int32.ofInt 858993459) ∈ lwG := (lwT5 11 rfl rfl)
theorem kc_java_lang_Integer_267 : Cond.constant "java/lang/Integer" 267 (Int32.ofInt 252645135) ∈ lwG := (lwT5 12 rfl rfl)
theorem lk_L_110 : Cond.methodLink "ThreeColoursLaw" 110 yX11_judge ∈ lwG := (lwT5 13 rfl rfl)
theorem lk_X11_245 : Cond.methodLink "ThreeColours" 245 yX8_sweep ∈ lwG := (lwT5 17 rfl rfl)
theorem lk_X8_140 : Cond.methodLink "ThreeColours$Sight" 140 yX8_refresh ∈ lwG := (lwT5 21 rfl rfl)
theorem lk_X8_152 : Cond.methodLink "ThreeColours$Sight" 152 yX8_letOut ∈ lwG := (lwT5 22 rfl rfl)
theorem lk_X8_156 : Cond.methodLink "ThreeColours$Sight" 156 yX8_failing ∈ lwG := (lwT5 23 rfl rfl)
theorem lk_X8_128 : Cond.methodLink "ThreeColours$Sight" 128 yX8_seenFrom ∈ lwG := (lwT5 27 rfl rfl)
theorem lk_X8_131 : Cond.methodLink "ThreeColours$Sight" 131 yJ6_bitCount_0f7a4 ∈ lwG := (lwT5 28 rfl rfl)
theorem lk_X8_137 : Cond.methodLink "ThreeColours$Sight" 137 yX8_limitAt ∈ lwG := (lwT5 29 rfl rfl)
theorem lk_L_114 : Cond.methodLink "ThreeColoursLaw" 114 yX11_bad ∈ lwG := (lwT5 33 rfl rfl)
theorem lk_L_118 : Cond.methodLink "ThreeColoursLaw" 118 yX11_best ∈ lwG := (lwT5 37 rfl rfl)
theorem lk_X11_260 : Cond.methodLink "ThreeColours" 260 yX11_areMonths ∈ lwG := (lwT5 41 rfl rfl)
theorem lk_X11_263 : Cond.methodLink "ThreeColours" 263 yX11_survey ∈ lwG := (lwT5 44 rfl rfl)
theorem lk_X11_284 : Cond.methodLink "ThreeColours" 284 yX1_prepare ∈ lwG := (lwT5 48 rfl rfl)
theorem lk_X1_67 : Cond.methodLink "ThreeColours$Canvas" 67 yX1_layChoices ∈ lwG := (lwT5 52 rfl rfl)
theorem lk_X1_93 : Cond.methodLink "ThreeColours$Canvas" 93 yX9_trait ∈ lwG := (lwT5 56 rfl rfl)
theorem lk_X1_97 : Cond.methodLink "ThreeColours$Canvas" 97 yX0_priceOf ∈ lwG := (lwT5 57 rfl rfl)
theorem kc_X1_102 : Cond.constant "ThreeColours$Canvas" 102 (Int32.ofInt 65536) ∈ lwG := (lwT5 58 rfl rfl)
theorem lk_X1_71 : Cond.methodLink "ThreeColours$Canvas" 71 yX9_ruling ∈ lwG := (lwT5 59 rfl rfl)
theorem lk_X1_75 : Cond.methodLink "ThreeColours$Canvas" 75 yX2_mentions ∈ lwG := (lwT5 60 rfl rfl)
theorem lk_X1_81 : Cond.methodLink "ThreeColours$Canvas" 81 yJ7_fill_53178 ∈ lwG := (lwT5 61 rfl rfl)
theorem lk_X1_90 : Cond.methodLink "ThreeColours$Canvas" 90 yX1_layRow ∈ lwG := (lwT5 62 rfl rfl)
theorem lk_X1_106 : Cond.methodLink "ThreeColours$Canvas" 106 yX0_limitOf ∈ lwG := (lwT5 66 rfl rfl)
theorem lk_X1_110 : Cond.methodLink "ThreeColours$Canvas" 110 yX1_hue ∈ lwG := (lwT5 67 rfl rfl)
theorem lk_X1_113 : Cond.methodLink "ThreeColours$Canvas" 113 yX9_shownIn ∈ lwG := (lwT5 71 rfl rfl)
theorem lk_X1_116 : Cond.methodLink "ThreeColours$Canvas" 116 yX1_viewOf ∈ lwG := (lwT5 72 rfl rfl)
theorem lk_X1_139 : Cond.methodLink "ThreeColours$Canvas" 139 yX9_view ∈ lwG := (lwT5 76 rfl rfl)
theorem lk_X1_142 : Cond.methodLink "ThreeColours$Canvas" 142 yX0_showsThing ∈ lwG := (lwT5 77 rfl rfl)
theorem lk_X1_120 : Cond.methodLink "ThreeColours$Canvas" 120 yX1_counted ∈ lwG := (lwT5 78 rfl rfl)
theorem kl_X1_156 : Cond.constantLong "ThreeColours$Canvas" 156 (6148914691236517205) ∈ lwG := (lwT5 81 rfl rfl)
theorem kl_X1_158 : Cond.constantLong "ThreeColours$Canvas" 158 (3689348814741910323) ∈ lwG := (lwT5 82 rfl rfl)
theorem kl_X1_160 : Cond.constantLong "ThreeColours$Canvas" 160 (1085102592571150095) ∈ lwG := (lwT5 83 rfl rfl)
theorem kl_X1_124 : Cond.constantLong "ThreeColours$Canvas" 124 (9187201950435737471) ∈ lwG := (lwT5 84 rfl rfl)
theorem kl_X1_126 : Cond.constantLong "ThreeColours$Canvas" 126 (72340172838076673) ∈ lwG := (lwT5 85 rfl rfl)
theorem lk_X1_128 : Cond.methodLink "ThreeColours$Canvas" 128 yX1_mayFail ∈ lwG := (lwT5 86 rfl rfl)
theorem kl_X1_150 : Cond.constantLong "ThreeColours$Canvas" 150 (-9187201950435737472) ∈ lwG := (lwT5 90 rfl rfl)
theorem lk_X1_132 : Cond.methodLink "ThreeColours$Canvas" 132 yX1_isTwice ∈ lwG := (lwT5 91 rfl rfl)
theorem lk_X11_354 : Cond.methodLink "ThreeColours" 354 yX5_survey ∈ lwG := (lwT5 95 rfl rfl)
theorem lk_X5_61 : Cond.methodLink "ThreeColours$Painter" 61 yX5_start ∈ lwG := (lwT5 99 rfl rfl)
theorem lk_X5_80 : Cond.methodLink "ThreeColours$Painter" 80 yX1_bytesOf ∈ lwG := (lwT5 103 rfl rfl)
theorem kl_X1_154 : Cond.constantLong "ThreeColours$Canvas" 154 (255) ∈ lwG := (lwT5 106 rfl rfl)
theorem kc_X5_90 : Cond.constant "ThreeColours$Painter" 90 (Int32.ofInt 16777215) ∈ lwG := (lwT5 107 rfl rfl)
theorem lk_X5_94 : Cond.methodLink "ThreeColours$Painter" 94 yX1_spareOf ∈ lwG := (lwT5 108 rfl rfl)
theorem lk_X1_146 : Cond.methodLink "ThreeColours$Canvas" 146 yX1_bytesOf ∈ lwG := (lwT5 112 rfl rfl)
theorem lk_X5_101 : Cond.methodLink "ThreeColours$Painter" 101 yX5_sumUp ∈ lwG := (lwT5 113 rfl rfl)
theorem lk_X5_114 : Cond.methodLink "ThreeColours$Painter" 114 yX5_leastOf ∈ lwG := (lwT5 117 rfl rfl)
theorem lk_X5_118 : Cond.methodLink "ThreeColours$Painter" 118 yJ9_min_7cf53 ∈ lwG := (lwT5 120 rfl rfl)
theorem kc_X5_123 : Cond.constant "ThreeColours$Painter" 123 (Int32.ofInt 65280) ∈ lwG := (lwT5 121 rfl rfl)
theorem kc_X5_124 : Cond.constant "ThreeColours$Painter" 124 (Int32.ofInt 16711680) ∈ lwG := (lwT5 122 rfl rfl)
theorem lk_X5_68 : Cond.methodLink "ThreeColours$Painter" 68 yX5_go ∈ lwG := (lwT5 123 rfl rfl)
theorem lk_X5_125 : Cond.methodLink "ThreeColours$Painter" 125 yX1_mayFail ∈ lwG := (lwT5 127 rfl rfl)
theorem lk_X5_129 : Cond.methodLink "ThreeColours$Painter" 129 yX5_record ∈ lwG := (lwT5 128 rfl rfl)
theorem lk_X5_132 : Cond.methodLink "ThreeColours$Painter" 132 yX5_explore ∈ lwG := (lwT5 132 rfl rfl)
theorem lk_X5_136 : Cond.methodLink "ThreeColours$Painter" 136 yX5_isOutdone ∈ lwG := (lwT5 136 rfl rfl)
theorem lk_X5_144 : Cond.methodLink "ThreeColours$Painter" 144 yX1_showsNoMore ∈ lwG := (lwT5 140 rfl rfl)
theorem kl_X1_152 : Cond.constantLong "ThreeColours$Canvas" 152 (-1) ∈ lwG := (lwT5 144 rfl rfl)
theorem lk_X5_140 : Cond.methodLink "ThreeColours$Painter" 140 yX5_look ∈ lwG := (lwT5 145 rfl rfl)
theorem lk_X5_151 : Cond.methodLink "ThreeColours$Painter" 151 yX1_counted ∈ lwG := (lwT5 149 rfl rfl)
theorem kl_X5_155 : Cond.constantLong "ThreeColours$Painter" 155 (-9187201950435737472) ∈ lwG := (lwT5 150 rfl rfl)
theorem lk_L_122 : Cond.methodLink "ThreeColoursLaw" 122 yX11_paint ∈ lwG := (lwT5 151 rfl rfl)
theorem lk_X11_278 : Cond.methodLink "ThreeColours" 278 yX1_hue ∈ lwG := (lwT5 155 rfl rfl)
theorem lk_L_126 : Cond.methodLink "ThreeColoursLaw" 126 yX11_fewest ∈ lwG := (lwT5 156 rfl rfl)
theorem lk_X11_281 : Cond.methodLink "ThreeColours" 281 yX5_fewestOf ∈ lwG := (lwT5 160 rfl rfl)
theorem lk_L_130 : Cond.methodLink "ThreeColoursLaw" 130 yX11_take ∈ lwG := (lwT5 164 rfl rfl)
theorem lk_L_134 : Cond.methodLink "ThreeColoursLaw" 134 yX11_mend ∈ lwG := (lwT5 168 rfl rfl)
theorem lk_X11_287 : Cond.methodLink "ThreeColours" 287 yX3_search ∈ lwG := (lwT5 172 rfl rfl)
theorem kc_X3_53 : Cond.constant "ThreeColours$Mender" 53 (Int32.ofInt 1000000) ∈ lwG := (lwT5 176 rfl rfl)
theorem lk_X3_62 : Cond.methodLink "ThreeColours$Mender" 62 yX1_spareOf ∈ lwG := (lwT5 177 rfl rfl)
theorem lk_X3_69 : Cond.methodLink "ThreeColours$Mender" 69 yX3_sumUp ∈ lwG := (lwT5 178 rfl rfl)
theorem lk_X3_73 : Cond.methodLink "ThreeColours$Mender" 73 yX3_stillOpen ∈ lwG := (lwT5 182 rfl rfl)
theorem lk_X3_113 : Cond.methodLink "ThreeColours$Mender" 113 yX1_counted ∈ lwG := (lwT5 186 rfl rfl)
theorem lk_X3_119 : Cond.methodLink "ThreeColours$Mender" 119 yX1_mayFail ∈ lwG := (lwT5 187 rfl rfl)
theorem kl_X3_104 : Cond.constantLong "ThreeColours$Mender" 104 (-1) ∈ lwG := (lwT5 188 rfl rfl)
theorem lk_X3_77 : Cond.methodLink "ThreeColours$Mender" 77 yX3_record ∈ lwG := (lwT5 189 rfl rfl)
theorem lk_X3_81 : Cond.methodLink "ThreeColours$Mender" 81 yX3_explore ∈ lwG := (lwT5 193 rfl rfl)
theorem lk_X3_91 : Cond.methodLink "ThreeColours$Mender" 91 yX3_isOutdone ∈ lwG := (lwT5 197 rfl rfl)
theorem kl_X3_102 : Cond.constantLong "ThreeColours$Mender" 102 (255) ∈ lwG := (lwT5 201 rfl rfl)
theorem lk_X3_106 : Cond.methodLink "ThreeColours$Mender" 106 yX1_showsNoMore ∈ lwG := (lwT5 202 rfl rfl)
theorem lk_X3_95 : Cond.methodLink "ThreeColours$Mender" 95 yX3_look ∈ lwG := (lwT5 203 rfl rfl)
theorem kl_X3_117 : Cond.constantLong "ThreeColours$Mender" 117 (-9187201950435737472) ∈ lwG := (lwT5 207 rfl rfl)
theorem lk_X3_98 : Cond.methodLink "ThreeColours$Mender" 98 yX3_shutting ∈ lwG := (lwT5 208 rfl rfl)
theorem lk_X3_126 : Cond.methodLink "ThreeColours$Mender" 126 yX9_view ∈ lwG := (lwT5 212 rfl rfl)
theorem lk_L_138 : Cond.methodLink "ThreeColoursLaw" 138 yX11_shut ∈ lwG := (lwT5 213 rfl rfl)
theorem lk_X11_294 : Cond.methodLink "ThreeColours" 294 yX3_walledUp ∈ lwG := (lwT5 217 rfl rfl)
theorem lk_L_142 : Cond.methodLink "ThreeColoursLaw" 142 yX11_bars ∈ lwG := (lwT5 221 rfl rfl)
theorem lk_X11_297 : Cond.methodLink "ThreeColours" 297 yX5_finds ∈ lwG := (lwT5 225 rfl rfl)
theorem lk_L_146 : Cond.methodLink "ThreeColoursLaw" 146 yX11_third ∈ lwG := (lwT5 229 rfl rfl)
theorem lk_X11_300 : Cond.methodLink "ThreeColours" 300 yX5_highest ∈ lwG := (lwT5 233 rfl rfl)
theorem lk_L_150 : Cond.methodLink "ThreeColoursLaw" 150 yX11_near ∈ lwG := (lwT5 237 rfl rfl)
theorem lk_X11_303 : Cond.methodLink "ThreeColours" 303 yX8_nearest ∈ lwG := (lwT6 1 rfl rfl)
theorem lk_X8_162 : Cond.methodLink "ThreeColours$Sight" 162 yJ9_min_7cf53 ∈ lwG := (lwT6 5 rfl rfl)
theorem lk_X8_167 : Cond.methodLink "ThreeColours$Sight" 167 yJ9_max_7cf53 ∈ lwG := (lwT6 6 rfl rfl)
theorem lk_X8_170 : Cond.methodLink "ThreeColours$Sight" 170 yX8_failingWith ∈ lwG := (lwT6 7 rfl rfl)
theorem lk_L_154 : Cond.methodLink "ThreeColoursLaw" 154 yX11_soon ∈ lwG := (lwT6 11 rfl rfl)
theorem lk_X11_306 : Cond.methodLink "ThreeColours" 306 yX10_find ∈ lwG := (lwT6 15 rfl rfl)
theorem lk_X10_42 : Cond.methodLink "ThreeColours$Walker" 42 yX8_refresh ∈ lwG := (lwT6 19 rfl rfl)
theorem lk_X10_50 : Cond.methodLink "ThreeColours$Walker" 50 yX10_openOf ∈ lwG := (lwT6 20 rfl rfl)
theorem lk_X10_62 : Cond.methodLink "ThreeColours$Walker" 62 yX8_letOut ∈ lwG := (lwT6 24 rfl rfl)
theorem lk_X10_69 : Cond.methodLink "ThreeColours$Walker" 69 yX9_view ∈ lwG := (lwT6 25 rfl rfl)
theorem lk_X10_72 : Cond.methodLink "ThreeColours$Walker" 72 yX8_seenFrom ∈ lwG := (lwT6 26 rfl rfl)
theorem lk_X10_75 : Cond.methodLink "ThreeColours$Walker" 75 yX10_mayStand ∈ lwG := (lwT6 27 rfl rfl)
theorem lk_X10_79 : Cond.methodLink "ThreeColours$Walker" 79 yX8_oneFrom ∈ lwG := (lwT6 31 rfl rfl)
theorem lk_X10_83 : Cond.methodLink "ThreeColours$Walker" 83 yJ6_bitCount_0f7a4 ∈ lwG := (lwT6 32 rfl rfl)
theorem lk_X10_88 : Cond.methodLink "ThreeColours$Walker" 88 yX8_limitAt ∈ lwG := (lwT6 33 rfl rfl)
theorem lk_X10_54 : Cond.methodLink "ThreeColours$Walker" 54 yX10_withStreets ∈ lwG := (lwT6 34 rfl rfl)
theorem lk_X10_58 : Cond.methodLink "ThreeColours$Walker" 58 yX10_trace ∈ lwG := (lwT6 38 rfl rfl)
theorem lk_L_159 : Cond.methodLink "ThreeColoursLaw" 159 yX11_way ∈ lwG := (lwT6 43 rfl rfl)
theorem lk_L_163 : Cond.methodLink "ThreeColoursLaw" 163 yX11_file ∈ lwG := (lwT6 47 rfl rfl)
theorem lk_X11_316 : Cond.methodLink "ThreeColours" 316 yX6_arrange ∈ lwG := (lwT6 51 rfl rfl)
theorem lk_X6_32 : Cond.methodLink "ThreeColours$Procession" 32 yX6_goOn ∈ lwG := (lwT6 55 rfl rfl)
theorem lk_X6_47 : Cond.methodLink "ThreeColours$Procession" 47 yX6_fits ∈ lwG := (lwT6 60 rfl rfl)
theorem lk_X6_51 : Cond.methodLink "ThreeColours$Procession" 51 yJ9_max_7cf53 ∈ lwG := (lwT6 64 rfl rfl)
theorem lk_X6_63 : Cond.methodLink "ThreeColours$Procession" 63 yJ6_bitCount_0f7a4 ∈ lwG := (lwT6 65 rfl rfl)
theorem lk_L_167 : Cond.methodLink "ThreeColoursLaw" 167 yX11_day ∈ lwG := (lwT6 66 rfl rfl)
theorem kc_X11_323 : Cond.constant "ThreeColours" 323 (Int32.ofInt 1000000) ∈ lwG := (lwT6 70 rfl rfl)
theorem lk_X11_324 : Cond.methodLink "ThreeColours" 324 yX4_draw ∈ lwG := (lwT6 71 rfl rfl)
theorem lk_X4_33 : Cond.methodLink "ThreeColours$Outing" 33 yX8_refresh ∈ lwG := (lwT6 75 rfl rfl)
theorem lk_X4_38 : Cond.methodLink "ThreeColours$Outing" 38 yX8_letOut ∈ lwG := (lwT6 76 rfl rfl)
theorem lk_X4_42 : Cond.methodLink "ThreeColours$Outing" 42 yX4_drawOf ∈ lwG := (lwT6 77 rfl rfl)
theorem kc_X4_60 : Cond.constant "ThreeColours$Outing" 60 (Int32.ofInt 1000003) ∈ lwG := (lwT6 81 rfl rfl)
theorem lk_X4_49 : Cond.methodLink "ThreeColours$Outing" 49 yX4_next ∈ lwG := (lwT6 82 rfl rfl)
theorem lk_X4_55 : Cond.methodLink "ThreeColours$Outing" 55 yJ6_bitCount_0f7a4 ∈ lwG := (lwT6 86 rfl rfl)
theorem lk_X4_52 : Cond.methodLink "ThreeColours$Outing" 52 yX8_failing ∈ lwG := (lwT6 87 rfl rfl)
theorem lk_L_171 : Cond.methodLink "ThreeColoursLaw" 171 yX11_drawn ∈ lwG := (lwT6 88 rfl rfl)
theorem lk_L_175 : Cond.methodLink "ThreeColoursLaw" 175 yX11_image ∈ lwG := (lwT6 92 rfl rfl)
theorem lk_X11_334 : Cond.methodLink "ThreeColours" 334 yX9_becomes ∈ lwG := (lwT6 96 rfl rfl)
theorem lk_L_179 : Cond.methodLink "ThreeColoursLaw" 179 yX11_back ∈ lwG := (lwT6 101 rfl rfl)
theorem lk_L_183 : Cond.methodLink "ThreeColoursLaw" 183 yX11_count ∈ lwG := (lwT6 105 rfl rfl)
theorem lk_L_187 : Cond.methodLink "ThreeColoursLaw" 187 yX11_status ∈ lwG := (lwT6 109 rfl rfl)
theorem lk_L_12 : Cond.methodLink "ThreeColoursLaw" 12 yX12_init ∈ lwG := (lwT6 115 rfl rfl)
theorem lk_X12_14 : Cond.methodLink "ThreeColoursModel" 14 Lib.objectInit ∈ lwG := (lwT6 118 rfl rfl)
theorem fl_X12_3 : FL "ThreeColoursModel" 3 12 0 := ⟨(RX12, TX12, 52), rfl, rfl, by decide, (lwT6 119 rfl rfl)⟩
theorem fp_X12_3 : FP "ThreeColoursModel" 3 12 0 false .int := ⟨(RX12, TX12, 52), rfl, rfl, by decide, (lwT6 119 rfl rfl), rfl, by decide +kernel, fun h => by cases h⟩
theorem fl_X12_11 : FL "ThreeColoursModel" 11 12 1 := ⟨(RX12, TX12, 52), rfl, rfl, by decide, (lwT6 120 rfl rfl)⟩
theorem fp_X12_11 : FP "ThreeColoursModel" 11 12 1 false .int := ⟨(RX12, TX12, 52), rfl, rfl, by decide, (lwT6 120 rfl rfl), rfl, by decide +kernel, fun h => by cases h⟩
theorem fl_X12_7 : FL "ThreeColoursModel" 7 12 2 := ⟨(RX12, TX12, 52), rfl, rfl, by decide, (lwT6 121 rfl rfl)⟩
theorem fp_X12_7 : FP "ThreeColoursModel" 7 12 2 true (tyX12 2) := ⟨(RX12, TX12, 52), rfl, rfl, by decide, (lwT6 121 rfl rfl), rfl, by decide +kernel, fun _ => rfl⟩
theorem fl_X12_20 : FL "ThreeColoursModel" 20 12 3 := ⟨(RX12, TX12, 52), rfl, rfl, by decide, (lwT6 122 rfl rfl)⟩
theorem fp_X12_20 : FP "ThreeColoursModel" 20 12 3 true (tyX12 3) := ⟨(RX12, TX12, 52), rfl, rfl, by decide, (lwT6 122 rfl rfl), rfl, by decide +kernel, fun _ => rfl⟩
theorem fl_X12_23 : FL "ThreeColoursModel" 23 12 4 := ⟨(RX12, TX12, 52), rfl, rfl, by decide, (lwT6 123 rfl rfl)⟩
theorem fp_X12_23 : FP "ThreeColoursModel" 23 12 4 true (tyX12 4) := ⟨(RX12, TX12, 52), rfl, rfl, by decide, (lwT6 123 rfl rfl), rfl, by decide +kernel, fun _ => rfl⟩
theorem fl_X12_26 : FL "ThreeColoursModel" 26 12 5 := ⟨(RX12, TX12, 52), rfl, rfl, by decide, (lwT6 124 rfl rfl)⟩
theorem fp_X12_26 : FP "ThreeColoursModel" 26 12 5 true (tyX12 5) := ⟨(RX12, TX12, 52), rfl, rfl, by decide, (lwT6 124 rfl rfl), rfl, by decide +kernel, fun _ => rfl⟩
theorem fl_X12_177 : FL "ThreeColoursModel" 177 12 6 := ⟨(RX12, TX12, 52), rfl, rfl, by decide, (lwT6 125 rfl rfl)⟩
theorem fp_X12_177 : FP "ThreeColoursModel" 177 12 6 false .int := ⟨(RX12, TX12, 52), rfl, rfl, by decide, (lwT6 125 rfl rfl), rfl, by decide +kernel, fun h => by cases h⟩
theorem fl_X12_30 : FL "ThreeColoursModel" 30 12 7 := ⟨(RX12, TX12, 52), rfl, rfl, by decide, (lwT6 126 rfl rfl)⟩
theorem fp_X12_30 : FP "ThreeColoursModel" 30 12 7 true (tyX12 7) := ⟨(RX12, TX12, 52), rfl, rfl, by decide, (lwT6 126 rfl rfl), rfl, by decide +kernel, fun _ => rfl⟩
theorem fl_X12_34 : FL "ThreeColoursModel" 34 12 8 := ⟨(RX12, TX12, 52), rfl, rfl, by decide, (lwT6 127 rfl rfl)⟩
theorem fp_X12_34 : FP "ThreeColoursModel" 34 12 8 true (tyX12 8) := ⟨(RX12, TX12, 52), rfl, rfl, by decide, (lwT6 127 rfl rfl), rfl, by decide +kernel, fun _ => rfl⟩
theorem fl_X12_37 : FL "ThreeColoursModel" 37 12 9 := ⟨(RX12, TX12, 52), rfl, rfl, by decide, (lwT6 128 rfl rfl)⟩
theorem fp_X12_37 : FP "ThreeColoursModel" 37 12 9 true (tyX12 9) := ⟨(RX12, TX12, 52), rfl, rfl, by decide, (lwT6 128 rfl rfl), rfl, by decide +kernel, fun _ => rfl⟩
theorem fl_X12_174 : FL "ThreeColoursModel" 174 12 10 := ⟨(RX12, TX12, 52), rfl, rfl, by decide, (lwT6 129 rfl rfl)⟩
theorem fp_X12_174 : FP "ThreeColoursModel" 174 12 10 false .int := ⟨(RX12, TX12, 52), rfl, rfl, by decide, (lwT6 129 rfl rfl), rfl, by decide +kernel, fun h => by cases h⟩
theorem fl_X12_40 : FL "ThreeColoursModel" 40 12 11 := ⟨(RX12, TX12, 52), rfl, rfl, by decide, (lwT6 130 rfl rfl)⟩
theorem fp_X12_40 : FP "ThreeColoursModel" 40 12 11 false .int := ⟨(RX12, TX12, 52), rfl, rfl, by decide, (lwT6 130 rfl rfl), rfl, by decide +kernel, fun h => by cases h⟩
theorem fl_X12_43 : FL "ThreeColoursModel" 43 12 12 := ⟨(RX12, TX12, 52), rfl, rfl, by decide, (lwT6 131 rfl rfl)⟩
theorem fp_X12_43 : FP "ThreeColoursModel" 43 12 12 true (tyX12 12) := ⟨(RX12, TX12, 52), rfl, rfl, by decide, (lwT6 131 rfl rfl), rfl, by decide +kernel, fun _ => rfl⟩
theorem fl_X12_46 : FL "ThreeColoursModel" 46 12 13 := ⟨(RX12, TX12, 52), rfl, rfl, by decide, (lwT6 132 rfl rfl)⟩
theorem fp_X12_46 : FP "ThreeColoursModel" 46 12 13 true (tyX12 13) := ⟨(RX12, TX12, 52), rfl, rfl, by decide, (lwT6 132 rfl rfl), rfl, by decide +kernel, fun _ => rfl⟩
theorem fl_X12_49 : FL "ThreeColoursModel" 49 12 14 := ⟨(RX12, TX12, 52), rfl, rfl, by decide, (lwT6 133 rfl rfl)⟩
theorem fp_X12_49 : FP "ThreeColoursModel" 49 12 14 true (tyX12 14) := ⟨(RX12, TX12, 52), rfl, rfl, by decide, (lwT6 133 rfl rfl), rfl, by decide +kernel, fun _ => rfl⟩
theorem fl_X12_180 : FL "ThreeColoursModel" 180 12 15 := ⟨(RX12, TX12, 52), rfl, rfl, by decide, (lwT6 134 rfl rfl)⟩
theorem fp_X12_180 : FP "ThreeColoursModel" 180 12 15 false .int := ⟨(RX12, TX12, 52), rfl, rfl, by decide, (lwT6 134 rfl rfl), rfl, by decide +kernel, fun h => by cases h⟩
theorem fl_X12_200 : FL "ThreeColoursModel" 200 12 16 := ⟨(RX12, TX12, 52), rfl, rfl, by decide, (lwT6 135 rfl rfl)⟩
theorem fp_X12_200 : FP "ThreeColoursModel" 200 12 16 false .int := ⟨(RX12, TX12, 52), rfl, rfl, by decide, (lwT6 135 rfl rfl), rfl, by decide +kernel, fun h => by cases h⟩
theorem fl_X12_209 : FL "ThreeColoursModel" 209 12 17 := ⟨(RX12, TX12, 52), rfl, rfl, by decide, (lwT6 136 rfl rfl)⟩
theorem fp_X12_209 : FP "ThreeColoursModel" 209 12 17 false .int := ⟨(RX12, TX12, 52), rfl, rfl, by decide, (lwT6 136 rfl rfl), rfl, by decide +kernel, fun h => by cases h⟩
theorem fl_X12_193 : FL "ThreeColoursModel" 193 12 18 := ⟨(RX12, TX12, 52), rfl, rfl, by decide, (lwT6 137 rfl rfl)⟩
theorem fp_X12_193 : FP "ThreeColoursModel" 193 12 18 false .int := ⟨(RX12, TX12, 52), rfl, rfl, by decide, (lwT6 137 rfl rfl), rfl, by decide +kernel, fun h => by cases h⟩
theorem fl_X12_253 : FL "ThreeColoursModel" 253 12 19 := ⟨(RX12, TX12, 52), rfl, rfl, by decide, (lwT6 138 rfl rfl)⟩
theorem fp_X12_253 : FP "ThreeColoursModel" 253 12 19 false .int := ⟨(RX12, TX12, 52), rfl, rfl, by decide, (lwT6 138 rfl rfl), rfl, by decide +kernel, fun h => by cases h⟩
theorem fl_X12_250 : FL "ThreeColoursModel" 250 12 20 := ⟨(RX12, TX12, 52), rfl, rfl, by decide, (lwT6 139 rfl rfl)⟩
theorem fp_X12_250 : FP "ThreeColoursModel" 250 12 20 false .int := ⟨(RX12, TX12, 52), rfl, rfl, by decide, (lwT6 139 rfl rfl), rfl, by decide +kernel, fun h => by cases h⟩
theorem fl_X12_263 : FL "ThreeColoursModel" 263 12 21 := ⟨(RX12, TX12, 52), rfl, rfl, by decide, (lwT6 140 rfl rfl)⟩
theorem fp_X12_263 : FP "ThreeColoursModel" 263 12 21 false .boolean := ⟨(RX12, TX12, 52), rfl, rfl, by decide, (lwT6 140 rfl rfl), rfl, by decide +kernel, fun h => by cases h⟩
theorem fl_X12_52 : FL "ThreeColoursModel" 52 12 22 := ⟨(RX12, TX12, 52), rfl, rfl, by decide, (lwT6 141 rfl rfl)⟩
theorem fp_X12_52 : FP "ThreeColoursModel" 52 12 22 true (tyX12 22) := ⟨(RX12, TX12, 52), rfl, rfl, by decide, (lwT6 141 rfl rfl), rfl, by decide +kernel, fun _ => rfl⟩
theorem fl_X12_55 : FL "ThreeColoursModel" 55 12 23 := ⟨(RX12, TX12, 52), rfl, rfl, by decide, (lwT6 142 rfl rfl)⟩
theorem fp_X12_55 : FP "ThreeColoursModel" 55 12 23 true (tyX12 23) := ⟨(RX12, TX12, 52), rfl, rfl, by decide, (lwT6 142 rfl rfl), rfl, by decide +kernel, fun _ => rfl⟩
theorem fl_X12_58 : FL "ThreeColoursModel" 58 12 24 := ⟨(RX12, TX12, 52), rfl, rfl, by decide, (lwT6 143 rfl rfl)⟩
theorem fp_X12_58 : FP "ThreeColoursModel" 58 12 24 true (tyX12 24) := ⟨(RX12, TX12, 52), rfl, rfl, by decide, (lwT6 143 rfl rfl), rfl, by decide +kernel, fun _ => rfl⟩
theorem fl_X12_61 : FL "ThreeColoursModel" 61 12 25 := ⟨(RX12, TX12, 52), rfl, rfl, by decide, (lwT6 144 rfl rfl)⟩
theorem fp_X12_61 : FP "ThreeColoursModel" 61 12 25 true (tyX12 25) := ⟨(RX12, TX12, 52), rfl, rfl, by decide, (lwT6 144 rfl rfl), rfl, by decide +kernel, fun _ => rfl⟩
theorem fl_X12_64 : FL "ThreeColoursModel" 64 12 26 := ⟨(RX12, TX12, 52), rfl, rfl, by decide, (lwT6 145 rfl rfl)⟩
theorem fp_X12_64 : FP "ThreeColoursModel" 64 12 26 true (tyX12 26) := ⟨(RX12, TX12, 52), rfl, rfl, by decide, (lwT6 145 rfl rfl), rfl, by decide +kernel, fun _ => rfl⟩
theorem fl_X12_67 : FL "ThreeColoursModel" 67 12 27 := ⟨(RX12, TX12, 52), rfl, rfl, by decide, (lwT6 146 rfl rfl)⟩
theorem fp_X12_67 : FP "ThreeColoursModel" 67 12 27 true (tyX12 27) := ⟨(RX12, TX12, 52), rfl, rfl, by decide, (lwT6 146 rfl rfl), rfl, by decide +kernel, fun _ => rfl⟩
theorem fl_X12_70 : FL "ThreeColoursModel" 70 12 28 := ⟨(RX12, TX12, 52), rfl, rfl, by decide, (lwT6 147 rfl rfl)⟩
theorem fp_X12_70 : FP "ThreeColoursModel" 70 12 28 true (tyX12 28) := ⟨(RX12, TX12, 52), rfl, rfl, by decide, (lwT6 147 rfl rfl), rfl, by decide +kernel, fun _ => rfl⟩
theorem fl_X12_73 : FL "ThreeColoursModel" 73 12 29 := ⟨(RX12, TX12, 52), rfl, rfl, by decide, (lwT6 148 rfl rfl)⟩
theorem fp_X12_73 : FP "ThreeColoursModel" 73 12 29 true (tyX12 29) := ⟨(RX12, TX12, 52), rfl, rfl, by decide, (lwT6 148 rfl rfl), rfl, by decide +kernel, fun _ => rfl⟩
theorem fl_X12_76 : FL "ThreeColoursModel" 76 12 30 := ⟨(RX12, TX12, 52), rfl, rfl, by decide, (lwT6 149 rfl rfl)⟩
theorem fp_X12_76 : FP "ThreeColoursModel" 76 12 30 true (tyX12 30) := ⟨(RX12, TX12, 52), rfl, rfl, by decide, (lwT6 149 rfl rfl), rfl, by decide +kernel, fun _ => rfl⟩
theorem fl_X12_79 : FL "ThreeColoursModel" 79 12 31 := ⟨(RX12, TX12, 52), rfl, rfl, by decide, (lwT6 150 rfl rfl)⟩
theorem fp_X12_79 : FP "ThreeColoursModel" 79 12 31 true (tyX12 31) := ⟨(RX12, TX12, 52), rfl, rfl, by decide, (lwT6 150 rfl rfl), rfl, by decide +kernel, fun _ => rfl⟩
theorem fl_X12_82 : FL "ThreeColoursModel" 82 12 32 := ⟨(RX12, TX12, 52), rfl, rfl, by decide, (lwT6 151 rfl rfl)⟩
theorem fp_X12_82 : FP "ThreeColoursModel" 82 12 32 false .int := ⟨(RX12, TX12, 52), rfl, rfl, by decide, (lwT6 151 rfl rfl), rfl, by decide +kernel, fun h => by cases h⟩
theorem fl_X12_342 : FL "ThreeColoursModel" 342 12 33 := ⟨(RX12, TX12, 52), rfl, rfl, by decide, (lwT6 152 rfl rfl)⟩
theorem fp_X12_342 : FP "ThreeColoursModel" 342 12 33 false .int := ⟨(RX12, TX12, 52), rfl, rfl, by decide, (lwT6 152 rfl rfl), rfl, by decide +kernel, fun h => by cases h⟩
theorem fl_X12_85 : FL "ThreeColoursModel" 85 12 34 := ⟨(RX12, TX12, 52), rfl, rfl, by decide, (lwT6 153 rfl rfl)⟩
theorem fp_X12_85 : FP "ThreeColoursModel" 85 12 34 false .int := ⟨(RX12, TX12, 52), rfl, rfl, by decide, (lwT6 153 rfl rfl), rfl, by decide +kernel, fun h => by cases h⟩
theorem fl_X12_351 : FL "ThreeColoursModel" 351 12 35 := ⟨(RX12, TX12, 52), rfl, rfl, by decide, (lwT6 154 rfl rfl)⟩
theorem fp_X12_351 : FP "ThreeColoursModel" 351 12 35 false .int := ⟨(RX12, TX12, 52), rfl, rfl, by decide, (lwT6 154 rfl rfl), rfl, by decide +kernel, fun h => by cases h⟩
theorem fl_X12_354 : FL "ThreeColoursModel" 354 12 36 := ⟨(RX12, TX12, 52), rfl, rfl, by decide, (lwT6 155 rfl rfl)⟩
theorem fp_X12_354 : FP "ThreeColoursModel" 354 12 36 false .int := ⟨(RX12, TX12, 52), rfl, rfl, by decide, (lwT6 155 rfl rfl), rfl, by decide +kernel, fun h => by cases h⟩
theorem fl_X12_357 : FL "ThreeColoursModel" 357 12 37 := ⟨(RX12, TX12, 52), rfl, rfl, by decide, (lwT6 156 rfl rfl)⟩
theorem fp_X12_357 : FP "ThreeColoursModel" 357 12 37 false .int := ⟨(RX12, TX12, 52), rfl, rfl, by decide, (lwT6 156 rfl rfl), rfl, by decide +kernel, fun h => by cases h⟩
theorem fl_X12_360 : FL "ThreeColoursModel" 360 12 38 := ⟨(RX12, TX12, 52), rfl, rfl, by decide, (lwT6 157 rfl rfl)⟩
theorem fp_X12_360 : FP "ThreeColoursModel" 360 12 38 false .int := ⟨(RX12, TX12, 52), rfl, rfl, by decide, (lwT6 157 rfl rfl), rfl, by decide +kernel, fun h => by cases h⟩
theorem fl_X12_379 : FL "ThreeColoursModel" 379 12 39 := ⟨(RX12, TX12, 52), rfl, rfl, by decide, (lwT6 158 rfl rfl)⟩
theorem fp_X12_379 : FP "ThreeColoursModel" 379 12 39 false .int := ⟨(RX12, TX12, 52), rfl, rfl, by decide, (lwT6 158 rfl rfl), rfl, by decide +kernel, fun h => by cases h⟩
theorem fl_X12_363 : FL "ThreeColoursModel" 363 12 40 := ⟨(RX12, TX12, 52), rfl, rfl, by decide, (lwT6 159 rfl rfl)⟩
theorem fp_X12_363 : FP "ThreeColoursModel" 363 12 40 false .int := ⟨(RX12, TX12, 52), rfl, rfl, by decide, (lwT6 159 rfl rfl), rfl, by decide +kernel, fun h => by cases h⟩
theorem fl_X12_366 : FL "ThreeColoursModel" 366 12 41 := ⟨(RX12, TX12, 52), rfl, rfl, by decide, (lwT6 160 rfl rfl)⟩
theorem fp_X12_366 : FP "ThreeColoursModel" 366 12 41 false .int := ⟨(RX12, TX12, 52), rfl, rfl, by decide, (lwT6 160 rfl rfl), rfl, by decide +kernel, fun h => by cases h⟩
theorem fl_X12_369 : FL "ThreeColoursModel" 369 12 42 := ⟨(RX12, TX12, 52), rfl, rfl, by decide, (lwT6 161 rfl rfl)⟩
theorem fp_X12_369 : FP "ThreeColoursModel" 369 12 42 false .int := ⟨(RX12, TX12, 52), rfl, rfl, by decide, (lwT6 161 rfl rfl), rfl, by decide +kernel, fun h => by cases h⟩
theorem fl_X12_345 : FL "ThreeColoursModel" 345 12 43 := ⟨(RX12, TX12, 52), rfl, rfl, by decide, (lwT6 162 rfl rfl)⟩
theorem fp_X12_345 : FP "ThreeColoursModel" 345 12 43 false .int := ⟨(RX12, TX12, 52), rfl, rfl, by decide, (lwT6 162 rfl rfl), rfl, by decide +kernel, fun h => by cases h⟩
theorem fl_X12_88 : FL "ThreeColoursModel" 88 12 44 := ⟨(RX12, TX12, 52), rfl, rfl, by decide, (lwT6 163 rfl rfl)⟩
theorem fp_X12_88 : FP "ThreeColoursModel" 88 12 44 true (tyX12 44) := ⟨(RX12, TX12, 52), rfl, rfl, by decide, (lwT6 163 rfl rfl), rfl, by decide +kernel, fun _ => rfl⟩
theorem fl_X12_91 : FL "ThreeColoursModel" 91 12 45 := ⟨(RX12, TX12, 52), rfl, rfl, by decide, (lwT6 164 rfl rfl)⟩
theorem fp_X12_91 : FP "ThreeColoursModel" 91 12 45 true (tyX12 45) := ⟨(RX12, TX12, 52), rfl, rfl, by decide, (lwT6 164 rfl rfl), rfl, by decide +kernel, fun _ => rfl⟩
theorem fl_X12_94 : FL "ThreeColoursModel" 94 12 46 := ⟨(RX12, TX12, 52), rfl, rfl, by decide, (lwT6 165 rfl rfl)⟩
theorem fp_X12_94 : FP "ThreeColoursModel" 94 12 46 true (tyX12 46) := ⟨(RX12, TX12, 52), rfl, rfl, by decide, (lwT6 165 rfl rfl), rfl, by decide +kernel, fun _ => rfl⟩
theorem fl_X12_97 : FL "ThreeColoursModel" 97 12 47 := ⟨(RX12, TX12, 52), rfl, rfl, by decide, (lwT6 166 rfl rfl)⟩
theorem fp_X12_97 : FP "ThreeColoursModel" 97 12 47 true (tyX12 47) := ⟨(RX12, TX12, 52), rfl, rfl, by decide, (lwT6 166 rfl rfl), rfl, by decide +kernel, fun _ => rfl⟩
theorem fl_X12_411 : FL "ThreeColoursModel" 411 12 48 := ⟨(RX12, TX12, 52), rfl, rfl, by decide, (lwT6 167 rfl rfl)⟩
theorem fp_X12_411 : FP "ThreeColoursModel" 411 12 48 false .int := ⟨(RX12, TX12, 52), rfl, rfl, by decide, (lwT6 167 rfl rfl), rfl, by decide +kernel, fun h => by cases h⟩
theorem fl_X12_100 : FL "ThreeColoursModel" 100 12 49 := ⟨(RX12, TX12, 52), rfl, rfl, by decide, (lwT6 168 rfl rfl)⟩
theorem fp_X12_100 : FP "ThreeColoursModel" 100 12 49 true (tyX12 49) := ⟨(RX12, TX12, 52), rfl, rfl, by decide, (lwT6 168 rfl rfl), rfl, by decide +kernel, fun _ => rfl⟩
theorem fl_X12_103 : FL "ThreeColoursModel" 103 12 50 := ⟨(RX12, TX12, 52), rfl, rfl, by decide, (lwT6 169 rfl rfl)⟩
theorem fp_X12_103 : FP "ThreeColoursModel" 103 12 50 false .int := ⟨(RX12, TX12, 52), rfl, rfl, by decide, (lwT6 169 rfl rfl), rfl, by decide +kernel, fun h => by cases h⟩
theorem fl_X12_419 : FL "ThreeColoursModel" 419 12 51 := ⟨(RX12, TX12, 52), rfl, rfl, by decide, (lwT6 170 rfl rfl)⟩
theorem fp_X12_419 : FP "ThreeColoursModel" 419 12 51 false .int := ⟨(RX12, TX12, 52), rfl, rfl, by decide, (lwT6 170 rfl rfl), rfl, by decide +kernel, fun h => by cases h⟩
theorem lk_L_178 : Cond.methodLink "ThreeColoursLaw" 178 yX12_image ∈ lwG := (lwT7 37 rfl rfl)
theorem lk_X12_106 : Cond.methodLink "ThreeColoursModel" 106 yX12_lies ∈ lwG := (lwT7 41 rfl rfl)
theorem lk_X12_110 : Cond.methodLink "ThreeColoursModel" 110 yX12_refuses ∈ lwG := (lwT7 44 rfl rfl)
theorem lk_X12_114 : Cond.methodLink "ThreeColoursModel" 114 yX12_good ∈ lwG := (lwT7 48 rfl rfl)
theorem lk_L_182 : Cond.methodLink "ThreeColoursLaw" 182 yX12_back ∈ lwG := (lwT7 52 rfl rfl)
theorem lk_L_17 : Cond.methodLink "ThreeColoursLaw" 17 yX12_thing ∈ lwG := (lwT7 56 rfl rfl)
theorem lk_X12_127 : Cond.methodLink "ThreeColoursModel" 127 yX12_isColour ∈ lwG := (lwT7 60 rfl rfl)
theorem lk_X12_117 : Cond.methodLink "ThreeColoursModel" 117 yX12_things ∈ lwG := (lwT7 63 rfl rfl)
theorem lk_L_22 : Cond.methodLink "ThreeColoursLaw" 22 yX12_put ∈ lwG := (lwT7 67 rfl rfl)
theorem lk_X12_131 : Cond.methodLink "ThreeColoursModel" 131 yX12_mostOf ∈ lwG := (lwT7 71 rfl rfl)
theorem lk_X12_134 : Cond.methodLink "ThreeColoursModel" 134 yX12_isThing ∈ lwG := (lwT7 74 rfl rfl)
theorem lk_X12_137 : Cond.methodLink "ThreeColoursModel" 137 yX12_replaces ∈ lwG := (lwT7 78 rfl rfl)
theorem lk_L_26 : Cond.methodLink "ThreeColoursLaw" 26 yX12_bloom ∈ lwG := (lwT7 82 rfl rfl)
theorem lk_L_30 : Cond.methodLink "ThreeColoursLaw" 30 yX12_window ∈ lwG := (lwT7 86 rfl rfl)
theorem lk_X12_121 : Cond.methodLink "ThreeColoursModel" 121 yX12_windows ∈ lwG := (lwT7 90 rfl rfl)
theorem lk_L_34 : Cond.methodLink "ThreeColoursLaw" 34 yX12_turn ∈ lwG := (lwT7 94 rfl rfl)
theorem lk_X12_141 : Cond.methodLink "ThreeColoursModel" 141 yX12_isWindow ∈ lwG := (lwT7 98 rfl rfl)
theorem lk_L_39 : Cond.methodLink "ThreeColoursLaw" 39 yX12_of ∈ lwG := (lwT7 102 rfl rfl)
theorem lk_X12_144 : Cond.methodLink "ThreeColoursModel" 144 yX12_thingOf ∈ lwG := (lwT7 106 rfl rfl)
theorem lk_X12_151 : Cond.methodLink "ThreeColoursModel" 151 yX12_shows ∈ lwG := (lwT7 110 rfl rfl)
theorem lk_X12_147 : Cond.methodLink "ThreeColoursModel" 147 yX12_isIn ∈ lwG := (lwT7 114 rfl rfl)
theorem lk_L_43 : Cond.methodLink "ThreeColoursLaw" 43 yX12_street ∈ lwG := (lwT7 117 rfl rfl)
theorem lk_X12_155 : Cond.methodLink "ThreeColoursModel" 155 yX12_isPlace ∈ lwG := (lwT7 121 rfl rfl)
theorem lk_L_48 : Cond.methodLink "ThreeColoursLaw" 48 yX12_person ∈ lwG := (lwT7 124 rfl rfl)
theorem lk_X12_124 : Cond.methodLink "ThreeColoursModel" 124 yX12_people ∈ lwG := (lwT7 128 rfl rfl)
theorem lk_L_52 : Cond.methodLink "ThreeColoursLaw" 52 yX12_coat ∈ lwG := (lwT7 132 rfl rfl)
theorem lk_X12_158 : Cond.methodLink "ThreeColoursModel" 158 yX12_isPerson ∈ lwG := (lwT7 136 rfl rfl)
theorem lk_L_56 : Cond.methodLink "ThreeColoursLaw" 56 yX12_same ∈ lwG := (lwT7 140 rfl rfl)
theorem lk_L_60 : Cond.methodLink "ThreeColoursLaw" 60 yX12_counts ∈ lwG := (lwT7 144 rfl rfl)
theorem lk_X12_161 : Cond.methodLink "ThreeColoursModel" 161 yX12_lowestOf ∈ lwG := (lwT7 148 rfl rfl)
theorem lk_L_64 : Cond.methodLink "ThreeColoursLaw" 64 yX12_month ∈ lwG := (lwT7 152 rfl rfl)
theorem lk_L_68 : Cond.methodLink "ThreeColoursLaw" 68 yX12_walk ∈ lwG := (lwT7 156 rfl rfl)
theorem lk_X12_164 : Cond.methodLink "ThreeColoursModel" 164 yX12_isMinute ∈ lwG := (lwT7 160 rfl rfl)
theorem lk_X12_167 : Cond.methodLink "ThreeColoursModel" 167 yX12_walks ∈ lwG := (lwT7 163 rfl rfl)
theorem lk_L_72 : Cond.methodLink "ThreeColoursLaw" 72 yX12_where ∈ lwG := (lwT7 167 rfl rfl)
theorem lk_X12_171 : Cond.methodLink "ThreeColoursModel" 171 yX12_whereOf ∈ lwG := (lwT7 171 rfl rfl)
theorem lk_L_85 : Cond.methodLink "ThreeColoursLaw" 85 yX12_row ∈ lwG := (lwT7 175 rfl rfl)
theorem lk_L_89 : Cond.methodLink "ThreeColoursLaw" 89 yX12_spoilt ∈ lwG := (lwT7 179 rfl rfl)
theorem lk_L_76 : Cond.methodLink "ThreeColoursLaw" 76 yX12_feed ∈ lwG := (lwT7 183 rfl rfl)
theorem lk_L_80 : Cond.methodLink "ThreeColoursLaw" 80 yX12_end ∈ lwG := (lwT7 187 rfl rfl)
theorem lk_L_93 : Cond.methodLink "ThreeColoursLaw" 93 yX12_law ∈ lwG := (lwT7 191 rfl rfl)
theorem lk_X12_247 : Cond.methodLink "ThreeColoursModel" 247 yX12_reads ∈ lwG := (lwT7 195 rfl rfl)
theorem lk_X12_241 : Cond.methodLink "ThreeColoursModel" 241 yX12_splits ∈ lwG := (lwT7 199 rfl rfl)
theorem lk_X12_183 : Cond.methodLink "ThreeColoursModel" 183 yX12_isSmall ∈ lwG := (lwT7 203 rfl rfl)
theorem lk_X12_186 : Cond.methodLink "ThreeColoursModel" 186 yX12_isDigit ∈ lwG := (lwT7 206 rfl rfl)
theorem lk_X12_189 : Cond.methodLink "ThreeColoursModel" 189 yX12_wordOf ∈ lwG := (lwT7 209 rfl rfl)
theorem kc_X12_192 : Cond.constant "ThreeColoursModel" 192 (Int32.ofInt 1000000) ∈ lwG := (lwT7 213 rfl rfl)
theorem lk_X12_244 : Cond.methodLink "ThreeColoursModel" 244 yX12_readClause ∈ lwG := (lwT7 214 rfl rfl)
theorem lk_X12_203 : Cond.methodLink "ThreeColoursModel" 203 yX12_takes0 ∈ lwG := (lwT7 218 rfl rfl)
theorem lk_X12_196 : Cond.methodLink "ThreeColoursModel" 196 yX12_fine ∈ lwG := (lwT7 222 rfl rfl)
theorem lk_X12_212 : Cond.methodLink "ThreeColoursModel" 212 yX12_readSum ∈ lwG := (lwT7 226 rfl rfl)
theorem lk_X12_232 : Cond.methodLink "ThreeColoursModel" 232 yX12_readTerm ∈ lwG := (lwT7 230 rfl rfl)
theorem lk_X12_235 : Cond.methodLink "ThreeColoursModel" 235 yX12_readPart ∈ lwG := (lwT7 234 rfl rfl)
theorem lk_X12_228 : Cond.methodLink "ThreeColoursModel" 228 yX12_sign ∈ lwG := (lwT7 238 rfl rfl)
theorem lk_X12_206 : Cond.methodLink "ThreeColoursModel" 206 yX12_faults ∈ lwG := (lwT8 1 rfl rfl)
theorem lk_X12_216 : Cond.methodLink "ThreeColoursModel" 216 yX12_must ∈ lwG := (lwT8 5 rfl rfl)
theorem lk_X12_238 : Cond.methodLink "ThreeColoursModel" 238 yX12_leaf ∈ lwG := (lwT8 9 rfl rfl)
theorem lk_X12_219 : Cond.methodLink "ThreeColoursModel" 219 yX12_readTest ∈ lwG := (lwT8 13 rfl rfl)
theorem lk_X12_222 : Cond.methodLink "ThreeColoursModel" 222 yX12_readBoth ∈ lwG := (lwT8 17 rfl rfl)
theorem lk_X12_225 : Cond.methodLink "ThreeColoursModel" 225 yX12_readPlain ∈ lwG := (lwT8 21 rfl rfl)
theorem lk_L_97 : Cond.methodLink "ThreeColoursLaw" 97 yX12_fault ∈ lwG := (lwT8 25 rfl rfl)
theorem lk_L_101 : Cond.methodLink "ThreeColoursLaw" 101 yX12_force ∈ lwG := (lwT8 29 rfl rfl)
theorem lk_L_105 : Cond.methodLink "ThreeColoursLaw" 105 yX12_costs ∈ lwG := (lwT8 33 rfl rfl)
theorem lk_X12_305 : Cond.methodLink "ThreeColoursModel" 305 yX12_priceOf ∈ lwG := (lwT8 37 rfl rfl)
theorem lk_X12_297 : Cond.methodLink "ThreeColoursModel" 297 yX12_asksOf ∈ lwG := (lwT8 41 rfl rfl)
theorem lk_X12_301 : Cond.methodLink "ThreeColoursModel" 301 yX12_told ∈ lwG := (lwT8 45 rfl rfl)
theorem lk_X12_256 : Cond.methodLink "ThreeColoursModel" 256 yX12_codeAt ∈ lwG := (lwT8 49 rfl rfl)
theorem lk_X12_281 : Cond.methodLink "ThreeColoursModel" 281 yX12_sumOf ∈ lwG := (lwT8 53 rfl rfl)
theorem lk_X12_267 : Cond.methodLink "ThreeColoursModel" 267 yX12_termOf ∈ lwG := (lwT8 57 rfl rfl)
theorem lk_X12_275 : Cond.methodLink "ThreeColoursModel" 275 yX12_partOf ∈ lwG := (lwT8 61 rfl rfl)
theorem lk_X12_278 : Cond.methodLink "ThreeColoursModel" 278 yX12_passes0 ∈ lwG := (lwT8 65 rfl rfl)
theorem lk_X12_271 : Cond.methodLink "ThreeColoursModel" 271 yX12_bounded ∈ lwG := (lwT8 69 rfl rfl)
theorem kl_X12_259 : Cond.constantLong "ThreeColoursModel" 259 (1000000000) ∈ lwG := (lwT8 73 rfl rfl)
theorem kl_X12_261 : Cond.constantLong "ThreeColoursModel" 261 (-1000000000) ∈ lwG := (lwT8 74 rfl rfl)
theorem lk_X12_294 : Cond.methodLink "ThreeColoursModel" 294 yX12_testOf ∈ lwG := (lwT8 75 rfl rfl)
theorem lk_X12_284 : Cond.methodLink "ThreeColoursModel" 284 yX12_bothOf ∈ lwG := (lwT8 79 rfl rfl)
theorem lk_X12_288 : Cond.methodLink "ThreeColoursModel" 288 yX12_plainOf ∈ lwG := (lwT8 83 rfl rfl)
theorem lk_X12_291 : Cond.methodLink "ThreeColoursModel" 291 yX12_positiveOf ∈ lwG := (lwT8 87 rfl rfl)
theorem lk_L_109 : Cond.methodLink "ThreeColoursLaw" 109 yX12_sees ∈ lwG := (lwT8 91 rfl rfl)
theorem lk_X12_324 : Cond.methodLink "ThreeColoursModel" 324 yX12_seen ∈ lwG := (lwT8 95 rfl rfl)
theorem lk_X12_318 : Cond.methodLink "ThreeColoursModel" 318 yX12_thingsSeen ∈ lwG := (lwT8 99 rfl rfl)
theorem lk_X12_314 : Cond.methodLink "ThreeColoursModel" 314 yX12_bitOf ∈ lwG := (lwT8 103 rfl rfl)
theorem lk_X12_308 : Cond.methodLink "ThreeColoursModel" 308 yX12_windowOf ∈ lwG := (lwT8 107 rfl rfl)
theorem lk_X12_311 : Cond.methodLink "ThreeColoursModel" 311 yX12_doesCount ∈ lwG := (lwT8 111 rfl rfl)
theorem lk_X12_321 : Cond.methodLink "ThreeColoursModel" 321 yX12_coatBit ∈ lwG := (lwT8 115 rfl rfl)
theorem lk_X12_330 : Cond.methodLink "ThreeColoursModel" 330 yX12_limitOf ∈ lwG := (lwT8 119 rfl rfl)
theorem lk_X12_333 : Cond.methodLink "ThreeColoursModel" 333 yX12_holds ∈ lwG := (lwT8 123 rfl rfl)
theorem lk_X12_327 : Cond.methodLink "ThreeColoursModel" 327 yX12_ones ∈ lwG := (lwT8 127 rfl rfl)
theorem lk_L_113 : Cond.methodLink "ThreeColoursLaw" 113 yX12_judge ∈ lwG := (lwT8 130 rfl rfl)
theorem lk_L_117 : Cond.methodLink "ThreeColoursLaw" 117 yX12_bad ∈ lwG := (lwT8 134 rfl rfl)
theorem lk_L_121 : Cond.methodLink "ThreeColoursLaw" 121 yX12_best ∈ lwG := (lwT8 138 rfl rfl)
theorem lk_X12_385 : Cond.methodLink "ThreeColoursModel" 385 yX12_areMonths ∈ lwG := (lwT8 142 rfl rfl)
theorem lk_X12_388 : Cond.methodLink "ThreeColoursModel" 388 yX12_paints ∈ lwG := (lwT8 145 rfl rfl)
theorem lk_X12_348 : Cond.methodLink "ThreeColoursModel" 348 yX12_lays ∈ lwG := (lwT8 149 rfl rfl)
theorem lk_X12_336 : Cond.methodLink "ThreeColoursModel" 336 yX12_isChoice ∈ lwG := (lwT8 153 rfl rfl)
theorem lk_X12_339 : Cond.methodLink "ThreeColoursModel" 339 yX12_colourOf ∈ lwG := (lwT8 157 rfl rfl)
theorem lk_X12_372 : Cond.methodLink "ThreeColoursModel" 372 yX12_paintsOn ∈ lwG := (lwT8 161 rfl rfl)
theorem lk_X12_376 : Cond.methodLink "ThreeColoursModel" 376 yX12_ends ∈ lwG := (lwT8 165 rfl rfl)
theorem lk_X12_382 : Cond.methodLink "ThreeColoursModel" 382 yX12_lesser ∈ lwG := (lwT8 169 rfl rfl)
theorem lk_L_125 : Cond.methodLink "ThreeColoursLaw" 125 yX12_paint ∈ lwG := (lwT8 172 rfl rfl)
theorem lk_L_129 : Cond.methodLink "ThreeColoursLaw" 129 yX12_fewest ∈ lwG := (lwT8 176 rfl rfl)
theorem lk_L_133 : Cond.methodLink "ThreeColoursLaw" 133 yX12_take ∈ lwG := (lwT8 180 rfl rfl)
theorem lk_L_137 : Cond.methodLink "ThreeColoursLaw" 137 yX12_mend ∈ lwG := (lwT8 184 rfl rfl)
theorem lk_L_141 : Cond.methodLink "ThreeColoursLaw" 141 yX12_shut ∈ lwG := (lwT8 188 rfl rfl)
theorem lk_L_145 : Cond.methodLink "ThreeColoursLaw" 145 yX12_bars ∈ lwG := (lwT8 192 rfl rfl)
theorem lk_X12_392 : Cond.methodLink "ThreeColoursModel" 392 yX12_canHold ∈ lwG := (lwT8 196 rfl rfl)
theorem lk_L_149 : Cond.methodLink "ThreeColoursLaw" 149 yX12_third ∈ lwG := (lwT8 200 rfl rfl)
theorem lk_L_153 : Cond.methodLink "ThreeColoursLaw" 153 yX12_near ∈ lwG := (lwT8 204 rfl rfl)
theorem lk_L_158 : Cond.methodLink "ThreeColoursLaw" 158 yX12_soon ∈ lwG := (lwT8 208 rfl rfl)
theorem lk_X12_401 : Cond.methodLink "ThreeColoursModel" 401 yX12_isWay ∈ lwG := (lwT8 212 rfl rfl)
theorem lk_X12_405 : Cond.methodLink "ThreeColoursModel" 405 yX12_soonOf ∈ lwG := (lwT8 216 rfl rfl)
theorem lk_X12_395 : Cond.methodLink "ThreeColoursModel" 395 yX12_isStep ∈ lwG := (lwT8 220 rfl rfl)
theorem lk_X12_398 : Cond.methodLink "ThreeColoursModel" 398 yX12_mayBe ∈ lwG := (lwT8 224 rfl rfl)
theorem lk_L_162 : Cond.methodLink "ThreeColoursLaw" 162 yX12_way ∈ lwG := (lwT8 228 rfl rfl)
theorem lk_L_166 : Cond.methodLink "ThreeColoursLaw" 166 yX12_file ∈ lwG := (lwT8 232 rfl rfl)
theorem lk_X12_414 : Cond.methodLink "ThreeColoursModel" 414 yX12_files ∈ lwG := (lwT8 236 rfl rfl)
theorem lk_X12_408 : Cond.methodLink "ThreeColoursModel" 408 yX12_isFile ∈ lwG := (lwT9 0 rfl rfl)
theorem lk_L_170 : Cond.methodLink "ThreeColoursLaw" 170 yX12_day ∈ lwG := (lwT9 4 rfl rfl)
theorem lk_X12_426 : Cond.methodLink "ThreeColoursModel" 426 yX12_draws ∈ lwG := (lwT9 8 rfl rfl)
theorem kl_X12_417 : Cond.constantLong "ThreeColoursModel" 417 (1103) ∈ lwG := (lwT9 12 rfl rfl)
theorem kl_X12_422 : Cond.constantLong "ThreeColoursModel" 422 (12345) ∈ lwG := (lwT9 13 rfl rfl)
theorem kl_X12_424 : Cond.constantLong "ThreeColoursModel" 424 (1000003) ∈ lwG := (lwT9 14 rfl rfl)
theorem lk_X12_429 : Cond.methodLink "ThreeColoursModel" 429 yX12_goes ∈ lwG := (lwT9 15 rfl rfl)
theorem lk_L_174 : Cond.methodLink "ThreeColoursLaw" 174 yX12_drawn ∈ lwG := (lwT9 19 rfl rfl)
theorem lk_L_186 : Cond.methodLink "ThreeColoursLaw" 186 yX12_count ∈ lwG := (lwT9 23 rfl rfl)
theorem lk_L_190 : Cond.methodLink "ThreeColoursLaw" 190 yX12_status ∈ lwG := (lwT9 27 rfl rfl)
