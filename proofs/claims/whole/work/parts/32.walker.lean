theorem dX10_find_0 : decode cX10_find 0 = .ok (.iload_n 1, 1) := by decide +kernel
theorem dX10_find_1 : decode cX10_find 1 = .ok (.bipush 120, 2) := by decide +kernel
theorem dX10_find_3 : decode cX10_find 3 = .ok (.imul, 1) := by decide +kernel
theorem dX10_find_4 : decode cX10_find 4 = .ok (.iload_n 2, 1) := by decide +kernel
theorem dX10_find_5 : decode cX10_find 5 = .ok (.iadd, 1) := by decide +kernel
theorem dX10_find_6 : decode cX10_find 6 = .ok (.bipush 10, 2) := by decide +kernel
theorem dX10_find_8 : decode cX10_find 8 = .ok (.imul, 1) := by decide +kernel
theorem dX10_find_9 : decode cX10_find 9 = .ok (.iload_n 3, 1) := by decide +kernel
theorem dX10_find_10 : decode cX10_find 10 = .ok (.iadd, 1) := by decide +kernel
theorem dX10_find_11 : decode cX10_find 11 = .ok (.bipush 10, 2) := by decide +kernel
theorem dX10_find_13 : decode cX10_find 13 = .ok (.imul, 1) := by decide +kernel
theorem dX10_find_14 : decode cX10_find 14 = .ok (.iload 4, 2) := by decide +kernel
theorem dX10_find_16 : decode cX10_find 16 = .ok (.iadd, 1) := by decide +kernel
theorem dX10_find_17 : decode cX10_find 17 = .ok (.istore 5, 2) := by decide +kernel
theorem dX10_find_19 : decode cX10_find 19 = .ok (.aload_n 0, 1) := by decide +kernel
theorem dX10_find_20 : decode cX10_find 20 = .ok (.getfield 25, 3) := by decide +kernel
theorem dX10_find_23 : decode cX10_find 23 = .ok (.aload_n 0, 1) := by decide +kernel
theorem dX10_find_24 : decode cX10_find 24 = .ok (.getfield 28, 3) := by decide +kernel
theorem dX10_find_27 : decode cX10_find 27 = .ok (.getfield 36, 3) := by decide +kernel
theorem dX10_find_30 : decode cX10_find 30 = .ok (.if_icmp .ne 13, 3) := by decide +kernel
theorem dX10_find_33 : decode cX10_find 33 = .ok (.aload_n 0, 1) := by decide +kernel
theorem dX10_find_34 : decode cX10_find 34 = .ok (.getfield 21, 3) := by decide +kernel
theorem dX10_find_37 : decode cX10_find 37 = .ok (.iload 5, 2) := by decide +kernel
theorem dX10_find_39 : decode cX10_find 39 = .ok (.if_icmp .ne 4, 3) := by decide +kernel
theorem dX10_find_42 : decode cX10_find 42 = .ok (.return_, 1) := by decide +kernel
theorem dX10_find_43 : decode cX10_find 43 = .ok (.aload_n 0, 1) := by decide +kernel
theorem dX10_find_44 : decode cX10_find 44 = .ok (.aload_n 0, 1) := by decide +kernel
theorem dX10_find_45 : decode cX10_find 45 = .ok (.getfield 28, 3) := by decide +kernel
theorem dX10_find_48 : decode cX10_find 48 = .ok (.getfield 36, 3) := by decide +kernel
theorem dX10_find_51 : decode cX10_find 51 = .ok (.putfield 25, 3) := by decide +kernel
theorem dX10_find_54 : decode cX10_find 54 = .ok (.aload_n 0, 1) := by decide +kernel
theorem dX10_find_55 : decode cX10_find 55 = .ok (.iload 5, 2) := by decide +kernel
theorem dX10_find_57 : decode cX10_find 57 = .ok (.putfield 21, 3) := by decide +kernel
theorem dX10_find_60 : decode cX10_find 60 = .ok (.aload_n 0, 1) := by decide +kernel
theorem dX10_find_61 : decode cX10_find 61 = .ok (.iload_n 1, 1) := by decide +kernel
theorem dX10_find_62 : decode cX10_find 62 = .ok (.putfield 39, 3) := by decide +kernel
theorem dX10_find_65 : decode cX10_find 65 = .ok (.aload_n 0, 1) := by decide +kernel
theorem dX10_find_66 : decode cX10_find 66 = .ok (.getfield 32, 3) := by decide +kernel
theorem dX10_find_69 : decode cX10_find 69 = .ok (.invokevirtual 42, 3) := by decide +kernel
theorem dX10_find_72 : decode cX10_find 72 = .ok (.aload_n 0, 1) := by decide +kernel
theorem dX10_find_73 : decode cX10_find 73 = .ok (.iconst (-1), 1) := by decide +kernel
theorem dX10_find_74 : decode cX10_find 74 = .ok (.putfield 47, 3) := by decide +kernel
theorem dX10_find_77 : decode cX10_find 77 = .ok (.iconst 1, 1) := by decide +kernel
theorem dX10_find_78 : decode cX10_find 78 = .ok (.iload_n 3, 1) := by decide +kernel
theorem dX10_find_79 : decode cX10_find 79 = .ok (.ishl, 1) := by decide +kernel
theorem dX10_find_80 : decode cX10_find 80 = .ok (.istore 6, 2) := by decide +kernel
theorem dX10_find_82 : decode cX10_find 82 = .ok (.iload_n 2, 1) := by decide +kernel
theorem dX10_find_83 : decode cX10_find 83 = .ok (.istore 7, 2) := by decide +kernel
theorem dX10_find_85 : decode cX10_find 85 = .ok (.iload 7, 2) := by decide +kernel
theorem dX10_find_87 : decode cX10_find 87 = .ok (.bipush 120, 2) := by decide +kernel
theorem dX10_find_89 : decode cX10_find 89 = .ok (.if_icmp .ge 72, 3) := by decide +kernel
theorem dX10_find_92 : decode cX10_find 92 = .ok (.iload 6, 2) := by decide +kernel
theorem dX10_find_94 : decode cX10_find 94 = .ok (.ifCond .eq 67, 3) := by decide +kernel
theorem dX10_find_97 : decode cX10_find 97 = .ok (.aload_n 0, 1) := by decide +kernel
theorem dX10_find_98 : decode cX10_find 98 = .ok (.getfield 47, 3) := by decide +kernel
theorem dX10_find_101 : decode cX10_find 101 = .ok (.iconst (-1), 1) := by decide +kernel
theorem dX10_find_102 : decode cX10_find 102 = .ok (.if_icmp .ne 59, 3) := by decide +kernel
theorem dX10_find_105 : decode cX10_find 105 = .ok (.aload_n 0, 1) := by decide +kernel
theorem dX10_find_106 : decode cX10_find 106 = .ok (.getfield 9, 3) := by decide +kernel
theorem dX10_find_109 : decode cX10_find 109 = .ok (.iload 7, 2) := by decide +kernel
theorem dX10_find_111 : decode cX10_find 111 = .ok (.aload_n 0, 1) := by decide +kernel
theorem dX10_find_112 : decode cX10_find 112 = .ok (.iload 6, 2) := by decide +kernel
theorem dX10_find_114 : decode cX10_find 114 = .ok (.iload 7, 2) := by decide +kernel
theorem dX10_find_116 : decode cX10_find 116 = .ok (.invokevirtual 50, 3) := by decide +kernel
theorem dX10_find_119 : decode cX10_find 119 = .ok (.iastore, 1) := by decide +kernel
theorem dX10_find_120 : decode cX10_find 120 = .ok (.aload_n 0, 1) := by decide +kernel
theorem dX10_find_121 : decode cX10_find 121 = .ok (.getfield 9, 3) := by decide +kernel
theorem dX10_find_124 : decode cX10_find 124 = .ok (.iload 7, 2) := by decide +kernel
theorem dX10_find_126 : decode cX10_find 126 = .ok (.iaload, 1) := by decide +kernel
theorem dX10_find_127 : decode cX10_find 127 = .ok (.iload 4, 2) := by decide +kernel
theorem dX10_find_129 : decode cX10_find 129 = .ok (.ishr, 1) := by decide +kernel
theorem dX10_find_130 : decode cX10_find 130 = .ok (.iconst 1, 1) := by decide +kernel
theorem dX10_find_131 : decode cX10_find 131 = .ok (.iand, 1) := by decide +kernel
theorem dX10_find_132 : decode cX10_find 132 = .ok (.iconst 1, 1) := by decide +kernel
theorem dX10_find_133 : decode cX10_find 133 = .ok (.if_icmp .ne 9, 3) := by decide +kernel
theorem dX10_find_136 : decode cX10_find 136 = .ok (.aload_n 0, 1) := by decide +kernel
theorem dX10_find_137 : decode cX10_find 137 = .ok (.iload 7, 2) := by decide +kernel
theorem dX10_find_139 : decode cX10_find 139 = .ok (.putfield 47, 3) := by decide +kernel
theorem dX10_find_142 : decode cX10_find 142 = .ok (.aload_n 0, 1) := by decide +kernel
theorem dX10_find_143 : decode cX10_find 143 = .ok (.aload_n 0, 1) := by decide +kernel
theorem dX10_find_144 : decode cX10_find 144 = .ok (.getfield 9, 3) := by decide +kernel
theorem dX10_find_147 : decode cX10_find 147 = .ok (.iload 7, 2) := by decide +kernel
theorem dX10_find_149 : decode cX10_find 149 = .ok (.iaload, 1) := by decide +kernel
theorem dX10_find_150 : decode cX10_find 150 = .ok (.invokevirtual 54, 3) := by decide +kernel
theorem dX10_find_153 : decode cX10_find 153 = .ok (.istore 6, 2) := by decide +kernel
theorem dX10_find_155 : decode cX10_find 155 = .ok (.iinc 7 1, 3) := by decide +kernel
theorem dX10_find_158 : decode cX10_find 158 = .ok (.goto (-73), 3) := by decide +kernel
theorem dX10_find_161 : decode cX10_find 161 = .ok (.aload_n 0, 1) := by decide +kernel
theorem dX10_find_162 : decode cX10_find 162 = .ok (.getfield 47, 3) := by decide +kernel
theorem dX10_find_165 : decode cX10_find 165 = .ok (.iconst (-1), 1) := by decide +kernel
theorem dX10_find_166 : decode cX10_find 166 = .ok (.if_icmp .eq 11, 3) := by decide +kernel
theorem dX10_find_169 : decode cX10_find 169 = .ok (.aload_n 0, 1) := by decide +kernel
theorem dX10_find_170 : decode cX10_find 170 = .ok (.iload_n 2, 1) := by decide +kernel
theorem dX10_find_171 : decode cX10_find 171 = .ok (.iload_n 3, 1) := by decide +kernel
theorem dX10_find_172 : decode cX10_find 172 = .ok (.iload 4, 2) := by decide +kernel
theorem dX10_find_174 : decode cX10_find 174 = .ok (.invokevirtual 58, 3) := by decide +kernel
theorem dX10_find_177 : decode cX10_find 177 = .ok (.return_, 1) := by decide +kernel
set_option maxRecDepth 20000 in
theorem s_X10_find {w : Wd} {d : Nat} {P : IM → LM → Prop} {i : IM} {l : LM} (p0 : Int) (p1 : Int) (p2 : Int) (p3 : Int)  (h : (((i 90 8 = i 7 15) → rg ((((((p0 * 120) + p1) * 10) + p2) * 10) + p3)) ∧ (((i 90 8 = i 7 15) ∧ (i 90 7 = (((((p0 * 120) + p1) * 10) + p2) * 10) + p3)) → P i l) ∧ ((¬ ((i 90 8 = i 7 15) ∧ (i 90 7 = (((((p0 * 120) + p1) * 10) + p2) * 10) + p3))) → gV w d X_X10_find P i l 43 [(0, vR (some 90)), (1, vI p0), (2, vI p1), (3, vI p2), (4, vI p3), (5, vI ((((((p0 * 120) + p1) * 10) + p2) * 10) + p3))] []))) : gV w d X_X10_find P i l 0 [(0, vR (some 90)), (1, vI p0), (2, vI p1), (3, vI p2), (4, vI p3)] [] := by
  refine g_iload_n (pc' := 1) 1 dX10_find_0 rfl rfl ?_
  refine g_bipush (pc' := 3) dX10_find_1 rfl rfl ?_
  refine g_imul (pc' := 4) dX10_find_3 rfl ?_
  refine g_iload_n (pc' := 5) 2 dX10_find_4 rfl rfl ?_
  refine g_iadd (pc' := 6) dX10_find_5 rfl ?_
  refine g_bipush (pc' := 8) dX10_find_6 rfl rfl ?_
  refine g_imul (pc' := 9) dX10_find_8 rfl ?_
  refine g_iload_n (pc' := 10) 3 dX10_find_9 rfl rfl ?_
  refine g_iadd (pc' := 11) dX10_find_10 rfl ?_
  refine g_bipush (pc' := 13) dX10_find_11 rfl rfl ?_
  refine g_imul (pc' := 14) dX10_find_13 rfl ?_
  refine g_iload (pc' := 16) 4 dX10_find_14 rfl rfl ?_
  refine g_iadd (pc' := 17) dX10_find_16 rfl ?_
  refine g_istore (pc' := 19) (L' := [(5, vI ((((((p0 * 120) + p1) * 10) + p2) * 10) + p3)), (0, vR (some 90)), (1, vI p0), (2, vI p1), (3, vI p2), (4, vI p3)]) dX10_find_17 rfl (Nat.le_of_ble_eq_true rfl) rfl ?_
  refine g_aload_n (pc' := 20) 1 dX10_find_19 rfl rfl ?_
  refine g_getI (pc' := 23) (z := 8) rfl fl_X10_25 rfl rfl dX10_find_20 rfl (fun rg1 => ?_)
  refine g_aload_n (pc' := 24) 1 dX10_find_23 rfl rfl ?_
  refine g_getR (pc' := 27) (o := some 7) fl_X10_28 rfl rfl rfl dX10_find_24 rfl ?_
  refine g_getI (pc' := 30) (z := 15) rfl fl_X10_36 rfl rfl dX10_find_27 rfl (fun rg2 => ?_)
  obtain ⟨hob6, hk8, hk9⟩ := h
  have hk8g : ((i 90 8 = i 7 15) ∧ (i 90 7 = (((((p0 * 120) + p1) * 10) + p2) * 10) + p3)) → gV w d X_X10_find P i l 42 [(5, vI ((((((p0 * 120) + p1) * 10) + p2) * 10) + p3)), (0, vR (some 90)), (1, vI p0), (2, vI p1), (3, vI p2), (4, vI p3)] [] := by
    intro hp
    have h := hk8 hp
    exact g_retV rfl dX10_find_42 h
  have hk9g : (¬ ((i 90 8 = i 7 15) ∧ (i 90 7 = (((((p0 * 120) + p1) * 10) + p2) * 10) + p3))) → gV w d X_X10_find P i l 43 [(5, vI ((((((p0 * 120) + p1) * 10) + p2) * 10) + p3)), (0, vR (some 90)), (1, vI p0), (2, vI p1), (3, vI p2), (4, vI p3)] [] := by
    intro hp
    have h := hk9 hp
    refine g_sub (L' := [(0, vR (some 90)), (1, vI p0), (2, vI p1), (3, vI p2), (4, vI p3), (5, vI ((((((p0 * 120) + p1) * 10) + p2) * 10) + p3))]) [1, 2, 3, 4, 5, 0] rfl ?_
    exact h
  refine g_icmp_ne (tgt := 43) (pc' := 33) rg1 rg2 Iff.rfl dX10_find_30 rfl rfl (fun c4 => ?_) (fun c4 => ?_)
  · exact hk9g (fun q => c4 q.1)
  · refine g_aload_n (pc' := 34) 1 dX10_find_33 rfl rfl ?_
    refine g_getI (pc' := 37) (z := 7) rfl fl_X10_21 rfl rfl dX10_find_34 rfl (fun rg5 => ?_)
    refine g_iload (pc' := 39) 0 dX10_find_37 rfl rfl ?_
    refine g_icmp_ne (tgt := 43) (pc' := 42) rg5 (hob6 c4) Iff.rfl dX10_find_39 rfl rfl (fun c7 => ?_) (fun c7 => ?_)
    · exact hk9g (fun q => c7 q.2)
    · exact hk8g ⟨c4, c7⟩
theorem e_X10_find {w : Wd} {d : Nat} {P : IM → LM → Prop} {i : IM} {l : LM} {p0 : Int} {p1 : Int} {p2 : Int} {p3 : Int}  (h : gV w d X_X10_find P i l 0 [(0, vR (some 90)), (1, vI p0), (2, vI p1), (3, vI p2), (4, vI p3)] []) : cVd w (d + 1) X_X10_find [vR (some 90), vI p0, vI p1, vI p2, vI p3] i l P := CV_of (by decide +kernel) (Nat.le_of_ble_eq_true rfl) h
set_option maxRecDepth 20000 in
theorem s_X10_find_43 {w : Wd} {d : Nat} {P : IM → LM → Prop} {i : IM} {l : LM} (x1 : Int) (x2 : Int) (x3 : Int) (x4 : Int) (x5 : Int)  (h : ((rg x5) ∧ (rg x1) ∧ cVd w d X_X8_refresh [vR (some 44)] (u2 (u2 (u2 i 90 8 (i 7 15)) 90 7 x5) 90 6 x1) l (fun i13 l13 => gV w d X_X10_find P (u2 i13 90 5 (-1)) l13 85 [(0, vR (some 90)), (2, vI x2), (3, vI x3), (4, vI x4), (6, vI (ishl 1 x3)), (7, vI x2)] []))) : gV w d X_X10_find P i l 43 [(0, vR (some 90)), (1, vI x1), (2, vI x2), (3, vI x3), (4, vI x4), (5, vI x5)] [] := by
  obtain ⟨ob11, ob12, h⟩ := h
  refine g_aload_n (pc' := 44) 0 dX10_find_43 rfl rfl ?_
  refine g_aload_n (pc' := 45) 0 dX10_find_44 rfl rfl ?_
  refine g_getR (pc' := 48) (o := some 7) fl_X10_28 rfl rfl rfl dX10_find_45 rfl ?_
  refine g_getI (pc' := 51) (z := 15) rfl fl_X10_36 rfl rfl dX10_find_48 rfl (fun rg10 => ?_)
  refine g_putI (pc' := 54) (z := 8) rfl fp_X10_25 rfl rfl rg10 dX10_find_51 rfl ?_
  refine g_aload_n (pc' := 55) 0 dX10_find_54 rfl rfl ?_
  refine g_iload (pc' := 57) 5 dX10_find_55 rfl rfl ?_
  refine g_putI (pc' := 60) (z := 7) rfl fp_X10_21 rfl rfl ob11 dX10_find_57 rfl ?_
  refine g_aload_n (pc' := 61) 0 dX10_find_60 rfl rfl ?_
  refine g_iload_n (pc' := 62) 1 dX10_find_61 rfl rfl ?_
  refine g_putI (pc' := 65) (z := 6) rfl fp_X10_39 rfl rfl ob12 dX10_find_62 rfl ?_
  refine g_aload_n (pc' := 66) 0 dX10_find_65 rfl rfl ?_
  refine g_getR (pc' := 69) (o := some 44) fl_X10_32 rfl rfl rfl dX10_find_66 rfl ?_
  refine g_cVV (pc' := 72) (vs := []) (st := []) (c := 8) h mv_X8_refresh lk_X10_42 rfl rfl rfl rfl (Nat.le_of_ble_eq_true rfl) (Nat.le_of_ble_eq_true rfl) rfl dX10_find_69 rfl z2 (fun i13 l13 h => ?_)
  refine g_aload_n (pc' := 73) 0 dX10_find_72 rfl rfl ?_
  refine g_iconst (pc' := 74) dX10_find_73 rfl ?_
  refine g_putI (pc' := 77) (z := 5) rfl fp_X10_47 rfl rfl (rg_lit rfl) dX10_find_74 rfl ?_
  refine g_iconst (pc' := 78) dX10_find_77 rfl ?_
  refine g_iload_n (pc' := 79) 3 dX10_find_78 rfl rfl ?_
  refine g_ishl (pc' := 80) dX10_find_79 rfl ?_
  refine g_istore (pc' := 82) (L' := [(6, vI (ishl 1 x3)), (0, vR (some 90)), (1, vI x1), (2, vI x2), (3, vI x3), (4, vI x4), (5, vI x5)]) dX10_find_80 rfl (Nat.le_of_ble_eq_true rfl) rfl ?_
  refine g_iload_n (pc' := 83) 3 dX10_find_82 rfl rfl ?_
  refine g_istore (pc' := 85) (L' := [(7, vI x2), (6, vI (ishl 1 x3)), (0, vR (some 90)), (1, vI x1), (2, vI x2), (3, vI x3), (4, vI x4), (5, vI x5)]) dX10_find_83 rfl (Nat.le_of_ble_eq_true rfl) rfl ?_
  refine g_sub (L' := [(0, vR (some 90)), (2, vI x2), (3, vI x3), (4, vI x4), (6, vI (ishl 1 x3)), (7, vI x2)]) [2, 4, 5, 6, 1, 0] rfl ?_
  exact h
set_option maxRecDepth 20000 in
theorem s_X10_find_85 {w : Wd} {d : Nat} {P : IM → LM → Prop} {i : IM} {l : LM} (x2 : Int) (x3 : Int) (x4 : Int) (x6 : Int) (x7 : Int)  (h : ((rg x7) ∧ (¬ (120 ≤ x7) → rg x6) ∧ (((120 ≤ x7) ∨ ((x6 = 0) ∨ (¬ (i 90 5 = (-1))))) → (((i 90 5 = (-1)) → P i l) ∧ ((¬ (i 90 5 = (-1))) → cVd w d X_X10_trace [vR (some 90), vI x2, vI x3, vI x4] i l (fun i27 l27 => P i27 l27)))) ∧ ((¬ ((120 ≤ x7) ∨ ((x6 = 0) ∨ (¬ (i 90 5 = (-1)))))) → cI w d X_X10_openOf [vR (some 90), vI x6, vI x7] i l (fun r30 i30 l30 => ((0 ≤ x7 ∧ x7 < 120) ∧ (((iand (ishr ((u2 i30 91 x7 r30) 91 x7) x4) 1 = 1) → ((rg x7) ∧ (0 ≤ x7 ∧ x7 < 120) ∧ cI w d X_X10_withStreets [vR (some 90), vI ((u2 (u2 i30 91 x7 r30) 90 5 x7) 91 x7)] (u2 (u2 i30 91 x7 r30) 90 5 x7) l30 (fun r41 i41 l41 => gV w d X_X10_find P i41 l41 85 [(0, vR (some 90)), (2, vI x2), (3, vI x3), (4, vI x4), (6, vI r41), (7, vI (x7 + 1))] []))) ∧ ((¬ (iand (ishr ((u2 i30 91 x7 r30) 91 x7) x4) 1 = 1)) → ((0 ≤ x7 ∧ x7 < 120) ∧ cI w d X_X10_withStreets [vR (some 90), vI ((u2 i30 91 x7 r30) 91 x7)] (u2 i30 91 x7 r30) l30 (fun r37 i37 l37 => gV w d X_X10_find P i37 l37 85 [(0, vR (some 90)), (2, vI x2), (3, vI x3), (4, vI x4), (6, vI r37), (7, vI (x7 + 1))] []))))))))) : gV w d X_X10_find P i l 85 [(0, vR (some 90)), (2, vI x2), (3, vI x3), (4, vI x4), (6, vI x6), (7, vI x7)] [] := by
  refine g_iload (pc' := 87) 5 dX10_find_85 rfl rfl ?_
  refine g_bipush (pc' := 89) dX10_find_87 rfl rfl ?_
  obtain ⟨hob15, hob18, hk44, hk45⟩ := h
  have hk44g : ((120 ≤ x7) ∨ ((x6 = 0) ∨ (¬ (i 90 5 = (-1))))) → gV w d X_X10_find P i l 161 [(0, vR (some 90)), (2, vI x2), (3, vI x3), (4, vI x4), (6, vI x6), (7, vI x7)] [] := by
    intro hp
    have h := hk44 hp
    refine g_aload_n (pc' := 162) 0 dX10_find_161 rfl rfl ?_
    refine g_getI (pc' := 165) (z := 5) rfl fl_X10_47 rfl rfl dX10_find_162 rfl (fun rg24 => ?_)
    refine g_iconst (pc' := 166) dX10_find_165 rfl ?_
    obtain ⟨hk28, hk29⟩ := h
    refine g_icmp_eq (tgt := 177) (pc' := 169) rg24 (rg_lit rfl) Iff.rfl dX10_find_166 rfl rfl (fun c26 => ?_) (fun c26 => ?_)
    · have h := hk28 c26
      exact g_retV rfl dX10_find_177 h
    · have h := hk29 c26
      refine g_aload_n (pc' := 170) 0 dX10_find_169 rfl rfl ?_
      refine g_iload_n (pc' := 171) 1 dX10_find_170 rfl rfl ?_
      refine g_iload_n (pc' := 172) 2 dX10_find_171 rfl rfl ?_
      refine g_iload (pc' := 174) 3 dX10_find_172 rfl rfl ?_
      refine g_cVV (pc' := 177) (vs := [vI x2, vI x3, vI x4]) (st := []) (c := 10) h mv_X10_trace lk_X10_58 rfl rfl rfl rfl (Nat.le_of_ble_eq_true rfl) (Nat.le_of_ble_eq_true rfl) rfl dX10_find_174 rfl z2 (fun i27 l27 h => ?_)
      exact g_retV rfl dX10_find_177 h
  have hk45g : (¬ ((120 ≤ x7) ∨ ((x6 = 0) ∨ (¬ (i 90 5 = (-1)))))) → gV w d X_X10_find P i l 105 [(0, vR (some 90)), (2, vI x2), (3, vI x3), (4, vI x4), (6, vI x6), (7, vI x7)] [] := by
    intro hp
    have h := hk45 hp
    refine g_aload_n (pc' := 106) 0 dX10_find_105 rfl rfl ?_
    refine g_getR (pc' := 109) (o := some 91) fl_X10_9 rfl rfl rfl dX10_find_106 rfl ?_
    refine g_iload (pc' := 111) 5 dX10_find_109 rfl rfl ?_
    refine g_aload_n (pc' := 112) 0 dX10_find_111 rfl rfl ?_
    refine g_iload (pc' := 114) 4 dX10_find_112 rfl rfl ?_
    refine g_iload (pc' := 116) 5 dX10_find_114 rfl rfl ?_
    refine g_cVI (pc' := 119) (vs := [vI x6, vI x7]) (st := [vI x7, vR (some 91)]) (c := 10) h mv_X10_openOf lk_X10_50 rfl rfl rfl rfl (Nat.le_of_ble_eq_true rfl) (Nat.le_of_ble_eq_true rfl) rfl dX10_find_116 rfl z2 (fun r30 i30 l30 rg30 h => ?_)
    obtain ⟨ob31, h⟩ := h
    refine g_iast (pc' := 120) (N := 120) rfl rfl (Nat.lt_of_lt_of_le (Nat.lt_succ_self _) (Nat.le_of_ble_eq_true rfl)) ob31 rg30 dX10_find_119 rfl ?_
    refine g_aload_n (pc' := 121) 0 dX10_find_120 rfl rfl ?_
    refine g_getR (pc' := 124) (o := some 91) fl_X10_9 rfl rfl rfl dX10_find_121 rfl ?_
    refine g_iload (pc' := 126) 5 dX10_find_124 rfl rfl ?_
    refine g_iald (pc' := 127) (N := 120) rfl rfl (Nat.lt_of_lt_of_le (Nat.lt_succ_self _) (Nat.le_of_ble_eq_true rfl)) ob31 dX10_find_126 rfl (fun rg32 => ?_)
    refine g_iload (pc' := 129) 3 dX10_find_127 rfl rfl ?_
    refine g_ishr (pc' := 130) dX10_find_129 rfl ?_
    refine g_iconst (pc' := 131) dX10_find_130 rfl ?_
    refine g_iand (pc' := 132) dX10_find_131 rfl ?_
    refine g_iconst (pc' := 133) dX10_find_132 rfl ?_
    obtain ⟨hk42, hk43⟩ := h
    refine g_icmp_ne (tgt := 142) (pc' := 136) (rg_iand _ _) (rg_lit rfl) Iff.rfl dX10_find_133 rfl rfl (fun c34 => ?_) (fun c34 => ?_)
    · have h := hk43 c34
      obtain ⟨ob35, h⟩ := h
      refine g_aload_n (pc' := 143) 0 dX10_find_142 rfl rfl ?_
      refine g_aload_n (pc' := 144) 0 dX10_find_143 rfl rfl ?_
      refine g_getR (pc' := 147) (o := some 91) fl_X10_9 rfl rfl rfl dX10_find_144 rfl ?_
      refine g_iload (pc' := 149) 5 dX10_find_147 rfl rfl ?_
      refine g_iald (pc' := 150) (N := 120) rfl rfl (Nat.lt_of_lt_of_le (Nat.lt_succ_self _) (Nat.le_of_ble_eq_true rfl)) ob35 dX10_find_149 rfl (fun rg36 => ?_)
      refine g_cVI (pc' := 153) (vs := [vI ((u2 i30 91 x7 r30) 91 x7)]) (st := []) (c := 10) h mv_X10_withStreets lk_X10_54 rfl rfl rfl rfl (Nat.le_of_ble_eq_true rfl) (Nat.le_of_ble_eq_true rfl) rfl dX10_find_150 rfl z2 (fun r37 i37 l37 rg37 h => ?_)
      refine g_istore (pc' := 155) (L' := [(6, vI r37), (0, vR (some 90)), (2, vI x2), (3, vI x3), (4, vI x4), (7, vI x7)]) dX10_find_153 rfl (Nat.le_of_ble_eq_true rfl) rfl ?_
      refine g_iinc (pc' := 158) (L' := [(7, vI (x7 + 1)), (6, vI r37), (0, vR (some 90)), (2, vI x2), (3, vI x3), (4, vI x4)]) 5 dX10_find_155 rfl (Nat.le_of_ble_eq_true rfl) rfl rfl ?_
      refine g_goto (tgt := 85) dX10_find_158 rfl ?_
      refine g_sub (L' := [(0, vR (some 90)), (2, vI x2), (3, vI x3), (4, vI x4), (6, vI r37), (7, vI (x7 + 1))]) [2, 3, 4, 5, 1, 0] rfl ?_
      exact h
    · have h := hk42 c34
      obtain ⟨ob38, ob39, h⟩ := h
      refine g_aload_n (pc' := 137) 0 dX10_find_136 rfl rfl ?_
      refine g_iload (pc' := 139) 5 dX10_find_137 rfl rfl ?_
      refine g_putI (pc' := 142) (z := 5) rfl fp_X10_47 rfl rfl ob38 dX10_find_139 rfl ?_
      refine g_aload_n (pc' := 143) 0 dX10_find_142 rfl rfl ?_
      refine g_aload_n (pc' := 144) 0 dX10_find_143 rfl rfl ?_
      refine g_getR (pc' := 147) (o := some 91) fl_X10_9 rfl rfl rfl dX10_find_144 rfl ?_
      refine g_iload (pc' := 149) 5 dX10_find_147 rfl rfl ?_
      refine g_iald (pc' := 150) (N := 120) rfl rfl (Nat.lt_of_lt_of_le (Nat.lt_succ_self _) (Nat.le_of_ble_eq_true rfl)) ob39 dX10_find_149 rfl (fun rg40 => ?_)
      refine g_cVI (pc' := 153) (vs := [vI ((u2 (u2 i30 91 x7 r30) 90 5 x7) 91 x7)]) (st := []) (c := 10) h mv_X10_withStreets lk_X10_54 rfl rfl rfl rfl (Nat.le_of_ble_eq_true rfl) (Nat.le_of_ble_eq_true rfl) rfl dX10_find_150 rfl z2 (fun r41 i41 l41 rg41 h => ?_)
      refine g_istore (pc' := 155) (L' := [(6, vI r41), (0, vR (some 90)), (2, vI x2), (3, vI x3), (4, vI x4), (7, vI x7)]) dX10_find_153 rfl (Nat.le_of_ble_eq_true rfl) rfl ?_
      refine g_iinc (pc' := 158) (L' := [(7, vI (x7 + 1)), (6, vI r41), (0, vR (some 90)), (2, vI x2), (3, vI x3), (4, vI x4)]) 5 dX10_find_155 rfl (Nat.le_of_ble_eq_true rfl) rfl rfl ?_
      refine g_goto (tgt := 85) dX10_find_158 rfl ?_
      refine g_sub (L' := [(0, vR (some 90)), (2, vI x2), (3, vI x3), (4, vI x4), (6, vI r41), (7, vI (x7 + 1))]) [2, 3, 4, 5, 1, 0] rfl ?_
      exact h
  refine g_icmp_ge (tgt := 161) (pc' := 92) (hob15) (rg_lit rfl) Iff.rfl dX10_find_89 rfl rfl (fun c16 => ?_) (fun c16 => ?_)
  · exact hk44g (Or.inl c16)
  · refine g_iload (pc' := 94) 4 dX10_find_92 rfl rfl ?_
    refine g_if_eq (tgt := 161) (pc' := 97) (hob18 c16) Iff.rfl dX10_find_94 rfl rfl (fun c19 => ?_) (fun c19 => ?_)
    · exact hk44g (Or.inr (Or.inl c19))
    · refine g_aload_n (pc' := 98) 0 dX10_find_97 rfl rfl ?_
      refine g_getI (pc' := 101) (z := 5) rfl fl_X10_47 rfl rfl dX10_find_98 rfl (fun rg21 => ?_)
      refine g_iconst (pc' := 102) dX10_find_101 rfl ?_
      refine g_icmp_ne (tgt := 161) (pc' := 105) rg21 (rg_lit rfl) Iff.rfl dX10_find_102 rfl rfl (fun c22 => ?_) (fun c22 => ?_)
      · exact hk44g (Or.inr (Or.inr c22))
      · exact hk45g (fun q => q.elim c16 (fun q => q.elim c19 (fun q => q c22)))

theorem dX10_openOf_0 : decode cX10_openOf 0 = .ok (.aload_n 0, 1) := by decide +kernel
theorem dX10_openOf_1 : decode cX10_openOf 1 = .ok (.getfield 32, 3) := by decide +kernel
theorem dX10_openOf_4 : decode cX10_openOf 4 = .ok (.iload_n 2, 1) := by decide +kernel
theorem dX10_openOf_5 : decode cX10_openOf 5 = .ok (.aload_n 0, 1) := by decide +kernel
theorem dX10_openOf_6 : decode cX10_openOf 6 = .ok (.getfield 39, 3) := by decide +kernel
theorem dX10_openOf_9 : decode cX10_openOf 9 = .ok (.invokevirtual 62, 3) := by decide +kernel
theorem dX10_openOf_12 : decode cX10_openOf 12 = .ok (.iconst 0, 1) := by decide +kernel
theorem dX10_openOf_13 : decode cX10_openOf 13 = .ok (.istore_n 3, 1) := by decide +kernel
theorem dX10_openOf_14 : decode cX10_openOf 14 = .ok (.iload_n 3, 1) := by decide +kernel
theorem dX10_openOf_15 : decode cX10_openOf 15 = .ok (.aload_n 0, 1) := by decide +kernel
theorem dX10_openOf_16 : decode cX10_openOf 16 = .ok (.getfield 28, 3) := by decide +kernel
theorem dX10_openOf_19 : decode cX10_openOf 19 = .ok (.getfield 66, 3) := by decide +kernel
theorem dX10_openOf_22 : decode cX10_openOf 22 = .ok (.if_icmp .ge 42, 3) := by decide +kernel
theorem dX10_openOf_25 : decode cX10_openOf 25 = .ok (.aload_n 0, 1) := by decide +kernel
theorem dX10_openOf_26 : decode cX10_openOf 26 = .ok (.getfield 15, 3) := by decide +kernel
theorem dX10_openOf_29 : decode cX10_openOf 29 = .ok (.iload_n 3, 1) := by decide +kernel
theorem dX10_openOf_30 : decode cX10_openOf 30 = .ok (.aload_n 0, 1) := by decide +kernel
theorem dX10_openOf_31 : decode cX10_openOf 31 = .ok (.getfield 28, 3) := by decide +kernel
theorem dX10_openOf_34 : decode cX10_openOf 34 = .ok (.iload_n 3, 1) := by decide +kernel
theorem dX10_openOf_35 : decode cX10_openOf 35 = .ok (.iconst 1, 1) := by decide +kernel
theorem dX10_openOf_36 : decode cX10_openOf 36 = .ok (.invokevirtual 69, 3) := by decide +kernel
theorem dX10_openOf_39 : decode cX10_openOf 39 = .ok (.iload_n 1, 1) := by decide +kernel
theorem dX10_openOf_40 : decode cX10_openOf 40 = .ok (.iand, 1) := by decide +kernel
theorem dX10_openOf_41 : decode cX10_openOf 41 = .ok (.ifCond .ne 7, 3) := by decide +kernel
theorem dX10_openOf_44 : decode cX10_openOf 44 = .ok (.iconst 0, 1) := by decide +kernel
theorem dX10_openOf_45 : decode cX10_openOf 45 = .ok (.goto 12, 3) := by decide +kernel
theorem dX10_openOf_48 : decode cX10_openOf 48 = .ok (.aload_n 0, 1) := by decide +kernel
theorem dX10_openOf_49 : decode cX10_openOf 49 = .ok (.getfield 32, 3) := by decide +kernel
theorem dX10_openOf_52 : decode cX10_openOf 52 = .ok (.iload_n 3, 1) := by decide +kernel
theorem dX10_openOf_53 : decode cX10_openOf 53 = .ok (.iload_n 2, 1) := by decide +kernel
theorem dX10_openOf_54 : decode cX10_openOf 54 = .ok (.invokevirtual 72, 3) := by decide +kernel
theorem dX10_openOf_57 : decode cX10_openOf 57 = .ok (.iastore, 1) := by decide +kernel
theorem dX10_openOf_58 : decode cX10_openOf 58 = .ok (.iinc 3 1, 3) := by decide +kernel
theorem dX10_openOf_61 : decode cX10_openOf 61 = .ok (.goto (-47), 3) := by decide +kernel
theorem dX10_openOf_64 : decode cX10_openOf 64 = .ok (.iconst 0, 1) := by decide +kernel
theorem dX10_openOf_65 : decode cX10_openOf 65 = .ok (.istore_n 3, 1) := by decide +kernel
theorem dX10_openOf_66 : decode cX10_openOf 66 = .ok (.iconst 0, 1) := by decide +kernel
theorem dX10_openOf_67 : decode cX10_openOf 67 = .ok (.istore 4, 2) := by decide +kernel
theorem dX10_openOf_69 : decode cX10_openOf 69 = .ok (.iload 4, 2) := by decide +kernel
theorem dX10_openOf_71 : decode cX10_openOf 71 = .ok (.bipush 10, 2) := by decide +kernel
theorem dX10_openOf_73 : decode cX10_openOf 73 = .ok (.if_icmp .ge 36, 3) := by decide +kernel
theorem dX10_openOf_76 : decode cX10_openOf 76 = .ok (.iload_n 1, 1) := by decide +kernel
theorem dX10_openOf_77 : decode cX10_openOf 77 = .ok (.iload 4, 2) := by decide +kernel
theorem dX10_openOf_79 : decode cX10_openOf 79 = .ok (.ishr, 1) := by decide +kernel
theorem dX10_openOf_80 : decode cX10_openOf 80 = .ok (.iconst 1, 1) := by decide +kernel
theorem dX10_openOf_81 : decode cX10_openOf 81 = .ok (.iand, 1) := by decide +kernel
theorem dX10_openOf_82 : decode cX10_openOf 82 = .ok (.iconst 1, 1) := by decide +kernel
theorem dX10_openOf_83 : decode cX10_openOf 83 = .ok (.if_icmp .ne 20, 3) := by decide +kernel
theorem dX10_openOf_86 : decode cX10_openOf 86 = .ok (.aload_n 0, 1) := by decide +kernel
theorem dX10_openOf_87 : decode cX10_openOf 87 = .ok (.iload 4, 2) := by decide +kernel
theorem dX10_openOf_89 : decode cX10_openOf 89 = .ok (.iload_n 2, 1) := by decide +kernel
theorem dX10_openOf_90 : decode cX10_openOf 90 = .ok (.invokevirtual 75, 3) := by decide +kernel
theorem dX10_openOf_93 : decode cX10_openOf 93 = .ok (.ifCond .eq 10, 3) := by decide +kernel
theorem dX10_openOf_96 : decode cX10_openOf 96 = .ok (.iload_n 3, 1) := by decide +kernel
theorem dX10_openOf_97 : decode cX10_openOf 97 = .ok (.iconst 1, 1) := by decide +kernel
theorem dX10_openOf_98 : decode cX10_openOf 98 = .ok (.iload 4, 2) := by decide +kernel
theorem dX10_openOf_100 : decode cX10_openOf 100 = .ok (.ishl, 1) := by decide +kernel
theorem dX10_openOf_101 : decode cX10_openOf 101 = .ok (.ior, 1) := by decide +kernel
theorem dX10_openOf_102 : decode cX10_openOf 102 = .ok (.istore_n 3, 1) := by decide +kernel
theorem dX10_openOf_103 : decode cX10_openOf 103 = .ok (.iinc 4 1, 3) := by decide +kernel
theorem dX10_openOf_106 : decode cX10_openOf 106 = .ok (.goto (-37), 3) := by decide +kernel
theorem dX10_openOf_109 : decode cX10_openOf 109 = .ok (.iload_n 3, 1) := by decide +kernel
theorem dX10_openOf_110 : decode cX10_openOf 110 = .ok (.ireturn, 1) := by decide +kernel
set_option maxRecDepth 20000 in
theorem s_X10_openOf {w : Wd} {d : Nat} {P : Int → IM → LM → Prop} {i : IM} {l : LM} (p0 : Int) (p1 : Int)  (h : cVd w d X_X8_letOut [vR (some 44), vI p1, vI (i 90 6)] i l (fun i2 l2 => gI w d X_X10_openOf P i2 l2 14 [(0, vR (some 90)), (1, vI p0), (2, vI p1), (3, vI 0)] [])) : gI w d X_X10_openOf P i l 0 [(0, vR (some 90)), (1, vI p0), (2, vI p1)] [] := by
  refine g_aload_n (pc' := 1) 0 dX10_openOf_0 rfl rfl ?_
  refine g_getR (pc' := 4) (o := some 44) fl_X10_32 rfl rfl rfl dX10_openOf_1 rfl ?_
  refine g_iload_n (pc' := 5) 2 dX10_openOf_4 rfl rfl ?_
  refine g_aload_n (pc' := 6) 0 dX10_openOf_5 rfl rfl ?_
  refine g_getI (pc' := 9) (z := 6) rfl fl_X10_39 rfl rfl dX10_openOf_6 rfl (fun rg1 => ?_)
  refine g_cVV (pc' := 12) (vs := [vI p1, vI (i 90 6)]) (st := []) (c := 8) h mv_X8_letOut lk_X10_62 rfl rfl rfl rfl (Nat.le_of_ble_eq_true rfl) (Nat.le_of_ble_eq_true rfl) rfl dX10_openOf_9 rfl z2 (fun i2 l2 h => ?_)
  refine g_iconst (pc' := 13) dX10_openOf_12 rfl ?_
  refine g_istore_n (pc' := 14) (L' := [(3, vI 0), (0, vR (some 90)), (1, vI p0), (2, vI p1)]) dX10_openOf_13 rfl (Nat.le_of_ble_eq_true rfl) rfl ?_
  refine g_sub (L' := [(0, vR (some 90)), (1, vI p0), (2, vI p1), (3, vI 0)]) [1, 2, 3, 0] rfl ?_
  exact h
theorem e_X10_openOf {w : Wd} {d : Nat} {P : Int → IM → LM → Prop} {i : IM} {l : LM} {p0 : Int} {p1 : Int}  (h : gI w d X_X10_openOf P i l 0 [(0, vR (some 90)), (1, vI p0), (2, vI p1)] []) : cI w (d + 1) X_X10_openOf [vR (some 90), vI p0, vI p1] i l P := CI_of (by decide +kernel) (Nat.le_of_ble_eq_true rfl) h
set_option maxRecDepth 20000 in
theorem s_X10_openOf_14 {w : Wd} {d : Nat} {P : Int → IM → LM → Prop} {i : IM} {l : LM} (x1 : Int) (x2 : Int) (x3 : Int)  (hd : 1 ≤ d) (h : ((rg x3) ∧ (¬ (i 7 9 ≤ x3) → 0 ≤ x3 * 3 + 1 ∧ x3 * 3 + 1 < 24) ∧ ((i 7 9 ≤ x3) → gI w d X_X10_openOf P i l 69 [(0, vR (some 90)), (1, vI x1), (2, vI x2), (3, vI 0), (4, vI 0)] []) ∧ ((¬ (i 7 9 ≤ x3) ∧ (¬ (iand (i 9 (x3 * 3 + 1)) x1 = 0))) → cI w d X_X8_seenFrom [vR (some 44), vI x3, vI x2] i l (fun r10 i10 l10 => ((0 ≤ x3 ∧ x3 < 8) ∧ gI w d X_X10_openOf P (u2 i10 92 x3 r10) l10 14 [(0, vR (some 90)), (1, vI x1), (2, vI x2), (3, vI (x3 + 1))] []))) ∧ ((¬ (i 7 9 ≤ x3) ∧ (iand (i 9 (x3 * 3 + 1)) x1 = 0)) → ((0 ≤ x3 ∧ x3 < 8) ∧ gI w d X_X10_openOf P (u2 i 92 x3 0) l 14 [(0, vR (some 90)), (1, vI x1), (2, vI x2), (3, vI (x3 + 1))] [])))) : gI w d X_X10_openOf P i l 14 [(0, vR (some 90)), (1, vI x1), (2, vI x2), (3, vI x3)] [] := by
  refine g_iload_n (pc' := 15) 3 dX10_openOf_14 rfl rfl ?_
  refine g_aload_n (pc' := 16) 0 dX10_openOf_15 rfl rfl ?_
  refine g_getR (pc' := 19) (o := some 7) fl_X10_28 rfl rfl rfl dX10_openOf_16 rfl ?_
  refine g_getI (pc' := 22) (z := 9) rfl fl_X10_66 rfl rfl dX10_openOf_19 rfl (fun rg3 => ?_)
  obtain ⟨hob5, hob7, hk13, hk14, hk15⟩ := h
  have hk13g : (i 7 9 ≤ x3) → gI w d X_X10_openOf P i l 64 [(0, vR (some 90)), (1, vI x1), (2, vI x2), (3, vI x3)] [] := by
    intro hp
    have h := hk13 hp
    refine g_iconst (pc' := 65) dX10_openOf_64 rfl ?_
    refine g_istore_n (pc' := 66) (L' := [(3, vI 0), (0, vR (some 90)), (1, vI x1), (2, vI x2)]) dX10_openOf_65 rfl (Nat.le_of_ble_eq_true rfl) rfl ?_
    refine g_iconst (pc' := 67) dX10_openOf_66 rfl ?_
    refine g_istore (pc' := 69) (L' := [(4, vI 0), (3, vI 0), (0, vR (some 90)), (1, vI x1), (2, vI x2)]) dX10_openOf_67 rfl (Nat.le_of_ble_eq_true rfl) rfl ?_
    refine g_sub (L' := [(0, vR (some 90)), (1, vI x1), (2, vI x2), (3, vI 0), (4, vI 0)]) [2, 3, 4, 1, 0] rfl ?_
    exact h
  have hk14g : (¬ (i 7 9 ≤ x3) ∧ (¬ (iand (i 9 (x3 * 3 + 1)) x1 = 0))) → gI w d X_X10_openOf P i l 48 [(0, vR (some 90)), (1, vI x1), (2, vI x2), (3, vI x3)] [vI x3, vR (some 92)] := by
    intro hp
    have h := hk14 hp
    refine g_aload_n (pc' := 49) 0 dX10_openOf_48 rfl rfl ?_
    refine g_getR (pc' := 52) (o := some 44) fl_X10_32 rfl rfl rfl dX10_openOf_49 rfl ?_
    refine g_iload_n (pc' := 53) 3 dX10_openOf_52 rfl rfl ?_
    refine g_iload_n (pc' := 54) 2 dX10_openOf_53 rfl rfl ?_
    refine g_cVI (pc' := 57) (vs := [vI x3, vI x2]) (st := [vI x3, vR (some 92)]) (c := 8) h mv_X8_seenFrom lk_X10_72 rfl rfl rfl rfl (Nat.le_of_ble_eq_true rfl) (Nat.le_of_ble_eq_true rfl) rfl dX10_openOf_54 rfl z2 (fun r10 i10 l10 rg10 h => ?_)
    obtain ⟨ob11, h⟩ := h
    refine g_iast (pc' := 58) (N := 8) rfl rfl (Nat.lt_of_lt_of_le (Nat.lt_succ_self _) (Nat.le_of_ble_eq_true rfl)) ob11 rg10 dX10_openOf_57 rfl ?_
    refine g_iinc (pc' := 61) (L' := [(3, vI (x3 + 1)), (0, vR (some 90)), (1, vI x1), (2, vI x2)]) 3 dX10_openOf_58 rfl (Nat.le_of_ble_eq_true rfl) rfl rfl ?_
    refine g_goto (tgt := 14) dX10_openOf_61 rfl ?_
    refine g_sub (L' := [(0, vR (some 90)), (1, vI x1), (2, vI x2), (3, vI (x3 + 1))]) [1, 2, 3, 0] rfl ?_
    exact h
  have hk15g : (¬ (i 7 9 ≤ x3) ∧ (iand (i 9 (x3 * 3 + 1)) x1 = 0)) → gI w d X_X10_openOf P i l 57 [(0, vR (some 90)), (1, vI x1), (2, vI x2), (3, vI x3)] [vI 0, vI x3, vR (some 92)] := by
    intro hp
    have h := hk15 hp
    obtain ⟨ob12, h⟩ := h
    refine g_iast (pc' := 58) (N := 8) rfl rfl (Nat.lt_of_lt_of_le (Nat.lt_succ_self _) (Nat.le_of_ble_eq_true rfl)) ob12 (rg_lit rfl) dX10_openOf_57 rfl ?_
    refine g_iinc (pc' := 61) (L' := [(3, vI (x3 + 1)), (0, vR (some 90)), (1, vI x1), (2, vI x2)]) 3 dX10_openOf_58 rfl (Nat.le_of_ble_eq_true rfl) rfl rfl ?_
    refine g_goto (tgt := 14) dX10_openOf_61 rfl ?_
    refine g_sub (L' := [(0, vR (some 90)), (1, vI x1), (2, vI x2), (3, vI (x3 + 1))]) [1, 2, 3, 0] rfl ?_
    exact h
  refine g_icmp_ge (tgt := 64) (pc' := 25) (hob5) rg3 Iff.rfl dX10_openOf_22 rfl rfl (fun c6 => ?_) (fun c6 => ?_)
  · exact hk13g c6
  · refine g_aload_n (pc' := 26) 0 dX10_openOf_25 rfl rfl ?_
    refine g_getR (pc' := 29) (o := some 92) fl_X10_15 rfl rfl rfl dX10_openOf_26 rfl ?_
    refine g_iload_n (pc' := 30) 3 dX10_openOf_29 rfl rfl ?_
    refine g_aload_n (pc' := 31) 0 dX10_openOf_30 rfl rfl ?_
    refine g_getR (pc' := 34) (o := some 7) fl_X10_28 rfl rfl rfl dX10_openOf_31 rfl ?_
    refine g_iload_n (pc' := 35) 3 dX10_openOf_34 rfl rfl ?_
    refine g_iconst (pc' := 36) dX10_openOf_35 rfl ?_
    refine g_pVI (pc' := 39) (vs := [vI x3, vI 1]) (st := [vI x3, vR (some 92)]) (val := i 9 (x3 * 3 + 1)) (c := 9) (sp_X9_view (le_hd hd rfl) (hob7 c6)) mv_X9_view lk_X10_69 rfl rfl rfl rfl (Nat.le_of_ble_eq_true rfl) (Nat.le_of_ble_eq_true rfl) rfl dX10_openOf_36 rfl z2 (fun rg8 => ?_)
    refine g_iload_n (pc' := 40) 1 dX10_openOf_39 rfl rfl ?_
    refine g_iand (pc' := 41) dX10_openOf_40 rfl ?_
    refine g_if_ne (tgt := 48) (pc' := 44) (rg_iand _ _) Iff.rfl dX10_openOf_41 rfl rfl (fun c9 => ?_) (fun c9 => ?_)
    · exact hk14g ⟨c6, c9⟩
    · refine g_iconst (pc' := 45) dX10_openOf_44 rfl ?_
      refine g_goto (tgt := 57) dX10_openOf_45 rfl ?_
      exact hk15g ⟨c6, c9⟩
set_option maxRecDepth 20000 in
theorem s_X10_openOf_69 {w : Wd} {d : Nat} {P : Int → IM → LM → Prop} {i : IM} {l : LM} (x1 : Int) (x2 : Int) (x3 : Int) (x4 : Int)  (h : ((rg x4) ∧ ((10 ≤ x4) → ((rg x3) ∧ P x3 i l)) ∧ ((¬ (10 ≤ x4) ∧ (¬ (iand (ishr x1 x4) 1 = 1))) → gI w d X_X10_openOf P i l 69 [(0, vR (some 90)), (1, vI x1), (2, vI x2), (3, vI x3), (4, vI (x4 + 1))] []) ∧ ((¬ (10 ≤ x4) ∧ (iand (ishr x1 x4) 1 = 1)) → cI w d X_X10_mayStand [vR (some 90), vI x4, vI x2] i l (fun r21 i21 l21 => (((r21 = 0) → gI w d X_X10_openOf P i21 l21 69 [(0, vR (some 90)), (1, vI x1), (2, vI x2), (3, vI x3), (4, vI (x4 + 1))] []) ∧ ((¬ (r21 = 0)) → gI w d X_X10_openOf P i21 l21 69 [(0, vR (some 90)), (1, vI x1), (2, vI x2), (3, vI (ior x3 (ishl 1 x4))), (4, vI (x4 + 1))] [])))))) : gI w d X_X10_openOf P i l 69 [(0, vR (some 90)), (1, vI x1), (2, vI x2), (3, vI x3), (4, vI x4)] [] := by
  refine g_iload (pc' := 71) 4 dX10_openOf_69 rfl rfl ?_
  refine g_bipush (pc' := 73) dX10_openOf_71 rfl rfl ?_
  obtain ⟨hob17, hk26, hk27, hk28⟩ := h
  have hk26g : (10 ≤ x4) → gI w d X_X10_openOf P i l 109 [(0, vR (some 90)), (1, vI x1), (2, vI x2), (3, vI x3), (4, vI x4)] [] := by
    intro hp
    have h := hk26 hp
    obtain ⟨ob20, h⟩ := h
    refine g_iload_n (pc' := 110) 3 dX10_openOf_109 rfl rfl ?_
    exact g_retI rfl ob20 dX10_openOf_110 h
  have hk27g : (¬ (10 ≤ x4) ∧ (¬ (iand (ishr x1 x4) 1 = 1))) → gI w d X_X10_openOf P i l 103 [(0, vR (some 90)), (1, vI x1), (2, vI x2), (3, vI x3), (4, vI x4)] [] := by
    intro hp
    have h := hk27 hp
    refine g_iinc (pc' := 106) (L' := [(4, vI (x4 + 1)), (0, vR (some 90)), (1, vI x1), (2, vI x2), (3, vI x3)]) 4 dX10_openOf_103 rfl (Nat.le_of_ble_eq_true rfl) rfl rfl ?_
    refine g_goto (tgt := 69) dX10_openOf_106 rfl ?_
    refine g_sub (L' := [(0, vR (some 90)), (1, vI x1), (2, vI x2), (3, vI x3), (4, vI (x4 + 1))]) [1, 2, 3, 4, 0] rfl ?_
    exact h
  have hk28g : (¬ (10 ≤ x4) ∧ (iand (ishr x1 x4) 1 = 1)) → gI w d X_X10_openOf P i l 86 [(0, vR (some 90)), (1, vI x1), (2, vI x2), (3, vI x3), (4, vI x4)] [] := by
    intro hp
    have h := hk28 hp
    refine g_aload_n (pc' := 87) 0 dX10_openOf_86 rfl rfl ?_
    refine g_iload (pc' := 89) 4 dX10_openOf_87 rfl rfl ?_
    refine g_iload_n (pc' := 90) 2 dX10_openOf_89 rfl rfl ?_
    refine g_cVI (pc' := 93) (vs := [vI x4, vI x2]) (st := []) (c := 10) h mv_X10_mayStand lk_X10_75 rfl rfl rfl rfl (Nat.le_of_ble_eq_true rfl) (Nat.le_of_ble_eq_true rfl) rfl dX10_openOf_90 rfl z2 (fun r21 i21 l21 rg21 h => ?_)
    obtain ⟨hk24, hk25⟩ := h
    refine g_if_eq (tgt := 103) (pc' := 96) rg21 Iff.rfl dX10_openOf_93 rfl rfl (fun c23 => ?_) (fun c23 => ?_)
    · have h := hk24 c23
      refine g_iinc (pc' := 106) (L' := [(4, vI (x4 + 1)), (0, vR (some 90)), (1, vI x1), (2, vI x2), (3, vI x3)]) 4 dX10_openOf_103 rfl (Nat.le_of_ble_eq_true rfl) rfl rfl ?_
      refine g_goto (tgt := 69) dX10_openOf_106 rfl ?_
      refine g_sub (L' := [(0, vR (some 90)), (1, vI x1), (2, vI x2), (3, vI x3), (4, vI (x4 + 1))]) [1, 2, 3, 4, 0] rfl ?_
      exact h
    · have h := hk25 c23
      refine g_iload_n (pc' := 97) 3 dX10_openOf_96 rfl rfl ?_
      refine g_iconst (pc' := 98) dX10_openOf_97 rfl ?_
      refine g_iload (pc' := 100) 4 dX10_openOf_98 rfl rfl ?_
      refine g_ishl (pc' := 101) dX10_openOf_100 rfl ?_
      refine g_ior (pc' := 102) dX10_openOf_101 rfl ?_
      refine g_istore_n (pc' := 103) (L' := [(3, vI (ior x3 (ishl 1 x4))), (0, vR (some 90)), (1, vI x1), (2, vI x2), (4, vI x4)]) dX10_openOf_102 rfl (Nat.le_of_ble_eq_true rfl) rfl ?_
      refine g_iinc (pc' := 106) (L' := [(4, vI (x4 + 1)), (3, vI (ior x3 (ishl 1 x4))), (0, vR (some 90)), (1, vI x1), (2, vI x2)]) 4 dX10_openOf_103 rfl (Nat.le_of_ble_eq_true rfl) rfl rfl ?_
      refine g_goto (tgt := 69) dX10_openOf_106 rfl ?_
      refine g_sub (L' := [(0, vR (some 90)), (1, vI x1), (2, vI x2), (3, vI (ior x3 (ishl 1 x4))), (4, vI (x4 + 1))]) [2, 3, 4, 1, 0] rfl ?_
      exact h
  refine g_icmp_ge (tgt := 109) (pc' := 76) (hob17) (rg_lit rfl) Iff.rfl dX10_openOf_73 rfl rfl (fun c18 => ?_) (fun c18 => ?_)
  · exact hk26g c18
  · refine g_iload_n (pc' := 77) 1 dX10_openOf_76 rfl rfl ?_
    refine g_iload (pc' := 79) 4 dX10_openOf_77 rfl rfl ?_
    refine g_ishr (pc' := 80) dX10_openOf_79 rfl ?_
    refine g_iconst (pc' := 81) dX10_openOf_80 rfl ?_
    refine g_iand (pc' := 82) dX10_openOf_81 rfl ?_
    refine g_iconst (pc' := 83) dX10_openOf_82 rfl ?_
    refine g_icmp_ne (tgt := 103) (pc' := 86) (rg_iand _ _) (rg_lit rfl) Iff.rfl dX10_openOf_83 rfl rfl (fun c19 => ?_) (fun c19 => ?_)
    · exact hk27g ⟨c18, c19⟩
    · exact hk28g ⟨c18, c19⟩

theorem dX10_mayStand_0 : decode cX10_mayStand 0 = .ok (.iconst 0, 1) := by decide +kernel
theorem dX10_mayStand_1 : decode cX10_mayStand 1 = .ok (.istore_n 3, 1) := by decide +kernel
theorem dX10_mayStand_2 : decode cX10_mayStand 2 = .ok (.iload_n 3, 1) := by decide +kernel
theorem dX10_mayStand_3 : decode cX10_mayStand 3 = .ok (.aload_n 0, 1) := by decide +kernel
theorem dX10_mayStand_4 : decode cX10_mayStand 4 = .ok (.getfield 28, 3) := by decide +kernel
theorem dX10_mayStand_7 : decode cX10_mayStand 7 = .ok (.getfield 66, 3) := by decide +kernel
theorem dX10_mayStand_10 : decode cX10_mayStand 10 = .ok (.if_icmp .ge 68, 3) := by decide +kernel
theorem dX10_mayStand_13 : decode cX10_mayStand 13 = .ok (.aload_n 0, 1) := by decide +kernel
theorem dX10_mayStand_14 : decode cX10_mayStand 14 = .ok (.getfield 28, 3) := by decide +kernel
theorem dX10_mayStand_17 : decode cX10_mayStand 17 = .ok (.iload_n 3, 1) := by decide +kernel
theorem dX10_mayStand_18 : decode cX10_mayStand 18 = .ok (.iconst 1, 1) := by decide +kernel
theorem dX10_mayStand_19 : decode cX10_mayStand 19 = .ok (.invokevirtual 69, 3) := by decide +kernel
theorem dX10_mayStand_22 : decode cX10_mayStand 22 = .ok (.iload_n 1, 1) := by decide +kernel
theorem dX10_mayStand_23 : decode cX10_mayStand 23 = .ok (.ishr, 1) := by decide +kernel
theorem dX10_mayStand_24 : decode cX10_mayStand 24 = .ok (.iconst 1, 1) := by decide +kernel
theorem dX10_mayStand_25 : decode cX10_mayStand 25 = .ok (.iand, 1) := by decide +kernel
theorem dX10_mayStand_26 : decode cX10_mayStand 26 = .ok (.iconst 1, 1) := by decide +kernel
theorem dX10_mayStand_27 : decode cX10_mayStand 27 = .ok (.if_icmp .ne 45, 3) := by decide +kernel
theorem dX10_mayStand_30 : decode cX10_mayStand 30 = .ok (.aload_n 0, 1) := by decide +kernel
theorem dX10_mayStand_31 : decode cX10_mayStand 31 = .ok (.getfield 15, 3) := by decide +kernel
theorem dX10_mayStand_34 : decode cX10_mayStand 34 = .ok (.iload_n 3, 1) := by decide +kernel
theorem dX10_mayStand_35 : decode cX10_mayStand 35 = .ok (.iaload, 1) := by decide +kernel
theorem dX10_mayStand_36 : decode cX10_mayStand 36 = .ok (.aload_n 0, 1) := by decide +kernel
theorem dX10_mayStand_37 : decode cX10_mayStand 37 = .ok (.getfield 32, 3) := by decide +kernel
theorem dX10_mayStand_40 : decode cX10_mayStand 40 = .ok (.iload_n 3, 1) := by decide +kernel
theorem dX10_mayStand_41 : decode cX10_mayStand 41 = .ok (.aload_n 0, 1) := by decide +kernel
theorem dX10_mayStand_42 : decode cX10_mayStand 42 = .ok (.getfield 39, 3) := by decide +kernel
theorem dX10_mayStand_45 : decode cX10_mayStand 45 = .ok (.iload_n 1, 1) := by decide +kernel
theorem dX10_mayStand_46 : decode cX10_mayStand 46 = .ok (.iload_n 2, 1) := by decide +kernel
theorem dX10_mayStand_47 : decode cX10_mayStand 47 = .ok (.invokevirtual 79, 3) := by decide +kernel
theorem dX10_mayStand_50 : decode cX10_mayStand 50 = .ok (.ior, 1) := by decide +kernel
theorem dX10_mayStand_51 : decode cX10_mayStand 51 = .ok (.istore 4, 2) := by decide +kernel
theorem dX10_mayStand_53 : decode cX10_mayStand 53 = .ok (.iload 4, 2) := by decide +kernel
theorem dX10_mayStand_55 : decode cX10_mayStand 55 = .ok (.invokestatic 83, 3) := by decide +kernel
theorem dX10_mayStand_58 : decode cX10_mayStand 58 = .ok (.aload_n 0, 1) := by decide +kernel
theorem dX10_mayStand_59 : decode cX10_mayStand 59 = .ok (.getfield 32, 3) := by decide +kernel
theorem dX10_mayStand_62 : decode cX10_mayStand 62 = .ok (.iload_n 3, 1) := by decide +kernel
theorem dX10_mayStand_63 : decode cX10_mayStand 63 = .ok (.iload_n 2, 1) := by decide +kernel
theorem dX10_mayStand_64 : decode cX10_mayStand 64 = .ok (.invokevirtual 88, 3) := by decide +kernel
theorem dX10_mayStand_67 : decode cX10_mayStand 67 = .ok (.if_icmp .le 5, 3) := by decide +kernel
theorem dX10_mayStand_70 : decode cX10_mayStand 70 = .ok (.iconst 0, 1) := by decide +kernel
theorem dX10_mayStand_71 : decode cX10_mayStand 71 = .ok (.ireturn, 1) := by decide +kernel
theorem dX10_mayStand_72 : decode cX10_mayStand 72 = .ok (.iinc 3 1, 3) := by decide +kernel
theorem dX10_mayStand_75 : decode cX10_mayStand 75 = .ok (.goto (-73), 3) := by decide +kernel
theorem dX10_mayStand_78 : decode cX10_mayStand 78 = .ok (.iconst 1, 1) := by decide +kernel
theorem dX10_mayStand_79 : decode cX10_mayStand 79 = .ok (.ireturn, 1) := by decide +kernel
set_option maxRecDepth 20000 in
theorem s_X10_mayStand {w : Wd} {d : Nat} {P : Int → IM → LM → Prop} {i : IM} {l : LM} (p0 : Int) (p1 : Int)  (h : gI w d X_X10_mayStand P i l 2 [(0, vR (some 90)), (1, vI p0), (2, vI p1), (3, vI 0)] []) : gI w d X_X10_mayStand P i l 0 [(0, vR (some 90)), (1, vI p0), (2, vI p1)] [] := by
  refine g_iconst (pc' := 1) dX10_mayStand_0 rfl ?_
  refine g_istore_n (pc' := 2) (L' := [(3, vI 0), (0, vR (some 90)), (1, vI p0), (2, vI p1)]) dX10_mayStand_1 rfl (Nat.le_of_ble_eq_true rfl) rfl ?_
  refine g_sub (L' := [(0, vR (some 90)), (1, vI p0), (2, vI p1), (3, vI 0)]) [1, 2, 3, 0] rfl ?_
  exact h
theorem e_X10_mayStand {w : Wd} {d : Nat} {P : Int → IM → LM → Prop} {i : IM} {l : LM} {p0 : Int} {p1 : Int}  (h : gI w d X_X10_mayStand P i l 0 [(0, vR (some 90)), (1, vI p0), (2, vI p1)] []) : cI w (d + 1) X_X10_mayStand [vR (some 90), vI p0, vI p1] i l P := CI_of (by decide +kernel) (Nat.le_of_ble_eq_true rfl) h
set_option maxRecDepth 20000 in
theorem s_X10_mayStand_2 {w : Wd} {d : Nat} {P : Int → IM → LM → Prop} {i : IM} {l : LM} (x1 : Int) (x2 : Int) (x3 : Int)  (hd : 1 ≤ d) (h : ((rg x3) ∧ (¬ (i 7 9 ≤ x3) → 0 ≤ x3 * 3 + 1 ∧ x3 * 3 + 1 < 24) ∧ ((i 7 9 ≤ x3) → P 1 i l) ∧ ((¬ (i 7 9 ≤ x3) ∧ (¬ (iand (ishr (i 9 (x3 * 3 + 1)) x1) 1 = 1))) → gI w d X_X10_mayStand P i l 2 [(0, vR (some 90)), (1, vI x1), (2, vI x2), (3, vI (x3 + 1))] []) ∧ ((¬ (i 7 9 ≤ x3) ∧ (iand (ishr (i 9 (x3 * 3 + 1)) x1) 1 = 1)) → ((0 ≤ x3 ∧ x3 < 8) ∧ cI w d X_X8_oneFrom [vR (some 44), vI x3, vI (i 90 6), vI x1, vI x2] i l (fun r14 i14 l14 => ((0 ≤ ior (i 92 x3) r14 ∧ ior (i 92 x3) r14 < 1024) ∧ cI w d X_X8_limitAt [vR (some 44), vI x3, vI x2] i14 l14 (fun r17 i17 l17 => (((popI (ior (i 92 x3) r14) ≤ r17) → gI w d X_X10_mayStand P i17 l17 2 [(0, vR (some 90)), (1, vI x1), (2, vI x2), (3, vI (x3 + 1))] []) ∧ ((¬ (popI (ior (i 92 x3) r14) ≤ r17)) → P 0 i17 l17))))))))) : gI w d X_X10_mayStand P i l 2 [(0, vR (some 90)), (1, vI x1), (2, vI x2), (3, vI x3)] [] := by
  refine g_iload_n (pc' := 3) 3 dX10_mayStand_2 rfl rfl ?_
  refine g_aload_n (pc' := 4) 0 dX10_mayStand_3 rfl rfl ?_
  refine g_getR (pc' := 7) (o := some 7) fl_X10_28 rfl rfl rfl dX10_mayStand_4 rfl ?_
  refine g_getI (pc' := 10) (z := 9) rfl fl_X10_66 rfl rfl dX10_mayStand_7 rfl (fun rg1 => ?_)
  obtain ⟨hob3, hob5, hk22, hk23, hk24⟩ := h
  have hk22g : (i 7 9 ≤ x3) → gI w d X_X10_mayStand P i l 78 [(0, vR (some 90)), (1, vI x1), (2, vI x2), (3, vI x3)] [] := by
    intro hp
    have h := hk22 hp
    refine g_iconst (pc' := 79) dX10_mayStand_78 rfl ?_
    exact g_retZ rfl (by decide) dX10_mayStand_79 h
  have hk23g : (¬ (i 7 9 ≤ x3) ∧ (¬ (iand (ishr (i 9 (x3 * 3 + 1)) x1) 1 = 1))) → gI w d X_X10_mayStand P i l 72 [(0, vR (some 90)), (1, vI x1), (2, vI x2), (3, vI x3)] [] := by
    intro hp
    have h := hk23 hp
    refine g_iinc (pc' := 75) (L' := [(3, vI (x3 + 1)), (0, vR (some 90)), (1, vI x1), (2, vI x2)]) 3 dX10_mayStand_72 rfl (Nat.le_of_ble_eq_true rfl) rfl rfl ?_
    refine g_goto (tgt := 2) dX10_mayStand_75 rfl ?_
    refine g_sub (L' := [(0, vR (some 90)), (1, vI x1), (2, vI x2), (3, vI (x3 + 1))]) [1, 2, 3, 0] rfl ?_
    exact h
  have hk24g : (¬ (i 7 9 ≤ x3) ∧ (iand (ishr (i 9 (x3 * 3 + 1)) x1) 1 = 1)) → gI w d X_X10_mayStand P i l 30 [(0, vR (some 90)), (1, vI x1), (2, vI x2), (3, vI x3)] [] := by
    intro hp
    have h := hk24 hp
    obtain ⟨ob11, h⟩ := h
    refine g_aload_n (pc' := 31) 0 dX10_mayStand_30 rfl rfl ?_
    refine g_getR (pc' := 34) (o := some 92) fl_X10_15 rfl rfl rfl dX10_mayStand_31 rfl ?_
    refine g_iload_n (pc' := 35) 3 dX10_mayStand_34 rfl rfl ?_
    refine g_iald (pc' := 36) (N := 8) rfl rfl (Nat.lt_of_lt_of_le (Nat.lt_succ_self _) (Nat.le_of_ble_eq_true rfl)) ob11 dX10_mayStand_35 rfl (fun rg12 => ?_)
    refine g_aload_n (pc' := 37) 0 dX10_mayStand_36 rfl rfl ?_
    refine g_getR (pc' := 40) (o := some 44) fl_X10_32 rfl rfl rfl dX10_mayStand_37 rfl ?_
    refine g_iload_n (pc' := 41) 3 dX10_mayStand_40 rfl rfl ?_
    refine g_aload_n (pc' := 42) 0 dX10_mayStand_41 rfl rfl ?_
    refine g_getI (pc' := 45) (z := 6) rfl fl_X10_39 rfl rfl dX10_mayStand_42 rfl (fun rg13 => ?_)
    refine g_iload_n (pc' := 46) 1 dX10_mayStand_45 rfl rfl ?_
    refine g_iload_n (pc' := 47) 2 dX10_mayStand_46 rfl rfl ?_
    refine g_cVI (pc' := 50) (vs := [vI x3, vI (i 90 6), vI x1, vI x2]) (st := [vI (i 92 x3)]) (c := 8) h mv_X8_oneFrom lk_X10_79 rfl rfl rfl rfl (Nat.le_of_ble_eq_true rfl) (Nat.le_of_ble_eq_true rfl) rfl dX10_mayStand_47 rfl z2 (fun r14 i14 l14 rg14 h => ?_)
    obtain ⟨ob15, h⟩ := h
    refine g_ior (pc' := 51) dX10_mayStand_50 rfl ?_
    refine g_istore (pc' := 53) (L' := [(4, vI (ior (i 92 x3) r14)), (0, vR (some 90)), (1, vI x1), (2, vI x2), (3, vI x3)]) dX10_mayStand_51 rfl (Nat.le_of_ble_eq_true rfl) rfl ?_
    refine g_iload (pc' := 55) 0 dX10_mayStand_53 rfl rfl ?_
    refine g_pSI (pc' := 58) (vs := [vI (ior (i 92 x3) r14)]) (st := []) (val := popI (ior (i 92 x3) r14)) (sp_bitCount (le_hd hd rfl) ob15) mk_J6_bitCount_0f7a4 ms_J6_bitCount_0f7a4 lk_X10_83 rfl (Nat.le_of_ble_eq_true rfl) (Nat.le_of_ble_eq_true rfl) rfl dX10_mayStand_55 rfl z2 (fun rg16 => ?_)
    refine g_aload_n (pc' := 59) 1 dX10_mayStand_58 rfl rfl ?_
    refine g_getR (pc' := 62) (o := some 44) fl_X10_32 rfl rfl rfl dX10_mayStand_59 rfl ?_
    refine g_iload_n (pc' := 63) 4 dX10_mayStand_62 rfl rfl ?_
    refine g_iload_n (pc' := 64) 3 dX10_mayStand_63 rfl rfl ?_
    refine g_cVI (pc' := 67) (vs := [vI x3, vI x2]) (st := [vI (popI (ior (i 92 x3) r14))]) (c := 8) h mv_X8_limitAt lk_X10_88 rfl rfl rfl rfl (Nat.le_of_ble_eq_true rfl) (Nat.le_of_ble_eq_true rfl) rfl dX10_mayStand_64 rfl z2 (fun r17 i17 l17 rg17 h => ?_)
    obtain ⟨hk20, hk21⟩ := h
    refine g_icmp_le (tgt := 72) (pc' := 70) rg16 rg17 Iff.rfl dX10_mayStand_67 rfl rfl (fun c19 => ?_) (fun c19 => ?_)
    · have h := hk20 c19
      refine g_iinc (pc' := 75) (L' := [(3, vI (x3 + 1)), (4, vI (ior (i 92 x3) r14)), (0, vR (some 90)), (1, vI x1), (2, vI x2)]) 4 dX10_mayStand_72 rfl (Nat.le_of_ble_eq_true rfl) rfl rfl ?_
      refine g_goto (tgt := 2) dX10_mayStand_75 rfl ?_
      refine g_sub (L' := [(0, vR (some 90)), (1, vI x1), (2, vI x2), (3, vI (x3 + 1))]) [2, 3, 4, 0] rfl ?_
      exact h
    · have h := hk21 c19
      refine g_iconst (pc' := 71) dX10_mayStand_70 rfl ?_
      exact g_retZ rfl (by decide) dX10_mayStand_71 h
  refine g_icmp_ge (tgt := 78) (pc' := 13) (hob3) rg1 Iff.rfl dX10_mayStand_10 rfl rfl (fun c4 => ?_) (fun c4 => ?_)
  · exact hk22g c4
  · refine g_aload_n (pc' := 14) 0 dX10_mayStand_13 rfl rfl ?_
    refine g_getR (pc' := 17) (o := some 7) fl_X10_28 rfl rfl rfl dX10_mayStand_14 rfl ?_
    refine g_iload_n (pc' := 18) 3 dX10_mayStand_17 rfl rfl ?_
    refine g_iconst (pc' := 19) dX10_mayStand_18 rfl ?_
    refine g_pVI (pc' := 22) (vs := [vI x3, vI 1]) (st := []) (val := i 9 (x3 * 3 + 1)) (c := 9) (sp_X9_view (le_hd hd rfl) (hob5 c4)) mv_X9_view lk_X10_69 rfl rfl rfl rfl (Nat.le_of_ble_eq_true rfl) (Nat.le_of_ble_eq_true rfl) rfl dX10_mayStand_19 rfl z2 (fun rg6 => ?_)
    refine g_iload_n (pc' := 23) 1 dX10_mayStand_22 rfl rfl ?_
    refine g_ishr (pc' := 24) dX10_mayStand_23 rfl ?_
    refine g_iconst (pc' := 25) dX10_mayStand_24 rfl ?_
    refine g_iand (pc' := 26) dX10_mayStand_25 rfl ?_
    refine g_iconst (pc' := 27) dX10_mayStand_26 rfl ?_
    refine g_icmp_ne (tgt := 72) (pc' := 30) (rg_iand _ _) (rg_lit rfl) Iff.rfl dX10_mayStand_27 rfl rfl (fun c7 => ?_) (fun c7 => ?_)
    · exact hk23g ⟨c4, c7⟩
    · exact hk24g ⟨c4, c7⟩

theorem dX10_withStreets_0 : decode cX10_withStreets 0 = .ok (.iload_n 1, 1) := by decide +kernel
theorem dX10_withStreets_1 : decode cX10_withStreets 1 = .ok (.istore_n 2, 1) := by decide +kernel
theorem dX10_withStreets_2 : decode cX10_withStreets 2 = .ok (.iconst 0, 1) := by decide +kernel
theorem dX10_withStreets_3 : decode cX10_withStreets 3 = .ok (.istore_n 3, 1) := by decide +kernel
theorem dX10_withStreets_4 : decode cX10_withStreets 4 = .ok (.iload_n 3, 1) := by decide +kernel
theorem dX10_withStreets_5 : decode cX10_withStreets 5 = .ok (.bipush 10, 2) := by decide +kernel
theorem dX10_withStreets_7 : decode cX10_withStreets 7 = .ok (.if_icmp .ge 30, 3) := by decide +kernel
theorem dX10_withStreets_10 : decode cX10_withStreets 10 = .ok (.iload_n 1, 1) := by decide +kernel
theorem dX10_withStreets_11 : decode cX10_withStreets 11 = .ok (.iload_n 3, 1) := by decide +kernel
theorem dX10_withStreets_12 : decode cX10_withStreets 12 = .ok (.ishr, 1) := by decide +kernel
theorem dX10_withStreets_13 : decode cX10_withStreets 13 = .ok (.iconst 1, 1) := by decide +kernel
theorem dX10_withStreets_14 : decode cX10_withStreets 14 = .ok (.iand, 1) := by decide +kernel
theorem dX10_withStreets_15 : decode cX10_withStreets 15 = .ok (.iconst 1, 1) := by decide +kernel
theorem dX10_withStreets_16 : decode cX10_withStreets 16 = .ok (.if_icmp .ne 15, 3) := by decide +kernel
theorem dX10_withStreets_19 : decode cX10_withStreets 19 = .ok (.iload_n 2, 1) := by decide +kernel
theorem dX10_withStreets_20 : decode cX10_withStreets 20 = .ok (.aload_n 0, 1) := by decide +kernel
theorem dX10_withStreets_21 : decode cX10_withStreets 21 = .ok (.getfield 28, 3) := by decide +kernel
theorem dX10_withStreets_24 : decode cX10_withStreets 24 = .ok (.getfield 91, 3) := by decide +kernel
theorem dX10_withStreets_27 : decode cX10_withStreets 27 = .ok (.iload_n 3, 1) := by decide +kernel
theorem dX10_withStreets_28 : decode cX10_withStreets 28 = .ok (.iaload, 1) := by decide +kernel
theorem dX10_withStreets_29 : decode cX10_withStreets 29 = .ok (.ior, 1) := by decide +kernel
theorem dX10_withStreets_30 : decode cX10_withStreets 30 = .ok (.istore_n 2, 1) := by decide +kernel
theorem dX10_withStreets_31 : decode cX10_withStreets 31 = .ok (.iinc 3 1, 3) := by decide +kernel
theorem dX10_withStreets_34 : decode cX10_withStreets 34 = .ok (.goto (-30), 3) := by decide +kernel
theorem dX10_withStreets_37 : decode cX10_withStreets 37 = .ok (.iload_n 2, 1) := by decide +kernel
theorem dX10_withStreets_38 : decode cX10_withStreets 38 = .ok (.ireturn, 1) := by decide +kernel
set_option maxRecDepth 20000 in
theorem s_X10_withStreets {w : Wd} {d : Nat} {P : Int → IM → LM → Prop} {i : IM} {l : LM} (p0 : Int)  (h : gI w d X_X10_withStreets P i l 4 [(0, vR (some 90)), (1, vI p0), (2, vI p0), (3, vI 0)] []) : gI w d X_X10_withStreets P i l 0 [(0, vR (some 90)), (1, vI p0)] [] := by
  refine g_iload_n (pc' := 1) 1 dX10_withStreets_0 rfl rfl ?_
  refine g_istore_n (pc' := 2) (L' := [(2, vI p0), (0, vR (some 90)), (1, vI p0)]) dX10_withStreets_1 rfl (Nat.le_of_ble_eq_true rfl) rfl ?_
  refine g_iconst (pc' := 3) dX10_withStreets_2 rfl ?_
  refine g_istore_n (pc' := 4) (L' := [(3, vI 0), (2, vI p0), (0, vR (some 90)), (1, vI p0)]) dX10_withStreets_3 rfl (Nat.le_of_ble_eq_true rfl) rfl ?_
  refine g_sub (L' := [(0, vR (some 90)), (1, vI p0), (2, vI p0), (3, vI 0)]) [2, 3, 1, 0] rfl ?_
  exact h
theorem e_X10_withStreets {w : Wd} {d : Nat} {P : Int → IM → LM → Prop} {i : IM} {l : LM} {p0 : Int}  (h : gI w d X_X10_withStreets P i l 0 [(0, vR (some 90)), (1, vI p0)] []) : cI w (d + 1) X_X10_withStreets [vR (some 90), vI p0] i l P := CI_of (by decide +kernel) (Nat.le_of_ble_eq_true rfl) h
set_option maxRecDepth 20000 in
theorem s_X10_withStreets_4 {w : Wd} {d : Nat} {P : Int → IM → LM → Prop} {i : IM} {l : LM} (x1 : Int) (x2 : Int) (x3 : Int)  (h : ((rg x3) ∧ ((10 ≤ x3) → ((rg x2) ∧ P x2 i l)) ∧ ((¬ (10 ≤ x3) ∧ (¬ (iand (ishr x1 x3) 1 = 1))) → gI w d X_X10_withStreets P i l 4 [(0, vR (some 90)), (1, vI x1), (2, vI x2), (3, vI (x3 + 1))] []) ∧ ((¬ (10 ≤ x3) ∧ (iand (ishr x1 x3) 1 = 1)) → ((0 ≤ x3 ∧ x3 < 10) ∧ gI w d X_X10_withStreets P i l 4 [(0, vR (some 90)), (1, vI x1), (2, vI (ior x2 (i 11 x3))), (3, vI (x3 + 1))] [])))) : gI w d X_X10_withStreets P i l 4 [(0, vR (some 90)), (1, vI x1), (2, vI x2), (3, vI x3)] [] := by
  refine g_iload_n (pc' := 5) 3 dX10_withStreets_4 rfl rfl ?_
  refine g_bipush (pc' := 7) dX10_withStreets_5 rfl rfl ?_
  obtain ⟨hob2, hk10, hk11, hk12⟩ := h
  have hk10g : (10 ≤ x3) → gI w d X_X10_withStreets P i l 37 [(0, vR (some 90)), (1, vI x1), (2, vI x2), (3, vI x3)] [] := by
    intro hp
    have h := hk10 hp
    obtain ⟨ob7, h⟩ := h
    refine g_iload_n (pc' := 38) 2 dX10_withStreets_37 rfl rfl ?_
    exact g_retI rfl ob7 dX10_withStreets_38 h
  have hk11g : (¬ (10 ≤ x3) ∧ (¬ (iand (ishr x1 x3) 1 = 1))) → gI w d X_X10_withStreets P i l 31 [(0, vR (some 90)), (1, vI x1), (2, vI x2), (3, vI x3)] [] := by
    intro hp
    have h := hk11 hp
    refine g_iinc (pc' := 34) (L' := [(3, vI (x3 + 1)), (0, vR (some 90)), (1, vI x1), (2, vI x2)]) 3 dX10_withStreets_31 rfl (Nat.le_of_ble_eq_true rfl) rfl rfl ?_
    refine g_goto (tgt := 4) dX10_withStreets_34 rfl ?_
    refine g_sub (L' := [(0, vR (some 90)), (1, vI x1), (2, vI x2), (3, vI (x3 + 1))]) [1, 2, 3, 0] rfl ?_
    exact h
  have hk12g : (¬ (10 ≤ x3) ∧ (iand (ishr x1 x3) 1 = 1)) → gI w d X_X10_withStreets P i l 19 [(0, vR (some 90)), (1, vI x1), (2, vI x2), (3, vI x3)] [] := by
    intro hp
    have h := hk12 hp
    obtain ⟨ob8, h⟩ := h
    refine g_iload_n (pc' := 20) 2 dX10_withStreets_19 rfl rfl ?_
    refine g_aload_n (pc' := 21) 0 dX10_withStreets_20 rfl rfl ?_
    refine g_getR (pc' := 24) (o := some 7) fl_X10_28 rfl rfl rfl dX10_withStreets_21 rfl ?_
    refine g_getR (pc' := 27) (o := some 11) fl_X10_91 rfl rfl rfl dX10_withStreets_24 rfl ?_
    refine g_iload_n (pc' := 28) 3 dX10_withStreets_27 rfl rfl ?_
    refine g_iald (pc' := 29) (N := 10) rfl rfl (Nat.lt_of_lt_of_le (Nat.lt_succ_self _) (Nat.le_of_ble_eq_true rfl)) ob8 dX10_withStreets_28 rfl (fun rg9 => ?_)
    refine g_ior (pc' := 30) dX10_withStreets_29 rfl ?_
    refine g_istore_n (pc' := 31) (L' := [(2, vI (ior x2 (i 11 x3))), (0, vR (some 90)), (1, vI x1), (3, vI x3)]) dX10_withStreets_30 rfl (Nat.le_of_ble_eq_true rfl) rfl ?_
    refine g_iinc (pc' := 34) (L' := [(3, vI (x3 + 1)), (2, vI (ior x2 (i 11 x3))), (0, vR (some 90)), (1, vI x1)]) 3 dX10_withStreets_31 rfl (Nat.le_of_ble_eq_true rfl) rfl rfl ?_
    refine g_goto (tgt := 4) dX10_withStreets_34 rfl ?_
    refine g_sub (L' := [(0, vR (some 90)), (1, vI x1), (2, vI (ior x2 (i 11 x3))), (3, vI (x3 + 1))]) [2, 3, 1, 0] rfl ?_
    exact h
  refine g_icmp_ge (tgt := 37) (pc' := 10) (hob2) (rg_lit rfl) Iff.rfl dX10_withStreets_7 rfl rfl (fun c3 => ?_) (fun c3 => ?_)
  · exact hk10g c3
  · refine g_iload_n (pc' := 11) 1 dX10_withStreets_10 rfl rfl ?_
    refine g_iload_n (pc' := 12) 3 dX10_withStreets_11 rfl rfl ?_
    refine g_ishr (pc' := 13) dX10_withStreets_12 rfl ?_
    refine g_iconst (pc' := 14) dX10_withStreets_13 rfl ?_
    refine g_iand (pc' := 15) dX10_withStreets_14 rfl ?_
    refine g_iconst (pc' := 16) dX10_withStreets_15 rfl ?_
    refine g_icmp_ne (tgt := 31) (pc' := 19) (rg_iand _ _) (rg_lit rfl) Iff.rfl dX10_withStreets_16 rfl rfl (fun c4 => ?_) (fun c4 => ?_)
    · exact hk11g ⟨c3, c4⟩
    · exact hk12g ⟨c3, c4⟩

theorem dX10_trace_0 : decode cX10_trace 0 = .ok (.aload_n 0, 1) := by decide +kernel
theorem dX10_trace_1 : decode cX10_trace 1 = .ok (.getfield 9, 3) := by decide +kernel
theorem dX10_trace_4 : decode cX10_trace 4 = .ok (.aload_n 0, 1) := by decide +kernel
theorem dX10_trace_5 : decode cX10_trace 5 = .ok (.getfield 47, 3) := by decide +kernel
theorem dX10_trace_8 : decode cX10_trace 8 = .ok (.iconst 1, 1) := by decide +kernel
theorem dX10_trace_9 : decode cX10_trace 9 = .ok (.iload_n 3, 1) := by decide +kernel
theorem dX10_trace_10 : decode cX10_trace 10 = .ok (.ishl, 1) := by decide +kernel
theorem dX10_trace_11 : decode cX10_trace 11 = .ok (.iastore, 1) := by decide +kernel
theorem dX10_trace_12 : decode cX10_trace 12 = .ok (.aload_n 0, 1) := by decide +kernel
theorem dX10_trace_13 : decode cX10_trace 13 = .ok (.getfield 47, 3) := by decide +kernel
theorem dX10_trace_16 : decode cX10_trace 16 = .ok (.iconst 1, 1) := by decide +kernel
theorem dX10_trace_17 : decode cX10_trace 17 = .ok (.isub, 1) := by decide +kernel
theorem dX10_trace_18 : decode cX10_trace 18 = .ok (.istore 4, 2) := by decide +kernel
theorem dX10_trace_20 : decode cX10_trace 20 = .ok (.iload 4, 2) := by decide +kernel
theorem dX10_trace_22 : decode cX10_trace 22 = .ok (.iload_n 1, 1) := by decide +kernel
theorem dX10_trace_23 : decode cX10_trace 23 = .ok (.if_icmp .lt 32, 3) := by decide +kernel
theorem dX10_trace_26 : decode cX10_trace 26 = .ok (.aload_n 0, 1) := by decide +kernel
theorem dX10_trace_27 : decode cX10_trace 27 = .ok (.getfield 9, 3) := by decide +kernel
theorem dX10_trace_30 : decode cX10_trace 30 = .ok (.iload 4, 2) := by decide +kernel
theorem dX10_trace_32 : decode cX10_trace 32 = .ok (.dup2, 1) := by decide +kernel
theorem dX10_trace_33 : decode cX10_trace 33 = .ok (.iaload, 1) := by decide +kernel
theorem dX10_trace_34 : decode cX10_trace 34 = .ok (.aload_n 0, 1) := by decide +kernel
theorem dX10_trace_35 : decode cX10_trace 35 = .ok (.aload_n 0, 1) := by decide +kernel
theorem dX10_trace_36 : decode cX10_trace 36 = .ok (.getfield 9, 3) := by decide +kernel
theorem dX10_trace_39 : decode cX10_trace 39 = .ok (.iload 4, 2) := by decide +kernel
theorem dX10_trace_41 : decode cX10_trace 41 = .ok (.iconst 1, 1) := by decide +kernel
theorem dX10_trace_42 : decode cX10_trace 42 = .ok (.iadd, 1) := by decide +kernel
theorem dX10_trace_43 : decode cX10_trace 43 = .ok (.iaload, 1) := by decide +kernel
theorem dX10_trace_44 : decode cX10_trace 44 = .ok (.invokevirtual 54, 3) := by decide +kernel
theorem dX10_trace_47 : decode cX10_trace 47 = .ok (.iand, 1) := by decide +kernel
theorem dX10_trace_48 : decode cX10_trace 48 = .ok (.iastore, 1) := by decide +kernel
theorem dX10_trace_49 : decode cX10_trace 49 = .ok (.iinc 4 (-1), 3) := by decide +kernel
theorem dX10_trace_52 : decode cX10_trace 52 = .ok (.goto (-32), 3) := by decide +kernel
theorem dX10_trace_55 : decode cX10_trace 55 = .ok (.iload_n 2, 1) := by decide +kernel
theorem dX10_trace_56 : decode cX10_trace 56 = .ok (.istore 4, 2) := by decide +kernel
theorem dX10_trace_58 : decode cX10_trace 58 = .ok (.aload_n 0, 1) := by decide +kernel
theorem dX10_trace_59 : decode cX10_trace 59 = .ok (.getfield 18, 3) := by decide +kernel
theorem dX10_trace_62 : decode cX10_trace 62 = .ok (.iload_n 1, 1) := by decide +kernel
theorem dX10_trace_63 : decode cX10_trace 63 = .ok (.iload_n 2, 1) := by decide +kernel
theorem dX10_trace_64 : decode cX10_trace 64 = .ok (.iastore, 1) := by decide +kernel
theorem dX10_trace_65 : decode cX10_trace 65 = .ok (.iload_n 1, 1) := by decide +kernel
theorem dX10_trace_66 : decode cX10_trace 66 = .ok (.iconst 1, 1) := by decide +kernel
theorem dX10_trace_67 : decode cX10_trace 67 = .ok (.iadd, 1) := by decide +kernel
theorem dX10_trace_68 : decode cX10_trace 68 = .ok (.istore 5, 2) := by decide +kernel
theorem dX10_trace_70 : decode cX10_trace 70 = .ok (.iload 5, 2) := by decide +kernel
theorem dX10_trace_72 : decode cX10_trace 72 = .ok (.aload_n 0, 1) := by decide +kernel
theorem dX10_trace_73 : decode cX10_trace 73 = .ok (.getfield 47, 3) := by decide +kernel
theorem dX10_trace_76 : decode cX10_trace 76 = .ok (.if_icmp .gt 60, 3) := by decide +kernel
theorem dX10_trace_79 : decode cX10_trace 79 = .ok (.iconst 1, 1) := by decide +kernel
theorem dX10_trace_80 : decode cX10_trace 80 = .ok (.iload 4, 2) := by decide +kernel
theorem dX10_trace_82 : decode cX10_trace 82 = .ok (.ishl, 1) := by decide +kernel
theorem dX10_trace_83 : decode cX10_trace 83 = .ok (.aload_n 0, 1) := by decide +kernel
theorem dX10_trace_84 : decode cX10_trace 84 = .ok (.getfield 28, 3) := by decide +kernel
theorem dX10_trace_87 : decode cX10_trace 87 = .ok (.getfield 91, 3) := by decide +kernel
theorem dX10_trace_90 : decode cX10_trace 90 = .ok (.iload 4, 2) := by decide +kernel
theorem dX10_trace_92 : decode cX10_trace 92 = .ok (.iaload, 1) := by decide +kernel
theorem dX10_trace_93 : decode cX10_trace 93 = .ok (.ior, 1) := by decide +kernel
theorem dX10_trace_94 : decode cX10_trace 94 = .ok (.aload_n 0, 1) := by decide +kernel
theorem dX10_trace_95 : decode cX10_trace 95 = .ok (.getfield 9, 3) := by decide +kernel
theorem dX10_trace_98 : decode cX10_trace 98 = .ok (.iload 5, 2) := by decide +kernel
theorem dX10_trace_100 : decode cX10_trace 100 = .ok (.iaload, 1) := by decide +kernel
theorem dX10_trace_101 : decode cX10_trace 101 = .ok (.iand, 1) := by decide +kernel
theorem dX10_trace_102 : decode cX10_trace 102 = .ok (.istore 6, 2) := by decide +kernel
theorem dX10_trace_104 : decode cX10_trace 104 = .ok (.iload 6, 2) := by decide +kernel
theorem dX10_trace_106 : decode cX10_trace 106 = .ok (.ifCond .ne 8, 3) := by decide +kernel
theorem dX10_trace_109 : decode cX10_trace 109 = .ok (.iload 4, 2) := by decide +kernel
theorem dX10_trace_111 : decode cX10_trace 111 = .ok (.goto 8, 3) := by decide +kernel
theorem dX10_trace_114 : decode cX10_trace 114 = .ok (.iload 6, 2) := by decide +kernel
theorem dX10_trace_116 : decode cX10_trace 116 = .ok (.invokestatic 94, 3) := by decide +kernel
theorem dX10_trace_119 : decode cX10_trace 119 = .ok (.istore 4, 2) := by decide +kernel
theorem dX10_trace_121 : decode cX10_trace 121 = .ok (.aload_n 0, 1) := by decide +kernel
theorem dX10_trace_122 : decode cX10_trace 122 = .ok (.getfield 18, 3) := by decide +kernel
theorem dX10_trace_125 : decode cX10_trace 125 = .ok (.iload 5, 2) := by decide +kernel
theorem dX10_trace_127 : decode cX10_trace 127 = .ok (.iload 4, 2) := by decide +kernel
theorem dX10_trace_129 : decode cX10_trace 129 = .ok (.iastore, 1) := by decide +kernel
theorem dX10_trace_130 : decode cX10_trace 130 = .ok (.iinc 5 1, 3) := by decide +kernel
theorem dX10_trace_133 : decode cX10_trace 133 = .ok (.goto (-63), 3) := by decide +kernel
theorem dX10_trace_136 : decode cX10_trace 136 = .ok (.return_, 1) := by decide +kernel
set_option maxRecDepth 20000 in
theorem s_X10_trace {w : Wd} {d : Nat} {P : IM → LM → Prop} {i : IM} {l : LM} (p0 : Int) (p1 : Int) (p2 : Int)  (h : ((0 ≤ i 90 5 ∧ i 90 5 < 120) ∧ gV w d X_X10_trace P (u2 i 91 (i 90 5) (ishl 1 p2)) l 20 [(0, vR (some 90)), (1, vI p0), (2, vI p1), (4, vI (((u2 i 91 (i 90 5) (ishl 1 p2)) 90 5) - 1))] [])) : gV w d X_X10_trace P i l 0 [(0, vR (some 90)), (1, vI p0), (2, vI p1), (3, vI p2)] [] := by
  obtain ⟨ob2, h⟩ := h
  refine g_aload_n (pc' := 1) 0 dX10_trace_0 rfl rfl ?_
  refine g_getR (pc' := 4) (o := some 91) fl_X10_9 rfl rfl rfl dX10_trace_1 rfl ?_
  refine g_aload_n (pc' := 5) 0 dX10_trace_4 rfl rfl ?_
  refine g_getI (pc' := 8) (z := 5) rfl fl_X10_47 rfl rfl dX10_trace_5 rfl (fun rg1 => ?_)
  refine g_iconst (pc' := 9) dX10_trace_8 rfl ?_
  refine g_iload_n (pc' := 10) 3 dX10_trace_9 rfl rfl ?_
  refine g_ishl (pc' := 11) dX10_trace_10 rfl ?_
  refine g_iast (pc' := 12) (N := 120) rfl rfl (Nat.lt_of_lt_of_le (Nat.lt_succ_self _) (Nat.le_of_ble_eq_true rfl)) ob2 (rg_ishl _ _) dX10_trace_11 rfl ?_
  refine g_aload_n (pc' := 13) 0 dX10_trace_12 rfl rfl ?_
  refine g_getI (pc' := 16) (z := 5) rfl fl_X10_47 rfl rfl dX10_trace_13 rfl (fun rg3 => ?_)
  refine g_iconst (pc' := 17) dX10_trace_16 rfl ?_
  refine g_isub (pc' := 18) dX10_trace_17 rfl ?_
  refine g_istore (pc' := 20) (L' := [(4, vI (((u2 i 91 (i 90 5) (ishl 1 p2)) 90 5) - 1)), (0, vR (some 90)), (1, vI p0), (2, vI p1), (3, vI p2)]) dX10_trace_18 rfl (Nat.le_of_ble_eq_true rfl) rfl ?_
  refine g_sub (L' := [(0, vR (some 90)), (1, vI p0), (2, vI p1), (4, vI (((u2 i 91 (i 90 5) (ishl 1 p2)) 90 5) - 1))]) [1, 2, 3, 0] rfl ?_
  exact h
theorem e_X10_trace {w : Wd} {d : Nat} {P : IM → LM → Prop} {i : IM} {l : LM} {p0 : Int} {p1 : Int} {p2 : Int}  (h : gV w d X_X10_trace P i l 0 [(0, vR (some 90)), (1, vI p0), (2, vI p1), (3, vI p2)] []) : cVd w (d + 1) X_X10_trace [vR (some 90), vI p0, vI p1, vI p2] i l P := CV_of (by decide +kernel) (Nat.le_of_ble_eq_true rfl) h
set_option maxRecDepth 20000 in
theorem s_X10_trace_20 {w : Wd} {d : Nat} {P : IM → LM → Prop} {i : IM} {l : LM} (x1 : Int) (x2 : Int) (x4 : Int)  (h : ((rg x4) ∧ (rg x1) ∧ ((x4 < x1) → ((0 ≤ x1 ∧ x1 < 120) ∧ (rg x2) ∧ gV w d X_X10_trace P (u2 i 93 x1 x2) l 70 [(0, vR (some 90)), (4, vI x2), (5, vI (x1 + 1))] [])) ∧ ((¬ (x4 < x1)) → ((0 ≤ x4 ∧ x4 < 120) ∧ (0 ≤ x4 + 1 ∧ x4 + 1 < 120) ∧ cI w d X_X10_withStreets [vR (some 90), vI (i 91 (x4 + 1))] i l (fun r18 i18 l18 => ((0 ≤ x4 ∧ x4 < 120) ∧ gV w d X_X10_trace P (u2 i18 91 x4 (iand (i 91 x4) r18)) l18 20 [(0, vR (some 90)), (1, vI x1), (2, vI x2), (4, vI (x4 + (-1)))] [])))))) : gV w d X_X10_trace P i l 20 [(0, vR (some 90)), (1, vI x1), (2, vI x2), (4, vI x4)] [] := by
  refine g_iload (pc' := 22) 3 dX10_trace_20 rfl rfl ?_
  refine g_iload_n (pc' := 23) 1 dX10_trace_22 rfl rfl ?_
  obtain ⟨hob5, hob6, hk20, hk21⟩ := h
  refine g_icmp_lt (tgt := 55) (pc' := 26) (hob5) (hob6) Iff.rfl dX10_trace_23 rfl rfl (fun c7 => ?_) (fun c7 => ?_)
  · have h := hk20 c7
    obtain ⟨ob12, ob13, h⟩ := h
    refine g_iload_n (pc' := 56) 2 dX10_trace_55 rfl rfl ?_
    refine g_istore (pc' := 58) (L' := [(4, vI x2), (0, vR (some 90)), (1, vI x1), (2, vI x2)]) dX10_trace_56 rfl (Nat.le_of_ble_eq_true rfl) rfl ?_
    refine g_aload_n (pc' := 59) 1 dX10_trace_58 rfl rfl ?_
    refine g_getR (pc' := 62) (o := some 93) fl_X10_18 rfl rfl rfl dX10_trace_59 rfl ?_
    refine g_iload_n (pc' := 63) 2 dX10_trace_62 rfl rfl ?_
    refine g_iload_n (pc' := 64) 3 dX10_trace_63 rfl rfl ?_
    refine g_iast (pc' := 65) (N := 120) rfl rfl (Nat.lt_of_lt_of_le (Nat.lt_succ_self _) (Nat.le_of_ble_eq_true rfl)) ob12 ob13 dX10_trace_64 rfl ?_
    refine g_iload_n (pc' := 66) 2 dX10_trace_65 rfl rfl ?_
    refine g_iconst (pc' := 67) dX10_trace_66 rfl ?_
    refine g_iadd (pc' := 68) dX10_trace_67 rfl ?_
    refine g_istore (pc' := 70) (L' := [(5, vI (x1 + 1)), (4, vI x2), (0, vR (some 90)), (1, vI x1), (2, vI x2)]) dX10_trace_68 rfl (Nat.le_of_ble_eq_true rfl) rfl ?_
    refine g_sub (L' := [(0, vR (some 90)), (4, vI x2), (5, vI (x1 + 1))]) [2, 1, 0] rfl ?_
    exact h
  · have h := hk21 c7
    obtain ⟨ob14, ob16, h⟩ := h
    refine g_aload_n (pc' := 27) 0 dX10_trace_26 rfl rfl ?_
    refine g_getR (pc' := 30) (o := some 91) fl_X10_9 rfl rfl rfl dX10_trace_27 rfl ?_
    refine g_iload (pc' := 32) 3 dX10_trace_30 rfl rfl ?_
    refine g_dup2_11 (pc' := 33) dX10_trace_32 rfl rfl rfl ?_
    refine g_iald (pc' := 34) (N := 120) rfl rfl (Nat.lt_of_lt_of_le (Nat.lt_succ_self _) (Nat.le_of_ble_eq_true rfl)) ob14 dX10_trace_33 rfl (fun rg15 => ?_)
    refine g_aload_n (pc' := 35) 0 dX10_trace_34 rfl rfl ?_
    refine g_aload_n (pc' := 36) 0 dX10_trace_35 rfl rfl ?_
    refine g_getR (pc' := 39) (o := some 91) fl_X10_9 rfl rfl rfl dX10_trace_36 rfl ?_
    refine g_iload (pc' := 41) 3 dX10_trace_39 rfl rfl ?_
    refine g_iconst (pc' := 42) dX10_trace_41 rfl ?_
    refine g_iadd (pc' := 43) dX10_trace_42 rfl ?_
    refine g_iald (pc' := 44) (N := 120) rfl rfl (Nat.lt_of_lt_of_le (Nat.lt_succ_self _) (Nat.le_of_ble_eq_true rfl)) ob16 dX10_trace_43 rfl (fun rg17 => ?_)
    refine g_cVI (pc' := 47) (vs := [vI (i 91 (x4 + 1))]) (st := [vI (i 91 x4), vI x4, vR (some 91)]) (c := 10) h mv_X10_withStreets lk_X10_54 rfl rfl rfl rfl (Nat.le_of_ble_eq_true rfl) (Nat.le_of_ble_eq_true rfl) rfl dX10_trace_44 rfl z2 (fun r18 i18 l18 rg18 h => ?_)
    obtain ⟨ob19, h⟩ := h
    refine g_iand (pc' := 48) dX10_trace_47 rfl ?_
    refine g_iast (pc' := 49) (N := 120) rfl rfl (Nat.lt_of_lt_of_le (Nat.lt_succ_self _) (Nat.le_of_ble_eq_true rfl)) ob19 (rg_iand _ _) dX10_trace_48 rfl ?_
    refine g_iinc (pc' := 52) (L' := [(4, vI (x4 + (-1))), (0, vR (some 90)), (1, vI x1), (2, vI x2)]) 3 dX10_trace_49 rfl (Nat.le_of_ble_eq_true rfl) rfl rfl ?_
    refine g_goto (tgt := 20) dX10_trace_52 rfl ?_
    refine g_sub (L' := [(0, vR (some 90)), (1, vI x1), (2, vI x2), (4, vI (x4 + (-1)))]) [1, 2, 3, 0] rfl ?_
    exact h
set_option maxRecDepth 20000 in
theorem s_X10_trace_70 {w : Wd} {d : Nat} {P : IM → LM → Prop} {i : IM} {l : LM} (x4 : Int) (x5 : Int)  (hd : 1 ≤ d) (h : ((rg x5) ∧ ((i 90 5 < x5) → P i l) ∧ ((¬ (i 90 5 < x5)) → ((0 ≤ x4 ∧ x4 < 10) ∧ (0 ≤ x5 ∧ x5 < 120) ∧ ((¬ (iand (ior (ishl 1 x4) (i 11 x4)) (i 91 x5) = 0) → 0 ≤ iand (ior (ishl 1 x4) (i 11 x4)) (i 91 x5) ∧ iand (ior (ishl 1 x4) (i 11 x4)) (i 91 x5) < 2147483648) ∧ ((0 ≤ x5 ∧ x5 < 120) ∧ (rg (if (iand (ior (ishl 1 x4) (i 11 x4)) (i 91 x5) = 0) then x4 else lowB (iand (ior (ishl 1 x4) (i 11 x4)) (i 91 x5)))) ∧ gV w d X_X10_trace P (u2 i 93 x5 (if (iand (ior (ishl 1 x4) (i 11 x4)) (i 91 x5) = 0) then x4 else lowB (iand (ior (ishl 1 x4) (i 11 x4)) (i 91 x5)))) l 70 [(0, vR (some 90)), (4, vI (if (iand (ior (ishl 1 x4) (i 11 x4)) (i 91 x5) = 0) then x4 else lowB (iand (ior (ishl 1 x4) (i 11 x4)) (i 91 x5)))), (5, vI (x5 + 1))] [])))))) : gV w d X_X10_trace P i l 70 [(0, vR (some 90)), (4, vI x4), (5, vI x5)] [] := by
  refine g_iload (pc' := 72) 2 dX10_trace_70 rfl rfl ?_
  refine g_aload_n (pc' := 73) 0 dX10_trace_72 rfl rfl ?_
  refine g_getI (pc' := 76) (z := 5) rfl fl_X10_47 rfl rfl dX10_trace_73 rfl (fun rg22 => ?_)
  obtain ⟨hob24, hk40, hk41⟩ := h
  refine g_icmp_gt (tgt := 136) (pc' := 79) (hob24) rg22 Iff.rfl dX10_trace_76 rfl rfl (fun c25 => ?_) (fun c25 => ?_)
  · have h := hk40 c25
    exact g_retV rfl dX10_trace_136 h
  · have h := hk41 c25
    obtain ⟨ob30, ob32, h⟩ := h
    refine g_iconst (pc' := 80) dX10_trace_79 rfl ?_
    refine g_iload (pc' := 82) 1 dX10_trace_80 rfl rfl ?_
    refine g_ishl (pc' := 83) dX10_trace_82 rfl ?_
    refine g_aload_n (pc' := 84) 0 dX10_trace_83 rfl rfl ?_
    refine g_getR (pc' := 87) (o := some 7) fl_X10_28 rfl rfl rfl dX10_trace_84 rfl ?_
    refine g_getR (pc' := 90) (o := some 11) fl_X10_91 rfl rfl rfl dX10_trace_87 rfl ?_
    refine g_iload (pc' := 92) 1 dX10_trace_90 rfl rfl ?_
    refine g_iald (pc' := 93) (N := 10) rfl rfl (Nat.lt_of_lt_of_le (Nat.lt_succ_self _) (Nat.le_of_ble_eq_true rfl)) ob30 dX10_trace_92 rfl (fun rg31 => ?_)
    refine g_ior (pc' := 94) dX10_trace_93 rfl ?_
    refine g_aload_n (pc' := 95) 0 dX10_trace_94 rfl rfl ?_
    refine g_getR (pc' := 98) (o := some 91) fl_X10_9 rfl rfl rfl dX10_trace_95 rfl ?_
    refine g_iload (pc' := 100) 2 dX10_trace_98 rfl rfl ?_
    refine g_iald (pc' := 101) (N := 120) rfl rfl (Nat.lt_of_lt_of_le (Nat.lt_succ_self _) (Nat.le_of_ble_eq_true rfl)) ob32 dX10_trace_100 rfl (fun rg33 => ?_)
    refine g_iand (pc' := 102) dX10_trace_101 rfl ?_
    refine g_istore (pc' := 104) (L' := [(6, vI (iand (ior (ishl 1 x4) (i 11 x4)) (i 91 x5))), (0, vR (some 90)), (4, vI x4), (5, vI x5)]) dX10_trace_102 rfl (Nat.le_of_ble_eq_true rfl) rfl ?_
    refine g_iload (pc' := 106) 0 dX10_trace_104 rfl rfl ?_
    obtain ⟨hob36, h⟩ := h
    have hJ : gV w d X_X10_trace P i l 119 [(6, vI (iand (ior (ishl 1 x4) (i 11 x4)) (i 91 x5))), (0, vR (some 90)), (4, vI x4), (5, vI x5)] [vI (if (iand (ior (ishl 1 x4) (i 11 x4)) (i 91 x5) = 0) then x4 else lowB (iand (ior (ishl 1 x4) (i 11 x4)) (i 91 x5)))] := by
      obtain ⟨ob38, ob39, h⟩ := h
      refine g_istore (pc' := 121) (L' := [(4, vI (if (iand (ior (ishl 1 x4) (i 11 x4)) (i 91 x5) = 0) then x4 else lowB (iand (ior (ishl 1 x4) (i 11 x4)) (i 91 x5)))), (6, vI (iand (ior (ishl 1 x4) (i 11 x4)) (i 91 x5))), (0, vR (some 90)), (5, vI x5)]) dX10_trace_119 rfl (Nat.le_of_ble_eq_true rfl) rfl ?_
      refine g_aload_n (pc' := 122) 2 dX10_trace_121 rfl rfl ?_
      refine g_getR (pc' := 125) (o := some 93) fl_X10_18 rfl rfl rfl dX10_trace_122 rfl ?_
      refine g_iload (pc' := 127) 3 dX10_trace_125 rfl rfl ?_
      refine g_iload (pc' := 129) 0 dX10_trace_127 rfl rfl ?_
      refine g_iast (pc' := 130) (N := 120) rfl rfl (Nat.lt_of_lt_of_le (Nat.lt_succ_self _) (Nat.le_of_ble_eq_true rfl)) ob38 ob39 dX10_trace_129 rfl ?_
      refine g_iinc (pc' := 133) (L' := [(5, vI (x5 + 1)), (4, vI (if (iand (ior (ishl 1 x4) (i 11 x4)) (i 91 x5) = 0) then x4 else lowB (iand (ior (ishl 1 x4) (i 11 x4)) (i 91 x5)))), (6, vI (iand (ior (ishl 1 x4) (i 11 x4)) (i 91 x5))), (0, vR (some 90))]) 3 dX10_trace_130 rfl (Nat.le_of_ble_eq_true rfl) rfl rfl ?_
      refine g_goto (tgt := 70) dX10_trace_133 rfl ?_
      refine g_sub (L' := [(0, vR (some 90)), (4, vI (if (iand (ior (ishl 1 x4) (i 11 x4)) (i 91 x5) = 0) then x4 else lowB (iand (ior (ishl 1 x4) (i 11 x4)) (i 91 x5)))), (5, vI (x5 + 1))]) [3, 1, 0] rfl ?_
      exact h
    refine g_if_ne (tgt := 114) (pc' := 109) (rg_iand _ _) Iff.rfl dX10_trace_106 rfl rfl (fun c35 => ?_) (fun c35 => ?_)
    · refine g_iload (pc' := 116) 0 dX10_trace_114 rfl rfl ?_
      refine g_pNI (pc' := 119) (vs := [vI (iand (ior (ishl 1 x4) (i 11 x4)) (i 91 x5))]) (st := []) (val := lowB (iand (ior (ishl 1 x4) (i 11 x4)) (i 91 x5))) (sp_X11_lowestOf (le_hd hd rfl) (hob36 c35)) mk_X11_lowestOf ms_X11_lowestOf (fun _ h => h.2.2.2.2.2.2.1) rfl (Nat.le_of_ble_eq_true rfl) (Nat.le_of_ble_eq_true rfl) rfl dX10_trace_116 rfl z2 (fun rg37 => ?_)
      rw [if_neg c35 (α := Int) (t := x4) (e := lowB (iand (ior (ishl 1 x4) (i 11 x4)) (i 91 x5)))] at hJ
      exact hJ
    · refine g_iload (pc' := 111) 2 dX10_trace_109 rfl rfl ?_
      refine g_goto (tgt := 119) dX10_trace_111 rfl ?_
      rw [if_pos c35 (α := Int) (t := x4) (e := lowB (iand (ior (ishl 1 x4) (i 11 x4)) (i 91 x5)))] at hJ
      exact hJ

theorem dX4_draw_0 : decode cX4_draw 0 = .ok (.aload_n 0, 1) := by decide +kernel
theorem dX4_draw_1 : decode cX4_draw 1 = .ok (.iload_n 1, 1) := by decide +kernel
theorem dX4_draw_2 : decode cX4_draw 2 = .ok (.putfield 23, 3) := by decide +kernel
theorem dX4_draw_5 : decode cX4_draw 5 = .ok (.aload_n 0, 1) := by decide +kernel
theorem dX4_draw_6 : decode cX4_draw 6 = .ok (.aload_n 0, 1) := by decide +kernel
theorem dX4_draw_7 : decode cX4_draw 7 = .ok (.getfield 15, 3) := by decide +kernel
theorem dX4_draw_10 : decode cX4_draw 10 = .ok (.getfield 27, 3) := by decide +kernel
theorem dX4_draw_13 : decode cX4_draw 13 = .ok (.putfield 32, 3) := by decide +kernel
theorem dX4_draw_16 : decode cX4_draw 16 = .ok (.aload_n 0, 1) := by decide +kernel
theorem dX4_draw_17 : decode cX4_draw 17 = .ok (.getfield 19, 3) := by decide +kernel
theorem dX4_draw_20 : decode cX4_draw 20 = .ok (.invokevirtual 33, 3) := by decide +kernel
theorem dX4_draw_23 : decode cX4_draw 23 = .ok (.aload_n 0, 1) := by decide +kernel
theorem dX4_draw_24 : decode cX4_draw 24 = .ok (.getfield 19, 3) := by decide +kernel
theorem dX4_draw_27 : decode cX4_draw 27 = .ok (.iconst 0, 1) := by decide +kernel
theorem dX4_draw_28 : decode cX4_draw 28 = .ok (.iconst (-1), 1) := by decide +kernel
theorem dX4_draw_29 : decode cX4_draw 29 = .ok (.invokevirtual 38, 3) := by decide +kernel
theorem dX4_draw_32 : decode cX4_draw 32 = .ok (.iconst 0, 1) := by decide +kernel
theorem dX4_draw_33 : decode cX4_draw 33 = .ok (.istore_n 2, 1) := by decide +kernel
theorem dX4_draw_34 : decode cX4_draw 34 = .ok (.iconst 0, 1) := by decide +kernel
theorem dX4_draw_35 : decode cX4_draw 35 = .ok (.istore_n 3, 1) := by decide +kernel
theorem dX4_draw_36 : decode cX4_draw 36 = .ok (.iload_n 3, 1) := by decide +kernel
theorem dX4_draw_37 : decode cX4_draw 37 = .ok (.bipush 120, 2) := by decide +kernel
theorem dX4_draw_39 : decode cX4_draw 39 = .ok (.if_icmp .ge 96, 3) := by decide +kernel
theorem dX4_draw_42 : decode cX4_draw 42 = .ok (.iconst 0, 1) := by decide +kernel
theorem dX4_draw_43 : decode cX4_draw 43 = .ok (.istore 4, 2) := by decide +kernel
theorem dX4_draw_45 : decode cX4_draw 45 = .ok (.iload 4, 2) := by decide +kernel
theorem dX4_draw_47 : decode cX4_draw 47 = .ok (.aload_n 0, 1) := by decide +kernel
theorem dX4_draw_48 : decode cX4_draw 48 = .ok (.getfield 32, 3) := by decide +kernel
theorem dX4_draw_51 : decode cX4_draw 51 = .ok (.if_icmp .ge 64, 3) := by decide +kernel
theorem dX4_draw_54 : decode cX4_draw 54 = .ok (.iload_n 3, 1) := by decide +kernel
theorem dX4_draw_55 : decode cX4_draw 55 = .ok (.ifCond .ne 12, 3) := by decide +kernel
theorem dX4_draw_58 : decode cX4_draw 58 = .ok (.aload_n 0, 1) := by decide +kernel
theorem dX4_draw_59 : decode cX4_draw 59 = .ok (.bipush 10, 2) := by decide +kernel
theorem dX4_draw_61 : decode cX4_draw 61 = .ok (.invokevirtual 42, 3) := by decide +kernel
theorem dX4_draw_64 : decode cX4_draw 64 = .ok (.goto 17, 3) := by decide +kernel
theorem dX4_draw_67 : decode cX4_draw 67 = .ok (.aload_n 0, 1) := by decide +kernel
theorem dX4_draw_68 : decode cX4_draw 68 = .ok (.aload_n 0, 1) := by decide +kernel
theorem dX4_draw_69 : decode cX4_draw 69 = .ok (.getfield 19, 3) := by decide +kernel
theorem dX4_draw_72 : decode cX4_draw 72 = .ok (.getfield 46, 3) := by decide +kernel
theorem dX4_draw_75 : decode cX4_draw 75 = .ok (.iload 4, 2) := by decide +kernel
theorem dX4_draw_77 : decode cX4_draw 77 = .ok (.iaload, 1) := by decide +kernel
theorem dX4_draw_78 : decode cX4_draw 78 = .ok (.invokevirtual 49, 3) := by decide +kernel
theorem dX4_draw_81 : decode cX4_draw 81 = .ok (.istore 5, 2) := by decide +kernel
theorem dX4_draw_83 : decode cX4_draw 83 = .ok (.aload_n 0, 1) := by decide +kernel
theorem dX4_draw_84 : decode cX4_draw 84 = .ok (.getfield 19, 3) := by decide +kernel
theorem dX4_draw_87 : decode cX4_draw 87 = .ok (.getfield 46, 3) := by decide +kernel
theorem dX4_draw_90 : decode cX4_draw 90 = .ok (.iload 4, 2) := by decide +kernel
theorem dX4_draw_92 : decode cX4_draw 92 = .ok (.iload 5, 2) := by decide +kernel
theorem dX4_draw_94 : decode cX4_draw 94 = .ok (.iastore, 1) := by decide +kernel
theorem dX4_draw_95 : decode cX4_draw 95 = .ok (.aload_n 0, 1) := by decide +kernel
theorem dX4_draw_96 : decode cX4_draw 96 = .ok (.getfield 9, 3) := by decide +kernel
theorem dX4_draw_99 : decode cX4_draw 99 = .ok (.iload 4, 2) := by decide +kernel
theorem dX4_draw_101 : decode cX4_draw 101 = .ok (.bipush 120, 2) := by decide +kernel
theorem dX4_draw_103 : decode cX4_draw 103 = .ok (.imul, 1) := by decide +kernel
theorem dX4_draw_104 : decode cX4_draw 104 = .ok (.iload_n 3, 1) := by decide +kernel
theorem dX4_draw_105 : decode cX4_draw 105 = .ok (.iadd, 1) := by decide +kernel
theorem dX4_draw_106 : decode cX4_draw 106 = .ok (.iload 5, 2) := by decide +kernel
theorem dX4_draw_108 : decode cX4_draw 108 = .ok (.iastore, 1) := by decide +kernel
theorem dX4_draw_109 : decode cX4_draw 109 = .ok (.iinc 4 1, 3) := by decide +kernel
theorem dX4_draw_112 : decode cX4_draw 112 = .ok (.goto (-67), 3) := by decide +kernel
theorem dX4_draw_115 : decode cX4_draw 115 = .ok (.iload_n 2, 1) := by decide +kernel
theorem dX4_draw_116 : decode cX4_draw 116 = .ok (.aload_n 0, 1) := by decide +kernel
theorem dX4_draw_117 : decode cX4_draw 117 = .ok (.getfield 19, 3) := by decide +kernel
theorem dX4_draw_120 : decode cX4_draw 120 = .ok (.iload_n 3, 1) := by decide +kernel
theorem dX4_draw_121 : decode cX4_draw 121 = .ok (.invokevirtual 52, 3) := by decide +kernel
theorem dX4_draw_124 : decode cX4_draw 124 = .ok (.invokestatic 55, 3) := by decide +kernel
theorem dX4_draw_127 : decode cX4_draw 127 = .ok (.iadd, 1) := by decide +kernel
theorem dX4_draw_128 : decode cX4_draw 128 = .ok (.istore_n 2, 1) := by decide +kernel
theorem dX4_draw_129 : decode cX4_draw 129 = .ok (.iinc 3 1, 3) := by decide +kernel
theorem dX4_draw_132 : decode cX4_draw 132 = .ok (.goto (-96), 3) := by decide +kernel
theorem dX4_draw_135 : decode cX4_draw 135 = .ok (.iload_n 2, 1) := by decide +kernel
theorem dX4_draw_136 : decode cX4_draw 136 = .ok (.ireturn, 1) := by decide +kernel
set_option maxRecDepth 20000 in
theorem s_X4_draw {w : Wd} {d : Nat} {P : Int → IM → LM → Prop} {i : IM} {l : LM} (p0 : Int)  (h : ((rg p0) ∧ cVd w d X_X8_refresh [vR (some 44)] (u2 (u2 i 94 4 p0) 94 3 ((u2 i 94 4 p0) 7 10)) l (fun i3 l3 => cVd w d X_X8_letOut [vR (some 44), vI 0, vI (-1)] i3 l3 (fun i4 l4 => gI w d X_X4_draw P i4 l4 36 [(0, vR (some 94)), (2, vI 0), (3, vI 0)] [])))) : gI w d X_X4_draw P i l 0 [(0, vR (some 94)), (1, vI p0)] [] := by
  obtain ⟨ob1, h⟩ := h
  refine g_aload_n (pc' := 1) 0 dX4_draw_0 rfl rfl ?_
  refine g_iload_n (pc' := 2) 1 dX4_draw_1 rfl rfl ?_
  refine g_putI (pc' := 5) (z := 4) rfl fp_X4_23 rfl rfl ob1 dX4_draw_2 rfl ?_
  refine g_aload_n (pc' := 6) 0 dX4_draw_5 rfl rfl ?_
  refine g_aload_n (pc' := 7) 0 dX4_draw_6 rfl rfl ?_
  refine g_getR (pc' := 10) (o := some 7) fl_X4_15 rfl rfl rfl dX4_draw_7 rfl ?_
  refine g_getI (pc' := 13) (z := 10) rfl fl_X4_27 rfl rfl dX4_draw_10 rfl (fun rg2 => ?_)
  refine g_putI (pc' := 16) (z := 3) rfl fp_X4_32 rfl rfl rg2 dX4_draw_13 rfl ?_
  refine g_aload_n (pc' := 17) 0 dX4_draw_16 rfl rfl ?_
  refine g_getR (pc' := 20) (o := some 44) fl_X4_19 rfl rfl rfl dX4_draw_17 rfl ?_
  refine g_cVV (pc' := 23) (vs := []) (st := []) (c := 8) h mv_X8_refresh lk_X4_33 rfl rfl rfl rfl (Nat.le_of_ble_eq_true rfl) (Nat.le_of_ble_eq_true rfl) rfl dX4_draw_20 rfl z2 (fun i3 l3 h => ?_)
  refine g_aload_n (pc' := 24) 0 dX4_draw_23 rfl rfl ?_
  refine g_getR (pc' := 27) (o := some 44) fl_X4_19 rfl rfl rfl dX4_draw_24 rfl ?_
  refine g_iconst (pc' := 28) dX4_draw_27 rfl ?_
  refine g_iconst (pc' := 29) dX4_draw_28 rfl ?_
  refine g_cVV (pc' := 32) (vs := [vI 0, vI (-1)]) (st := []) (c := 8) h mv_X8_letOut lk_X4_38 rfl rfl rfl rfl (Nat.le_of_ble_eq_true rfl) (Nat.le_of_ble_eq_true rfl) rfl dX4_draw_29 rfl z2 (fun i4 l4 h => ?_)
  refine g_iconst (pc' := 33) dX4_draw_32 rfl ?_
  refine g_istore_n (pc' := 34) (L' := [(2, vI 0), (0, vR (some 94)), (1, vI p0)]) dX4_draw_33 rfl (Nat.le_of_ble_eq_true rfl) rfl ?_
  refine g_iconst (pc' := 35) dX4_draw_34 rfl ?_
  refine g_istore_n (pc' := 36) (L' := [(3, vI 0), (2, vI 0), (0, vR (some 94)), (1, vI p0)]) dX4_draw_35 rfl (Nat.le_of_ble_eq_true rfl) rfl ?_
  refine g_sub (L' := [(0, vR (some 94)), (2, vI 0), (3, vI 0)]) [2, 1, 0] rfl ?_
  exact h
theorem e_X4_draw {w : Wd} {d : Nat} {P : Int → IM → LM → Prop} {i : IM} {l : LM} {p0 : Int}  (h : gI w d X_X4_draw P i l 0 [(0, vR (some 94)), (1, vI p0)] []) : cI w (d + 1) X_X4_draw [vR (some 94), vI p0] i l P := CI_of (by decide +kernel) (Nat.le_of_ble_eq_true rfl) h
set_option maxRecDepth 20000 in
theorem s_X4_draw_36 {w : Wd} {d : Nat} {P : Int → IM → LM → Prop} {i : IM} {l : LM} (x2 : Int) (x3 : Int)  (h : ((rg x3) ∧ ((120 ≤ x3) → ((rg x2) ∧ P x2 i l)) ∧ ((¬ (120 ≤ x3)) → gI w d X_X4_draw P i l 45 [(0, vR (some 94)), (2, vI x2), (3, vI x3), (4, vI 0)] []))) : gI w d X_X4_draw P i l 36 [(0, vR (some 94)), (2, vI x2), (3, vI x3)] [] := by
  refine g_iload_n (pc' := 37) 2 dX4_draw_36 rfl rfl ?_
  refine g_bipush (pc' := 39) dX4_draw_37 rfl rfl ?_
  obtain ⟨hob6, hk9, hk10⟩ := h
  refine g_icmp_ge (tgt := 135) (pc' := 42) (hob6) (rg_lit rfl) Iff.rfl dX4_draw_39 rfl rfl (fun c7 => ?_) (fun c7 => ?_)
  · have h := hk9 c7
    obtain ⟨ob8, h⟩ := h
    refine g_iload_n (pc' := 136) 1 dX4_draw_135 rfl rfl ?_
    exact g_retI rfl ob8 dX4_draw_136 h
  · have h := hk10 c7
    refine g_iconst (pc' := 43) dX4_draw_42 rfl ?_
    refine g_istore (pc' := 45) (L' := [(4, vI 0), (0, vR (some 94)), (2, vI x2), (3, vI x3)]) dX4_draw_43 rfl (Nat.le_of_ble_eq_true rfl) rfl ?_
    refine g_sub (L' := [(0, vR (some 94)), (2, vI x2), (3, vI x3), (4, vI 0)]) [1, 2, 3, 0] rfl ?_
    exact h
set_option maxRecDepth 20000 in
theorem s_X4_draw_45 {w : Wd} {d : Nat} {P : Int → IM → LM → Prop} {i : IM} {l : LM} (x2 : Int) (x3 : Int) (x4 : Int)  (hd : 1 ≤ d) (h : ((rg x4) ∧ (¬ (i 94 3 ≤ x4) → rg x3) ∧ ((i 94 3 ≤ x4) → cI w d X_X8_failing [vR (some 44), vI x3] i l (fun r19 i19 l19 => ((0 ≤ r19 ∧ r19 < 1024) ∧ gI w d X_X4_draw P i19 l19 36 [(0, vR (some 94)), (2, vI (x2 + (popI r19))), (3, vI (x3 + 1))] []))) ∧ ((¬ (i 94 3 ≤ x4) ∧ (¬ (x3 = 0))) → ((0 ≤ x4 ∧ x4 < 5) ∧ cI w d X_X4_next [vR (some 94), vI (i 49 x4)] i l (fun r24 i24 l24 => ((0 ≤ x4 ∧ x4 < 5) ∧ (0 ≤ (x4 * 120) + x3 ∧ (x4 * 120) + x3 < 600) ∧ gI w d X_X4_draw P (u2 (u2 i24 49 x4 r24) 95 ((x4 * 120) + x3) r24) l24 45 [(0, vR (some 94)), (2, vI x2), (3, vI x3), (4, vI (x4 + 1))] [])))) ∧ ((¬ (i 94 3 ≤ x4) ∧ (x3 = 0)) → cI w d X_X4_drawOf [vR (some 94), vI 10] i l (fun r27 i27 l27 => ((0 ≤ x4 ∧ x4 < 5) ∧ (0 ≤ (x4 * 120) + x3 ∧ (x4 * 120) + x3 < 600) ∧ gI w d X_X4_draw P (u2 (u2 i27 49 x4 r27) 95 ((x4 * 120) + x3) r27) l27 45 [(0, vR (some 94)), (2, vI x2), (3, vI x3), (4, vI (x4 + 1))] []))))) : gI w d X_X4_draw P i l 45 [(0, vR (some 94)), (2, vI x2), (3, vI x3), (4, vI x4)] [] := by
  refine g_iload (pc' := 47) 3 dX4_draw_45 rfl rfl ?_
  refine g_aload_n (pc' := 48) 0 dX4_draw_47 rfl rfl ?_
  refine g_getI (pc' := 51) (z := 3) rfl fl_X4_32 rfl rfl dX4_draw_48 rfl (fun rg11 => ?_)
  obtain ⟨hob13, hob15, hk30, hk31, hk32⟩ := h
  have hk30g : (i 94 3 ≤ x4) → gI w d X_X4_draw P i l 115 [(0, vR (some 94)), (2, vI x2), (3, vI x3), (4, vI x4)] [] := by
    intro hp
    have h := hk30 hp
    refine g_iload_n (pc' := 116) 1 dX4_draw_115 rfl rfl ?_
    refine g_aload_n (pc' := 117) 0 dX4_draw_116 rfl rfl ?_
    refine g_getR (pc' := 120) (o := some 44) fl_X4_19 rfl rfl rfl dX4_draw_117 rfl ?_
    refine g_iload_n (pc' := 121) 2 dX4_draw_120 rfl rfl ?_
    refine g_cVI (pc' := 124) (vs := [vI x3]) (st := [vI x2]) (c := 8) h mv_X8_failing lk_X4_52 rfl rfl rfl rfl (Nat.le_of_ble_eq_true rfl) (Nat.le_of_ble_eq_true rfl) rfl dX4_draw_121 rfl z2 (fun r19 i19 l19 rg19 h => ?_)
    obtain ⟨ob20, h⟩ := h
    refine g_pSI (pc' := 127) (vs := [vI r19]) (st := [vI x2]) (val := popI r19) (sp_bitCount (le_hd hd rfl) ob20) mk_J6_bitCount_0f7a4 ms_J6_bitCount_0f7a4 lk_X4_55 rfl (Nat.le_of_ble_eq_true rfl) (Nat.le_of_ble_eq_true rfl) rfl dX4_draw_124 rfl z2 (fun rg21 => ?_)
    refine g_iadd (pc' := 128) dX4_draw_127 rfl ?_
    refine g_istore_n (pc' := 129) (L' := [(2, vI (x2 + (popI r19))), (0, vR (some 94)), (3, vI x3), (4, vI x4)]) dX4_draw_128 rfl (Nat.le_of_ble_eq_true rfl) rfl ?_
    refine g_iinc (pc' := 132) (L' := [(3, vI (x3 + 1)), (2, vI (x2 + (popI r19))), (0, vR (some 94)), (4, vI x4)]) 2 dX4_draw_129 rfl (Nat.le_of_ble_eq_true rfl) rfl rfl ?_
    refine g_goto (tgt := 36) dX4_draw_132 rfl ?_
    refine g_sub (L' := [(0, vR (some 94)), (2, vI (x2 + (popI r19))), (3, vI (x3 + 1))]) [2, 1, 0] rfl ?_
    exact h
  have hk31g : (¬ (i 94 3 ≤ x4) ∧ (¬ (x3 = 0))) → gI w d X_X4_draw P i l 67 [(0, vR (some 94)), (2, vI x2), (3, vI x3), (4, vI x4)] [] := by
    intro hp
    have h := hk31 hp
    obtain ⟨ob22, h⟩ := h
    refine g_aload_n (pc' := 68) 0 dX4_draw_67 rfl rfl ?_
    refine g_aload_n (pc' := 69) 0 dX4_draw_68 rfl rfl ?_
    refine g_getR (pc' := 72) (o := some 44) fl_X4_19 rfl rfl rfl dX4_draw_69 rfl ?_
    refine g_getR (pc' := 75) (o := some 49) fl_X4_46 rfl rfl rfl dX4_draw_72 rfl ?_
    refine g_iload (pc' := 77) 3 dX4_draw_75 rfl rfl ?_
    refine g_iald (pc' := 78) (N := 5) rfl rfl (Nat.lt_of_lt_of_le (Nat.lt_succ_self _) (Nat.le_of_ble_eq_true rfl)) ob22 dX4_draw_77 rfl (fun rg23 => ?_)
    refine g_cVI (pc' := 81) (vs := [vI (i 49 x4)]) (st := []) (c := 4) h mv_X4_next lk_X4_49 rfl rfl rfl rfl (Nat.le_of_ble_eq_true rfl) (Nat.le_of_ble_eq_true rfl) rfl dX4_draw_78 rfl z2 (fun r24 i24 l24 rg24 h => ?_)
    obtain ⟨ob25, ob26, h⟩ := h
    refine g_istore (pc' := 83) (L' := [(5, vI r24), (0, vR (some 94)), (2, vI x2), (3, vI x3), (4, vI x4)]) dX4_draw_81 rfl (Nat.le_of_ble_eq_true rfl) rfl ?_
    refine g_aload_n (pc' := 84) 1 dX4_draw_83 rfl rfl ?_
    refine g_getR (pc' := 87) (o := some 44) fl_X4_19 rfl rfl rfl dX4_draw_84 rfl ?_
    refine g_getR (pc' := 90) (o := some 49) fl_X4_46 rfl rfl rfl dX4_draw_87 rfl ?_
    refine g_iload (pc' := 92) 4 dX4_draw_90 rfl rfl ?_
    refine g_iload (pc' := 94) 0 dX4_draw_92 rfl rfl ?_
    refine g_iast (pc' := 95) (N := 5) rfl rfl (Nat.lt_of_lt_of_le (Nat.lt_succ_self _) (Nat.le_of_ble_eq_true rfl)) ob25 rg24 dX4_draw_94 rfl ?_
    refine g_aload_n (pc' := 96) 1 dX4_draw_95 rfl rfl ?_
    refine g_getR (pc' := 99) (o := some 95) fl_X4_9 rfl rfl rfl dX4_draw_96 rfl ?_
    refine g_iload (pc' := 101) 4 dX4_draw_99 rfl rfl ?_
    refine g_bipush (pc' := 103) dX4_draw_101 rfl rfl ?_
    refine g_imul (pc' := 104) dX4_draw_103 rfl ?_
    refine g_iload_n (pc' := 105) 3 dX4_draw_104 rfl rfl ?_
    refine g_iadd (pc' := 106) dX4_draw_105 rfl ?_
    refine g_iload (pc' := 108) 0 dX4_draw_106 rfl rfl ?_
    refine g_iast (pc' := 109) (N := 600) rfl rfl (Nat.lt_of_lt_of_le (Nat.lt_succ_self _) (Nat.le_of_ble_eq_true rfl)) ob26 rg24 dX4_draw_108 rfl ?_
    refine g_iinc (pc' := 112) (L' := [(4, vI (x4 + 1)), (5, vI r24), (0, vR (some 94)), (2, vI x2), (3, vI x3)]) 4 dX4_draw_109 rfl (Nat.le_of_ble_eq_true rfl) rfl rfl ?_
    refine g_goto (tgt := 45) dX4_draw_112 rfl ?_
    refine g_sub (L' := [(0, vR (some 94)), (2, vI x2), (3, vI x3), (4, vI (x4 + 1))]) [2, 3, 4, 0] rfl ?_
    exact h
  have hk32g : (¬ (i 94 3 ≤ x4) ∧ (x3 = 0)) → gI w d X_X4_draw P i l 58 [(0, vR (some 94)), (2, vI x2), (3, vI x3), (4, vI x4)] [] := by
    intro hp
    have h := hk32 hp
    refine g_aload_n (pc' := 59) 0 dX4_draw_58 rfl rfl ?_
    refine g_bipush (pc' := 61) dX4_draw_59 rfl rfl ?_
    refine g_cVI (pc' := 64) (vs := [vI 10]) (st := []) (c := 4) h mv_X4_drawOf lk_X4_42 rfl rfl rfl rfl (Nat.le_of_ble_eq_true rfl) (Nat.le_of_ble_eq_true rfl) rfl dX4_draw_61 rfl z2 (fun r27 i27 l27 rg27 h => ?_)
    obtain ⟨ob28, ob29, h⟩ := h
    refine g_goto (tgt := 81) dX4_draw_64 rfl ?_
    refine g_istore (pc' := 83) (L' := [(5, vI r27), (0, vR (some 94)), (2, vI x2), (3, vI x3), (4, vI x4)]) dX4_draw_81 rfl (Nat.le_of_ble_eq_true rfl) rfl ?_
    refine g_aload_n (pc' := 84) 1 dX4_draw_83 rfl rfl ?_
    refine g_getR (pc' := 87) (o := some 44) fl_X4_19 rfl rfl rfl dX4_draw_84 rfl ?_
    refine g_getR (pc' := 90) (o := some 49) fl_X4_46 rfl rfl rfl dX4_draw_87 rfl ?_
    refine g_iload (pc' := 92) 4 dX4_draw_90 rfl rfl ?_
    refine g_iload (pc' := 94) 0 dX4_draw_92 rfl rfl ?_
    refine g_iast (pc' := 95) (N := 5) rfl rfl (Nat.lt_of_lt_of_le (Nat.lt_succ_self _) (Nat.le_of_ble_eq_true rfl)) ob28 rg27 dX4_draw_94 rfl ?_
    refine g_aload_n (pc' := 96) 1 dX4_draw_95 rfl rfl ?_
    refine g_getR (pc' := 99) (o := some 95) fl_X4_9 rfl rfl rfl dX4_draw_96 rfl ?_
    refine g_iload (pc' := 101) 4 dX4_draw_99 rfl rfl ?_
    refine g_bipush (pc' := 103) dX4_draw_101 rfl rfl ?_
    refine g_imul (pc' := 104) dX4_draw_103 rfl ?_
    refine g_iload_n (pc' := 105) 3 dX4_draw_104 rfl rfl ?_
    refine g_iadd (pc' := 106) dX4_draw_105 rfl ?_
    refine g_iload (pc' := 108) 0 dX4_draw_106 rfl rfl ?_
    refine g_iast (pc' := 109) (N := 600) rfl rfl (Nat.lt_of_lt_of_le (Nat.lt_succ_self _) (Nat.le_of_ble_eq_true rfl)) ob29 rg27 dX4_draw_108 rfl ?_
    refine g_iinc (pc' := 112) (L' := [(4, vI (x4 + 1)), (5, vI r27), (0, vR (some 94)), (2, vI x2), (3, vI x3)]) 4 dX4_draw_109 rfl (Nat.le_of_ble_eq_true rfl) rfl rfl ?_
    refine g_goto (tgt := 45) dX4_draw_112 rfl ?_
    refine g_sub (L' := [(0, vR (some 94)), (2, vI x2), (3, vI x3), (4, vI (x4 + 1))]) [2, 3, 4, 0] rfl ?_
    exact h
  refine g_icmp_ge (tgt := 115) (pc' := 54) (hob13) rg11 Iff.rfl dX4_draw_51 rfl rfl (fun c14 => ?_) (fun c14 => ?_)
  · exact hk30g c14
  · refine g_iload_n (pc' := 55) 2 dX4_draw_54 rfl rfl ?_
    refine g_if_ne (tgt := 67) (pc' := 58) (hob15 c14) Iff.rfl dX4_draw_55 rfl rfl (fun c16 => ?_) (fun c16 => ?_)
    · exact hk31g ⟨c14, c16⟩
    · exact hk32g ⟨c14, c16⟩

theorem dX4_drawOf_0 : decode cX4_drawOf 0 = .ok (.aload_n 0, 1) := by decide +kernel
theorem dX4_drawOf_1 : decode cX4_drawOf 1 = .ok (.aload_n 0, 1) := by decide +kernel
theorem dX4_drawOf_2 : decode cX4_drawOf 2 = .ok (.getfield 23, 3) := by decide +kernel
theorem dX4_drawOf_5 : decode cX4_drawOf 5 = .ok (.sipush 1103, 3) := by decide +kernel
theorem dX4_drawOf_8 : decode cX4_drawOf 8 = .ok (.imul, 1) := by decide +kernel
theorem dX4_drawOf_9 : decode cX4_drawOf 9 = .ok (.sipush 12345, 3) := by decide +kernel
theorem dX4_drawOf_12 : decode cX4_drawOf 12 = .ok (.iadd, 1) := by decide +kernel
theorem dX4_drawOf_13 : decode cX4_drawOf 13 = .ok (.ldc 60, 2) := by decide +kernel
theorem dX4_drawOf_15 : decode cX4_drawOf 15 = .ok (.irem, 1) := by decide +kernel
theorem dX4_drawOf_16 : decode cX4_drawOf 16 = .ok (.putfield 23, 3) := by decide +kernel
theorem dX4_drawOf_19 : decode cX4_drawOf 19 = .ok (.iload_n 1, 1) := by decide +kernel
theorem dX4_drawOf_20 : decode cX4_drawOf 20 = .ok (.ifCond .le 12, 3) := by decide +kernel
theorem dX4_drawOf_23 : decode cX4_drawOf 23 = .ok (.aload_n 0, 1) := by decide +kernel
theorem dX4_drawOf_24 : decode cX4_drawOf 24 = .ok (.getfield 23, 3) := by decide +kernel
theorem dX4_drawOf_27 : decode cX4_drawOf 27 = .ok (.iload_n 1, 1) := by decide +kernel
theorem dX4_drawOf_28 : decode cX4_drawOf 28 = .ok (.irem, 1) := by decide +kernel
theorem dX4_drawOf_29 : decode cX4_drawOf 29 = .ok (.goto 4, 3) := by decide +kernel
theorem dX4_drawOf_32 : decode cX4_drawOf 32 = .ok (.iconst 0, 1) := by decide +kernel
theorem dX4_drawOf_33 : decode cX4_drawOf 33 = .ok (.ireturn, 1) := by decide +kernel
set_option maxRecDepth 20000 in
theorem s_X4_drawOf {w : Wd} {d : Nat} {P : Int → IM → LM → Prop} {i : IM} {l : LM} (p0 : Int)  (h : ((rg (((i 94 4) * 1103) + 12345)) ∧ (rg (Int.tmod (((i 94 4) * 1103) + 12345) 1000003)) ∧ ((rg p0) ∧ (¬ (p0 ≤ 0) → ¬ p0 = 0) ∧ ((rg (if (p0 ≤ 0) then 0 else Int.tmod ((u2 i 94 4 (Int.tmod (((i 94 4) * 1103) + 12345) 1000003)) 94 4) p0)) ∧ P (if (p0 ≤ 0) then 0 else Int.tmod ((u2 i 94 4 (Int.tmod (((i 94 4) * 1103) + 12345) 1000003)) 94 4) p0) (u2 i 94 4 (Int.tmod (((i 94 4) * 1103) + 12345) 1000003)) l)))) : gI w d X_X4_drawOf P i l 0 [(0, vR (some 94)), (1, vI p0)] [] := by
  obtain ⟨ob2, ob3, h⟩ := h
  refine g_aload_n (pc' := 1) 0 dX4_drawOf_0 rfl rfl ?_
  refine g_aload_n (pc' := 2) 0 dX4_drawOf_1 rfl rfl ?_
  refine g_getI (pc' := 5) (z := 4) rfl fl_X4_23 rfl rfl dX4_drawOf_2 rfl (fun rg1 => ?_)
  refine g_sipush (pc' := 8) dX4_drawOf_5 rfl rfl ?_
  refine g_imul (pc' := 9) dX4_drawOf_8 rfl ?_
  refine g_sipush (pc' := 12) dX4_drawOf_9 rfl rfl ?_
  refine g_iadd (pc' := 13) dX4_drawOf_12 rfl ?_
  refine g_ldc (pc' := 15) dX4_drawOf_13 rfl kc_X4_60 ?_
  refine g_irem (pc' := 16) dX4_drawOf_15 rfl ob2 (rg_lit rfl) (by decide) ?_
  refine g_putI (pc' := 19) (z := 4) rfl fp_X4_23 rfl rfl ob3 dX4_drawOf_16 rfl ?_
  refine g_iload_n (pc' := 20) 1 dX4_drawOf_19 rfl rfl ?_
  obtain ⟨hob5, hob8, h⟩ := h
  have hJ : gI w d X_X4_drawOf P (u2 i 94 4 (Int.tmod (((i 94 4) * 1103) + 12345) 1000003)) l 33 [(0, vR (some 94)), (1, vI p0)] [vI (if (p0 ≤ 0) then 0 else Int.tmod ((u2 i 94 4 (Int.tmod (((i 94 4) * 1103) + 12345) 1000003)) 94 4) p0)] := by
    obtain ⟨ob9, h⟩ := h
    exact g_retI rfl ob9 dX4_drawOf_33 h
  refine g_if_le (tgt := 32) (pc' := 23) (hob5) Iff.rfl dX4_drawOf_20 rfl rfl (fun c6 => ?_) (fun c6 => ?_)
  · refine g_iconst (pc' := 33) dX4_drawOf_32 rfl ?_
    rw [if_pos c6 (α := Int) (t := 0) (e := Int.tmod ((u2 i 94 4 (Int.tmod (((i 94 4) * 1103) + 12345) 1000003)) 94 4) p0)] at hJ
    exact hJ
  · refine g_aload_n (pc' := 24) 0 dX4_drawOf_23 rfl rfl ?_
    refine g_getI (pc' := 27) (z := 4) rfl fl_X4_23 rfl rfl dX4_drawOf_24 rfl (fun rg7 => ?_)
    refine g_iload_n (pc' := 28) 1 dX4_drawOf_27 rfl rfl ?_
    refine g_irem (pc' := 29) dX4_drawOf_28 rfl rg7 (hob5) (hob8 c6) ?_
    refine g_goto (tgt := 33) dX4_drawOf_29 rfl ?_
    rw [if_neg c6 (α := Int) (t := 0) (e := Int.tmod ((u2 i 94 4 (Int.tmod (((i 94 4) * 1103) + 12345) 1000003)) 94 4) p0)] at hJ
    exact hJ
theorem e_X4_drawOf {w : Wd} {d : Nat} {P : Int → IM → LM → Prop} {i : IM} {l : LM} {p0 : Int}  (h : gI w d X_X4_drawOf P i l 0 [(0, vR (some 94)), (1, vI p0)] []) : cI w (d + 1) X_X4_drawOf [vR (some 94), vI p0] i l P := CI_of (by decide +kernel) (Nat.le_of_ble_eq_true rfl) h

theorem dX4_next_0 : decode cX4_next 0 = .ok (.aload_n 0, 1) := by decide +kernel
theorem dX4_next_1 : decode cX4_next 1 = .ok (.getfield 15, 3) := by decide +kernel
theorem dX4_next_4 : decode cX4_next 4 = .ok (.getfield 61, 3) := by decide +kernel
theorem dX4_next_7 : decode cX4_next 7 = .ok (.iload_n 1, 1) := by decide +kernel
theorem dX4_next_8 : decode cX4_next 8 = .ok (.iaload, 1) := by decide +kernel
theorem dX4_next_9 : decode cX4_next 9 = .ok (.istore_n 2, 1) := by decide +kernel
theorem dX4_next_10 : decode cX4_next 10 = .ok (.aload_n 0, 1) := by decide +kernel
theorem dX4_next_11 : decode cX4_next 11 = .ok (.iconst 1, 1) := by decide +kernel
theorem dX4_next_12 : decode cX4_next 12 = .ok (.iload_n 2, 1) := by decide +kernel
theorem dX4_next_13 : decode cX4_next 13 = .ok (.invokestatic 55, 3) := by decide +kernel
theorem dX4_next_16 : decode cX4_next 16 = .ok (.iadd, 1) := by decide +kernel
theorem dX4_next_17 : decode cX4_next 17 = .ok (.invokevirtual 42, 3) := by decide +kernel
theorem dX4_next_20 : decode cX4_next 20 = .ok (.istore_n 3, 1) := by decide +kernel
theorem dX4_next_21 : decode cX4_next 21 = .ok (.iload_n 3, 1) := by decide +kernel
theorem dX4_next_22 : decode cX4_next 22 = .ok (.ifCond .ne 5, 3) := by decide +kernel
theorem dX4_next_25 : decode cX4_next 25 = .ok (.iload_n 1, 1) := by decide +kernel
theorem dX4_next_26 : decode cX4_next 26 = .ok (.ireturn, 1) := by decide +kernel
theorem dX4_next_27 : decode cX4_next 27 = .ok (.iconst 0, 1) := by decide +kernel
theorem dX4_next_28 : decode cX4_next 28 = .ok (.istore 4, 2) := by decide +kernel
theorem dX4_next_30 : decode cX4_next 30 = .ok (.iload 4, 2) := by decide +kernel
theorem dX4_next_32 : decode cX4_next 32 = .ok (.bipush 10, 2) := by decide +kernel
theorem dX4_next_34 : decode cX4_next 34 = .ok (.if_icmp .ge 25, 3) := by decide +kernel
theorem dX4_next_37 : decode cX4_next 37 = .ok (.iload_n 3, 1) := by decide +kernel
theorem dX4_next_38 : decode cX4_next 38 = .ok (.iload_n 2, 1) := by decide +kernel
theorem dX4_next_39 : decode cX4_next 39 = .ok (.iload 4, 2) := by decide +kernel
theorem dX4_next_41 : decode cX4_next 41 = .ok (.ishr, 1) := by decide +kernel
theorem dX4_next_42 : decode cX4_next 42 = .ok (.iconst 1, 1) := by decide +kernel
theorem dX4_next_43 : decode cX4_next 43 = .ok (.iand, 1) := by decide +kernel
theorem dX4_next_44 : decode cX4_next 44 = .ok (.isub, 1) := by decide +kernel
theorem dX4_next_45 : decode cX4_next 45 = .ok (.istore_n 3, 1) := by decide +kernel
theorem dX4_next_46 : decode cX4_next 46 = .ok (.iload_n 3, 1) := by decide +kernel
theorem dX4_next_47 : decode cX4_next 47 = .ok (.ifCond .ne 6, 3) := by decide +kernel
theorem dX4_next_50 : decode cX4_next 50 = .ok (.iload 4, 2) := by decide +kernel
theorem dX4_next_52 : decode cX4_next 52 = .ok (.ireturn, 1) := by decide +kernel
theorem dX4_next_53 : decode cX4_next 53 = .ok (.iinc 4 1, 3) := by decide +kernel
theorem dX4_next_56 : decode cX4_next 56 = .ok (.goto (-26), 3) := by decide +kernel
theorem dX4_next_59 : decode cX4_next 59 = .ok (.iload_n 1, 1) := by decide +kernel
theorem dX4_next_60 : decode cX4_next 60 = .ok (.ireturn, 1) := by decide +kernel
set_option maxRecDepth 20000 in
theorem s_X4_next {w : Wd} {d : Nat} {P : Int → IM → LM → Prop} {i : IM} {l : LM} (p0 : Int)  (hd : 1 ≤ d) (h : ((0 ≤ p0 ∧ p0 < 10) ∧ (0 ≤ i 11 p0 ∧ i 11 p0 < 1024) ∧ cI w d X_X4_drawOf [vR (some 94), vI (1 + (popI (i 11 p0)))] i l (fun r5 i5 l5 => (((r5 = 0) → ((rg p0) ∧ P p0 i5 l5)) ∧ ((¬ (r5 = 0)) → gI w d X_X4_next P i5 l5 30 [(1, vI p0), (2, vI (i 11 p0)), (3, vI r5), (4, vI 0)] []))))) : gI w d X_X4_next P i l 0 [(0, vR (some 94)), (1, vI p0)] [] := by
  obtain ⟨ob1, ob3, h⟩ := h
  refine g_aload_n (pc' := 1) 0 dX4_next_0 rfl rfl ?_
  refine g_getR (pc' := 4) (o := some 7) fl_X4_15 rfl rfl rfl dX4_next_1 rfl ?_
  refine g_getR (pc' := 7) (o := some 11) fl_X4_61 rfl rfl rfl dX4_next_4 rfl ?_
  refine g_iload_n (pc' := 8) 1 dX4_next_7 rfl rfl ?_
  refine g_iald (pc' := 9) (N := 10) rfl rfl (Nat.lt_of_lt_of_le (Nat.lt_succ_self _) (Nat.le_of_ble_eq_true rfl)) ob1 dX4_next_8 rfl (fun rg2 => ?_)
  refine g_istore_n (pc' := 10) (L' := [(2, vI (i 11 p0)), (0, vR (some 94)), (1, vI p0)]) dX4_next_9 rfl (Nat.le_of_ble_eq_true rfl) rfl ?_
  refine g_aload_n (pc' := 11) 1 dX4_next_10 rfl rfl ?_
  refine g_iconst (pc' := 12) dX4_next_11 rfl ?_
  refine g_iload_n (pc' := 13) 0 dX4_next_12 rfl rfl ?_
  refine g_pSI (pc' := 16) (vs := [vI (i 11 p0)]) (st := [vI 1, vR (some 94)]) (val := popI (i 11 p0)) (sp_bitCount (le_hd hd rfl) ob3) mk_J6_bitCount_0f7a4 ms_J6_bitCount_0f7a4 lk_X4_55 rfl (Nat.le_of_ble_eq_true rfl) (Nat.le_of_ble_eq_true rfl) rfl dX4_next_13 rfl z2 (fun rg4 => ?_)
  refine g_iadd (pc' := 17) dX4_next_16 rfl ?_
  refine g_cVI (pc' := 20) (vs := [vI (1 + (popI (i 11 p0)))]) (st := []) (c := 4) h mv_X4_drawOf lk_X4_42 rfl rfl rfl rfl (Nat.le_of_ble_eq_true rfl) (Nat.le_of_ble_eq_true rfl) rfl dX4_next_17 rfl z2 (fun r5 i5 l5 rg5 h => ?_)
  refine g_istore_n (pc' := 21) (L' := [(3, vI r5), (2, vI (i 11 p0)), (0, vR (some 94)), (1, vI p0)]) dX4_next_20 rfl (Nat.le_of_ble_eq_true rfl) rfl ?_
  refine g_iload_n (pc' := 22) 0 dX4_next_21 rfl rfl ?_
  obtain ⟨hk9, hk10⟩ := h
  refine g_if_ne (tgt := 27) (pc' := 25) rg5 Iff.rfl dX4_next_22 rfl rfl (fun c7 => ?_) (fun c7 => ?_)
  · have h := hk10 c7
    refine g_iconst (pc' := 28) dX4_next_27 rfl ?_
    refine g_istore (pc' := 30) (L' := [(4, vI 0), (3, vI r5), (2, vI (i 11 p0)), (0, vR (some 94)), (1, vI p0)]) dX4_next_28 rfl (Nat.le_of_ble_eq_true rfl) rfl ?_
    refine g_sub (L' := [(1, vI p0), (2, vI (i 11 p0)), (3, vI r5), (4, vI 0)]) [4, 2, 1, 0] rfl ?_
    exact h
  · have h := hk9 c7
    obtain ⟨ob8, h⟩ := h
    refine g_iload_n (pc' := 26) 3 dX4_next_25 rfl rfl ?_
    exact g_retI rfl ob8 dX4_next_26 h
theorem e_X4_next {w : Wd} {d : Nat} {P : Int → IM → LM → Prop} {i : IM} {l : LM} {p0 : Int}  (h : gI w d X_X4_next P i l 0 [(0, vR (some 94)), (1, vI p0)] []) : cI w (d + 1) X_X4_next [vR (some 94), vI p0] i l P := CI_of (by decide +kernel) (Nat.le_of_ble_eq_true rfl) h
set_option maxRecDepth 20000 in
theorem s_X4_next_30 {w : Wd} {d : Nat} {P : Int → IM → LM → Prop} {i : IM} {l : LM} (x1 : Int) (x2 : Int) (x3 : Int) (x4 : Int)  (h : ((rg x4) ∧ ((10 ≤ x4) → ((rg x1) ∧ P x1 i l)) ∧ ((¬ (10 ≤ x4)) → ((rg (x3 - (iand (ishr x2 x4) 1))) ∧ ((x3 - (iand (ishr x2 x4) 1) = 0) → ((rg x4) ∧ P x4 i l)) ∧ ((¬ (x3 - (iand (ishr x2 x4) 1) = 0)) → gI w d X_X4_next P i l 30 [(1, vI x1), (2, vI x2), (3, vI (x3 - (iand (ishr x2 x4) 1))), (4, vI (x4 + 1))] []))))) : gI w d X_X4_next P i l 30 [(1, vI x1), (2, vI x2), (3, vI x3), (4, vI x4)] [] := by
  refine g_iload (pc' := 32) 3 dX4_next_30 rfl rfl ?_
  refine g_bipush (pc' := 34) dX4_next_32 rfl rfl ?_
  obtain ⟨hob12, hk21, hk22⟩ := h
  refine g_icmp_ge (tgt := 59) (pc' := 37) (hob12) (rg_lit rfl) Iff.rfl dX4_next_34 rfl rfl (fun c13 => ?_) (fun c13 => ?_)
  · have h := hk21 c13
    obtain ⟨ob14, h⟩ := h
    refine g_iload_n (pc' := 60) 0 dX4_next_59 rfl rfl ?_
    exact g_retI rfl ob14 dX4_next_60 h
  · have h := hk22 c13
    refine g_iload_n (pc' := 38) 2 dX4_next_37 rfl rfl ?_
    refine g_iload_n (pc' := 39) 1 dX4_next_38 rfl rfl ?_
    refine g_iload (pc' := 41) 3 dX4_next_39 rfl rfl ?_
    refine g_ishr (pc' := 42) dX4_next_41 rfl ?_
    refine g_iconst (pc' := 43) dX4_next_42 rfl ?_
    refine g_iand (pc' := 44) dX4_next_43 rfl ?_
    refine g_isub (pc' := 45) dX4_next_44 rfl ?_
    refine g_istore_n (pc' := 46) (L' := [(3, vI (x3 - (iand (ishr x2 x4) 1))), (1, vI x1), (2, vI x2), (4, vI x4)]) dX4_next_45 rfl (Nat.le_of_ble_eq_true rfl) rfl ?_
    refine g_iload_n (pc' := 47) 0 dX4_next_46 rfl rfl ?_
    obtain ⟨hob16, hk19, hk20⟩ := h
    refine g_if_ne (tgt := 53) (pc' := 50) (hob16) Iff.rfl dX4_next_47 rfl rfl (fun c17 => ?_) (fun c17 => ?_)
    · have h := hk20 c17
      refine g_iinc (pc' := 56) (L' := [(4, vI (x4 + 1)), (3, vI (x3 - (iand (ishr x2 x4) 1))), (1, vI x1), (2, vI x2)]) 3 dX4_next_53 rfl (Nat.le_of_ble_eq_true rfl) rfl rfl ?_
      refine g_goto (tgt := 30) dX4_next_56 rfl ?_
      refine g_sub (L' := [(1, vI x1), (2, vI x2), (3, vI (x3 - (iand (ishr x2 x4) 1))), (4, vI (x4 + 1))]) [2, 3, 1, 0] rfl ?_
      exact h
    · have h := hk19 c17
      obtain ⟨ob18, h⟩ := h
      refine g_iload (pc' := 52) 3 dX4_next_50 rfl rfl ?_
      exact g_retI rfl ob18 dX4_next_52 h

theorem dX6_arrange_0 : decode cX6_arrange 0 = .ok (.aload_n 0, 1) := by decide +kernel
theorem dX6_arrange_1 : decode cX6_arrange 1 = .ok (.iload_n 1, 1) := by decide +kernel
theorem dX6_arrange_2 : decode cX6_arrange 2 = .ok (.putfield 22, 3) := by decide +kernel
theorem dX6_arrange_5 : decode cX6_arrange 5 = .ok (.aload_n 0, 1) := by decide +kernel
theorem dX6_arrange_6 : decode cX6_arrange 6 = .ok (.iload_n 2, 1) := by decide +kernel
theorem dX6_arrange_7 : decode cX6_arrange 7 = .ok (.putfield 26, 3) := by decide +kernel
theorem dX6_arrange_10 : decode cX6_arrange 10 = .ok (.aload_n 0, 1) := by decide +kernel
theorem dX6_arrange_11 : decode cX6_arrange 11 = .ok (.iconst 0, 1) := by decide +kernel
theorem dX6_arrange_12 : decode cX6_arrange 12 = .ok (.putfield 29, 3) := by decide +kernel
theorem dX6_arrange_15 : decode cX6_arrange 15 = .ok (.aload_n 0, 1) := by decide +kernel
theorem dX6_arrange_16 : decode cX6_arrange 16 = .ok (.iconst 0, 1) := by decide +kernel
theorem dX6_arrange_17 : decode cX6_arrange 17 = .ok (.iconst 0, 1) := by decide +kernel
theorem dX6_arrange_18 : decode cX6_arrange 18 = .ok (.invokevirtual 32, 3) := by decide +kernel
theorem dX6_arrange_21 : decode cX6_arrange 21 = .ok (.return_, 1) := by decide +kernel
set_option maxRecDepth 20000 in
theorem s_X6_arrange {w : Wd} {d : Nat} {P : IM → LM → Prop} {i : IM} {l : LM} (p0 : Int) (p1 : Int)  (h : ((rg p0) ∧ (rg p1) ∧ cVd w d X_X6_goOn [vR (some 96), vI 0, vI 0] (u2 (u2 (u2 i 96 4 p0) 96 5 p1) 96 3 0) l (fun i3 l3 => P i3 l3))) : gV w d X_X6_arrange P i l 0 [(0, vR (some 96)), (1, vI p0), (2, vI p1)] [] := by
  obtain ⟨ob1, ob2, h⟩ := h
  refine g_aload_n (pc' := 1) 0 dX6_arrange_0 rfl rfl ?_
  refine g_iload_n (pc' := 2) 1 dX6_arrange_1 rfl rfl ?_
  refine g_putI (pc' := 5) (z := 4) rfl fp_X6_22 rfl rfl ob1 dX6_arrange_2 rfl ?_
  refine g_aload_n (pc' := 6) 0 dX6_arrange_5 rfl rfl ?_
  refine g_iload_n (pc' := 7) 2 dX6_arrange_6 rfl rfl ?_
  refine g_putI (pc' := 10) (z := 5) rfl fp_X6_26 rfl rfl ob2 dX6_arrange_7 rfl ?_
  refine g_aload_n (pc' := 11) 0 dX6_arrange_10 rfl rfl ?_
  refine g_iconst (pc' := 12) dX6_arrange_11 rfl ?_
  refine g_putI (pc' := 15) (z := 3) rfl fp_X6_29 rfl rfl (rg_lit rfl) dX6_arrange_12 rfl ?_
  refine g_aload_n (pc' := 16) 0 dX6_arrange_15 rfl rfl ?_
  refine g_iconst (pc' := 17) dX6_arrange_16 rfl ?_
  refine g_iconst (pc' := 18) dX6_arrange_17 rfl ?_
  refine g_cVV (pc' := 21) (vs := [vI 0, vI 0]) (st := []) (c := 6) h mv_X6_goOn lk_X6_32 rfl rfl rfl rfl (Nat.le_of_ble_eq_true rfl) (Nat.le_of_ble_eq_true rfl) rfl dX6_arrange_18 rfl z2 (fun i3 l3 h => ?_)
  exact g_retV rfl dX6_arrange_21 h
theorem e_X6_arrange {w : Wd} {d : Nat} {P : IM → LM → Prop} {i : IM} {l : LM} {p0 : Int} {p1 : Int}  (h : gV w d X_X6_arrange P i l 0 [(0, vR (some 96)), (1, vI p0), (2, vI p1)] []) : cVd w (d + 1) X_X6_arrange [vR (some 96), vI p0, vI p1] i l P := CV_of (by decide +kernel) (Nat.le_of_ble_eq_true rfl) h

theorem dX6_goOn_0 : decode cX6_goOn 0 = .ok (.iload_n 1, 1) := by decide +kernel
theorem dX6_goOn_1 : decode cX6_goOn 1 = .ok (.aload_n 0, 1) := by decide +kernel
theorem dX6_goOn_2 : decode cX6_goOn 2 = .ok (.getfield 18, 3) := by decide +kernel
theorem dX6_goOn_5 : decode cX6_goOn 5 = .ok (.getfield 36, 3) := by decide +kernel
theorem dX6_goOn_8 : decode cX6_goOn 8 = .ok (.if_icmp .lt 35, 3) := by decide +kernel
theorem dX6_goOn_11 : decode cX6_goOn 11 = .ok (.aload_n 0, 1) := by decide +kernel
theorem dX6_goOn_12 : decode cX6_goOn 12 = .ok (.getfield 29, 3) := by decide +kernel
theorem dX6_goOn_15 : decode cX6_goOn 15 = .ok (.ifCond .ne 17, 3) := by decide +kernel
theorem dX6_goOn_18 : decode cX6_goOn 18 = .ok (.aload_n 0, 1) := by decide +kernel
theorem dX6_goOn_19 : decode cX6_goOn 19 = .ok (.getfield 9, 3) := by decide +kernel
theorem dX6_goOn_22 : decode cX6_goOn 22 = .ok (.iconst 0, 1) := by decide +kernel
theorem dX6_goOn_23 : decode cX6_goOn 23 = .ok (.aload_n 0, 1) := by decide +kernel
theorem dX6_goOn_24 : decode cX6_goOn 24 = .ok (.getfield 15, 3) := by decide +kernel
theorem dX6_goOn_27 : decode cX6_goOn 27 = .ok (.iconst 0, 1) := by decide +kernel
theorem dX6_goOn_28 : decode cX6_goOn 28 = .ok (.iconst 5, 1) := by decide +kernel
theorem dX6_goOn_29 : decode cX6_goOn 29 = .ok (.invokestatic 41, 3) := by decide +kernel
theorem dX6_goOn_32 : decode cX6_goOn 32 = .ok (.aload_n 0, 1) := by decide +kernel
theorem dX6_goOn_33 : decode cX6_goOn 33 = .ok (.dup, 1) := by decide +kernel
theorem dX6_goOn_34 : decode cX6_goOn 34 = .ok (.getfield 29, 3) := by decide +kernel
theorem dX6_goOn_37 : decode cX6_goOn 37 = .ok (.iconst 1, 1) := by decide +kernel
theorem dX6_goOn_38 : decode cX6_goOn 38 = .ok (.iadd, 1) := by decide +kernel
theorem dX6_goOn_39 : decode cX6_goOn 39 = .ok (.putfield 29, 3) := by decide +kernel
theorem dX6_goOn_42 : decode cX6_goOn 42 = .ok (.return_, 1) := by decide +kernel
theorem dX6_goOn_43 : decode cX6_goOn 43 = .ok (.iconst 0, 1) := by decide +kernel
theorem dX6_goOn_44 : decode cX6_goOn 44 = .ok (.istore_n 3, 1) := by decide +kernel
theorem dX6_goOn_45 : decode cX6_goOn 45 = .ok (.iload_n 3, 1) := by decide +kernel
theorem dX6_goOn_46 : decode cX6_goOn 46 = .ok (.aload_n 0, 1) := by decide +kernel
theorem dX6_goOn_47 : decode cX6_goOn 47 = .ok (.getfield 18, 3) := by decide +kernel
theorem dX6_goOn_50 : decode cX6_goOn 50 = .ok (.getfield 36, 3) := by decide +kernel
theorem dX6_goOn_53 : decode cX6_goOn 53 = .ok (.if_icmp .ge 44, 3) := by decide +kernel
theorem dX6_goOn_56 : decode cX6_goOn 56 = .ok (.iload_n 2, 1) := by decide +kernel
theorem dX6_goOn_57 : decode cX6_goOn 57 = .ok (.iload_n 3, 1) := by decide +kernel
theorem dX6_goOn_58 : decode cX6_goOn 58 = .ok (.ishr, 1) := by decide +kernel
theorem dX6_goOn_59 : decode cX6_goOn 59 = .ok (.iconst 1, 1) := by decide +kernel
theorem dX6_goOn_60 : decode cX6_goOn 60 = .ok (.iand, 1) := by decide +kernel
theorem dX6_goOn_61 : decode cX6_goOn 61 = .ok (.ifCond .ne 30, 3) := by decide +kernel
theorem dX6_goOn_64 : decode cX6_goOn 64 = .ok (.aload_n 0, 1) := by decide +kernel
theorem dX6_goOn_65 : decode cX6_goOn 65 = .ok (.getfield 9, 3) := by decide +kernel
theorem dX6_goOn_68 : decode cX6_goOn 68 = .ok (.iload_n 1, 1) := by decide +kernel
theorem dX6_goOn_69 : decode cX6_goOn 69 = .ok (.iload_n 3, 1) := by decide +kernel
theorem dX6_goOn_70 : decode cX6_goOn 70 = .ok (.iastore, 1) := by decide +kernel
theorem dX6_goOn_71 : decode cX6_goOn 71 = .ok (.aload_n 0, 1) := by decide +kernel
theorem dX6_goOn_72 : decode cX6_goOn 72 = .ok (.iload_n 1, 1) := by decide +kernel
theorem dX6_goOn_73 : decode cX6_goOn 73 = .ok (.invokevirtual 47, 3) := by decide +kernel
theorem dX6_goOn_76 : decode cX6_goOn 76 = .ok (.ifCond .eq 15, 3) := by decide +kernel
theorem dX6_goOn_79 : decode cX6_goOn 79 = .ok (.aload_n 0, 1) := by decide +kernel
theorem dX6_goOn_80 : decode cX6_goOn 80 = .ok (.iload_n 1, 1) := by decide +kernel
theorem dX6_goOn_81 : decode cX6_goOn 81 = .ok (.iconst 1, 1) := by decide +kernel
theorem dX6_goOn_82 : decode cX6_goOn 82 = .ok (.iadd, 1) := by decide +kernel
theorem dX6_goOn_83 : decode cX6_goOn 83 = .ok (.iload_n 2, 1) := by decide +kernel
theorem dX6_goOn_84 : decode cX6_goOn 84 = .ok (.iconst 1, 1) := by decide +kernel
theorem dX6_goOn_85 : decode cX6_goOn 85 = .ok (.iload_n 3, 1) := by decide +kernel
theorem dX6_goOn_86 : decode cX6_goOn 86 = .ok (.ishl, 1) := by decide +kernel
theorem dX6_goOn_87 : decode cX6_goOn 87 = .ok (.ior, 1) := by decide +kernel
theorem dX6_goOn_88 : decode cX6_goOn 88 = .ok (.invokevirtual 32, 3) := by decide +kernel
theorem dX6_goOn_91 : decode cX6_goOn 91 = .ok (.iinc 3 1, 3) := by decide +kernel
theorem dX6_goOn_94 : decode cX6_goOn 94 = .ok (.goto (-49), 3) := by decide +kernel
theorem dX6_goOn_97 : decode cX6_goOn 97 = .ok (.return_, 1) := by decide +kernel
set_option maxRecDepth 20000 in
theorem s_X6_goOn {w : Wd} {d : Nat} {P : IM → LM → Prop} {i : IM} {l : LM} (p0 : Int) (p1 : Int)  (h : ((rg p0) ∧ ((p0 < i 7 10) → gV w d X_X6_goOn P i l 45 [(0, vR (some 96)), (1, vI p0), (2, vI p1), (3, vI 0)] []) ∧ ((¬ (p0 < i 7 10) ∧ (¬ (i 96 3 = 0))) → ((rg ((i 96 3) + 1)) ∧ P (u2 i 96 3 ((i 96 3) + 1)) l)) ∧ ((¬ (p0 < i 7 10) ∧ (i 96 3 = 0)) → ((rg ((cpA i 97 98 5 96 3) + 1)) ∧ P (u2 (cpA i 97 98 5) 96 3 ((cpA i 97 98 5 96 3) + 1)) l)))) : gV w d X_X6_goOn P i l 0 [(0, vR (some 96)), (1, vI p0), (2, vI p1)] [] := by
  refine g_iload_n (pc' := 1) 1 dX6_goOn_0 rfl rfl ?_
  refine g_aload_n (pc' := 2) 0 dX6_goOn_1 rfl rfl ?_
  refine g_getR (pc' := 5) (o := some 7) fl_X6_18 rfl rfl rfl dX6_goOn_2 rfl ?_
  refine g_getI (pc' := 8) (z := 10) rfl fl_X6_36 rfl rfl dX6_goOn_5 rfl (fun rg1 => ?_)
  obtain ⟨hob3, hk12, hk13, hk14⟩ := h
  have hk12g : (p0 < i 7 10) → gV w d X_X6_goOn P i l 43 [(0, vR (some 96)), (1, vI p0), (2, vI p1)] [] := by
    intro hp
    have h := hk12 hp
    refine g_iconst (pc' := 44) dX6_goOn_43 rfl ?_
    refine g_istore_n (pc' := 45) (L' := [(3, vI 0), (0, vR (some 96)), (1, vI p0), (2, vI p1)]) dX6_goOn_44 rfl (Nat.le_of_ble_eq_true rfl) rfl ?_
    refine g_sub (L' := [(0, vR (some 96)), (1, vI p0), (2, vI p1), (3, vI 0)]) [1, 2, 3, 0] rfl ?_
    exact h
  have hk13g : (¬ (p0 < i 7 10) ∧ (¬ (i 96 3 = 0))) → gV w d X_X6_goOn P i l 32 [(0, vR (some 96)), (1, vI p0), (2, vI p1)] [] := by
    intro hp
    have h := hk13 hp
    obtain ⟨ob9, h⟩ := h
    refine g_aload_n (pc' := 33) 0 dX6_goOn_32 rfl rfl ?_
    refine g_dup (pc' := 34) dX6_goOn_33 rfl rfl ?_
    refine g_getI (pc' := 37) (z := 3) rfl fl_X6_29 rfl rfl dX6_goOn_34 rfl (fun rg8 => ?_)
    refine g_iconst (pc' := 38) dX6_goOn_37 rfl ?_
    refine g_iadd (pc' := 39) dX6_goOn_38 rfl ?_
    refine g_putI (pc' := 42) (z := 3) rfl fp_X6_29 rfl rfl ob9 dX6_goOn_39 rfl ?_
    exact g_retV rfl dX6_goOn_42 h
  have hk14g : (¬ (p0 < i 7 10) ∧ (i 96 3 = 0)) → gV w d X_X6_goOn P i l 18 [(0, vR (some 96)), (1, vI p0), (2, vI p1)] [] := by
    intro hp
    have h := hk14 hp
    obtain ⟨ob11, h⟩ := h
    refine g_aload_n (pc' := 19) 0 dX6_goOn_18 rfl rfl ?_
    refine g_getR (pc' := 22) (o := some 97) fl_X6_9 rfl rfl rfl dX6_goOn_19 rfl ?_
    refine g_iconst (pc' := 23) dX6_goOn_22 rfl ?_
    refine g_aload_n (pc' := 24) 0 dX6_goOn_23 rfl rfl ?_
    refine g_getR (pc' := 27) (o := some 98) fl_X6_15 rfl rfl rfl dX6_goOn_24 rfl ?_
    refine g_iconst (pc' := 28) dX6_goOn_27 rfl ?_
    refine g_iconst (pc' := 29) dX6_goOn_28 rfl ?_
    refine g_acopy (pc' := 32) lk_X6_41 rfl rfl (by decide) (Nat.le_of_ble_eq_true rfl) ac_rm (Nat.le_of_ble_eq_true rfl) dX6_goOn_29 rfl ?_
    refine g_aload_n (pc' := 33) 0 dX6_goOn_32 rfl rfl ?_
    refine g_dup (pc' := 34) dX6_goOn_33 rfl rfl ?_
    refine g_getI (pc' := 37) (z := 3) rfl fl_X6_29 rfl rfl dX6_goOn_34 rfl (fun rg10 => ?_)
    refine g_iconst (pc' := 38) dX6_goOn_37 rfl ?_
    refine g_iadd (pc' := 39) dX6_goOn_38 rfl ?_
    refine g_putI (pc' := 42) (z := 3) rfl fp_X6_29 rfl rfl ob11 dX6_goOn_39 rfl ?_
    exact g_retV rfl dX6_goOn_42 h
  refine g_icmp_lt (tgt := 43) (pc' := 11) (hob3) rg1 Iff.rfl dX6_goOn_8 rfl rfl (fun c4 => ?_) (fun c4 => ?_)
  · exact hk12g c4
  · refine g_aload_n (pc' := 12) 0 dX6_goOn_11 rfl rfl ?_
    refine g_getI (pc' := 15) (z := 3) rfl fl_X6_29 rfl rfl dX6_goOn_12 rfl (fun rg5 => ?_)
    refine g_if_ne (tgt := 32) (pc' := 18) rg5 Iff.rfl dX6_goOn_15 rfl rfl (fun c6 => ?_) (fun c6 => ?_)
    · exact hk13g ⟨c4, c6⟩
    · exact hk14g ⟨c4, c6⟩
theorem e_X6_goOn {w : Wd} {d : Nat} {P : IM → LM → Prop} {i : IM} {l : LM} {p0 : Int} {p1 : Int}  (h : gV w d X_X6_goOn P i l 0 [(0, vR (some 96)), (1, vI p0), (2, vI p1)] []) : cVd w (d + 1) X_X6_goOn [vR (some 96), vI p0, vI p1] i l P := CV_of (by decide +kernel) (Nat.le_of_ble_eq_true rfl) h
set_option maxRecDepth 20000 in
theorem s_X6_goOn_45 {w : Wd} {d : Nat} {P : IM → LM → Prop} {i : IM} {l : LM} (x1 : Int) (x2 : Int) (x3 : Int)  (h : ((rg x3) ∧ ((i 7 10 ≤ x3) → P i l) ∧ ((¬ (i 7 10 ≤ x3) ∧ (¬ (iand (ishr x2 x3) 1 = 0))) → gV w d X_X6_goOn P i l 45 [(0, vR (some 96)), (1, vI x1), (2, vI x2), (3, vI (x3 + 1))] []) ∧ ((¬ (i 7 10 ≤ x3) ∧ (iand (ishr x2 x3) 1 = 0)) → ((0 ≤ x1 ∧ x1 < 5) ∧ (rg x3) ∧ cI w d X_X6_fits [vR (some 96), vI x1] (u2 i 97 x1 x3) l (fun r22 i22 l22 => (((r22 = 0) → gV w d X_X6_goOn P i22 l22 45 [(0, vR (some 96)), (1, vI x1), (2, vI x2), (3, vI (x3 + 1))] []) ∧ ((¬ (r22 = 0)) → cVd w d X_X6_goOn [vR (some 96), vI (x1 + 1), vI (ior x2 (ishl 1 x3))] i22 l22 (fun i25 l25 => gV w d X_X6_goOn P i25 l25 45 [(0, vR (some 96)), (1, vI x1), (2, vI x2), (3, vI (x3 + 1))] [])))))))) : gV w d X_X6_goOn P i l 45 [(0, vR (some 96)), (1, vI x1), (2, vI x2), (3, vI x3)] [] := by
  refine g_iload_n (pc' := 46) 3 dX6_goOn_45 rfl rfl ?_
  refine g_aload_n (pc' := 47) 0 dX6_goOn_46 rfl rfl ?_
  refine g_getR (pc' := 50) (o := some 7) fl_X6_18 rfl rfl rfl dX6_goOn_47 rfl ?_
  refine g_getI (pc' := 53) (z := 10) rfl fl_X6_36 rfl rfl dX6_goOn_50 rfl (fun rg15 => ?_)
  obtain ⟨hob17, hk28, hk29, hk30⟩ := h
  have hk28g : (i 7 10 ≤ x3) → gV w d X_X6_goOn P i l 97 [(0, vR (some 96)), (1, vI x1), (2, vI x2), (3, vI x3)] [] := by
    intro hp
    have h := hk28 hp
    exact g_retV rfl dX6_goOn_97 h
  have hk29g : (¬ (i 7 10 ≤ x3) ∧ (¬ (iand (ishr x2 x3) 1 = 0))) → gV w d X_X6_goOn P i l 91 [(0, vR (some 96)), (1, vI x1), (2, vI x2), (3, vI x3)] [] := by
    intro hp
    have h := hk29 hp
    refine g_iinc (pc' := 94) (L' := [(3, vI (x3 + 1)), (0, vR (some 96)), (1, vI x1), (2, vI x2)]) 3 dX6_goOn_91 rfl (Nat.le_of_ble_eq_true rfl) rfl rfl ?_
    refine g_goto (tgt := 45) dX6_goOn_94 rfl ?_
    refine g_sub (L' := [(0, vR (some 96)), (1, vI x1), (2, vI x2), (3, vI (x3 + 1))]) [1, 2, 3, 0] rfl ?_
    exact h
  have hk30g : (¬ (i 7 10 ≤ x3) ∧ (iand (ishr x2 x3) 1 = 0)) → gV w d X_X6_goOn P i l 64 [(0, vR (some 96)), (1, vI x1), (2, vI x2), (3, vI x3)] [] := by
    intro hp
    have h := hk30 hp
    obtain ⟨ob20, ob21, h⟩ := h
    refine g_aload_n (pc' := 65) 0 dX6_goOn_64 rfl rfl ?_
    refine g_getR (pc' := 68) (o := some 97) fl_X6_9 rfl rfl rfl dX6_goOn_65 rfl ?_
    refine g_iload_n (pc' := 69) 1 dX6_goOn_68 rfl rfl ?_
    refine g_iload_n (pc' := 70) 3 dX6_goOn_69 rfl rfl ?_
    refine g_iast (pc' := 71) (N := 5) rfl rfl (Nat.lt_of_lt_of_le (Nat.lt_succ_self _) (Nat.le_of_ble_eq_true rfl)) ob20 ob21 dX6_goOn_70 rfl ?_
    refine g_aload_n (pc' := 72) 0 dX6_goOn_71 rfl rfl ?_
    refine g_iload_n (pc' := 73) 1 dX6_goOn_72 rfl rfl ?_
    refine g_cVI (pc' := 76) (vs := [vI x1]) (st := []) (c := 6) h mv_X6_fits lk_X6_47 rfl rfl rfl rfl (Nat.le_of_ble_eq_true rfl) (Nat.le_of_ble_eq_true rfl) rfl dX6_goOn_73 rfl z2 (fun r22 i22 l22 rg22 h => ?_)
    obtain ⟨hk26, hk27⟩ := h
    refine g_if_eq (tgt := 91) (pc' := 79) rg22 Iff.rfl dX6_goOn_76 rfl rfl (fun c24 => ?_) (fun c24 => ?_)
    · have h := hk26 c24
      refine g_iinc (pc' := 94) (L' := [(3, vI (x3 + 1)), (0, vR (some 96)), (1, vI x1), (2, vI x2)]) 3 dX6_goOn_91 rfl (Nat.le_of_ble_eq_true rfl) rfl rfl ?_
      refine g_goto (tgt := 45) dX6_goOn_94 rfl ?_
      refine g_sub (L' := [(0, vR (some 96)), (1, vI x1), (2, vI x2), (3, vI (x3 + 1))]) [1, 2, 3, 0] rfl ?_
      exact h
    · have h := hk27 c24
      refine g_aload_n (pc' := 80) 0 dX6_goOn_79 rfl rfl ?_
      refine g_iload_n (pc' := 81) 1 dX6_goOn_80 rfl rfl ?_
      refine g_iconst (pc' := 82) dX6_goOn_81 rfl ?_
      refine g_iadd (pc' := 83) dX6_goOn_82 rfl ?_
      refine g_iload_n (pc' := 84) 2 dX6_goOn_83 rfl rfl ?_
      refine g_iconst (pc' := 85) dX6_goOn_84 rfl ?_
      refine g_iload_n (pc' := 86) 3 dX6_goOn_85 rfl rfl ?_
      refine g_ishl (pc' := 87) dX6_goOn_86 rfl ?_
      refine g_ior (pc' := 88) dX6_goOn_87 rfl ?_
      refine g_cVV (pc' := 91) (vs := [vI (x1 + 1), vI (ior x2 (ishl 1 x3))]) (st := []) (c := 6) h mv_X6_goOn lk_X6_32 rfl rfl rfl rfl (Nat.le_of_ble_eq_true rfl) (Nat.le_of_ble_eq_true rfl) rfl dX6_goOn_88 rfl z2 (fun i25 l25 h => ?_)
      refine g_iinc (pc' := 94) (L' := [(3, vI (x3 + 1)), (0, vR (some 96)), (1, vI x1), (2, vI x2)]) 3 dX6_goOn_91 rfl (Nat.le_of_ble_eq_true rfl) rfl rfl ?_
      refine g_goto (tgt := 45) dX6_goOn_94 rfl ?_
      refine g_sub (L' := [(0, vR (some 96)), (1, vI x1), (2, vI x2), (3, vI (x3 + 1))]) [1, 2, 3, 0] rfl ?_
      exact h
  refine g_icmp_ge (tgt := 97) (pc' := 56) (hob17) rg15 Iff.rfl dX6_goOn_53 rfl rfl (fun c18 => ?_) (fun c18 => ?_)
  · exact hk28g c18
  · refine g_iload_n (pc' := 57) 2 dX6_goOn_56 rfl rfl ?_
    refine g_iload_n (pc' := 58) 3 dX6_goOn_57 rfl rfl ?_
    refine g_ishr (pc' := 59) dX6_goOn_58 rfl ?_
    refine g_iconst (pc' := 60) dX6_goOn_59 rfl ?_
    refine g_iand (pc' := 61) dX6_goOn_60 rfl ?_
    refine g_if_ne (tgt := 91) (pc' := 64) (rg_iand _ _) Iff.rfl dX6_goOn_61 rfl rfl (fun c19 => ?_) (fun c19 => ?_)
    · exact hk29g ⟨c18, c19⟩
    · exact hk30g ⟨c18, c19⟩

theorem dX6_fits_0 : decode cX6_fits 0 = .ok (.iconst 0, 1) := by decide +kernel
theorem dX6_fits_1 : decode cX6_fits 1 = .ok (.istore_n 2, 1) := by decide +kernel
theorem dX6_fits_2 : decode cX6_fits 2 = .ok (.iconst 0, 1) := by decide +kernel
theorem dX6_fits_3 : decode cX6_fits 3 = .ok (.iload_n 1, 1) := by decide +kernel
theorem dX6_fits_4 : decode cX6_fits 4 = .ok (.aload_n 0, 1) := by decide +kernel
theorem dX6_fits_5 : decode cX6_fits 5 = .ok (.getfield 22, 3) := by decide +kernel
theorem dX6_fits_8 : decode cX6_fits 8 = .ok (.isub, 1) := by decide +kernel
theorem dX6_fits_9 : decode cX6_fits 9 = .ok (.iconst 1, 1) := by decide +kernel
theorem dX6_fits_10 : decode cX6_fits 10 = .ok (.iadd, 1) := by decide +kernel
theorem dX6_fits_11 : decode cX6_fits 11 = .ok (.invokestatic 51, 3) := by decide +kernel
theorem dX6_fits_14 : decode cX6_fits 14 = .ok (.istore_n 3, 1) := by decide +kernel
theorem dX6_fits_15 : decode cX6_fits 15 = .ok (.iload_n 3, 1) := by decide +kernel
theorem dX6_fits_16 : decode cX6_fits 16 = .ok (.iload_n 1, 1) := by decide +kernel
theorem dX6_fits_17 : decode cX6_fits 17 = .ok (.if_icmp .gt 36, 3) := by decide +kernel
theorem dX6_fits_20 : decode cX6_fits 20 = .ok (.iload_n 2, 1) := by decide +kernel
theorem dX6_fits_21 : decode cX6_fits 21 = .ok (.iconst 1, 1) := by decide +kernel
theorem dX6_fits_22 : decode cX6_fits 22 = .ok (.aload_n 0, 1) := by decide +kernel
theorem dX6_fits_23 : decode cX6_fits 23 = .ok (.getfield 18, 3) := by decide +kernel
theorem dX6_fits_26 : decode cX6_fits 26 = .ok (.getfield 57, 3) := by decide +kernel
theorem dX6_fits_29 : decode cX6_fits 29 = .ok (.aload_n 0, 1) := by decide +kernel
theorem dX6_fits_30 : decode cX6_fits 30 = .ok (.getfield 18, 3) := by decide +kernel
theorem dX6_fits_33 : decode cX6_fits 33 = .ok (.getfield 60, 3) := by decide +kernel
theorem dX6_fits_36 : decode cX6_fits 36 = .ok (.aload_n 0, 1) := by decide +kernel
theorem dX6_fits_37 : decode cX6_fits 37 = .ok (.getfield 9, 3) := by decide +kernel
theorem dX6_fits_40 : decode cX6_fits 40 = .ok (.iload_n 3, 1) := by decide +kernel
theorem dX6_fits_41 : decode cX6_fits 41 = .ok (.iaload, 1) := by decide +kernel
theorem dX6_fits_42 : decode cX6_fits 42 = .ok (.iaload, 1) := by decide +kernel
theorem dX6_fits_43 : decode cX6_fits 43 = .ok (.iaload, 1) := by decide +kernel
theorem dX6_fits_44 : decode cX6_fits 44 = .ok (.ishl, 1) := by decide +kernel
theorem dX6_fits_45 : decode cX6_fits 45 = .ok (.ior, 1) := by decide +kernel
theorem dX6_fits_46 : decode cX6_fits 46 = .ok (.istore_n 2, 1) := by decide +kernel
theorem dX6_fits_47 : decode cX6_fits 47 = .ok (.iinc 3 1, 3) := by decide +kernel
theorem dX6_fits_50 : decode cX6_fits 50 = .ok (.goto (-35), 3) := by decide +kernel
theorem dX6_fits_53 : decode cX6_fits 53 = .ok (.iload_n 2, 1) := by decide +kernel
theorem dX6_fits_54 : decode cX6_fits 54 = .ok (.invokestatic 63, 3) := by decide +kernel
theorem dX6_fits_57 : decode cX6_fits 57 = .ok (.aload_n 0, 1) := by decide +kernel
theorem dX6_fits_58 : decode cX6_fits 58 = .ok (.getfield 26, 3) := by decide +kernel
theorem dX6_fits_61 : decode cX6_fits 61 = .ok (.if_icmp .gt 7, 3) := by decide +kernel
theorem dX6_fits_64 : decode cX6_fits 64 = .ok (.iconst 1, 1) := by decide +kernel
theorem dX6_fits_65 : decode cX6_fits 65 = .ok (.goto 4, 3) := by decide +kernel
theorem dX6_fits_68 : decode cX6_fits 68 = .ok (.iconst 0, 1) := by decide +kernel
theorem dX6_fits_69 : decode cX6_fits 69 = .ok (.ireturn, 1) := by decide +kernel
set_option maxRecDepth 20000 in
theorem s_X6_fits {w : Wd} {d : Nat} {P : Int → IM → LM → Prop} {i : IM} {l : LM} (p0 : Int)  (hd : 1 ≤ d) (h : ((rg ((p0 - (i 96 4)) + 1)) ∧ gI w d X_X6_fits P i l 15 [(0, vR (some 96)), (1, vI p0), (2, vI 0), (3, vI (max 0 ((p0 - (i 96 4)) + 1)))] [])) : gI w d X_X6_fits P i l 0 [(0, vR (some 96)), (1, vI p0)] [] := by
  obtain ⟨ob2, h⟩ := h
  refine g_iconst (pc' := 1) dX6_fits_0 rfl ?_
  refine g_istore_n (pc' := 2) (L' := [(2, vI 0), (0, vR (some 96)), (1, vI p0)]) dX6_fits_1 rfl (Nat.le_of_ble_eq_true rfl) rfl ?_
  refine g_iconst (pc' := 3) dX6_fits_2 rfl ?_
  refine g_iload_n (pc' := 4) 2 dX6_fits_3 rfl rfl ?_
  refine g_aload_n (pc' := 5) 1 dX6_fits_4 rfl rfl ?_
  refine g_getI (pc' := 8) (z := 4) rfl fl_X6_22 rfl rfl dX6_fits_5 rfl (fun rg1 => ?_)
  refine g_isub (pc' := 9) dX6_fits_8 rfl ?_
  refine g_iconst (pc' := 10) dX6_fits_9 rfl ?_
  refine g_iadd (pc' := 11) dX6_fits_10 rfl ?_
  refine g_pSI (pc' := 14) (vs := [vI 0, vI ((p0 - (i 96 4)) + 1)]) (st := []) (val := max 0 ((p0 - (i 96 4)) + 1)) (sp_max (le_hd hd rfl) (rg_lit rfl) ob2) mk_J9_max_7cf53 ms_J9_max_7cf53 lk_X6_51 rfl (Nat.le_of_ble_eq_true rfl) (Nat.le_of_ble_eq_true rfl) rfl dX6_fits_11 rfl z2 (fun rg3 => ?_)
  refine g_istore_n (pc' := 15) (L' := [(3, vI (max 0 ((p0 - (i 96 4)) + 1))), (2, vI 0), (0, vR (some 96)), (1, vI p0)]) dX6_fits_14 rfl (Nat.le_of_ble_eq_true rfl) rfl ?_
  refine g_sub (L' := [(0, vR (some 96)), (1, vI p0), (2, vI 0), (3, vI (max 0 ((p0 - (i 96 4)) + 1)))]) [2, 3, 1, 0] rfl ?_
  exact h
theorem e_X6_fits {w : Wd} {d : Nat} {P : Int → IM → LM → Prop} {i : IM} {l : LM} {p0 : Int}  (h : gI w d X_X6_fits P i l 0 [(0, vR (some 96)), (1, vI p0)] []) : cI w (d + 1) X_X6_fits [vR (some 96), vI p0] i l P := CI_of (by decide +kernel) (Nat.le_of_ble_eq_true rfl) h
set_option maxRecDepth 20000 in
theorem s_X6_fits_15 {w : Wd} {d : Nat} {P : Int → IM → LM → Prop} {i : IM} {l : LM} (x1 : Int) (x2 : Int) (x3 : Int)  (hd : 1 ≤ d) (h : ((rg x3) ∧ (rg x1) ∧ ((x1 < x3) → ((0 ≤ x2 ∧ x2 < 1024) ∧ P (bI (¬ (i 96 5 < popI x2))) i l)) ∧ ((¬ (x1 < x3)) → ((0 ≤ x3 ∧ x3 < 5) ∧ (0 ≤ i 97 x3 ∧ i 97 x3 < 5) ∧ (0 ≤ i 10 (i 97 x3) ∧ i 10 (i 97 x3) < 8) ∧ gI w d X_X6_fits P i l 15 [(0, vR (some 96)), (1, vI x1), (2, vI (ior x2 (ishl 1 (i 13 (i 10 (i 97 x3)))))), (3, vI (x3 + 1))] [])))) : gI w d X_X6_fits P i l 15 [(0, vR (some 96)), (1, vI x1), (2, vI x2), (3, vI x3)] [] := by
  refine g_iload_n (pc' := 16) 3 dX6_fits_15 rfl rfl ?_
  refine g_iload_n (pc' := 17) 1 dX6_fits_16 rfl rfl ?_
  obtain ⟨hob57, hob58, hk71, hk72⟩ := h
  refine g_icmp_gt (tgt := 53) (pc' := 20) (hob57) (hob58) Iff.rfl dX6_fits_17 rfl rfl (fun c59 => ?_) (fun c59 => ?_)
  · have h := hk71 c59
    obtain ⟨ob60, h⟩ := h
    refine g_iload_n (pc' := 54) 2 dX6_fits_53 rfl rfl ?_
    refine g_pSI (pc' := 57) (vs := [vI x2]) (st := []) (val := popI x2) (sp_bitCount (le_hd hd rfl) ob60) mk_J6_bitCount_0f7a4 ms_J6_bitCount_0f7a4 lk_X6_63 rfl (Nat.le_of_ble_eq_true rfl) (Nat.le_of_ble_eq_true rfl) rfl dX6_fits_54 rfl z2 (fun rg61 => ?_)
    refine g_aload_n (pc' := 58) 0 dX6_fits_57 rfl rfl ?_
    refine g_getI (pc' := 61) (z := 5) rfl fl_X6_26 rfl rfl dX6_fits_58 rfl (fun rg62 => ?_)
    have hJ : gI w d X_X6_fits P i l 69 [(0, vR (some 96)), (1, vI x1), (2, vI x2), (3, vI x3)] [vI (bI (¬ (i 96 5 < popI x2)))] := by
      exact g_retZ rfl (bI_01 _) dX6_fits_69 h
    refine g_icmp_gt (tgt := 68) (pc' := 64) rg61 rg62 Iff.rfl dX6_fits_61 rfl rfl (fun c64 => ?_) (fun c64 => ?_)
    · refine g_iconst (pc' := 69) dX6_fits_68 rfl ?_
      rw [bI_f (p := (¬ (i 96 5 < popI x2))) (fun q => q c64)] at hJ
      exact hJ
    · refine g_iconst (pc' := 65) dX6_fits_64 rfl ?_
      refine g_goto (tgt := 69) dX6_fits_65 rfl ?_
      rw [bI_t (p := (¬ (i 96 5 < popI x2))) c64] at hJ
      exact hJ
  · have h := hk72 c59
    obtain ⟨ob65, ob67, ob69, h⟩ := h
    refine g_iload_n (pc' := 21) 2 dX6_fits_20 rfl rfl ?_
    refine g_iconst (pc' := 22) dX6_fits_21 rfl ?_
    refine g_aload_n (pc' := 23) 0 dX6_fits_22 rfl rfl ?_
    refine g_getR (pc' := 26) (o := some 7) fl_X6_18 rfl rfl rfl dX6_fits_23 rfl ?_
    refine g_getR (pc' := 29) (o := some 13) fl_X6_57 rfl rfl rfl dX6_fits_26 rfl ?_
    refine g_aload_n (pc' := 30) 0 dX6_fits_29 rfl rfl ?_
    refine g_getR (pc' := 33) (o := some 7) fl_X6_18 rfl rfl rfl dX6_fits_30 rfl ?_
    refine g_getR (pc' := 36) (o := some 10) fl_X6_60 rfl rfl rfl dX6_fits_33 rfl ?_
    refine g_aload_n (pc' := 37) 0 dX6_fits_36 rfl rfl ?_
    refine g_getR (pc' := 40) (o := some 97) fl_X6_9 rfl rfl rfl dX6_fits_37 rfl ?_
    refine g_iload_n (pc' := 41) 3 dX6_fits_40 rfl rfl ?_
    refine g_iald (pc' := 42) (N := 5) rfl rfl (Nat.lt_of_lt_of_le (Nat.lt_succ_self _) (Nat.le_of_ble_eq_true rfl)) ob65 dX6_fits_41 rfl (fun rg66 => ?_)
    refine g_iald (pc' := 43) (N := 5) rfl rfl (Nat.lt_of_lt_of_le (Nat.lt_succ_self _) (Nat.le_of_ble_eq_true rfl)) ob67 dX6_fits_42 rfl (fun rg68 => ?_)
    refine g_iald (pc' := 44) (N := 8) rfl rfl (Nat.lt_of_lt_of_le (Nat.lt_succ_self _) (Nat.le_of_ble_eq_true rfl)) ob69 dX6_fits_43 rfl (fun rg70 => ?_)
    refine g_ishl (pc' := 45) dX6_fits_44 rfl ?_
    refine g_ior (pc' := 46) dX6_fits_45 rfl ?_
    refine g_istore_n (pc' := 47) (L' := [(2, vI (ior x2 (ishl 1 (i 13 (i 10 (i 97 x3)))))), (0, vR (some 96)), (1, vI x1), (3, vI x3)]) dX6_fits_46 rfl (Nat.le_of_ble_eq_true rfl) rfl ?_
    refine g_iinc (pc' := 50) (L' := [(3, vI (x3 + 1)), (2, vI (ior x2 (ishl 1 (i 13 (i 10 (i 97 x3)))))), (0, vR (some 96)), (1, vI x1)]) 3 dX6_fits_47 rfl (Nat.le_of_ble_eq_true rfl) rfl rfl ?_
    refine g_goto (tgt := 15) dX6_fits_50 rfl ?_
    refine g_sub (L' := [(0, vR (some 96)), (1, vI x1), (2, vI (ior x2 (ishl 1 (i 13 (i 10 (i 97 x3)))))), (3, vI (x3 + 1))]) [2, 3, 1, 0] rfl ?_
    exact h
