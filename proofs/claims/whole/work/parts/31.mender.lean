theorem dX3_walledUp_0 : decode cX3_walledUp 0 = .ok (.iconst 0, 1) := by decide +kernel
theorem dX3_walledUp_1 : decode cX3_walledUp 1 = .ok (.istore_n 1, 1) := by decide +kernel
theorem dX3_walledUp_2 : decode cX3_walledUp 2 = .ok (.iconst 0, 1) := by decide +kernel
theorem dX3_walledUp_3 : decode cX3_walledUp 3 = .ok (.istore_n 2, 1) := by decide +kernel
theorem dX3_walledUp_4 : decode cX3_walledUp 4 = .ok (.iload_n 2, 1) := by decide +kernel
theorem dX3_walledUp_5 : decode cX3_walledUp 5 = .ok (.bipush 8, 2) := by decide +kernel
theorem dX3_walledUp_7 : decode cX3_walledUp 7 = .ok (.if_icmp .ge 29, 3) := by decide +kernel
theorem dX3_walledUp_10 : decode cX3_walledUp 10 = .ok (.iload_n 1, 1) := by decide +kernel
theorem dX3_walledUp_11 : decode cX3_walledUp 11 = .ok (.aload_n 0, 1) := by decide +kernel
theorem dX3_walledUp_12 : decode cX3_walledUp 12 = .ok (.getfield 43, 3) := by decide +kernel
theorem dX3_walledUp_15 : decode cX3_walledUp 15 = .ok (.bipush 8, 2) := by decide +kernel
theorem dX3_walledUp_17 : decode cX3_walledUp 17 = .ok (.iload_n 2, 1) := by decide +kernel
theorem dX3_walledUp_18 : decode cX3_walledUp 18 = .ok (.imul, 1) := by decide +kernel
theorem dX3_walledUp_19 : decode cX3_walledUp 19 = .ok (.bipush 7, 2) := by decide +kernel
theorem dX3_walledUp_21 : decode cX3_walledUp 21 = .ok (.iadd, 1) := by decide +kernel
theorem dX3_walledUp_22 : decode cX3_walledUp 22 = .ok (.lushr, 1) := by decide +kernel
theorem dX3_walledUp_23 : decode cX3_walledUp 23 = .ok (.lconst 1, 1) := by decide +kernel
theorem dX3_walledUp_24 : decode cX3_walledUp 24 = .ok (.land, 1) := by decide +kernel
theorem dX3_walledUp_25 : decode cX3_walledUp 25 = .ok (.l2i, 1) := by decide +kernel
theorem dX3_walledUp_26 : decode cX3_walledUp 26 = .ok (.iload_n 2, 1) := by decide +kernel
theorem dX3_walledUp_27 : decode cX3_walledUp 27 = .ok (.ishl, 1) := by decide +kernel
theorem dX3_walledUp_28 : decode cX3_walledUp 28 = .ok (.ior, 1) := by decide +kernel
theorem dX3_walledUp_29 : decode cX3_walledUp 29 = .ok (.istore_n 1, 1) := by decide +kernel
theorem dX3_walledUp_30 : decode cX3_walledUp 30 = .ok (.iinc 2 1, 3) := by decide +kernel
theorem dX3_walledUp_33 : decode cX3_walledUp 33 = .ok (.goto (-29), 3) := by decide +kernel
theorem dX3_walledUp_36 : decode cX3_walledUp 36 = .ok (.iload_n 1, 1) := by decide +kernel
theorem dX3_walledUp_37 : decode cX3_walledUp 37 = .ok (.ireturn, 1) := by decide +kernel
set_option maxRecDepth 20000 in
theorem s_X3_walledUp {w : Wd} {d : Nat} {P : Int → IM → LM → Prop} {i : IM} {l : LM}   (h : gI w d X_X3_walledUp P i l 4 [(0, vR (some 83)), (1, vI 0), (2, vI 0)] []) : gI w d X_X3_walledUp P i l 0 [(0, vR (some 83))] [] := by
  refine g_iconst (pc' := 1) dX3_walledUp_0 rfl ?_
  refine g_istore_n (pc' := 2) (L' := [(1, vI 0), (0, vR (some 83))]) dX3_walledUp_1 rfl (Nat.le_of_ble_eq_true rfl) rfl ?_
  refine g_iconst (pc' := 3) dX3_walledUp_2 rfl ?_
  refine g_istore_n (pc' := 4) (L' := [(2, vI 0), (1, vI 0), (0, vR (some 83))]) dX3_walledUp_3 rfl (Nat.le_of_ble_eq_true rfl) rfl ?_
  refine g_sub (L' := [(0, vR (some 83)), (1, vI 0), (2, vI 0)]) [2, 1, 0] rfl ?_
  exact h
theorem e_X3_walledUp {w : Wd} {d : Nat} {P : Int → IM → LM → Prop} {i : IM} {l : LM}   (h : gI w d X_X3_walledUp P i l 0 [(0, vR (some 83))] []) : cI w (d + 1) X_X3_walledUp [vR (some 83)] i l P := CI_of (by decide +kernel) (Nat.le_of_ble_eq_true rfl) h
set_option maxRecDepth 20000 in
theorem s_X3_walledUp_4 {w : Wd} {d : Nat} {P : Int → IM → LM → Prop} {i : IM} {l : LM} (x1 : Int) (x2 : Int)  (h : ((rg x2) ∧ ((8 ≤ x2) → ((rg x1) ∧ P x1 i l)) ∧ ((¬ (8 ≤ x2)) → gI w d X_X3_walledUp P i l 4 [(0, vR (some 83)), (1, vI (ior x1 (ishl (l2i ((lushr (l 83 9) ((8 * x2) + 7)) &&& 1)) x2))), (2, vI (x2 + 1))] []))) : gI w d X_X3_walledUp P i l 4 [(0, vR (some 83)), (1, vI x1), (2, vI x2)] [] := by
  refine g_iload_n (pc' := 5) 2 dX3_walledUp_4 rfl rfl ?_
  refine g_bipush (pc' := 7) dX3_walledUp_5 rfl rfl ?_
  obtain ⟨hob2, hk5, hk6⟩ := h
  refine g_icmp_ge (tgt := 36) (pc' := 10) (hob2) (rg_lit rfl) Iff.rfl dX3_walledUp_7 rfl rfl (fun c3 => ?_) (fun c3 => ?_)
  · have h := hk5 c3
    obtain ⟨ob4, h⟩ := h
    refine g_iload_n (pc' := 37) 1 dX3_walledUp_36 rfl rfl ?_
    exact g_retI rfl ob4 dX3_walledUp_37 h
  · have h := hk6 c3
    refine g_iload_n (pc' := 11) 1 dX3_walledUp_10 rfl rfl ?_
    refine g_aload_n (pc' := 12) 0 dX3_walledUp_11 rfl rfl ?_
    refine g_getL (pc' := 15) (z := 9) rfl fl_X3_43 rfl rfl dX3_walledUp_12 rfl ?_
    refine g_bipush (pc' := 17) dX3_walledUp_15 rfl rfl ?_
    refine g_iload_n (pc' := 18) 2 dX3_walledUp_17 rfl rfl ?_
    refine g_imul (pc' := 19) dX3_walledUp_18 rfl ?_
    refine g_bipush (pc' := 21) dX3_walledUp_19 rfl rfl ?_
    refine g_iadd (pc' := 22) dX3_walledUp_21 rfl ?_
    refine g_lushr (pc' := 23) dX3_walledUp_22 rfl ?_
    refine g_lconst (pc' := 24) (v := 1) dX3_walledUp_23 rfl rfl ?_
    refine g_land (pc' := 25) dX3_walledUp_24 rfl ?_
    refine g_l2i (pc' := 26) dX3_walledUp_25 rfl ?_
    refine g_iload_n (pc' := 27) 2 dX3_walledUp_26 rfl rfl ?_
    refine g_ishl (pc' := 28) dX3_walledUp_27 rfl ?_
    refine g_ior (pc' := 29) dX3_walledUp_28 rfl ?_
    refine g_istore_n (pc' := 30) (L' := [(1, vI (ior x1 (ishl (l2i ((lushr (l 83 9) ((8 * x2) + 7)) &&& 1)) x2))), (0, vR (some 83)), (2, vI x2)]) dX3_walledUp_29 rfl (Nat.le_of_ble_eq_true rfl) rfl ?_
    refine g_iinc (pc' := 33) (L' := [(2, vI (x2 + 1)), (1, vI (ior x1 (ishl (l2i ((lushr (l 83 9) ((8 * x2) + 7)) &&& 1)) x2))), (0, vR (some 83))]) 2 dX3_walledUp_30 rfl (Nat.le_of_ble_eq_true rfl) rfl rfl ?_
    refine g_goto (tgt := 4) dX3_walledUp_33 rfl ?_
    refine g_sub (L' := [(0, vR (some 83)), (1, vI (ior x1 (ishl (l2i ((lushr (l 83 9) ((8 * x2) + 7)) &&& 1)) x2))), (2, vI (x2 + 1))]) [2, 1, 0] rfl ?_
    exact h

theorem dX3_search_0 : decode cX3_search 0 = .ok (.aload_n 0, 1) := by decide +kernel
theorem dX3_search_1 : decode cX3_search 1 = .ok (.getfield 31, 3) := by decide +kernel
theorem dX3_search_4 : decode cX3_search 4 = .ok (.aload_n 0, 1) := by decide +kernel
theorem dX3_search_5 : decode cX3_search 5 = .ok (.getfield 35, 3) := by decide +kernel
theorem dX3_search_8 : decode cX3_search 8 = .ok (.getfield 47, 3) := by decide +kernel
theorem dX3_search_11 : decode cX3_search 11 = .ok (.if_icmp .ne 12, 3) := by decide +kernel
theorem dX3_search_14 : decode cX3_search 14 = .ok (.aload_n 0, 1) := by decide +kernel
theorem dX3_search_15 : decode cX3_search 15 = .ok (.getfield 50, 3) := by decide +kernel
theorem dX3_search_18 : decode cX3_search 18 = .ok (.iload_n 1, 1) := by decide +kernel
theorem dX3_search_19 : decode cX3_search 19 = .ok (.if_icmp .ne 4, 3) := by decide +kernel
theorem dX3_search_22 : decode cX3_search 22 = .ok (.return_, 1) := by decide +kernel
theorem dX3_search_23 : decode cX3_search 23 = .ok (.aload_n 0, 1) := by decide +kernel
theorem dX3_search_24 : decode cX3_search 24 = .ok (.aload_n 0, 1) := by decide +kernel
theorem dX3_search_25 : decode cX3_search 25 = .ok (.getfield 35, 3) := by decide +kernel
theorem dX3_search_28 : decode cX3_search 28 = .ok (.getfield 47, 3) := by decide +kernel
theorem dX3_search_31 : decode cX3_search 31 = .ok (.putfield 31, 3) := by decide +kernel
theorem dX3_search_34 : decode cX3_search 34 = .ok (.aload_n 0, 1) := by decide +kernel
theorem dX3_search_35 : decode cX3_search 35 = .ok (.iload_n 1, 1) := by decide +kernel
theorem dX3_search_36 : decode cX3_search 36 = .ok (.putfield 50, 3) := by decide +kernel
theorem dX3_search_39 : decode cX3_search 39 = .ok (.aload_n 0, 1) := by decide +kernel
theorem dX3_search_40 : decode cX3_search 40 = .ok (.ldc 53, 2) := by decide +kernel
theorem dX3_search_42 : decode cX3_search 42 = .ok (.putfield 54, 3) := by decide +kernel
theorem dX3_search_45 : decode cX3_search 45 = .ok (.iconst 0, 1) := by decide +kernel
theorem dX3_search_46 : decode cX3_search 46 = .ok (.istore_n 2, 1) := by decide +kernel
theorem dX3_search_47 : decode cX3_search 47 = .ok (.iload_n 2, 1) := by decide +kernel
theorem dX3_search_48 : decode cX3_search 48 = .ok (.aload_n 0, 1) := by decide +kernel
theorem dX3_search_49 : decode cX3_search 49 = .ok (.getfield 39, 3) := by decide +kernel
theorem dX3_search_52 : decode cX3_search 52 = .ok (.getfield 57, 3) := by decide +kernel
theorem dX3_search_55 : decode cX3_search 55 = .ok (.if_icmp .ge 34, 3) := by decide +kernel
theorem dX3_search_58 : decode cX3_search 58 = .ok (.aload_n 0, 1) := by decide +kernel
theorem dX3_search_59 : decode cX3_search 59 = .ok (.getfield 15, 3) := by decide +kernel
theorem dX3_search_62 : decode cX3_search 62 = .ok (.iload_n 2, 1) := by decide +kernel
theorem dX3_search_63 : decode cX3_search 63 = .ok (.aload_n 0, 1) := by decide +kernel
theorem dX3_search_64 : decode cX3_search 64 = .ok (.getfield 39, 3) := by decide +kernel
theorem dX3_search_67 : decode cX3_search 67 = .ok (.iload_n 2, 1) := by decide +kernel
theorem dX3_search_68 : decode cX3_search 68 = .ok (.sipush 255, 3) := by decide +kernel
theorem dX3_search_71 : decode cX3_search 71 = .ok (.iconst (-1), 1) := by decide +kernel
theorem dX3_search_72 : decode cX3_search 72 = .ok (.invokevirtual 62, 3) := by decide +kernel
theorem dX3_search_75 : decode cX3_search 75 = .ok (.lastore, 1) := by decide +kernel
theorem dX3_search_76 : decode cX3_search 76 = .ok (.aload_n 0, 1) := by decide +kernel
theorem dX3_search_77 : decode cX3_search 77 = .ok (.getfield 9, 3) := by decide +kernel
theorem dX3_search_80 : decode cX3_search 80 = .ok (.iload_n 2, 1) := by decide +kernel
theorem dX3_search_81 : decode cX3_search 81 = .ok (.lconst 0, 1) := by decide +kernel
theorem dX3_search_82 : decode cX3_search 82 = .ok (.lastore, 1) := by decide +kernel
theorem dX3_search_83 : decode cX3_search 83 = .ok (.iinc 2 1, 3) := by decide +kernel
theorem dX3_search_86 : decode cX3_search 86 = .ok (.goto (-39), 3) := by decide +kernel
theorem dX3_search_89 : decode cX3_search 89 = .ok (.aload_n 0, 1) := by decide +kernel
theorem dX3_search_90 : decode cX3_search 90 = .ok (.getfield 22, 3) := by decide +kernel
theorem dX3_search_93 : decode cX3_search 93 = .ok (.aload_n 0, 1) := by decide +kernel
theorem dX3_search_94 : decode cX3_search 94 = .ok (.getfield 35, 3) := by decide +kernel
theorem dX3_search_97 : decode cX3_search 97 = .ok (.getfield 66, 3) := by decide +kernel
theorem dX3_search_100 : decode cX3_search 100 = .ok (.iconst 0, 1) := by decide +kernel
theorem dX3_search_101 : decode cX3_search 101 = .ok (.iastore, 1) := by decide +kernel
theorem dX3_search_102 : decode cX3_search 102 = .ok (.aload_n 0, 1) := by decide +kernel
theorem dX3_search_103 : decode cX3_search 103 = .ok (.getfield 35, 3) := by decide +kernel
theorem dX3_search_106 : decode cX3_search 106 = .ok (.getfield 66, 3) := by decide +kernel
theorem dX3_search_109 : decode cX3_search 109 = .ok (.iconst 1, 1) := by decide +kernel
theorem dX3_search_110 : decode cX3_search 110 = .ok (.isub, 1) := by decide +kernel
theorem dX3_search_111 : decode cX3_search 111 = .ok (.istore_n 2, 1) := by decide +kernel
theorem dX3_search_112 : decode cX3_search 112 = .ok (.iload_n 2, 1) := by decide +kernel
theorem dX3_search_113 : decode cX3_search 113 = .ok (.ifCond .lt 14, 3) := by decide +kernel
theorem dX3_search_116 : decode cX3_search 116 = .ok (.aload_n 0, 1) := by decide +kernel
theorem dX3_search_117 : decode cX3_search 117 = .ok (.iload_n 2, 1) := by decide +kernel
theorem dX3_search_118 : decode cX3_search 118 = .ok (.invokevirtual 69, 3) := by decide +kernel
theorem dX3_search_121 : decode cX3_search 121 = .ok (.iinc 2 (-1), 3) := by decide +kernel
theorem dX3_search_124 : decode cX3_search 124 = .ok (.goto (-12), 3) := by decide +kernel
theorem dX3_search_127 : decode cX3_search 127 = .ok (.aload_n 0, 1) := by decide +kernel
theorem dX3_search_128 : decode cX3_search 128 = .ok (.iconst 0, 1) := by decide +kernel
theorem dX3_search_129 : decode cX3_search 129 = .ok (.lconst 0, 1) := by decide +kernel
theorem dX3_search_130 : decode cX3_search 130 = .ok (.iconst 1, 1) := by decide +kernel
theorem dX3_search_131 : decode cX3_search 131 = .ok (.aload_n 0, 1) := by decide +kernel
theorem dX3_search_132 : decode cX3_search 132 = .ok (.getfield 39, 3) := by decide +kernel
theorem dX3_search_135 : decode cX3_search 135 = .ok (.getfield 57, 3) := by decide +kernel
theorem dX3_search_138 : decode cX3_search 138 = .ok (.ishl, 1) := by decide +kernel
theorem dX3_search_139 : decode cX3_search 139 = .ok (.iconst 1, 1) := by decide +kernel
theorem dX3_search_140 : decode cX3_search 140 = .ok (.isub, 1) := by decide +kernel
theorem dX3_search_141 : decode cX3_search 141 = .ok (.invokevirtual 73, 3) := by decide +kernel
theorem dX3_search_144 : decode cX3_search 144 = .ok (.istore_n 2, 1) := by decide +kernel
theorem dX3_search_145 : decode cX3_search 145 = .ok (.iload_n 2, 1) := by decide +kernel
theorem dX3_search_146 : decode cX3_search 146 = .ok (.ifCond .ne 18, 3) := by decide +kernel
theorem dX3_search_149 : decode cX3_search 149 = .ok (.aload_n 0, 1) := by decide +kernel
theorem dX3_search_150 : decode cX3_search 150 = .ok (.iconst 0, 1) := by decide +kernel
theorem dX3_search_151 : decode cX3_search 151 = .ok (.aload_n 0, 1) := by decide +kernel
theorem dX3_search_152 : decode cX3_search 152 = .ok (.getfield 22, 3) := by decide +kernel
theorem dX3_search_155 : decode cX3_search 155 = .ok (.iconst 0, 1) := by decide +kernel
theorem dX3_search_156 : decode cX3_search 156 = .ok (.iaload, 1) := by decide +kernel
theorem dX3_search_157 : decode cX3_search 157 = .ok (.lconst 0, 1) := by decide +kernel
theorem dX3_search_158 : decode cX3_search 158 = .ok (.invokevirtual 77, 3) := by decide +kernel
theorem dX3_search_161 : decode cX3_search 161 = .ok (.goto 11, 3) := by decide +kernel
theorem dX3_search_164 : decode cX3_search 164 = .ok (.aload_n 0, 1) := by decide +kernel
theorem dX3_search_165 : decode cX3_search 165 = .ok (.iconst 0, 1) := by decide +kernel
theorem dX3_search_166 : decode cX3_search 166 = .ok (.iconst 0, 1) := by decide +kernel
theorem dX3_search_167 : decode cX3_search 167 = .ok (.lconst 0, 1) := by decide +kernel
theorem dX3_search_168 : decode cX3_search 168 = .ok (.iload_n 2, 1) := by decide +kernel
theorem dX3_search_169 : decode cX3_search 169 = .ok (.invokevirtual 81, 3) := by decide +kernel
theorem dX3_search_172 : decode cX3_search 172 = .ok (.return_, 1) := by decide +kernel
set_option maxRecDepth 20000 in
theorem s_X3_search {w : Wd} {d : Nat} {P : IM → LM → Prop} {i : IM} {l : LM} (p0 : Int)  (h : (((i 83 11 = i 7 15) → rg p0) ∧ (((i 83 11 = i 7 15) ∧ (i 83 10 = p0)) → P i l) ∧ ((¬ ((i 83 11 = i 7 15) ∧ (i 83 10 = p0))) → ((rg p0) ∧ gV w d X_X3_search P (u2 (u2 (u2 i 83 11 (i 7 15)) 83 10 p0) 83 8 1000000) l 47 [(0, vR (some 83)), (2, vI 0)] [])))) : gV w d X_X3_search P i l 0 [(0, vR (some 83)), (1, vI p0)] [] := by
  refine g_aload_n (pc' := 1) 0 dX3_search_0 rfl rfl ?_
  refine g_getI (pc' := 4) (z := 11) rfl fl_X3_31 rfl rfl dX3_search_1 rfl (fun rg1 => ?_)
  refine g_aload_n (pc' := 5) 0 dX3_search_4 rfl rfl ?_
  refine g_getR (pc' := 8) (o := some 7) fl_X3_35 rfl rfl rfl dX3_search_5 rfl ?_
  refine g_getI (pc' := 11) (z := 15) rfl fl_X3_47 rfl rfl dX3_search_8 rfl (fun rg2 => ?_)
  obtain ⟨hob6, hk10, hk11⟩ := h
  have hk10g : ((i 83 11 = i 7 15) ∧ (i 83 10 = p0)) → gV w d X_X3_search P i l 22 [(0, vR (some 83)), (1, vI p0)] [] := by
    intro hp
    have h := hk10 hp
    exact g_retV rfl dX3_search_22 h
  have hk11g : (¬ ((i 83 11 = i 7 15) ∧ (i 83 10 = p0))) → gV w d X_X3_search P i l 23 [(0, vR (some 83)), (1, vI p0)] [] := by
    intro hp
    have h := hk11 hp
    obtain ⟨ob9, h⟩ := h
    refine g_aload_n (pc' := 24) 0 dX3_search_23 rfl rfl ?_
    refine g_aload_n (pc' := 25) 0 dX3_search_24 rfl rfl ?_
    refine g_getR (pc' := 28) (o := some 7) fl_X3_35 rfl rfl rfl dX3_search_25 rfl ?_
    refine g_getI (pc' := 31) (z := 15) rfl fl_X3_47 rfl rfl dX3_search_28 rfl (fun rg8 => ?_)
    refine g_putI (pc' := 34) (z := 11) rfl fp_X3_31 rfl rfl rg8 dX3_search_31 rfl ?_
    refine g_aload_n (pc' := 35) 0 dX3_search_34 rfl rfl ?_
    refine g_iload_n (pc' := 36) 1 dX3_search_35 rfl rfl ?_
    refine g_putI (pc' := 39) (z := 10) rfl fp_X3_50 rfl rfl ob9 dX3_search_36 rfl ?_
    refine g_aload_n (pc' := 40) 0 dX3_search_39 rfl rfl ?_
    refine g_ldc (pc' := 42) dX3_search_40 rfl kc_X3_53 ?_
    refine g_putI (pc' := 45) (z := 8) rfl fp_X3_54 rfl rfl (rg_lit rfl) dX3_search_42 rfl ?_
    refine g_iconst (pc' := 46) dX3_search_45 rfl ?_
    refine g_istore_n (pc' := 47) (L' := [(2, vI 0), (0, vR (some 83)), (1, vI p0)]) dX3_search_46 rfl (Nat.le_of_ble_eq_true rfl) rfl ?_
    refine g_sub (L' := [(0, vR (some 83)), (2, vI 0)]) [1, 0] rfl ?_
    exact h
  refine g_icmp_ne (tgt := 23) (pc' := 14) rg1 rg2 Iff.rfl dX3_search_11 rfl rfl (fun c4 => ?_) (fun c4 => ?_)
  · exact hk11g (fun q => c4 q.1)
  · refine g_aload_n (pc' := 15) 0 dX3_search_14 rfl rfl ?_
    refine g_getI (pc' := 18) (z := 10) rfl fl_X3_50 rfl rfl dX3_search_15 rfl (fun rg5 => ?_)
    refine g_iload_n (pc' := 19) 1 dX3_search_18 rfl rfl ?_
    refine g_icmp_ne (tgt := 23) (pc' := 22) rg5 (hob6 c4) Iff.rfl dX3_search_19 rfl rfl (fun c7 => ?_) (fun c7 => ?_)
    · exact hk11g (fun q => c7 q.2)
    · exact hk10g ⟨c4, c7⟩
theorem e_X3_search {w : Wd} {d : Nat} {P : IM → LM → Prop} {i : IM} {l : LM} {p0 : Int}  (h : gV w d X_X3_search P i l 0 [(0, vR (some 83)), (1, vI p0)] []) : cVd w (d + 1) X_X3_search [vR (some 83), vI p0] i l P := CV_of (by decide +kernel) (Nat.le_of_ble_eq_true rfl) h
set_option maxRecDepth 20000 in
theorem s_X3_search_47 {w : Wd} {d : Nat} {P : IM → LM → Prop} {i : IM} {l : LM} (x2 : Int)  (hd : 2 ≤ d) (h : ((rg x2) ∧ ((i 51 13 ≤ x2) → ((0 ≤ i 7 8 ∧ i 7 8 < 11) ∧ gV w d X_X3_search P (u2 i 87 (i 7 8) 0) l 112 [(0, vR (some 83)), (2, vI (((u2 i 87 (i 7 8) 0) 7 8) - 1))] [])) ∧ ((¬ (i 51 13 ≤ x2)) → ((0 ≤ x2 ∧ x2 < 12) ∧ (rg (-1)) ∧ (0 ≤ x2 ∧ x2 < 132) ∧ gV w d X_X3_search P i (u2l (u2l l 85 x2 (sparL l x2 255 (-1))) 84 x2 0) 47 [(0, vR (some 83)), (2, vI (x2 + 1))] [])))) : gV w d X_X3_search P i l 47 [(0, vR (some 83)), (2, vI x2)] [] := by
  refine g_iload_n (pc' := 48) 1 dX3_search_47 rfl rfl ?_
  refine g_aload_n (pc' := 49) 0 dX3_search_48 rfl rfl ?_
  refine g_getR (pc' := 52) (o := some 51) fl_X3_39 rfl rfl rfl dX3_search_49 rfl ?_
  refine g_getI (pc' := 55) (z := 13) rfl fl_X3_57 rfl rfl dX3_search_52 rfl (fun rg12 => ?_)
  obtain ⟨hob14, hk27, hk28⟩ := h
  refine g_icmp_ge (tgt := 89) (pc' := 58) (hob14) rg12 Iff.rfl dX3_search_55 rfl rfl (fun c15 => ?_) (fun c15 => ?_)
  · have h := hk27 c15
    obtain ⟨ob21, h⟩ := h
    refine g_aload_n (pc' := 90) 0 dX3_search_89 rfl rfl ?_
    refine g_getR (pc' := 93) (o := some 87) fl_X3_22 rfl rfl rfl dX3_search_90 rfl ?_
    refine g_aload_n (pc' := 94) 0 dX3_search_93 rfl rfl ?_
    refine g_getR (pc' := 97) (o := some 7) fl_X3_35 rfl rfl rfl dX3_search_94 rfl ?_
    refine g_getI (pc' := 100) (z := 8) rfl fl_X3_66 rfl rfl dX3_search_97 rfl (fun rg20 => ?_)
    refine g_iconst (pc' := 101) dX3_search_100 rfl ?_
    refine g_iast (pc' := 102) (N := 11) rfl rfl (Nat.lt_of_lt_of_le (Nat.lt_succ_self _) (Nat.le_of_ble_eq_true rfl)) ob21 (rg_lit rfl) dX3_search_101 rfl ?_
    refine g_aload_n (pc' := 103) 0 dX3_search_102 rfl rfl ?_
    refine g_getR (pc' := 106) (o := some 7) fl_X3_35 rfl rfl rfl dX3_search_103 rfl ?_
    refine g_getI (pc' := 109) (z := 8) rfl fl_X3_66 rfl rfl dX3_search_106 rfl (fun rg22 => ?_)
    refine g_iconst (pc' := 110) dX3_search_109 rfl ?_
    refine g_isub (pc' := 111) dX3_search_110 rfl ?_
    refine g_istore_n (pc' := 112) (L' := [(2, vI (((u2 i 87 (i 7 8) 0) 7 8) - 1)), (0, vR (some 83))]) dX3_search_111 rfl (Nat.le_of_ble_eq_true rfl) rfl ?_
    refine g_sub (L' := [(0, vR (some 83)), (2, vI (((u2 i 87 (i 7 8) 0) 7 8) - 1))]) [1, 0] rfl ?_
    exact h
  · have h := hk28 c15
    obtain ⟨ob23, ob24, ob26, h⟩ := h
    refine g_aload_n (pc' := 59) 0 dX3_search_58 rfl rfl ?_
    refine g_getR (pc' := 62) (o := some 85) fl_X3_15 rfl rfl rfl dX3_search_59 rfl ?_
    refine g_iload_n (pc' := 63) 1 dX3_search_62 rfl rfl ?_
    refine g_aload_n (pc' := 64) 0 dX3_search_63 rfl rfl ?_
    refine g_getR (pc' := 67) (o := some 51) fl_X3_39 rfl rfl rfl dX3_search_64 rfl ?_
    refine g_iload_n (pc' := 68) 1 dX3_search_67 rfl rfl ?_
    refine g_sipush (pc' := 71) dX3_search_68 rfl rfl ?_
    refine g_iconst (pc' := 72) dX3_search_71 rfl ?_
    refine g_pVL (pc' := 75) (vs := [vI x2, vI 255, vI (-1)]) (st := [vI x2, vR (some 85)]) (val := sparL l x2 255 (-1)) (c := 1) (sp_X1_spareOf (le_hd hd rfl) ob23 ob24) mv_X1_spareOf lk_X3_62 rfl rfl rfl rfl (Nat.le_of_ble_eq_true rfl) (Nat.le_of_ble_eq_true rfl) rfl dX3_search_72 rfl z2 ?_
    refine g_last (pc' := 76) (N := 12) rfl rfl (Nat.lt_of_lt_of_le (Nat.lt_succ_self _) (Nat.le_of_ble_eq_true rfl)) ob23 dX3_search_75 rfl ?_
    refine g_aload_n (pc' := 77) 0 dX3_search_76 rfl rfl ?_
    refine g_getR (pc' := 80) (o := some 84) fl_X3_9 rfl rfl rfl dX3_search_77 rfl ?_
    refine g_iload_n (pc' := 81) 1 dX3_search_80 rfl rfl ?_
    refine g_lconst (pc' := 82) (v := 0) dX3_search_81 rfl rfl ?_
    refine g_last (pc' := 83) (N := 132) rfl rfl (Nat.lt_of_lt_of_le (Nat.lt_succ_self _) (Nat.le_of_ble_eq_true rfl)) ob26 dX3_search_82 rfl ?_
    refine g_iinc (pc' := 86) (L' := [(2, vI (x2 + 1)), (0, vR (some 83))]) 1 dX3_search_83 rfl (Nat.le_of_ble_eq_true rfl) rfl rfl ?_
    refine g_goto (tgt := 47) dX3_search_86 rfl ?_
    refine g_sub (L' := [(0, vR (some 83)), (2, vI (x2 + 1))]) [1, 0] rfl ?_
    exact h
set_option maxRecDepth 20000 in
theorem s_X3_search_112 {w : Wd} {d : Nat} {P : IM → LM → Prop} {i : IM} {l : LM} (x2 : Int)  (h : ((rg x2) ∧ ((x2 < 0) → cI w d X_X3_stillOpen [vR (some 83), vI 0, vL 0, vI ((ishl 1 (i 51 13)) - 1)] i l (fun r34 i34 l34 => (((r34 = 0) → cVd w d X_X3_record [vR (some 83), vI 0, vI (i34 87 0), vL 0] i34 l34 (fun i40 l40 => P i40 l40)) ∧ ((¬ (r34 = 0)) → cVd w d X_X3_explore [vR (some 83), vI 0, vI 0, vL 0, vI r34] i34 l34 (fun i38 l38 => P i38 l38))))) ∧ ((¬ (x2 < 0)) → cVd w d X_X3_sumUp [vR (some 83), vI x2] i l (fun i43 l43 => gV w d X_X3_search P i43 l43 112 [(0, vR (some 83)), (2, vI (x2 + (-1)))] [])))) : gV w d X_X3_search P i l 112 [(0, vR (some 83)), (2, vI x2)] [] := by
  refine g_iload_n (pc' := 113) 1 dX3_search_112 rfl rfl ?_
  obtain ⟨hob30, hk44, hk45⟩ := h
  refine g_if_lt (tgt := 127) (pc' := 116) (hob30) Iff.rfl dX3_search_113 rfl rfl (fun c31 => ?_) (fun c31 => ?_)
  · have h := hk44 c31
    refine g_aload_n (pc' := 128) 0 dX3_search_127 rfl rfl ?_
    refine g_iconst (pc' := 129) dX3_search_128 rfl ?_
    refine g_lconst (pc' := 130) (v := 0) dX3_search_129 rfl rfl ?_
    refine g_iconst (pc' := 131) dX3_search_130 rfl ?_
    refine g_aload_n (pc' := 132) 0 dX3_search_131 rfl rfl ?_
    refine g_getR (pc' := 135) (o := some 51) fl_X3_39 rfl rfl rfl dX3_search_132 rfl ?_
    refine g_getI (pc' := 138) (z := 13) rfl fl_X3_57 rfl rfl dX3_search_135 rfl (fun rg33 => ?_)
    refine g_ishl (pc' := 139) dX3_search_138 rfl ?_
    refine g_iconst (pc' := 140) dX3_search_139 rfl ?_
    refine g_isub (pc' := 141) dX3_search_140 rfl ?_
    refine g_cVI (pc' := 144) (vs := [vI 0, vL 0, vI ((ishl 1 (i 51 13)) - 1)]) (st := []) (c := 3) h mv_X3_stillOpen lk_X3_73 rfl rfl rfl rfl (Nat.le_of_ble_eq_true rfl) (Nat.le_of_ble_eq_true rfl) rfl dX3_search_141 rfl z2 (fun r34 i34 l34 rg34 h => ?_)
    refine g_istore_n (pc' := 145) (L' := [(2, vI r34), (0, vR (some 83))]) dX3_search_144 rfl (Nat.le_of_ble_eq_true rfl) rfl ?_
    refine g_iload_n (pc' := 146) 0 dX3_search_145 rfl rfl ?_
    obtain ⟨hk41, hk42⟩ := h
    refine g_if_ne (tgt := 164) (pc' := 149) rg34 Iff.rfl dX3_search_146 rfl rfl (fun c36 => ?_) (fun c36 => ?_)
    · have h := hk42 c36
      refine g_aload_n (pc' := 165) 1 dX3_search_164 rfl rfl ?_
      refine g_iconst (pc' := 166) dX3_search_165 rfl ?_
      refine g_iconst (pc' := 167) dX3_search_166 rfl ?_
      refine g_lconst (pc' := 168) (v := 0) dX3_search_167 rfl rfl ?_
      refine g_iload_n (pc' := 169) 0 dX3_search_168 rfl rfl ?_
      refine g_cVV (pc' := 172) (vs := [vI 0, vI 0, vL 0, vI r34]) (st := []) (c := 3) h mv_X3_explore lk_X3_81 rfl rfl rfl rfl (Nat.le_of_ble_eq_true rfl) (Nat.le_of_ble_eq_true rfl) rfl dX3_search_169 rfl z2 (fun i38 l38 h => ?_)
      exact g_retV rfl dX3_search_172 h
    · have h := hk41 c36
      refine g_aload_n (pc' := 150) 1 dX3_search_149 rfl rfl ?_
      refine g_iconst (pc' := 151) dX3_search_150 rfl ?_
      refine g_aload_n (pc' := 152) 1 dX3_search_151 rfl rfl ?_
      refine g_getR (pc' := 155) (o := some 87) fl_X3_22 rfl rfl rfl dX3_search_152 rfl ?_
      refine g_iconst (pc' := 156) dX3_search_155 rfl ?_
      refine g_iald (pc' := 157) (N := 11) rfl rfl (Nat.lt_of_lt_of_le (Nat.lt_succ_self _) (Nat.le_of_ble_eq_true rfl)) (by decide) dX3_search_156 rfl (fun rg39 => ?_)
      refine g_lconst (pc' := 158) (v := 0) dX3_search_157 rfl rfl ?_
      refine g_cVV (pc' := 161) (vs := [vI 0, vI (i34 87 0), vL 0]) (st := []) (c := 3) h mv_X3_record lk_X3_77 rfl rfl rfl rfl (Nat.le_of_ble_eq_true rfl) (Nat.le_of_ble_eq_true rfl) rfl dX3_search_158 rfl z2 (fun i40 l40 h => ?_)
      refine g_goto (tgt := 172) dX3_search_161 rfl ?_
      exact g_retV rfl dX3_search_172 h
  · have h := hk45 c31
    refine g_aload_n (pc' := 117) 0 dX3_search_116 rfl rfl ?_
    refine g_iload_n (pc' := 118) 1 dX3_search_117 rfl rfl ?_
    refine g_cVV (pc' := 121) (vs := [vI x2]) (st := []) (c := 3) h mv_X3_sumUp lk_X3_69 rfl rfl rfl rfl (Nat.le_of_ble_eq_true rfl) (Nat.le_of_ble_eq_true rfl) rfl dX3_search_118 rfl z2 (fun i43 l43 h => ?_)
    refine g_iinc (pc' := 124) (L' := [(2, vI (x2 + (-1))), (0, vR (some 83))]) 1 dX3_search_121 rfl (Nat.le_of_ble_eq_true rfl) rfl rfl ?_
    refine g_goto (tgt := 112) dX3_search_124 rfl ?_
    refine g_sub (L' := [(0, vR (some 83)), (2, vI (x2 + (-1)))]) [1, 0] rfl ?_
    exact h

theorem dX3_sumUp_0 : decode cX3_sumUp 0 = .ok (.ldc 53, 2) := by decide +kernel
theorem dX3_sumUp_2 : decode cX3_sumUp 2 = .ok (.istore_n 2, 1) := by decide +kernel
theorem dX3_sumUp_3 : decode cX3_sumUp 3 = .ok (.iconst 0, 1) := by decide +kernel
theorem dX3_sumUp_4 : decode cX3_sumUp 4 = .ok (.istore_n 3, 1) := by decide +kernel
theorem dX3_sumUp_5 : decode cX3_sumUp 5 = .ok (.iload_n 3, 1) := by decide +kernel
theorem dX3_sumUp_6 : decode cX3_sumUp 6 = .ok (.iconst 3, 1) := by decide +kernel
theorem dX3_sumUp_7 : decode cX3_sumUp 7 = .ok (.if_icmp .ge 57, 3) := by decide +kernel
theorem dX3_sumUp_10 : decode cX3_sumUp 10 = .ok (.aload_n 0, 1) := by decide +kernel
theorem dX3_sumUp_11 : decode cX3_sumUp 11 = .ok (.getfield 39, 3) := by decide +kernel
theorem dX3_sumUp_14 : decode cX3_sumUp 14 = .ok (.getfield 85, 3) := by decide +kernel
theorem dX3_sumUp_17 : decode cX3_sumUp 17 = .ok (.iload_n 1, 1) := by decide +kernel
theorem dX3_sumUp_18 : decode cX3_sumUp 18 = .ok (.iconst 3, 1) := by decide +kernel
theorem dX3_sumUp_19 : decode cX3_sumUp 19 = .ok (.imul, 1) := by decide +kernel
theorem dX3_sumUp_20 : decode cX3_sumUp 20 = .ok (.iload_n 3, 1) := by decide +kernel
theorem dX3_sumUp_21 : decode cX3_sumUp 21 = .ok (.iadd, 1) := by decide +kernel
theorem dX3_sumUp_22 : decode cX3_sumUp 22 = .ok (.iaload, 1) := by decide +kernel
theorem dX3_sumUp_23 : decode cX3_sumUp 23 = .ok (.istore 4, 2) := by decide +kernel
theorem dX3_sumUp_25 : decode cX3_sumUp 25 = .ok (.aload_n 0, 1) := by decide +kernel
theorem dX3_sumUp_26 : decode cX3_sumUp 26 = .ok (.getfield 39, 3) := by decide +kernel
theorem dX3_sumUp_29 : decode cX3_sumUp 29 = .ok (.getfield 88, 3) := by decide +kernel
theorem dX3_sumUp_32 : decode cX3_sumUp 32 = .ok (.iload_n 1, 1) := by decide +kernel
theorem dX3_sumUp_33 : decode cX3_sumUp 33 = .ok (.iaload, 1) := by decide +kernel
theorem dX3_sumUp_34 : decode cX3_sumUp 34 = .ok (.iload_n 3, 1) := by decide +kernel
theorem dX3_sumUp_35 : decode cX3_sumUp 35 = .ok (.ishr, 1) := by decide +kernel
theorem dX3_sumUp_36 : decode cX3_sumUp 36 = .ok (.iconst 1, 1) := by decide +kernel
theorem dX3_sumUp_37 : decode cX3_sumUp 37 = .ok (.iand, 1) := by decide +kernel
theorem dX3_sumUp_38 : decode cX3_sumUp 38 = .ok (.iconst 1, 1) := by decide +kernel
theorem dX3_sumUp_39 : decode cX3_sumUp 39 = .ok (.if_icmp .ne 19, 3) := by decide +kernel
theorem dX3_sumUp_42 : decode cX3_sumUp 42 = .ok (.iload 4, 2) := by decide +kernel
theorem dX3_sumUp_44 : decode cX3_sumUp 44 = .ok (.iload_n 2, 1) := by decide +kernel
theorem dX3_sumUp_45 : decode cX3_sumUp 45 = .ok (.if_icmp .ge 13, 3) := by decide +kernel
theorem dX3_sumUp_48 : decode cX3_sumUp 48 = .ok (.iload 4, 2) := by decide +kernel
theorem dX3_sumUp_50 : decode cX3_sumUp 50 = .ok (.istore_n 2, 1) := by decide +kernel
theorem dX3_sumUp_51 : decode cX3_sumUp 51 = .ok (.aload_n 0, 1) := by decide +kernel
theorem dX3_sumUp_52 : decode cX3_sumUp 52 = .ok (.getfield 25, 3) := by decide +kernel
theorem dX3_sumUp_55 : decode cX3_sumUp 55 = .ok (.iload_n 1, 1) := by decide +kernel
theorem dX3_sumUp_56 : decode cX3_sumUp 56 = .ok (.iload_n 3, 1) := by decide +kernel
theorem dX3_sumUp_57 : decode cX3_sumUp 57 = .ok (.iastore, 1) := by decide +kernel
theorem dX3_sumUp_58 : decode cX3_sumUp 58 = .ok (.iinc 3 1, 3) := by decide +kernel
theorem dX3_sumUp_61 : decode cX3_sumUp 61 = .ok (.goto (-56), 3) := by decide +kernel
theorem dX3_sumUp_64 : decode cX3_sumUp 64 = .ok (.aload_n 0, 1) := by decide +kernel
theorem dX3_sumUp_65 : decode cX3_sumUp 65 = .ok (.getfield 22, 3) := by decide +kernel
theorem dX3_sumUp_68 : decode cX3_sumUp 68 = .ok (.iload_n 1, 1) := by decide +kernel
theorem dX3_sumUp_69 : decode cX3_sumUp 69 = .ok (.aload_n 0, 1) := by decide +kernel
theorem dX3_sumUp_70 : decode cX3_sumUp 70 = .ok (.getfield 22, 3) := by decide +kernel
theorem dX3_sumUp_73 : decode cX3_sumUp 73 = .ok (.iload_n 1, 1) := by decide +kernel
theorem dX3_sumUp_74 : decode cX3_sumUp 74 = .ok (.iconst 1, 1) := by decide +kernel
theorem dX3_sumUp_75 : decode cX3_sumUp 75 = .ok (.iadd, 1) := by decide +kernel
theorem dX3_sumUp_76 : decode cX3_sumUp 76 = .ok (.iaload, 1) := by decide +kernel
theorem dX3_sumUp_77 : decode cX3_sumUp 77 = .ok (.iload_n 2, 1) := by decide +kernel
theorem dX3_sumUp_78 : decode cX3_sumUp 78 = .ok (.iadd, 1) := by decide +kernel
theorem dX3_sumUp_79 : decode cX3_sumUp 79 = .ok (.iastore, 1) := by decide +kernel
theorem dX3_sumUp_80 : decode cX3_sumUp 80 = .ok (.return_, 1) := by decide +kernel
set_option maxRecDepth 20000 in
theorem s_X3_sumUp {w : Wd} {d : Nat} {P : IM → LM → Prop} {i : IM} {l : LM} (p0 : Int)  (h : gV w d X_X3_sumUp P i l 5 [(0, vR (some 83)), (1, vI p0), (2, vI 1000000), (3, vI 0)] []) : gV w d X_X3_sumUp P i l 0 [(0, vR (some 83)), (1, vI p0)] [] := by
  refine g_ldc (pc' := 2) dX3_sumUp_0 rfl kc_X3_53 ?_
  refine g_istore_n (pc' := 3) (L' := [(2, vI 1000000), (0, vR (some 83)), (1, vI p0)]) dX3_sumUp_2 rfl (Nat.le_of_ble_eq_true rfl) rfl ?_
  refine g_iconst (pc' := 4) dX3_sumUp_3 rfl ?_
  refine g_istore_n (pc' := 5) (L' := [(3, vI 0), (2, vI 1000000), (0, vR (some 83)), (1, vI p0)]) dX3_sumUp_4 rfl (Nat.le_of_ble_eq_true rfl) rfl ?_
  refine g_sub (L' := [(0, vR (some 83)), (1, vI p0), (2, vI 1000000), (3, vI 0)]) [2, 3, 1, 0] rfl ?_
  exact h
theorem e_X3_sumUp {w : Wd} {d : Nat} {P : IM → LM → Prop} {i : IM} {l : LM} {p0 : Int}  (h : gV w d X_X3_sumUp P i l 0 [(0, vR (some 83)), (1, vI p0)] []) : cVd w (d + 1) X_X3_sumUp [vR (some 83), vI p0] i l P := CV_of (by decide +kernel) (Nat.le_of_ble_eq_true rfl) h
set_option maxRecDepth 20000 in
theorem s_X3_sumUp_5 {w : Wd} {d : Nat} {P : IM → LM → Prop} {i : IM} {l : LM} (x1 : Int) (x2 : Int) (x3 : Int)  (h : ((rg x3) ∧ ((3 ≤ x3) → ((0 ≤ x1 + 1 ∧ x1 + 1 < 11) ∧ (0 ≤ x1 ∧ x1 < 11) ∧ (rg ((i 87 (x1 + 1)) + x2)) ∧ P (u2 i 87 x1 ((i 87 (x1 + 1)) + x2)) l)) ∧ ((¬ (3 ≤ x3)) → ((0 ≤ (x1 * 3) + x3 ∧ (x1 * 3) + x3 < 30) ∧ (0 ≤ x1 ∧ x1 < 10) ∧ (((iand (ishr (i 52 x1) x3) 1 = 1) → rg x2) ∧ (((iand (ishr (i 52 x1) x3) 1 = 1) ∧ (¬ (x2 ≤ i 53 ((x1 * 3) + x3)))) → ((0 ≤ x1 ∧ x1 < 10) ∧ (rg x3) ∧ gV w d X_X3_sumUp P (u2 i 88 x1 x3) l 5 [(0, vR (some 83)), (1, vI x1), (2, vI (i 53 ((x1 * 3) + x3))), (3, vI (x3 + 1))] [])) ∧ ((¬ ((iand (ishr (i 52 x1) x3) 1 = 1) ∧ (¬ (x2 ≤ i 53 ((x1 * 3) + x3))))) → gV w d X_X3_sumUp P i l 5 [(0, vR (some 83)), (1, vI x1), (2, vI x2), (3, vI (x3 + 1))] [])))))) : gV w d X_X3_sumUp P i l 5 [(0, vR (some 83)), (1, vI x1), (2, vI x2), (3, vI x3)] [] := by
  refine g_iload_n (pc' := 6) 3 dX3_sumUp_5 rfl rfl ?_
  refine g_iconst (pc' := 7) dX3_sumUp_6 rfl ?_
  obtain ⟨hob2, hk24, hk25⟩ := h
  refine g_icmp_ge (tgt := 64) (pc' := 10) (hob2) (rg_lit rfl) Iff.rfl dX3_sumUp_7 rfl rfl (fun c3 => ?_) (fun c3 => ?_)
  · have h := hk24 c3
    obtain ⟨ob8, ob10, ob11, h⟩ := h
    refine g_aload_n (pc' := 65) 0 dX3_sumUp_64 rfl rfl ?_
    refine g_getR (pc' := 68) (o := some 87) fl_X3_22 rfl rfl rfl dX3_sumUp_65 rfl ?_
    refine g_iload_n (pc' := 69) 1 dX3_sumUp_68 rfl rfl ?_
    refine g_aload_n (pc' := 70) 0 dX3_sumUp_69 rfl rfl ?_
    refine g_getR (pc' := 73) (o := some 87) fl_X3_22 rfl rfl rfl dX3_sumUp_70 rfl ?_
    refine g_iload_n (pc' := 74) 1 dX3_sumUp_73 rfl rfl ?_
    refine g_iconst (pc' := 75) dX3_sumUp_74 rfl ?_
    refine g_iadd (pc' := 76) dX3_sumUp_75 rfl ?_
    refine g_iald (pc' := 77) (N := 11) rfl rfl (Nat.lt_of_lt_of_le (Nat.lt_succ_self _) (Nat.le_of_ble_eq_true rfl)) ob8 dX3_sumUp_76 rfl (fun rg9 => ?_)
    refine g_iload_n (pc' := 78) 2 dX3_sumUp_77 rfl rfl ?_
    refine g_iadd (pc' := 79) dX3_sumUp_78 rfl ?_
    refine g_iast (pc' := 80) (N := 11) rfl rfl (Nat.lt_of_lt_of_le (Nat.lt_succ_self _) (Nat.le_of_ble_eq_true rfl)) ob10 ob11 dX3_sumUp_79 rfl ?_
    exact g_retV rfl dX3_sumUp_80 h
  · have h := hk25 c3
    obtain ⟨ob12, ob14, h⟩ := h
    refine g_aload_n (pc' := 11) 0 dX3_sumUp_10 rfl rfl ?_
    refine g_getR (pc' := 14) (o := some 51) fl_X3_39 rfl rfl rfl dX3_sumUp_11 rfl ?_
    refine g_getR (pc' := 17) (o := some 53) fl_X3_85 rfl rfl rfl dX3_sumUp_14 rfl ?_
    refine g_iload_n (pc' := 18) 1 dX3_sumUp_17 rfl rfl ?_
    refine g_iconst (pc' := 19) dX3_sumUp_18 rfl ?_
    refine g_imul (pc' := 20) dX3_sumUp_19 rfl ?_
    refine g_iload_n (pc' := 21) 3 dX3_sumUp_20 rfl rfl ?_
    refine g_iadd (pc' := 22) dX3_sumUp_21 rfl ?_
    refine g_iald (pc' := 23) (N := 30) rfl rfl (Nat.lt_of_lt_of_le (Nat.lt_succ_self _) (Nat.le_of_ble_eq_true rfl)) ob12 dX3_sumUp_22 rfl (fun rg13 => ?_)
    refine g_istore (pc' := 25) (L' := [(4, vI (i 53 ((x1 * 3) + x3))), (0, vR (some 83)), (1, vI x1), (2, vI x2), (3, vI x3)]) dX3_sumUp_23 rfl (Nat.le_of_ble_eq_true rfl) rfl ?_
    refine g_aload_n (pc' := 26) 1 dX3_sumUp_25 rfl rfl ?_
    refine g_getR (pc' := 29) (o := some 51) fl_X3_39 rfl rfl rfl dX3_sumUp_26 rfl ?_
    refine g_getR (pc' := 32) (o := some 52) fl_X3_88 rfl rfl rfl dX3_sumUp_29 rfl ?_
    refine g_iload_n (pc' := 33) 2 dX3_sumUp_32 rfl rfl ?_
    refine g_iald (pc' := 34) (N := 10) rfl rfl (Nat.lt_of_lt_of_le (Nat.lt_succ_self _) (Nat.le_of_ble_eq_true rfl)) ob14 dX3_sumUp_33 rfl (fun rg15 => ?_)
    refine g_iload_n (pc' := 35) 4 dX3_sumUp_34 rfl rfl ?_
    refine g_ishr (pc' := 36) dX3_sumUp_35 rfl ?_
    refine g_iconst (pc' := 37) dX3_sumUp_36 rfl ?_
    refine g_iand (pc' := 38) dX3_sumUp_37 rfl ?_
    refine g_iconst (pc' := 39) dX3_sumUp_38 rfl ?_
    obtain ⟨hob18, hk22, hk23⟩ := h
    have hk22g : ((iand (ishr (i 52 x1) x3) 1 = 1) ∧ (¬ (x2 ≤ i 53 ((x1 * 3) + x3)))) → gV w d X_X3_sumUp P i l 48 [(4, vI (i 53 ((x1 * 3) + x3))), (0, vR (some 83)), (1, vI x1), (2, vI x2), (3, vI x3)] [] := by
      intro hp
      have h := hk22 hp
      obtain ⟨ob20, ob21, h⟩ := h
      refine g_iload (pc' := 50) 0 dX3_sumUp_48 rfl rfl ?_
      refine g_istore_n (pc' := 51) (L' := [(2, vI (i 53 ((x1 * 3) + x3))), (4, vI (i 53 ((x1 * 3) + x3))), (0, vR (some 83)), (1, vI x1), (3, vI x3)]) dX3_sumUp_50 rfl (Nat.le_of_ble_eq_true rfl) rfl ?_
      refine g_aload_n (pc' := 52) 2 dX3_sumUp_51 rfl rfl ?_
      refine g_getR (pc' := 55) (o := some 88) fl_X3_25 rfl rfl rfl dX3_sumUp_52 rfl ?_
      refine g_iload_n (pc' := 56) 3 dX3_sumUp_55 rfl rfl ?_
      refine g_iload_n (pc' := 57) 4 dX3_sumUp_56 rfl rfl ?_
      refine g_iast (pc' := 58) (N := 10) rfl rfl (Nat.lt_of_lt_of_le (Nat.lt_succ_self _) (Nat.le_of_ble_eq_true rfl)) ob20 ob21 dX3_sumUp_57 rfl ?_
      refine g_iinc (pc' := 61) (L' := [(3, vI (x3 + 1)), (2, vI (i 53 ((x1 * 3) + x3))), (4, vI (i 53 ((x1 * 3) + x3))), (0, vR (some 83)), (1, vI x1)]) 4 dX3_sumUp_58 rfl (Nat.le_of_ble_eq_true rfl) rfl rfl ?_
      refine g_goto (tgt := 5) dX3_sumUp_61 rfl ?_
      refine g_sub (L' := [(0, vR (some 83)), (1, vI x1), (2, vI (i 53 ((x1 * 3) + x3))), (3, vI (x3 + 1))]) [3, 4, 1, 0] rfl ?_
      exact h
    have hk23g : (¬ ((iand (ishr (i 52 x1) x3) 1 = 1) ∧ (¬ (x2 ≤ i 53 ((x1 * 3) + x3))))) → gV w d X_X3_sumUp P i l 58 [(4, vI (i 53 ((x1 * 3) + x3))), (0, vR (some 83)), (1, vI x1), (2, vI x2), (3, vI x3)] [] := by
      intro hp
      have h := hk23 hp
      refine g_iinc (pc' := 61) (L' := [(3, vI (x3 + 1)), (4, vI (i 53 ((x1 * 3) + x3))), (0, vR (some 83)), (1, vI x1), (2, vI x2)]) 4 dX3_sumUp_58 rfl (Nat.le_of_ble_eq_true rfl) rfl rfl ?_
      refine g_goto (tgt := 5) dX3_sumUp_61 rfl ?_
      refine g_sub (L' := [(0, vR (some 83)), (1, vI x1), (2, vI x2), (3, vI (x3 + 1))]) [2, 3, 4, 0] rfl ?_
      exact h
    refine g_icmp_ne (tgt := 58) (pc' := 42) (rg_iand _ _) (rg_lit rfl) Iff.rfl dX3_sumUp_39 rfl rfl (fun c17 => ?_) (fun c17 => ?_)
    · exact hk23g (fun q => c17 q.1)
    · refine g_iload (pc' := 44) 0 dX3_sumUp_42 rfl rfl ?_
      refine g_iload_n (pc' := 45) 3 dX3_sumUp_44 rfl rfl ?_
      refine g_icmp_ge (tgt := 58) (pc' := 48) rg13 (hob18 c17) Iff.rfl dX3_sumUp_45 rfl rfl (fun c19 => ?_) (fun c19 => ?_)
      · exact hk23g (fun q => (fun q => q c19) q.2)
      · exact hk22g ⟨c17, c19⟩

theorem dX3_explore_0 : decode cX3_explore 0 = .ok (.iload_n 1, 1) := by decide +kernel
theorem dX3_explore_1 : decode cX3_explore 1 = .ok (.aload_n 0, 1) := by decide +kernel
theorem dX3_explore_2 : decode cX3_explore 2 = .ok (.getfield 35, 3) := by decide +kernel
theorem dX3_explore_5 : decode cX3_explore 5 = .ok (.getfield 66, 3) := by decide +kernel
theorem dX3_explore_8 : decode cX3_explore 8 = .ok (.if_icmp .lt 4, 3) := by decide +kernel
theorem dX3_explore_11 : decode cX3_explore 11 = .ok (.return_, 1) := by decide +kernel
theorem dX3_explore_12 : decode cX3_explore 12 = .ok (.iconst 0, 1) := by decide +kernel
theorem dX3_explore_13 : decode cX3_explore 13 = .ok (.istore 6, 2) := by decide +kernel
theorem dX3_explore_15 : decode cX3_explore 15 = .ok (.iload 6, 2) := by decide +kernel
theorem dX3_explore_17 : decode cX3_explore 17 = .ok (.iconst 3, 1) := by decide +kernel
theorem dX3_explore_18 : decode cX3_explore 18 = .ok (.if_icmp .ge 180, 3) := by decide +kernel
theorem dX3_explore_21 : decode cX3_explore 21 = .ok (.iload_n 1, 1) := by decide +kernel
theorem dX3_explore_22 : decode cX3_explore 22 = .ok (.iconst 3, 1) := by decide +kernel
theorem dX3_explore_23 : decode cX3_explore 23 = .ok (.imul, 1) := by decide +kernel
theorem dX3_explore_24 : decode cX3_explore 24 = .ok (.iload 6, 2) := by decide +kernel
theorem dX3_explore_26 : decode cX3_explore 26 = .ok (.iadd, 1) := by decide +kernel
theorem dX3_explore_27 : decode cX3_explore 27 = .ok (.istore 7, 2) := by decide +kernel
theorem dX3_explore_29 : decode cX3_explore 29 = .ok (.iload_n 2, 1) := by decide +kernel
theorem dX3_explore_30 : decode cX3_explore 30 = .ok (.aload_n 0, 1) := by decide +kernel
theorem dX3_explore_31 : decode cX3_explore 31 = .ok (.getfield 39, 3) := by decide +kernel
theorem dX3_explore_34 : decode cX3_explore 34 = .ok (.getfield 85, 3) := by decide +kernel
theorem dX3_explore_37 : decode cX3_explore 37 = .ok (.iload 7, 2) := by decide +kernel
theorem dX3_explore_39 : decode cX3_explore 39 = .ok (.iaload, 1) := by decide +kernel
theorem dX3_explore_40 : decode cX3_explore 40 = .ok (.iadd, 1) := by decide +kernel
theorem dX3_explore_41 : decode cX3_explore 41 = .ok (.istore 8, 2) := by decide +kernel
theorem dX3_explore_43 : decode cX3_explore 43 = .ok (.aload_n 0, 1) := by decide +kernel
theorem dX3_explore_44 : decode cX3_explore 44 = .ok (.getfield 39, 3) := by decide +kernel
theorem dX3_explore_47 : decode cX3_explore 47 = .ok (.getfield 88, 3) := by decide +kernel
theorem dX3_explore_50 : decode cX3_explore 50 = .ok (.iload_n 1, 1) := by decide +kernel
theorem dX3_explore_51 : decode cX3_explore 51 = .ok (.iaload, 1) := by decide +kernel
theorem dX3_explore_52 : decode cX3_explore 52 = .ok (.iload 6, 2) := by decide +kernel
theorem dX3_explore_54 : decode cX3_explore 54 = .ok (.ishr, 1) := by decide +kernel
theorem dX3_explore_55 : decode cX3_explore 55 = .ok (.iconst 1, 1) := by decide +kernel
theorem dX3_explore_56 : decode cX3_explore 56 = .ok (.iand, 1) := by decide +kernel
theorem dX3_explore_57 : decode cX3_explore 57 = .ok (.ifCond .eq 135, 3) := by decide +kernel
theorem dX3_explore_60 : decode cX3_explore 60 = .ok (.iload 8, 2) := by decide +kernel
theorem dX3_explore_62 : decode cX3_explore 62 = .ok (.aload_n 0, 1) := by decide +kernel
theorem dX3_explore_63 : decode cX3_explore 63 = .ok (.getfield 22, 3) := by decide +kernel
theorem dX3_explore_66 : decode cX3_explore 66 = .ok (.iload_n 1, 1) := by decide +kernel
theorem dX3_explore_67 : decode cX3_explore 67 = .ok (.iconst 1, 1) := by decide +kernel
theorem dX3_explore_68 : decode cX3_explore 68 = .ok (.iadd, 1) := by decide +kernel
theorem dX3_explore_69 : decode cX3_explore 69 = .ok (.iaload, 1) := by decide +kernel
theorem dX3_explore_70 : decode cX3_explore 70 = .ok (.iadd, 1) := by decide +kernel
theorem dX3_explore_71 : decode cX3_explore 71 = .ok (.aload_n 0, 1) := by decide +kernel
theorem dX3_explore_72 : decode cX3_explore 72 = .ok (.getfield 54, 3) := by decide +kernel
theorem dX3_explore_75 : decode cX3_explore 75 = .ok (.if_icmp .ge 117, 3) := by decide +kernel
theorem dX3_explore_78 : decode cX3_explore 78 = .ok (.aload_n 0, 1) := by decide +kernel
theorem dX3_explore_79 : decode cX3_explore 79 = .ok (.iload_n 1, 1) := by decide +kernel
theorem dX3_explore_80 : decode cX3_explore 80 = .ok (.iload 6, 2) := by decide +kernel
theorem dX3_explore_82 : decode cX3_explore 82 = .ok (.lload_n 3, 1) := by decide +kernel
theorem dX3_explore_83 : decode cX3_explore 83 = .ok (.iload 5, 2) := by decide +kernel
theorem dX3_explore_85 : decode cX3_explore 85 = .ok (.invokevirtual 91, 3) := by decide +kernel
theorem dX3_explore_88 : decode cX3_explore 88 = .ok (.ifCond .eq 6, 3) := by decide +kernel
theorem dX3_explore_91 : decode cX3_explore 91 = .ok (.goto 101, 3) := by decide +kernel
theorem dX3_explore_94 : decode cX3_explore 94 = .ok (.lload_n 3, 1) := by decide +kernel
theorem dX3_explore_95 : decode cX3_explore 95 = .ok (.aload_n 0, 1) := by decide +kernel
theorem dX3_explore_96 : decode cX3_explore 96 = .ok (.iload_n 1, 1) := by decide +kernel
theorem dX3_explore_97 : decode cX3_explore 97 = .ok (.iload 7, 2) := by decide +kernel
theorem dX3_explore_99 : decode cX3_explore 99 = .ok (.iload 5, 2) := by decide +kernel
theorem dX3_explore_101 : decode cX3_explore 101 = .ok (.invokevirtual 95, 3) := by decide +kernel
theorem dX3_explore_104 : decode cX3_explore 104 = .ok (.lor, 1) := by decide +kernel
theorem dX3_explore_105 : decode cX3_explore 105 = .ok (.lstore 9, 2) := by decide +kernel
theorem dX3_explore_107 : decode cX3_explore 107 = .ok (.iload 8, 2) := by decide +kernel
theorem dX3_explore_109 : decode cX3_explore 109 = .ok (.aload_n 0, 1) := by decide +kernel
theorem dX3_explore_110 : decode cX3_explore 110 = .ok (.getfield 22, 3) := by decide +kernel
theorem dX3_explore_113 : decode cX3_explore 113 = .ok (.iload_n 1, 1) := by decide +kernel
theorem dX3_explore_114 : decode cX3_explore 114 = .ok (.iconst 1, 1) := by decide +kernel
theorem dX3_explore_115 : decode cX3_explore 115 = .ok (.iadd, 1) := by decide +kernel
theorem dX3_explore_116 : decode cX3_explore 116 = .ok (.iaload, 1) := by decide +kernel
theorem dX3_explore_117 : decode cX3_explore 117 = .ok (.iadd, 1) := by decide +kernel
theorem dX3_explore_118 : decode cX3_explore 118 = .ok (.aload_n 0, 1) := by decide +kernel
theorem dX3_explore_119 : decode cX3_explore 119 = .ok (.lload 9, 2) := by decide +kernel
theorem dX3_explore_121 : decode cX3_explore 121 = .ok (.invokevirtual 98, 3) := by decide +kernel
theorem dX3_explore_124 : decode cX3_explore 124 = .ok (.iadd, 1) := by decide +kernel
theorem dX3_explore_125 : decode cX3_explore 125 = .ok (.istore 11, 2) := by decide +kernel
theorem dX3_explore_127 : decode cX3_explore 127 = .ok (.iload 11, 2) := by decide +kernel
theorem dX3_explore_129 : decode cX3_explore 129 = .ok (.aload_n 0, 1) := by decide +kernel
theorem dX3_explore_130 : decode cX3_explore 130 = .ok (.getfield 54, 3) := by decide +kernel
theorem dX3_explore_133 : decode cX3_explore 133 = .ok (.if_icmp .lt 6, 3) := by decide +kernel
theorem dX3_explore_136 : decode cX3_explore 136 = .ok (.goto 56, 3) := by decide +kernel
theorem dX3_explore_139 : decode cX3_explore 139 = .ok (.aload_n 0, 1) := by decide +kernel
theorem dX3_explore_140 : decode cX3_explore 140 = .ok (.getfield 18, 3) := by decide +kernel
theorem dX3_explore_143 : decode cX3_explore 143 = .ok (.iload_n 1, 1) := by decide +kernel
theorem dX3_explore_144 : decode cX3_explore 144 = .ok (.iload 6, 2) := by decide +kernel
theorem dX3_explore_146 : decode cX3_explore 146 = .ok (.iastore, 1) := by decide +kernel
theorem dX3_explore_147 : decode cX3_explore 147 = .ok (.aload_n 0, 1) := by decide +kernel
theorem dX3_explore_148 : decode cX3_explore 148 = .ok (.iload_n 1, 1) := by decide +kernel
theorem dX3_explore_149 : decode cX3_explore 149 = .ok (.iconst 1, 1) := by decide +kernel
theorem dX3_explore_150 : decode cX3_explore 150 = .ok (.iadd, 1) := by decide +kernel
theorem dX3_explore_151 : decode cX3_explore 151 = .ok (.lload 9, 2) := by decide +kernel
theorem dX3_explore_153 : decode cX3_explore 153 = .ok (.iload 5, 2) := by decide +kernel
theorem dX3_explore_155 : decode cX3_explore 155 = .ok (.invokevirtual 73, 3) := by decide +kernel
theorem dX3_explore_158 : decode cX3_explore 158 = .ok (.istore 12, 2) := by decide +kernel
theorem dX3_explore_160 : decode cX3_explore 160 = .ok (.iload 12, 2) := by decide +kernel
theorem dX3_explore_162 : decode cX3_explore 162 = .ok (.ifCond .ne 17, 3) := by decide +kernel
theorem dX3_explore_165 : decode cX3_explore 165 = .ok (.aload_n 0, 1) := by decide +kernel
theorem dX3_explore_166 : decode cX3_explore 166 = .ok (.iload_n 1, 1) := by decide +kernel
theorem dX3_explore_167 : decode cX3_explore 167 = .ok (.iconst 1, 1) := by decide +kernel
theorem dX3_explore_168 : decode cX3_explore 168 = .ok (.iadd, 1) := by decide +kernel
theorem dX3_explore_169 : decode cX3_explore 169 = .ok (.iload 11, 2) := by decide +kernel
theorem dX3_explore_171 : decode cX3_explore 171 = .ok (.lload 9, 2) := by decide +kernel
theorem dX3_explore_173 : decode cX3_explore 173 = .ok (.invokevirtual 77, 3) := by decide +kernel
theorem dX3_explore_176 : decode cX3_explore 176 = .ok (.goto 16, 3) := by decide +kernel
theorem dX3_explore_179 : decode cX3_explore 179 = .ok (.aload_n 0, 1) := by decide +kernel
theorem dX3_explore_180 : decode cX3_explore 180 = .ok (.iload_n 1, 1) := by decide +kernel
theorem dX3_explore_181 : decode cX3_explore 181 = .ok (.iconst 1, 1) := by decide +kernel
theorem dX3_explore_182 : decode cX3_explore 182 = .ok (.iadd, 1) := by decide +kernel
theorem dX3_explore_183 : decode cX3_explore 183 = .ok (.iload 8, 2) := by decide +kernel
theorem dX3_explore_185 : decode cX3_explore 185 = .ok (.lload 9, 2) := by decide +kernel
theorem dX3_explore_187 : decode cX3_explore 187 = .ok (.iload 12, 2) := by decide +kernel
theorem dX3_explore_189 : decode cX3_explore 189 = .ok (.invokevirtual 81, 3) := by decide +kernel
theorem dX3_explore_192 : decode cX3_explore 192 = .ok (.iinc 6 1, 3) := by decide +kernel
theorem dX3_explore_195 : decode cX3_explore 195 = .ok (.goto (-180), 3) := by decide +kernel
theorem dX3_explore_198 : decode cX3_explore 198 = .ok (.return_, 1) := by decide +kernel
set_option maxRecDepth 20000 in
theorem s_X3_explore {w : Wd} {d : Nat} {P : IM → LM → Prop} {i : IM} {l : LM} (p0 : Int) (p1 : Int) (p2 : Int64) (p3 : Int)  (h : ((rg p0) ∧ ((p0 < i 7 8) → gV w d X_X3_explore P i l 15 [(0, vR (some 83)), (1, vI p0), (2, vI p1), (3, vL p2), (5, vI p3), (6, vI 0)] []) ∧ ((¬ (p0 < i 7 8)) → P i l))) : gV w d X_X3_explore P i l 0 [(0, vR (some 83)), (1, vI p0), (2, vI p1), (3, vL p2), (5, vI p3)] [] := by
  refine g_iload_n (pc' := 1) 1 dX3_explore_0 rfl rfl ?_
  refine g_aload_n (pc' := 2) 0 dX3_explore_1 rfl rfl ?_
  refine g_getR (pc' := 5) (o := some 7) fl_X3_35 rfl rfl rfl dX3_explore_2 rfl ?_
  refine g_getI (pc' := 8) (z := 8) rfl fl_X3_66 rfl rfl dX3_explore_5 rfl (fun rg1 => ?_)
  obtain ⟨hob3, hk5, hk6⟩ := h
  refine g_icmp_lt (tgt := 12) (pc' := 11) (hob3) rg1 Iff.rfl dX3_explore_8 rfl rfl (fun c4 => ?_) (fun c4 => ?_)
  · have h := hk5 c4
    refine g_iconst (pc' := 13) dX3_explore_12 rfl ?_
    refine g_istore (pc' := 15) (L' := [(6, vI 0), (0, vR (some 83)), (1, vI p0), (2, vI p1), (3, vL p2), (5, vI p3)]) dX3_explore_13 rfl (Nat.le_of_ble_eq_true rfl) rfl ?_
    refine g_sub (L' := [(0, vR (some 83)), (1, vI p0), (2, vI p1), (3, vL p2), (5, vI p3), (6, vI 0)]) [1, 2, 3, 4, 5, 0] rfl ?_
    exact h
  · have h := hk6 c4
    exact g_retV rfl dX3_explore_11 h
theorem e_X3_explore {w : Wd} {d : Nat} {P : IM → LM → Prop} {i : IM} {l : LM} {p0 : Int} {p1 : Int} {p2 : Int64} {p3 : Int}  (h : gV w d X_X3_explore P i l 0 [(0, vR (some 83)), (1, vI p0), (2, vI p1), (3, vL p2), (5, vI p3)] []) : cVd w (d + 1) X_X3_explore [vR (some 83), vI p0, vI p1, vL p2, vI p3] i l P := CV_of (by decide +kernel) (Nat.le_of_ble_eq_true rfl) h
set_option maxRecDepth 20000 in
theorem s_X3_explore_15 {w : Wd} {d : Nat} {P : IM → LM → Prop} {i : IM} {l : LM} (x1 : Int) (x2 : Int) (x3 : Int64) (x5 : Int) (x6 : Int)  (h : ((rg x6) ∧ ((3 ≤ x6) → P i l) ∧ ((¬ (3 ≤ x6)) → ((0 ≤ (x1 * 3) + x6 ∧ (x1 * 3) + x6 < 30) ∧ (0 ≤ x1 ∧ x1 < 10) ∧ ((¬ (iand (ishr (i 52 x1) x6) 1 = 0) → 0 ≤ x1 + 1 ∧ x1 + 1 < 11) ∧ (¬ (iand (ishr (i 52 x1) x6) 1 = 0) → rg ((x2 + (i 53 ((x1 * 3) + x6))) + (i 87 (x1 + 1)))) ∧ (((iand (ishr (i 52 x1) x6) 1 = 0) ∨ (i 83 8 ≤ (x2 + (i 53 ((x1 * 3) + x6))) + (i 87 (x1 + 1)))) → gV w d X_X3_explore P i l 15 [(0, vR (some 83)), (1, vI x1), (2, vI x2), (3, vL x3), (5, vI x5), (6, vI (x6 + 1))] []) ∧ ((¬ ((iand (ishr (i 52 x1) x6) 1 = 0) ∨ (i 83 8 ≤ (x2 + (i 53 ((x1 * 3) + x6))) + (i 87 (x1 + 1))))) → cI w d X_X3_isOutdone [vR (some 83), vI x1, vI x6, vL x3, vI x5] i l (fun r21 i21 l21 => (((r21 = 0) → cL w d X_X3_look [vR (some 83), vI x1, vI ((x1 * 3) + x6), vI x5] i21 l21 (fun r24 i24 l24 => ((0 ≤ x1 + 1 ∧ x1 + 1 < 11) ∧ cI w d X_X3_shutting [vR (some 83), vL (x3 ||| r24)] i24 l24 (fun r27 i27 l27 => ((rg (((x2 + (i 53 ((x1 * 3) + x6))) + (i24 87 (x1 + 1))) + r27)) ∧ ((((x2 + (i 53 ((x1 * 3) + x6))) + (i24 87 (x1 + 1))) + r27 < i27 83 8) → ((0 ≤ x1 ∧ x1 < 10) ∧ (rg x6) ∧ cI w d X_X3_stillOpen [vR (some 83), vI (x1 + 1), vL (x3 ||| r24), vI x5] (u2 i27 86 x1 x6) l27 (fun r34 i34 l34 => (((r34 = 0) → cVd w d X_X3_record [vR (some 83), vI (x1 + 1), vI (((x2 + (i 53 ((x1 * 3) + x6))) + (i24 87 (x1 + 1))) + r27), vL (x3 ||| r24)] i34 l34 (fun i38 l38 => gV w d X_X3_explore P i38 l38 15 [(0, vR (some 83)), (1, vI x1), (2, vI x2), (3, vL x3), (5, vI x5), (6, vI (x6 + 1))] [])) ∧ ((¬ (r34 = 0)) → cVd w d X_X3_explore [vR (some 83), vI (x1 + 1), vI (x2 + (i 53 ((x1 * 3) + x6))), vL (x3 ||| r24), vI r34] i34 l34 (fun i37 l37 => gV w d X_X3_explore P i37 l37 15 [(0, vR (some 83)), (1, vI x1), (2, vI x2), (3, vL x3), (5, vI x5), (6, vI (x6 + 1))] [])))))) ∧ ((¬ (((x2 + (i 53 ((x1 * 3) + x6))) + (i24 87 (x1 + 1))) + r27 < i27 83 8)) → gV w d X_X3_explore P i27 l27 15 [(0, vR (some 83)), (1, vI x1), (2, vI x2), (3, vL x3), (5, vI x5), (6, vI (x6 + 1))] [])))))) ∧ ((¬ (r21 = 0)) → gV w d X_X3_explore P i21 l21 15 [(0, vR (some 83)), (1, vI x1), (2, vI x2), (3, vL x3), (5, vI x5), (6, vI (x6 + 1))] []))))))))) : gV w d X_X3_explore P i l 15 [(0, vR (some 83)), (1, vI x1), (2, vI x2), (3, vL x3), (5, vI x5), (6, vI x6)] [] := by
  refine g_iload (pc' := 17) 5 dX3_explore_15 rfl rfl ?_
  refine g_iconst (pc' := 18) dX3_explore_17 rfl ?_
  obtain ⟨hob8, hk47, hk48⟩ := h
  refine g_icmp_ge (tgt := 198) (pc' := 21) (hob8) (rg_lit rfl) Iff.rfl dX3_explore_18 rfl rfl (fun c9 => ?_) (fun c9 => ?_)
  · have h := hk47 c9
    exact g_retV rfl dX3_explore_198 h
  · have h := hk48 c9
    obtain ⟨ob10, ob12, h⟩ := h
    refine g_iload_n (pc' := 22) 1 dX3_explore_21 rfl rfl ?_
    refine g_iconst (pc' := 23) dX3_explore_22 rfl ?_
    refine g_imul (pc' := 24) dX3_explore_23 rfl ?_
    refine g_iload (pc' := 26) 5 dX3_explore_24 rfl rfl ?_
    refine g_iadd (pc' := 27) dX3_explore_26 rfl ?_
    refine g_istore (pc' := 29) (L' := [(7, vI ((x1 * 3) + x6)), (0, vR (some 83)), (1, vI x1), (2, vI x2), (3, vL x3), (5, vI x5), (6, vI x6)]) dX3_explore_27 rfl (Nat.le_of_ble_eq_true rfl) rfl ?_
    refine g_iload_n (pc' := 30) 3 dX3_explore_29 rfl rfl ?_
    refine g_aload_n (pc' := 31) 1 dX3_explore_30 rfl rfl ?_
    refine g_getR (pc' := 34) (o := some 51) fl_X3_39 rfl rfl rfl dX3_explore_31 rfl ?_
    refine g_getR (pc' := 37) (o := some 53) fl_X3_85 rfl rfl rfl dX3_explore_34 rfl ?_
    refine g_iload (pc' := 39) 0 dX3_explore_37 rfl rfl ?_
    refine g_iald (pc' := 40) (N := 30) rfl rfl (Nat.lt_of_lt_of_le (Nat.lt_succ_self _) (Nat.le_of_ble_eq_true rfl)) ob10 dX3_explore_39 rfl (fun rg11 => ?_)
    refine g_iadd (pc' := 41) dX3_explore_40 rfl ?_
    refine g_istore (pc' := 43) (L' := [(8, vI (x2 + (i 53 ((x1 * 3) + x6)))), (7, vI ((x1 * 3) + x6)), (0, vR (some 83)), (1, vI x1), (2, vI x2), (3, vL x3), (5, vI x5), (6, vI x6)]) dX3_explore_41 rfl (Nat.le_of_ble_eq_true rfl) rfl ?_
    refine g_aload_n (pc' := 44) 2 dX3_explore_43 rfl rfl ?_
    refine g_getR (pc' := 47) (o := some 51) fl_X3_39 rfl rfl rfl dX3_explore_44 rfl ?_
    refine g_getR (pc' := 50) (o := some 52) fl_X3_88 rfl rfl rfl dX3_explore_47 rfl ?_
    refine g_iload_n (pc' := 51) 3 dX3_explore_50 rfl rfl ?_
    refine g_iald (pc' := 52) (N := 10) rfl rfl (Nat.lt_of_lt_of_le (Nat.lt_succ_self _) (Nat.le_of_ble_eq_true rfl)) ob12 dX3_explore_51 rfl (fun rg13 => ?_)
    refine g_iload (pc' := 54) 7 dX3_explore_52 rfl rfl ?_
    refine g_ishr (pc' := 55) dX3_explore_54 rfl ?_
    refine g_iconst (pc' := 56) dX3_explore_55 rfl ?_
    refine g_iand (pc' := 57) dX3_explore_56 rfl ?_
    obtain ⟨hob16, hob19, hk45, hk46⟩ := h
    have hk45g : ((iand (ishr (i 52 x1) x6) 1 = 0) ∨ (i 83 8 ≤ (x2 + (i 53 ((x1 * 3) + x6))) + (i 87 (x1 + 1)))) → gV w d X_X3_explore P i l 192 [(8, vI (x2 + (i 53 ((x1 * 3) + x6)))), (7, vI ((x1 * 3) + x6)), (0, vR (some 83)), (1, vI x1), (2, vI x2), (3, vL x3), (5, vI x5), (6, vI x6)] [] := by
      intro hp
      have h := hk45 hp
      refine g_iinc (pc' := 195) (L' := [(6, vI (x6 + 1)), (8, vI (x2 + (i 53 ((x1 * 3) + x6)))), (7, vI ((x1 * 3) + x6)), (0, vR (some 83)), (1, vI x1), (2, vI x2), (3, vL x3), (5, vI x5)]) 7 dX3_explore_192 rfl (Nat.le_of_ble_eq_true rfl) rfl rfl ?_
      refine g_goto (tgt := 15) dX3_explore_195 rfl ?_
      refine g_sub (L' := [(0, vR (some 83)), (1, vI x1), (2, vI x2), (3, vL x3), (5, vI x5), (6, vI (x6 + 1))]) [3, 4, 5, 6, 7, 0] rfl ?_
      exact h
    have hk46g : (¬ ((iand (ishr (i 52 x1) x6) 1 = 0) ∨ (i 83 8 ≤ (x2 + (i 53 ((x1 * 3) + x6))) + (i 87 (x1 + 1))))) → gV w d X_X3_explore P i l 78 [(8, vI (x2 + (i 53 ((x1 * 3) + x6)))), (7, vI ((x1 * 3) + x6)), (0, vR (some 83)), (1, vI x1), (2, vI x2), (3, vL x3), (5, vI x5), (6, vI x6)] [] := by
      intro hp
      have h := hk46 hp
      refine g_aload_n (pc' := 79) 2 dX3_explore_78 rfl rfl ?_
      refine g_iload_n (pc' := 80) 3 dX3_explore_79 rfl rfl ?_
      refine g_iload (pc' := 82) 7 dX3_explore_80 rfl rfl ?_
      refine g_lload_n (pc' := 83) 5 dX3_explore_82 rfl rfl ?_
      refine g_iload (pc' := 85) 6 dX3_explore_83 rfl rfl ?_
      refine g_cVI (pc' := 88) (vs := [vI x1, vI x6, vL x3, vI x5]) (st := []) (c := 3) h mv_X3_isOutdone lk_X3_91 rfl rfl rfl rfl (Nat.le_of_ble_eq_true rfl) (Nat.le_of_ble_eq_true rfl) rfl dX3_explore_85 rfl z2 (fun r21 i21 l21 rg21 h => ?_)
      obtain ⟨hk43, hk44⟩ := h
      refine g_if_eq (tgt := 94) (pc' := 91) rg21 Iff.rfl dX3_explore_88 rfl rfl (fun c23 => ?_) (fun c23 => ?_)
      · have h := hk43 c23
        refine g_lload_n (pc' := 95) 5 dX3_explore_94 rfl rfl ?_
        refine g_aload_n (pc' := 96) 2 dX3_explore_95 rfl rfl ?_
        refine g_iload_n (pc' := 97) 3 dX3_explore_96 rfl rfl ?_
        refine g_iload (pc' := 99) 1 dX3_explore_97 rfl rfl ?_
        refine g_iload (pc' := 101) 6 dX3_explore_99 rfl rfl ?_
        refine g_cVL (pc' := 104) (vs := [vI x1, vI ((x1 * 3) + x6), vI x5]) (st := [vL x3]) (c := 3) h mv_X3_look lk_X3_95 rfl rfl rfl rfl (Nat.le_of_ble_eq_true rfl) (Nat.le_of_ble_eq_true rfl) rfl dX3_explore_101 rfl z2 (fun r24 i24 l24 h => ?_)
        obtain ⟨ob25, h⟩ := h
        refine g_lor (pc' := 105) dX3_explore_104 rfl ?_
        refine g_lstore (pc' := 107) (L' := [(9, vL (x3 ||| r24)), (8, vI (x2 + (i 53 ((x1 * 3) + x6)))), (7, vI ((x1 * 3) + x6)), (0, vR (some 83)), (1, vI x1), (2, vI x2), (3, vL x3), (5, vI x5), (6, vI x6)]) dX3_explore_105 rfl (Nat.le_of_ble_eq_true rfl) rfl ?_
        refine g_iload (pc' := 109) 1 dX3_explore_107 rfl rfl ?_
        refine g_aload_n (pc' := 110) 3 dX3_explore_109 rfl rfl ?_
        refine g_getR (pc' := 113) (o := some 87) fl_X3_22 rfl rfl rfl dX3_explore_110 rfl ?_
        refine g_iload_n (pc' := 114) 4 dX3_explore_113 rfl rfl ?_
        refine g_iconst (pc' := 115) dX3_explore_114 rfl ?_
        refine g_iadd (pc' := 116) dX3_explore_115 rfl ?_
        refine g_iald (pc' := 117) (N := 11) rfl rfl (Nat.lt_of_lt_of_le (Nat.lt_succ_self _) (Nat.le_of_ble_eq_true rfl)) ob25 dX3_explore_116 rfl (fun rg26 => ?_)
        refine g_iadd (pc' := 118) dX3_explore_117 rfl ?_
        refine g_aload_n (pc' := 119) 3 dX3_explore_118 rfl rfl ?_
        refine g_lload (pc' := 121) 0 dX3_explore_119 rfl rfl ?_
        refine g_cVI (pc' := 124) (vs := [vL (x3 ||| r24)]) (st := [vI ((x2 + (i 53 ((x1 * 3) + x6))) + (i24 87 (x1 + 1)))]) (c := 3) h mv_X3_shutting lk_X3_98 rfl rfl rfl rfl (Nat.le_of_ble_eq_true rfl) (Nat.le_of_ble_eq_true rfl) rfl dX3_explore_121 rfl z2 (fun r27 i27 l27 rg27 h => ?_)
        refine g_iadd (pc' := 125) dX3_explore_124 rfl ?_
        refine g_istore (pc' := 127) (L' := [(11, vI (((x2 + (i 53 ((x1 * 3) + x6))) + (i24 87 (x1 + 1))) + r27)), (9, vL (x3 ||| r24)), (8, vI (x2 + (i 53 ((x1 * 3) + x6)))), (7, vI ((x1 * 3) + x6)), (0, vR (some 83)), (1, vI x1), (2, vI x2), (3, vL x3), (5, vI x5), (6, vI x6)]) dX3_explore_125 rfl (Nat.le_of_ble_eq_true rfl) rfl ?_
        refine g_iload (pc' := 129) 0 dX3_explore_127 rfl rfl ?_
        refine g_aload_n (pc' := 130) 4 dX3_explore_129 rfl rfl ?_
        refine g_getI (pc' := 133) (z := 8) rfl fl_X3_54 rfl rfl dX3_explore_130 rfl (fun rg28 => ?_)
        obtain ⟨hob30, hk41, hk42⟩ := h
        refine g_icmp_lt (tgt := 139) (pc' := 136) (hob30) rg28 Iff.rfl dX3_explore_133 rfl rfl (fun c31 => ?_) (fun c31 => ?_)
        · have h := hk41 c31
          obtain ⟨ob32, ob33, h⟩ := h
          refine g_aload_n (pc' := 140) 4 dX3_explore_139 rfl rfl ?_
          refine g_getR (pc' := 143) (o := some 86) fl_X3_18 rfl rfl rfl dX3_explore_140 rfl ?_
          refine g_iload_n (pc' := 144) 5 dX3_explore_143 rfl rfl ?_
          refine g_iload (pc' := 146) 9 dX3_explore_144 rfl rfl ?_
          refine g_iast (pc' := 147) (N := 10) rfl rfl (Nat.lt_of_lt_of_le (Nat.lt_succ_self _) (Nat.le_of_ble_eq_true rfl)) ob32 ob33 dX3_explore_146 rfl ?_
          refine g_aload_n (pc' := 148) 4 dX3_explore_147 rfl rfl ?_
          refine g_iload_n (pc' := 149) 5 dX3_explore_148 rfl rfl ?_
          refine g_iconst (pc' := 150) dX3_explore_149 rfl ?_
          refine g_iadd (pc' := 151) dX3_explore_150 rfl ?_
          refine g_lload (pc' := 153) 1 dX3_explore_151 rfl rfl ?_
          refine g_iload (pc' := 155) 8 dX3_explore_153 rfl rfl ?_
          refine g_cVI (pc' := 158) (vs := [vI (x1 + 1), vL (x3 ||| r24), vI x5]) (st := []) (c := 3) h mv_X3_stillOpen lk_X3_73 rfl rfl rfl rfl (Nat.le_of_ble_eq_true rfl) (Nat.le_of_ble_eq_true rfl) rfl dX3_explore_155 rfl z2 (fun r34 i34 l34 rg34 h => ?_)
          refine g_istore (pc' := 160) (L' := [(12, vI r34), (11, vI (((x2 + (i 53 ((x1 * 3) + x6))) + (i24 87 (x1 + 1))) + r27)), (9, vL (x3 ||| r24)), (8, vI (x2 + (i 53 ((x1 * 3) + x6)))), (7, vI ((x1 * 3) + x6)), (0, vR (some 83)), (1, vI x1), (2, vI x2), (3, vL x3), (5, vI x5), (6, vI x6)]) dX3_explore_158 rfl (Nat.le_of_ble_eq_true rfl) rfl ?_
          refine g_iload (pc' := 162) 0 dX3_explore_160 rfl rfl ?_
          obtain ⟨hk39, hk40⟩ := h
          refine g_if_ne (tgt := 179) (pc' := 165) rg34 Iff.rfl dX3_explore_162 rfl rfl (fun c36 => ?_) (fun c36 => ?_)
          · have h := hk40 c36
            refine g_aload_n (pc' := 180) 5 dX3_explore_179 rfl rfl ?_
            refine g_iload_n (pc' := 181) 6 dX3_explore_180 rfl rfl ?_
            refine g_iconst (pc' := 182) dX3_explore_181 rfl ?_
            refine g_iadd (pc' := 183) dX3_explore_182 rfl ?_
            refine g_iload (pc' := 185) 3 dX3_explore_183 rfl rfl ?_
            refine g_lload (pc' := 187) 2 dX3_explore_185 rfl rfl ?_
            refine g_iload (pc' := 189) 0 dX3_explore_187 rfl rfl ?_
            refine g_cVV (pc' := 192) (vs := [vI (x1 + 1), vI (x2 + (i 53 ((x1 * 3) + x6))), vL (x3 ||| r24), vI r34]) (st := []) (c := 3) h mv_X3_explore lk_X3_81 rfl rfl rfl rfl (Nat.le_of_ble_eq_true rfl) (Nat.le_of_ble_eq_true rfl) rfl dX3_explore_189 rfl z2 (fun i37 l37 h => ?_)
            refine g_iinc (pc' := 195) (L' := [(6, vI (x6 + 1)), (12, vI r34), (11, vI (((x2 + (i 53 ((x1 * 3) + x6))) + (i24 87 (x1 + 1))) + r27)), (9, vL (x3 ||| r24)), (8, vI (x2 + (i 53 ((x1 * 3) + x6)))), (7, vI ((x1 * 3) + x6)), (0, vR (some 83)), (1, vI x1), (2, vI x2), (3, vL x3), (5, vI x5)]) 10 dX3_explore_192 rfl (Nat.le_of_ble_eq_true rfl) rfl rfl ?_
            refine g_goto (tgt := 15) dX3_explore_195 rfl ?_
            refine g_sub (L' := [(0, vR (some 83)), (1, vI x1), (2, vI x2), (3, vL x3), (5, vI x5), (6, vI (x6 + 1))]) [6, 7, 8, 9, 10, 0] rfl ?_
            exact h
          · have h := hk39 c36
            refine g_aload_n (pc' := 166) 5 dX3_explore_165 rfl rfl ?_
            refine g_iload_n (pc' := 167) 6 dX3_explore_166 rfl rfl ?_
            refine g_iconst (pc' := 168) dX3_explore_167 rfl ?_
            refine g_iadd (pc' := 169) dX3_explore_168 rfl ?_
            refine g_iload (pc' := 171) 1 dX3_explore_169 rfl rfl ?_
            refine g_lload (pc' := 173) 2 dX3_explore_171 rfl rfl ?_
            refine g_cVV (pc' := 176) (vs := [vI (x1 + 1), vI (((x2 + (i 53 ((x1 * 3) + x6))) + (i24 87 (x1 + 1))) + r27), vL (x3 ||| r24)]) (st := []) (c := 3) h mv_X3_record lk_X3_77 rfl rfl rfl rfl (Nat.le_of_ble_eq_true rfl) (Nat.le_of_ble_eq_true rfl) rfl dX3_explore_173 rfl z2 (fun i38 l38 h => ?_)
            refine g_goto (tgt := 192) dX3_explore_176 rfl ?_
            refine g_iinc (pc' := 195) (L' := [(6, vI (x6 + 1)), (12, vI r34), (11, vI (((x2 + (i 53 ((x1 * 3) + x6))) + (i24 87 (x1 + 1))) + r27)), (9, vL (x3 ||| r24)), (8, vI (x2 + (i 53 ((x1 * 3) + x6)))), (7, vI ((x1 * 3) + x6)), (0, vR (some 83)), (1, vI x1), (2, vI x2), (3, vL x3), (5, vI x5)]) 10 dX3_explore_192 rfl (Nat.le_of_ble_eq_true rfl) rfl rfl ?_
            refine g_goto (tgt := 15) dX3_explore_195 rfl ?_
            refine g_sub (L' := [(0, vR (some 83)), (1, vI x1), (2, vI x2), (3, vL x3), (5, vI x5), (6, vI (x6 + 1))]) [6, 7, 8, 9, 10, 0] rfl ?_
            exact h
        · refine g_goto (tgt := 192) dX3_explore_136 rfl ?_
          have h := hk42 c31
          refine g_iinc (pc' := 195) (L' := [(6, vI (x6 + 1)), (11, vI (((x2 + (i 53 ((x1 * 3) + x6))) + (i24 87 (x1 + 1))) + r27)), (9, vL (x3 ||| r24)), (8, vI (x2 + (i 53 ((x1 * 3) + x6)))), (7, vI ((x1 * 3) + x6)), (0, vR (some 83)), (1, vI x1), (2, vI x2), (3, vL x3), (5, vI x5)]) 9 dX3_explore_192 rfl (Nat.le_of_ble_eq_true rfl) rfl rfl ?_
          refine g_goto (tgt := 15) dX3_explore_195 rfl ?_
          refine g_sub (L' := [(0, vR (some 83)), (1, vI x1), (2, vI x2), (3, vL x3), (5, vI x5), (6, vI (x6 + 1))]) [5, 6, 7, 8, 9, 0] rfl ?_
          exact h
      · refine g_goto (tgt := 192) dX3_explore_91 rfl ?_
        have h := hk44 c23
        refine g_iinc (pc' := 195) (L' := [(6, vI (x6 + 1)), (8, vI (x2 + (i 53 ((x1 * 3) + x6)))), (7, vI ((x1 * 3) + x6)), (0, vR (some 83)), (1, vI x1), (2, vI x2), (3, vL x3), (5, vI x5)]) 7 dX3_explore_192 rfl (Nat.le_of_ble_eq_true rfl) rfl rfl ?_
        refine g_goto (tgt := 15) dX3_explore_195 rfl ?_
        refine g_sub (L' := [(0, vR (some 83)), (1, vI x1), (2, vI x2), (3, vL x3), (5, vI x5), (6, vI (x6 + 1))]) [3, 4, 5, 6, 7, 0] rfl ?_
        exact h
    refine g_if_eq (tgt := 192) (pc' := 60) (rg_iand _ _) Iff.rfl dX3_explore_57 rfl rfl (fun c15 => ?_) (fun c15 => ?_)
    · exact hk45g (Or.inl c15)
    · refine g_iload (pc' := 62) 0 dX3_explore_60 rfl rfl ?_
      refine g_aload_n (pc' := 63) 2 dX3_explore_62 rfl rfl ?_
      refine g_getR (pc' := 66) (o := some 87) fl_X3_22 rfl rfl rfl dX3_explore_63 rfl ?_
      refine g_iload_n (pc' := 67) 3 dX3_explore_66 rfl rfl ?_
      refine g_iconst (pc' := 68) dX3_explore_67 rfl ?_
      refine g_iadd (pc' := 69) dX3_explore_68 rfl ?_
      refine g_iald (pc' := 70) (N := 11) rfl rfl (Nat.lt_of_lt_of_le (Nat.lt_succ_self _) (Nat.le_of_ble_eq_true rfl)) (hob16 c15) dX3_explore_69 rfl (fun rg17 => ?_)
      refine g_iadd (pc' := 71) dX3_explore_70 rfl ?_
      refine g_aload_n (pc' := 72) 2 dX3_explore_71 rfl rfl ?_
      refine g_getI (pc' := 75) (z := 8) rfl fl_X3_54 rfl rfl dX3_explore_72 rfl (fun rg18 => ?_)
      refine g_icmp_ge (tgt := 192) (pc' := 78) (hob19 c15) rg18 Iff.rfl dX3_explore_75 rfl rfl (fun c20 => ?_) (fun c20 => ?_)
      · exact hk45g (Or.inr c20)
      · exact hk46g (fun q => q.elim c15 c20)

theorem dX3_isOutdone_0 : decode cX3_isOutdone 0 = .ok (.iload_n 1, 1) := by decide +kernel
theorem dX3_isOutdone_1 : decode cX3_isOutdone 1 = .ok (.iconst 3, 1) := by decide +kernel
theorem dX3_isOutdone_2 : decode cX3_isOutdone 2 = .ok (.imul, 1) := by decide +kernel
theorem dX3_isOutdone_3 : decode cX3_isOutdone 3 = .ok (.iload_n 2, 1) := by decide +kernel
theorem dX3_isOutdone_4 : decode cX3_isOutdone 4 = .ok (.iadd, 1) := by decide +kernel
theorem dX3_isOutdone_5 : decode cX3_isOutdone 5 = .ok (.istore 6, 2) := by decide +kernel
theorem dX3_isOutdone_7 : decode cX3_isOutdone 7 = .ok (.lload_n 3, 1) := by decide +kernel
theorem dX3_isOutdone_8 : decode cX3_isOutdone 8 = .ok (.bipush 7, 2) := by decide +kernel
theorem dX3_isOutdone_10 : decode cX3_isOutdone 10 = .ok (.lushr, 1) := by decide +kernel
theorem dX3_isOutdone_11 : decode cX3_isOutdone 11 = .ok (.ldc2_w 102, 3) := by decide +kernel
theorem dX3_isOutdone_14 : decode cX3_isOutdone 14 = .ok (.lmul, 1) := by decide +kernel
theorem dX3_isOutdone_15 : decode cX3_isOutdone 15 = .ok (.ldc2_w 104, 3) := by decide +kernel
theorem dX3_isOutdone_18 : decode cX3_isOutdone 18 = .ok (.lxor, 1) := by decide +kernel
theorem dX3_isOutdone_19 : decode cX3_isOutdone 19 = .ok (.lstore 7, 2) := by decide +kernel
theorem dX3_isOutdone_21 : decode cX3_isOutdone 21 = .ok (.iconst 0, 1) := by decide +kernel
theorem dX3_isOutdone_22 : decode cX3_isOutdone 22 = .ok (.istore 9, 2) := by decide +kernel
theorem dX3_isOutdone_24 : decode cX3_isOutdone 24 = .ok (.iload 9, 2) := by decide +kernel
theorem dX3_isOutdone_26 : decode cX3_isOutdone 26 = .ok (.iconst 3, 1) := by decide +kernel
theorem dX3_isOutdone_27 : decode cX3_isOutdone 27 = .ok (.if_icmp .ge 102, 3) := by decide +kernel
theorem dX3_isOutdone_30 : decode cX3_isOutdone 30 = .ok (.iload_n 1, 1) := by decide +kernel
theorem dX3_isOutdone_31 : decode cX3_isOutdone 31 = .ok (.iconst 3, 1) := by decide +kernel
theorem dX3_isOutdone_32 : decode cX3_isOutdone 32 = .ok (.imul, 1) := by decide +kernel
theorem dX3_isOutdone_33 : decode cX3_isOutdone 33 = .ok (.iload 9, 2) := by decide +kernel
theorem dX3_isOutdone_35 : decode cX3_isOutdone 35 = .ok (.iadd, 1) := by decide +kernel
theorem dX3_isOutdone_36 : decode cX3_isOutdone 36 = .ok (.istore 10, 2) := by decide +kernel
theorem dX3_isOutdone_38 : decode cX3_isOutdone 38 = .ok (.aload_n 0, 1) := by decide +kernel
theorem dX3_isOutdone_39 : decode cX3_isOutdone 39 = .ok (.getfield 39, 3) := by decide +kernel
theorem dX3_isOutdone_42 : decode cX3_isOutdone 42 = .ok (.getfield 85, 3) := by decide +kernel
theorem dX3_isOutdone_45 : decode cX3_isOutdone 45 = .ok (.iload 6, 2) := by decide +kernel
theorem dX3_isOutdone_47 : decode cX3_isOutdone 47 = .ok (.iaload, 1) := by decide +kernel
theorem dX3_isOutdone_48 : decode cX3_isOutdone 48 = .ok (.aload_n 0, 1) := by decide +kernel
theorem dX3_isOutdone_49 : decode cX3_isOutdone 49 = .ok (.getfield 39, 3) := by decide +kernel
theorem dX3_isOutdone_52 : decode cX3_isOutdone 52 = .ok (.getfield 85, 3) := by decide +kernel
theorem dX3_isOutdone_55 : decode cX3_isOutdone 55 = .ok (.iload 10, 2) := by decide +kernel
theorem dX3_isOutdone_57 : decode cX3_isOutdone 57 = .ok (.iaload, 1) := by decide +kernel
theorem dX3_isOutdone_58 : decode cX3_isOutdone 58 = .ok (.isub, 1) := by decide +kernel
theorem dX3_isOutdone_59 : decode cX3_isOutdone 59 = .ok (.istore 11, 2) := by decide +kernel
theorem dX3_isOutdone_61 : decode cX3_isOutdone 61 = .ok (.aload_n 0, 1) := by decide +kernel
theorem dX3_isOutdone_62 : decode cX3_isOutdone 62 = .ok (.getfield 39, 3) := by decide +kernel
theorem dX3_isOutdone_65 : decode cX3_isOutdone 65 = .ok (.getfield 88, 3) := by decide +kernel
theorem dX3_isOutdone_68 : decode cX3_isOutdone 68 = .ok (.iload_n 1, 1) := by decide +kernel
theorem dX3_isOutdone_69 : decode cX3_isOutdone 69 = .ok (.iaload, 1) := by decide +kernel
theorem dX3_isOutdone_70 : decode cX3_isOutdone 70 = .ok (.iload 9, 2) := by decide +kernel
theorem dX3_isOutdone_72 : decode cX3_isOutdone 72 = .ok (.ishr, 1) := by decide +kernel
theorem dX3_isOutdone_73 : decode cX3_isOutdone 73 = .ok (.iconst 1, 1) := by decide +kernel
theorem dX3_isOutdone_74 : decode cX3_isOutdone 74 = .ok (.iand, 1) := by decide +kernel
theorem dX3_isOutdone_75 : decode cX3_isOutdone 75 = .ok (.iconst 1, 1) := by decide +kernel
theorem dX3_isOutdone_76 : decode cX3_isOutdone 76 = .ok (.if_icmp .ne 47, 3) := by decide +kernel
theorem dX3_isOutdone_79 : decode cX3_isOutdone 79 = .ok (.iload 11, 2) := by decide +kernel
theorem dX3_isOutdone_81 : decode cX3_isOutdone 81 = .ok (.ifCond .gt 14, 3) := by decide +kernel
theorem dX3_isOutdone_84 : decode cX3_isOutdone 84 = .ok (.iload 11, 2) := by decide +kernel
theorem dX3_isOutdone_86 : decode cX3_isOutdone 86 = .ok (.ifCond .ne 37, 3) := by decide +kernel
theorem dX3_isOutdone_89 : decode cX3_isOutdone 89 = .ok (.iload 9, 2) := by decide +kernel
theorem dX3_isOutdone_91 : decode cX3_isOutdone 91 = .ok (.iload_n 2, 1) := by decide +kernel
theorem dX3_isOutdone_92 : decode cX3_isOutdone 92 = .ok (.if_icmp .ge 31, 3) := by decide +kernel
theorem dX3_isOutdone_95 : decode cX3_isOutdone 95 = .ok (.aload_n 0, 1) := by decide +kernel
theorem dX3_isOutdone_96 : decode cX3_isOutdone 96 = .ok (.getfield 39, 3) := by decide +kernel
theorem dX3_isOutdone_99 : decode cX3_isOutdone 99 = .ok (.iload 10, 2) := by decide +kernel
theorem dX3_isOutdone_101 : decode cX3_isOutdone 101 = .ok (.iload 6, 2) := by decide +kernel
theorem dX3_isOutdone_103 : decode cX3_isOutdone 103 = .ok (.aload_n 0, 1) := by decide +kernel
theorem dX3_isOutdone_104 : decode cX3_isOutdone 104 = .ok (.getfield 9, 3) := by decide +kernel
theorem dX3_isOutdone_107 : decode cX3_isOutdone 107 = .ok (.iload_n 1, 1) := by decide +kernel
theorem dX3_isOutdone_108 : decode cX3_isOutdone 108 = .ok (.bipush 12, 2) := by decide +kernel
theorem dX3_isOutdone_110 : decode cX3_isOutdone 110 = .ok (.imul, 1) := by decide +kernel
theorem dX3_isOutdone_111 : decode cX3_isOutdone 111 = .ok (.iload 5, 2) := by decide +kernel
theorem dX3_isOutdone_113 : decode cX3_isOutdone 113 = .ok (.lload 7, 2) := by decide +kernel
theorem dX3_isOutdone_115 : decode cX3_isOutdone 115 = .ok (.invokevirtual 106, 3) := by decide +kernel
theorem dX3_isOutdone_118 : decode cX3_isOutdone 118 = .ok (.ifCond .eq 5, 3) := by decide +kernel
theorem dX3_isOutdone_121 : decode cX3_isOutdone 121 = .ok (.iconst 1, 1) := by decide +kernel
theorem dX3_isOutdone_122 : decode cX3_isOutdone 122 = .ok (.ireturn, 1) := by decide +kernel
theorem dX3_isOutdone_123 : decode cX3_isOutdone 123 = .ok (.iinc 9 1, 3) := by decide +kernel
theorem dX3_isOutdone_126 : decode cX3_isOutdone 126 = .ok (.goto (-102), 3) := by decide +kernel
theorem dX3_isOutdone_129 : decode cX3_isOutdone 129 = .ok (.iconst 0, 1) := by decide +kernel
theorem dX3_isOutdone_130 : decode cX3_isOutdone 130 = .ok (.ireturn, 1) := by decide +kernel
set_option maxRecDepth 20000 in
theorem s_X3_isOutdone {w : Wd} {d : Nat} {P : Int → IM → LM → Prop} {i : IM} {l : LM} (p0 : Int) (p1 : Int) (p2 : Int64) (p3 : Int)  (h : gI w d X_X3_isOutdone P i l 24 [(0, vR (some 83)), (1, vI p0), (2, vI p1), (5, vI p3), (6, vI ((p0 * 3) + p1)), (7, vL (((lushr p2 7) * 255) ^^^ (-1))), (9, vI 0)] []) : gI w d X_X3_isOutdone P i l 0 [(0, vR (some 83)), (1, vI p0), (2, vI p1), (3, vL p2), (5, vI p3)] [] := by
  refine g_iload_n (pc' := 1) 1 dX3_isOutdone_0 rfl rfl ?_
  refine g_iconst (pc' := 2) dX3_isOutdone_1 rfl ?_
  refine g_imul (pc' := 3) dX3_isOutdone_2 rfl ?_
  refine g_iload_n (pc' := 4) 2 dX3_isOutdone_3 rfl rfl ?_
  refine g_iadd (pc' := 5) dX3_isOutdone_4 rfl ?_
  refine g_istore (pc' := 7) (L' := [(6, vI ((p0 * 3) + p1)), (0, vR (some 83)), (1, vI p0), (2, vI p1), (3, vL p2), (5, vI p3)]) dX3_isOutdone_5 rfl (Nat.le_of_ble_eq_true rfl) rfl ?_
  refine g_lload_n (pc' := 8) 4 dX3_isOutdone_7 rfl rfl ?_
  refine g_bipush (pc' := 10) dX3_isOutdone_8 rfl rfl ?_
  refine g_lushr (pc' := 11) dX3_isOutdone_10 rfl ?_
  refine g_ldc2 (pc' := 14) dX3_isOutdone_11 rfl kl_X3_102 ?_
  refine g_lmul (pc' := 15) dX3_isOutdone_14 rfl ?_
  refine g_ldc2 (pc' := 18) dX3_isOutdone_15 rfl kl_X3_104 ?_
  refine g_lxor (pc' := 19) dX3_isOutdone_18 rfl ?_
  refine g_lstore (pc' := 21) (L' := [(7, vL (((lushr p2 7) * 255) ^^^ (-1))), (6, vI ((p0 * 3) + p1)), (0, vR (some 83)), (1, vI p0), (2, vI p1), (3, vL p2), (5, vI p3)]) dX3_isOutdone_19 rfl (Nat.le_of_ble_eq_true rfl) rfl ?_
  refine g_iconst (pc' := 22) dX3_isOutdone_21 rfl ?_
  refine g_istore (pc' := 24) (L' := [(9, vI 0), (7, vL (((lushr p2 7) * 255) ^^^ (-1))), (6, vI ((p0 * 3) + p1)), (0, vR (some 83)), (1, vI p0), (2, vI p1), (3, vL p2), (5, vI p3)]) dX3_isOutdone_22 rfl (Nat.le_of_ble_eq_true rfl) rfl ?_
  refine g_sub (L' := [(0, vR (some 83)), (1, vI p0), (2, vI p1), (5, vI p3), (6, vI ((p0 * 3) + p1)), (7, vL (((lushr p2 7) * 255) ^^^ (-1))), (9, vI 0)]) [3, 4, 5, 7, 2, 1, 0] rfl ?_
  exact h
theorem e_X3_isOutdone {w : Wd} {d : Nat} {P : Int → IM → LM → Prop} {i : IM} {l : LM} {p0 : Int} {p1 : Int} {p2 : Int64} {p3 : Int}  (h : gI w d X_X3_isOutdone P i l 0 [(0, vR (some 83)), (1, vI p0), (2, vI p1), (3, vL p2), (5, vI p3)] []) : cI w (d + 1) X_X3_isOutdone [vR (some 83), vI p0, vI p1, vL p2, vI p3] i l P := CI_of (by decide +kernel) (Nat.le_of_ble_eq_true rfl) h
set_option maxRecDepth 20000 in
theorem s_X3_isOutdone_24 {w : Wd} {d : Nat} {P : Int → IM → LM → Prop} {i : IM} {l : LM} (x1 : Int) (x2 : Int) (x5 : Int) (x6 : Int) (x7 : Int64) (x9 : Int)  (h : ((rg x9) ∧ ((3 ≤ x9) → P 0 i l) ∧ ((¬ (3 ≤ x9)) → ((0 ≤ x6 ∧ x6 < 30) ∧ (0 ≤ (x1 * 3) + x9 ∧ (x1 * 3) + x9 < 30) ∧ (0 ≤ x1 ∧ x1 < 10) ∧ (((iand (ishr (i 52 x1) x9) 1 = 1) → rg ((i 53 x6) - (i 53 ((x1 * 3) + x9)))) ∧ ((iand (ishr (i 52 x1) x9) 1 = 1) → ¬ (0 < (i 53 x6) - (i 53 ((x1 * 3) + x9))) → ((i 53 x6) - (i 53 ((x1 * 3) + x9)) = 0) → rg x9) ∧ ((iand (ishr (i 52 x1) x9) 1 = 1) → ¬ (0 < (i 53 x6) - (i 53 ((x1 * 3) + x9))) → ((i 53 x6) - (i 53 ((x1 * 3) + x9)) = 0) → rg x2) ∧ (((iand (ishr (i 52 x1) x9) 1 = 1) ∧ ((0 < (i 53 x6) - (i 53 ((x1 * 3) + x9))) ∨ (((i 53 x6) - (i 53 ((x1 * 3) + x9)) = 0) ∧ (¬ (x2 ≤ x9))))) → gI w d X_X3_isOutdone P i l 95 [(0, vR (some 83)), (1, vI x1), (2, vI x2), (5, vI x5), (6, vI x6), (7, vL x7), (9, vI x9), (10, vI ((x1 * 3) + x9))] []) ∧ ((¬ ((iand (ishr (i 52 x1) x9) 1 = 1) ∧ ((0 < (i 53 x6) - (i 53 ((x1 * 3) + x9))) ∨ (((i 53 x6) - (i 53 ((x1 * 3) + x9)) = 0) ∧ (¬ (x2 ≤ x9)))))) → gI w d X_X3_isOutdone P i l 24 [(0, vR (some 83)), (1, vI x1), (2, vI x2), (5, vI x5), (6, vI x6), (7, vL x7), (9, vI (x9 + 1))] [])))))) : gI w d X_X3_isOutdone P i l 24 [(0, vR (some 83)), (1, vI x1), (2, vI x2), (5, vI x5), (6, vI x6), (7, vL x7), (9, vI x9)] [] := by
  refine g_iload (pc' := 26) 6 dX3_isOutdone_24 rfl rfl ?_
  refine g_iconst (pc' := 27) dX3_isOutdone_26 rfl ?_
  obtain ⟨hob2, hk20, hk21⟩ := h
  refine g_icmp_ge (tgt := 129) (pc' := 30) (hob2) (rg_lit rfl) Iff.rfl dX3_isOutdone_27 rfl rfl (fun c3 => ?_) (fun c3 => ?_)
  · have h := hk20 c3
    refine g_iconst (pc' := 130) dX3_isOutdone_129 rfl ?_
    exact g_retZ rfl (by decide) dX3_isOutdone_130 h
  · have h := hk21 c3
    obtain ⟨ob4, ob6, ob8, h⟩ := h
    refine g_iload_n (pc' := 31) 1 dX3_isOutdone_30 rfl rfl ?_
    refine g_iconst (pc' := 32) dX3_isOutdone_31 rfl ?_
    refine g_imul (pc' := 33) dX3_isOutdone_32 rfl ?_
    refine g_iload (pc' := 35) 6 dX3_isOutdone_33 rfl rfl ?_
    refine g_iadd (pc' := 36) dX3_isOutdone_35 rfl ?_
    refine g_istore (pc' := 38) (L' := [(10, vI ((x1 * 3) + x9)), (0, vR (some 83)), (1, vI x1), (2, vI x2), (5, vI x5), (6, vI x6), (7, vL x7), (9, vI x9)]) dX3_isOutdone_36 rfl (Nat.le_of_ble_eq_true rfl) rfl ?_
    refine g_aload_n (pc' := 39) 1 dX3_isOutdone_38 rfl rfl ?_
    refine g_getR (pc' := 42) (o := some 51) fl_X3_39 rfl rfl rfl dX3_isOutdone_39 rfl ?_
    refine g_getR (pc' := 45) (o := some 53) fl_X3_85 rfl rfl rfl dX3_isOutdone_42 rfl ?_
    refine g_iload (pc' := 47) 5 dX3_isOutdone_45 rfl rfl ?_
    refine g_iald (pc' := 48) (N := 30) rfl rfl (Nat.lt_of_lt_of_le (Nat.lt_succ_self _) (Nat.le_of_ble_eq_true rfl)) ob4 dX3_isOutdone_47 rfl (fun rg5 => ?_)
    refine g_aload_n (pc' := 49) 1 dX3_isOutdone_48 rfl rfl ?_
    refine g_getR (pc' := 52) (o := some 51) fl_X3_39 rfl rfl rfl dX3_isOutdone_49 rfl ?_
    refine g_getR (pc' := 55) (o := some 53) fl_X3_85 rfl rfl rfl dX3_isOutdone_52 rfl ?_
    refine g_iload (pc' := 57) 0 dX3_isOutdone_55 rfl rfl ?_
    refine g_iald (pc' := 58) (N := 30) rfl rfl (Nat.lt_of_lt_of_le (Nat.lt_succ_self _) (Nat.le_of_ble_eq_true rfl)) ob6 dX3_isOutdone_57 rfl (fun rg7 => ?_)
    refine g_isub (pc' := 59) dX3_isOutdone_58 rfl ?_
    refine g_istore (pc' := 61) (L' := [(11, vI ((i 53 x6) - (i 53 ((x1 * 3) + x9)))), (10, vI ((x1 * 3) + x9)), (0, vR (some 83)), (1, vI x1), (2, vI x2), (5, vI x5), (6, vI x6), (7, vL x7), (9, vI x9)]) dX3_isOutdone_59 rfl (Nat.le_of_ble_eq_true rfl) rfl ?_
    refine g_aload_n (pc' := 62) 2 dX3_isOutdone_61 rfl rfl ?_
    refine g_getR (pc' := 65) (o := some 51) fl_X3_39 rfl rfl rfl dX3_isOutdone_62 rfl ?_
    refine g_getR (pc' := 68) (o := some 52) fl_X3_88 rfl rfl rfl dX3_isOutdone_65 rfl ?_
    refine g_iload_n (pc' := 69) 3 dX3_isOutdone_68 rfl rfl ?_
    refine g_iald (pc' := 70) (N := 10) rfl rfl (Nat.lt_of_lt_of_le (Nat.lt_succ_self _) (Nat.le_of_ble_eq_true rfl)) ob8 dX3_isOutdone_69 rfl (fun rg9 => ?_)
    refine g_iload (pc' := 72) 8 dX3_isOutdone_70 rfl rfl ?_
    refine g_ishr (pc' := 73) dX3_isOutdone_72 rfl ?_
    refine g_iconst (pc' := 74) dX3_isOutdone_73 rfl ?_
    refine g_iand (pc' := 75) dX3_isOutdone_74 rfl ?_
    refine g_iconst (pc' := 76) dX3_isOutdone_75 rfl ?_
    obtain ⟨hob12, hob15, hob16, hk18, hk19⟩ := h
    have hk18g : ((iand (ishr (i 52 x1) x9) 1 = 1) ∧ ((0 < (i 53 x6) - (i 53 ((x1 * 3) + x9))) ∨ (((i 53 x6) - (i 53 ((x1 * 3) + x9)) = 0) ∧ (¬ (x2 ≤ x9))))) → gI w d X_X3_isOutdone P i l 95 [(11, vI ((i 53 x6) - (i 53 ((x1 * 3) + x9)))), (10, vI ((x1 * 3) + x9)), (0, vR (some 83)), (1, vI x1), (2, vI x2), (5, vI x5), (6, vI x6), (7, vL x7), (9, vI x9)] [] := by
      intro hp
      have h := hk18 hp
      refine g_sub (L' := [(0, vR (some 83)), (1, vI x1), (2, vI x2), (5, vI x5), (6, vI x6), (7, vL x7), (9, vI x9), (10, vI ((x1 * 3) + x9))]) [2, 3, 4, 5, 6, 7, 8, 1] rfl ?_
      exact h
    have hk19g : (¬ ((iand (ishr (i 52 x1) x9) 1 = 1) ∧ ((0 < (i 53 x6) - (i 53 ((x1 * 3) + x9))) ∨ (((i 53 x6) - (i 53 ((x1 * 3) + x9)) = 0) ∧ (¬ (x2 ≤ x9)))))) → gI w d X_X3_isOutdone P i l 123 [(11, vI ((i 53 x6) - (i 53 ((x1 * 3) + x9)))), (10, vI ((x1 * 3) + x9)), (0, vR (some 83)), (1, vI x1), (2, vI x2), (5, vI x5), (6, vI x6), (7, vL x7), (9, vI x9)] [] := by
      intro hp
      have h := hk19 hp
      refine g_iinc (pc' := 126) (L' := [(9, vI (x9 + 1)), (11, vI ((i 53 x6) - (i 53 ((x1 * 3) + x9)))), (10, vI ((x1 * 3) + x9)), (0, vR (some 83)), (1, vI x1), (2, vI x2), (5, vI x5), (6, vI x6), (7, vL x7)]) 8 dX3_isOutdone_123 rfl (Nat.le_of_ble_eq_true rfl) rfl rfl ?_
      refine g_goto (tgt := 24) dX3_isOutdone_126 rfl ?_
      refine g_sub (L' := [(0, vR (some 83)), (1, vI x1), (2, vI x2), (5, vI x5), (6, vI x6), (7, vL x7), (9, vI (x9 + 1))]) [3, 4, 5, 6, 7, 8, 0] rfl ?_
      exact h
    refine g_icmp_ne (tgt := 123) (pc' := 79) (rg_iand _ _) (rg_lit rfl) Iff.rfl dX3_isOutdone_76 rfl rfl (fun c11 => ?_) (fun c11 => ?_)
    · exact hk19g (fun q => c11 q.1)
    · refine g_iload (pc' := 81) 0 dX3_isOutdone_79 rfl rfl ?_
      refine g_if_gt (tgt := 95) (pc' := 84) (hob12 c11) Iff.rfl dX3_isOutdone_81 rfl rfl (fun c13 => ?_) (fun c13 => ?_)
      · exact hk18g ⟨c11, (Or.inl c13)⟩
      · refine g_iload (pc' := 86) 0 dX3_isOutdone_84 rfl rfl ?_
        refine g_if_ne (tgt := 123) (pc' := 89) (hob12 c11) Iff.rfl dX3_isOutdone_86 rfl rfl (fun c14 => ?_) (fun c14 => ?_)
        · exact hk19g (fun q => (fun q => q.elim c13 (fun q => c14 q.1)) q.2)
        · refine g_iload (pc' := 91) 8 dX3_isOutdone_89 rfl rfl ?_
          refine g_iload_n (pc' := 92) 4 dX3_isOutdone_91 rfl rfl ?_
          refine g_icmp_ge (tgt := 123) (pc' := 95) (hob15 c11 c13 c14) (hob16 c11 c13 c14) Iff.rfl dX3_isOutdone_92 rfl rfl (fun c17 => ?_) (fun c17 => ?_)
          · exact hk19g (fun q => (fun q => q.elim c13 (fun q => (fun q => q c17) q.2)) q.2)
          · exact hk18g ⟨c11, (Or.inr ⟨c14, c17⟩)⟩
set_option maxRecDepth 20000 in
theorem s_X3_isOutdone_95 {w : Wd} {d : Nat} {P : Int → IM → LM → Prop} {i : IM} {l : LM} (x1 : Int) (x2 : Int) (x5 : Int) (x6 : Int) (x7 : Int64) (x9 : Int) (x10 : Int)  (h : cI w d X_X1_showsNoMore [vR (some 51), vI x10, vI x6, vR (some 84), vI (x1 * 12), vI x5, vL x7] i l (fun r22 i22 l22 => (((r22 = 0) → gI w d X_X3_isOutdone P i22 l22 24 [(0, vR (some 83)), (1, vI x1), (2, vI x2), (5, vI x5), (6, vI x6), (7, vL x7), (9, vI (x9 + 1))] []) ∧ ((¬ (r22 = 0)) → P 1 i22 l22)))) : gI w d X_X3_isOutdone P i l 95 [(0, vR (some 83)), (1, vI x1), (2, vI x2), (5, vI x5), (6, vI x6), (7, vL x7), (9, vI x9), (10, vI x10)] [] := by
  refine g_aload_n (pc' := 96) 0 dX3_isOutdone_95 rfl rfl ?_
  refine g_getR (pc' := 99) (o := some 51) fl_X3_39 rfl rfl rfl dX3_isOutdone_96 rfl ?_
  refine g_iload (pc' := 101) 7 dX3_isOutdone_99 rfl rfl ?_
  refine g_iload (pc' := 103) 4 dX3_isOutdone_101 rfl rfl ?_
  refine g_aload_n (pc' := 104) 0 dX3_isOutdone_103 rfl rfl ?_
  refine g_getR (pc' := 107) (o := some 84) fl_X3_9 rfl rfl rfl dX3_isOutdone_104 rfl ?_
  refine g_iload_n (pc' := 108) 1 dX3_isOutdone_107 rfl rfl ?_
  refine g_bipush (pc' := 110) dX3_isOutdone_108 rfl rfl ?_
  refine g_imul (pc' := 111) dX3_isOutdone_110 rfl ?_
  refine g_iload (pc' := 113) 3 dX3_isOutdone_111 rfl rfl ?_
  refine g_lload (pc' := 115) 5 dX3_isOutdone_113 rfl rfl ?_
  refine g_cVI (pc' := 118) (vs := [vI x10, vI x6, vR (some 84), vI (x1 * 12), vI x5, vL x7]) (st := []) (c := 1) h mv_X1_showsNoMore lk_X3_106 rfl rfl rfl rfl (Nat.le_of_ble_eq_true rfl) (Nat.le_of_ble_eq_true rfl) rfl dX3_isOutdone_115 rfl z2 (fun r22 i22 l22 rg22 h => ?_)
  obtain ⟨hk25, hk26⟩ := h
  refine g_if_eq (tgt := 123) (pc' := 121) rg22 Iff.rfl dX3_isOutdone_118 rfl rfl (fun c24 => ?_) (fun c24 => ?_)
  · have h := hk25 c24
    refine g_iinc (pc' := 126) (L' := [(9, vI (x9 + 1)), (0, vR (some 83)), (1, vI x1), (2, vI x2), (5, vI x5), (6, vI x6), (7, vL x7), (10, vI x10)]) 6 dX3_isOutdone_123 rfl (Nat.le_of_ble_eq_true rfl) rfl rfl ?_
    refine g_goto (tgt := 24) dX3_isOutdone_126 rfl ?_
    refine g_sub (L' := [(0, vR (some 83)), (1, vI x1), (2, vI x2), (5, vI x5), (6, vI x6), (7, vL x7), (9, vI (x9 + 1))]) [1, 2, 3, 4, 5, 6, 0] rfl ?_
    exact h
  · have h := hk26 c24
    refine g_iconst (pc' := 122) dX3_isOutdone_121 rfl ?_
    exact g_retZ rfl (by decide) dX3_isOutdone_122 h

theorem dX3_look_0 : decode cX3_look 0 = .ok (.lconst 0, 1) := by decide +kernel
theorem dX3_look_1 : decode cX3_look 1 = .ok (.lstore 4, 2) := by decide +kernel
theorem dX3_look_3 : decode cX3_look 3 = .ok (.iconst 0, 1) := by decide +kernel
theorem dX3_look_4 : decode cX3_look 4 = .ok (.istore 6, 2) := by decide +kernel
theorem dX3_look_6 : decode cX3_look 6 = .ok (.iload 6, 2) := by decide +kernel
theorem dX3_look_8 : decode cX3_look 8 = .ok (.aload_n 0, 1) := by decide +kernel
theorem dX3_look_9 : decode cX3_look 9 = .ok (.getfield 39, 3) := by decide +kernel
theorem dX3_look_12 : decode cX3_look 12 = .ok (.getfield 57, 3) := by decide +kernel
theorem dX3_look_15 : decode cX3_look 15 = .ok (.if_icmp .ge 87, 3) := by decide +kernel
theorem dX3_look_18 : decode cX3_look 18 = .ok (.iload_n 3, 1) := by decide +kernel
theorem dX3_look_19 : decode cX3_look 19 = .ok (.iload 6, 2) := by decide +kernel
theorem dX3_look_21 : decode cX3_look 21 = .ok (.ishr, 1) := by decide +kernel
theorem dX3_look_22 : decode cX3_look 22 = .ok (.iconst 1, 1) := by decide +kernel
theorem dX3_look_23 : decode cX3_look 23 = .ok (.iand, 1) := by decide +kernel
theorem dX3_look_24 : decode cX3_look 24 = .ok (.iconst 1, 1) := by decide +kernel
theorem dX3_look_25 : decode cX3_look 25 = .ok (.if_icmp .ne 71, 3) := by decide +kernel
theorem dX3_look_28 : decode cX3_look 28 = .ok (.aload_n 0, 1) := by decide +kernel
theorem dX3_look_29 : decode cX3_look 29 = .ok (.getfield 9, 3) := by decide +kernel
theorem dX3_look_32 : decode cX3_look 32 = .ok (.iload_n 1, 1) := by decide +kernel
theorem dX3_look_33 : decode cX3_look 33 = .ok (.bipush 12, 2) := by decide +kernel
theorem dX3_look_35 : decode cX3_look 35 = .ok (.imul, 1) := by decide +kernel
theorem dX3_look_36 : decode cX3_look 36 = .ok (.iload 6, 2) := by decide +kernel
theorem dX3_look_38 : decode cX3_look 38 = .ok (.iadd, 1) := by decide +kernel
theorem dX3_look_39 : decode cX3_look 39 = .ok (.laload, 1) := by decide +kernel
theorem dX3_look_40 : decode cX3_look 40 = .ok (.aload_n 0, 1) := by decide +kernel
theorem dX3_look_41 : decode cX3_look 41 = .ok (.getfield 39, 3) := by decide +kernel
theorem dX3_look_44 : decode cX3_look 44 = .ok (.getfield 110, 3) := by decide +kernel
theorem dX3_look_47 : decode cX3_look 47 = .ok (.iload_n 2, 1) := by decide +kernel
theorem dX3_look_48 : decode cX3_look 48 = .ok (.bipush 12, 2) := by decide +kernel
theorem dX3_look_50 : decode cX3_look 50 = .ok (.imul, 1) := by decide +kernel
theorem dX3_look_51 : decode cX3_look 51 = .ok (.iload 6, 2) := by decide +kernel
theorem dX3_look_53 : decode cX3_look 53 = .ok (.iadd, 1) := by decide +kernel
theorem dX3_look_54 : decode cX3_look 54 = .ok (.laload, 1) := by decide +kernel
theorem dX3_look_55 : decode cX3_look 55 = .ok (.lor, 1) := by decide +kernel
theorem dX3_look_56 : decode cX3_look 56 = .ok (.lstore 7, 2) := by decide +kernel
theorem dX3_look_58 : decode cX3_look 58 = .ok (.aload_n 0, 1) := by decide +kernel
theorem dX3_look_59 : decode cX3_look 59 = .ok (.getfield 9, 3) := by decide +kernel
theorem dX3_look_62 : decode cX3_look 62 = .ok (.iload_n 1, 1) := by decide +kernel
theorem dX3_look_63 : decode cX3_look 63 = .ok (.iconst 1, 1) := by decide +kernel
theorem dX3_look_64 : decode cX3_look 64 = .ok (.iadd, 1) := by decide +kernel
theorem dX3_look_65 : decode cX3_look 65 = .ok (.bipush 12, 2) := by decide +kernel
theorem dX3_look_67 : decode cX3_look 67 = .ok (.imul, 1) := by decide +kernel
theorem dX3_look_68 : decode cX3_look 68 = .ok (.iload 6, 2) := by decide +kernel
theorem dX3_look_70 : decode cX3_look 70 = .ok (.iadd, 1) := by decide +kernel
theorem dX3_look_71 : decode cX3_look 71 = .ok (.lload 7, 2) := by decide +kernel
theorem dX3_look_73 : decode cX3_look 73 = .ok (.lastore, 1) := by decide +kernel
theorem dX3_look_74 : decode cX3_look 74 = .ok (.lload 4, 2) := by decide +kernel
theorem dX3_look_76 : decode cX3_look 76 = .ok (.lload 7, 2) := by decide +kernel
theorem dX3_look_78 : decode cX3_look 78 = .ok (.invokestatic 113, 3) := by decide +kernel
theorem dX3_look_81 : decode cX3_look 81 = .ok (.aload_n 0, 1) := by decide +kernel
theorem dX3_look_82 : decode cX3_look 82 = .ok (.getfield 15, 3) := by decide +kernel
theorem dX3_look_85 : decode cX3_look 85 = .ok (.iload 6, 2) := by decide +kernel
theorem dX3_look_87 : decode cX3_look 87 = .ok (.laload, 1) := by decide +kernel
theorem dX3_look_88 : decode cX3_look 88 = .ok (.ladd, 1) := by decide +kernel
theorem dX3_look_89 : decode cX3_look 89 = .ok (.ldc2_w 117, 3) := by decide +kernel
theorem dX3_look_92 : decode cX3_look 92 = .ok (.land, 1) := by decide +kernel
theorem dX3_look_93 : decode cX3_look 93 = .ok (.lor, 1) := by decide +kernel
theorem dX3_look_94 : decode cX3_look 94 = .ok (.lstore 4, 2) := by decide +kernel
theorem dX3_look_96 : decode cX3_look 96 = .ok (.iinc 6 1, 3) := by decide +kernel
theorem dX3_look_99 : decode cX3_look 99 = .ok (.goto (-93), 3) := by decide +kernel
theorem dX3_look_102 : decode cX3_look 102 = .ok (.lload 4, 2) := by decide +kernel
theorem dX3_look_104 : decode cX3_look 104 = .ok (.lreturn, 1) := by decide +kernel
set_option maxRecDepth 20000 in
theorem s_X3_look {w : Wd} {d : Nat} {P : Int64 → IM → LM → Prop} {i : IM} {l : LM} (p0 : Int) (p1 : Int) (p2 : Int)  (h : gLg w d X_X3_look P i l 6 [(0, vR (some 83)), (1, vI p0), (2, vI p1), (3, vI p2), (4, vL 0), (6, vI 0)] []) : gLg w d X_X3_look P i l 0 [(0, vR (some 83)), (1, vI p0), (2, vI p1), (3, vI p2)] [] := by
  refine g_lconst (pc' := 1) (v := 0) dX3_look_0 rfl rfl ?_
  refine g_lstore (pc' := 3) (L' := [(4, vL 0), (0, vR (some 83)), (1, vI p0), (2, vI p1), (3, vI p2)]) dX3_look_1 rfl (Nat.le_of_ble_eq_true rfl) rfl ?_
  refine g_iconst (pc' := 4) dX3_look_3 rfl ?_
  refine g_istore (pc' := 6) (L' := [(6, vI 0), (4, vL 0), (0, vR (some 83)), (1, vI p0), (2, vI p1), (3, vI p2)]) dX3_look_4 rfl (Nat.le_of_ble_eq_true rfl) rfl ?_
  refine g_sub (L' := [(0, vR (some 83)), (1, vI p0), (2, vI p1), (3, vI p2), (4, vL 0), (6, vI 0)]) [2, 3, 4, 5, 1, 0] rfl ?_
  exact h
theorem e_X3_look {w : Wd} {d : Nat} {P : Int64 → IM → LM → Prop} {i : IM} {l : LM} {p0 : Int} {p1 : Int} {p2 : Int}  (h : gLg w d X_X3_look P i l 0 [(0, vR (some 83)), (1, vI p0), (2, vI p1), (3, vI p2)] []) : cL w (d + 1) X_X3_look [vR (some 83), vI p0, vI p1, vI p2] i l P := CL_of (by decide +kernel) (Nat.le_of_ble_eq_true rfl) h
set_option maxRecDepth 20000 in
theorem s_X3_look_6 {w : Wd} {d : Nat} {P : Int64 → IM → LM → Prop} {i : IM} {l : LM} (x1 : Int) (x2 : Int) (x3 : Int) (x4 : Int64) (x6 : Int)  (hd : 1 ≤ d) (h : ((rg x6) ∧ ((i 51 13 ≤ x6) → P x4 i l) ∧ ((¬ (i 51 13 ≤ x6) ∧ (¬ (iand (ishr x3 x6) 1 = 1))) → gLg w d X_X3_look P i l 6 [(0, vR (some 83)), (1, vI x1), (2, vI x2), (3, vI x3), (4, vL x4), (6, vI (x6 + 1))] []) ∧ ((¬ (i 51 13 ≤ x6) ∧ (iand (ishr x3 x6) 1 = 1)) → ((0 ≤ (x1 * 12) + x6 ∧ (x1 * 12) + x6 < 132) ∧ (0 ≤ (x2 * 12) + x6 ∧ (x2 * 12) + x6 < 360) ∧ (0 ≤ ((x1 + 1) * 12) + x6 ∧ ((x1 + 1) * 12) + x6 < 132) ∧ (0 ≤ x6 ∧ x6 < 12) ∧ gLg w d X_X3_look P i (u2l l 84 (((x1 + 1) * 12) + x6) ((l 84 ((x1 * 12) + x6)) ||| (l 56 ((x2 * 12) + x6)))) 6 [(0, vR (some 83)), (1, vI x1), (2, vI x2), (3, vI x3), (4, vL (x4 ||| (((cntL ((l 84 ((x1 * 12) + x6)) ||| (l 56 ((x2 * 12) + x6)))) + ((u2l l 84 (((x1 + 1) * 12) + x6) ((l 84 ((x1 * 12) + x6)) ||| (l 56 ((x2 * 12) + x6)))) 85 x6)) &&& (-9187201950435737472)))), (6, vI (x6 + 1))] [])))) : gLg w d X_X3_look P i l 6 [(0, vR (some 83)), (1, vI x1), (2, vI x2), (3, vI x3), (4, vL x4), (6, vI x6)] [] := by
  refine g_iload (pc' := 8) 5 dX3_look_6 rfl rfl ?_
  refine g_aload_n (pc' := 9) 0 dX3_look_8 rfl rfl ?_
  refine g_getR (pc' := 12) (o := some 51) fl_X3_39 rfl rfl rfl dX3_look_9 rfl ?_
  refine g_getI (pc' := 15) (z := 13) rfl fl_X3_57 rfl rfl dX3_look_12 rfl (fun rg1 => ?_)
  obtain ⟨hob3, hk13, hk14, hk15⟩ := h
  have hk13g : (i 51 13 ≤ x6) → gLg w d X_X3_look P i l 102 [(0, vR (some 83)), (1, vI x1), (2, vI x2), (3, vI x3), (4, vL x4), (6, vI x6)] [] := by
    intro hp
    have h := hk13 hp
    refine g_lload (pc' := 104) 4 dX3_look_102 rfl rfl ?_
    exact g_retL rfl dX3_look_104 h
  have hk14g : (¬ (i 51 13 ≤ x6) ∧ (¬ (iand (ishr x3 x6) 1 = 1))) → gLg w d X_X3_look P i l 96 [(0, vR (some 83)), (1, vI x1), (2, vI x2), (3, vI x3), (4, vL x4), (6, vI x6)] [] := by
    intro hp
    have h := hk14 hp
    refine g_iinc (pc' := 99) (L' := [(6, vI (x6 + 1)), (0, vR (some 83)), (1, vI x1), (2, vI x2), (3, vI x3), (4, vL x4)]) 5 dX3_look_96 rfl (Nat.le_of_ble_eq_true rfl) rfl rfl ?_
    refine g_goto (tgt := 6) dX3_look_99 rfl ?_
    refine g_sub (L' := [(0, vR (some 83)), (1, vI x1), (2, vI x2), (3, vI x3), (4, vL x4), (6, vI (x6 + 1))]) [1, 2, 3, 4, 5, 0] rfl ?_
    exact h
  have hk15g : (¬ (i 51 13 ≤ x6) ∧ (iand (ishr x3 x6) 1 = 1)) → gLg w d X_X3_look P i l 28 [(0, vR (some 83)), (1, vI x1), (2, vI x2), (3, vI x3), (4, vL x4), (6, vI x6)] [] := by
    intro hp
    have h := hk15 hp
    obtain ⟨ob8, ob9, ob10, ob12, h⟩ := h
    refine g_aload_n (pc' := 29) 0 dX3_look_28 rfl rfl ?_
    refine g_getR (pc' := 32) (o := some 84) fl_X3_9 rfl rfl rfl dX3_look_29 rfl ?_
    refine g_iload_n (pc' := 33) 1 dX3_look_32 rfl rfl ?_
    refine g_bipush (pc' := 35) dX3_look_33 rfl rfl ?_
    refine g_imul (pc' := 36) dX3_look_35 rfl ?_
    refine g_iload (pc' := 38) 5 dX3_look_36 rfl rfl ?_
    refine g_iadd (pc' := 39) dX3_look_38 rfl ?_
    refine g_lald (pc' := 40) (N := 132) rfl rfl (Nat.lt_of_lt_of_le (Nat.lt_succ_self _) (Nat.le_of_ble_eq_true rfl)) ob8 dX3_look_39 rfl ?_
    refine g_aload_n (pc' := 41) 0 dX3_look_40 rfl rfl ?_
    refine g_getR (pc' := 44) (o := some 51) fl_X3_39 rfl rfl rfl dX3_look_41 rfl ?_
    refine g_getR (pc' := 47) (o := some 56) fl_X3_110 rfl rfl rfl dX3_look_44 rfl ?_
    refine g_iload_n (pc' := 48) 2 dX3_look_47 rfl rfl ?_
    refine g_bipush (pc' := 50) dX3_look_48 rfl rfl ?_
    refine g_imul (pc' := 51) dX3_look_50 rfl ?_
    refine g_iload (pc' := 53) 5 dX3_look_51 rfl rfl ?_
    refine g_iadd (pc' := 54) dX3_look_53 rfl ?_
    refine g_lald (pc' := 55) (N := 360) rfl rfl (Nat.lt_of_lt_of_le (Nat.lt_succ_self _) (Nat.le_of_ble_eq_true rfl)) ob9 dX3_look_54 rfl ?_
    refine g_lor (pc' := 56) dX3_look_55 rfl ?_
    refine g_lstore (pc' := 58) (L' := [(7, vL ((l 84 ((x1 * 12) + x6)) ||| (l 56 ((x2 * 12) + x6)))), (0, vR (some 83)), (1, vI x1), (2, vI x2), (3, vI x3), (4, vL x4), (6, vI x6)]) dX3_look_56 rfl (Nat.le_of_ble_eq_true rfl) rfl ?_
    refine g_aload_n (pc' := 59) 1 dX3_look_58 rfl rfl ?_
    refine g_getR (pc' := 62) (o := some 84) fl_X3_9 rfl rfl rfl dX3_look_59 rfl ?_
    refine g_iload_n (pc' := 63) 2 dX3_look_62 rfl rfl ?_
    refine g_iconst (pc' := 64) dX3_look_63 rfl ?_
    refine g_iadd (pc' := 65) dX3_look_64 rfl ?_
    refine g_bipush (pc' := 67) dX3_look_65 rfl rfl ?_
    refine g_imul (pc' := 68) dX3_look_67 rfl ?_
    refine g_iload (pc' := 70) 6 dX3_look_68 rfl rfl ?_
    refine g_iadd (pc' := 71) dX3_look_70 rfl ?_
    refine g_lload (pc' := 73) 0 dX3_look_71 rfl rfl ?_
    refine g_last (pc' := 74) (N := 132) rfl rfl (Nat.lt_of_lt_of_le (Nat.lt_succ_self _) (Nat.le_of_ble_eq_true rfl)) ob10 dX3_look_73 rfl ?_
    refine g_lload (pc' := 76) 5 dX3_look_74 rfl rfl ?_
    refine g_lload (pc' := 78) 0 dX3_look_76 rfl rfl ?_
    refine g_pSL (pc' := 81) (vs := [vL ((l 84 ((x1 * 12) + x6)) ||| (l 56 ((x2 * 12) + x6)))]) (st := [vL x4]) (val := cntL ((l 84 ((x1 * 12) + x6)) ||| (l 56 ((x2 * 12) + x6)))) (sp_X1_counted (le_hd hd rfl) ) mk_X1_counted ms_X1_counted lk_X3_113 rfl (Nat.le_of_ble_eq_true rfl) (Nat.le_of_ble_eq_true rfl) rfl dX3_look_78 rfl z2 ?_
    refine g_aload_n (pc' := 82) 1 dX3_look_81 rfl rfl ?_
    refine g_getR (pc' := 85) (o := some 85) fl_X3_15 rfl rfl rfl dX3_look_82 rfl ?_
    refine g_iload (pc' := 87) 6 dX3_look_85 rfl rfl ?_
    refine g_lald (pc' := 88) (N := 12) rfl rfl (Nat.lt_of_lt_of_le (Nat.lt_succ_self _) (Nat.le_of_ble_eq_true rfl)) ob12 dX3_look_87 rfl ?_
    refine g_ladd (pc' := 89) dX3_look_88 rfl ?_
    refine g_ldc2 (pc' := 92) dX3_look_89 rfl kl_X3_117 ?_
    refine g_land (pc' := 93) dX3_look_92 rfl ?_
    refine g_lor (pc' := 94) dX3_look_93 rfl ?_
    refine g_lstore (pc' := 96) (L' := [(4, vL (x4 ||| (((cntL ((l 84 ((x1 * 12) + x6)) ||| (l 56 ((x2 * 12) + x6)))) + ((u2l l 84 (((x1 + 1) * 12) + x6) ((l 84 ((x1 * 12) + x6)) ||| (l 56 ((x2 * 12) + x6)))) 85 x6)) &&& (-9187201950435737472)))), (7, vL ((l 84 ((x1 * 12) + x6)) ||| (l 56 ((x2 * 12) + x6)))), (0, vR (some 83)), (1, vI x1), (2, vI x2), (3, vI x3), (6, vI x6)]) dX3_look_94 rfl (Nat.le_of_ble_eq_true rfl) rfl ?_
    refine g_iinc (pc' := 99) (L' := [(6, vI (x6 + 1)), (4, vL (x4 ||| (((cntL ((l 84 ((x1 * 12) + x6)) ||| (l 56 ((x2 * 12) + x6)))) + ((u2l l 84 (((x1 + 1) * 12) + x6) ((l 84 ((x1 * 12) + x6)) ||| (l 56 ((x2 * 12) + x6)))) 85 x6)) &&& (-9187201950435737472)))), (7, vL ((l 84 ((x1 * 12) + x6)) ||| (l 56 ((x2 * 12) + x6)))), (0, vR (some 83)), (1, vI x1), (2, vI x2), (3, vI x3)]) 6 dX3_look_96 rfl (Nat.le_of_ble_eq_true rfl) rfl rfl ?_
    refine g_goto (tgt := 6) dX3_look_99 rfl ?_
    refine g_sub (L' := [(0, vR (some 83)), (1, vI x1), (2, vI x2), (3, vI x3), (4, vL (x4 ||| (((cntL ((l 84 ((x1 * 12) + x6)) ||| (l 56 ((x2 * 12) + x6)))) + ((u2l l 84 (((x1 + 1) * 12) + x6) ((l 84 ((x1 * 12) + x6)) ||| (l 56 ((x2 * 12) + x6)))) 85 x6)) &&& (-9187201950435737472)))), (6, vI (x6 + 1))]) [3, 4, 5, 6, 1, 0] rfl ?_
    exact h
  refine g_icmp_ge (tgt := 102) (pc' := 18) (hob3) rg1 Iff.rfl dX3_look_15 rfl rfl (fun c4 => ?_) (fun c4 => ?_)
  · exact hk13g c4
  · refine g_iload_n (pc' := 19) 3 dX3_look_18 rfl rfl ?_
    refine g_iload (pc' := 21) 5 dX3_look_19 rfl rfl ?_
    refine g_ishr (pc' := 22) dX3_look_21 rfl ?_
    refine g_iconst (pc' := 23) dX3_look_22 rfl ?_
    refine g_iand (pc' := 24) dX3_look_23 rfl ?_
    refine g_iconst (pc' := 25) dX3_look_24 rfl ?_
    refine g_icmp_ne (tgt := 96) (pc' := 28) (rg_iand _ _) (rg_lit rfl) Iff.rfl dX3_look_25 rfl rfl (fun c5 => ?_) (fun c5 => ?_)
    · exact hk14g ⟨c4, c5⟩
    · exact hk15g ⟨c4, c5⟩

theorem dX3_stillOpen_0 : decode cX3_stillOpen 0 = .ok (.iconst 0, 1) := by decide +kernel
theorem dX3_stillOpen_1 : decode cX3_stillOpen 1 = .ok (.istore 5, 2) := by decide +kernel
theorem dX3_stillOpen_3 : decode cX3_stillOpen 3 = .ok (.iconst 0, 1) := by decide +kernel
theorem dX3_stillOpen_4 : decode cX3_stillOpen 4 = .ok (.istore 6, 2) := by decide +kernel
theorem dX3_stillOpen_6 : decode cX3_stillOpen 6 = .ok (.iload 6, 2) := by decide +kernel
theorem dX3_stillOpen_8 : decode cX3_stillOpen 8 = .ok (.aload_n 0, 1) := by decide +kernel
theorem dX3_stillOpen_9 : decode cX3_stillOpen 9 = .ok (.getfield 39, 3) := by decide +kernel
theorem dX3_stillOpen_12 : decode cX3_stillOpen 12 = .ok (.getfield 57, 3) := by decide +kernel
theorem dX3_stillOpen_15 : decode cX3_stillOpen 15 = .ok (.if_icmp .ge 94, 3) := by decide +kernel
theorem dX3_stillOpen_18 : decode cX3_stillOpen 18 = .ok (.iload 4, 2) := by decide +kernel
theorem dX3_stillOpen_20 : decode cX3_stillOpen 20 = .ok (.iload 6, 2) := by decide +kernel
theorem dX3_stillOpen_22 : decode cX3_stillOpen 22 = .ok (.ishr, 1) := by decide +kernel
theorem dX3_stillOpen_23 : decode cX3_stillOpen 23 = .ok (.iconst 1, 1) := by decide +kernel
theorem dX3_stillOpen_24 : decode cX3_stillOpen 24 = .ok (.iand, 1) := by decide +kernel
theorem dX3_stillOpen_25 : decode cX3_stillOpen 25 = .ok (.iconst 1, 1) := by decide +kernel
theorem dX3_stillOpen_26 : decode cX3_stillOpen 26 = .ok (.if_icmp .ne 77, 3) := by decide +kernel
theorem dX3_stillOpen_29 : decode cX3_stillOpen 29 = .ok (.iload_n 1, 1) := by decide +kernel
theorem dX3_stillOpen_30 : decode cX3_stillOpen 30 = .ok (.bipush 12, 2) := by decide +kernel
theorem dX3_stillOpen_32 : decode cX3_stillOpen 32 = .ok (.imul, 1) := by decide +kernel
theorem dX3_stillOpen_33 : decode cX3_stillOpen 33 = .ok (.iload 6, 2) := by decide +kernel
theorem dX3_stillOpen_35 : decode cX3_stillOpen 35 = .ok (.iadd, 1) := by decide +kernel
theorem dX3_stillOpen_36 : decode cX3_stillOpen 36 = .ok (.istore 7, 2) := by decide +kernel
theorem dX3_stillOpen_38 : decode cX3_stillOpen 38 = .ok (.aload_n 0, 1) := by decide +kernel
theorem dX3_stillOpen_39 : decode cX3_stillOpen 39 = .ok (.getfield 9, 3) := by decide +kernel
theorem dX3_stillOpen_42 : decode cX3_stillOpen 42 = .ok (.iload 7, 2) := by decide +kernel
theorem dX3_stillOpen_44 : decode cX3_stillOpen 44 = .ok (.laload, 1) := by decide +kernel
theorem dX3_stillOpen_45 : decode cX3_stillOpen 45 = .ok (.invokestatic 113, 3) := by decide +kernel
theorem dX3_stillOpen_48 : decode cX3_stillOpen 48 = .ok (.aload_n 0, 1) := by decide +kernel
theorem dX3_stillOpen_49 : decode cX3_stillOpen 49 = .ok (.getfield 15, 3) := by decide +kernel
theorem dX3_stillOpen_52 : decode cX3_stillOpen 52 = .ok (.iload 6, 2) := by decide +kernel
theorem dX3_stillOpen_54 : decode cX3_stillOpen 54 = .ok (.laload, 1) := by decide +kernel
theorem dX3_stillOpen_55 : decode cX3_stillOpen 55 = .ok (.ladd, 1) := by decide +kernel
theorem dX3_stillOpen_56 : decode cX3_stillOpen 56 = .ok (.lstore 8, 2) := by decide +kernel
theorem dX3_stillOpen_58 : decode cX3_stillOpen 58 = .ok (.aload_n 0, 1) := by decide +kernel
theorem dX3_stillOpen_59 : decode cX3_stillOpen 59 = .ok (.getfield 39, 3) := by decide +kernel
theorem dX3_stillOpen_62 : decode cX3_stillOpen 62 = .ok (.iload 7, 2) := by decide +kernel
theorem dX3_stillOpen_64 : decode cX3_stillOpen 64 = .ok (.aload_n 0, 1) := by decide +kernel
theorem dX3_stillOpen_65 : decode cX3_stillOpen 65 = .ok (.getfield 9, 3) := by decide +kernel
theorem dX3_stillOpen_68 : decode cX3_stillOpen 68 = .ok (.iload 7, 2) := by decide +kernel
theorem dX3_stillOpen_70 : decode cX3_stillOpen 70 = .ok (.laload, 1) := by decide +kernel
theorem dX3_stillOpen_71 : decode cX3_stillOpen 71 = .ok (.lload 8, 2) := by decide +kernel
theorem dX3_stillOpen_73 : decode cX3_stillOpen 73 = .ok (.aload_n 0, 1) := by decide +kernel
theorem dX3_stillOpen_74 : decode cX3_stillOpen 74 = .ok (.getfield 15, 3) := by decide +kernel
theorem dX3_stillOpen_77 : decode cX3_stillOpen 77 = .ok (.iload 6, 2) := by decide +kernel
theorem dX3_stillOpen_79 : decode cX3_stillOpen 79 = .ok (.laload, 1) := by decide +kernel
theorem dX3_stillOpen_80 : decode cX3_stillOpen 80 = .ok (.invokevirtual 119, 3) := by decide +kernel
theorem dX3_stillOpen_83 : decode cX3_stillOpen 83 = .ok (.lload_n 2, 1) := by decide +kernel
theorem dX3_stillOpen_84 : decode cX3_stillOpen 84 = .ok (.ldc2_w 104, 3) := by decide +kernel
theorem dX3_stillOpen_87 : decode cX3_stillOpen 87 = .ok (.lxor, 1) := by decide +kernel
theorem dX3_stillOpen_88 : decode cX3_stillOpen 88 = .ok (.land, 1) := by decide +kernel
theorem dX3_stillOpen_89 : decode cX3_stillOpen 89 = .ok (.lconst 0, 1) := by decide +kernel
theorem dX3_stillOpen_90 : decode cX3_stillOpen 90 = .ok (.lcmp, 1) := by decide +kernel
theorem dX3_stillOpen_91 : decode cX3_stillOpen 91 = .ok (.ifCond .eq 12, 3) := by decide +kernel
theorem dX3_stillOpen_94 : decode cX3_stillOpen 94 = .ok (.iload 5, 2) := by decide +kernel
theorem dX3_stillOpen_96 : decode cX3_stillOpen 96 = .ok (.iconst 1, 1) := by decide +kernel
theorem dX3_stillOpen_97 : decode cX3_stillOpen 97 = .ok (.iload 6, 2) := by decide +kernel
theorem dX3_stillOpen_99 : decode cX3_stillOpen 99 = .ok (.ishl, 1) := by decide +kernel
theorem dX3_stillOpen_100 : decode cX3_stillOpen 100 = .ok (.ior, 1) := by decide +kernel
theorem dX3_stillOpen_101 : decode cX3_stillOpen 101 = .ok (.istore 5, 2) := by decide +kernel
theorem dX3_stillOpen_103 : decode cX3_stillOpen 103 = .ok (.iinc 6 1, 3) := by decide +kernel
theorem dX3_stillOpen_106 : decode cX3_stillOpen 106 = .ok (.goto (-100), 3) := by decide +kernel
theorem dX3_stillOpen_109 : decode cX3_stillOpen 109 = .ok (.iload 5, 2) := by decide +kernel
theorem dX3_stillOpen_111 : decode cX3_stillOpen 111 = .ok (.ireturn, 1) := by decide +kernel
set_option maxRecDepth 20000 in
theorem s_X3_stillOpen {w : Wd} {d : Nat} {P : Int → IM → LM → Prop} {i : IM} {l : LM} (p0 : Int) (p1 : Int64) (p2 : Int)  (h : gI w d X_X3_stillOpen P i l 6 [(0, vR (some 83)), (1, vI p0), (2, vL p1), (4, vI p2), (5, vI 0), (6, vI 0)] []) : gI w d X_X3_stillOpen P i l 0 [(0, vR (some 83)), (1, vI p0), (2, vL p1), (4, vI p2)] [] := by
  refine g_iconst (pc' := 1) dX3_stillOpen_0 rfl ?_
  refine g_istore (pc' := 3) (L' := [(5, vI 0), (0, vR (some 83)), (1, vI p0), (2, vL p1), (4, vI p2)]) dX3_stillOpen_1 rfl (Nat.le_of_ble_eq_true rfl) rfl ?_
  refine g_iconst (pc' := 4) dX3_stillOpen_3 rfl ?_
  refine g_istore (pc' := 6) (L' := [(6, vI 0), (5, vI 0), (0, vR (some 83)), (1, vI p0), (2, vL p1), (4, vI p2)]) dX3_stillOpen_4 rfl (Nat.le_of_ble_eq_true rfl) rfl ?_
  refine g_sub (L' := [(0, vR (some 83)), (1, vI p0), (2, vL p1), (4, vI p2), (5, vI 0), (6, vI 0)]) [2, 3, 4, 5, 1, 0] rfl ?_
  exact h
theorem e_X3_stillOpen {w : Wd} {d : Nat} {P : Int → IM → LM → Prop} {i : IM} {l : LM} {p0 : Int} {p1 : Int64} {p2 : Int}  (h : gI w d X_X3_stillOpen P i l 0 [(0, vR (some 83)), (1, vI p0), (2, vL p1), (4, vI p2)] []) : cI w (d + 1) X_X3_stillOpen [vR (some 83), vI p0, vL p1, vI p2] i l P := CI_of (by decide +kernel) (Nat.le_of_ble_eq_true rfl) h
set_option maxRecDepth 20000 in
theorem s_X3_stillOpen_6 {w : Wd} {d : Nat} {P : Int → IM → LM → Prop} {i : IM} {l : LM} (x1 : Int) (x2 : Int64) (x4 : Int) (x5 : Int) (x6 : Int)  (hd : 2 ≤ d) (h : ((rg x6) ∧ ((i 51 13 ≤ x6) → ((rg x5) ∧ P x5 i l)) ∧ ((¬ (i 51 13 ≤ x6) ∧ (¬ (iand (ishr x4 x6) 1 = 1))) → gI w d X_X3_stillOpen P i l 6 [(0, vR (some 83)), (1, vI x1), (2, vL x2), (4, vI x4), (5, vI x5), (6, vI (x6 + 1))] []) ∧ ((¬ (i 51 13 ≤ x6) ∧ (iand (ishr x4 x6) 1 = 1)) → ((0 ≤ (x1 * 12) + x6 ∧ (x1 * 12) + x6 < 132) ∧ (0 ≤ x6 ∧ x6 < 12) ∧ ((((mayF l ((x1 * 12) + x6) (l 84 ((x1 * 12) + x6)) ((cntL (l 84 ((x1 * 12) + x6))) + (l 85 x6)) (l 85 x6)) &&& (x2 ^^^ (-1)) = 0) → gI w d X_X3_stillOpen P i l 6 [(0, vR (some 83)), (1, vI x1), (2, vL x2), (4, vI x4), (5, vI x5), (6, vI (x6 + 1))] []) ∧ ((¬ ((mayF l ((x1 * 12) + x6) (l 84 ((x1 * 12) + x6)) ((cntL (l 84 ((x1 * 12) + x6))) + (l 85 x6)) (l 85 x6)) &&& (x2 ^^^ (-1)) = 0)) → gI w d X_X3_stillOpen P i l 6 [(0, vR (some 83)), (1, vI x1), (2, vL x2), (4, vI x4), (5, vI (ior x5 (ishl 1 x6))), (6, vI (x6 + 1))] [])))))) : gI w d X_X3_stillOpen P i l 6 [(0, vR (some 83)), (1, vI x1), (2, vL x2), (4, vI x4), (5, vI x5), (6, vI x6)] [] := by
  refine g_iload (pc' := 8) 5 dX3_stillOpen_6 rfl rfl ?_
  refine g_aload_n (pc' := 9) 0 dX3_stillOpen_8 rfl rfl ?_
  refine g_getR (pc' := 12) (o := some 51) fl_X3_39 rfl rfl rfl dX3_stillOpen_9 rfl ?_
  refine g_getI (pc' := 15) (z := 13) rfl fl_X3_57 rfl rfl dX3_stillOpen_12 rfl (fun rg1 => ?_)
  obtain ⟨hob3, hk15, hk16, hk17⟩ := h
  have hk15g : (i 51 13 ≤ x6) → gI w d X_X3_stillOpen P i l 109 [(0, vR (some 83)), (1, vI x1), (2, vL x2), (4, vI x4), (5, vI x5), (6, vI x6)] [] := by
    intro hp
    have h := hk15 hp
    obtain ⟨ob6, h⟩ := h
    refine g_iload (pc' := 111) 4 dX3_stillOpen_109 rfl rfl ?_
    exact g_retI rfl ob6 dX3_stillOpen_111 h
  have hk16g : (¬ (i 51 13 ≤ x6) ∧ (¬ (iand (ishr x4 x6) 1 = 1))) → gI w d X_X3_stillOpen P i l 103 [(0, vR (some 83)), (1, vI x1), (2, vL x2), (4, vI x4), (5, vI x5), (6, vI x6)] [] := by
    intro hp
    have h := hk16 hp
    refine g_iinc (pc' := 106) (L' := [(6, vI (x6 + 1)), (0, vR (some 83)), (1, vI x1), (2, vL x2), (4, vI x4), (5, vI x5)]) 5 dX3_stillOpen_103 rfl (Nat.le_of_ble_eq_true rfl) rfl rfl ?_
    refine g_goto (tgt := 6) dX3_stillOpen_106 rfl ?_
    refine g_sub (L' := [(0, vR (some 83)), (1, vI x1), (2, vL x2), (4, vI x4), (5, vI x5), (6, vI (x6 + 1))]) [1, 2, 3, 4, 5, 0] rfl ?_
    exact h
  have hk17g : (¬ (i 51 13 ≤ x6) ∧ (iand (ishr x4 x6) 1 = 1)) → gI w d X_X3_stillOpen P i l 29 [(0, vR (some 83)), (1, vI x1), (2, vL x2), (4, vI x4), (5, vI x5), (6, vI x6)] [] := by
    intro hp
    have h := hk17 hp
    obtain ⟨ob7, ob9, h⟩ := h
    refine g_iload_n (pc' := 30) 1 dX3_stillOpen_29 rfl rfl ?_
    refine g_bipush (pc' := 32) dX3_stillOpen_30 rfl rfl ?_
    refine g_imul (pc' := 33) dX3_stillOpen_32 rfl ?_
    refine g_iload (pc' := 35) 5 dX3_stillOpen_33 rfl rfl ?_
    refine g_iadd (pc' := 36) dX3_stillOpen_35 rfl ?_
    refine g_istore (pc' := 38) (L' := [(7, vI ((x1 * 12) + x6)), (0, vR (some 83)), (1, vI x1), (2, vL x2), (4, vI x4), (5, vI x5), (6, vI x6)]) dX3_stillOpen_36 rfl (Nat.le_of_ble_eq_true rfl) rfl ?_
    refine g_aload_n (pc' := 39) 1 dX3_stillOpen_38 rfl rfl ?_
    refine g_getR (pc' := 42) (o := some 84) fl_X3_9 rfl rfl rfl dX3_stillOpen_39 rfl ?_
    refine g_iload (pc' := 44) 0 dX3_stillOpen_42 rfl rfl ?_
    refine g_lald (pc' := 45) (N := 132) rfl rfl (Nat.lt_of_lt_of_le (Nat.lt_succ_self _) (Nat.le_of_ble_eq_true rfl)) ob7 dX3_stillOpen_44 rfl ?_
    refine g_pSL (pc' := 48) (vs := [vL (l 84 ((x1 * 12) + x6))]) (st := []) (val := cntL (l 84 ((x1 * 12) + x6))) (sp_X1_counted (le_hd hd rfl) ) mk_X1_counted ms_X1_counted lk_X3_113 rfl (Nat.le_of_ble_eq_true rfl) (Nat.le_of_ble_eq_true rfl) rfl dX3_stillOpen_45 rfl z2 ?_
    refine g_aload_n (pc' := 49) 1 dX3_stillOpen_48 rfl rfl ?_
    refine g_getR (pc' := 52) (o := some 85) fl_X3_15 rfl rfl rfl dX3_stillOpen_49 rfl ?_
    refine g_iload (pc' := 54) 6 dX3_stillOpen_52 rfl rfl ?_
    refine g_lald (pc' := 55) (N := 12) rfl rfl (Nat.lt_of_lt_of_le (Nat.lt_succ_self _) (Nat.le_of_ble_eq_true rfl)) ob9 dX3_stillOpen_54 rfl ?_
    refine g_ladd (pc' := 56) dX3_stillOpen_55 rfl ?_
    refine g_lstore (pc' := 58) (L' := [(8, vL ((cntL (l 84 ((x1 * 12) + x6))) + (l 85 x6))), (7, vI ((x1 * 12) + x6)), (0, vR (some 83)), (1, vI x1), (2, vL x2), (4, vI x4), (5, vI x5), (6, vI x6)]) dX3_stillOpen_56 rfl (Nat.le_of_ble_eq_true rfl) rfl ?_
    refine g_aload_n (pc' := 59) 2 dX3_stillOpen_58 rfl rfl ?_
    refine g_getR (pc' := 62) (o := some 51) fl_X3_39 rfl rfl rfl dX3_stillOpen_59 rfl ?_
    refine g_iload (pc' := 64) 1 dX3_stillOpen_62 rfl rfl ?_
    refine g_aload_n (pc' := 65) 2 dX3_stillOpen_64 rfl rfl ?_
    refine g_getR (pc' := 68) (o := some 84) fl_X3_9 rfl rfl rfl dX3_stillOpen_65 rfl ?_
    refine g_iload (pc' := 70) 1 dX3_stillOpen_68 rfl rfl ?_
    refine g_lald (pc' := 71) (N := 132) rfl rfl (Nat.lt_of_lt_of_le (Nat.lt_succ_self _) (Nat.le_of_ble_eq_true rfl)) ob7 dX3_stillOpen_70 rfl ?_
    refine g_lload (pc' := 73) 0 dX3_stillOpen_71 rfl rfl ?_
    refine g_aload_n (pc' := 74) 2 dX3_stillOpen_73 rfl rfl ?_
    refine g_getR (pc' := 77) (o := some 85) fl_X3_15 rfl rfl rfl dX3_stillOpen_74 rfl ?_
    refine g_iload (pc' := 79) 7 dX3_stillOpen_77 rfl rfl ?_
    refine g_lald (pc' := 80) (N := 12) rfl rfl (Nat.lt_of_lt_of_le (Nat.lt_succ_self _) (Nat.le_of_ble_eq_true rfl)) ob9 dX3_stillOpen_79 rfl ?_
    refine g_pVL (pc' := 83) (vs := [vI ((x1 * 12) + x6), vL (l 84 ((x1 * 12) + x6)), vL ((cntL (l 84 ((x1 * 12) + x6))) + (l 85 x6)), vL (l 85 x6)]) (st := []) (val := mayF l ((x1 * 12) + x6) (l 84 ((x1 * 12) + x6)) ((cntL (l 84 ((x1 * 12) + x6))) + (l 85 x6)) (l 85 x6)) (c := 1) (sp_X1_mayFail (le_hd hd rfl) ob7) mv_X1_mayFail lk_X3_119 rfl rfl rfl rfl (Nat.le_of_ble_eq_true rfl) (Nat.le_of_ble_eq_true rfl) rfl dX3_stillOpen_80 rfl z2 ?_
    refine g_lload_n (pc' := 84) 4 dX3_stillOpen_83 rfl rfl ?_
    refine g_ldc2 (pc' := 87) dX3_stillOpen_84 rfl kl_X3_104 ?_
    refine g_lxor (pc' := 88) dX3_stillOpen_87 rfl ?_
    refine g_land (pc' := 89) dX3_stillOpen_88 rfl ?_
    refine g_lconst (pc' := 90) (v := 0) dX3_stillOpen_89 rfl rfl ?_
    refine g_lcmp (pc' := 91) dX3_stillOpen_90 rfl ?_
    obtain ⟨hk13, hk14⟩ := h
    refine g_if_eq (tgt := 103) (pc' := 94) (rg_lcmpI _ _) (lcmpI_eq _ _) dX3_stillOpen_91 rfl rfl (fun c12 => ?_) (fun c12 => ?_)
    · have h := hk13 c12
      refine g_iinc (pc' := 106) (L' := [(6, vI (x6 + 1)), (8, vL ((cntL (l 84 ((x1 * 12) + x6))) + (l 85 x6))), (7, vI ((x1 * 12) + x6)), (0, vR (some 83)), (1, vI x1), (2, vL x2), (4, vI x4), (5, vI x5)]) 7 dX3_stillOpen_103 rfl (Nat.le_of_ble_eq_true rfl) rfl rfl ?_
      refine g_goto (tgt := 6) dX3_stillOpen_106 rfl ?_
      refine g_sub (L' := [(0, vR (some 83)), (1, vI x1), (2, vL x2), (4, vI x4), (5, vI x5), (6, vI (x6 + 1))]) [3, 4, 5, 6, 7, 0] rfl ?_
      exact h
    · have h := hk14 c12
      refine g_iload (pc' := 96) 6 dX3_stillOpen_94 rfl rfl ?_
      refine g_iconst (pc' := 97) dX3_stillOpen_96 rfl ?_
      refine g_iload (pc' := 99) 7 dX3_stillOpen_97 rfl rfl ?_
      refine g_ishl (pc' := 100) dX3_stillOpen_99 rfl ?_
      refine g_ior (pc' := 101) dX3_stillOpen_100 rfl ?_
      refine g_istore (pc' := 103) (L' := [(5, vI (ior x5 (ishl 1 x6))), (8, vL ((cntL (l 84 ((x1 * 12) + x6))) + (l 85 x6))), (7, vI ((x1 * 12) + x6)), (0, vR (some 83)), (1, vI x1), (2, vL x2), (4, vI x4), (6, vI x6)]) dX3_stillOpen_101 rfl (Nat.le_of_ble_eq_true rfl) rfl ?_
      refine g_iinc (pc' := 106) (L' := [(6, vI (x6 + 1)), (5, vI (ior x5 (ishl 1 x6))), (8, vL ((cntL (l 84 ((x1 * 12) + x6))) + (l 85 x6))), (7, vI ((x1 * 12) + x6)), (0, vR (some 83)), (1, vI x1), (2, vL x2), (4, vI x4)]) 7 dX3_stillOpen_103 rfl (Nat.le_of_ble_eq_true rfl) rfl rfl ?_
      refine g_goto (tgt := 6) dX3_stillOpen_106 rfl ?_
      refine g_sub (L' := [(0, vR (some 83)), (1, vI x1), (2, vL x2), (4, vI x4), (5, vI (ior x5 (ishl 1 x6))), (6, vI (x6 + 1))]) [4, 5, 6, 7, 1, 0] rfl ?_
      exact h
  refine g_icmp_ge (tgt := 109) (pc' := 18) (hob3) rg1 Iff.rfl dX3_stillOpen_15 rfl rfl (fun c4 => ?_) (fun c4 => ?_)
  · exact hk15g c4
  · refine g_iload (pc' := 20) 3 dX3_stillOpen_18 rfl rfl ?_
    refine g_iload (pc' := 22) 5 dX3_stillOpen_20 rfl rfl ?_
    refine g_ishr (pc' := 23) dX3_stillOpen_22 rfl ?_
    refine g_iconst (pc' := 24) dX3_stillOpen_23 rfl ?_
    refine g_iand (pc' := 25) dX3_stillOpen_24 rfl ?_
    refine g_iconst (pc' := 26) dX3_stillOpen_25 rfl ?_
    refine g_icmp_ne (tgt := 103) (pc' := 29) (rg_iand _ _) (rg_lit rfl) Iff.rfl dX3_stillOpen_26 rfl rfl (fun c5 => ?_) (fun c5 => ?_)
    · exact hk16g ⟨c4, c5⟩
    · exact hk17g ⟨c4, c5⟩

theorem dX3_shutting_0 : decode cX3_shutting 0 = .ok (.iconst 0, 1) := by decide +kernel
theorem dX3_shutting_1 : decode cX3_shutting 1 = .ok (.istore_n 3, 1) := by decide +kernel
theorem dX3_shutting_2 : decode cX3_shutting 2 = .ok (.iconst 0, 1) := by decide +kernel
theorem dX3_shutting_3 : decode cX3_shutting 3 = .ok (.istore 4, 2) := by decide +kernel
theorem dX3_shutting_5 : decode cX3_shutting 5 = .ok (.iload 4, 2) := by decide +kernel
theorem dX3_shutting_7 : decode cX3_shutting 7 = .ok (.aload_n 0, 1) := by decide +kernel
theorem dX3_shutting_8 : decode cX3_shutting 8 = .ok (.getfield 35, 3) := by decide +kernel
theorem dX3_shutting_11 : decode cX3_shutting 11 = .ok (.getfield 123, 3) := by decide +kernel
theorem dX3_shutting_14 : decode cX3_shutting 14 = .ok (.if_icmp .ge 45, 3) := by decide +kernel
theorem dX3_shutting_17 : decode cX3_shutting 17 = .ok (.lload_n 1, 1) := by decide +kernel
theorem dX3_shutting_18 : decode cX3_shutting 18 = .ok (.lconst 0, 1) := by decide +kernel
theorem dX3_shutting_19 : decode cX3_shutting 19 = .ok (.lcmp, 1) := by decide +kernel
theorem dX3_shutting_20 : decode cX3_shutting 20 = .ok (.ifCond .eq 39, 3) := by decide +kernel
theorem dX3_shutting_23 : decode cX3_shutting 23 = .ok (.lload_n 1, 1) := by decide +kernel
theorem dX3_shutting_24 : decode cX3_shutting 24 = .ok (.bipush 8, 2) := by decide +kernel
theorem dX3_shutting_26 : decode cX3_shutting 26 = .ok (.iload 4, 2) := by decide +kernel
theorem dX3_shutting_28 : decode cX3_shutting 28 = .ok (.imul, 1) := by decide +kernel
theorem dX3_shutting_29 : decode cX3_shutting 29 = .ok (.bipush 7, 2) := by decide +kernel
theorem dX3_shutting_31 : decode cX3_shutting 31 = .ok (.iadd, 1) := by decide +kernel
theorem dX3_shutting_32 : decode cX3_shutting 32 = .ok (.lushr, 1) := by decide +kernel
theorem dX3_shutting_33 : decode cX3_shutting 33 = .ok (.lconst 1, 1) := by decide +kernel
theorem dX3_shutting_34 : decode cX3_shutting 34 = .ok (.land, 1) := by decide +kernel
theorem dX3_shutting_35 : decode cX3_shutting 35 = .ok (.lconst 1, 1) := by decide +kernel
theorem dX3_shutting_36 : decode cX3_shutting 36 = .ok (.lcmp, 1) := by decide +kernel
theorem dX3_shutting_37 : decode cX3_shutting 37 = .ok (.ifCond .ne 16, 3) := by decide +kernel
theorem dX3_shutting_40 : decode cX3_shutting 40 = .ok (.iload_n 3, 1) := by decide +kernel
theorem dX3_shutting_41 : decode cX3_shutting 41 = .ok (.aload_n 0, 1) := by decide +kernel
theorem dX3_shutting_42 : decode cX3_shutting 42 = .ok (.getfield 35, 3) := by decide +kernel
theorem dX3_shutting_45 : decode cX3_shutting 45 = .ok (.iload 4, 2) := by decide +kernel
theorem dX3_shutting_47 : decode cX3_shutting 47 = .ok (.iconst 2, 1) := by decide +kernel
theorem dX3_shutting_48 : decode cX3_shutting 48 = .ok (.invokevirtual 126, 3) := by decide +kernel
theorem dX3_shutting_51 : decode cX3_shutting 51 = .ok (.iadd, 1) := by decide +kernel
theorem dX3_shutting_52 : decode cX3_shutting 52 = .ok (.istore_n 3, 1) := by decide +kernel
theorem dX3_shutting_53 : decode cX3_shutting 53 = .ok (.iinc 4 1, 3) := by decide +kernel
theorem dX3_shutting_56 : decode cX3_shutting 56 = .ok (.goto (-51), 3) := by decide +kernel
theorem dX3_shutting_59 : decode cX3_shutting 59 = .ok (.iload_n 3, 1) := by decide +kernel
theorem dX3_shutting_60 : decode cX3_shutting 60 = .ok (.ireturn, 1) := by decide +kernel
set_option maxRecDepth 20000 in
theorem s_X3_shutting {w : Wd} {d : Nat} {P : Int → IM → LM → Prop} {i : IM} {l : LM} (p0 : Int64)  (h : gI w d X_X3_shutting P i l 5 [(0, vR (some 83)), (1, vL p0), (3, vI 0), (4, vI 0)] []) : gI w d X_X3_shutting P i l 0 [(0, vR (some 83)), (1, vL p0)] [] := by
  refine g_iconst (pc' := 1) dX3_shutting_0 rfl ?_
  refine g_istore_n (pc' := 2) (L' := [(3, vI 0), (0, vR (some 83)), (1, vL p0)]) dX3_shutting_1 rfl (Nat.le_of_ble_eq_true rfl) rfl ?_
  refine g_iconst (pc' := 3) dX3_shutting_2 rfl ?_
  refine g_istore (pc' := 5) (L' := [(4, vI 0), (3, vI 0), (0, vR (some 83)), (1, vL p0)]) dX3_shutting_3 rfl (Nat.le_of_ble_eq_true rfl) rfl ?_
  refine g_sub (L' := [(0, vR (some 83)), (1, vL p0), (3, vI 0), (4, vI 0)]) [2, 3, 1, 0] rfl ?_
  exact h
theorem e_X3_shutting {w : Wd} {d : Nat} {P : Int → IM → LM → Prop} {i : IM} {l : LM} {p0 : Int64}  (h : gI w d X_X3_shutting P i l 0 [(0, vR (some 83)), (1, vL p0)] []) : cI w (d + 1) X_X3_shutting [vR (some 83), vL p0] i l P := CI_of (by decide +kernel) (Nat.le_of_ble_eq_true rfl) h
set_option maxRecDepth 20000 in
theorem s_X3_shutting_5 {w : Wd} {d : Nat} {P : Int → IM → LM → Prop} {i : IM} {l : LM} (x1 : Int64) (x3 : Int) (x4 : Int)  (hd : 1 ≤ d) (h : ((rg x4) ∧ (((i 7 9 ≤ x4) ∨ (x1 = 0)) → ((rg x3) ∧ P x3 i l)) ∧ ((¬ (i 7 9 ≤ x4) ∧ (¬ (x1 = 0) ∧ (¬ ((lushr x1 ((8 * x4) + 7)) &&& 1 = 1)))) → gI w d X_X3_shutting P i l 5 [(0, vR (some 83)), (1, vL x1), (3, vI x3), (4, vI (x4 + 1))] []) ∧ ((¬ (i 7 9 ≤ x4) ∧ (¬ (x1 = 0) ∧ ((lushr x1 ((8 * x4) + 7)) &&& 1 = 1))) → ((0 ≤ x4 * 3 + 2 ∧ x4 * 3 + 2 < 24) ∧ gI w d X_X3_shutting P i l 5 [(0, vR (some 83)), (1, vL x1), (3, vI (x3 + (i 9 (x4 * 3 + 2)))), (4, vI (x4 + 1))] [])))) : gI w d X_X3_shutting P i l 5 [(0, vR (some 83)), (1, vL x1), (3, vI x3), (4, vI x4)] [] := by
  refine g_iload (pc' := 7) 3 dX3_shutting_5 rfl rfl ?_
  refine g_aload_n (pc' := 8) 0 dX3_shutting_7 rfl rfl ?_
  refine g_getR (pc' := 11) (o := some 7) fl_X3_35 rfl rfl rfl dX3_shutting_8 rfl ?_
  refine g_getI (pc' := 14) (z := 9) rfl fl_X3_123 rfl rfl dX3_shutting_11 rfl (fun rg1 => ?_)
  obtain ⟨hob3, hk12, hk13, hk14⟩ := h
  have hk12g : ((i 7 9 ≤ x4) ∨ (x1 = 0)) → gI w d X_X3_shutting P i l 59 [(0, vR (some 83)), (1, vL x1), (3, vI x3), (4, vI x4)] [] := by
    intro hp
    have h := hk12 hp
    obtain ⟨ob9, h⟩ := h
    refine g_iload_n (pc' := 60) 2 dX3_shutting_59 rfl rfl ?_
    exact g_retI rfl ob9 dX3_shutting_60 h
  have hk13g : (¬ (i 7 9 ≤ x4) ∧ (¬ (x1 = 0) ∧ (¬ ((lushr x1 ((8 * x4) + 7)) &&& 1 = 1)))) → gI w d X_X3_shutting P i l 53 [(0, vR (some 83)), (1, vL x1), (3, vI x3), (4, vI x4)] [] := by
    intro hp
    have h := hk13 hp
    refine g_iinc (pc' := 56) (L' := [(4, vI (x4 + 1)), (0, vR (some 83)), (1, vL x1), (3, vI x3)]) 3 dX3_shutting_53 rfl (Nat.le_of_ble_eq_true rfl) rfl rfl ?_
    refine g_goto (tgt := 5) dX3_shutting_56 rfl ?_
    refine g_sub (L' := [(0, vR (some 83)), (1, vL x1), (3, vI x3), (4, vI (x4 + 1))]) [1, 2, 3, 0] rfl ?_
    exact h
  have hk14g : (¬ (i 7 9 ≤ x4) ∧ (¬ (x1 = 0) ∧ ((lushr x1 ((8 * x4) + 7)) &&& 1 = 1))) → gI w d X_X3_shutting P i l 40 [(0, vR (some 83)), (1, vL x1), (3, vI x3), (4, vI x4)] [] := by
    intro hp
    have h := hk14 hp
    obtain ⟨ob10, h⟩ := h
    refine g_iload_n (pc' := 41) 2 dX3_shutting_40 rfl rfl ?_
    refine g_aload_n (pc' := 42) 0 dX3_shutting_41 rfl rfl ?_
    refine g_getR (pc' := 45) (o := some 7) fl_X3_35 rfl rfl rfl dX3_shutting_42 rfl ?_
    refine g_iload (pc' := 47) 3 dX3_shutting_45 rfl rfl ?_
    refine g_iconst (pc' := 48) dX3_shutting_47 rfl ?_
    refine g_pVI (pc' := 51) (vs := [vI x4, vI 2]) (st := [vI x3]) (val := i 9 (x4 * 3 + 2)) (c := 9) (sp_X9_view (le_hd hd rfl) ob10) mv_X9_view lk_X3_126 rfl rfl rfl rfl (Nat.le_of_ble_eq_true rfl) (Nat.le_of_ble_eq_true rfl) rfl dX3_shutting_48 rfl z2 (fun rg11 => ?_)
    refine g_iadd (pc' := 52) dX3_shutting_51 rfl ?_
    refine g_istore_n (pc' := 53) (L' := [(3, vI (x3 + (i 9 (x4 * 3 + 2)))), (0, vR (some 83)), (1, vL x1), (4, vI x4)]) dX3_shutting_52 rfl (Nat.le_of_ble_eq_true rfl) rfl ?_
    refine g_iinc (pc' := 56) (L' := [(4, vI (x4 + 1)), (3, vI (x3 + (i 9 (x4 * 3 + 2)))), (0, vR (some 83)), (1, vL x1)]) 3 dX3_shutting_53 rfl (Nat.le_of_ble_eq_true rfl) rfl rfl ?_
    refine g_goto (tgt := 5) dX3_shutting_56 rfl ?_
    refine g_sub (L' := [(0, vR (some 83)), (1, vL x1), (3, vI (x3 + (i 9 (x4 * 3 + 2)))), (4, vI (x4 + 1))]) [2, 3, 1, 0] rfl ?_
    exact h
  refine g_icmp_ge (tgt := 59) (pc' := 17) (hob3) rg1 Iff.rfl dX3_shutting_14 rfl rfl (fun c4 => ?_) (fun c4 => ?_)
  · exact hk12g (Or.inl c4)
  · refine g_lload_n (pc' := 18) 1 dX3_shutting_17 rfl rfl ?_
    refine g_lconst (pc' := 19) (v := 0) dX3_shutting_18 rfl rfl ?_
    refine g_lcmp (pc' := 20) dX3_shutting_19 rfl ?_
    refine g_if_eq (tgt := 59) (pc' := 23) (rg_lcmpI _ _) (lcmpI_eq _ _) dX3_shutting_20 rfl rfl (fun c5 => ?_) (fun c5 => ?_)
    · exact hk12g (Or.inr c5)
    · refine g_lload_n (pc' := 24) 1 dX3_shutting_23 rfl rfl ?_
      refine g_bipush (pc' := 26) dX3_shutting_24 rfl rfl ?_
      refine g_iload (pc' := 28) 3 dX3_shutting_26 rfl rfl ?_
      refine g_imul (pc' := 29) dX3_shutting_28 rfl ?_
      refine g_bipush (pc' := 31) dX3_shutting_29 rfl rfl ?_
      refine g_iadd (pc' := 32) dX3_shutting_31 rfl ?_
      refine g_lushr (pc' := 33) dX3_shutting_32 rfl ?_
      refine g_lconst (pc' := 34) (v := 1) dX3_shutting_33 rfl rfl ?_
      refine g_land (pc' := 35) dX3_shutting_34 rfl ?_
      refine g_lconst (pc' := 36) (v := 1) dX3_shutting_35 rfl rfl ?_
      refine g_lcmp (pc' := 37) dX3_shutting_36 rfl ?_
      refine g_if_ne (tgt := 53) (pc' := 40) (rg_lcmpI _ _) (lcmpI_eq _ _) dX3_shutting_37 rfl rfl (fun c6 => ?_) (fun c6 => ?_)
      · exact hk13g ⟨c4, ⟨c5, c6⟩⟩
      · exact hk14g ⟨c4, ⟨c5, c6⟩⟩

theorem dX3_record_0 : decode cX3_record 0 = .ok (.aload_n 0, 1) := by decide +kernel
theorem dX3_record_1 : decode cX3_record 1 = .ok (.iload_n 2, 1) := by decide +kernel
theorem dX3_record_2 : decode cX3_record 2 = .ok (.putfield 54, 3) := by decide +kernel
theorem dX3_record_5 : decode cX3_record 5 = .ok (.aload_n 0, 1) := by decide +kernel
theorem dX3_record_6 : decode cX3_record 6 = .ok (.lload_n 3, 1) := by decide +kernel
theorem dX3_record_7 : decode cX3_record 7 = .ok (.putfield 43, 3) := by decide +kernel
theorem dX3_record_10 : decode cX3_record 10 = .ok (.iconst 0, 1) := by decide +kernel
theorem dX3_record_11 : decode cX3_record 11 = .ok (.istore 5, 2) := by decide +kernel
theorem dX3_record_13 : decode cX3_record 13 = .ok (.iload 5, 2) := by decide +kernel
theorem dX3_record_15 : decode cX3_record 15 = .ok (.aload_n 0, 1) := by decide +kernel
theorem dX3_record_16 : decode cX3_record 16 = .ok (.getfield 35, 3) := by decide +kernel
theorem dX3_record_19 : decode cX3_record 19 = .ok (.getfield 66, 3) := by decide +kernel
theorem dX3_record_22 : decode cX3_record 22 = .ok (.if_icmp .ge 39, 3) := by decide +kernel
theorem dX3_record_25 : decode cX3_record 25 = .ok (.aload_n 0, 1) := by decide +kernel
theorem dX3_record_26 : decode cX3_record 26 = .ok (.getfield 28, 3) := by decide +kernel
theorem dX3_record_29 : decode cX3_record 29 = .ok (.iload 5, 2) := by decide +kernel
theorem dX3_record_31 : decode cX3_record 31 = .ok (.iload 5, 2) := by decide +kernel
theorem dX3_record_33 : decode cX3_record 33 = .ok (.iload_n 1, 1) := by decide +kernel
theorem dX3_record_34 : decode cX3_record 34 = .ok (.if_icmp .ge 13, 3) := by decide +kernel
theorem dX3_record_37 : decode cX3_record 37 = .ok (.aload_n 0, 1) := by decide +kernel
theorem dX3_record_38 : decode cX3_record 38 = .ok (.getfield 18, 3) := by decide +kernel
theorem dX3_record_41 : decode cX3_record 41 = .ok (.iload 5, 2) := by decide +kernel
theorem dX3_record_43 : decode cX3_record 43 = .ok (.iaload, 1) := by decide +kernel
theorem dX3_record_44 : decode cX3_record 44 = .ok (.goto 10, 3) := by decide +kernel
theorem dX3_record_47 : decode cX3_record 47 = .ok (.aload_n 0, 1) := by decide +kernel
theorem dX3_record_48 : decode cX3_record 48 = .ok (.getfield 25, 3) := by decide +kernel
theorem dX3_record_51 : decode cX3_record 51 = .ok (.iload 5, 2) := by decide +kernel
theorem dX3_record_53 : decode cX3_record 53 = .ok (.iaload, 1) := by decide +kernel
theorem dX3_record_54 : decode cX3_record 54 = .ok (.iastore, 1) := by decide +kernel
theorem dX3_record_55 : decode cX3_record 55 = .ok (.iinc 5 1, 3) := by decide +kernel
theorem dX3_record_58 : decode cX3_record 58 = .ok (.goto (-45), 3) := by decide +kernel
theorem dX3_record_61 : decode cX3_record 61 = .ok (.return_, 1) := by decide +kernel
set_option maxRecDepth 20000 in
theorem s_X3_record {w : Wd} {d : Nat} {P : IM → LM → Prop} {i : IM} {l : LM} (p0 : Int) (p1 : Int) (p2 : Int64)  (h : ((rg p1) ∧ gV w d X_X3_record P (u2 i 83 8 p1) (u2l l 83 9 p2) 13 [(0, vR (some 83)), (1, vI p0), (5, vI 0)] [])) : gV w d X_X3_record P i l 0 [(0, vR (some 83)), (1, vI p0), (2, vI p1), (3, vL p2)] [] := by
  obtain ⟨ob1, h⟩ := h
  refine g_aload_n (pc' := 1) 0 dX3_record_0 rfl rfl ?_
  refine g_iload_n (pc' := 2) 2 dX3_record_1 rfl rfl ?_
  refine g_putI (pc' := 5) (z := 8) rfl fp_X3_54 rfl rfl ob1 dX3_record_2 rfl ?_
  refine g_aload_n (pc' := 6) 0 dX3_record_5 rfl rfl ?_
  refine g_lload_n (pc' := 7) 3 dX3_record_6 rfl rfl ?_
  refine g_putL (pc' := 10) (z := 9) rfl fp_X3_43 rfl rfl dX3_record_7 rfl ?_
  refine g_iconst (pc' := 11) dX3_record_10 rfl ?_
  refine g_istore (pc' := 13) (L' := [(5, vI 0), (0, vR (some 83)), (1, vI p0), (2, vI p1), (3, vL p2)]) dX3_record_11 rfl (Nat.le_of_ble_eq_true rfl) rfl ?_
  refine g_sub (L' := [(0, vR (some 83)), (1, vI p0), (5, vI 0)]) [1, 2, 0] rfl ?_
  exact h
theorem e_X3_record {w : Wd} {d : Nat} {P : IM → LM → Prop} {i : IM} {l : LM} {p0 : Int} {p1 : Int} {p2 : Int64}  (h : gV w d X_X3_record P i l 0 [(0, vR (some 83)), (1, vI p0), (2, vI p1), (3, vL p2)] []) : cVd w (d + 1) X_X3_record [vR (some 83), vI p0, vI p1, vL p2] i l P := CV_of (by decide +kernel) (Nat.le_of_ble_eq_true rfl) h
set_option maxRecDepth 20000 in
theorem s_X3_record_13 {w : Wd} {d : Nat} {P : IM → LM → Prop} {i : IM} {l : LM} (x1 : Int) (x5 : Int)  (h : ((rg x5) ∧ ((i 7 8 ≤ x5) → P i l) ∧ ((¬ (i 7 8 ≤ x5)) → ((rg x5) ∧ (rg x1) ∧ ((x1 ≤ x5) → 0 ≤ x5 ∧ x5 < 10) ∧ (¬ (x1 ≤ x5) → 0 ≤ x5 ∧ x5 < 10) ∧ ((0 ≤ x5 ∧ x5 < 10) ∧ gV w d X_X3_record P (u2 i 89 x5 (if (x1 ≤ x5) then i 88 x5 else i 86 x5)) l 13 [(0, vR (some 83)), (1, vI x1), (5, vI (x5 + 1))] []))))) : gV w d X_X3_record P i l 13 [(0, vR (some 83)), (1, vI x1), (5, vI x5)] [] := by
  refine g_iload (pc' := 15) 2 dX3_record_13 rfl rfl ?_
  refine g_aload_n (pc' := 16) 0 dX3_record_15 rfl rfl ?_
  refine g_getR (pc' := 19) (o := some 7) fl_X3_35 rfl rfl rfl dX3_record_16 rfl ?_
  refine g_getI (pc' := 22) (z := 8) rfl fl_X3_66 rfl rfl dX3_record_19 rfl (fun rg2 => ?_)
  obtain ⟨hob36, hk47, hk48⟩ := h
  refine g_icmp_ge (tgt := 61) (pc' := 25) (hob36) rg2 Iff.rfl dX3_record_22 rfl rfl (fun c37 => ?_) (fun c37 => ?_)
  · have h := hk47 c37
    exact g_retV rfl dX3_record_61 h
  · have h := hk48 c37
    refine g_aload_n (pc' := 26) 0 dX3_record_25 rfl rfl ?_
    refine g_getR (pc' := 29) (o := some 89) fl_X3_28 rfl rfl rfl dX3_record_26 rfl ?_
    refine g_iload (pc' := 31) 2 dX3_record_29 rfl rfl ?_
    refine g_iload (pc' := 33) 2 dX3_record_31 rfl rfl ?_
    refine g_iload_n (pc' := 34) 1 dX3_record_33 rfl rfl ?_
    refine g_rg (fun hRG38 => ?_)
    obtain ⟨hob39, hob40, hob42, hob44, h⟩ := h
    have hJ : gV w d X_X3_record P i l 54 [(0, vR (some 83)), (1, vI x1), (5, vI x5)] [vI (if (x1 ≤ x5) then i 88 x5 else i 86 x5), vI x5, vR (some 89)] := by
      obtain ⟨ob46, h⟩ := h
      refine g_iast (pc' := 55) (N := 10) rfl rfl (Nat.lt_of_lt_of_le (Nat.lt_succ_self _) (Nat.le_of_ble_eq_true rfl)) ob46 (rg_ite (hRG38 _ _) (hRG38 _ _)) dX3_record_54 rfl ?_
      refine g_iinc (pc' := 58) (L' := [(5, vI (x5 + 1)), (0, vR (some 83)), (1, vI x1)]) 2 dX3_record_55 rfl (Nat.le_of_ble_eq_true rfl) rfl rfl ?_
      refine g_goto (tgt := 13) dX3_record_58 rfl ?_
      refine g_sub (L' := [(0, vR (some 83)), (1, vI x1), (5, vI (x5 + 1))]) [1, 2, 0] rfl ?_
      exact h
    refine g_icmp_ge (tgt := 47) (pc' := 37) (hob39) (hob40) Iff.rfl dX3_record_34 rfl rfl (fun c41 => ?_) (fun c41 => ?_)
    · refine g_aload_n (pc' := 48) 0 dX3_record_47 rfl rfl ?_
      refine g_getR (pc' := 51) (o := some 88) fl_X3_25 rfl rfl rfl dX3_record_48 rfl ?_
      refine g_iload (pc' := 53) 2 dX3_record_51 rfl rfl ?_
      refine g_iald (pc' := 54) (N := 10) rfl rfl (Nat.lt_of_lt_of_le (Nat.lt_succ_self _) (Nat.le_of_ble_eq_true rfl)) (hob42 c41) dX3_record_53 rfl (fun rg43 => ?_)
      rw [if_pos c41 (α := Int) (t := i 88 x5) (e := i 86 x5)] at hJ
      exact hJ
    · refine g_aload_n (pc' := 38) 0 dX3_record_37 rfl rfl ?_
      refine g_getR (pc' := 41) (o := some 86) fl_X3_18 rfl rfl rfl dX3_record_38 rfl ?_
      refine g_iload (pc' := 43) 2 dX3_record_41 rfl rfl ?_
      refine g_iald (pc' := 44) (N := 10) rfl rfl (Nat.lt_of_lt_of_le (Nat.lt_succ_self _) (Nat.le_of_ble_eq_true rfl)) (hob44 c41) dX3_record_43 rfl (fun rg45 => ?_)
      refine g_goto (tgt := 54) dX3_record_44 rfl ?_
      rw [if_neg c41 (α := Int) (t := i 88 x5) (e := i 86 x5)] at hJ
      exact hJ
