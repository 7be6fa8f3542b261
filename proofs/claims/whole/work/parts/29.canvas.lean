theorem dX1_prepare_0 : decode cX1_prepare 0 = .ok (.aload_n 0, 1) := by decide +kernel
theorem dX1_prepare_1 : decode cX1_prepare 1 = .ok (.getfield 46, 3) := by decide +kernel
theorem dX1_prepare_4 : decode cX1_prepare 4 = .ok (.aload_n 0, 1) := by decide +kernel
theorem dX1_prepare_5 : decode cX1_prepare 5 = .ok (.getfield 50, 3) := by decide +kernel
theorem dX1_prepare_8 : decode cX1_prepare 8 = .ok (.getfield 58, 3) := by decide +kernel
theorem dX1_prepare_11 : decode cX1_prepare 11 = .ok (.if_icmp .ne 12, 3) := by decide +kernel
theorem dX1_prepare_14 : decode cX1_prepare 14 = .ok (.aload_n 0, 1) := by decide +kernel
theorem dX1_prepare_15 : decode cX1_prepare 15 = .ok (.getfield 61, 3) := by decide +kernel
theorem dX1_prepare_18 : decode cX1_prepare 18 = .ok (.iload_n 1, 1) := by decide +kernel
theorem dX1_prepare_19 : decode cX1_prepare 19 = .ok (.if_icmp .ne 4, 3) := by decide +kernel
theorem dX1_prepare_22 : decode cX1_prepare 22 = .ok (.return_, 1) := by decide +kernel
theorem dX1_prepare_23 : decode cX1_prepare 23 = .ok (.aload_n 0, 1) := by decide +kernel
theorem dX1_prepare_24 : decode cX1_prepare 24 = .ok (.getfield 46, 3) := by decide +kernel
theorem dX1_prepare_27 : decode cX1_prepare 27 = .ok (.aload_n 0, 1) := by decide +kernel
theorem dX1_prepare_28 : decode cX1_prepare 28 = .ok (.getfield 50, 3) := by decide +kernel
theorem dX1_prepare_31 : decode cX1_prepare 31 = .ok (.getfield 58, 3) := by decide +kernel
theorem dX1_prepare_34 : decode cX1_prepare 34 = .ok (.if_icmp .eq 27, 3) := by decide +kernel
theorem dX1_prepare_37 : decode cX1_prepare 37 = .ok (.iconst 0, 1) := by decide +kernel
theorem dX1_prepare_38 : decode cX1_prepare 38 = .ok (.istore_n 2, 1) := by decide +kernel
theorem dX1_prepare_39 : decode cX1_prepare 39 = .ok (.iload_n 2, 1) := by decide +kernel
theorem dX1_prepare_40 : decode cX1_prepare 40 = .ok (.aload_n 0, 1) := by decide +kernel
theorem dX1_prepare_41 : decode cX1_prepare 41 = .ok (.getfield 50, 3) := by decide +kernel
theorem dX1_prepare_44 : decode cX1_prepare 44 = .ok (.getfield 64, 3) := by decide +kernel
theorem dX1_prepare_47 : decode cX1_prepare 47 = .ok (.if_icmp .ge 14, 3) := by decide +kernel
theorem dX1_prepare_50 : decode cX1_prepare 50 = .ok (.aload_n 0, 1) := by decide +kernel
theorem dX1_prepare_51 : decode cX1_prepare 51 = .ok (.iload_n 2, 1) := by decide +kernel
theorem dX1_prepare_52 : decode cX1_prepare 52 = .ok (.invokevirtual 67, 3) := by decide +kernel
theorem dX1_prepare_55 : decode cX1_prepare 55 = .ok (.iinc 2 1, 3) := by decide +kernel
theorem dX1_prepare_58 : decode cX1_prepare 58 = .ok (.goto (-19), 3) := by decide +kernel
theorem dX1_prepare_61 : decode cX1_prepare 61 = .ok (.aload_n 0, 1) := by decide +kernel
theorem dX1_prepare_62 : decode cX1_prepare 62 = .ok (.aload_n 0, 1) := by decide +kernel
theorem dX1_prepare_63 : decode cX1_prepare 63 = .ok (.getfield 50, 3) := by decide +kernel
theorem dX1_prepare_66 : decode cX1_prepare 66 = .ok (.getfield 58, 3) := by decide +kernel
theorem dX1_prepare_69 : decode cX1_prepare 69 = .ok (.putfield 46, 3) := by decide +kernel
theorem dX1_prepare_72 : decode cX1_prepare 72 = .ok (.aload_n 0, 1) := by decide +kernel
theorem dX1_prepare_73 : decode cX1_prepare 73 = .ok (.iload_n 1, 1) := by decide +kernel
theorem dX1_prepare_74 : decode cX1_prepare 74 = .ok (.putfield 61, 3) := by decide +kernel
theorem dX1_prepare_77 : decode cX1_prepare 77 = .ok (.aload_n 0, 1) := by decide +kernel
theorem dX1_prepare_78 : decode cX1_prepare 78 = .ok (.getfield 50, 3) := by decide +kernel
theorem dX1_prepare_81 : decode cX1_prepare 81 = .ok (.invokevirtual 71, 3) := by decide +kernel
theorem dX1_prepare_84 : decode cX1_prepare 84 = .ok (.astore_n 2, 1) := by decide +kernel
theorem dX1_prepare_85 : decode cX1_prepare 85 = .ok (.aload_n 2, 1) := by decide +kernel
theorem dX1_prepare_86 : decode cX1_prepare 86 = .ok (.ifnull 25, 3) := by decide +kernel
theorem dX1_prepare_89 : decode cX1_prepare 89 = .ok (.aload_n 2, 1) := by decide +kernel
theorem dX1_prepare_90 : decode cX1_prepare 90 = .ok (.iconst 3, 1) := by decide +kernel
theorem dX1_prepare_91 : decode cX1_prepare 91 = .ok (.iconst 5, 1) := by decide +kernel
theorem dX1_prepare_92 : decode cX1_prepare 92 = .ok (.invokevirtual 75, 3) := by decide +kernel
theorem dX1_prepare_95 : decode cX1_prepare 95 = .ok (.ifCond .ne 12, 3) := by decide +kernel
theorem dX1_prepare_98 : decode cX1_prepare 98 = .ok (.aload_n 2, 1) := by decide +kernel
theorem dX1_prepare_99 : decode cX1_prepare 99 = .ok (.iconst 2, 1) := by decide +kernel
theorem dX1_prepare_100 : decode cX1_prepare 100 = .ok (.iconst 5, 1) := by decide +kernel
theorem dX1_prepare_101 : decode cX1_prepare 101 = .ok (.invokevirtual 75, 3) := by decide +kernel
theorem dX1_prepare_104 : decode cX1_prepare 104 = .ok (.ifCond .eq 7, 3) := by decide +kernel
theorem dX1_prepare_107 : decode cX1_prepare 107 = .ok (.iconst 1, 1) := by decide +kernel
theorem dX1_prepare_108 : decode cX1_prepare 108 = .ok (.goto 4, 3) := by decide +kernel
theorem dX1_prepare_111 : decode cX1_prepare 111 = .ok (.iconst 0, 1) := by decide +kernel
theorem dX1_prepare_112 : decode cX1_prepare 112 = .ok (.istore_n 3, 1) := by decide +kernel
theorem dX1_prepare_113 : decode cX1_prepare 113 = .ok (.aload_n 0, 1) := by decide +kernel
theorem dX1_prepare_114 : decode cX1_prepare 114 = .ok (.getfield 43, 3) := by decide +kernel
theorem dX1_prepare_117 : decode cX1_prepare 117 = .ok (.iconst 0, 1) := by decide +kernel
theorem dX1_prepare_118 : decode cX1_prepare 118 = .ok (.invokestatic 81, 3) := by decide +kernel
theorem dX1_prepare_121 : decode cX1_prepare 121 = .ok (.aload_n 0, 1) := by decide +kernel
theorem dX1_prepare_122 : decode cX1_prepare 122 = .ok (.iconst 0, 1) := by decide +kernel
theorem dX1_prepare_123 : decode cX1_prepare 123 = .ok (.putfield 87, 3) := by decide +kernel
theorem dX1_prepare_126 : decode cX1_prepare 126 = .ok (.iconst 0, 1) := by decide +kernel
theorem dX1_prepare_127 : decode cX1_prepare 127 = .ok (.istore 4, 2) := by decide +kernel
theorem dX1_prepare_129 : decode cX1_prepare 129 = .ok (.iload 4, 2) := by decide +kernel
theorem dX1_prepare_131 : decode cX1_prepare 131 = .ok (.bipush 12, 2) := by decide +kernel
theorem dX1_prepare_133 : decode cX1_prepare 133 = .ok (.if_icmp .ge 37, 3) := by decide +kernel
theorem dX1_prepare_136 : decode cX1_prepare 136 = .ok (.iload_n 1, 1) := by decide +kernel
theorem dX1_prepare_137 : decode cX1_prepare 137 = .ok (.iload 4, 2) := by decide +kernel
theorem dX1_prepare_139 : decode cX1_prepare 139 = .ok (.ishr, 1) := by decide +kernel
theorem dX1_prepare_140 : decode cX1_prepare 140 = .ok (.iconst 1, 1) := by decide +kernel
theorem dX1_prepare_141 : decode cX1_prepare 141 = .ok (.iand, 1) := by decide +kernel
theorem dX1_prepare_142 : decode cX1_prepare 142 = .ok (.iconst 1, 1) := by decide +kernel
theorem dX1_prepare_143 : decode cX1_prepare 143 = .ok (.if_icmp .ne 21, 3) := by decide +kernel
theorem dX1_prepare_146 : decode cX1_prepare 146 = .ok (.aload_n 0, 1) := by decide +kernel
theorem dX1_prepare_147 : decode cX1_prepare 147 = .ok (.iload 4, 2) := by decide +kernel
theorem dX1_prepare_149 : decode cX1_prepare 149 = .ok (.invokevirtual 90, 3) := by decide +kernel
theorem dX1_prepare_152 : decode cX1_prepare 152 = .ok (.iload_n 3, 1) := by decide +kernel
theorem dX1_prepare_153 : decode cX1_prepare 153 = .ok (.ifCond .eq 11, 3) := by decide +kernel
theorem dX1_prepare_156 : decode cX1_prepare 156 = .ok (.aload_n 0, 1) := by decide +kernel
theorem dX1_prepare_157 : decode cX1_prepare 157 = .ok (.getfield 43, 3) := by decide +kernel
theorem dX1_prepare_160 : decode cX1_prepare 160 = .ok (.iconst 0, 1) := by decide +kernel
theorem dX1_prepare_161 : decode cX1_prepare 161 = .ok (.invokestatic 81, 3) := by decide +kernel
theorem dX1_prepare_164 : decode cX1_prepare 164 = .ok (.iinc 4 1, 3) := by decide +kernel
theorem dX1_prepare_167 : decode cX1_prepare 167 = .ok (.goto (-38), 3) := by decide +kernel
theorem dX1_prepare_170 : decode cX1_prepare 170 = .ok (.return_, 1) := by decide +kernel
set_option maxRecDepth 20000 in
theorem s_X1_prepare {w : Wd} {d : Nat} {P : IM → LM → Prop} {i : IM} {l : LM} (p0 : Int)  (h : (((i 51 15 = i 7 15) → rg p0) ∧ (((i 51 15 = i 7 15) ∧ (i 51 14 = p0)) → P i l) ∧ ((¬ ((i 51 15 = i 7 15) ∧ (i 51 14 = p0))) → gV w d X_X1_prepare P i l 23 [(0, vR (some 51)), (1, vI p0)] []))) : gV w d X_X1_prepare P i l 0 [(0, vR (some 51)), (1, vI p0)] [] := by
  refine g_aload_n (pc' := 1) 0 dX1_prepare_0 rfl rfl ?_
  refine g_getI (pc' := 4) (z := 15) rfl fl_X1_46 rfl rfl dX1_prepare_1 rfl (fun rg1 => ?_)
  refine g_aload_n (pc' := 5) 0 dX1_prepare_4 rfl rfl ?_
  refine g_getR (pc' := 8) (o := some 7) fl_X1_50 rfl rfl rfl dX1_prepare_5 rfl ?_
  refine g_getI (pc' := 11) (z := 15) rfl fl_X1_58 rfl rfl dX1_prepare_8 rfl (fun rg2 => ?_)
  obtain ⟨hob6, hk8, hk9⟩ := h
  have hk8g : ((i 51 15 = i 7 15) ∧ (i 51 14 = p0)) → gV w d X_X1_prepare P i l 22 [(0, vR (some 51)), (1, vI p0)] [] := by
    intro hp
    have h := hk8 hp
    exact g_retV rfl dX1_prepare_22 h
  have hk9g : (¬ ((i 51 15 = i 7 15) ∧ (i 51 14 = p0))) → gV w d X_X1_prepare P i l 23 [(0, vR (some 51)), (1, vI p0)] [] := by
    intro hp
    have h := hk9 hp
    exact h
  refine g_icmp_ne (tgt := 23) (pc' := 14) rg1 rg2 Iff.rfl dX1_prepare_11 rfl rfl (fun c4 => ?_) (fun c4 => ?_)
  · exact hk9g (fun q => c4 q.1)
  · refine g_aload_n (pc' := 15) 0 dX1_prepare_14 rfl rfl ?_
    refine g_getI (pc' := 18) (z := 14) rfl fl_X1_61 rfl rfl dX1_prepare_15 rfl (fun rg5 => ?_)
    refine g_iload_n (pc' := 19) 1 dX1_prepare_18 rfl rfl ?_
    refine g_icmp_ne (tgt := 23) (pc' := 22) rg5 (hob6 c4) Iff.rfl dX1_prepare_19 rfl rfl (fun c7 => ?_) (fun c7 => ?_)
    · exact hk9g (fun q => c7 q.2)
    · exact hk8g ⟨c4, c7⟩
theorem e_X1_prepare {w : Wd} {d : Nat} {P : IM → LM → Prop} {i : IM} {l : LM} {p0 : Int}  (h : gV w d X_X1_prepare P i l 0 [(0, vR (some 51)), (1, vI p0)] []) : cVd w (d + 1) X_X1_prepare [vR (some 51), vI p0] i l P := CV_of (by decide +kernel) (Nat.le_of_ble_eq_true rfl) h
set_option maxRecDepth 20000 in
theorem s_X1_prepare_23 {w : Wd} {d : Nat} {P : IM → LM → Prop} {i : IM} {l : LM} (x1 : Int)  (h : (((i 51 15 = i 7 15) → gV w d X_X1_prepare P i l 61 [(0, vR (some 51)), (1, vI x1)] []) ∧ ((¬ (i 51 15 = i 7 15)) → gV w d X_X1_prepare P i l 39 [(0, vR (some 51)), (1, vI x1), (2, vI 0)] []))) : gV w d X_X1_prepare P i l 23 [(0, vR (some 51)), (1, vI x1)] [] := by
  refine g_aload_n (pc' := 24) 0 dX1_prepare_23 rfl rfl ?_
  refine g_getI (pc' := 27) (z := 15) rfl fl_X1_46 rfl rfl dX1_prepare_24 rfl (fun rg10 => ?_)
  refine g_aload_n (pc' := 28) 0 dX1_prepare_27 rfl rfl ?_
  refine g_getR (pc' := 31) (o := some 7) fl_X1_50 rfl rfl rfl dX1_prepare_28 rfl ?_
  refine g_getI (pc' := 34) (z := 15) rfl fl_X1_58 rfl rfl dX1_prepare_31 rfl (fun rg11 => ?_)
  obtain ⟨hk14, hk15⟩ := h
  refine g_icmp_eq (tgt := 61) (pc' := 37) rg10 rg11 Iff.rfl dX1_prepare_34 rfl rfl (fun c13 => ?_) (fun c13 => ?_)
  · have h := hk14 c13
    exact h
  · have h := hk15 c13
    refine g_iconst (pc' := 38) dX1_prepare_37 rfl ?_
    refine g_istore_n (pc' := 39) (L' := [(2, vI 0), (0, vR (some 51)), (1, vI x1)]) dX1_prepare_38 rfl (Nat.le_of_ble_eq_true rfl) rfl ?_
    refine g_sub (L' := [(0, vR (some 51)), (1, vI x1), (2, vI 0)]) [1, 2, 0] rfl ?_
    exact h
set_option maxRecDepth 20000 in
theorem s_X1_prepare_61 {w : Wd} {d : Nat} {P : IM → LM → Prop} {i : IM} {l : LM} (x1 : Int)  (hd : 1 ≤ d) (h : ((rg x1) ∧ (0 ≤ (u2 (u2 i 51 15 (i 7 15)) 51 14 x1) 7 14 ∧ (u2 (u2 i 51 15 (i 7 15)) 51 14 x1) 7 14 < (u2 (u2 i 51 15 (i 7 15)) 51 14 x1) 7 12 → (u2 (u2 i 51 15 (i 7 15)) 51 14 x1) 7 14 < 6) ∧ ((rul w (u2 (u2 i 51 15 (i 7 15)) 51 14 x1) = none → gV w d X_X1_prepare P (u2 (fillA (u2 (u2 i 51 15 (i 7 15)) 51 14 x1) 62 10 0) 51 13 0) l 129 [(0, vR (some 51)), (1, vI x1), (3, vI 0), (4, vI 0)] []) ∧ (∀ lw : Nat, rul w (u2 (u2 i 51 15 (i 7 15)) 51 14 x1) = some lw → (LawAt w lw ∧ gV w d X_X1_prepare P (u2 (fillA (u2 (u2 i 51 15 (i 7 15)) 51 14 x1) 62 10 0) 51 13 0) l 129 [(0, vR (some 51)), (1, vI x1), (3, vI (bI ((menI (u2 (u2 i 51 15 (i 7 15)) 51 14 x1) lw 3 5) ∨ (menI (u2 (u2 i 51 15 (i 7 15)) 51 14 x1) lw 2 5)))), (4, vI 0)] []))))) : gV w d X_X1_prepare P i l 61 [(0, vR (some 51)), (1, vI x1)] [] := by
  obtain ⟨ob17, ob18, h⟩ := h
  refine g_aload_n (pc' := 62) 0 dX1_prepare_61 rfl rfl ?_
  refine g_aload_n (pc' := 63) 0 dX1_prepare_62 rfl rfl ?_
  refine g_getR (pc' := 66) (o := some 7) fl_X1_50 rfl rfl rfl dX1_prepare_63 rfl ?_
  refine g_getI (pc' := 69) (z := 15) rfl fl_X1_58 rfl rfl dX1_prepare_66 rfl (fun rg16 => ?_)
  refine g_putI (pc' := 72) (z := 15) rfl fp_X1_46 rfl rfl rg16 dX1_prepare_69 rfl ?_
  refine g_aload_n (pc' := 73) 0 dX1_prepare_72 rfl rfl ?_
  refine g_iload_n (pc' := 74) 1 dX1_prepare_73 rfl rfl ?_
  refine g_putI (pc' := 77) (z := 14) rfl fp_X1_61 rfl rfl ob17 dX1_prepare_74 rfl ?_
  refine g_aload_n (pc' := 78) 0 dX1_prepare_77 rfl rfl ?_
  refine g_getR (pc' := 81) (o := some 7) fl_X1_50 rfl rfl rfl dX1_prepare_78 rfl ?_
  refine g_pVR (pc' := 84) (vs := []) (st := []) (val := rul w (u2 (u2 i 51 15 (i 7 15)) 51 14 x1)) (c := 9) (sp_X9_ruling (le_hd hd rfl) ob18) mv_X9_ruling lk_X1_71 rfl rfl rfl rfl (Nat.le_of_ble_eq_true rfl) (Nat.le_of_ble_eq_true rfl) rfl dX1_prepare_81 rfl z2 ?_
  refine g_astore_no (pc' := 85) (o := rul w (u2 (u2 i 51 15 (i 7 15)) 51 14 x1)) (L' := [(2, vR (rul w (u2 (u2 i 51 15 (i 7 15)) 51 14 x1))), (0, vR (some 51)), (1, vI x1)]) dX1_prepare_84 rfl (Nat.le_of_ble_eq_true rfl) rfl ?_
  refine g_aload_no (pc' := 86) (o := rul w (u2 (u2 i 51 15 (i 7 15)) 51 14 x1)) 0 dX1_prepare_85 rfl rfl ?_
  rcases ho : rul w (u2 (u2 i 51 15 (i 7 15)) 51 14 x1) with _ | lw
  · have h := h.1 ho
    refine g_ifnull_n (tgt := 111) dX1_prepare_86 rfl ?_
    refine g_iconst (pc' := 112) dX1_prepare_111 rfl ?_
    refine g_istore_n (pc' := 113) (L' := [(3, vI 0), (2, vR none), (0, vR (some 51)), (1, vI x1)]) dX1_prepare_112 rfl (Nat.le_of_ble_eq_true rfl) rfl ?_
    refine g_aload_n (pc' := 114) 2 dX1_prepare_113 rfl rfl ?_
    refine g_getR (pc' := 117) (o := some 62) fl_X1_43 rfl rfl rfl dX1_prepare_114 rfl ?_
    refine g_iconst (pc' := 118) dX1_prepare_117 rfl ?_
    refine g_fill (pc' := 121) (st := []) (le_hd hd rfl) rfl (Nat.le_of_ble_eq_true rfl) (rg_lit rfl) lk_X1_81 (Nat.le_of_ble_eq_true rfl) dX1_prepare_118 rfl ?_
    refine g_aload_n (pc' := 122) 2 dX1_prepare_121 rfl rfl ?_
    refine g_iconst (pc' := 123) dX1_prepare_122 rfl ?_
    refine g_putI (pc' := 126) (z := 13) rfl fp_X1_87 rfl rfl (rg_lit rfl) dX1_prepare_123 rfl ?_
    refine g_iconst (pc' := 127) dX1_prepare_126 rfl ?_
    refine g_istore (pc' := 129) (L' := [(4, vI 0), (3, vI 0), (2, vR none), (0, vR (some 51)), (1, vI x1)]) dX1_prepare_127 rfl (Nat.le_of_ble_eq_true rfl) rfl ?_
    refine g_sub (L' := [(0, vR (some 51)), (1, vI x1), (3, vI 0), (4, vI 0)]) [3, 4, 1, 0] rfl ?_
    exact h
  · obtain ⟨hL, h⟩ := h.2 lw ho
    refine g_ifnull_s (pc' := 89) dX1_prepare_86 rfl ?_
    refine g_aload_n (pc' := 90) 0 dX1_prepare_89 rfl rfl ?_
    refine g_iconst (pc' := 91) dX1_prepare_90 rfl ?_
    refine g_iconst (pc' := 92) dX1_prepare_91 rfl ?_
    refine g_pVI (pc' := 95) (vs := [vI 3, vI 5]) (st := []) (val := bI (menI (u2 (u2 i 51 15 (i 7 15)) 51 14 x1) lw 3 5)) (c := 2) (sp_X2_mentions hL (le_hd hd rfl) (by decide)) mv_X2_mentions lk_X1_75 rfl rfl (sh_law hL) rfl (Nat.le_of_ble_eq_true rfl) (Nat.le_of_ble_eq_true rfl) rfl dX1_prepare_92 rfl z2 (fun rg20 => ?_)
    have hJ : gV w d X_X1_prepare P (u2 (u2 i 51 15 (i 7 15)) 51 14 x1) l 112 [(2, vR (some lw)), (0, vR (some 51)), (1, vI x1)] [vI (bI ((menI (u2 (u2 i 51 15 (i 7 15)) 51 14 x1) lw 3 5) ∨ (menI (u2 (u2 i 51 15 (i 7 15)) 51 14 x1) lw 2 5)))] := by
      refine g_istore_n (pc' := 113) (L' := [(3, vI (bI ((menI (u2 (u2 i 51 15 (i 7 15)) 51 14 x1) lw 3 5) ∨ (menI (u2 (u2 i 51 15 (i 7 15)) 51 14 x1) lw 2 5)))), (2, vR (some lw)), (0, vR (some 51)), (1, vI x1)]) dX1_prepare_112 rfl (Nat.le_of_ble_eq_true rfl) rfl ?_
      refine g_aload_n (pc' := 114) 2 dX1_prepare_113 rfl rfl ?_
      refine g_getR (pc' := 117) (o := some 62) fl_X1_43 rfl rfl rfl dX1_prepare_114 rfl ?_
      refine g_iconst (pc' := 118) dX1_prepare_117 rfl ?_
      refine g_fill (pc' := 121) (st := []) (le_hd hd rfl) rfl (Nat.le_of_ble_eq_true rfl) (rg_lit rfl) lk_X1_81 (Nat.le_of_ble_eq_true rfl) dX1_prepare_118 rfl ?_
      refine g_aload_n (pc' := 122) 2 dX1_prepare_121 rfl rfl ?_
      refine g_iconst (pc' := 123) dX1_prepare_122 rfl ?_
      refine g_putI (pc' := 126) (z := 13) rfl fp_X1_87 rfl rfl (rg_lit rfl) dX1_prepare_123 rfl ?_
      refine g_iconst (pc' := 127) dX1_prepare_126 rfl ?_
      refine g_istore (pc' := 129) (L' := [(4, vI 0), (3, vI (bI ((menI (u2 (u2 i 51 15 (i 7 15)) 51 14 x1) lw 3 5) ∨ (menI (u2 (u2 i 51 15 (i 7 15)) 51 14 x1) lw 2 5)))), (2, vR (some lw)), (0, vR (some 51)), (1, vI x1)]) dX1_prepare_127 rfl (Nat.le_of_ble_eq_true rfl) rfl ?_
      refine g_sub (L' := [(0, vR (some 51)), (1, vI x1), (3, vI (bI ((menI (u2 (u2 i 51 15 (i 7 15)) 51 14 x1) lw 3 5) ∨ (menI (u2 (u2 i 51 15 (i 7 15)) 51 14 x1) lw 2 5)))), (4, vI 0)]) [3, 4, 1, 0] rfl ?_
      exact h
    refine g_if_ne (tgt := 107) (pc' := 98) rg20 (bI_eq _) dX1_prepare_95 rfl rfl (fun c22n => ?_) (fun c22 => ?_)
    · have c22 := Decidable.of_not_not c22n
      refine g_iconst (pc' := 108) dX1_prepare_107 rfl ?_
      refine g_goto (tgt := 112) dX1_prepare_108 rfl ?_
      rw [bI_t (p := ((menI (u2 (u2 i 51 15 (i 7 15)) 51 14 x1) lw 3 5) ∨ (menI (u2 (u2 i 51 15 (i 7 15)) 51 14 x1) lw 2 5))) (Or.inl c22)] at hJ
      exact hJ
    · refine g_aload_n (pc' := 99) 0 dX1_prepare_98 rfl rfl ?_
      refine g_iconst (pc' := 100) dX1_prepare_99 rfl ?_
      refine g_iconst (pc' := 101) dX1_prepare_100 rfl ?_
      refine g_pVI (pc' := 104) (vs := [vI 2, vI 5]) (st := []) (val := bI (menI (u2 (u2 i 51 15 (i 7 15)) 51 14 x1) lw 2 5)) (c := 2) (sp_X2_mentions hL (le_hd hd rfl) (by decide)) mv_X2_mentions lk_X1_75 rfl rfl (sh_law hL) rfl (Nat.le_of_ble_eq_true rfl) (Nat.le_of_ble_eq_true rfl) rfl dX1_prepare_101 rfl z2 (fun rg23 => ?_)
      refine g_if_eq (tgt := 111) (pc' := 107) rg23 (bI_eq _) dX1_prepare_104 rfl rfl (fun c24 => ?_) (fun c24n => ?_)
      · refine g_iconst (pc' := 112) dX1_prepare_111 rfl ?_
        rw [bI_f (p := ((menI (u2 (u2 i 51 15 (i 7 15)) 51 14 x1) lw 3 5) ∨ (menI (u2 (u2 i 51 15 (i 7 15)) 51 14 x1) lw 2 5))) (fun q => q.elim c22 c24)] at hJ
        exact hJ
      · have c24 := Decidable.of_not_not c24n
        refine g_iconst (pc' := 108) dX1_prepare_107 rfl ?_
        refine g_goto (tgt := 112) dX1_prepare_108 rfl ?_
        rw [bI_t (p := ((menI (u2 (u2 i 51 15 (i 7 15)) 51 14 x1) lw 3 5) ∨ (menI (u2 (u2 i 51 15 (i 7 15)) 51 14 x1) lw 2 5))) (Or.inr c24)] at hJ
        exact hJ
set_option maxRecDepth 20000 in
theorem s_X1_prepare_39 {w : Wd} {d : Nat} {P : IM → LM → Prop} {i : IM} {l : LM} (x1 : Int) (x2 : Int)  (h : ((rg x2) ∧ ((i 7 8 ≤ x2) → gV w d X_X1_prepare P i l 61 [(0, vR (some 51)), (1, vI x1)] []) ∧ ((¬ (i 7 8 ≤ x2)) → cVd w d X_X1_layChoices [vR (some 51), vI x2] i l (fun i29 l29 => gV w d X_X1_prepare P i29 l29 39 [(0, vR (some 51)), (1, vI x1), (2, vI (x2 + 1))] [])))) : gV w d X_X1_prepare P i l 39 [(0, vR (some 51)), (1, vI x1), (2, vI x2)] [] := by
  refine g_iload_n (pc' := 40) 2 dX1_prepare_39 rfl rfl ?_
  refine g_aload_n (pc' := 41) 0 dX1_prepare_40 rfl rfl ?_
  refine g_getR (pc' := 44) (o := some 7) fl_X1_50 rfl rfl rfl dX1_prepare_41 rfl ?_
  refine g_getI (pc' := 47) (z := 8) rfl fl_X1_64 rfl rfl dX1_prepare_44 rfl (fun rg25 => ?_)
  obtain ⟨hob27, hk30, hk31⟩ := h
  refine g_icmp_ge (tgt := 61) (pc' := 50) (hob27) rg25 Iff.rfl dX1_prepare_47 rfl rfl (fun c28 => ?_) (fun c28 => ?_)
  · have h := hk30 c28
    refine g_sub (L' := [(0, vR (some 51)), (1, vI x1)]) [0, 1] rfl ?_
    exact h
  · have h := hk31 c28
    refine g_aload_n (pc' := 51) 0 dX1_prepare_50 rfl rfl ?_
    refine g_iload_n (pc' := 52) 2 dX1_prepare_51 rfl rfl ?_
    refine g_cVV (pc' := 55) (vs := [vI x2]) (st := []) (c := 1) h mv_X1_layChoices lk_X1_67 rfl rfl rfl rfl (Nat.le_of_ble_eq_true rfl) (Nat.le_of_ble_eq_true rfl) rfl dX1_prepare_52 rfl z2 (fun i29 l29 h => ?_)
    refine g_iinc (pc' := 58) (L' := [(2, vI (x2 + 1)), (0, vR (some 51)), (1, vI x1)]) 2 dX1_prepare_55 rfl (Nat.le_of_ble_eq_true rfl) rfl rfl ?_
    refine g_goto (tgt := 39) dX1_prepare_58 rfl ?_
    refine g_sub (L' := [(0, vR (some 51)), (1, vI x1), (2, vI (x2 + 1))]) [1, 2, 0] rfl ?_
    exact h
set_option maxRecDepth 20000 in
theorem s_X1_prepare_129 {w : Wd} {d : Nat} {P : IM → LM → Prop} {i : IM} {l : LM} (x1 : Int) (x3 : Int) (x4 : Int)  (hd : 1 ≤ d) (h : ((rg x4) ∧ ((12 ≤ x4) → P i l) ∧ ((¬ (12 ≤ x4) ∧ (¬ (iand (ishr x1 x4) 1 = 1))) → gV w d X_X1_prepare P i l 129 [(0, vR (some 51)), (1, vI x1), (3, vI x3), (4, vI (x4 + 1))] []) ∧ ((¬ (12 ≤ x4) ∧ (iand (ishr x1 x4) 1 = 1)) → cVd w d X_X1_layRow [vR (some 51), vI x4] i l (fun i36 l36 => ((rg x3) ∧ ((x3 = 0) → gV w d X_X1_prepare P i36 l36 129 [(0, vR (some 51)), (1, vI x1), (3, vI x3), (4, vI (x4 + 1))] []) ∧ ((¬ (x3 = 0)) → gV w d X_X1_prepare P (fillA i36 62 10 0) l36 129 [(0, vR (some 51)), (1, vI x1), (3, vI x3), (4, vI (x4 + 1))] [])))))) : gV w d X_X1_prepare P i l 129 [(0, vR (some 51)), (1, vI x1), (3, vI x3), (4, vI x4)] [] := by
  refine g_iload (pc' := 131) 3 dX1_prepare_129 rfl rfl ?_
  refine g_bipush (pc' := 133) dX1_prepare_131 rfl rfl ?_
  obtain ⟨hob33, hk42, hk43, hk44⟩ := h
  have hk42g : (12 ≤ x4) → gV w d X_X1_prepare P i l 170 [(0, vR (some 51)), (1, vI x1), (3, vI x3), (4, vI x4)] [] := by
    intro hp
    have h := hk42 hp
    exact g_retV rfl dX1_prepare_170 h
  have hk43g : (¬ (12 ≤ x4) ∧ (¬ (iand (ishr x1 x4) 1 = 1))) → gV w d X_X1_prepare P i l 164 [(0, vR (some 51)), (1, vI x1), (3, vI x3), (4, vI x4)] [] := by
    intro hp
    have h := hk43 hp
    refine g_iinc (pc' := 167) (L' := [(4, vI (x4 + 1)), (0, vR (some 51)), (1, vI x1), (3, vI x3)]) 3 dX1_prepare_164 rfl (Nat.le_of_ble_eq_true rfl) rfl rfl ?_
    refine g_goto (tgt := 129) dX1_prepare_167 rfl ?_
    refine g_sub (L' := [(0, vR (some 51)), (1, vI x1), (3, vI x3), (4, vI (x4 + 1))]) [1, 2, 3, 0] rfl ?_
    exact h
  have hk44g : (¬ (12 ≤ x4) ∧ (iand (ishr x1 x4) 1 = 1)) → gV w d X_X1_prepare P i l 146 [(0, vR (some 51)), (1, vI x1), (3, vI x3), (4, vI x4)] [] := by
    intro hp
    have h := hk44 hp
    refine g_aload_n (pc' := 147) 0 dX1_prepare_146 rfl rfl ?_
    refine g_iload (pc' := 149) 3 dX1_prepare_147 rfl rfl ?_
    refine g_cVV (pc' := 152) (vs := [vI x4]) (st := []) (c := 1) h mv_X1_layRow lk_X1_90 rfl rfl rfl rfl (Nat.le_of_ble_eq_true rfl) (Nat.le_of_ble_eq_true rfl) rfl dX1_prepare_149 rfl z2 (fun i36 l36 h => ?_)
    refine g_iload_n (pc' := 153) 2 dX1_prepare_152 rfl rfl ?_
    obtain ⟨hob38, hk40, hk41⟩ := h
    refine g_if_eq (tgt := 164) (pc' := 156) (hob38) Iff.rfl dX1_prepare_153 rfl rfl (fun c39 => ?_) (fun c39 => ?_)
    · have h := hk40 c39
      refine g_iinc (pc' := 167) (L' := [(4, vI (x4 + 1)), (0, vR (some 51)), (1, vI x1), (3, vI x3)]) 3 dX1_prepare_164 rfl (Nat.le_of_ble_eq_true rfl) rfl rfl ?_
      refine g_goto (tgt := 129) dX1_prepare_167 rfl ?_
      refine g_sub (L' := [(0, vR (some 51)), (1, vI x1), (3, vI x3), (4, vI (x4 + 1))]) [1, 2, 3, 0] rfl ?_
      exact h
    · have h := hk41 c39
      refine g_aload_n (pc' := 157) 0 dX1_prepare_156 rfl rfl ?_
      refine g_getR (pc' := 160) (o := some 62) fl_X1_43 rfl rfl rfl dX1_prepare_157 rfl ?_
      refine g_iconst (pc' := 161) dX1_prepare_160 rfl ?_
      refine g_fill (pc' := 164) (st := []) (le_hd hd rfl) rfl (Nat.le_of_ble_eq_true rfl) (rg_lit rfl) lk_X1_81 (Nat.le_of_ble_eq_true rfl) dX1_prepare_161 rfl ?_
      refine g_iinc (pc' := 167) (L' := [(4, vI (x4 + 1)), (0, vR (some 51)), (1, vI x1), (3, vI x3)]) 3 dX1_prepare_164 rfl (Nat.le_of_ble_eq_true rfl) rfl rfl ?_
      refine g_goto (tgt := 129) dX1_prepare_167 rfl ?_
      refine g_sub (L' := [(0, vR (some 51)), (1, vI x1), (3, vI x3), (4, vI (x4 + 1))]) [1, 2, 3, 0] rfl ?_
      exact h
  refine g_icmp_ge (tgt := 170) (pc' := 136) (hob33) (rg_lit rfl) Iff.rfl dX1_prepare_133 rfl rfl (fun c34 => ?_) (fun c34 => ?_)
  · exact hk42g c34
  · refine g_iload_n (pc' := 137) 1 dX1_prepare_136 rfl rfl ?_
    refine g_iload (pc' := 139) 3 dX1_prepare_137 rfl rfl ?_
    refine g_ishr (pc' := 140) dX1_prepare_139 rfl ?_
    refine g_iconst (pc' := 141) dX1_prepare_140 rfl ?_
    refine g_iand (pc' := 142) dX1_prepare_141 rfl ?_
    refine g_iconst (pc' := 143) dX1_prepare_142 rfl ?_
    refine g_icmp_ne (tgt := 164) (pc' := 146) (rg_iand _ _) (rg_lit rfl) Iff.rfl dX1_prepare_143 rfl rfl (fun c35 => ?_) (fun c35 => ?_)
    · exact hk43g ⟨c34, c35⟩
    · exact hk44g ⟨c34, c35⟩

theorem dX1_layChoices_0 : decode cX1_layChoices 0 = .ok (.aload_n 0, 1) := by decide +kernel
theorem dX1_layChoices_1 : decode cX1_layChoices 1 = .ok (.getfield 50, 3) := by decide +kernel
theorem dX1_layChoices_4 : decode cX1_layChoices 4 = .ok (.iload_n 1, 1) := by decide +kernel
theorem dX1_layChoices_5 : decode cX1_layChoices 5 = .ok (.iconst 1, 1) := by decide +kernel
theorem dX1_layChoices_6 : decode cX1_layChoices 6 = .ok (.invokevirtual 93, 3) := by decide +kernel
theorem dX1_layChoices_9 : decode cX1_layChoices 9 = .ok (.istore_n 2, 1) := by decide +kernel
theorem dX1_layChoices_10 : decode cX1_layChoices 10 = .ok (.aload_n 0, 1) := by decide +kernel
theorem dX1_layChoices_11 : decode cX1_layChoices 11 = .ok (.getfield 50, 3) := by decide +kernel
theorem dX1_layChoices_14 : decode cX1_layChoices 14 = .ok (.iload_n 1, 1) := by decide +kernel
theorem dX1_layChoices_15 : decode cX1_layChoices 15 = .ok (.iconst 2, 1) := by decide +kernel
theorem dX1_layChoices_16 : decode cX1_layChoices 16 = .ok (.invokevirtual 93, 3) := by decide +kernel
theorem dX1_layChoices_19 : decode cX1_layChoices 19 = .ok (.istore_n 3, 1) := by decide +kernel
theorem dX1_layChoices_20 : decode cX1_layChoices 20 = .ok (.aload_n 0, 1) := by decide +kernel
theorem dX1_layChoices_21 : decode cX1_layChoices 21 = .ok (.getfield 50, 3) := by decide +kernel
theorem dX1_layChoices_24 : decode cX1_layChoices 24 = .ok (.iload_n 1, 1) := by decide +kernel
theorem dX1_layChoices_25 : decode cX1_layChoices 25 = .ok (.iconst 5, 1) := by decide +kernel
theorem dX1_layChoices_26 : decode cX1_layChoices 26 = .ok (.invokevirtual 93, 3) := by decide +kernel
theorem dX1_layChoices_29 : decode cX1_layChoices 29 = .ok (.iconst 1, 1) := by decide +kernel
theorem dX1_layChoices_30 : decode cX1_layChoices 30 = .ok (.if_icmp .ne 7, 3) := by decide +kernel
theorem dX1_layChoices_33 : decode cX1_layChoices 33 = .ok (.iconst 1, 1) := by decide +kernel
theorem dX1_layChoices_34 : decode cX1_layChoices 34 = .ok (.goto 4, 3) := by decide +kernel
theorem dX1_layChoices_37 : decode cX1_layChoices 37 = .ok (.iconst 0, 1) := by decide +kernel
theorem dX1_layChoices_38 : decode cX1_layChoices 38 = .ok (.istore 4, 2) := by decide +kernel
theorem dX1_layChoices_40 : decode cX1_layChoices 40 = .ok (.iload_n 2, 1) := by decide +kernel
theorem dX1_layChoices_41 : decode cX1_layChoices 41 = .ok (.iload_n 3, 1) := by decide +kernel
theorem dX1_layChoices_42 : decode cX1_layChoices 42 = .ok (.if_icmp .eq 8, 3) := by decide +kernel
theorem dX1_layChoices_45 : decode cX1_layChoices 45 = .ok (.iload 4, 2) := by decide +kernel
theorem dX1_layChoices_47 : decode cX1_layChoices 47 = .ok (.ifCond .ne 7, 3) := by decide +kernel
theorem dX1_layChoices_50 : decode cX1_layChoices 50 = .ok (.iconst 1, 1) := by decide +kernel
theorem dX1_layChoices_51 : decode cX1_layChoices 51 = .ok (.goto 4, 3) := by decide +kernel
theorem dX1_layChoices_54 : decode cX1_layChoices 54 = .ok (.iconst 0, 1) := by decide +kernel
theorem dX1_layChoices_55 : decode cX1_layChoices 55 = .ok (.istore 5, 2) := by decide +kernel
theorem dX1_layChoices_57 : decode cX1_layChoices 57 = .ok (.iload_n 2, 1) := by decide +kernel
theorem dX1_layChoices_58 : decode cX1_layChoices 58 = .ok (.iload_n 3, 1) := by decide +kernel
theorem dX1_layChoices_59 : decode cX1_layChoices 59 = .ok (.if_icmp .eq 9, 3) := by decide +kernel
theorem dX1_layChoices_62 : decode cX1_layChoices 62 = .ok (.iload 5, 2) := by decide +kernel
theorem dX1_layChoices_64 : decode cX1_layChoices 64 = .ok (.iconst 2, 1) := by decide +kernel
theorem dX1_layChoices_65 : decode cX1_layChoices 65 = .ok (.ior, 1) := by decide +kernel
theorem dX1_layChoices_66 : decode cX1_layChoices 66 = .ok (.istore 5, 2) := by decide +kernel
theorem dX1_layChoices_68 : decode cX1_layChoices 68 = .ok (.iload_n 2, 1) := by decide +kernel
theorem dX1_layChoices_69 : decode cX1_layChoices 69 = .ok (.ifCond .eq 18, 3) := by decide +kernel
theorem dX1_layChoices_72 : decode cX1_layChoices 72 = .ok (.iload_n 3, 1) := by decide +kernel
theorem dX1_layChoices_73 : decode cX1_layChoices 73 = .ok (.ifCond .eq 14, 3) := by decide +kernel
theorem dX1_layChoices_76 : decode cX1_layChoices 76 = .ok (.iload 4, 2) := by decide +kernel
theorem dX1_layChoices_78 : decode cX1_layChoices 78 = .ok (.ifCond .ne 9, 3) := by decide +kernel
theorem dX1_layChoices_81 : decode cX1_layChoices 81 = .ok (.iload 5, 2) := by decide +kernel
theorem dX1_layChoices_83 : decode cX1_layChoices 83 = .ok (.iconst 4, 1) := by decide +kernel
theorem dX1_layChoices_84 : decode cX1_layChoices 84 = .ok (.ior, 1) := by decide +kernel
theorem dX1_layChoices_85 : decode cX1_layChoices 85 = .ok (.istore 5, 2) := by decide +kernel
theorem dX1_layChoices_87 : decode cX1_layChoices 87 = .ok (.aload_n 0, 1) := by decide +kernel
theorem dX1_layChoices_88 : decode cX1_layChoices 88 = .ok (.getfield 11, 3) := by decide +kernel
theorem dX1_layChoices_91 : decode cX1_layChoices 91 = .ok (.iload_n 1, 1) := by decide +kernel
theorem dX1_layChoices_92 : decode cX1_layChoices 92 = .ok (.iload 5, 2) := by decide +kernel
theorem dX1_layChoices_94 : decode cX1_layChoices 94 = .ok (.iastore, 1) := by decide +kernel
theorem dX1_layChoices_95 : decode cX1_layChoices 95 = .ok (.iconst 0, 1) := by decide +kernel
theorem dX1_layChoices_96 : decode cX1_layChoices 96 = .ok (.istore 6, 2) := by decide +kernel
theorem dX1_layChoices_98 : decode cX1_layChoices 98 = .ok (.iload 6, 2) := by decide +kernel
theorem dX1_layChoices_100 : decode cX1_layChoices 100 = .ok (.iconst 3, 1) := by decide +kernel
theorem dX1_layChoices_101 : decode cX1_layChoices 101 = .ok (.if_icmp .ge 174, 3) := by decide +kernel
theorem dX1_layChoices_104 : decode cX1_layChoices 104 = .ok (.iload_n 1, 1) := by decide +kernel
theorem dX1_layChoices_105 : decode cX1_layChoices 105 = .ok (.iconst 3, 1) := by decide +kernel
theorem dX1_layChoices_106 : decode cX1_layChoices 106 = .ok (.imul, 1) := by decide +kernel
theorem dX1_layChoices_107 : decode cX1_layChoices 107 = .ok (.iload 6, 2) := by decide +kernel
theorem dX1_layChoices_109 : decode cX1_layChoices 109 = .ok (.iadd, 1) := by decide +kernel
theorem dX1_layChoices_110 : decode cX1_layChoices 110 = .ok (.istore 7, 2) := by decide +kernel
theorem dX1_layChoices_112 : decode cX1_layChoices 112 = .ok (.iload 6, 2) := by decide +kernel
theorem dX1_layChoices_114 : decode cX1_layChoices 114 = .ok (.ifCond .ne 7, 3) := by decide +kernel
theorem dX1_layChoices_117 : decode cX1_layChoices 117 = .ok (.iload_n 2, 1) := by decide +kernel
theorem dX1_layChoices_118 : decode cX1_layChoices 118 = .ok (.goto 14, 3) := by decide +kernel
theorem dX1_layChoices_121 : decode cX1_layChoices 121 = .ok (.iload 6, 2) := by decide +kernel
theorem dX1_layChoices_123 : decode cX1_layChoices 123 = .ok (.iconst 1, 1) := by decide +kernel
theorem dX1_layChoices_124 : decode cX1_layChoices 124 = .ok (.if_icmp .ne 7, 3) := by decide +kernel
theorem dX1_layChoices_127 : decode cX1_layChoices 127 = .ok (.iload_n 3, 1) := by decide +kernel
theorem dX1_layChoices_128 : decode cX1_layChoices 128 = .ok (.goto 4, 3) := by decide +kernel
theorem dX1_layChoices_131 : decode cX1_layChoices 131 = .ok (.iconst 0, 1) := by decide +kernel
theorem dX1_layChoices_132 : decode cX1_layChoices 132 = .ok (.istore 8, 2) := by decide +kernel
theorem dX1_layChoices_134 : decode cX1_layChoices 134 = .ok (.iload 5, 2) := by decide +kernel
theorem dX1_layChoices_136 : decode cX1_layChoices 136 = .ok (.iload 6, 2) := by decide +kernel
theorem dX1_layChoices_138 : decode cX1_layChoices 138 = .ok (.ishr, 1) := by decide +kernel
theorem dX1_layChoices_139 : decode cX1_layChoices 139 = .ok (.iconst 1, 1) := by decide +kernel
theorem dX1_layChoices_140 : decode cX1_layChoices 140 = .ok (.iand, 1) := by decide +kernel
theorem dX1_layChoices_141 : decode cX1_layChoices 141 = .ok (.iconst 1, 1) := by decide +kernel
theorem dX1_layChoices_142 : decode cX1_layChoices 142 = .ok (.if_icmp .ne 7, 3) := by decide +kernel
theorem dX1_layChoices_145 : decode cX1_layChoices 145 = .ok (.iconst 1, 1) := by decide +kernel
theorem dX1_layChoices_146 : decode cX1_layChoices 146 = .ok (.goto 4, 3) := by decide +kernel
theorem dX1_layChoices_149 : decode cX1_layChoices 149 = .ok (.iconst 0, 1) := by decide +kernel
theorem dX1_layChoices_150 : decode cX1_layChoices 150 = .ok (.istore 9, 2) := by decide +kernel
theorem dX1_layChoices_152 : decode cX1_layChoices 152 = .ok (.aload_n 0, 1) := by decide +kernel
theorem dX1_layChoices_153 : decode cX1_layChoices 153 = .ok (.getfield 34, 3) := by decide +kernel
theorem dX1_layChoices_156 : decode cX1_layChoices 156 = .ok (.iload 7, 2) := by decide +kernel
theorem dX1_layChoices_158 : decode cX1_layChoices 158 = .ok (.iload 8, 2) := by decide +kernel
theorem dX1_layChoices_160 : decode cX1_layChoices 160 = .ok (.iastore, 1) := by decide +kernel
theorem dX1_layChoices_161 : decode cX1_layChoices 161 = .ok (.aload_n 0, 1) := by decide +kernel
theorem dX1_layChoices_162 : decode cX1_layChoices 162 = .ok (.getfield 15, 3) := by decide +kernel
theorem dX1_layChoices_165 : decode cX1_layChoices 165 = .ok (.iload 7, 2) := by decide +kernel
theorem dX1_layChoices_167 : decode cX1_layChoices 167 = .ok (.iload 9, 2) := by decide +kernel
theorem dX1_layChoices_169 : decode cX1_layChoices 169 = .ok (.ifCond .eq 21, 3) := by decide +kernel
theorem dX1_layChoices_172 : decode cX1_layChoices 172 = .ok (.iload 6, 2) := by decide +kernel
theorem dX1_layChoices_174 : decode cX1_layChoices 174 = .ok (.ifCond .eq 16, 3) := by decide +kernel
theorem dX1_layChoices_177 : decode cX1_layChoices 177 = .ok (.aload_n 0, 1) := by decide +kernel
theorem dX1_layChoices_178 : decode cX1_layChoices 178 = .ok (.getfield 54, 3) := by decide +kernel
theorem dX1_layChoices_181 : decode cX1_layChoices 181 = .ok (.iload_n 1, 1) := by decide +kernel
theorem dX1_layChoices_182 : decode cX1_layChoices 182 = .ok (.iload 8, 2) := by decide +kernel
theorem dX1_layChoices_184 : decode cX1_layChoices 184 = .ok (.invokevirtual 97, 3) := by decide +kernel
theorem dX1_layChoices_187 : decode cX1_layChoices 187 = .ok (.goto 4, 3) := by decide +kernel
theorem dX1_layChoices_190 : decode cX1_layChoices 190 = .ok (.iconst 0, 1) := by decide +kernel
theorem dX1_layChoices_191 : decode cX1_layChoices 191 = .ok (.iastore, 1) := by decide +kernel
theorem dX1_layChoices_192 : decode cX1_layChoices 192 = .ok (.aload_n 0, 1) := by decide +kernel
theorem dX1_layChoices_193 : decode cX1_layChoices 193 = .ok (.getfield 18, 3) := by decide +kernel
theorem dX1_layChoices_196 : decode cX1_layChoices 196 = .ok (.iload 7, 2) := by decide +kernel
theorem dX1_layChoices_198 : decode cX1_layChoices 198 = .ok (.iload 8, 2) := by decide +kernel
theorem dX1_layChoices_200 : decode cX1_layChoices 200 = .ok (.iload_n 3, 1) := by decide +kernel
theorem dX1_layChoices_201 : decode cX1_layChoices 201 = .ok (.if_icmp .ne 15, 3) := by decide +kernel
theorem dX1_layChoices_204 : decode cX1_layChoices 204 = .ok (.aload_n 0, 1) := by decide +kernel
theorem dX1_layChoices_205 : decode cX1_layChoices 205 = .ok (.getfield 50, 3) := by decide +kernel
theorem dX1_layChoices_208 : decode cX1_layChoices 208 = .ok (.iload_n 1, 1) := by decide +kernel
theorem dX1_layChoices_209 : decode cX1_layChoices 209 = .ok (.iconst 4, 1) := by decide +kernel
theorem dX1_layChoices_210 : decode cX1_layChoices 210 = .ok (.invokevirtual 93, 3) := by decide +kernel
theorem dX1_layChoices_213 : decode cX1_layChoices 213 = .ok (.goto 4, 3) := by decide +kernel
theorem dX1_layChoices_216 : decode cX1_layChoices 216 = .ok (.iconst 0, 1) := by decide +kernel
theorem dX1_layChoices_217 : decode cX1_layChoices 217 = .ok (.aload_n 0, 1) := by decide +kernel
theorem dX1_layChoices_218 : decode cX1_layChoices 218 = .ok (.getfield 15, 3) := by decide +kernel
theorem dX1_layChoices_221 : decode cX1_layChoices 221 = .ok (.iload 7, 2) := by decide +kernel
theorem dX1_layChoices_223 : decode cX1_layChoices 223 = .ok (.iaload, 1) := by decide +kernel
theorem dX1_layChoices_224 : decode cX1_layChoices 224 = .ok (.isub, 1) := by decide +kernel
theorem dX1_layChoices_225 : decode cX1_layChoices 225 = .ok (.iastore, 1) := by decide +kernel
theorem dX1_layChoices_226 : decode cX1_layChoices 226 = .ok (.aload_n 0, 1) := by decide +kernel
theorem dX1_layChoices_227 : decode cX1_layChoices 227 = .ok (.getfield 21, 3) := by decide +kernel
theorem dX1_layChoices_230 : decode cX1_layChoices 230 = .ok (.iload 7, 2) := by decide +kernel
theorem dX1_layChoices_232 : decode cX1_layChoices 232 = .ok (.iload 8, 2) := by decide +kernel
theorem dX1_layChoices_234 : decode cX1_layChoices 234 = .ok (.ifCond .ne 7, 3) := by decide +kernel
theorem dX1_layChoices_237 : decode cX1_layChoices 237 = .ok (.iconst 1, 1) := by decide +kernel
theorem dX1_layChoices_238 : decode cX1_layChoices 238 = .ok (.goto 4, 3) := by decide +kernel
theorem dX1_layChoices_241 : decode cX1_layChoices 241 = .ok (.iconst 0, 1) := by decide +kernel
theorem dX1_layChoices_242 : decode cX1_layChoices 242 = .ok (.iload 6, 2) := by decide +kernel
theorem dX1_layChoices_244 : decode cX1_layChoices 244 = .ok (.ifCond .ne 7, 3) := by decide +kernel
theorem dX1_layChoices_247 : decode cX1_layChoices 247 = .ok (.iconst 0, 1) := by decide +kernel
theorem dX1_layChoices_248 : decode cX1_layChoices 248 = .ok (.goto 6, 3) := by decide +kernel
theorem dX1_layChoices_251 : decode cX1_layChoices 251 = .ok (.sipush 256, 3) := by decide +kernel
theorem dX1_layChoices_254 : decode cX1_layChoices 254 = .ok (.ior, 1) := by decide +kernel
theorem dX1_layChoices_255 : decode cX1_layChoices 255 = .ok (.iload 8, 2) := by decide +kernel
theorem dX1_layChoices_257 : decode cX1_layChoices 257 = .ok (.iload_n 3, 1) := by decide +kernel
theorem dX1_layChoices_258 : decode cX1_layChoices 258 = .ok (.if_icmp .ne 7, 3) := by decide +kernel
theorem dX1_layChoices_261 : decode cX1_layChoices 261 = .ok (.iconst 0, 1) := by decide +kernel
theorem dX1_layChoices_262 : decode cX1_layChoices 262 = .ok (.goto 5, 3) := by decide +kernel
theorem dX1_layChoices_265 : decode cX1_layChoices 265 = .ok (.ldc 102, 2) := by decide +kernel
theorem dX1_layChoices_267 : decode cX1_layChoices 267 = .ok (.ior, 1) := by decide +kernel
theorem dX1_layChoices_268 : decode cX1_layChoices 268 = .ok (.iastore, 1) := by decide +kernel
theorem dX1_layChoices_269 : decode cX1_layChoices 269 = .ok (.iinc 6 1, 3) := by decide +kernel
theorem dX1_layChoices_272 : decode cX1_layChoices 272 = .ok (.goto (-174), 3) := by decide +kernel
theorem dX1_layChoices_275 : decode cX1_layChoices 275 = .ok (.return_, 1) := by decide +kernel
set_option maxRecDepth 20000 in
theorem s_X1_layChoices {w : Wd} {d : Nat} {P : IM → LM → Prop} {i : IM} {l : LM} (p0 : Int)  (hd : 1 ≤ d) (h : ((0 ≤ p0 * 8 + 1 ∧ p0 * 8 + 1 < 80) ∧ (0 ≤ p0 * 8 + 2 ∧ p0 * 8 + 2 < 80) ∧ (0 ≤ p0 * 8 + 5 ∧ p0 * 8 + 5 < 80) ∧ ((((i 8 (p0 * 8 + 1) = i 8 (p0 * 8 + 2)) ∨ (¬ (i 8 (p0 * 8 + 5) = 1))) → gV w d X_X1_layChoices P i l 50 [(0, vR (some 51)), (1, vI p0), (2, vI (i 8 (p0 * 8 + 1))), (3, vI (i 8 (p0 * 8 + 2))), (4, vI (bI (i 8 (p0 * 8 + 5) = 1)))] []) ∧ ((¬ ((i 8 (p0 * 8 + 1) = i 8 (p0 * 8 + 2)) ∨ (¬ (i 8 (p0 * 8 + 5) = 1)))) → (((i 8 (p0 * 8 + 1) = i 8 (p0 * 8 + 2)) → gV w d X_X1_layChoices P i l 68 [(0, vR (some 51)), (1, vI p0), (2, vI (i 8 (p0 * 8 + 1))), (3, vI (i 8 (p0 * 8 + 2))), (4, vI (bI (i 8 (p0 * 8 + 5) = 1))), (5, vI 0)] []) ∧ ((¬ (i 8 (p0 * 8 + 1) = i 8 (p0 * 8 + 2))) → gV w d X_X1_layChoices P i l 68 [(0, vR (some 51)), (1, vI p0), (2, vI (i 8 (p0 * 8 + 1))), (3, vI (i 8 (p0 * 8 + 2))), (4, vI (bI (i 8 (p0 * 8 + 5) = 1))), (5, vI (ior 0 2))] [])))))) : gV w d X_X1_layChoices P i l 0 [(0, vR (some 51)), (1, vI p0)] [] := by
  obtain ⟨ob1, ob3, ob5, h⟩ := h
  refine g_aload_n (pc' := 1) 0 dX1_layChoices_0 rfl rfl ?_
  refine g_getR (pc' := 4) (o := some 7) fl_X1_50 rfl rfl rfl dX1_layChoices_1 rfl ?_
  refine g_iload_n (pc' := 5) 1 dX1_layChoices_4 rfl rfl ?_
  refine g_iconst (pc' := 6) dX1_layChoices_5 rfl ?_
  refine g_pVI (pc' := 9) (vs := [vI p0, vI 1]) (st := []) (val := i 8 (p0 * 8 + 1)) (c := 9) (sp_X9_trait (le_hd hd rfl) ob1) mv_X9_trait lk_X1_93 rfl rfl rfl rfl (Nat.le_of_ble_eq_true rfl) (Nat.le_of_ble_eq_true rfl) rfl dX1_layChoices_6 rfl z2 (fun rg2 => ?_)
  refine g_istore_n (pc' := 10) (L' := [(2, vI (i 8 (p0 * 8 + 1))), (0, vR (some 51)), (1, vI p0)]) dX1_layChoices_9 rfl (Nat.le_of_ble_eq_true rfl) rfl ?_
  refine g_aload_n (pc' := 11) 1 dX1_layChoices_10 rfl rfl ?_
  refine g_getR (pc' := 14) (o := some 7) fl_X1_50 rfl rfl rfl dX1_layChoices_11 rfl ?_
  refine g_iload_n (pc' := 15) 2 dX1_layChoices_14 rfl rfl ?_
  refine g_iconst (pc' := 16) dX1_layChoices_15 rfl ?_
  refine g_pVI (pc' := 19) (vs := [vI p0, vI 2]) (st := []) (val := i 8 (p0 * 8 + 2)) (c := 9) (sp_X9_trait (le_hd hd rfl) ob3) mv_X9_trait lk_X1_93 rfl rfl rfl rfl (Nat.le_of_ble_eq_true rfl) (Nat.le_of_ble_eq_true rfl) rfl dX1_layChoices_16 rfl z2 (fun rg4 => ?_)
  refine g_istore_n (pc' := 20) (L' := [(3, vI (i 8 (p0 * 8 + 2))), (2, vI (i 8 (p0 * 8 + 1))), (0, vR (some 51)), (1, vI p0)]) dX1_layChoices_19 rfl (Nat.le_of_ble_eq_true rfl) rfl ?_
  refine g_aload_n (pc' := 21) 2 dX1_layChoices_20 rfl rfl ?_
  refine g_getR (pc' := 24) (o := some 7) fl_X1_50 rfl rfl rfl dX1_layChoices_21 rfl ?_
  refine g_iload_n (pc' := 25) 3 dX1_layChoices_24 rfl rfl ?_
  refine g_iconst (pc' := 26) dX1_layChoices_25 rfl ?_
  refine g_pVI (pc' := 29) (vs := [vI p0, vI 5]) (st := []) (val := i 8 (p0 * 8 + 5)) (c := 9) (sp_X9_trait (le_hd hd rfl) ob5) mv_X9_trait lk_X1_93 rfl rfl rfl rfl (Nat.le_of_ble_eq_true rfl) (Nat.le_of_ble_eq_true rfl) rfl dX1_layChoices_26 rfl z2 (fun rg6 => ?_)
  refine g_iconst (pc' := 30) dX1_layChoices_29 rfl ?_
  have hJ : gV w d X_X1_layChoices P i l 38 [(3, vI (i 8 (p0 * 8 + 2))), (2, vI (i 8 (p0 * 8 + 1))), (0, vR (some 51)), (1, vI p0)] [vI (bI (i 8 (p0 * 8 + 5) = 1))] := by
    refine g_istore (pc' := 40) (L' := [(4, vI (bI (i 8 (p0 * 8 + 5) = 1))), (3, vI (i 8 (p0 * 8 + 2))), (2, vI (i 8 (p0 * 8 + 1))), (0, vR (some 51)), (1, vI p0)]) dX1_layChoices_38 rfl (Nat.le_of_ble_eq_true rfl) rfl ?_
    refine g_iload_n (pc' := 41) 2 dX1_layChoices_40 rfl rfl ?_
    refine g_iload_n (pc' := 42) 1 dX1_layChoices_41 rfl rfl ?_
    obtain ⟨hk16, hk17⟩ := h
    have hk16g : ((i 8 (p0 * 8 + 1) = i 8 (p0 * 8 + 2)) ∨ (¬ (i 8 (p0 * 8 + 5) = 1))) → gV w d X_X1_layChoices P i l 50 [(4, vI (bI (i 8 (p0 * 8 + 5) = 1))), (3, vI (i 8 (p0 * 8 + 2))), (2, vI (i 8 (p0 * 8 + 1))), (0, vR (some 51)), (1, vI p0)] [] := by
      intro hp
      have h := hk16 hp
      refine g_sub (L' := [(0, vR (some 51)), (1, vI p0), (2, vI (i 8 (p0 * 8 + 1))), (3, vI (i 8 (p0 * 8 + 2))), (4, vI (bI (i 8 (p0 * 8 + 5) = 1)))]) [3, 4, 2, 1, 0] rfl ?_
      exact h
    have hk17g : (¬ ((i 8 (p0 * 8 + 1) = i 8 (p0 * 8 + 2)) ∨ (¬ (i 8 (p0 * 8 + 5) = 1)))) → gV w d X_X1_layChoices P i l 55 [(4, vI (bI (i 8 (p0 * 8 + 5) = 1))), (3, vI (i 8 (p0 * 8 + 2))), (2, vI (i 8 (p0 * 8 + 1))), (0, vR (some 51)), (1, vI p0)] [vI 0] := by
      intro hp
      have h := hk17 hp
      refine g_istore (pc' := 57) (L' := [(5, vI 0), (4, vI (bI (i 8 (p0 * 8 + 5) = 1))), (3, vI (i 8 (p0 * 8 + 2))), (2, vI (i 8 (p0 * 8 + 1))), (0, vR (some 51)), (1, vI p0)]) dX1_layChoices_55 rfl (Nat.le_of_ble_eq_true rfl) rfl ?_
      refine g_iload_n (pc' := 58) 3 dX1_layChoices_57 rfl rfl ?_
      refine g_iload_n (pc' := 59) 2 dX1_layChoices_58 rfl rfl ?_
      obtain ⟨hk14, hk15⟩ := h
      refine g_icmp_eq (tgt := 68) (pc' := 62) rg2 rg4 Iff.rfl dX1_layChoices_59 rfl rfl (fun c13 => ?_) (fun c13 => ?_)
      · have h := hk14 c13
        refine g_sub (L' := [(0, vR (some 51)), (1, vI p0), (2, vI (i 8 (p0 * 8 + 1))), (3, vI (i 8 (p0 * 8 + 2))), (4, vI (bI (i 8 (p0 * 8 + 5) = 1))), (5, vI 0)]) [4, 5, 3, 2, 1, 0] rfl ?_
        exact h
      · have h := hk15 c13
        refine g_iload (pc' := 64) 0 dX1_layChoices_62 rfl rfl ?_
        refine g_iconst (pc' := 65) dX1_layChoices_64 rfl ?_
        refine g_ior (pc' := 66) dX1_layChoices_65 rfl ?_
        refine g_istore (pc' := 68) (L' := [(5, vI (ior 0 2)), (4, vI (bI (i 8 (p0 * 8 + 5) = 1))), (3, vI (i 8 (p0 * 8 + 2))), (2, vI (i 8 (p0 * 8 + 1))), (0, vR (some 51)), (1, vI p0)]) dX1_layChoices_66 rfl (Nat.le_of_ble_eq_true rfl) rfl ?_
        refine g_sub (L' := [(0, vR (some 51)), (1, vI p0), (2, vI (i 8 (p0 * 8 + 1))), (3, vI (i 8 (p0 * 8 + 2))), (4, vI (bI (i 8 (p0 * 8 + 5) = 1))), (5, vI (ior 0 2))]) [4, 5, 3, 2, 1, 0] rfl ?_
        exact h
    refine g_icmp_eq (tgt := 50) (pc' := 45) rg2 rg4 Iff.rfl dX1_layChoices_42 rfl rfl (fun c10 => ?_) (fun c10 => ?_)
    · exact hk16g (Or.inl c10)
    · refine g_iload (pc' := 47) 0 dX1_layChoices_45 rfl rfl ?_
      refine g_if_ne (tgt := 54) (pc' := 50) (rg_bI _) (bI_eq _) dX1_layChoices_47 rfl rfl (fun c11n => ?_) (fun c11 => ?_)
      · have c11 := Decidable.of_not_not c11n
        refine g_iconst (pc' := 55) dX1_layChoices_54 rfl ?_
        exact hk17g (fun q => q.elim c10 (fun q => q c11))
      · exact hk16g (Or.inr c11)
  refine g_icmp_ne (tgt := 37) (pc' := 33) rg6 (rg_lit rfl) Iff.rfl dX1_layChoices_30 rfl rfl (fun c8 => ?_) (fun c8 => ?_)
  · refine g_iconst (pc' := 38) dX1_layChoices_37 rfl ?_
    rw [bI_f (p := (i 8 (p0 * 8 + 5) = 1)) c8] at hJ
    exact hJ
  · refine g_iconst (pc' := 34) dX1_layChoices_33 rfl ?_
    refine g_goto (tgt := 38) dX1_layChoices_34 rfl ?_
    rw [bI_t (p := (i 8 (p0 * 8 + 5) = 1)) c8] at hJ
    exact hJ
theorem e_X1_layChoices {w : Wd} {d : Nat} {P : IM → LM → Prop} {i : IM} {l : LM} {p0 : Int}  (h : gV w d X_X1_layChoices P i l 0 [(0, vR (some 51)), (1, vI p0)] []) : cVd w (d + 1) X_X1_layChoices [vR (some 51), vI p0] i l P := CV_of (by decide +kernel) (Nat.le_of_ble_eq_true rfl) h
set_option maxRecDepth 20000 in
theorem s_X1_layChoices_50 {w : Wd} {d : Nat} {P : IM → LM → Prop} {i : IM} {l : LM} (x1 : Int) (x2 : Int) (x3 : Int) (x4 : Int)  (h : ((rg x2) ∧ (rg x3) ∧ ((x2 = x3) → gV w d X_X1_layChoices P i l 68 [(0, vR (some 51)), (1, vI x1), (2, vI x2), (3, vI x3), (4, vI x4), (5, vI 1)] []) ∧ ((¬ (x2 = x3)) → gV w d X_X1_layChoices P i l 68 [(0, vR (some 51)), (1, vI x1), (2, vI x2), (3, vI x3), (4, vI x4), (5, vI (ior 1 2))] []))) : gV w d X_X1_layChoices P i l 50 [(0, vR (some 51)), (1, vI x1), (2, vI x2), (3, vI x3), (4, vI x4)] [] := by
  refine g_iconst (pc' := 51) dX1_layChoices_50 rfl ?_
  refine g_goto (tgt := 55) dX1_layChoices_51 rfl ?_
  refine g_istore (pc' := 57) (L' := [(5, vI 1), (0, vR (some 51)), (1, vI x1), (2, vI x2), (3, vI x3), (4, vI x4)]) dX1_layChoices_55 rfl (Nat.le_of_ble_eq_true rfl) rfl ?_
  refine g_iload_n (pc' := 58) 3 dX1_layChoices_57 rfl rfl ?_
  refine g_iload_n (pc' := 59) 4 dX1_layChoices_58 rfl rfl ?_
  obtain ⟨hob19, hob20, hk22, hk23⟩ := h
  refine g_icmp_eq (tgt := 68) (pc' := 62) (hob19) (hob20) Iff.rfl dX1_layChoices_59 rfl rfl (fun c21 => ?_) (fun c21 => ?_)
  · have h := hk22 c21
    refine g_sub (L' := [(0, vR (some 51)), (1, vI x1), (2, vI x2), (3, vI x3), (4, vI x4), (5, vI 1)]) [1, 2, 3, 4, 5, 0] rfl ?_
    exact h
  · have h := hk23 c21
    refine g_iload (pc' := 64) 0 dX1_layChoices_62 rfl rfl ?_
    refine g_iconst (pc' := 65) dX1_layChoices_64 rfl ?_
    refine g_ior (pc' := 66) dX1_layChoices_65 rfl ?_
    refine g_istore (pc' := 68) (L' := [(5, vI (ior 1 2)), (0, vR (some 51)), (1, vI x1), (2, vI x2), (3, vI x3), (4, vI x4)]) dX1_layChoices_66 rfl (Nat.le_of_ble_eq_true rfl) rfl ?_
    refine g_sub (L' := [(0, vR (some 51)), (1, vI x1), (2, vI x2), (3, vI x3), (4, vI x4), (5, vI (ior 1 2))]) [1, 2, 3, 4, 5, 0] rfl ?_
    exact h
set_option maxRecDepth 20000 in
theorem s_X1_layChoices_68 {w : Wd} {d : Nat} {P : IM → LM → Prop} {i : IM} {l : LM} (x1 : Int) (x2 : Int) (x3 : Int) (x4 : Int) (x5 : Int)  (h : ((rg x2) ∧ (¬ (x2 = 0) → rg x3) ∧ (¬ (x2 = 0) → ¬ (x3 = 0) → rg x4) ∧ (((x2 = 0) ∨ ((x3 = 0) ∨ (¬ (x4 = 0)))) → ((0 ≤ x1 ∧ x1 < 10) ∧ (rg x5) ∧ gV w d X_X1_layChoices P (u2 i 52 x1 x5) l 98 [(0, vR (some 51)), (1, vI x1), (2, vI x2), (3, vI x3), (5, vI x5), (6, vI 0)] [])) ∧ ((¬ ((x2 = 0) ∨ ((x3 = 0) ∨ (¬ (x4 = 0))))) → ((0 ≤ x1 ∧ x1 < 10) ∧ gV w d X_X1_layChoices P (u2 i 52 x1 (ior x5 4)) l 98 [(0, vR (some 51)), (1, vI x1), (2, vI x2), (3, vI x3), (5, vI (ior x5 4)), (6, vI 0)] [])))) : gV w d X_X1_layChoices P i l 68 [(0, vR (some 51)), (1, vI x1), (2, vI x2), (3, vI x3), (4, vI x4), (5, vI x5)] [] := by
  refine g_iload_n (pc' := 69) 2 dX1_layChoices_68 rfl rfl ?_
  obtain ⟨hob25, hob27, hob29, hk34, hk35⟩ := h
  have hk34g : ((x2 = 0) ∨ ((x3 = 0) ∨ (¬ (x4 = 0)))) → gV w d X_X1_layChoices P i l 87 [(0, vR (some 51)), (1, vI x1), (2, vI x2), (3, vI x3), (4, vI x4), (5, vI x5)] [] := by
    intro hp
    have h := hk34 hp
    obtain ⟨ob31, ob32, h⟩ := h
    refine g_aload_n (pc' := 88) 0 dX1_layChoices_87 rfl rfl ?_
    refine g_getR (pc' := 91) (o := some 52) fl_X1_11 rfl rfl rfl dX1_layChoices_88 rfl ?_
    refine g_iload_n (pc' := 92) 1 dX1_layChoices_91 rfl rfl ?_
    refine g_iload (pc' := 94) 5 dX1_layChoices_92 rfl rfl ?_
    refine g_iast (pc' := 95) (N := 10) rfl rfl (Nat.lt_of_lt_of_le (Nat.lt_succ_self _) (Nat.le_of_ble_eq_true rfl)) ob31 ob32 dX1_layChoices_94 rfl ?_
    refine g_iconst (pc' := 96) dX1_layChoices_95 rfl ?_
    refine g_istore (pc' := 98) (L' := [(6, vI 0), (0, vR (some 51)), (1, vI x1), (2, vI x2), (3, vI x3), (4, vI x4), (5, vI x5)]) dX1_layChoices_96 rfl (Nat.le_of_ble_eq_true rfl) rfl ?_
    refine g_sub (L' := [(0, vR (some 51)), (1, vI x1), (2, vI x2), (3, vI x3), (5, vI x5), (6, vI 0)]) [1, 2, 3, 4, 6, 0] rfl ?_
    exact h
  have hk35g : (¬ ((x2 = 0) ∨ ((x3 = 0) ∨ (¬ (x4 = 0))))) → gV w d X_X1_layChoices P i l 81 [(0, vR (some 51)), (1, vI x1), (2, vI x2), (3, vI x3), (4, vI x4), (5, vI x5)] [] := by
    intro hp
    have h := hk35 hp
    obtain ⟨ob33, h⟩ := h
    refine g_iload (pc' := 83) 5 dX1_layChoices_81 rfl rfl ?_
    refine g_iconst (pc' := 84) dX1_layChoices_83 rfl ?_
    refine g_ior (pc' := 85) dX1_layChoices_84 rfl ?_
    refine g_istore (pc' := 87) (L' := [(5, vI (ior x5 4)), (0, vR (some 51)), (1, vI x1), (2, vI x2), (3, vI x3), (4, vI x4)]) dX1_layChoices_85 rfl (Nat.le_of_ble_eq_true rfl) rfl ?_
    refine g_aload_n (pc' := 88) 1 dX1_layChoices_87 rfl rfl ?_
    refine g_getR (pc' := 91) (o := some 52) fl_X1_11 rfl rfl rfl dX1_layChoices_88 rfl ?_
    refine g_iload_n (pc' := 92) 2 dX1_layChoices_91 rfl rfl ?_
    refine g_iload (pc' := 94) 0 dX1_layChoices_92 rfl rfl ?_
    refine g_iast (pc' := 95) (N := 10) rfl rfl (Nat.lt_of_lt_of_le (Nat.lt_succ_self _) (Nat.le_of_ble_eq_true rfl)) ob33 (rg_ior _ _) dX1_layChoices_94 rfl ?_
    refine g_iconst (pc' := 96) dX1_layChoices_95 rfl ?_
    refine g_istore (pc' := 98) (L' := [(6, vI 0), (5, vI (ior x5 4)), (0, vR (some 51)), (1, vI x1), (2, vI x2), (3, vI x3), (4, vI x4)]) dX1_layChoices_96 rfl (Nat.le_of_ble_eq_true rfl) rfl ?_
    refine g_sub (L' := [(0, vR (some 51)), (1, vI x1), (2, vI x2), (3, vI x3), (5, vI (ior x5 4)), (6, vI 0)]) [2, 3, 4, 5, 1, 0] rfl ?_
    exact h
  refine g_if_eq (tgt := 87) (pc' := 72) (hob25) Iff.rfl dX1_layChoices_69 rfl rfl (fun c26 => ?_) (fun c26 => ?_)
  · exact hk34g (Or.inl c26)
  · refine g_iload_n (pc' := 73) 3 dX1_layChoices_72 rfl rfl ?_
    refine g_if_eq (tgt := 87) (pc' := 76) (hob27 c26) Iff.rfl dX1_layChoices_73 rfl rfl (fun c28 => ?_) (fun c28 => ?_)
    · exact hk34g (Or.inr (Or.inl c28))
    · refine g_iload (pc' := 78) 4 dX1_layChoices_76 rfl rfl ?_
      refine g_if_ne (tgt := 87) (pc' := 81) (hob29 c26 c28) Iff.rfl dX1_layChoices_78 rfl rfl (fun c30 => ?_) (fun c30 => ?_)
      · exact hk34g (Or.inr (Or.inr c30))
      · exact hk35g (fun q => q.elim c26 (fun q => q.elim c28 (fun q => q c30)))
set_option maxRecDepth 20000 in
theorem s_X1_layChoices_98 {w : Wd} {d : Nat} {P : IM → LM → Prop} {i : IM} {l : LM} (x1 : Int) (x2 : Int) (x3 : Int) (x5 : Int) (x6 : Int)  (hd : 1 ≤ d) (h : ((rg x6) ∧ ((3 ≤ x6) → P i l) ∧ ((¬ (3 ≤ x6)) → ((rg x6) ∧ ((0 ≤ (x1 * 3) + x6 ∧ (x1 * 3) + x6 < 30) ∧ (rg (if (x6 = 0) then x2 else (if (x6 = 1) then x3 else 0))) ∧ (((iand (ishr x5 x6) 1 = 1) → rg x6) ∧ (((iand (ishr x5 x6) 1 = 1) ∧ (¬ (x6 = 0))) → cI w d X_X0_priceOf [vR (some 41), vI x1, vI (if (x6 = 0) then x2 else (if (x6 = 1) then x3 else 0))] (u2 i 59 ((x1 * 3) + x6) (if (x6 = 0) then x2 else (if (x6 = 1) then x3 else 0))) l (fun r69 i69 l69 => ((0 ≤ (x1 * 3) + x6 ∧ (x1 * 3) + x6 < 30) ∧ ((rg x3) ∧ (((if (x6 = 0) then x2 else (if (x6 = 1) then x3 else 0)) = x3) → 0 ≤ x1 * 8 + 4 ∧ x1 * 8 + 4 < 80) ∧ ((0 ≤ (x1 * 3) + x6 ∧ (x1 * 3) + x6 < 30) ∧ (rg ((if ((if (x6 = 0) then x2 else (if (x6 = 1) then x3 else 0)) = x3) then (u2 i69 53 ((x1 * 3) + x6) r69) 8 (x1 * 8 + 4) else 0) - ((u2 i69 53 ((x1 * 3) + x6) r69) 53 ((x1 * 3) + x6)))) ∧ ((rg x6) ∧ ((rg x3) ∧ ((0 ≤ (x1 * 3) + x6 ∧ (x1 * 3) + x6 < 30) ∧ gV w d X_X1_layChoices P (u2 (u2 (u2 i69 53 ((x1 * 3) + x6) r69) 54 ((x1 * 3) + x6) ((if ((if (x6 = 0) then x2 else (if (x6 = 1) then x3 else 0)) = x3) then (u2 i69 53 ((x1 * 3) + x6) r69) 8 (x1 * 8 + 4) else 0) - ((u2 i69 53 ((x1 * 3) + x6) r69) 53 ((x1 * 3) + x6)))) 55 ((x1 * 3) + x6) (ior (ior (bI ((if (x6 = 0) then x2 else (if (x6 = 1) then x3 else 0)) = 0)) (if (x6 = 0) then (0 : Int) else 256)) (if ((if (x6 = 0) then x2 else (if (x6 = 1) then x3 else 0)) = x3) then (0 : Int) else 65536))) l69 98 [(0, vR (some 51)), (1, vI x1), (2, vI x2), (3, vI x3), (5, vI x5), (6, vI (x6 + 1))] [])))))))) ∧ ((¬ ((iand (ishr x5 x6) 1 = 1) ∧ (¬ (x6 = 0)))) → ((0 ≤ (x1 * 3) + x6 ∧ (x1 * 3) + x6 < 30) ∧ ((rg x3) ∧ (((if (x6 = 0) then x2 else (if (x6 = 1) then x3 else 0)) = x3) → 0 ≤ x1 * 8 + 4 ∧ x1 * 8 + 4 < 80) ∧ ((0 ≤ (x1 * 3) + x6 ∧ (x1 * 3) + x6 < 30) ∧ (rg ((if ((if (x6 = 0) then x2 else (if (x6 = 1) then x3 else 0)) = x3) then (u2 (u2 i 59 ((x1 * 3) + x6) (if (x6 = 0) then x2 else (if (x6 = 1) then x3 else 0))) 53 ((x1 * 3) + x6) 0) 8 (x1 * 8 + 4) else 0) - ((u2 (u2 i 59 ((x1 * 3) + x6) (if (x6 = 0) then x2 else (if (x6 = 1) then x3 else 0))) 53 ((x1 * 3) + x6) 0) 53 ((x1 * 3) + x6)))) ∧ ((rg x6) ∧ ((rg x3) ∧ ((0 ≤ (x1 * 3) + x6 ∧ (x1 * 3) + x6 < 30) ∧ gV w d X_X1_layChoices P (u2 (u2 (u2 (u2 i 59 ((x1 * 3) + x6) (if (x6 = 0) then x2 else (if (x6 = 1) then x3 else 0))) 53 ((x1 * 3) + x6) 0) 54 ((x1 * 3) + x6) ((if ((if (x6 = 0) then x2 else (if (x6 = 1) then x3 else 0)) = x3) then (u2 (u2 i 59 ((x1 * 3) + x6) (if (x6 = 0) then x2 else (if (x6 = 1) then x3 else 0))) 53 ((x1 * 3) + x6) 0) 8 (x1 * 8 + 4) else 0) - ((u2 (u2 i 59 ((x1 * 3) + x6) (if (x6 = 0) then x2 else (if (x6 = 1) then x3 else 0))) 53 ((x1 * 3) + x6) 0) 53 ((x1 * 3) + x6)))) 55 ((x1 * 3) + x6) (ior (ior (bI ((if (x6 = 0) then x2 else (if (x6 = 1) then x3 else 0)) = 0)) (if (x6 = 0) then (0 : Int) else 256)) (if ((if (x6 = 0) then x2 else (if (x6 = 1) then x3 else 0)) = x3) then (0 : Int) else 65536))) l 98 [(0, vR (some 51)), (1, vI x1), (2, vI x2), (3, vI x3), (5, vI x5), (6, vI (x6 + 1))] []))))))))))))) : gV w d X_X1_layChoices P i l 98 [(0, vR (some 51)), (1, vI x1), (2, vI x2), (3, vI x3), (5, vI x5), (6, vI x6)] [] := by
  refine g_iload (pc' := 100) 5 dX1_layChoices_98 rfl rfl ?_
  refine g_iconst (pc' := 101) dX1_layChoices_100 rfl ?_
  obtain ⟨hob37, hk90, hk91⟩ := h
  refine g_icmp_ge (tgt := 275) (pc' := 104) (hob37) (rg_lit rfl) Iff.rfl dX1_layChoices_101 rfl rfl (fun c38 => ?_) (fun c38 => ?_)
  · have h := hk90 c38
    exact g_retV rfl dX1_layChoices_275 h
  · have h := hk91 c38
    refine g_iload_n (pc' := 105) 1 dX1_layChoices_104 rfl rfl ?_
    refine g_iconst (pc' := 106) dX1_layChoices_105 rfl ?_
    refine g_imul (pc' := 107) dX1_layChoices_106 rfl ?_
    refine g_iload (pc' := 109) 5 dX1_layChoices_107 rfl rfl ?_
    refine g_iadd (pc' := 110) dX1_layChoices_109 rfl ?_
    refine g_istore (pc' := 112) (L' := [(7, vI ((x1 * 3) + x6)), (0, vR (some 51)), (1, vI x1), (2, vI x2), (3, vI x3), (5, vI x5), (6, vI x6)]) dX1_layChoices_110 rfl (Nat.le_of_ble_eq_true rfl) rfl ?_
    refine g_iload (pc' := 114) 6 dX1_layChoices_112 rfl rfl ?_
    obtain ⟨hob40, h⟩ := h
    have hJ : gV w d X_X1_layChoices P i l 132 [(7, vI ((x1 * 3) + x6)), (0, vR (some 51)), (1, vI x1), (2, vI x2), (3, vI x3), (5, vI x5), (6, vI x6)] [vI (if (x6 = 0) then x2 else (if (x6 = 1) then x3 else 0))] := by
      refine g_istore (pc' := 134) (L' := [(8, vI (if (x6 = 0) then x2 else (if (x6 = 1) then x3 else 0))), (7, vI ((x1 * 3) + x6)), (0, vR (some 51)), (1, vI x1), (2, vI x2), (3, vI x3), (5, vI x5), (6, vI x6)]) dX1_layChoices_132 rfl (Nat.le_of_ble_eq_true rfl) rfl ?_
      refine g_iload (pc' := 136) 6 dX1_layChoices_134 rfl rfl ?_
      refine g_iload (pc' := 138) 7 dX1_layChoices_136 rfl rfl ?_
      refine g_ishr (pc' := 139) dX1_layChoices_138 rfl ?_
      refine g_iconst (pc' := 140) dX1_layChoices_139 rfl ?_
      refine g_iand (pc' := 141) dX1_layChoices_140 rfl ?_
      refine g_iconst (pc' := 142) dX1_layChoices_141 rfl ?_
      have hJ : gV w d X_X1_layChoices P i l 150 [(8, vI (if (x6 = 0) then x2 else (if (x6 = 1) then x3 else 0))), (7, vI ((x1 * 3) + x6)), (0, vR (some 51)), (1, vI x1), (2, vI x2), (3, vI x3), (5, vI x5), (6, vI x6)] [vI (bI (iand (ishr x5 x6) 1 = 1))] := by
        obtain ⟨ob45, ob46, h⟩ := h
        refine g_istore (pc' := 152) (L' := [(9, vI (bI (iand (ishr x5 x6) 1 = 1))), (8, vI (if (x6 = 0) then x2 else (if (x6 = 1) then x3 else 0))), (7, vI ((x1 * 3) + x6)), (0, vR (some 51)), (1, vI x1), (2, vI x2), (3, vI x3), (5, vI x5), (6, vI x6)]) dX1_layChoices_150 rfl (Nat.le_of_ble_eq_true rfl) rfl ?_
        refine g_aload_n (pc' := 153) 3 dX1_layChoices_152 rfl rfl ?_
        refine g_getR (pc' := 156) (o := some 59) fl_X1_34 rfl rfl rfl dX1_layChoices_153 rfl ?_
        refine g_iload (pc' := 158) 2 dX1_layChoices_156 rfl rfl ?_
        refine g_iload (pc' := 160) 1 dX1_layChoices_158 rfl rfl ?_
        refine g_iast (pc' := 161) (N := 30) rfl rfl (Nat.lt_of_lt_of_le (Nat.lt_succ_self _) (Nat.le_of_ble_eq_true rfl)) ob45 ob46 dX1_layChoices_160 rfl ?_
        refine g_aload_n (pc' := 162) 3 dX1_layChoices_161 rfl rfl ?_
        refine g_getR (pc' := 165) (o := some 53) fl_X1_15 rfl rfl rfl dX1_layChoices_162 rfl ?_
        refine g_iload (pc' := 167) 2 dX1_layChoices_165 rfl rfl ?_
        refine g_iload (pc' := 169) 0 dX1_layChoices_167 rfl rfl ?_
        obtain ⟨hob49, hk88, hk89⟩ := h
        have hk88g : ((iand (ishr x5 x6) 1 = 1) ∧ (¬ (x6 = 0))) → gV w d X_X1_layChoices P (u2 i 59 ((x1 * 3) + x6) (if (x6 = 0) then x2 else (if (x6 = 1) then x3 else 0))) l 177 [(9, vI (bI (iand (ishr x5 x6) 1 = 1))), (8, vI (if (x6 = 0) then x2 else (if (x6 = 1) then x3 else 0))), (7, vI ((x1 * 3) + x6)), (0, vR (some 51)), (1, vI x1), (2, vI x2), (3, vI x3), (5, vI x5), (6, vI x6)] [vI ((x1 * 3) + x6), vR (some 53)] := by
          intro hp
          have h := hk88 hp
          refine g_aload_n (pc' := 178) 3 dX1_layChoices_177 rfl rfl ?_
          refine g_getR (pc' := 181) (o := some 41) fl_X1_54 rfl rfl rfl dX1_layChoices_178 rfl ?_
          refine g_iload_n (pc' := 182) 4 dX1_layChoices_181 rfl rfl ?_
          refine g_iload (pc' := 184) 1 dX1_layChoices_182 rfl rfl ?_
          refine g_cVI (pc' := 187) (vs := [vI x1, vI (if (x6 = 0) then x2 else (if (x6 = 1) then x3 else 0))]) (st := [vI ((x1 * 3) + x6), vR (some 53)]) (c := 0) h mv_X0_priceOf lk_X1_97 rfl rfl rfl rfl (Nat.le_of_ble_eq_true rfl) (Nat.le_of_ble_eq_true rfl) rfl dX1_layChoices_184 rfl z2 (fun r69 i69 l69 rg69 h => ?_)
          obtain ⟨ob70, h⟩ := h
          refine g_goto (tgt := 191) dX1_layChoices_187 rfl ?_
          refine g_iast (pc' := 192) (N := 30) rfl rfl (Nat.lt_of_lt_of_le (Nat.lt_succ_self _) (Nat.le_of_ble_eq_true rfl)) ob70 rg69 dX1_layChoices_191 rfl ?_
          refine g_aload_n (pc' := 193) 3 dX1_layChoices_192 rfl rfl ?_
          refine g_getR (pc' := 196) (o := some 54) fl_X1_18 rfl rfl rfl dX1_layChoices_193 rfl ?_
          refine g_iload (pc' := 198) 2 dX1_layChoices_196 rfl rfl ?_
          refine g_iload (pc' := 200) 1 dX1_layChoices_198 rfl rfl ?_
          refine g_iload_n (pc' := 201) 6 dX1_layChoices_200 rfl rfl ?_
          refine g_rg (fun hRG71 => ?_)
          obtain ⟨hob72, hob74, h⟩ := h
          have hJ : gV w d X_X1_layChoices P (u2 i69 53 ((x1 * 3) + x6) r69) l69 217 [(9, vI (bI (iand (ishr x5 x6) 1 = 1))), (8, vI (if (x6 = 0) then x2 else (if (x6 = 1) then x3 else 0))), (7, vI ((x1 * 3) + x6)), (0, vR (some 51)), (1, vI x1), (2, vI x2), (3, vI x3), (5, vI x5), (6, vI x6)] [vI (if ((if (x6 = 0) then x2 else (if (x6 = 1) then x3 else 0)) = x3) then (u2 i69 53 ((x1 * 3) + x6) r69) 8 (x1 * 8 + 4) else 0), vI ((x1 * 3) + x6), vR (some 54)] := by
            obtain ⟨ob76, ob78, h⟩ := h
            refine g_aload_n (pc' := 218) 3 dX1_layChoices_217 rfl rfl ?_
            refine g_getR (pc' := 221) (o := some 53) fl_X1_15 rfl rfl rfl dX1_layChoices_218 rfl ?_
            refine g_iload (pc' := 223) 2 dX1_layChoices_221 rfl rfl ?_
            refine g_iald (pc' := 224) (N := 30) rfl rfl (Nat.lt_of_lt_of_le (Nat.lt_succ_self _) (Nat.le_of_ble_eq_true rfl)) ob76 dX1_layChoices_223 rfl (fun rg77 => ?_)
            refine g_isub (pc' := 225) dX1_layChoices_224 rfl ?_
            refine g_iast (pc' := 226) (N := 30) rfl rfl (Nat.lt_of_lt_of_le (Nat.lt_succ_self _) (Nat.le_of_ble_eq_true rfl)) ob76 ob78 dX1_layChoices_225 rfl ?_
            refine g_aload_n (pc' := 227) 3 dX1_layChoices_226 rfl rfl ?_
            refine g_getR (pc' := 230) (o := some 55) fl_X1_21 rfl rfl rfl dX1_layChoices_227 rfl ?_
            refine g_iload (pc' := 232) 2 dX1_layChoices_230 rfl rfl ?_
            refine g_iload (pc' := 234) 1 dX1_layChoices_232 rfl rfl ?_
            have hJ : gV w d X_X1_layChoices P (u2 (u2 i69 53 ((x1 * 3) + x6) r69) 54 ((x1 * 3) + x6) ((if ((if (x6 = 0) then x2 else (if (x6 = 1) then x3 else 0)) = x3) then (u2 i69 53 ((x1 * 3) + x6) r69) 8 (x1 * 8 + 4) else 0) - ((u2 i69 53 ((x1 * 3) + x6) r69) 53 ((x1 * 3) + x6)))) l69 242 [(9, vI (bI (iand (ishr x5 x6) 1 = 1))), (8, vI (if (x6 = 0) then x2 else (if (x6 = 1) then x3 else 0))), (7, vI ((x1 * 3) + x6)), (0, vR (some 51)), (1, vI x1), (2, vI x2), (3, vI x3), (5, vI x5), (6, vI x6)] [vI (bI ((if (x6 = 0) then x2 else (if (x6 = 1) then x3 else 0)) = 0)), vI ((x1 * 3) + x6), vR (some 55)] := by
              refine g_iload (pc' := 244) 8 dX1_layChoices_242 rfl rfl ?_
              obtain ⟨hob82, h⟩ := h
              have hJ : gV w d X_X1_layChoices P (u2 (u2 i69 53 ((x1 * 3) + x6) r69) 54 ((x1 * 3) + x6) ((if ((if (x6 = 0) then x2 else (if (x6 = 1) then x3 else 0)) = x3) then (u2 i69 53 ((x1 * 3) + x6) r69) 8 (x1 * 8 + 4) else 0) - ((u2 i69 53 ((x1 * 3) + x6) r69) 53 ((x1 * 3) + x6)))) l69 254 [(9, vI (bI (iand (ishr x5 x6) 1 = 1))), (8, vI (if (x6 = 0) then x2 else (if (x6 = 1) then x3 else 0))), (7, vI ((x1 * 3) + x6)), (0, vR (some 51)), (1, vI x1), (2, vI x2), (3, vI x3), (5, vI x5), (6, vI x6)] [vI (if (x6 = 0) then (0 : Int) else 256), vI (bI ((if (x6 = 0) then x2 else (if (x6 = 1) then x3 else 0)) = 0)), vI ((x1 * 3) + x6), vR (some 55)] := by
                refine g_ior (pc' := 255) dX1_layChoices_254 rfl ?_
                refine g_iload (pc' := 257) 1 dX1_layChoices_255 rfl rfl ?_
                refine g_iload_n (pc' := 258) 6 dX1_layChoices_257 rfl rfl ?_
                obtain ⟨hob85, h⟩ := h
                have hJ : gV w d X_X1_layChoices P (u2 (u2 i69 53 ((x1 * 3) + x6) r69) 54 ((x1 * 3) + x6) ((if ((if (x6 = 0) then x2 else (if (x6 = 1) then x3 else 0)) = x3) then (u2 i69 53 ((x1 * 3) + x6) r69) 8 (x1 * 8 + 4) else 0) - ((u2 i69 53 ((x1 * 3) + x6) r69) 53 ((x1 * 3) + x6)))) l69 267 [(9, vI (bI (iand (ishr x5 x6) 1 = 1))), (8, vI (if (x6 = 0) then x2 else (if (x6 = 1) then x3 else 0))), (7, vI ((x1 * 3) + x6)), (0, vR (some 51)), (1, vI x1), (2, vI x2), (3, vI x3), (5, vI x5), (6, vI x6)] [vI (if ((if (x6 = 0) then x2 else (if (x6 = 1) then x3 else 0)) = x3) then (0 : Int) else 65536), vI (ior (bI ((if (x6 = 0) then x2 else (if (x6 = 1) then x3 else 0)) = 0)) (if (x6 = 0) then (0 : Int) else 256)), vI ((x1 * 3) + x6), vR (some 55)] := by
                  obtain ⟨ob87, h⟩ := h
                  refine g_ior (pc' := 268) dX1_layChoices_267 rfl ?_
                  refine g_iast (pc' := 269) (N := 30) rfl rfl (Nat.lt_of_lt_of_le (Nat.lt_succ_self _) (Nat.le_of_ble_eq_true rfl)) ob87 (rg_ior _ _) dX1_layChoices_268 rfl ?_
                  refine g_iinc (pc' := 272) (L' := [(6, vI (x6 + 1)), (9, vI (bI (iand (ishr x5 x6) 1 = 1))), (8, vI (if (x6 = 0) then x2 else (if (x6 = 1) then x3 else 0))), (7, vI ((x1 * 3) + x6)), (0, vR (some 51)), (1, vI x1), (2, vI x2), (3, vI x3), (5, vI x5)]) 8 dX1_layChoices_269 rfl (Nat.le_of_ble_eq_true rfl) rfl rfl ?_
                  refine g_goto (tgt := 98) dX1_layChoices_272 rfl ?_
                  refine g_sub (L' := [(0, vR (some 51)), (1, vI x1), (2, vI x2), (3, vI x3), (5, vI x5), (6, vI (x6 + 1))]) [4, 5, 6, 7, 8, 0] rfl ?_
                  exact h
                refine g_icmp_ne (tgt := 265) (pc' := 261) ob46 (hob85) Iff.rfl dX1_layChoices_258 rfl rfl (fun c86 => ?_) (fun c86 => ?_)
                · refine g_ldc (pc' := 267) dX1_layChoices_265 rfl kc_X1_102 ?_
                  rw [if_neg c86 (α := Int) (t := 0) (e := 65536)] at hJ
                  exact hJ
                · refine g_iconst (pc' := 262) dX1_layChoices_261 rfl ?_
                  refine g_goto (tgt := 267) dX1_layChoices_262 rfl ?_
                  rw [if_pos c86 (α := Int) (t := 0) (e := 65536)] at hJ
                  exact hJ
              refine g_if_ne (tgt := 251) (pc' := 247) (hob82) Iff.rfl dX1_layChoices_244 rfl rfl (fun c83 => ?_) (fun c83 => ?_)
              · refine g_sipush (pc' := 254) dX1_layChoices_251 rfl rfl ?_
                rw [if_neg c83 (α := Int) (t := 0) (e := 256)] at hJ
                exact hJ
              · refine g_iconst (pc' := 248) dX1_layChoices_247 rfl ?_
                refine g_goto (tgt := 254) dX1_layChoices_248 rfl ?_
                rw [if_pos c83 (α := Int) (t := 0) (e := 256)] at hJ
                exact hJ
            refine g_if_ne (tgt := 241) (pc' := 237) ob46 Iff.rfl dX1_layChoices_234 rfl rfl (fun c80 => ?_) (fun c80 => ?_)
            · refine g_iconst (pc' := 242) dX1_layChoices_241 rfl ?_
              rw [bI_f (p := ((if (x6 = 0) then x2 else (if (x6 = 1) then x3 else 0)) = 0)) c80] at hJ
              exact hJ
            · refine g_iconst (pc' := 238) dX1_layChoices_237 rfl ?_
              refine g_goto (tgt := 242) dX1_layChoices_238 rfl ?_
              rw [bI_t (p := ((if (x6 = 0) then x2 else (if (x6 = 1) then x3 else 0)) = 0)) c80] at hJ
              exact hJ
          refine g_icmp_ne (tgt := 216) (pc' := 204) ob46 (hob72) Iff.rfl dX1_layChoices_201 rfl rfl (fun c73 => ?_) (fun c73 => ?_)
          · refine g_iconst (pc' := 217) dX1_layChoices_216 rfl ?_
            rw [if_neg c73 (α := Int) (t := (u2 i69 53 ((x1 * 3) + x6) r69) 8 (x1 * 8 + 4)) (e := 0)] at hJ
            exact hJ
          · refine g_aload_n (pc' := 205) 3 dX1_layChoices_204 rfl rfl ?_
            refine g_getR (pc' := 208) (o := some 7) fl_X1_50 rfl rfl rfl dX1_layChoices_205 rfl ?_
            refine g_iload_n (pc' := 209) 4 dX1_layChoices_208 rfl rfl ?_
            refine g_iconst (pc' := 210) dX1_layChoices_209 rfl ?_
            refine g_pVI (pc' := 213) (vs := [vI x1, vI 4]) (st := [vI ((x1 * 3) + x6), vR (some 54)]) (val := (u2 i69 53 ((x1 * 3) + x6) r69) 8 (x1 * 8 + 4)) (c := 9) (sp_X9_trait (le_hd hd rfl) (hob74 c73)) mv_X9_trait lk_X1_93 rfl rfl rfl rfl (Nat.le_of_ble_eq_true rfl) (Nat.le_of_ble_eq_true rfl) rfl dX1_layChoices_210 rfl z2 (fun rg75 => ?_)
            refine g_goto (tgt := 217) dX1_layChoices_213 rfl ?_
            rw [if_pos c73 (α := Int) (t := (u2 i69 53 ((x1 * 3) + x6) r69) 8 (x1 * 8 + 4)) (e := 0)] at hJ
            exact hJ
        have hk89g : (¬ ((iand (ishr x5 x6) 1 = 1) ∧ (¬ (x6 = 0)))) → gV w d X_X1_layChoices P (u2 i 59 ((x1 * 3) + x6) (if (x6 = 0) then x2 else (if (x6 = 1) then x3 else 0))) l 191 [(9, vI (bI (iand (ishr x5 x6) 1 = 1))), (8, vI (if (x6 = 0) then x2 else (if (x6 = 1) then x3 else 0))), (7, vI ((x1 * 3) + x6)), (0, vR (some 51)), (1, vI x1), (2, vI x2), (3, vI x3), (5, vI x5), (6, vI x6)] [vI 0, vI ((x1 * 3) + x6), vR (some 53)] := by
          intro hp
          have h := hk89 hp
          obtain ⟨ob51, h⟩ := h
          refine g_iast (pc' := 192) (N := 30) rfl rfl (Nat.lt_of_lt_of_le (Nat.lt_succ_self _) (Nat.le_of_ble_eq_true rfl)) ob51 (rg_lit rfl) dX1_layChoices_191 rfl ?_
          refine g_aload_n (pc' := 193) 3 dX1_layChoices_192 rfl rfl ?_
          refine g_getR (pc' := 196) (o := some 54) fl_X1_18 rfl rfl rfl dX1_layChoices_193 rfl ?_
          refine g_iload (pc' := 198) 2 dX1_layChoices_196 rfl rfl ?_
          refine g_iload (pc' := 200) 1 dX1_layChoices_198 rfl rfl ?_
          refine g_iload_n (pc' := 201) 6 dX1_layChoices_200 rfl rfl ?_
          refine g_rg (fun hRG52 => ?_)
          obtain ⟨hob53, hob55, h⟩ := h
          have hJ : gV w d X_X1_layChoices P (u2 (u2 i 59 ((x1 * 3) + x6) (if (x6 = 0) then x2 else (if (x6 = 1) then x3 else 0))) 53 ((x1 * 3) + x6) 0) l 217 [(9, vI (bI (iand (ishr x5 x6) 1 = 1))), (8, vI (if (x6 = 0) then x2 else (if (x6 = 1) then x3 else 0))), (7, vI ((x1 * 3) + x6)), (0, vR (some 51)), (1, vI x1), (2, vI x2), (3, vI x3), (5, vI x5), (6, vI x6)] [vI (if ((if (x6 = 0) then x2 else (if (x6 = 1) then x3 else 0)) = x3) then (u2 (u2 i 59 ((x1 * 3) + x6) (if (x6 = 0) then x2 else (if (x6 = 1) then x3 else 0))) 53 ((x1 * 3) + x6) 0) 8 (x1 * 8 + 4) else 0), vI ((x1 * 3) + x6), vR (some 54)] := by
            obtain ⟨ob57, ob59, h⟩ := h
            refine g_aload_n (pc' := 218) 3 dX1_layChoices_217 rfl rfl ?_
            refine g_getR (pc' := 221) (o := some 53) fl_X1_15 rfl rfl rfl dX1_layChoices_218 rfl ?_
            refine g_iload (pc' := 223) 2 dX1_layChoices_221 rfl rfl ?_
            refine g_iald (pc' := 224) (N := 30) rfl rfl (Nat.lt_of_lt_of_le (Nat.lt_succ_self _) (Nat.le_of_ble_eq_true rfl)) ob57 dX1_layChoices_223 rfl (fun rg58 => ?_)
            refine g_isub (pc' := 225) dX1_layChoices_224 rfl ?_
            refine g_iast (pc' := 226) (N := 30) rfl rfl (Nat.lt_of_lt_of_le (Nat.lt_succ_self _) (Nat.le_of_ble_eq_true rfl)) ob57 ob59 dX1_layChoices_225 rfl ?_
            refine g_aload_n (pc' := 227) 3 dX1_layChoices_226 rfl rfl ?_
            refine g_getR (pc' := 230) (o := some 55) fl_X1_21 rfl rfl rfl dX1_layChoices_227 rfl ?_
            refine g_iload (pc' := 232) 2 dX1_layChoices_230 rfl rfl ?_
            refine g_iload (pc' := 234) 1 dX1_layChoices_232 rfl rfl ?_
            have hJ : gV w d X_X1_layChoices P (u2 (u2 (u2 i 59 ((x1 * 3) + x6) (if (x6 = 0) then x2 else (if (x6 = 1) then x3 else 0))) 53 ((x1 * 3) + x6) 0) 54 ((x1 * 3) + x6) ((if ((if (x6 = 0) then x2 else (if (x6 = 1) then x3 else 0)) = x3) then (u2 (u2 i 59 ((x1 * 3) + x6) (if (x6 = 0) then x2 else (if (x6 = 1) then x3 else 0))) 53 ((x1 * 3) + x6) 0) 8 (x1 * 8 + 4) else 0) - ((u2 (u2 i 59 ((x1 * 3) + x6) (if (x6 = 0) then x2 else (if (x6 = 1) then x3 else 0))) 53 ((x1 * 3) + x6) 0) 53 ((x1 * 3) + x6)))) l 242 [(9, vI (bI (iand (ishr x5 x6) 1 = 1))), (8, vI (if (x6 = 0) then x2 else (if (x6 = 1) then x3 else 0))), (7, vI ((x1 * 3) + x6)), (0, vR (some 51)), (1, vI x1), (2, vI x2), (3, vI x3), (5, vI x5), (6, vI x6)] [vI (bI ((if (x6 = 0) then x2 else (if (x6 = 1) then x3 else 0)) = 0)), vI ((x1 * 3) + x6), vR (some 55)] := by
              refine g_iload (pc' := 244) 8 dX1_layChoices_242 rfl rfl ?_
              obtain ⟨hob63, h⟩ := h
              have hJ : gV w d X_X1_layChoices P (u2 (u2 (u2 i 59 ((x1 * 3) + x6) (if (x6 = 0) then x2 else (if (x6 = 1) then x3 else 0))) 53 ((x1 * 3) + x6) 0) 54 ((x1 * 3) + x6) ((if ((if (x6 = 0) then x2 else (if (x6 = 1) then x3 else 0)) = x3) then (u2 (u2 i 59 ((x1 * 3) + x6) (if (x6 = 0) then x2 else (if (x6 = 1) then x3 else 0))) 53 ((x1 * 3) + x6) 0) 8 (x1 * 8 + 4) else 0) - ((u2 (u2 i 59 ((x1 * 3) + x6) (if (x6 = 0) then x2 else (if (x6 = 1) then x3 else 0))) 53 ((x1 * 3) + x6) 0) 53 ((x1 * 3) + x6)))) l 254 [(9, vI (bI (iand (ishr x5 x6) 1 = 1))), (8, vI (if (x6 = 0) then x2 else (if (x6 = 1) then x3 else 0))), (7, vI ((x1 * 3) + x6)), (0, vR (some 51)), (1, vI x1), (2, vI x2), (3, vI x3), (5, vI x5), (6, vI x6)] [vI (if (x6 = 0) then (0 : Int) else 256), vI (bI ((if (x6 = 0) then x2 else (if (x6 = 1) then x3 else 0)) = 0)), vI ((x1 * 3) + x6), vR (some 55)] := by
                refine g_ior (pc' := 255) dX1_layChoices_254 rfl ?_
                refine g_iload (pc' := 257) 1 dX1_layChoices_255 rfl rfl ?_
                refine g_iload_n (pc' := 258) 6 dX1_layChoices_257 rfl rfl ?_
                obtain ⟨hob66, h⟩ := h
                have hJ : gV w d X_X1_layChoices P (u2 (u2 (u2 i 59 ((x1 * 3) + x6) (if (x6 = 0) then x2 else (if (x6 = 1) then x3 else 0))) 53 ((x1 * 3) + x6) 0) 54 ((x1 * 3) + x6) ((if ((if (x6 = 0) then x2 else (if (x6 = 1) then x3 else 0)) = x3) then (u2 (u2 i 59 ((x1 * 3) + x6) (if (x6 = 0) then x2 else (if (x6 = 1) then x3 else 0))) 53 ((x1 * 3) + x6) 0) 8 (x1 * 8 + 4) else 0) - ((u2 (u2 i 59 ((x1 * 3) + x6) (if (x6 = 0) then x2 else (if (x6 = 1) then x3 else 0))) 53 ((x1 * 3) + x6) 0) 53 ((x1 * 3) + x6)))) l 267 [(9, vI (bI (iand (ishr x5 x6) 1 = 1))), (8, vI (if (x6 = 0) then x2 else (if (x6 = 1) then x3 else 0))), (7, vI ((x1 * 3) + x6)), (0, vR (some 51)), (1, vI x1), (2, vI x2), (3, vI x3), (5, vI x5), (6, vI x6)] [vI (if ((if (x6 = 0) then x2 else (if (x6 = 1) then x3 else 0)) = x3) then (0 : Int) else 65536), vI (ior (bI ((if (x6 = 0) then x2 else (if (x6 = 1) then x3 else 0)) = 0)) (if (x6 = 0) then (0 : Int) else 256)), vI ((x1 * 3) + x6), vR (some 55)] := by
                  obtain ⟨ob68, h⟩ := h
                  refine g_ior (pc' := 268) dX1_layChoices_267 rfl ?_
                  refine g_iast (pc' := 269) (N := 30) rfl rfl (Nat.lt_of_lt_of_le (Nat.lt_succ_self _) (Nat.le_of_ble_eq_true rfl)) ob68 (rg_ior _ _) dX1_layChoices_268 rfl ?_
                  refine g_iinc (pc' := 272) (L' := [(6, vI (x6 + 1)), (9, vI (bI (iand (ishr x5 x6) 1 = 1))), (8, vI (if (x6 = 0) then x2 else (if (x6 = 1) then x3 else 0))), (7, vI ((x1 * 3) + x6)), (0, vR (some 51)), (1, vI x1), (2, vI x2), (3, vI x3), (5, vI x5)]) 8 dX1_layChoices_269 rfl (Nat.le_of_ble_eq_true rfl) rfl rfl ?_
                  refine g_goto (tgt := 98) dX1_layChoices_272 rfl ?_
                  refine g_sub (L' := [(0, vR (some 51)), (1, vI x1), (2, vI x2), (3, vI x3), (5, vI x5), (6, vI (x6 + 1))]) [4, 5, 6, 7, 8, 0] rfl ?_
                  exact h
                refine g_icmp_ne (tgt := 265) (pc' := 261) ob46 (hob66) Iff.rfl dX1_layChoices_258 rfl rfl (fun c67 => ?_) (fun c67 => ?_)
                · refine g_ldc (pc' := 267) dX1_layChoices_265 rfl kc_X1_102 ?_
                  rw [if_neg c67 (α := Int) (t := 0) (e := 65536)] at hJ
                  exact hJ
                · refine g_iconst (pc' := 262) dX1_layChoices_261 rfl ?_
                  refine g_goto (tgt := 267) dX1_layChoices_262 rfl ?_
                  rw [if_pos c67 (α := Int) (t := 0) (e := 65536)] at hJ
                  exact hJ
              refine g_if_ne (tgt := 251) (pc' := 247) (hob63) Iff.rfl dX1_layChoices_244 rfl rfl (fun c64 => ?_) (fun c64 => ?_)
              · refine g_sipush (pc' := 254) dX1_layChoices_251 rfl rfl ?_
                rw [if_neg c64 (α := Int) (t := 0) (e := 256)] at hJ
                exact hJ
              · refine g_iconst (pc' := 248) dX1_layChoices_247 rfl ?_
                refine g_goto (tgt := 254) dX1_layChoices_248 rfl ?_
                rw [if_pos c64 (α := Int) (t := 0) (e := 256)] at hJ
                exact hJ
            refine g_if_ne (tgt := 241) (pc' := 237) ob46 Iff.rfl dX1_layChoices_234 rfl rfl (fun c61 => ?_) (fun c61 => ?_)
            · refine g_iconst (pc' := 242) dX1_layChoices_241 rfl ?_
              rw [bI_f (p := ((if (x6 = 0) then x2 else (if (x6 = 1) then x3 else 0)) = 0)) c61] at hJ
              exact hJ
            · refine g_iconst (pc' := 238) dX1_layChoices_237 rfl ?_
              refine g_goto (tgt := 242) dX1_layChoices_238 rfl ?_
              rw [bI_t (p := ((if (x6 = 0) then x2 else (if (x6 = 1) then x3 else 0)) = 0)) c61] at hJ
              exact hJ
          refine g_icmp_ne (tgt := 216) (pc' := 204) ob46 (hob53) Iff.rfl dX1_layChoices_201 rfl rfl (fun c54 => ?_) (fun c54 => ?_)
          · refine g_iconst (pc' := 217) dX1_layChoices_216 rfl ?_
            rw [if_neg c54 (α := Int) (t := (u2 (u2 i 59 ((x1 * 3) + x6) (if (x6 = 0) then x2 else (if (x6 = 1) then x3 else 0))) 53 ((x1 * 3) + x6) 0) 8 (x1 * 8 + 4)) (e := 0)] at hJ
            exact hJ
          · refine g_aload_n (pc' := 205) 3 dX1_layChoices_204 rfl rfl ?_
            refine g_getR (pc' := 208) (o := some 7) fl_X1_50 rfl rfl rfl dX1_layChoices_205 rfl ?_
            refine g_iload_n (pc' := 209) 4 dX1_layChoices_208 rfl rfl ?_
            refine g_iconst (pc' := 210) dX1_layChoices_209 rfl ?_
            refine g_pVI (pc' := 213) (vs := [vI x1, vI 4]) (st := [vI ((x1 * 3) + x6), vR (some 54)]) (val := (u2 (u2 i 59 ((x1 * 3) + x6) (if (x6 = 0) then x2 else (if (x6 = 1) then x3 else 0))) 53 ((x1 * 3) + x6) 0) 8 (x1 * 8 + 4)) (c := 9) (sp_X9_trait (le_hd hd rfl) (hob55 c54)) mv_X9_trait lk_X1_93 rfl rfl rfl rfl (Nat.le_of_ble_eq_true rfl) (Nat.le_of_ble_eq_true rfl) rfl dX1_layChoices_210 rfl z2 (fun rg56 => ?_)
            refine g_goto (tgt := 217) dX1_layChoices_213 rfl ?_
            rw [if_pos c54 (α := Int) (t := (u2 (u2 i 59 ((x1 * 3) + x6) (if (x6 = 0) then x2 else (if (x6 = 1) then x3 else 0))) 53 ((x1 * 3) + x6) 0) 8 (x1 * 8 + 4)) (e := 0)] at hJ
            exact hJ
        refine g_if_eq (tgt := 190) (pc' := 172) (rg_bI _) (bI_eq _) dX1_layChoices_169 rfl rfl (fun c48 => ?_) (fun c48n => ?_)
        · refine g_iconst (pc' := 191) dX1_layChoices_190 rfl ?_
          exact hk89g (fun q => c48 q.1)
        · have c48 := Decidable.of_not_not c48n
          refine g_iload (pc' := 174) 8 dX1_layChoices_172 rfl rfl ?_
          refine g_if_eq (tgt := 190) (pc' := 177) (hob49 c48) Iff.rfl dX1_layChoices_174 rfl rfl (fun c50 => ?_) (fun c50 => ?_)
          · refine g_iconst (pc' := 191) dX1_layChoices_190 rfl ?_
            exact hk89g (fun q => (fun q => q c50) q.2)
          · exact hk88g ⟨c48, c50⟩
      refine g_icmp_ne (tgt := 149) (pc' := 145) (rg_iand _ _) (rg_lit rfl) Iff.rfl dX1_layChoices_142 rfl rfl (fun c44 => ?_) (fun c44 => ?_)
      · refine g_iconst (pc' := 150) dX1_layChoices_149 rfl ?_
        rw [bI_f (p := (iand (ishr x5 x6) 1 = 1)) c44] at hJ
        exact hJ
      · refine g_iconst (pc' := 146) dX1_layChoices_145 rfl ?_
        refine g_goto (tgt := 150) dX1_layChoices_146 rfl ?_
        rw [bI_t (p := (iand (ishr x5 x6) 1 = 1)) c44] at hJ
        exact hJ
    refine g_if_ne (tgt := 121) (pc' := 117) (hob40) Iff.rfl dX1_layChoices_114 rfl rfl (fun c41 => ?_) (fun c41 => ?_)
    · refine g_iload (pc' := 123) 6 dX1_layChoices_121 rfl rfl ?_
      refine g_iconst (pc' := 124) dX1_layChoices_123 rfl ?_
      refine g_icmp_ne (tgt := 131) (pc' := 127) (hob40) (rg_lit rfl) Iff.rfl dX1_layChoices_124 rfl rfl (fun c42 => ?_) (fun c42 => ?_)
      · refine g_iconst (pc' := 132) dX1_layChoices_131 rfl ?_
        rw [if_neg c41 (α := Int) (t := x2) (e := (if (x6 = 1) then x3 else 0)), if_neg c42 (α := Int) (t := x3) (e := 0)] at hJ
        exact hJ
      · refine g_iload_n (pc' := 128) 4 dX1_layChoices_127 rfl rfl ?_
        refine g_goto (tgt := 132) dX1_layChoices_128 rfl ?_
        rw [if_neg c41 (α := Int) (t := x2) (e := (if (x6 = 1) then x3 else 0)), if_pos c42 (α := Int) (t := x3) (e := 0)] at hJ
        exact hJ
    · refine g_iload_n (pc' := 118) 3 dX1_layChoices_117 rfl rfl ?_
      refine g_goto (tgt := 132) dX1_layChoices_118 rfl ?_
      rw [if_pos c41 (α := Int) (t := x2) (e := (if (x6 = 1) then x3 else 0))] at hJ
      exact hJ

theorem dX1_layRow_0 : decode cX1_layRow 0 = .ok (.aload_n 0, 1) := by decide +kernel
theorem dX1_layRow_1 : decode cX1_layRow 1 = .ok (.getfield 87, 3) := by decide +kernel
theorem dX1_layRow_4 : decode cX1_layRow 4 = .ok (.istore_n 2, 1) := by decide +kernel
theorem dX1_layRow_5 : decode cX1_layRow 5 = .ok (.lconst 0, 1) := by decide +kernel
theorem dX1_layRow_6 : decode cX1_layRow 6 = .ok (.lstore_n 3, 1) := by decide +kernel
theorem dX1_layRow_7 : decode cX1_layRow 7 = .ok (.iconst 0, 1) := by decide +kernel
theorem dX1_layRow_8 : decode cX1_layRow 8 = .ok (.istore 5, 2) := by decide +kernel
theorem dX1_layRow_10 : decode cX1_layRow 10 = .ok (.iload 5, 2) := by decide +kernel
theorem dX1_layRow_12 : decode cX1_layRow 12 = .ok (.aload_n 0, 1) := by decide +kernel
theorem dX1_layRow_13 : decode cX1_layRow 13 = .ok (.getfield 50, 3) := by decide +kernel
theorem dX1_layRow_16 : decode cX1_layRow 16 = .ok (.getfield 103, 3) := by decide +kernel
theorem dX1_layRow_19 : decode cX1_layRow 19 = .ok (.if_icmp .ge 33, 3) := by decide +kernel
theorem dX1_layRow_22 : decode cX1_layRow 22 = .ok (.lload_n 3, 1) := by decide +kernel
theorem dX1_layRow_23 : decode cX1_layRow 23 = .ok (.bipush 127, 2) := by decide +kernel
theorem dX1_layRow_25 : decode cX1_layRow 25 = .ok (.aload_n 0, 1) := by decide +kernel
theorem dX1_layRow_26 : decode cX1_layRow 26 = .ok (.getfield 54, 3) := by decide +kernel
theorem dX1_layRow_29 : decode cX1_layRow 29 = .ok (.iload 5, 2) := by decide +kernel
theorem dX1_layRow_31 : decode cX1_layRow 31 = .ok (.iload_n 1, 1) := by decide +kernel
theorem dX1_layRow_32 : decode cX1_layRow 32 = .ok (.iconst 0, 1) := by decide +kernel
theorem dX1_layRow_33 : decode cX1_layRow 33 = .ok (.invokevirtual 106, 3) := by decide +kernel
theorem dX1_layRow_36 : decode cX1_layRow 36 = .ok (.isub, 1) := by decide +kernel
theorem dX1_layRow_37 : decode cX1_layRow 37 = .ok (.i2l, 1) := by decide +kernel
theorem dX1_layRow_38 : decode cX1_layRow 38 = .ok (.bipush 8, 2) := by decide +kernel
theorem dX1_layRow_40 : decode cX1_layRow 40 = .ok (.iload 5, 2) := by decide +kernel
theorem dX1_layRow_42 : decode cX1_layRow 42 = .ok (.imul, 1) := by decide +kernel
theorem dX1_layRow_43 : decode cX1_layRow 43 = .ok (.lshl, 1) := by decide +kernel
theorem dX1_layRow_44 : decode cX1_layRow 44 = .ok (.lor, 1) := by decide +kernel
theorem dX1_layRow_45 : decode cX1_layRow 45 = .ok (.lstore_n 3, 1) := by decide +kernel
theorem dX1_layRow_46 : decode cX1_layRow 46 = .ok (.iinc 5 1, 3) := by decide +kernel
theorem dX1_layRow_49 : decode cX1_layRow 49 = .ok (.goto (-39), 3) := by decide +kernel
theorem dX1_layRow_52 : decode cX1_layRow 52 = .ok (.aload_n 0, 1) := by decide +kernel
theorem dX1_layRow_53 : decode cX1_layRow 53 = .ok (.getfield 37, 3) := by decide +kernel
theorem dX1_layRow_56 : decode cX1_layRow 56 = .ok (.iload_n 2, 1) := by decide +kernel
theorem dX1_layRow_57 : decode cX1_layRow 57 = .ok (.lload_n 3, 1) := by decide +kernel
theorem dX1_layRow_58 : decode cX1_layRow 58 = .ok (.lastore, 1) := by decide +kernel
theorem dX1_layRow_59 : decode cX1_layRow 59 = .ok (.aload_n 0, 1) := by decide +kernel
theorem dX1_layRow_60 : decode cX1_layRow 60 = .ok (.getfield 28, 3) := by decide +kernel
theorem dX1_layRow_63 : decode cX1_layRow 63 = .ok (.aload_n 0, 1) := by decide +kernel
theorem dX1_layRow_64 : decode cX1_layRow 64 = .ok (.getfield 50, 3) := by decide +kernel
theorem dX1_layRow_67 : decode cX1_layRow 67 = .ok (.getfield 64, 3) := by decide +kernel
theorem dX1_layRow_70 : decode cX1_layRow 70 = .ok (.bipush 12, 2) := by decide +kernel
theorem dX1_layRow_72 : decode cX1_layRow 72 = .ok (.imul, 1) := by decide +kernel
theorem dX1_layRow_73 : decode cX1_layRow 73 = .ok (.iload_n 2, 1) := by decide +kernel
theorem dX1_layRow_74 : decode cX1_layRow 74 = .ok (.iadd, 1) := by decide +kernel
theorem dX1_layRow_75 : decode cX1_layRow 75 = .ok (.lconst 0, 1) := by decide +kernel
theorem dX1_layRow_76 : decode cX1_layRow 76 = .ok (.lastore, 1) := by decide +kernel
theorem dX1_layRow_77 : decode cX1_layRow 77 = .ok (.aload_n 0, 1) := by decide +kernel
theorem dX1_layRow_78 : decode cX1_layRow 78 = .ok (.getfield 31, 3) := by decide +kernel
theorem dX1_layRow_81 : decode cX1_layRow 81 = .ok (.aload_n 0, 1) := by decide +kernel
theorem dX1_layRow_82 : decode cX1_layRow 82 = .ok (.getfield 50, 3) := by decide +kernel
theorem dX1_layRow_85 : decode cX1_layRow 85 = .ok (.getfield 64, 3) := by decide +kernel
theorem dX1_layRow_88 : decode cX1_layRow 88 = .ok (.bipush 12, 2) := by decide +kernel
theorem dX1_layRow_90 : decode cX1_layRow 90 = .ok (.imul, 1) := by decide +kernel
theorem dX1_layRow_91 : decode cX1_layRow 91 = .ok (.iload_n 2, 1) := by decide +kernel
theorem dX1_layRow_92 : decode cX1_layRow 92 = .ok (.iadd, 1) := by decide +kernel
theorem dX1_layRow_93 : decode cX1_layRow 93 = .ok (.lconst 0, 1) := by decide +kernel
theorem dX1_layRow_94 : decode cX1_layRow 94 = .ok (.lastore, 1) := by decide +kernel
theorem dX1_layRow_95 : decode cX1_layRow 95 = .ok (.aload_n 0, 1) := by decide +kernel
theorem dX1_layRow_96 : decode cX1_layRow 96 = .ok (.getfield 50, 3) := by decide +kernel
theorem dX1_layRow_99 : decode cX1_layRow 99 = .ok (.getfield 64, 3) := by decide +kernel
theorem dX1_layRow_102 : decode cX1_layRow 102 = .ok (.iconst 1, 1) := by decide +kernel
theorem dX1_layRow_103 : decode cX1_layRow 103 = .ok (.isub, 1) := by decide +kernel
theorem dX1_layRow_104 : decode cX1_layRow 104 = .ok (.istore 5, 2) := by decide +kernel
theorem dX1_layRow_106 : decode cX1_layRow 106 = .ok (.iload 5, 2) := by decide +kernel
theorem dX1_layRow_108 : decode cX1_layRow 108 = .ok (.ifCond .lt 159, 3) := by decide +kernel
theorem dX1_layRow_111 : decode cX1_layRow 111 = .ok (.lconst 0, 1) := by decide +kernel
theorem dX1_layRow_112 : decode cX1_layRow 112 = .ok (.lstore 6, 2) := by decide +kernel
theorem dX1_layRow_114 : decode cX1_layRow 114 = .ok (.iconst 0, 1) := by decide +kernel
theorem dX1_layRow_115 : decode cX1_layRow 115 = .ok (.istore 8, 2) := by decide +kernel
theorem dX1_layRow_117 : decode cX1_layRow 117 = .ok (.iload 8, 2) := by decide +kernel
theorem dX1_layRow_119 : decode cX1_layRow 119 = .ok (.iconst 3, 1) := by decide +kernel
theorem dX1_layRow_120 : decode cX1_layRow 120 = .ok (.if_icmp .ge 78, 3) := by decide +kernel
theorem dX1_layRow_123 : decode cX1_layRow 123 = .ok (.aload_n 0, 1) := by decide +kernel
theorem dX1_layRow_124 : decode cX1_layRow 124 = .ok (.getfield 11, 3) := by decide +kernel
theorem dX1_layRow_127 : decode cX1_layRow 127 = .ok (.iload 5, 2) := by decide +kernel
theorem dX1_layRow_129 : decode cX1_layRow 129 = .ok (.iaload, 1) := by decide +kernel
theorem dX1_layRow_130 : decode cX1_layRow 130 = .ok (.iload 8, 2) := by decide +kernel
theorem dX1_layRow_132 : decode cX1_layRow 132 = .ok (.ishr, 1) := by decide +kernel
theorem dX1_layRow_133 : decode cX1_layRow 133 = .ok (.iconst 1, 1) := by decide +kernel
theorem dX1_layRow_134 : decode cX1_layRow 134 = .ok (.iand, 1) := by decide +kernel
theorem dX1_layRow_135 : decode cX1_layRow 135 = .ok (.iconst 1, 1) := by decide +kernel
theorem dX1_layRow_136 : decode cX1_layRow 136 = .ok (.if_icmp .ne 56, 3) := by decide +kernel
theorem dX1_layRow_139 : decode cX1_layRow 139 = .ok (.aload_n 0, 1) := by decide +kernel
theorem dX1_layRow_140 : decode cX1_layRow 140 = .ok (.iload 5, 2) := by decide +kernel
theorem dX1_layRow_142 : decode cX1_layRow 142 = .ok (.aload_n 0, 1) := by decide +kernel
theorem dX1_layRow_143 : decode cX1_layRow 143 = .ok (.getfield 50, 3) := by decide +kernel
theorem dX1_layRow_146 : decode cX1_layRow 146 = .ok (.iload 5, 2) := by decide +kernel
theorem dX1_layRow_148 : decode cX1_layRow 148 = .ok (.aload_n 0, 1) := by decide +kernel
theorem dX1_layRow_149 : decode cX1_layRow 149 = .ok (.iload 5, 2) := by decide +kernel
theorem dX1_layRow_151 : decode cX1_layRow 151 = .ok (.iload 8, 2) := by decide +kernel
theorem dX1_layRow_153 : decode cX1_layRow 153 = .ok (.invokevirtual 110, 3) := by decide +kernel
theorem dX1_layRow_156 : decode cX1_layRow 156 = .ok (.iload_n 1, 1) := by decide +kernel
theorem dX1_layRow_157 : decode cX1_layRow 157 = .ok (.invokevirtual 113, 3) := by decide +kernel
theorem dX1_layRow_160 : decode cX1_layRow 160 = .ok (.iload_n 1, 1) := by decide +kernel
theorem dX1_layRow_161 : decode cX1_layRow 161 = .ok (.invokevirtual 116, 3) := by decide +kernel
theorem dX1_layRow_164 : decode cX1_layRow 164 = .ok (.lstore 9, 2) := by decide +kernel
theorem dX1_layRow_166 : decode cX1_layRow 166 = .ok (.aload_n 0, 1) := by decide +kernel
theorem dX1_layRow_167 : decode cX1_layRow 167 = .ok (.getfield 24, 3) := by decide +kernel
theorem dX1_layRow_170 : decode cX1_layRow 170 = .ok (.iload 5, 2) := by decide +kernel
theorem dX1_layRow_172 : decode cX1_layRow 172 = .ok (.iconst 3, 1) := by decide +kernel
theorem dX1_layRow_173 : decode cX1_layRow 173 = .ok (.imul, 1) := by decide +kernel
theorem dX1_layRow_174 : decode cX1_layRow 174 = .ok (.iload 8, 2) := by decide +kernel
theorem dX1_layRow_176 : decode cX1_layRow 176 = .ok (.iadd, 1) := by decide +kernel
theorem dX1_layRow_177 : decode cX1_layRow 177 = .ok (.bipush 12, 2) := by decide +kernel
theorem dX1_layRow_179 : decode cX1_layRow 179 = .ok (.imul, 1) := by decide +kernel
theorem dX1_layRow_180 : decode cX1_layRow 180 = .ok (.iload_n 2, 1) := by decide +kernel
theorem dX1_layRow_181 : decode cX1_layRow 181 = .ok (.iadd, 1) := by decide +kernel
theorem dX1_layRow_182 : decode cX1_layRow 182 = .ok (.lload 9, 2) := by decide +kernel
theorem dX1_layRow_184 : decode cX1_layRow 184 = .ok (.lastore, 1) := by decide +kernel
theorem dX1_layRow_185 : decode cX1_layRow 185 = .ok (.lload 6, 2) := by decide +kernel
theorem dX1_layRow_187 : decode cX1_layRow 187 = .ok (.lload 9, 2) := by decide +kernel
theorem dX1_layRow_189 : decode cX1_layRow 189 = .ok (.lor, 1) := by decide +kernel
theorem dX1_layRow_190 : decode cX1_layRow 190 = .ok (.lstore 6, 2) := by decide +kernel
theorem dX1_layRow_192 : decode cX1_layRow 192 = .ok (.iinc 8 1, 3) := by decide +kernel
theorem dX1_layRow_195 : decode cX1_layRow 195 = .ok (.goto (-78), 3) := by decide +kernel
theorem dX1_layRow_198 : decode cX1_layRow 198 = .ok (.iload 5, 2) := by decide +kernel
theorem dX1_layRow_200 : decode cX1_layRow 200 = .ok (.bipush 12, 2) := by decide +kernel
theorem dX1_layRow_202 : decode cX1_layRow 202 = .ok (.imul, 1) := by decide +kernel
theorem dX1_layRow_203 : decode cX1_layRow 203 = .ok (.iload_n 2, 1) := by decide +kernel
theorem dX1_layRow_204 : decode cX1_layRow 204 = .ok (.iadd, 1) := by decide +kernel
theorem dX1_layRow_205 : decode cX1_layRow 205 = .ok (.istore 8, 2) := by decide +kernel
theorem dX1_layRow_207 : decode cX1_layRow 207 = .ok (.aload_n 0, 1) := by decide +kernel
theorem dX1_layRow_208 : decode cX1_layRow 208 = .ok (.getfield 28, 3) := by decide +kernel
theorem dX1_layRow_211 : decode cX1_layRow 211 = .ok (.iload 8, 2) := by decide +kernel
theorem dX1_layRow_213 : decode cX1_layRow 213 = .ok (.lload 6, 2) := by decide +kernel
theorem dX1_layRow_215 : decode cX1_layRow 215 = .ok (.aload_n 0, 1) := by decide +kernel
theorem dX1_layRow_216 : decode cX1_layRow 216 = .ok (.getfield 28, 3) := by decide +kernel
theorem dX1_layRow_219 : decode cX1_layRow 219 = .ok (.iload 8, 2) := by decide +kernel
theorem dX1_layRow_221 : decode cX1_layRow 221 = .ok (.bipush 12, 2) := by decide +kernel
theorem dX1_layRow_223 : decode cX1_layRow 223 = .ok (.iadd, 1) := by decide +kernel
theorem dX1_layRow_224 : decode cX1_layRow 224 = .ok (.laload, 1) := by decide +kernel
theorem dX1_layRow_225 : decode cX1_layRow 225 = .ok (.lor, 1) := by decide +kernel
theorem dX1_layRow_226 : decode cX1_layRow 226 = .ok (.lastore, 1) := by decide +kernel
theorem dX1_layRow_227 : decode cX1_layRow 227 = .ok (.aload_n 0, 1) := by decide +kernel
theorem dX1_layRow_228 : decode cX1_layRow 228 = .ok (.getfield 31, 3) := by decide +kernel
theorem dX1_layRow_231 : decode cX1_layRow 231 = .ok (.iload 8, 2) := by decide +kernel
theorem dX1_layRow_233 : decode cX1_layRow 233 = .ok (.aload_n 0, 1) := by decide +kernel
theorem dX1_layRow_234 : decode cX1_layRow 234 = .ok (.getfield 31, 3) := by decide +kernel
theorem dX1_layRow_237 : decode cX1_layRow 237 = .ok (.iload 8, 2) := by decide +kernel
theorem dX1_layRow_239 : decode cX1_layRow 239 = .ok (.bipush 12, 2) := by decide +kernel
theorem dX1_layRow_241 : decode cX1_layRow 241 = .ok (.iadd, 1) := by decide +kernel
theorem dX1_layRow_242 : decode cX1_layRow 242 = .ok (.laload, 1) := by decide +kernel
theorem dX1_layRow_243 : decode cX1_layRow 243 = .ok (.lload 6, 2) := by decide +kernel
theorem dX1_layRow_245 : decode cX1_layRow 245 = .ok (.invokestatic 120, 3) := by decide +kernel
theorem dX1_layRow_248 : decode cX1_layRow 248 = .ok (.ldc2_w 124, 3) := by decide +kernel
theorem dX1_layRow_251 : decode cX1_layRow 251 = .ok (.ladd, 1) := by decide +kernel
theorem dX1_layRow_252 : decode cX1_layRow 252 = .ok (.bipush 7, 2) := by decide +kernel
theorem dX1_layRow_254 : decode cX1_layRow 254 = .ok (.lushr, 1) := by decide +kernel
theorem dX1_layRow_255 : decode cX1_layRow 255 = .ok (.ldc2_w 126, 3) := by decide +kernel
theorem dX1_layRow_258 : decode cX1_layRow 258 = .ok (.land, 1) := by decide +kernel
theorem dX1_layRow_259 : decode cX1_layRow 259 = .ok (.ladd, 1) := by decide +kernel
theorem dX1_layRow_260 : decode cX1_layRow 260 = .ok (.lastore, 1) := by decide +kernel
theorem dX1_layRow_261 : decode cX1_layRow 261 = .ok (.iinc 5 (-1), 3) := by decide +kernel
theorem dX1_layRow_264 : decode cX1_layRow 264 = .ok (.goto (-158), 3) := by decide +kernel
theorem dX1_layRow_267 : decode cX1_layRow 267 = .ok (.aload_n 0, 1) := by decide +kernel
theorem dX1_layRow_268 : decode cX1_layRow 268 = .ok (.iload_n 2, 1) := by decide +kernel
theorem dX1_layRow_269 : decode cX1_layRow 269 = .ok (.lconst 0, 1) := by decide +kernel
theorem dX1_layRow_270 : decode cX1_layRow 270 = .ok (.lload_n 3, 1) := by decide +kernel
theorem dX1_layRow_271 : decode cX1_layRow 271 = .ok (.lload_n 3, 1) := by decide +kernel
theorem dX1_layRow_272 : decode cX1_layRow 272 = .ok (.invokevirtual 128, 3) := by decide +kernel
theorem dX1_layRow_275 : decode cX1_layRow 275 = .ok (.lconst 0, 1) := by decide +kernel
theorem dX1_layRow_276 : decode cX1_layRow 276 = .ok (.lcmp, 1) := by decide +kernel
theorem dX1_layRow_277 : decode cX1_layRow 277 = .ok (.ifCond .eq 21, 3) := by decide +kernel
theorem dX1_layRow_280 : decode cX1_layRow 280 = .ok (.aload_n 0, 1) := by decide +kernel
theorem dX1_layRow_281 : decode cX1_layRow 281 = .ok (.iload_n 2, 1) := by decide +kernel
theorem dX1_layRow_282 : decode cX1_layRow 282 = .ok (.invokevirtual 132, 3) := by decide +kernel
theorem dX1_layRow_285 : decode cX1_layRow 285 = .ok (.ifCond .ne 13, 3) := by decide +kernel
theorem dX1_layRow_288 : decode cX1_layRow 288 = .ok (.aload_n 0, 1) := by decide +kernel
theorem dX1_layRow_289 : decode cX1_layRow 289 = .ok (.dup, 1) := by decide +kernel
theorem dX1_layRow_290 : decode cX1_layRow 290 = .ok (.getfield 87, 3) := by decide +kernel
theorem dX1_layRow_293 : decode cX1_layRow 293 = .ok (.iconst 1, 1) := by decide +kernel
theorem dX1_layRow_294 : decode cX1_layRow 294 = .ok (.iadd, 1) := by decide +kernel
theorem dX1_layRow_295 : decode cX1_layRow 295 = .ok (.putfield 87, 3) := by decide +kernel
theorem dX1_layRow_298 : decode cX1_layRow 298 = .ok (.return_, 1) := by decide +kernel
set_option maxRecDepth 20000 in
theorem s_X1_layRow {w : Wd} {d : Nat} {P : IM → LM → Prop} {i : IM} {l : LM} (p0 : Int)  (h : gV w d X_X1_layRow P i l 10 [(0, vR (some 51)), (1, vI p0), (2, vI (i 51 13)), (3, vL 0), (5, vI 0)] []) : gV w d X_X1_layRow P i l 0 [(0, vR (some 51)), (1, vI p0)] [] := by
  refine g_aload_n (pc' := 1) 0 dX1_layRow_0 rfl rfl ?_
  refine g_getI (pc' := 4) (z := 13) rfl fl_X1_87 rfl rfl dX1_layRow_1 rfl (fun rg1 => ?_)
  refine g_istore_n (pc' := 5) (L' := [(2, vI (i 51 13)), (0, vR (some 51)), (1, vI p0)]) dX1_layRow_4 rfl (Nat.le_of_ble_eq_true rfl) rfl ?_
  refine g_lconst (pc' := 6) (v := 0) dX1_layRow_5 rfl rfl ?_
  refine g_lstore_n (pc' := 7) (L' := [(3, vL 0), (2, vI (i 51 13)), (0, vR (some 51)), (1, vI p0)]) dX1_layRow_6 rfl (Nat.le_of_ble_eq_true rfl) rfl ?_
  refine g_iconst (pc' := 8) dX1_layRow_7 rfl ?_
  refine g_istore (pc' := 10) (L' := [(5, vI 0), (3, vL 0), (2, vI (i 51 13)), (0, vR (some 51)), (1, vI p0)]) dX1_layRow_8 rfl (Nat.le_of_ble_eq_true rfl) rfl ?_
  refine g_sub (L' := [(0, vR (some 51)), (1, vI p0), (2, vI (i 51 13)), (3, vL 0), (5, vI 0)]) [3, 4, 2, 1, 0] rfl ?_
  exact h
theorem e_X1_layRow {w : Wd} {d : Nat} {P : IM → LM → Prop} {i : IM} {l : LM} {p0 : Int}  (h : gV w d X_X1_layRow P i l 0 [(0, vR (some 51)), (1, vI p0)] []) : cVd w (d + 1) X_X1_layRow [vR (some 51), vI p0] i l P := CV_of (by decide +kernel) (Nat.le_of_ble_eq_true rfl) h
set_option maxRecDepth 20000 in
theorem s_X1_layRow_10 {w : Wd} {d : Nat} {P : IM → LM → Prop} {i : IM} {l : LM} (x1 : Int) (x2 : Int) (x3 : Int64) (x5 : Int)  (h : ((rg x5) ∧ ((i 7 9 ≤ x5) → ((0 ≤ x2 ∧ x2 < 12) ∧ (0 ≤ ((i 7 8) * 12) + x2 ∧ ((i 7 8) * 12) + x2 < 132) ∧ gV w d X_X1_layRow P i (u2l (u2l (u2l l 60 x2 x3) 57 (((i 7 8) * 12) + x2) 0) 58 (((i 7 8) * 12) + x2) 0) 106 [(0, vR (some 51)), (1, vI x1), (2, vI x2), (3, vL x3), (5, vI ((i 7 8) - 1))] [])) ∧ ((¬ (i 7 9 ≤ x5)) → cI w d X_X0_limitOf [vR (some 41), vI x5, vI x1, vI 0] i l (fun r11 i11 l11 => gV w d X_X1_layRow P i11 l11 10 [(0, vR (some 51)), (1, vI x1), (2, vI x2), (3, vL (x3 ||| (lshl (i2l (127 - r11)) (8 * x5)))), (5, vI (x5 + 1))] [])))) : gV w d X_X1_layRow P i l 10 [(0, vR (some 51)), (1, vI x1), (2, vI x2), (3, vL x3), (5, vI x5)] [] := by
  refine g_iload (pc' := 12) 4 dX1_layRow_10 rfl rfl ?_
  refine g_aload_n (pc' := 13) 0 dX1_layRow_12 rfl rfl ?_
  refine g_getR (pc' := 16) (o := some 7) fl_X1_50 rfl rfl rfl dX1_layRow_13 rfl ?_
  refine g_getI (pc' := 19) (z := 9) rfl fl_X1_103 rfl rfl dX1_layRow_16 rfl (fun rg2 => ?_)
  obtain ⟨hob4, hk12, hk13⟩ := h
  refine g_icmp_ge (tgt := 52) (pc' := 22) (hob4) rg2 Iff.rfl dX1_layRow_19 rfl rfl (fun c5 => ?_) (fun c5 => ?_)
  · have h := hk12 c5
    obtain ⟨ob6, ob8, h⟩ := h
    refine g_aload_n (pc' := 53) 0 dX1_layRow_52 rfl rfl ?_
    refine g_getR (pc' := 56) (o := some 60) fl_X1_37 rfl rfl rfl dX1_layRow_53 rfl ?_
    refine g_iload_n (pc' := 57) 2 dX1_layRow_56 rfl rfl ?_
    refine g_lload_n (pc' := 58) 3 dX1_layRow_57 rfl rfl ?_
    refine g_last (pc' := 59) (N := 12) rfl rfl (Nat.lt_of_lt_of_le (Nat.lt_succ_self _) (Nat.le_of_ble_eq_true rfl)) ob6 dX1_layRow_58 rfl ?_
    refine g_aload_n (pc' := 60) 0 dX1_layRow_59 rfl rfl ?_
    refine g_getR (pc' := 63) (o := some 57) fl_X1_28 rfl rfl rfl dX1_layRow_60 rfl ?_
    refine g_aload_n (pc' := 64) 0 dX1_layRow_63 rfl rfl ?_
    refine g_getR (pc' := 67) (o := some 7) fl_X1_50 rfl rfl rfl dX1_layRow_64 rfl ?_
    refine g_getI (pc' := 70) (z := 8) rfl fl_X1_64 rfl rfl dX1_layRow_67 rfl (fun rg7 => ?_)
    refine g_bipush (pc' := 72) dX1_layRow_70 rfl rfl ?_
    refine g_imul (pc' := 73) dX1_layRow_72 rfl ?_
    refine g_iload_n (pc' := 74) 2 dX1_layRow_73 rfl rfl ?_
    refine g_iadd (pc' := 75) dX1_layRow_74 rfl ?_
    refine g_lconst (pc' := 76) (v := 0) dX1_layRow_75 rfl rfl ?_
    refine g_last (pc' := 77) (N := 132) rfl rfl (Nat.lt_of_lt_of_le (Nat.lt_succ_self _) (Nat.le_of_ble_eq_true rfl)) ob8 dX1_layRow_76 rfl ?_
    refine g_aload_n (pc' := 78) 0 dX1_layRow_77 rfl rfl ?_
    refine g_getR (pc' := 81) (o := some 58) fl_X1_31 rfl rfl rfl dX1_layRow_78 rfl ?_
    refine g_aload_n (pc' := 82) 0 dX1_layRow_81 rfl rfl ?_
    refine g_getR (pc' := 85) (o := some 7) fl_X1_50 rfl rfl rfl dX1_layRow_82 rfl ?_
    refine g_getI (pc' := 88) (z := 8) rfl fl_X1_64 rfl rfl dX1_layRow_85 rfl (fun rg9 => ?_)
    refine g_bipush (pc' := 90) dX1_layRow_88 rfl rfl ?_
    refine g_imul (pc' := 91) dX1_layRow_90 rfl ?_
    refine g_iload_n (pc' := 92) 2 dX1_layRow_91 rfl rfl ?_
    refine g_iadd (pc' := 93) dX1_layRow_92 rfl ?_
    refine g_lconst (pc' := 94) (v := 0) dX1_layRow_93 rfl rfl ?_
    refine g_last (pc' := 95) (N := 132) rfl rfl (Nat.lt_of_lt_of_le (Nat.lt_succ_self _) (Nat.le_of_ble_eq_true rfl)) ob8 dX1_layRow_94 rfl ?_
    refine g_aload_n (pc' := 96) 0 dX1_layRow_95 rfl rfl ?_
    refine g_getR (pc' := 99) (o := some 7) fl_X1_50 rfl rfl rfl dX1_layRow_96 rfl ?_
    refine g_getI (pc' := 102) (z := 8) rfl fl_X1_64 rfl rfl dX1_layRow_99 rfl (fun rg10 => ?_)
    refine g_iconst (pc' := 103) dX1_layRow_102 rfl ?_
    refine g_isub (pc' := 104) dX1_layRow_103 rfl ?_
    refine g_istore (pc' := 106) (L' := [(5, vI ((i 7 8) - 1)), (0, vR (some 51)), (1, vI x1), (2, vI x2), (3, vL x3)]) dX1_layRow_104 rfl (Nat.le_of_ble_eq_true rfl) rfl ?_
    refine g_sub (L' := [(0, vR (some 51)), (1, vI x1), (2, vI x2), (3, vL x3), (5, vI ((i 7 8) - 1))]) [1, 2, 3, 4, 0] rfl ?_
    exact h
  · have h := hk13 c5
    refine g_lload_n (pc' := 23) 3 dX1_layRow_22 rfl rfl ?_
    refine g_bipush (pc' := 25) dX1_layRow_23 rfl rfl ?_
    refine g_aload_n (pc' := 26) 0 dX1_layRow_25 rfl rfl ?_
    refine g_getR (pc' := 29) (o := some 41) fl_X1_54 rfl rfl rfl dX1_layRow_26 rfl ?_
    refine g_iload (pc' := 31) 4 dX1_layRow_29 rfl rfl ?_
    refine g_iload_n (pc' := 32) 1 dX1_layRow_31 rfl rfl ?_
    refine g_iconst (pc' := 33) dX1_layRow_32 rfl ?_
    refine g_cVI (pc' := 36) (vs := [vI x5, vI x1, vI 0]) (st := [vI 127, vL x3]) (c := 0) h mv_X0_limitOf lk_X1_106 rfl rfl rfl rfl (Nat.le_of_ble_eq_true rfl) (Nat.le_of_ble_eq_true rfl) rfl dX1_layRow_33 rfl z2 (fun r11 i11 l11 rg11 h => ?_)
    refine g_isub (pc' := 37) dX1_layRow_36 rfl ?_
    refine g_i2l (pc' := 38) dX1_layRow_37 rfl ?_
    refine g_bipush (pc' := 40) dX1_layRow_38 rfl rfl ?_
    refine g_iload (pc' := 42) 4 dX1_layRow_40 rfl rfl ?_
    refine g_imul (pc' := 43) dX1_layRow_42 rfl ?_
    refine g_lshl (pc' := 44) dX1_layRow_43 rfl ?_
    refine g_lor (pc' := 45) dX1_layRow_44 rfl ?_
    refine g_lstore_n (pc' := 46) (L' := [(3, vL (x3 ||| (lshl (i2l (127 - r11)) (8 * x5)))), (0, vR (some 51)), (1, vI x1), (2, vI x2), (5, vI x5)]) dX1_layRow_45 rfl (Nat.le_of_ble_eq_true rfl) rfl ?_
    refine g_iinc (pc' := 49) (L' := [(5, vI (x5 + 1)), (3, vL (x3 ||| (lshl (i2l (127 - r11)) (8 * x5)))), (0, vR (some 51)), (1, vI x1), (2, vI x2)]) 4 dX1_layRow_46 rfl (Nat.le_of_ble_eq_true rfl) rfl rfl ?_
    refine g_goto (tgt := 10) dX1_layRow_49 rfl ?_
    refine g_sub (L' := [(0, vR (some 51)), (1, vI x1), (2, vI x2), (3, vL (x3 ||| (lshl (i2l (127 - r11)) (8 * x5)))), (5, vI (x5 + 1))]) [2, 3, 4, 1, 0] rfl ?_
    exact h
set_option maxRecDepth 20000 in
theorem s_X1_layRow_106 {w : Wd} {d : Nat} {P : IM → LM → Prop} {i : IM} {l : LM} (x1 : Int) (x2 : Int) (x3 : Int64) (x5 : Int)  (hd : 2 ≤ d) (h : ((rg x5) ∧ ((x5 < 0) → 0 ≤ x2 ∧ x2 < 132) ∧ (((x5 < 0) ∧ (mayF l x2 0 x3 x3 = 0)) → P i l) ∧ (((x5 < 0) ∧ (¬ (mayF l x2 0 x3 x3 = 0))) → cI w d X_X1_isTwice [vR (some 51), vI x2] i l (fun r20 i20 l20 => (((r20 = 0) → ((rg ((i20 51 13) + 1)) ∧ P (u2 i20 51 13 ((i20 51 13) + 1)) l20)) ∧ ((¬ (r20 = 0)) → P i20 l20)))) ∧ ((¬ (x5 < 0)) → gV w d X_X1_layRow P i l 117 [(0, vR (some 51)), (1, vI x1), (2, vI x2), (3, vL x3), (5, vI x5), (6, vL 0), (8, vI 0)] []))) : gV w d X_X1_layRow P i l 106 [(0, vR (some 51)), (1, vI x1), (2, vI x2), (3, vL x3), (5, vI x5)] [] := by
  refine g_iload (pc' := 108) 4 dX1_layRow_106 rfl rfl ?_
  obtain ⟨hob15, hob17, hk28, hk29, hk30⟩ := h
  have hk28g : ((x5 < 0) ∧ (mayF l x2 0 x3 x3 = 0)) → gV w d X_X1_layRow P i l 298 [(0, vR (some 51)), (1, vI x1), (2, vI x2), (3, vL x3), (5, vI x5)] [] := by
    intro hp
    have h := hk28 hp
    exact g_retV rfl dX1_layRow_298 h
  have hk29g : ((x5 < 0) ∧ (¬ (mayF l x2 0 x3 x3 = 0))) → gV w d X_X1_layRow P i l 280 [(0, vR (some 51)), (1, vI x1), (2, vI x2), (3, vL x3), (5, vI x5)] [] := by
    intro hp
    have h := hk29 hp
    refine g_aload_n (pc' := 281) 0 dX1_layRow_280 rfl rfl ?_
    refine g_iload_n (pc' := 282) 2 dX1_layRow_281 rfl rfl ?_
    refine g_cVI (pc' := 285) (vs := [vI x2]) (st := []) (c := 1) h mv_X1_isTwice lk_X1_132 rfl rfl rfl rfl (Nat.le_of_ble_eq_true rfl) (Nat.le_of_ble_eq_true rfl) rfl dX1_layRow_282 rfl z2 (fun r20 i20 l20 rg20 h => ?_)
    obtain ⟨hk26, hk27⟩ := h
    refine g_if_ne (tgt := 298) (pc' := 288) rg20 Iff.rfl dX1_layRow_285 rfl rfl (fun c22 => ?_) (fun c22 => ?_)
    · have h := hk27 c22
      exact g_retV rfl dX1_layRow_298 h
    · have h := hk26 c22
      obtain ⟨ob25, h⟩ := h
      refine g_aload_n (pc' := 289) 0 dX1_layRow_288 rfl rfl ?_
      refine g_dup (pc' := 290) dX1_layRow_289 rfl rfl ?_
      refine g_getI (pc' := 293) (z := 13) rfl fl_X1_87 rfl rfl dX1_layRow_290 rfl (fun rg24 => ?_)
      refine g_iconst (pc' := 294) dX1_layRow_293 rfl ?_
      refine g_iadd (pc' := 295) dX1_layRow_294 rfl ?_
      refine g_putI (pc' := 298) (z := 13) rfl fp_X1_87 rfl rfl ob25 dX1_layRow_295 rfl ?_
      exact g_retV rfl dX1_layRow_298 h
  have hk30g : (¬ (x5 < 0)) → gV w d X_X1_layRow P i l 111 [(0, vR (some 51)), (1, vI x1), (2, vI x2), (3, vL x3), (5, vI x5)] [] := by
    intro hp
    have h := hk30 hp
    refine g_lconst (pc' := 112) (v := 0) dX1_layRow_111 rfl rfl ?_
    refine g_lstore (pc' := 114) (L' := [(6, vL 0), (0, vR (some 51)), (1, vI x1), (2, vI x2), (3, vL x3), (5, vI x5)]) dX1_layRow_112 rfl (Nat.le_of_ble_eq_true rfl) rfl ?_
    refine g_iconst (pc' := 115) dX1_layRow_114 rfl ?_
    refine g_istore (pc' := 117) (L' := [(8, vI 0), (6, vL 0), (0, vR (some 51)), (1, vI x1), (2, vI x2), (3, vL x3), (5, vI x5)]) dX1_layRow_115 rfl (Nat.le_of_ble_eq_true rfl) rfl ?_
    refine g_sub (L' := [(0, vR (some 51)), (1, vI x1), (2, vI x2), (3, vL x3), (5, vI x5), (6, vL 0), (8, vI 0)]) [2, 3, 4, 5, 6, 1, 0] rfl ?_
    exact h
  refine g_if_lt (tgt := 267) (pc' := 111) (hob15) Iff.rfl dX1_layRow_108 rfl rfl (fun c16 => ?_) (fun c16 => ?_)
  · refine g_aload_n (pc' := 268) 0 dX1_layRow_267 rfl rfl ?_
    refine g_iload_n (pc' := 269) 2 dX1_layRow_268 rfl rfl ?_
    refine g_lconst (pc' := 270) (v := 0) dX1_layRow_269 rfl rfl ?_
    refine g_lload_n (pc' := 271) 3 dX1_layRow_270 rfl rfl ?_
    refine g_lload_n (pc' := 272) 3 dX1_layRow_271 rfl rfl ?_
    refine g_pVL (pc' := 275) (vs := [vI x2, vL 0, vL x3, vL x3]) (st := []) (val := mayF l x2 0 x3 x3) (c := 1) (sp_X1_mayFail (le_hd hd rfl) (hob17 c16)) mv_X1_mayFail lk_X1_128 rfl rfl rfl rfl (Nat.le_of_ble_eq_true rfl) (Nat.le_of_ble_eq_true rfl) rfl dX1_layRow_272 rfl z2 ?_
    refine g_lconst (pc' := 276) (v := 0) dX1_layRow_275 rfl rfl ?_
    refine g_lcmp (pc' := 277) dX1_layRow_276 rfl ?_
    refine g_if_eq (tgt := 298) (pc' := 280) (rg_lcmpI _ _) (lcmpI_eq _ _) dX1_layRow_277 rfl rfl (fun c19 => ?_) (fun c19 => ?_)
    · exact hk28g ⟨c16, c19⟩
    · exact hk29g ⟨c16, c19⟩
  · exact hk30g c16
set_option maxRecDepth 20000 in
theorem s_X1_layRow_117 {w : Wd} {d : Nat} {P : IM → LM → Prop} {i : IM} {l : LM} (x1 : Int) (x2 : Int) (x3 : Int64) (x5 : Int) (x6 : Int64) (x8 : Int)  (hd : 2 ≤ d) (h : ((rg x8) ∧ (¬ (3 ≤ x8) → 0 ≤ x5 ∧ x5 < 10) ∧ ((3 ≤ x8) → ((0 ≤ ((x5 * 12) + x2) + 12 ∧ ((x5 * 12) + x2) + 12 < 132) ∧ (0 ≤ (x5 * 12) + x2 ∧ (x5 * 12) + x2 < 132) ∧ gV w d X_X1_layRow P i (u2l (u2l l 57 ((x5 * 12) + x2) (x6 ||| (l 57 (((x5 * 12) + x2) + 12)))) 58 ((x5 * 12) + x2) (((u2l l 57 ((x5 * 12) + x2) (x6 ||| (l 57 (((x5 * 12) + x2) + 12)))) 58 (((x5 * 12) + x2) + 12)) + ((lushr ((cntL x6) + 9187201950435737471) 7) &&& 72340172838076673))) 106 [(0, vR (some 51)), (1, vI x1), (2, vI x2), (3, vL x3), (5, vI (x5 + (-1)))] [])) ∧ ((¬ (3 ≤ x8) ∧ (¬ (iand (ishr (i 52 x5) x8) 1 = 1))) → gV w d X_X1_layRow P i l 117 [(0, vR (some 51)), (1, vI x1), (2, vI x2), (3, vL x3), (5, vI x5), (6, vL x6), (8, vI (x8 + 1))] []) ∧ ((¬ (3 ≤ x8) ∧ (iand (ishr (i 52 x5) x8) 1 = 1)) → ((0 ≤ x5 * 3 + x8 ∧ x5 * 3 + x8 < 30) ∧ (0 ≤ x5 ∧ x5 < 10) ∧ cL w d X_X1_viewOf [vR (some 51), vI x5, vI (cShown i x5 (i 59 (x5 * 3 + x8)) x1), vI x1] i l (fun r47 i47 l47 => ((0 ≤ (((x5 * 3) + x8) * 12) + x2 ∧ (((x5 * 3) + x8) * 12) + x2 < 360) ∧ gV w d X_X1_layRow P i47 (u2l l47 56 ((((x5 * 3) + x8) * 12) + x2) r47) 117 [(0, vR (some 51)), (1, vI x1), (2, vI x2), (3, vL x3), (5, vI x5), (6, vL (x6 ||| r47)), (8, vI (x8 + 1))] [])))))) : gV w d X_X1_layRow P i l 117 [(0, vR (some 51)), (1, vI x1), (2, vI x2), (3, vL x3), (5, vI x5), (6, vL x6), (8, vI x8)] [] := by
  refine g_iload (pc' := 119) 6 dX1_layRow_117 rfl rfl ?_
  refine g_iconst (pc' := 120) dX1_layRow_119 rfl ?_
  obtain ⟨hob32, hob34, hk49, hk50, hk51⟩ := h
  have hk49g : (3 ≤ x8) → gV w d X_X1_layRow P i l 198 [(0, vR (some 51)), (1, vI x1), (2, vI x2), (3, vL x3), (5, vI x5), (6, vL x6), (8, vI x8)] [] := by
    intro hp
    have h := hk49 hp
    obtain ⟨ob40, ob41, h⟩ := h
    refine g_iload (pc' := 200) 4 dX1_layRow_198 rfl rfl ?_
    refine g_bipush (pc' := 202) dX1_layRow_200 rfl rfl ?_
    refine g_imul (pc' := 203) dX1_layRow_202 rfl ?_
    refine g_iload_n (pc' := 204) 2 dX1_layRow_203 rfl rfl ?_
    refine g_iadd (pc' := 205) dX1_layRow_204 rfl ?_
    refine g_istore (pc' := 207) (L' := [(8, vI ((x5 * 12) + x2)), (0, vR (some 51)), (1, vI x1), (2, vI x2), (3, vL x3), (5, vI x5), (6, vL x6)]) dX1_layRow_205 rfl (Nat.le_of_ble_eq_true rfl) rfl ?_
    refine g_aload_n (pc' := 208) 1 dX1_layRow_207 rfl rfl ?_
    refine g_getR (pc' := 211) (o := some 57) fl_X1_28 rfl rfl rfl dX1_layRow_208 rfl ?_
    refine g_iload (pc' := 213) 0 dX1_layRow_211 rfl rfl ?_
    refine g_lload (pc' := 215) 6 dX1_layRow_213 rfl rfl ?_
    refine g_aload_n (pc' := 216) 1 dX1_layRow_215 rfl rfl ?_
    refine g_getR (pc' := 219) (o := some 57) fl_X1_28 rfl rfl rfl dX1_layRow_216 rfl ?_
    refine g_iload (pc' := 221) 0 dX1_layRow_219 rfl rfl ?_
    refine g_bipush (pc' := 223) dX1_layRow_221 rfl rfl ?_
    refine g_iadd (pc' := 224) dX1_layRow_223 rfl ?_
    refine g_lald (pc' := 225) (N := 132) rfl rfl (Nat.lt_of_lt_of_le (Nat.lt_succ_self _) (Nat.le_of_ble_eq_true rfl)) ob40 dX1_layRow_224 rfl ?_
    refine g_lor (pc' := 226) dX1_layRow_225 rfl ?_
    refine g_last (pc' := 227) (N := 132) rfl rfl (Nat.lt_of_lt_of_le (Nat.lt_succ_self _) (Nat.le_of_ble_eq_true rfl)) ob41 dX1_layRow_226 rfl ?_
    refine g_aload_n (pc' := 228) 1 dX1_layRow_227 rfl rfl ?_
    refine g_getR (pc' := 231) (o := some 58) fl_X1_31 rfl rfl rfl dX1_layRow_228 rfl ?_
    refine g_iload (pc' := 233) 0 dX1_layRow_231 rfl rfl ?_
    refine g_aload_n (pc' := 234) 1 dX1_layRow_233 rfl rfl ?_
    refine g_getR (pc' := 237) (o := some 58) fl_X1_31 rfl rfl rfl dX1_layRow_234 rfl ?_
    refine g_iload (pc' := 239) 0 dX1_layRow_237 rfl rfl ?_
    refine g_bipush (pc' := 241) dX1_layRow_239 rfl rfl ?_
    refine g_iadd (pc' := 242) dX1_layRow_241 rfl ?_
    refine g_lald (pc' := 243) (N := 132) rfl rfl (Nat.lt_of_lt_of_le (Nat.lt_succ_self _) (Nat.le_of_ble_eq_true rfl)) ob40 dX1_layRow_242 rfl ?_
    refine g_lload (pc' := 245) 6 dX1_layRow_243 rfl rfl ?_
    refine g_pSL (pc' := 248) (vs := [vL x6]) (st := [vL ((u2l l 57 ((x5 * 12) + x2) (x6 ||| (l 57 (((x5 * 12) + x2) + 12)))) 58 (((x5 * 12) + x2) + 12)), vI ((x5 * 12) + x2), vR (some 58)]) (val := cntL x6) (sp_X1_counted (le_hd hd rfl) ) mk_X1_counted ms_X1_counted lk_X1_120 rfl (Nat.le_of_ble_eq_true rfl) (Nat.le_of_ble_eq_true rfl) rfl dX1_layRow_245 rfl z2 ?_
    refine g_ldc2 (pc' := 251) dX1_layRow_248 rfl kl_X1_124 ?_
    refine g_ladd (pc' := 252) dX1_layRow_251 rfl ?_
    refine g_bipush (pc' := 254) dX1_layRow_252 rfl rfl ?_
    refine g_lushr (pc' := 255) dX1_layRow_254 rfl ?_
    refine g_ldc2 (pc' := 258) dX1_layRow_255 rfl kl_X1_126 ?_
    refine g_land (pc' := 259) dX1_layRow_258 rfl ?_
    refine g_ladd (pc' := 260) dX1_layRow_259 rfl ?_
    refine g_last (pc' := 261) (N := 132) rfl rfl (Nat.lt_of_lt_of_le (Nat.lt_succ_self _) (Nat.le_of_ble_eq_true rfl)) ob41 dX1_layRow_260 rfl ?_
    refine g_iinc (pc' := 264) (L' := [(5, vI (x5 + (-1))), (8, vI ((x5 * 12) + x2)), (0, vR (some 51)), (1, vI x1), (2, vI x2), (3, vL x3), (6, vL x6)]) 5 dX1_layRow_261 rfl (Nat.le_of_ble_eq_true rfl) rfl rfl ?_
    refine g_goto (tgt := 106) dX1_layRow_264 rfl ?_
    refine g_sub (L' := [(0, vR (some 51)), (1, vI x1), (2, vI x2), (3, vL x3), (5, vI (x5 + (-1)))]) [2, 3, 4, 5, 0] rfl ?_
    exact h
  have hk50g : (¬ (3 ≤ x8) ∧ (¬ (iand (ishr (i 52 x5) x8) 1 = 1))) → gV w d X_X1_layRow P i l 192 [(0, vR (some 51)), (1, vI x1), (2, vI x2), (3, vL x3), (5, vI x5), (6, vL x6), (8, vI x8)] [] := by
    intro hp
    have h := hk50 hp
    refine g_iinc (pc' := 195) (L' := [(8, vI (x8 + 1)), (0, vR (some 51)), (1, vI x1), (2, vI x2), (3, vL x3), (5, vI x5), (6, vL x6)]) 6 dX1_layRow_192 rfl (Nat.le_of_ble_eq_true rfl) rfl rfl ?_
    refine g_goto (tgt := 117) dX1_layRow_195 rfl ?_
    refine g_sub (L' := [(0, vR (some 51)), (1, vI x1), (2, vI x2), (3, vL x3), (5, vI x5), (6, vL x6), (8, vI (x8 + 1))]) [1, 2, 3, 4, 5, 6, 0] rfl ?_
    exact h
  have hk51g : (¬ (3 ≤ x8) ∧ (iand (ishr (i 52 x5) x8) 1 = 1)) → gV w d X_X1_layRow P i l 139 [(0, vR (some 51)), (1, vI x1), (2, vI x2), (3, vL x3), (5, vI x5), (6, vL x6), (8, vI x8)] [] := by
    intro hp
    have h := hk51 hp
    obtain ⟨ob43, ob45, h⟩ := h
    refine g_aload_n (pc' := 140) 0 dX1_layRow_139 rfl rfl ?_
    refine g_iload (pc' := 142) 4 dX1_layRow_140 rfl rfl ?_
    refine g_aload_n (pc' := 143) 0 dX1_layRow_142 rfl rfl ?_
    refine g_getR (pc' := 146) (o := some 7) fl_X1_50 rfl rfl rfl dX1_layRow_143 rfl ?_
    refine g_iload (pc' := 148) 4 dX1_layRow_146 rfl rfl ?_
    refine g_aload_n (pc' := 149) 0 dX1_layRow_148 rfl rfl ?_
    refine g_iload (pc' := 151) 4 dX1_layRow_149 rfl rfl ?_
    refine g_iload (pc' := 153) 6 dX1_layRow_151 rfl rfl ?_
    refine g_pVI (pc' := 156) (vs := [vI x5, vI x8]) (st := [vI x5, vR (some 7), vI x5, vR (some 51)]) (val := i 59 (x5 * 3 + x8)) (c := 1) (sp_X1_hue (le_hd hd rfl) ob43) mv_X1_hue lk_X1_110 rfl rfl rfl rfl (Nat.le_of_ble_eq_true rfl) (Nat.le_of_ble_eq_true rfl) rfl dX1_layRow_153 rfl z2 (fun rg44 => ?_)
    refine g_iload_n (pc' := 157) 1 dX1_layRow_156 rfl rfl ?_
    refine g_pVI (pc' := 160) (vs := [vI x5, vI (i 59 (x5 * 3 + x8)), vI x1]) (st := [vI x5, vR (some 51)]) (val := cShown i x5 (i 59 (x5 * 3 + x8)) x1) (c := 9) (sp_X9_shownIn (le_hd hd rfl) rg44 ob45) mv_X9_shownIn lk_X1_113 rfl rfl rfl rfl (Nat.le_of_ble_eq_true rfl) (Nat.le_of_ble_eq_true rfl) rfl dX1_layRow_157 rfl z2 (fun rg46 => ?_)
    refine g_iload_n (pc' := 161) 1 dX1_layRow_160 rfl rfl ?_
    refine g_cVL (pc' := 164) (vs := [vI x5, vI (cShown i x5 (i 59 (x5 * 3 + x8)) x1), vI x1]) (st := []) (c := 1) h mv_X1_viewOf lk_X1_116 rfl rfl rfl rfl (Nat.le_of_ble_eq_true rfl) (Nat.le_of_ble_eq_true rfl) rfl dX1_layRow_161 rfl z2 (fun r47 i47 l47 h => ?_)
    obtain ⟨ob48, h⟩ := h
    refine g_lstore (pc' := 166) (L' := [(9, vL r47), (0, vR (some 51)), (1, vI x1), (2, vI x2), (3, vL x3), (5, vI x5), (6, vL x6), (8, vI x8)]) dX1_layRow_164 rfl (Nat.le_of_ble_eq_true rfl) rfl ?_
    refine g_aload_n (pc' := 167) 1 dX1_layRow_166 rfl rfl ?_
    refine g_getR (pc' := 170) (o := some 56) fl_X1_24 rfl rfl rfl dX1_layRow_167 rfl ?_
    refine g_iload (pc' := 172) 5 dX1_layRow_170 rfl rfl ?_
    refine g_iconst (pc' := 173) dX1_layRow_172 rfl ?_
    refine g_imul (pc' := 174) dX1_layRow_173 rfl ?_
    refine g_iload (pc' := 176) 7 dX1_layRow_174 rfl rfl ?_
    refine g_iadd (pc' := 177) dX1_layRow_176 rfl ?_
    refine g_bipush (pc' := 179) dX1_layRow_177 rfl rfl ?_
    refine g_imul (pc' := 180) dX1_layRow_179 rfl ?_
    refine g_iload_n (pc' := 181) 3 dX1_layRow_180 rfl rfl ?_
    refine g_iadd (pc' := 182) dX1_layRow_181 rfl ?_
    refine g_lload (pc' := 184) 0 dX1_layRow_182 rfl rfl ?_
    refine g_last (pc' := 185) (N := 360) rfl rfl (Nat.lt_of_lt_of_le (Nat.lt_succ_self _) (Nat.le_of_ble_eq_true rfl)) ob48 dX1_layRow_184 rfl ?_
    refine g_lload (pc' := 187) 6 dX1_layRow_185 rfl rfl ?_
    refine g_lload (pc' := 189) 0 dX1_layRow_187 rfl rfl ?_
    refine g_lor (pc' := 190) dX1_layRow_189 rfl ?_
    refine g_lstore (pc' := 192) (L' := [(6, vL (x6 ||| r47)), (9, vL r47), (0, vR (some 51)), (1, vI x1), (2, vI x2), (3, vL x3), (5, vI x5), (8, vI x8)]) dX1_layRow_190 rfl (Nat.le_of_ble_eq_true rfl) rfl ?_
    refine g_iinc (pc' := 195) (L' := [(8, vI (x8 + 1)), (6, vL (x6 ||| r47)), (9, vL r47), (0, vR (some 51)), (1, vI x1), (2, vI x2), (3, vL x3), (5, vI x5)]) 7 dX1_layRow_192 rfl (Nat.le_of_ble_eq_true rfl) rfl rfl ?_
    refine g_goto (tgt := 117) dX1_layRow_195 rfl ?_
    refine g_sub (L' := [(0, vR (some 51)), (1, vI x1), (2, vI x2), (3, vL x3), (5, vI x5), (6, vL (x6 ||| r47)), (8, vI (x8 + 1))]) [3, 4, 5, 6, 7, 1, 0] rfl ?_
    exact h
  refine g_icmp_ge (tgt := 198) (pc' := 123) (hob32) (rg_lit rfl) Iff.rfl dX1_layRow_120 rfl rfl (fun c33 => ?_) (fun c33 => ?_)
  · exact hk49g c33
  · refine g_aload_n (pc' := 124) 0 dX1_layRow_123 rfl rfl ?_
    refine g_getR (pc' := 127) (o := some 52) fl_X1_11 rfl rfl rfl dX1_layRow_124 rfl ?_
    refine g_iload (pc' := 129) 4 dX1_layRow_127 rfl rfl ?_
    refine g_iald (pc' := 130) (N := 10) rfl rfl (Nat.lt_of_lt_of_le (Nat.lt_succ_self _) (Nat.le_of_ble_eq_true rfl)) (hob34 c33) dX1_layRow_129 rfl (fun rg35 => ?_)
    refine g_iload (pc' := 132) 6 dX1_layRow_130 rfl rfl ?_
    refine g_ishr (pc' := 133) dX1_layRow_132 rfl ?_
    refine g_iconst (pc' := 134) dX1_layRow_133 rfl ?_
    refine g_iand (pc' := 135) dX1_layRow_134 rfl ?_
    refine g_iconst (pc' := 136) dX1_layRow_135 rfl ?_
    refine g_icmp_ne (tgt := 192) (pc' := 139) (rg_iand _ _) (rg_lit rfl) Iff.rfl dX1_layRow_136 rfl rfl (fun c36 => ?_) (fun c36 => ?_)
    · exact hk50g ⟨c33, c36⟩
    · exact hk51g ⟨c33, c36⟩

theorem dX1_isTwice_0 : decode cX1_isTwice 0 = .ok (.iconst 0, 1) := by decide +kernel
theorem dX1_isTwice_1 : decode cX1_isTwice 1 = .ok (.istore_n 2, 1) := by decide +kernel
theorem dX1_isTwice_2 : decode cX1_isTwice 2 = .ok (.iload_n 2, 1) := by decide +kernel
theorem dX1_isTwice_3 : decode cX1_isTwice 3 = .ok (.iload_n 1, 1) := by decide +kernel
theorem dX1_isTwice_4 : decode cX1_isTwice 4 = .ok (.if_icmp .ge 146, 3) := by decide +kernel
theorem dX1_isTwice_7 : decode cX1_isTwice 7 = .ok (.aload_n 0, 1) := by decide +kernel
theorem dX1_isTwice_8 : decode cX1_isTwice 8 = .ok (.getfield 37, 3) := by decide +kernel
theorem dX1_isTwice_11 : decode cX1_isTwice 11 = .ok (.iload_n 2, 1) := by decide +kernel
theorem dX1_isTwice_12 : decode cX1_isTwice 12 = .ok (.laload, 1) := by decide +kernel
theorem dX1_isTwice_13 : decode cX1_isTwice 13 = .ok (.aload_n 0, 1) := by decide +kernel
theorem dX1_isTwice_14 : decode cX1_isTwice 14 = .ok (.getfield 37, 3) := by decide +kernel
theorem dX1_isTwice_17 : decode cX1_isTwice 17 = .ok (.iload_n 1, 1) := by decide +kernel
theorem dX1_isTwice_18 : decode cX1_isTwice 18 = .ok (.laload, 1) := by decide +kernel
theorem dX1_isTwice_19 : decode cX1_isTwice 19 = .ok (.lcmp, 1) := by decide +kernel
theorem dX1_isTwice_20 : decode cX1_isTwice 20 = .ok (.ifCond .ne 23, 3) := by decide +kernel
theorem dX1_isTwice_23 : decode cX1_isTwice 23 = .ok (.aload_n 0, 1) := by decide +kernel
theorem dX1_isTwice_24 : decode cX1_isTwice 24 = .ok (.getfield 28, 3) := by decide +kernel
theorem dX1_isTwice_27 : decode cX1_isTwice 27 = .ok (.iload_n 2, 1) := by decide +kernel
theorem dX1_isTwice_28 : decode cX1_isTwice 28 = .ok (.laload, 1) := by decide +kernel
theorem dX1_isTwice_29 : decode cX1_isTwice 29 = .ok (.aload_n 0, 1) := by decide +kernel
theorem dX1_isTwice_30 : decode cX1_isTwice 30 = .ok (.getfield 28, 3) := by decide +kernel
theorem dX1_isTwice_33 : decode cX1_isTwice 33 = .ok (.iload_n 1, 1) := by decide +kernel
theorem dX1_isTwice_34 : decode cX1_isTwice 34 = .ok (.laload, 1) := by decide +kernel
theorem dX1_isTwice_35 : decode cX1_isTwice 35 = .ok (.lcmp, 1) := by decide +kernel
theorem dX1_isTwice_36 : decode cX1_isTwice 36 = .ok (.ifCond .ne 7, 3) := by decide +kernel
theorem dX1_isTwice_39 : decode cX1_isTwice 39 = .ok (.iconst 1, 1) := by decide +kernel
theorem dX1_isTwice_40 : decode cX1_isTwice 40 = .ok (.goto 4, 3) := by decide +kernel
theorem dX1_isTwice_43 : decode cX1_isTwice 43 = .ok (.iconst 0, 1) := by decide +kernel
theorem dX1_isTwice_44 : decode cX1_isTwice 44 = .ok (.istore_n 3, 1) := by decide +kernel
theorem dX1_isTwice_45 : decode cX1_isTwice 45 = .ok (.iconst 0, 1) := by decide +kernel
theorem dX1_isTwice_46 : decode cX1_isTwice 46 = .ok (.istore 4, 2) := by decide +kernel
theorem dX1_isTwice_48 : decode cX1_isTwice 48 = .ok (.iload 4, 2) := by decide +kernel
theorem dX1_isTwice_50 : decode cX1_isTwice 50 = .ok (.aload_n 0, 1) := by decide +kernel
theorem dX1_isTwice_51 : decode cX1_isTwice 51 = .ok (.getfield 50, 3) := by decide +kernel
theorem dX1_isTwice_54 : decode cX1_isTwice 54 = .ok (.getfield 64, 3) := by decide +kernel
theorem dX1_isTwice_57 : decode cX1_isTwice 57 = .ok (.iconst 3, 1) := by decide +kernel
theorem dX1_isTwice_58 : decode cX1_isTwice 58 = .ok (.imul, 1) := by decide +kernel
theorem dX1_isTwice_59 : decode cX1_isTwice 59 = .ok (.if_icmp .ge 79, 3) := by decide +kernel
theorem dX1_isTwice_62 : decode cX1_isTwice 62 = .ok (.iload_n 3, 1) := by decide +kernel
theorem dX1_isTwice_63 : decode cX1_isTwice 63 = .ok (.ifCond .eq 75, 3) := by decide +kernel
theorem dX1_isTwice_66 : decode cX1_isTwice 66 = .ok (.aload_n 0, 1) := by decide +kernel
theorem dX1_isTwice_67 : decode cX1_isTwice 67 = .ok (.getfield 11, 3) := by decide +kernel
theorem dX1_isTwice_70 : decode cX1_isTwice 70 = .ok (.iload 4, 2) := by decide +kernel
theorem dX1_isTwice_72 : decode cX1_isTwice 72 = .ok (.iconst 3, 1) := by decide +kernel
theorem dX1_isTwice_73 : decode cX1_isTwice 73 = .ok (.idiv, 1) := by decide +kernel
theorem dX1_isTwice_74 : decode cX1_isTwice 74 = .ok (.iaload, 1) := by decide +kernel
theorem dX1_isTwice_75 : decode cX1_isTwice 75 = .ok (.iload 4, 2) := by decide +kernel
theorem dX1_isTwice_77 : decode cX1_isTwice 77 = .ok (.iconst 3, 1) := by decide +kernel
theorem dX1_isTwice_78 : decode cX1_isTwice 78 = .ok (.irem, 1) := by decide +kernel
theorem dX1_isTwice_79 : decode cX1_isTwice 79 = .ok (.ishr, 1) := by decide +kernel
theorem dX1_isTwice_80 : decode cX1_isTwice 80 = .ok (.iconst 1, 1) := by decide +kernel
theorem dX1_isTwice_81 : decode cX1_isTwice 81 = .ok (.iand, 1) := by decide +kernel
theorem dX1_isTwice_82 : decode cX1_isTwice 82 = .ok (.iconst 1, 1) := by decide +kernel
theorem dX1_isTwice_83 : decode cX1_isTwice 83 = .ok (.if_icmp .ne 7, 3) := by decide +kernel
theorem dX1_isTwice_86 : decode cX1_isTwice 86 = .ok (.iconst 1, 1) := by decide +kernel
theorem dX1_isTwice_87 : decode cX1_isTwice 87 = .ok (.goto 4, 3) := by decide +kernel
theorem dX1_isTwice_90 : decode cX1_isTwice 90 = .ok (.iconst 0, 1) := by decide +kernel
theorem dX1_isTwice_91 : decode cX1_isTwice 91 = .ok (.istore 5, 2) := by decide +kernel
theorem dX1_isTwice_93 : decode cX1_isTwice 93 = .ok (.iload 5, 2) := by decide +kernel
theorem dX1_isTwice_95 : decode cX1_isTwice 95 = .ok (.ifCond .eq 31, 3) := by decide +kernel
theorem dX1_isTwice_98 : decode cX1_isTwice 98 = .ok (.aload_n 0, 1) := by decide +kernel
theorem dX1_isTwice_99 : decode cX1_isTwice 99 = .ok (.getfield 24, 3) := by decide +kernel
theorem dX1_isTwice_102 : decode cX1_isTwice 102 = .ok (.iload 4, 2) := by decide +kernel
theorem dX1_isTwice_104 : decode cX1_isTwice 104 = .ok (.bipush 12, 2) := by decide +kernel
theorem dX1_isTwice_106 : decode cX1_isTwice 106 = .ok (.imul, 1) := by decide +kernel
theorem dX1_isTwice_107 : decode cX1_isTwice 107 = .ok (.iload_n 2, 1) := by decide +kernel
theorem dX1_isTwice_108 : decode cX1_isTwice 108 = .ok (.iadd, 1) := by decide +kernel
theorem dX1_isTwice_109 : decode cX1_isTwice 109 = .ok (.laload, 1) := by decide +kernel
theorem dX1_isTwice_110 : decode cX1_isTwice 110 = .ok (.aload_n 0, 1) := by decide +kernel
theorem dX1_isTwice_111 : decode cX1_isTwice 111 = .ok (.getfield 24, 3) := by decide +kernel
theorem dX1_isTwice_114 : decode cX1_isTwice 114 = .ok (.iload 4, 2) := by decide +kernel
theorem dX1_isTwice_116 : decode cX1_isTwice 116 = .ok (.bipush 12, 2) := by decide +kernel
theorem dX1_isTwice_118 : decode cX1_isTwice 118 = .ok (.imul, 1) := by decide +kernel
theorem dX1_isTwice_119 : decode cX1_isTwice 119 = .ok (.iload_n 1, 1) := by decide +kernel
theorem dX1_isTwice_120 : decode cX1_isTwice 120 = .ok (.iadd, 1) := by decide +kernel
theorem dX1_isTwice_121 : decode cX1_isTwice 121 = .ok (.laload, 1) := by decide +kernel
theorem dX1_isTwice_122 : decode cX1_isTwice 122 = .ok (.lcmp, 1) := by decide +kernel
theorem dX1_isTwice_123 : decode cX1_isTwice 123 = .ok (.ifCond .ne 7, 3) := by decide +kernel
theorem dX1_isTwice_126 : decode cX1_isTwice 126 = .ok (.iconst 1, 1) := by decide +kernel
theorem dX1_isTwice_127 : decode cX1_isTwice 127 = .ok (.goto 4, 3) := by decide +kernel
theorem dX1_isTwice_130 : decode cX1_isTwice 130 = .ok (.iconst 0, 1) := by decide +kernel
theorem dX1_isTwice_131 : decode cX1_isTwice 131 = .ok (.istore_n 3, 1) := by decide +kernel
theorem dX1_isTwice_132 : decode cX1_isTwice 132 = .ok (.iinc 4 1, 3) := by decide +kernel
theorem dX1_isTwice_135 : decode cX1_isTwice 135 = .ok (.goto (-87), 3) := by decide +kernel
theorem dX1_isTwice_138 : decode cX1_isTwice 138 = .ok (.iload_n 3, 1) := by decide +kernel
theorem dX1_isTwice_139 : decode cX1_isTwice 139 = .ok (.ifCond .eq 5, 3) := by decide +kernel
theorem dX1_isTwice_142 : decode cX1_isTwice 142 = .ok (.iconst 1, 1) := by decide +kernel
theorem dX1_isTwice_143 : decode cX1_isTwice 143 = .ok (.ireturn, 1) := by decide +kernel
theorem dX1_isTwice_144 : decode cX1_isTwice 144 = .ok (.iinc 2 1, 3) := by decide +kernel
theorem dX1_isTwice_147 : decode cX1_isTwice 147 = .ok (.goto (-145), 3) := by decide +kernel
theorem dX1_isTwice_150 : decode cX1_isTwice 150 = .ok (.iconst 0, 1) := by decide +kernel
theorem dX1_isTwice_151 : decode cX1_isTwice 151 = .ok (.ireturn, 1) := by decide +kernel
set_option maxRecDepth 20000 in
theorem s_X1_isTwice {w : Wd} {d : Nat} {P : Int → IM → LM → Prop} {i : IM} {l : LM} (p0 : Int)  (h : gI w d X_X1_isTwice P i l 2 [(0, vR (some 51)), (1, vI p0), (2, vI 0)] []) : gI w d X_X1_isTwice P i l 0 [(0, vR (some 51)), (1, vI p0)] [] := by
  refine g_iconst (pc' := 1) dX1_isTwice_0 rfl ?_
  refine g_istore_n (pc' := 2) (L' := [(2, vI 0), (0, vR (some 51)), (1, vI p0)]) dX1_isTwice_1 rfl (Nat.le_of_ble_eq_true rfl) rfl ?_
  refine g_sub (L' := [(0, vR (some 51)), (1, vI p0), (2, vI 0)]) [1, 2, 0] rfl ?_
  exact h
theorem e_X1_isTwice {w : Wd} {d : Nat} {P : Int → IM → LM → Prop} {i : IM} {l : LM} {p0 : Int}  (h : gI w d X_X1_isTwice P i l 0 [(0, vR (some 51)), (1, vI p0)] []) : cI w (d + 1) X_X1_isTwice [vR (some 51), vI p0] i l P := CI_of (by decide +kernel) (Nat.le_of_ble_eq_true rfl) h
set_option maxRecDepth 20000 in
theorem s_X1_isTwice_2 {w : Wd} {d : Nat} {P : Int → IM → LM → Prop} {i : IM} {l : LM} (x1 : Int) (x2 : Int)  (h : ((rg x2) ∧ (rg x1) ∧ (¬ (x1 ≤ x2) → 0 ≤ x2 ∧ x2 < 12) ∧ (¬ (x1 ≤ x2) → 0 ≤ x1 ∧ x1 < 12) ∧ ((x1 ≤ x2) → P 0 i l) ∧ ((¬ (x1 ≤ x2) ∧ (¬ (l 60 x2 = l 60 x1))) → gI w d X_X1_isTwice P i l 48 [(0, vR (some 51)), (1, vI x1), (2, vI x2), (3, vI 0), (4, vI 0)] []) ∧ ((¬ (x1 ≤ x2) ∧ (l 60 x2 = l 60 x1)) → ((0 ≤ x2 ∧ x2 < 132) ∧ (0 ≤ x1 ∧ x1 < 132) ∧ gI w d X_X1_isTwice P i l 48 [(0, vR (some 51)), (1, vI x1), (2, vI x2), (3, vI (bI (l 57 x2 = l 57 x1))), (4, vI 0)] [])))) : gI w d X_X1_isTwice P i l 2 [(0, vR (some 51)), (1, vI x1), (2, vI x2)] [] := by
  refine g_iload_n (pc' := 3) 2 dX1_isTwice_2 rfl rfl ?_
  refine g_iload_n (pc' := 4) 1 dX1_isTwice_3 rfl rfl ?_
  obtain ⟨hob29, hob30, hob32, hob33, hk41, hk42, hk43⟩ := h
  have hk41g : (x1 ≤ x2) → gI w d X_X1_isTwice P i l 150 [(0, vR (some 51)), (1, vI x1), (2, vI x2)] [] := by
    intro hp
    have h := hk41 hp
    refine g_iconst (pc' := 151) dX1_isTwice_150 rfl ?_
    exact g_retZ rfl (by decide) dX1_isTwice_151 h
  have hk42g : (¬ (x1 ≤ x2) ∧ (¬ (l 60 x2 = l 60 x1))) → gI w d X_X1_isTwice P i l 44 [(0, vR (some 51)), (1, vI x1), (2, vI x2)] [vI 0] := by
    intro hp
    have h := hk42 hp
    refine g_istore_n (pc' := 45) (L' := [(3, vI 0), (0, vR (some 51)), (1, vI x1), (2, vI x2)]) dX1_isTwice_44 rfl (Nat.le_of_ble_eq_true rfl) rfl ?_
    refine g_iconst (pc' := 46) dX1_isTwice_45 rfl ?_
    refine g_istore (pc' := 48) (L' := [(4, vI 0), (3, vI 0), (0, vR (some 51)), (1, vI x1), (2, vI x2)]) dX1_isTwice_46 rfl (Nat.le_of_ble_eq_true rfl) rfl ?_
    refine g_sub (L' := [(0, vR (some 51)), (1, vI x1), (2, vI x2), (3, vI 0), (4, vI 0)]) [2, 3, 4, 1, 0] rfl ?_
    exact h
  have hk43g : (¬ (x1 ≤ x2) ∧ (l 60 x2 = l 60 x1)) → gI w d X_X1_isTwice P i l 23 [(0, vR (some 51)), (1, vI x1), (2, vI x2)] [] := by
    intro hp
    have h := hk43 hp
    obtain ⟨ob37, ob38, h⟩ := h
    refine g_aload_n (pc' := 24) 0 dX1_isTwice_23 rfl rfl ?_
    refine g_getR (pc' := 27) (o := some 57) fl_X1_28 rfl rfl rfl dX1_isTwice_24 rfl ?_
    refine g_iload_n (pc' := 28) 2 dX1_isTwice_27 rfl rfl ?_
    refine g_lald (pc' := 29) (N := 132) rfl rfl (Nat.lt_of_lt_of_le (Nat.lt_succ_self _) (Nat.le_of_ble_eq_true rfl)) ob37 dX1_isTwice_28 rfl ?_
    refine g_aload_n (pc' := 30) 0 dX1_isTwice_29 rfl rfl ?_
    refine g_getR (pc' := 33) (o := some 57) fl_X1_28 rfl rfl rfl dX1_isTwice_30 rfl ?_
    refine g_iload_n (pc' := 34) 1 dX1_isTwice_33 rfl rfl ?_
    refine g_lald (pc' := 35) (N := 132) rfl rfl (Nat.lt_of_lt_of_le (Nat.lt_succ_self _) (Nat.le_of_ble_eq_true rfl)) ob38 dX1_isTwice_34 rfl ?_
    refine g_lcmp (pc' := 36) dX1_isTwice_35 rfl ?_
    have hJ : gI w d X_X1_isTwice P i l 44 [(0, vR (some 51)), (1, vI x1), (2, vI x2)] [vI (bI (l 57 x2 = l 57 x1))] := by
      refine g_istore_n (pc' := 45) (L' := [(3, vI (bI (l 57 x2 = l 57 x1))), (0, vR (some 51)), (1, vI x1), (2, vI x2)]) dX1_isTwice_44 rfl (Nat.le_of_ble_eq_true rfl) rfl ?_
      refine g_iconst (pc' := 46) dX1_isTwice_45 rfl ?_
      refine g_istore (pc' := 48) (L' := [(4, vI 0), (3, vI (bI (l 57 x2 = l 57 x1))), (0, vR (some 51)), (1, vI x1), (2, vI x2)]) dX1_isTwice_46 rfl (Nat.le_of_ble_eq_true rfl) rfl ?_
      refine g_sub (L' := [(0, vR (some 51)), (1, vI x1), (2, vI x2), (3, vI (bI (l 57 x2 = l 57 x1))), (4, vI 0)]) [2, 3, 4, 1, 0] rfl ?_
      exact h
    refine g_if_ne (tgt := 43) (pc' := 39) (rg_lcmpI _ _) (lcmpI_eq _ _) dX1_isTwice_36 rfl rfl (fun c40 => ?_) (fun c40 => ?_)
    · refine g_iconst (pc' := 44) dX1_isTwice_43 rfl ?_
      rw [bI_f (p := (l 57 x2 = l 57 x1)) c40] at hJ
      exact hJ
    · refine g_iconst (pc' := 40) dX1_isTwice_39 rfl ?_
      refine g_goto (tgt := 44) dX1_isTwice_40 rfl ?_
      rw [bI_t (p := (l 57 x2 = l 57 x1)) c40] at hJ
      exact hJ
  refine g_icmp_ge (tgt := 150) (pc' := 7) (hob29) (hob30) Iff.rfl dX1_isTwice_4 rfl rfl (fun c31 => ?_) (fun c31 => ?_)
  · exact hk41g c31
  · refine g_aload_n (pc' := 8) 0 dX1_isTwice_7 rfl rfl ?_
    refine g_getR (pc' := 11) (o := some 60) fl_X1_37 rfl rfl rfl dX1_isTwice_8 rfl ?_
    refine g_iload_n (pc' := 12) 2 dX1_isTwice_11 rfl rfl ?_
    refine g_lald (pc' := 13) (N := 12) rfl rfl (Nat.lt_of_lt_of_le (Nat.lt_succ_self _) (Nat.le_of_ble_eq_true rfl)) (hob32 c31) dX1_isTwice_12 rfl ?_
    refine g_aload_n (pc' := 14) 0 dX1_isTwice_13 rfl rfl ?_
    refine g_getR (pc' := 17) (o := some 60) fl_X1_37 rfl rfl rfl dX1_isTwice_14 rfl ?_
    refine g_iload_n (pc' := 18) 1 dX1_isTwice_17 rfl rfl ?_
    refine g_lald (pc' := 19) (N := 12) rfl rfl (Nat.lt_of_lt_of_le (Nat.lt_succ_self _) (Nat.le_of_ble_eq_true rfl)) (hob33 c31) dX1_isTwice_18 rfl ?_
    refine g_lcmp (pc' := 20) dX1_isTwice_19 rfl ?_
    refine g_if_ne (tgt := 43) (pc' := 23) (rg_lcmpI _ _) (lcmpI_eq _ _) dX1_isTwice_20 rfl rfl (fun c34 => ?_) (fun c34 => ?_)
    · refine g_iconst (pc' := 44) dX1_isTwice_43 rfl ?_
      exact hk42g ⟨c31, c34⟩
    · exact hk43g ⟨c31, c34⟩
set_option maxRecDepth 20000 in
theorem s_X1_isTwice_48 {w : Wd} {d : Nat} {P : Int → IM → LM → Prop} {i : IM} {l : LM} (x1 : Int) (x2 : Int) (x3 : Int) (x4 : Int)  (h : ((rg x4) ∧ (rg ((i 7 8) * 3)) ∧ (¬ ((i 7 8) * 3 ≤ x4) → rg x3) ∧ ((((i 7 8) * 3 ≤ x4) ∨ (x3 = 0)) → ((rg x3) ∧ ((x3 = 0) → gI w d X_X1_isTwice P i l 2 [(0, vR (some 51)), (1, vI x1), (2, vI (x2 + 1))] []) ∧ ((¬ (x3 = 0)) → P 1 i l))) ∧ ((¬ (((i 7 8) * 3 ≤ x4) ∨ (x3 = 0))) → ((rg x4) ∧ (0 ≤ Int.tdiv x4 3 ∧ Int.tdiv x4 3 < 10) ∧ (((iand (ishr (i 52 (Int.tdiv x4 3)) (Int.tmod x4 3)) 1 = 1) → 0 ≤ (x4 * 12) + x2 ∧ (x4 * 12) + x2 < 360) ∧ ((iand (ishr (i 52 (Int.tdiv x4 3)) (Int.tmod x4 3)) 1 = 1) → 0 ≤ (x4 * 12) + x1 ∧ (x4 * 12) + x1 < 360) ∧ gI w d X_X1_isTwice P i l 48 [(0, vR (some 51)), (1, vI x1), (2, vI x2), (3, vI (bI (¬ (iand (ishr (i 52 (Int.tdiv x4 3)) (Int.tmod x4 3)) 1 = 1) ∨ (l 56 ((x4 * 12) + x2) = l 56 ((x4 * 12) + x1))))), (4, vI (x4 + 1))] []))))) : gI w d X_X1_isTwice P i l 48 [(0, vR (some 51)), (1, vI x1), (2, vI x2), (3, vI x3), (4, vI x4)] [] := by
  refine g_iload (pc' := 50) 4 dX1_isTwice_48 rfl rfl ?_
  refine g_aload_n (pc' := 51) 0 dX1_isTwice_50 rfl rfl ?_
  refine g_getR (pc' := 54) (o := some 7) fl_X1_50 rfl rfl rfl dX1_isTwice_51 rfl ?_
  refine g_getI (pc' := 57) (z := 8) rfl fl_X1_64 rfl rfl dX1_isTwice_54 rfl (fun rg44 => ?_)
  refine g_iconst (pc' := 58) dX1_isTwice_57 rfl ?_
  refine g_imul (pc' := 59) dX1_isTwice_58 rfl ?_
  obtain ⟨hob70, hob71, hob73, hk92, hk93⟩ := h
  have hk92g : (((i 7 8) * 3 ≤ x4) ∨ (x3 = 0)) → gI w d X_X1_isTwice P i l 138 [(0, vR (some 51)), (1, vI x1), (2, vI x2), (3, vI x3), (4, vI x4)] [] := by
    intro hp
    have h := hk92 hp
    refine g_iload_n (pc' := 139) 3 dX1_isTwice_138 rfl rfl ?_
    obtain ⟨hob78, hk80, hk81⟩ := h
    refine g_if_eq (tgt := 144) (pc' := 142) (hob78) Iff.rfl dX1_isTwice_139 rfl rfl (fun c79 => ?_) (fun c79 => ?_)
    · have h := hk80 c79
      refine g_iinc (pc' := 147) (L' := [(2, vI (x2 + 1)), (0, vR (some 51)), (1, vI x1), (3, vI x3), (4, vI x4)]) 2 dX1_isTwice_144 rfl (Nat.le_of_ble_eq_true rfl) rfl rfl ?_
      refine g_goto (tgt := 2) dX1_isTwice_147 rfl ?_
      refine g_sub (L' := [(0, vR (some 51)), (1, vI x1), (2, vI (x2 + 1))]) [1, 2, 0] rfl ?_
      exact h
    · have h := hk81 c79
      refine g_iconst (pc' := 143) dX1_isTwice_142 rfl ?_
      exact g_retZ rfl (by decide) dX1_isTwice_143 h
  have hk93g : (¬ (((i 7 8) * 3 ≤ x4) ∨ (x3 = 0))) → gI w d X_X1_isTwice P i l 66 [(0, vR (some 51)), (1, vI x1), (2, vI x2), (3, vI x3), (4, vI x4)] [] := by
    intro hp
    have h := hk93 hp
    obtain ⟨ob82, ob83, h⟩ := h
    refine g_aload_n (pc' := 67) 0 dX1_isTwice_66 rfl rfl ?_
    refine g_getR (pc' := 70) (o := some 52) fl_X1_11 rfl rfl rfl dX1_isTwice_67 rfl ?_
    refine g_iload (pc' := 72) 4 dX1_isTwice_70 rfl rfl ?_
    refine g_iconst (pc' := 73) dX1_isTwice_72 rfl ?_
    refine g_idiv (pc' := 74) dX1_isTwice_73 rfl ob82 (rg_lit rfl) (by decide) ?_
    refine g_iald (pc' := 75) (N := 10) rfl rfl (Nat.lt_of_lt_of_le (Nat.lt_succ_self _) (Nat.le_of_ble_eq_true rfl)) ob83 dX1_isTwice_74 rfl (fun rg84 => ?_)
    refine g_iload (pc' := 77) 4 dX1_isTwice_75 rfl rfl ?_
    refine g_iconst (pc' := 78) dX1_isTwice_77 rfl ?_
    refine g_irem (pc' := 79) dX1_isTwice_78 rfl ob82 (rg_lit rfl) (by decide) ?_
    refine g_ishr (pc' := 80) dX1_isTwice_79 rfl ?_
    refine g_iconst (pc' := 81) dX1_isTwice_80 rfl ?_
    refine g_iand (pc' := 82) dX1_isTwice_81 rfl ?_
    refine g_iconst (pc' := 83) dX1_isTwice_82 rfl ?_
    have hJ : gI w d X_X1_isTwice P i l 91 [(0, vR (some 51)), (1, vI x1), (2, vI x2), (3, vI x3), (4, vI x4)] [vI (bI (iand (ishr (i 52 (Int.tdiv x4 3)) (Int.tmod x4 3)) 1 = 1))] := by
      refine g_istore (pc' := 93) (L' := [(5, vI (bI (iand (ishr (i 52 (Int.tdiv x4 3)) (Int.tmod x4 3)) 1 = 1))), (0, vR (some 51)), (1, vI x1), (2, vI x2), (3, vI x3), (4, vI x4)]) dX1_isTwice_91 rfl (Nat.le_of_ble_eq_true rfl) rfl ?_
      refine g_iload (pc' := 95) 0 dX1_isTwice_93 rfl rfl ?_
      obtain ⟨hob89, hob90, h⟩ := h
      have hJ : gI w d X_X1_isTwice P i l 131 [(5, vI (bI (iand (ishr (i 52 (Int.tdiv x4 3)) (Int.tmod x4 3)) 1 = 1))), (0, vR (some 51)), (1, vI x1), (2, vI x2), (3, vI x3), (4, vI x4)] [vI (bI (¬ (iand (ishr (i 52 (Int.tdiv x4 3)) (Int.tmod x4 3)) 1 = 1) ∨ (l 56 ((x4 * 12) + x2) = l 56 ((x4 * 12) + x1))))] := by
        refine g_istore_n (pc' := 132) (L' := [(3, vI (bI (¬ (iand (ishr (i 52 (Int.tdiv x4 3)) (Int.tmod x4 3)) 1 = 1) ∨ (l 56 ((x4 * 12) + x2) = l 56 ((x4 * 12) + x1))))), (5, vI (bI (iand (ishr (i 52 (Int.tdiv x4 3)) (Int.tmod x4 3)) 1 = 1))), (0, vR (some 51)), (1, vI x1), (2, vI x2), (4, vI x4)]) dX1_isTwice_131 rfl (Nat.le_of_ble_eq_true rfl) rfl ?_
        refine g_iinc (pc' := 135) (L' := [(4, vI (x4 + 1)), (3, vI (bI (¬ (iand (ishr (i 52 (Int.tdiv x4 3)) (Int.tmod x4 3)) 1 = 1) ∨ (l 56 ((x4 * 12) + x2) = l 56 ((x4 * 12) + x1))))), (5, vI (bI (iand (ishr (i 52 (Int.tdiv x4 3)) (Int.tmod x4 3)) 1 = 1))), (0, vR (some 51)), (1, vI x1), (2, vI x2)]) 5 dX1_isTwice_132 rfl (Nat.le_of_ble_eq_true rfl) rfl rfl ?_
        refine g_goto (tgt := 48) dX1_isTwice_135 rfl ?_
        refine g_sub (L' := [(0, vR (some 51)), (1, vI x1), (2, vI x2), (3, vI (bI (¬ (iand (ishr (i 52 (Int.tdiv x4 3)) (Int.tmod x4 3)) 1 = 1) ∨ (l 56 ((x4 * 12) + x2) = l 56 ((x4 * 12) + x1))))), (4, vI (x4 + 1))]) [3, 4, 5, 1, 0] rfl ?_
        exact h
      refine g_if_eq (tgt := 126) (pc' := 98) (rg_bI _) (bI_eq _) dX1_isTwice_95 rfl rfl (fun c88 => ?_) (fun c88n => ?_)
      · refine g_iconst (pc' := 127) dX1_isTwice_126 rfl ?_
        refine g_goto (tgt := 131) dX1_isTwice_127 rfl ?_
        rw [bI_t (p := (¬ (iand (ishr (i 52 (Int.tdiv x4 3)) (Int.tmod x4 3)) 1 = 1) ∨ (l 56 ((x4 * 12) + x2) = l 56 ((x4 * 12) + x1)))) (Or.inl c88)] at hJ
        exact hJ
      · have c88 := Decidable.of_not_not c88n
        refine g_aload_n (pc' := 99) 1 dX1_isTwice_98 rfl rfl ?_
        refine g_getR (pc' := 102) (o := some 56) fl_X1_24 rfl rfl rfl dX1_isTwice_99 rfl ?_
        refine g_iload (pc' := 104) 5 dX1_isTwice_102 rfl rfl ?_
        refine g_bipush (pc' := 106) dX1_isTwice_104 rfl rfl ?_
        refine g_imul (pc' := 107) dX1_isTwice_106 rfl ?_
        refine g_iload_n (pc' := 108) 3 dX1_isTwice_107 rfl rfl ?_
        refine g_iadd (pc' := 109) dX1_isTwice_108 rfl ?_
        refine g_lald (pc' := 110) (N := 360) rfl rfl (Nat.lt_of_lt_of_le (Nat.lt_succ_self _) (Nat.le_of_ble_eq_true rfl)) (hob89 c88) dX1_isTwice_109 rfl ?_
        refine g_aload_n (pc' := 111) 1 dX1_isTwice_110 rfl rfl ?_
        refine g_getR (pc' := 114) (o := some 56) fl_X1_24 rfl rfl rfl dX1_isTwice_111 rfl ?_
        refine g_iload (pc' := 116) 5 dX1_isTwice_114 rfl rfl ?_
        refine g_bipush (pc' := 118) dX1_isTwice_116 rfl rfl ?_
        refine g_imul (pc' := 119) dX1_isTwice_118 rfl ?_
        refine g_iload_n (pc' := 120) 2 dX1_isTwice_119 rfl rfl ?_
        refine g_iadd (pc' := 121) dX1_isTwice_120 rfl ?_
        refine g_lald (pc' := 122) (N := 360) rfl rfl (Nat.lt_of_lt_of_le (Nat.lt_succ_self _) (Nat.le_of_ble_eq_true rfl)) (hob90 c88) dX1_isTwice_121 rfl ?_
        refine g_lcmp (pc' := 123) dX1_isTwice_122 rfl ?_
        refine g_if_ne (tgt := 130) (pc' := 126) (rg_lcmpI _ _) (lcmpI_eq _ _) dX1_isTwice_123 rfl rfl (fun c91 => ?_) (fun c91 => ?_)
        · refine g_iconst (pc' := 131) dX1_isTwice_130 rfl ?_
          rw [bI_f (p := (¬ (iand (ishr (i 52 (Int.tdiv x4 3)) (Int.tmod x4 3)) 1 = 1) ∨ (l 56 ((x4 * 12) + x2) = l 56 ((x4 * 12) + x1)))) (fun q => q.elim (fun w => w c88) c91)] at hJ
          exact hJ
        · refine g_iconst (pc' := 127) dX1_isTwice_126 rfl ?_
          refine g_goto (tgt := 131) dX1_isTwice_127 rfl ?_
          rw [bI_t (p := (¬ (iand (ishr (i 52 (Int.tdiv x4 3)) (Int.tmod x4 3)) 1 = 1) ∨ (l 56 ((x4 * 12) + x2) = l 56 ((x4 * 12) + x1)))) (Or.inr c91)] at hJ
          exact hJ
    refine g_icmp_ne (tgt := 90) (pc' := 86) (rg_iand _ _) (rg_lit rfl) Iff.rfl dX1_isTwice_83 rfl rfl (fun c86 => ?_) (fun c86 => ?_)
    · refine g_iconst (pc' := 91) dX1_isTwice_90 rfl ?_
      rw [bI_f (p := (iand (ishr (i 52 (Int.tdiv x4 3)) (Int.tmod x4 3)) 1 = 1)) c86] at hJ
      exact hJ
    · refine g_iconst (pc' := 87) dX1_isTwice_86 rfl ?_
      refine g_goto (tgt := 91) dX1_isTwice_87 rfl ?_
      rw [bI_t (p := (iand (ishr (i 52 (Int.tdiv x4 3)) (Int.tmod x4 3)) 1 = 1)) c86] at hJ
      exact hJ
  refine g_icmp_ge (tgt := 138) (pc' := 62) (hob70) (hob71) Iff.rfl dX1_isTwice_59 rfl rfl (fun c72 => ?_) (fun c72 => ?_)
  · exact hk92g (Or.inl c72)
  · refine g_iload_n (pc' := 63) 3 dX1_isTwice_62 rfl rfl ?_
    refine g_if_eq (tgt := 138) (pc' := 66) (hob73 c72) Iff.rfl dX1_isTwice_63 rfl rfl (fun c74 => ?_) (fun c74 => ?_)
    · exact hk92g (Or.inr c74)
    · exact hk93g (fun q => q.elim c72 c74)

theorem dX1_viewOf_0 : decode cX1_viewOf 0 = .ok (.iload_n 1, 1) := by decide +kernel
theorem dX1_viewOf_1 : decode cX1_viewOf 1 = .ok (.bipush 8, 2) := by decide +kernel
theorem dX1_viewOf_3 : decode cX1_viewOf 3 = .ok (.imul, 1) := by decide +kernel
theorem dX1_viewOf_4 : decode cX1_viewOf 4 = .ok (.iload_n 2, 1) := by decide +kernel
theorem dX1_viewOf_5 : decode cX1_viewOf 5 = .ok (.iadd, 1) := by decide +kernel
theorem dX1_viewOf_6 : decode cX1_viewOf 6 = .ok (.istore 4, 2) := by decide +kernel
theorem dX1_viewOf_8 : decode cX1_viewOf 8 = .ok (.aload_n 0, 1) := by decide +kernel
theorem dX1_viewOf_9 : decode cX1_viewOf 9 = .ok (.getfield 43, 3) := by decide +kernel
theorem dX1_viewOf_12 : decode cX1_viewOf 12 = .ok (.iload_n 1, 1) := by decide +kernel
theorem dX1_viewOf_13 : decode cX1_viewOf 13 = .ok (.iaload, 1) := by decide +kernel
theorem dX1_viewOf_14 : decode cX1_viewOf 14 = .ok (.iload_n 2, 1) := by decide +kernel
theorem dX1_viewOf_15 : decode cX1_viewOf 15 = .ok (.ishr, 1) := by decide +kernel
theorem dX1_viewOf_16 : decode cX1_viewOf 16 = .ok (.iconst 1, 1) := by decide +kernel
theorem dX1_viewOf_17 : decode cX1_viewOf 17 = .ok (.iand, 1) := by decide +kernel
theorem dX1_viewOf_18 : decode cX1_viewOf 18 = .ok (.iconst 1, 1) := by decide +kernel
theorem dX1_viewOf_19 : decode cX1_viewOf 19 = .ok (.if_icmp .ne 11, 3) := by decide +kernel
theorem dX1_viewOf_22 : decode cX1_viewOf 22 = .ok (.aload_n 0, 1) := by decide +kernel
theorem dX1_viewOf_23 : decode cX1_viewOf 23 = .ok (.getfield 40, 3) := by decide +kernel
theorem dX1_viewOf_26 : decode cX1_viewOf 26 = .ok (.iload 4, 2) := by decide +kernel
theorem dX1_viewOf_28 : decode cX1_viewOf 28 = .ok (.laload, 1) := by decide +kernel
theorem dX1_viewOf_29 : decode cX1_viewOf 29 = .ok (.lreturn, 1) := by decide +kernel
theorem dX1_viewOf_30 : decode cX1_viewOf 30 = .ok (.lconst 1, 1) := by decide +kernel
theorem dX1_viewOf_31 : decode cX1_viewOf 31 = .ok (.aload_n 0, 1) := by decide +kernel
theorem dX1_viewOf_32 : decode cX1_viewOf 32 = .ok (.getfield 50, 3) := by decide +kernel
theorem dX1_viewOf_35 : decode cX1_viewOf 35 = .ok (.getfield 136, 3) := by decide +kernel
theorem dX1_viewOf_38 : decode cX1_viewOf 38 = .ok (.iload_n 2, 1) := by decide +kernel
theorem dX1_viewOf_39 : decode cX1_viewOf 39 = .ok (.iaload, 1) := by decide +kernel
theorem dX1_viewOf_40 : decode cX1_viewOf 40 = .ok (.lshl, 1) := by decide +kernel
theorem dX1_viewOf_41 : decode cX1_viewOf 41 = .ok (.lstore 5, 2) := by decide +kernel
theorem dX1_viewOf_43 : decode cX1_viewOf 43 = .ok (.lconst 0, 1) := by decide +kernel
theorem dX1_viewOf_44 : decode cX1_viewOf 44 = .ok (.lstore 7, 2) := by decide +kernel
theorem dX1_viewOf_46 : decode cX1_viewOf 46 = .ok (.iconst 0, 1) := by decide +kernel
theorem dX1_viewOf_47 : decode cX1_viewOf 47 = .ok (.istore 9, 2) := by decide +kernel
theorem dX1_viewOf_49 : decode cX1_viewOf 49 = .ok (.iload 9, 2) := by decide +kernel
theorem dX1_viewOf_51 : decode cX1_viewOf 51 = .ok (.aload_n 0, 1) := by decide +kernel
theorem dX1_viewOf_52 : decode cX1_viewOf 52 = .ok (.getfield 50, 3) := by decide +kernel
theorem dX1_viewOf_55 : decode cX1_viewOf 55 = .ok (.getfield 103, 3) := by decide +kernel
theorem dX1_viewOf_58 : decode cX1_viewOf 58 = .ok (.if_icmp .ge 56, 3) := by decide +kernel
theorem dX1_viewOf_61 : decode cX1_viewOf 61 = .ok (.aload_n 0, 1) := by decide +kernel
theorem dX1_viewOf_62 : decode cX1_viewOf 62 = .ok (.getfield 50, 3) := by decide +kernel
theorem dX1_viewOf_65 : decode cX1_viewOf 65 = .ok (.iload 9, 2) := by decide +kernel
theorem dX1_viewOf_67 : decode cX1_viewOf 67 = .ok (.iconst 0, 1) := by decide +kernel
theorem dX1_viewOf_68 : decode cX1_viewOf 68 = .ok (.invokevirtual 139, 3) := by decide +kernel
theorem dX1_viewOf_71 : decode cX1_viewOf 71 = .ok (.iload_n 1, 1) := by decide +kernel
theorem dX1_viewOf_72 : decode cX1_viewOf 72 = .ok (.ishr, 1) := by decide +kernel
theorem dX1_viewOf_73 : decode cX1_viewOf 73 = .ok (.iconst 1, 1) := by decide +kernel
theorem dX1_viewOf_74 : decode cX1_viewOf 74 = .ok (.iand, 1) := by decide +kernel
theorem dX1_viewOf_75 : decode cX1_viewOf 75 = .ok (.iconst 1, 1) := by decide +kernel
theorem dX1_viewOf_76 : decode cX1_viewOf 76 = .ok (.if_icmp .ne 32, 3) := by decide +kernel
theorem dX1_viewOf_79 : decode cX1_viewOf 79 = .ok (.aload_n 0, 1) := by decide +kernel
theorem dX1_viewOf_80 : decode cX1_viewOf 80 = .ok (.getfield 54, 3) := by decide +kernel
theorem dX1_viewOf_83 : decode cX1_viewOf 83 = .ok (.iload 9, 2) := by decide +kernel
theorem dX1_viewOf_85 : decode cX1_viewOf 85 = .ok (.iload_n 1, 1) := by decide +kernel
theorem dX1_viewOf_86 : decode cX1_viewOf 86 = .ok (.iload_n 2, 1) := by decide +kernel
theorem dX1_viewOf_87 : decode cX1_viewOf 87 = .ok (.iload_n 3, 1) := by decide +kernel
theorem dX1_viewOf_88 : decode cX1_viewOf 88 = .ok (.iconst 0, 1) := by decide +kernel
theorem dX1_viewOf_89 : decode cX1_viewOf 89 = .ok (.invokevirtual 142, 3) := by decide +kernel
theorem dX1_viewOf_92 : decode cX1_viewOf 92 = .ok (.ifCond .eq 16, 3) := by decide +kernel
theorem dX1_viewOf_95 : decode cX1_viewOf 95 = .ok (.lload 7, 2) := by decide +kernel
theorem dX1_viewOf_97 : decode cX1_viewOf 97 = .ok (.lload 5, 2) := by decide +kernel
theorem dX1_viewOf_99 : decode cX1_viewOf 99 = .ok (.bipush 8, 2) := by decide +kernel
theorem dX1_viewOf_101 : decode cX1_viewOf 101 = .ok (.iload 9, 2) := by decide +kernel
theorem dX1_viewOf_103 : decode cX1_viewOf 103 = .ok (.imul, 1) := by decide +kernel
theorem dX1_viewOf_104 : decode cX1_viewOf 104 = .ok (.lshl, 1) := by decide +kernel
theorem dX1_viewOf_105 : decode cX1_viewOf 105 = .ok (.lor, 1) := by decide +kernel
theorem dX1_viewOf_106 : decode cX1_viewOf 106 = .ok (.lstore 7, 2) := by decide +kernel
theorem dX1_viewOf_108 : decode cX1_viewOf 108 = .ok (.iinc 9 1, 3) := by decide +kernel
theorem dX1_viewOf_111 : decode cX1_viewOf 111 = .ok (.goto (-62), 3) := by decide +kernel
theorem dX1_viewOf_114 : decode cX1_viewOf 114 = .ok (.aload_n 0, 1) := by decide +kernel
theorem dX1_viewOf_115 : decode cX1_viewOf 115 = .ok (.getfield 43, 3) := by decide +kernel
theorem dX1_viewOf_118 : decode cX1_viewOf 118 = .ok (.iload_n 1, 1) := by decide +kernel
theorem dX1_viewOf_119 : decode cX1_viewOf 119 = .ok (.dup2, 1) := by decide +kernel
theorem dX1_viewOf_120 : decode cX1_viewOf 120 = .ok (.iaload, 1) := by decide +kernel
theorem dX1_viewOf_121 : decode cX1_viewOf 121 = .ok (.iconst 1, 1) := by decide +kernel
theorem dX1_viewOf_122 : decode cX1_viewOf 122 = .ok (.iload_n 2, 1) := by decide +kernel
theorem dX1_viewOf_123 : decode cX1_viewOf 123 = .ok (.ishl, 1) := by decide +kernel
theorem dX1_viewOf_124 : decode cX1_viewOf 124 = .ok (.ior, 1) := by decide +kernel
theorem dX1_viewOf_125 : decode cX1_viewOf 125 = .ok (.iastore, 1) := by decide +kernel
theorem dX1_viewOf_126 : decode cX1_viewOf 126 = .ok (.aload_n 0, 1) := by decide +kernel
theorem dX1_viewOf_127 : decode cX1_viewOf 127 = .ok (.getfield 40, 3) := by decide +kernel
theorem dX1_viewOf_130 : decode cX1_viewOf 130 = .ok (.iload 4, 2) := by decide +kernel
theorem dX1_viewOf_132 : decode cX1_viewOf 132 = .ok (.lload 7, 2) := by decide +kernel
theorem dX1_viewOf_134 : decode cX1_viewOf 134 = .ok (.lastore, 1) := by decide +kernel
theorem dX1_viewOf_135 : decode cX1_viewOf 135 = .ok (.lload 7, 2) := by decide +kernel
theorem dX1_viewOf_137 : decode cX1_viewOf 137 = .ok (.lreturn, 1) := by decide +kernel
set_option maxRecDepth 20000 in
theorem s_X1_viewOf {w : Wd} {d : Nat} {P : Int64 → IM → LM → Prop} {i : IM} {l : LM} (p0 : Int) (p1 : Int) (p2 : Int)  (h : ((0 ≤ p0 ∧ p0 < 10) ∧ (((iand (ishr (i 62 p0) p1) 1 = 1) → ((0 ≤ (p0 * 8) + p1 ∧ (p0 * 8) + p1 < 80) ∧ P (l 61 ((p0 * 8) + p1)) i l)) ∧ ((¬ (iand (ishr (i 62 p0) p1) 1 = 1)) → ((0 ≤ p1 ∧ p1 < 8) ∧ gLg w d X_X1_viewOf P i l 49 [(0, vR (some 51)), (1, vI p0), (2, vI p1), (3, vI p2), (4, vI ((p0 * 8) + p1)), (5, vL (lshl 1 (i 13 p1))), (7, vL 0), (9, vI 0)] []))))) : gLg w d X_X1_viewOf P i l 0 [(0, vR (some 51)), (1, vI p0), (2, vI p1), (3, vI p2)] [] := by
  obtain ⟨ob1, h⟩ := h
  refine g_iload_n (pc' := 1) 1 dX1_viewOf_0 rfl rfl ?_
  refine g_bipush (pc' := 3) dX1_viewOf_1 rfl rfl ?_
  refine g_imul (pc' := 4) dX1_viewOf_3 rfl ?_
  refine g_iload_n (pc' := 5) 2 dX1_viewOf_4 rfl rfl ?_
  refine g_iadd (pc' := 6) dX1_viewOf_5 rfl ?_
  refine g_istore (pc' := 8) (L' := [(4, vI ((p0 * 8) + p1)), (0, vR (some 51)), (1, vI p0), (2, vI p1), (3, vI p2)]) dX1_viewOf_6 rfl (Nat.le_of_ble_eq_true rfl) rfl ?_
  refine g_aload_n (pc' := 9) 1 dX1_viewOf_8 rfl rfl ?_
  refine g_getR (pc' := 12) (o := some 62) fl_X1_43 rfl rfl rfl dX1_viewOf_9 rfl ?_
  refine g_iload_n (pc' := 13) 2 dX1_viewOf_12 rfl rfl ?_
  refine g_iald (pc' := 14) (N := 10) rfl rfl (Nat.lt_of_lt_of_le (Nat.lt_succ_self _) (Nat.le_of_ble_eq_true rfl)) ob1 dX1_viewOf_13 rfl (fun rg2 => ?_)
  refine g_iload_n (pc' := 15) 3 dX1_viewOf_14 rfl rfl ?_
  refine g_ishr (pc' := 16) dX1_viewOf_15 rfl ?_
  refine g_iconst (pc' := 17) dX1_viewOf_16 rfl ?_
  refine g_iand (pc' := 18) dX1_viewOf_17 rfl ?_
  refine g_iconst (pc' := 19) dX1_viewOf_18 rfl ?_
  obtain ⟨hk11, hk12⟩ := h
  refine g_icmp_ne (tgt := 30) (pc' := 22) (rg_iand _ _) (rg_lit rfl) Iff.rfl dX1_viewOf_19 rfl rfl (fun c4 => ?_) (fun c4 => ?_)
  · have h := hk12 c4
    obtain ⟨ob8, h⟩ := h
    refine g_lconst (pc' := 31) (v := 1) dX1_viewOf_30 rfl rfl ?_
    refine g_aload_n (pc' := 32) 1 dX1_viewOf_31 rfl rfl ?_
    refine g_getR (pc' := 35) (o := some 7) fl_X1_50 rfl rfl rfl dX1_viewOf_32 rfl ?_
    refine g_getR (pc' := 38) (o := some 13) fl_X1_136 rfl rfl rfl dX1_viewOf_35 rfl ?_
    refine g_iload_n (pc' := 39) 3 dX1_viewOf_38 rfl rfl ?_
    refine g_iald (pc' := 40) (N := 8) rfl rfl (Nat.lt_of_lt_of_le (Nat.lt_succ_self _) (Nat.le_of_ble_eq_true rfl)) ob8 dX1_viewOf_39 rfl (fun rg9 => ?_)
    refine g_lshl (pc' := 41) dX1_viewOf_40 rfl ?_
    refine g_lstore (pc' := 43) (L' := [(5, vL (lshl 1 (i 13 p1))), (4, vI ((p0 * 8) + p1)), (0, vR (some 51)), (1, vI p0), (2, vI p1), (3, vI p2)]) dX1_viewOf_41 rfl (Nat.le_of_ble_eq_true rfl) rfl ?_
    refine g_lconst (pc' := 44) (v := 0) dX1_viewOf_43 rfl rfl ?_
    refine g_lstore (pc' := 46) (L' := [(7, vL 0), (5, vL (lshl 1 (i 13 p1))), (4, vI ((p0 * 8) + p1)), (0, vR (some 51)), (1, vI p0), (2, vI p1), (3, vI p2)]) dX1_viewOf_44 rfl (Nat.le_of_ble_eq_true rfl) rfl ?_
    refine g_iconst (pc' := 47) dX1_viewOf_46 rfl ?_
    refine g_istore (pc' := 49) (L' := [(9, vI 0), (7, vL 0), (5, vL (lshl 1 (i 13 p1))), (4, vI ((p0 * 8) + p1)), (0, vR (some 51)), (1, vI p0), (2, vI p1), (3, vI p2)]) dX1_viewOf_47 rfl (Nat.le_of_ble_eq_true rfl) rfl ?_
    refine g_sub (L' := [(0, vR (some 51)), (1, vI p0), (2, vI p1), (3, vI p2), (4, vI ((p0 * 8) + p1)), (5, vL (lshl 1 (i 13 p1))), (7, vL 0), (9, vI 0)]) [4, 5, 6, 7, 3, 2, 1, 0] rfl ?_
    exact h
  · have h := hk11 c4
    obtain ⟨ob10, h⟩ := h
    refine g_aload_n (pc' := 23) 1 dX1_viewOf_22 rfl rfl ?_
    refine g_getR (pc' := 26) (o := some 61) fl_X1_40 rfl rfl rfl dX1_viewOf_23 rfl ?_
    refine g_iload (pc' := 28) 0 dX1_viewOf_26 rfl rfl ?_
    refine g_lald (pc' := 29) (N := 80) rfl rfl (Nat.lt_of_lt_of_le (Nat.lt_succ_self _) (Nat.le_of_ble_eq_true rfl)) ob10 dX1_viewOf_28 rfl ?_
    exact g_retL rfl dX1_viewOf_29 h
theorem e_X1_viewOf {w : Wd} {d : Nat} {P : Int64 → IM → LM → Prop} {i : IM} {l : LM} {p0 : Int} {p1 : Int} {p2 : Int}  (h : gLg w d X_X1_viewOf P i l 0 [(0, vR (some 51)), (1, vI p0), (2, vI p1), (3, vI p2)] []) : cL w (d + 1) X_X1_viewOf [vR (some 51), vI p0, vI p1, vI p2] i l P := CL_of (by decide +kernel) (Nat.le_of_ble_eq_true rfl) h
set_option maxRecDepth 20000 in
theorem s_X1_viewOf_49 {w : Wd} {d : Nat} {P : Int64 → IM → LM → Prop} {i : IM} {l : LM} (x1 : Int) (x2 : Int) (x3 : Int) (x4 : Int) (x5 : Int64) (x7 : Int64) (x9 : Int)  (hd : 1 ≤ d) (h : ((rg x9) ∧ (¬ (i 7 9 ≤ x9) → 0 ≤ x9 * 3 + 0 ∧ x9 * 3 + 0 < 24) ∧ ((i 7 9 ≤ x9) → ((0 ≤ x1 ∧ x1 < 10) ∧ (0 ≤ x4 ∧ x4 < 80) ∧ P x7 (u2 i 62 x1 (ior (i 62 x1) (ishl 1 x2))) (u2l l 61 x4 x7))) ∧ ((¬ (i 7 9 ≤ x9) ∧ (¬ (iand (ishr (i 9 (x9 * 3 + 0)) x1) 1 = 1))) → gLg w d X_X1_viewOf P i l 49 [(0, vR (some 51)), (1, vI x1), (2, vI x2), (3, vI x3), (4, vI x4), (5, vL x5), (7, vL x7), (9, vI (x9 + 1))] []) ∧ ((¬ (i 7 9 ≤ x9) ∧ (iand (ishr (i 9 (x9 * 3 + 0)) x1) 1 = 1)) → cI w d X_X0_showsThing [vR (some 41), vI x9, vI x1, vI x2, vI x3, vI 0] i l (fun r25 i25 l25 => (((r25 = 0) → gLg w d X_X1_viewOf P i25 l25 49 [(0, vR (some 51)), (1, vI x1), (2, vI x2), (3, vI x3), (4, vI x4), (5, vL x5), (7, vL x7), (9, vI (x9 + 1))] []) ∧ ((¬ (r25 = 0)) → gLg w d X_X1_viewOf P i25 l25 49 [(0, vR (some 51)), (1, vI x1), (2, vI x2), (3, vI x3), (4, vI x4), (5, vL x5), (7, vL (x7 ||| (lshl x5 (8 * x9)))), (9, vI (x9 + 1))] [])))))) : gLg w d X_X1_viewOf P i l 49 [(0, vR (some 51)), (1, vI x1), (2, vI x2), (3, vI x3), (4, vI x4), (5, vL x5), (7, vL x7), (9, vI x9)] [] := by
  refine g_iload (pc' := 51) 7 dX1_viewOf_49 rfl rfl ?_
  refine g_aload_n (pc' := 52) 0 dX1_viewOf_51 rfl rfl ?_
  refine g_getR (pc' := 55) (o := some 7) fl_X1_50 rfl rfl rfl dX1_viewOf_52 rfl ?_
  refine g_getI (pc' := 58) (z := 9) rfl fl_X1_103 rfl rfl dX1_viewOf_55 rfl (fun rg13 => ?_)
  obtain ⟨hob15, hob19, hk30, hk31, hk32⟩ := h
  have hk30g : (i 7 9 ≤ x9) → gLg w d X_X1_viewOf P i l 114 [(0, vR (some 51)), (1, vI x1), (2, vI x2), (3, vI x3), (4, vI x4), (5, vL x5), (7, vL x7), (9, vI x9)] [] := by
    intro hp
    have h := hk30 hp
    obtain ⟨ob22, ob24, h⟩ := h
    refine g_aload_n (pc' := 115) 0 dX1_viewOf_114 rfl rfl ?_
    refine g_getR (pc' := 118) (o := some 62) fl_X1_43 rfl rfl rfl dX1_viewOf_115 rfl ?_
    refine g_iload_n (pc' := 119) 1 dX1_viewOf_118 rfl rfl ?_
    refine g_dup2_11 (pc' := 120) dX1_viewOf_119 rfl rfl rfl ?_
    refine g_iald (pc' := 121) (N := 10) rfl rfl (Nat.lt_of_lt_of_le (Nat.lt_succ_self _) (Nat.le_of_ble_eq_true rfl)) ob22 dX1_viewOf_120 rfl (fun rg23 => ?_)
    refine g_iconst (pc' := 122) dX1_viewOf_121 rfl ?_
    refine g_iload_n (pc' := 123) 2 dX1_viewOf_122 rfl rfl ?_
    refine g_ishl (pc' := 124) dX1_viewOf_123 rfl ?_
    refine g_ior (pc' := 125) dX1_viewOf_124 rfl ?_
    refine g_iast (pc' := 126) (N := 10) rfl rfl (Nat.lt_of_lt_of_le (Nat.lt_succ_self _) (Nat.le_of_ble_eq_true rfl)) ob22 (rg_ior _ _) dX1_viewOf_125 rfl ?_
    refine g_aload_n (pc' := 127) 0 dX1_viewOf_126 rfl rfl ?_
    refine g_getR (pc' := 130) (o := some 61) fl_X1_40 rfl rfl rfl dX1_viewOf_127 rfl ?_
    refine g_iload (pc' := 132) 4 dX1_viewOf_130 rfl rfl ?_
    refine g_lload (pc' := 134) 6 dX1_viewOf_132 rfl rfl ?_
    refine g_last (pc' := 135) (N := 80) rfl rfl (Nat.lt_of_lt_of_le (Nat.lt_succ_self _) (Nat.le_of_ble_eq_true rfl)) ob24 dX1_viewOf_134 rfl ?_
    refine g_lload (pc' := 137) 6 dX1_viewOf_135 rfl rfl ?_
    exact g_retL rfl dX1_viewOf_137 h
  have hk31g : (¬ (i 7 9 ≤ x9) ∧ (¬ (iand (ishr (i 9 (x9 * 3 + 0)) x1) 1 = 1))) → gLg w d X_X1_viewOf P i l 108 [(0, vR (some 51)), (1, vI x1), (2, vI x2), (3, vI x3), (4, vI x4), (5, vL x5), (7, vL x7), (9, vI x9)] [] := by
    intro hp
    have h := hk31 hp
    refine g_iinc (pc' := 111) (L' := [(9, vI (x9 + 1)), (0, vR (some 51)), (1, vI x1), (2, vI x2), (3, vI x3), (4, vI x4), (5, vL x5), (7, vL x7)]) 7 dX1_viewOf_108 rfl (Nat.le_of_ble_eq_true rfl) rfl rfl ?_
    refine g_goto (tgt := 49) dX1_viewOf_111 rfl ?_
    refine g_sub (L' := [(0, vR (some 51)), (1, vI x1), (2, vI x2), (3, vI x3), (4, vI x4), (5, vL x5), (7, vL x7), (9, vI (x9 + 1))]) [1, 2, 3, 4, 5, 6, 7, 0] rfl ?_
    exact h
  have hk32g : (¬ (i 7 9 ≤ x9) ∧ (iand (ishr (i 9 (x9 * 3 + 0)) x1) 1 = 1)) → gLg w d X_X1_viewOf P i l 79 [(0, vR (some 51)), (1, vI x1), (2, vI x2), (3, vI x3), (4, vI x4), (5, vL x5), (7, vL x7), (9, vI x9)] [] := by
    intro hp
    have h := hk32 hp
    refine g_aload_n (pc' := 80) 0 dX1_viewOf_79 rfl rfl ?_
    refine g_getR (pc' := 83) (o := some 41) fl_X1_54 rfl rfl rfl dX1_viewOf_80 rfl ?_
    refine g_iload (pc' := 85) 7 dX1_viewOf_83 rfl rfl ?_
    refine g_iload_n (pc' := 86) 1 dX1_viewOf_85 rfl rfl ?_
    refine g_iload_n (pc' := 87) 2 dX1_viewOf_86 rfl rfl ?_
    refine g_iload_n (pc' := 88) 3 dX1_viewOf_87 rfl rfl ?_
    refine g_iconst (pc' := 89) dX1_viewOf_88 rfl ?_
    refine g_cVI (pc' := 92) (vs := [vI x9, vI x1, vI x2, vI x3, vI 0]) (st := []) (c := 0) h mv_X0_showsThing lk_X1_142 rfl rfl rfl rfl (Nat.le_of_ble_eq_true rfl) (Nat.le_of_ble_eq_true rfl) rfl dX1_viewOf_89 rfl z2 (fun r25 i25 l25 rg25 h => ?_)
    obtain ⟨hk28, hk29⟩ := h
    refine g_if_eq (tgt := 108) (pc' := 95) rg25 Iff.rfl dX1_viewOf_92 rfl rfl (fun c27 => ?_) (fun c27 => ?_)
    · have h := hk28 c27
      refine g_iinc (pc' := 111) (L' := [(9, vI (x9 + 1)), (0, vR (some 51)), (1, vI x1), (2, vI x2), (3, vI x3), (4, vI x4), (5, vL x5), (7, vL x7)]) 7 dX1_viewOf_108 rfl (Nat.le_of_ble_eq_true rfl) rfl rfl ?_
      refine g_goto (tgt := 49) dX1_viewOf_111 rfl ?_
      refine g_sub (L' := [(0, vR (some 51)), (1, vI x1), (2, vI x2), (3, vI x3), (4, vI x4), (5, vL x5), (7, vL x7), (9, vI (x9 + 1))]) [1, 2, 3, 4, 5, 6, 7, 0] rfl ?_
      exact h
    · have h := hk29 c27
      refine g_lload (pc' := 97) 6 dX1_viewOf_95 rfl rfl ?_
      refine g_lload (pc' := 99) 5 dX1_viewOf_97 rfl rfl ?_
      refine g_bipush (pc' := 101) dX1_viewOf_99 rfl rfl ?_
      refine g_iload (pc' := 103) 7 dX1_viewOf_101 rfl rfl ?_
      refine g_imul (pc' := 104) dX1_viewOf_103 rfl ?_
      refine g_lshl (pc' := 105) dX1_viewOf_104 rfl ?_
      refine g_lor (pc' := 106) dX1_viewOf_105 rfl ?_
      refine g_lstore (pc' := 108) (L' := [(7, vL (x7 ||| (lshl x5 (8 * x9)))), (0, vR (some 51)), (1, vI x1), (2, vI x2), (3, vI x3), (4, vI x4), (5, vL x5), (9, vI x9)]) dX1_viewOf_106 rfl (Nat.le_of_ble_eq_true rfl) rfl ?_
      refine g_iinc (pc' := 111) (L' := [(9, vI (x9 + 1)), (7, vL (x7 ||| (lshl x5 (8 * x9)))), (0, vR (some 51)), (1, vI x1), (2, vI x2), (3, vI x3), (4, vI x4), (5, vL x5)]) 7 dX1_viewOf_108 rfl (Nat.le_of_ble_eq_true rfl) rfl rfl ?_
      refine g_goto (tgt := 49) dX1_viewOf_111 rfl ?_
      refine g_sub (L' := [(0, vR (some 51)), (1, vI x1), (2, vI x2), (3, vI x3), (4, vI x4), (5, vL x5), (7, vL (x7 ||| (lshl x5 (8 * x9)))), (9, vI (x9 + 1))]) [2, 3, 4, 5, 6, 7, 1, 0] rfl ?_
      exact h
  refine g_icmp_ge (tgt := 114) (pc' := 61) (hob15) rg13 Iff.rfl dX1_viewOf_58 rfl rfl (fun c16 => ?_) (fun c16 => ?_)
  · exact hk30g c16
  · refine g_aload_n (pc' := 62) 0 dX1_viewOf_61 rfl rfl ?_
    refine g_getR (pc' := 65) (o := some 7) fl_X1_50 rfl rfl rfl dX1_viewOf_62 rfl ?_
    refine g_iload (pc' := 67) 7 dX1_viewOf_65 rfl rfl ?_
    refine g_iconst (pc' := 68) dX1_viewOf_67 rfl ?_
    refine g_pVI (pc' := 71) (vs := [vI x9, vI 0]) (st := []) (val := i 9 (x9 * 3 + 0)) (c := 9) (sp_X9_view (le_hd hd rfl) (hob19 c16)) mv_X9_view lk_X1_139 rfl rfl rfl rfl (Nat.le_of_ble_eq_true rfl) (Nat.le_of_ble_eq_true rfl) rfl dX1_viewOf_68 rfl z2 (fun rg20 => ?_)
    refine g_iload_n (pc' := 72) 1 dX1_viewOf_71 rfl rfl ?_
    refine g_ishr (pc' := 73) dX1_viewOf_72 rfl ?_
    refine g_iconst (pc' := 74) dX1_viewOf_73 rfl ?_
    refine g_iand (pc' := 75) dX1_viewOf_74 rfl ?_
    refine g_iconst (pc' := 76) dX1_viewOf_75 rfl ?_
    refine g_icmp_ne (tgt := 108) (pc' := 79) (rg_iand _ _) (rg_lit rfl) Iff.rfl dX1_viewOf_76 rfl rfl (fun c21 => ?_) (fun c21 => ?_)
    · exact hk31g ⟨c16, c21⟩
    · exact hk32g ⟨c16, c21⟩

theorem dX1_showsNoMore_0 : decode cX1_showsNoMore 0 = .ok (.iconst 0, 1) := by decide +kernel
theorem dX1_showsNoMore_1 : decode cX1_showsNoMore 1 = .ok (.istore 8, 2) := by decide +kernel
theorem dX1_showsNoMore_3 : decode cX1_showsNoMore 3 = .ok (.iload 8, 2) := by decide +kernel
theorem dX1_showsNoMore_5 : decode cX1_showsNoMore 5 = .ok (.aload_n 0, 1) := by decide +kernel
theorem dX1_showsNoMore_6 : decode cX1_showsNoMore 6 = .ok (.getfield 87, 3) := by decide +kernel
theorem dX1_showsNoMore_9 : decode cX1_showsNoMore 9 = .ok (.if_icmp .ge 71, 3) := by decide +kernel
theorem dX1_showsNoMore_12 : decode cX1_showsNoMore 12 = .ok (.iload 5, 2) := by decide +kernel
theorem dX1_showsNoMore_14 : decode cX1_showsNoMore 14 = .ok (.iload 8, 2) := by decide +kernel
theorem dX1_showsNoMore_16 : decode cX1_showsNoMore 16 = .ok (.ishr, 1) := by decide +kernel
theorem dX1_showsNoMore_17 : decode cX1_showsNoMore 17 = .ok (.iconst 1, 1) := by decide +kernel
theorem dX1_showsNoMore_18 : decode cX1_showsNoMore 18 = .ok (.iand, 1) := by decide +kernel
theorem dX1_showsNoMore_19 : decode cX1_showsNoMore 19 = .ok (.iconst 1, 1) := by decide +kernel
theorem dX1_showsNoMore_20 : decode cX1_showsNoMore 20 = .ok (.if_icmp .ne 54, 3) := by decide +kernel
theorem dX1_showsNoMore_23 : decode cX1_showsNoMore 23 = .ok (.aload_n 3, 1) := by decide +kernel
theorem dX1_showsNoMore_24 : decode cX1_showsNoMore 24 = .ok (.iload 4, 2) := by decide +kernel
theorem dX1_showsNoMore_26 : decode cX1_showsNoMore 26 = .ok (.iload 8, 2) := by decide +kernel
theorem dX1_showsNoMore_28 : decode cX1_showsNoMore 28 = .ok (.iadd, 1) := by decide +kernel
theorem dX1_showsNoMore_29 : decode cX1_showsNoMore 29 = .ok (.laload, 1) := by decide +kernel
theorem dX1_showsNoMore_30 : decode cX1_showsNoMore 30 = .ok (.aload_n 0, 1) := by decide +kernel
theorem dX1_showsNoMore_31 : decode cX1_showsNoMore 31 = .ok (.getfield 24, 3) := by decide +kernel
theorem dX1_showsNoMore_34 : decode cX1_showsNoMore 34 = .ok (.iload_n 2, 1) := by decide +kernel
theorem dX1_showsNoMore_35 : decode cX1_showsNoMore 35 = .ok (.bipush 12, 2) := by decide +kernel
theorem dX1_showsNoMore_37 : decode cX1_showsNoMore 37 = .ok (.imul, 1) := by decide +kernel
theorem dX1_showsNoMore_38 : decode cX1_showsNoMore 38 = .ok (.iload 8, 2) := by decide +kernel
theorem dX1_showsNoMore_40 : decode cX1_showsNoMore 40 = .ok (.iadd, 1) := by decide +kernel
theorem dX1_showsNoMore_41 : decode cX1_showsNoMore 41 = .ok (.laload, 1) := by decide +kernel
theorem dX1_showsNoMore_42 : decode cX1_showsNoMore 42 = .ok (.lor, 1) := by decide +kernel
theorem dX1_showsNoMore_43 : decode cX1_showsNoMore 43 = .ok (.lstore 9, 2) := by decide +kernel
theorem dX1_showsNoMore_45 : decode cX1_showsNoMore 45 = .ok (.aload_n 0, 1) := by decide +kernel
theorem dX1_showsNoMore_46 : decode cX1_showsNoMore 46 = .ok (.getfield 24, 3) := by decide +kernel
theorem dX1_showsNoMore_49 : decode cX1_showsNoMore 49 = .ok (.iload_n 1, 1) := by decide +kernel
theorem dX1_showsNoMore_50 : decode cX1_showsNoMore 50 = .ok (.bipush 12, 2) := by decide +kernel
theorem dX1_showsNoMore_52 : decode cX1_showsNoMore 52 = .ok (.imul, 1) := by decide +kernel
theorem dX1_showsNoMore_53 : decode cX1_showsNoMore 53 = .ok (.iload 8, 2) := by decide +kernel
theorem dX1_showsNoMore_55 : decode cX1_showsNoMore 55 = .ok (.iadd, 1) := by decide +kernel
theorem dX1_showsNoMore_56 : decode cX1_showsNoMore 56 = .ok (.laload, 1) := by decide +kernel
theorem dX1_showsNoMore_57 : decode cX1_showsNoMore 57 = .ok (.lload 9, 2) := by decide +kernel
theorem dX1_showsNoMore_59 : decode cX1_showsNoMore 59 = .ok (.ldc2_w 152, 3) := by decide +kernel
theorem dX1_showsNoMore_62 : decode cX1_showsNoMore 62 = .ok (.lxor, 1) := by decide +kernel
theorem dX1_showsNoMore_63 : decode cX1_showsNoMore 63 = .ok (.land, 1) := by decide +kernel
theorem dX1_showsNoMore_64 : decode cX1_showsNoMore 64 = .ok (.lload 6, 2) := by decide +kernel
theorem dX1_showsNoMore_66 : decode cX1_showsNoMore 66 = .ok (.land, 1) := by decide +kernel
theorem dX1_showsNoMore_67 : decode cX1_showsNoMore 67 = .ok (.lconst 0, 1) := by decide +kernel
theorem dX1_showsNoMore_68 : decode cX1_showsNoMore 68 = .ok (.lcmp, 1) := by decide +kernel
theorem dX1_showsNoMore_69 : decode cX1_showsNoMore 69 = .ok (.ifCond .eq 5, 3) := by decide +kernel
theorem dX1_showsNoMore_72 : decode cX1_showsNoMore 72 = .ok (.iconst 0, 1) := by decide +kernel
theorem dX1_showsNoMore_73 : decode cX1_showsNoMore 73 = .ok (.ireturn, 1) := by decide +kernel
theorem dX1_showsNoMore_74 : decode cX1_showsNoMore 74 = .ok (.iinc 8 1, 3) := by decide +kernel
theorem dX1_showsNoMore_77 : decode cX1_showsNoMore 77 = .ok (.goto (-74), 3) := by decide +kernel
theorem dX1_showsNoMore_80 : decode cX1_showsNoMore 80 = .ok (.iconst 1, 1) := by decide +kernel
theorem dX1_showsNoMore_81 : decode cX1_showsNoMore 81 = .ok (.ireturn, 1) := by decide +kernel
set_option maxRecDepth 20000 in
theorem s_X1_showsNoMore {w : Wd} {d : Nat} {P : Int → IM → LM → Prop} {i : IM} {l : LM} (p0 : Int) (p1 : Int) (p3 : Int) (p4 : Int) (p5 : Int64) {sn : Nat} (hsn : sn = 64 ∨ sn = 74 ∨ sn = 84) (h : gI w d X_X1_showsNoMore P i l 3 [(0, vR (some 51)), (1, vI p0), (2, vI p1), (3, vR (some sn)), (4, vI p3), (5, vI p4), (6, vL p5), (8, vI 0)] []) : gI w d X_X1_showsNoMore P i l 0 [(0, vR (some 51)), (1, vI p0), (2, vI p1), (3, vR (some sn)), (4, vI p3), (5, vI p4), (6, vL p5)] [] := by
  refine g_iconst (pc' := 1) dX1_showsNoMore_0 rfl ?_
  refine g_istore (pc' := 3) (L' := [(8, vI 0), (0, vR (some 51)), (1, vI p0), (2, vI p1), (3, vR (some sn)), (4, vI p3), (5, vI p4), (6, vL p5)]) dX1_showsNoMore_1 rfl (Nat.le_of_ble_eq_true rfl) rfl ?_
  refine g_sub (L' := [(0, vR (some 51)), (1, vI p0), (2, vI p1), (3, vR (some sn)), (4, vI p3), (5, vI p4), (6, vL p5), (8, vI 0)]) [1, 2, 3, 4, 5, 6, 7, 0] rfl ?_
  exact h
theorem e_X1_showsNoMore {w : Wd} {d : Nat} {P : Int → IM → LM → Prop} {i : IM} {l : LM} {p0 : Int} {p1 : Int} {p3 : Int} {p4 : Int} {p5 : Int64} {sn : Nat} (h : gI w d X_X1_showsNoMore P i l 0 [(0, vR (some 51)), (1, vI p0), (2, vI p1), (3, vR (some sn)), (4, vI p3), (5, vI p4), (6, vL p5)] []) : cI w (d + 1) X_X1_showsNoMore [vR (some 51), vI p0, vI p1, vR (some sn), vI p3, vI p4, vL p5] i l P := CI_of (by decide +kernel) (Nat.le_of_ble_eq_true rfl) h
set_option maxRecDepth 20000 in
theorem s_X1_showsNoMore_3 {w : Wd} {d : Nat} {P : Int → IM → LM → Prop} {i : IM} {l : LM} (x1 : Int) (x2 : Int) (x4 : Int) (x5 : Int) (x6 : Int64) (x8 : Int) {sn : Nat} (hsn : sn = 64 ∨ sn = 74 ∨ sn = 84) (h : ((rg x8) ∧ ((i 51 13 ≤ x8) → P 1 i l) ∧ ((¬ (i 51 13 ≤ x8) ∧ (¬ (iand (ishr x5 x8) 1 = 1))) → gI w d X_X1_showsNoMore P i l 3 [(0, vR (some 51)), (1, vI x1), (2, vI x2), (3, vR (some sn)), (4, vI x4), (5, vI x5), (6, vL x6), (8, vI (x8 + 1))] []) ∧ ((¬ (i 51 13 ≤ x8) ∧ (iand (ishr x5 x8) 1 = 1)) → ((0 ≤ x4 + x8 ∧ x4 + x8 < 132) ∧ (0 ≤ (x2 * 12) + x8 ∧ (x2 * 12) + x8 < 360) ∧ (0 ≤ (x1 * 12) + x8 ∧ (x1 * 12) + x8 < 360) ∧ (((((l 56 ((x1 * 12) + x8)) &&& (((l sn (x4 + x8)) ||| (l 56 ((x2 * 12) + x8))) ^^^ (-1))) &&& x6 = 0) → gI w d X_X1_showsNoMore P i l 3 [(0, vR (some 51)), (1, vI x1), (2, vI x2), (3, vR (some sn)), (4, vI x4), (5, vI x5), (6, vL x6), (8, vI (x8 + 1))] []) ∧ ((¬ (((l 56 ((x1 * 12) + x8)) &&& (((l sn (x4 + x8)) ||| (l 56 ((x2 * 12) + x8))) ^^^ (-1))) &&& x6 = 0)) → P 0 i l)))))) : gI w d X_X1_showsNoMore P i l 3 [(0, vR (some 51)), (1, vI x1), (2, vI x2), (3, vR (some sn)), (4, vI x4), (5, vI x5), (6, vL x6), (8, vI x8)] [] := by
  refine g_iload (pc' := 5) 7 dX1_showsNoMore_3 rfl rfl ?_
  refine g_aload_n (pc' := 6) 0 dX1_showsNoMore_5 rfl rfl ?_
  refine g_getI (pc' := 9) (z := 13) rfl fl_X1_87 rfl rfl dX1_showsNoMore_6 rfl (fun rg1 => ?_)
  obtain ⟨hob3, hk15, hk16, hk17⟩ := h
  have hk15g : (i 51 13 ≤ x8) → gI w d X_X1_showsNoMore P i l 80 [(0, vR (some 51)), (1, vI x1), (2, vI x2), (3, vR (some sn)), (4, vI x4), (5, vI x5), (6, vL x6), (8, vI x8)] [] := by
    intro hp
    have h := hk15 hp
    refine g_iconst (pc' := 81) dX1_showsNoMore_80 rfl ?_
    exact g_retZ rfl (by decide) dX1_showsNoMore_81 h
  have hk16g : (¬ (i 51 13 ≤ x8) ∧ (¬ (iand (ishr x5 x8) 1 = 1))) → gI w d X_X1_showsNoMore P i l 74 [(0, vR (some 51)), (1, vI x1), (2, vI x2), (3, vR (some sn)), (4, vI x4), (5, vI x5), (6, vL x6), (8, vI x8)] [] := by
    intro hp
    have h := hk16 hp
    refine g_iinc (pc' := 77) (L' := [(8, vI (x8 + 1)), (0, vR (some 51)), (1, vI x1), (2, vI x2), (3, vR (some sn)), (4, vI x4), (5, vI x5), (6, vL x6)]) 7 dX1_showsNoMore_74 rfl (Nat.le_of_ble_eq_true rfl) rfl rfl ?_
    refine g_goto (tgt := 3) dX1_showsNoMore_77 rfl ?_
    refine g_sub (L' := [(0, vR (some 51)), (1, vI x1), (2, vI x2), (3, vR (some sn)), (4, vI x4), (5, vI x5), (6, vL x6), (8, vI (x8 + 1))]) [1, 2, 3, 4, 5, 6, 7, 0] rfl ?_
    exact h
  have hk17g : (¬ (i 51 13 ≤ x8) ∧ (iand (ishr x5 x8) 1 = 1)) → gI w d X_X1_showsNoMore P i l 23 [(0, vR (some 51)), (1, vI x1), (2, vI x2), (3, vR (some sn)), (4, vI x4), (5, vI x5), (6, vL x6), (8, vI x8)] [] := by
    intro hp
    have h := hk17 hp
    obtain ⟨ob8, ob9, ob10, h⟩ := h
    refine g_aload_n (pc' := 24) 3 dX1_showsNoMore_23 rfl rfl ?_
    refine g_iload (pc' := 26) 4 dX1_showsNoMore_24 rfl rfl ?_
    refine g_iload (pc' := 28) 7 dX1_showsNoMore_26 rfl rfl ?_
    refine g_iadd (pc' := 29) dX1_showsNoMore_28 rfl ?_
    refine g_lald (pc' := 30) (N := 132) (shSn hsn) rfl (Nat.lt_of_lt_of_le (Nat.lt_succ_self _) (Nat.le_of_ble_eq_true rfl)) ob8 dX1_showsNoMore_29 rfl ?_
    refine g_aload_n (pc' := 31) 0 dX1_showsNoMore_30 rfl rfl ?_
    refine g_getR (pc' := 34) (o := some 56) fl_X1_24 rfl rfl rfl dX1_showsNoMore_31 rfl ?_
    refine g_iload_n (pc' := 35) 2 dX1_showsNoMore_34 rfl rfl ?_
    refine g_bipush (pc' := 37) dX1_showsNoMore_35 rfl rfl ?_
    refine g_imul (pc' := 38) dX1_showsNoMore_37 rfl ?_
    refine g_iload (pc' := 40) 7 dX1_showsNoMore_38 rfl rfl ?_
    refine g_iadd (pc' := 41) dX1_showsNoMore_40 rfl ?_
    refine g_lald (pc' := 42) (N := 360) rfl rfl (Nat.lt_of_lt_of_le (Nat.lt_succ_self _) (Nat.le_of_ble_eq_true rfl)) ob9 dX1_showsNoMore_41 rfl ?_
    refine g_lor (pc' := 43) dX1_showsNoMore_42 rfl ?_
    refine g_lstore (pc' := 45) (L' := [(9, vL ((l sn (x4 + x8)) ||| (l 56 ((x2 * 12) + x8)))), (0, vR (some 51)), (1, vI x1), (2, vI x2), (3, vR (some sn)), (4, vI x4), (5, vI x5), (6, vL x6), (8, vI x8)]) dX1_showsNoMore_43 rfl (Nat.le_of_ble_eq_true rfl) rfl ?_
    refine g_aload_n (pc' := 46) 1 dX1_showsNoMore_45 rfl rfl ?_
    refine g_getR (pc' := 49) (o := some 56) fl_X1_24 rfl rfl rfl dX1_showsNoMore_46 rfl ?_
    refine g_iload_n (pc' := 50) 2 dX1_showsNoMore_49 rfl rfl ?_
    refine g_bipush (pc' := 52) dX1_showsNoMore_50 rfl rfl ?_
    refine g_imul (pc' := 53) dX1_showsNoMore_52 rfl ?_
    refine g_iload (pc' := 55) 8 dX1_showsNoMore_53 rfl rfl ?_
    refine g_iadd (pc' := 56) dX1_showsNoMore_55 rfl ?_
    refine g_lald (pc' := 57) (N := 360) rfl rfl (Nat.lt_of_lt_of_le (Nat.lt_succ_self _) (Nat.le_of_ble_eq_true rfl)) ob10 dX1_showsNoMore_56 rfl ?_
    refine g_lload (pc' := 59) 0 dX1_showsNoMore_57 rfl rfl ?_
    refine g_ldc2 (pc' := 62) dX1_showsNoMore_59 rfl kl_X1_152 ?_
    refine g_lxor (pc' := 63) dX1_showsNoMore_62 rfl ?_
    refine g_land (pc' := 64) dX1_showsNoMore_63 rfl ?_
    refine g_lload (pc' := 66) 7 dX1_showsNoMore_64 rfl rfl ?_
    refine g_land (pc' := 67) dX1_showsNoMore_66 rfl ?_
    refine g_lconst (pc' := 68) (v := 0) dX1_showsNoMore_67 rfl rfl ?_
    refine g_lcmp (pc' := 69) dX1_showsNoMore_68 rfl ?_
    obtain ⟨hk13, hk14⟩ := h
    refine g_if_eq (tgt := 74) (pc' := 72) (rg_lcmpI _ _) (lcmpI_eq _ _) dX1_showsNoMore_69 rfl rfl (fun c12 => ?_) (fun c12 => ?_)
    · have h := hk13 c12
      refine g_iinc (pc' := 77) (L' := [(8, vI (x8 + 1)), (9, vL ((l sn (x4 + x8)) ||| (l 56 ((x2 * 12) + x8)))), (0, vR (some 51)), (1, vI x1), (2, vI x2), (3, vR (some sn)), (4, vI x4), (5, vI x5), (6, vL x6)]) 8 dX1_showsNoMore_74 rfl (Nat.le_of_ble_eq_true rfl) rfl rfl ?_
      refine g_goto (tgt := 3) dX1_showsNoMore_77 rfl ?_
      refine g_sub (L' := [(0, vR (some 51)), (1, vI x1), (2, vI x2), (3, vR (some sn)), (4, vI x4), (5, vI x5), (6, vL x6), (8, vI (x8 + 1))]) [2, 3, 4, 5, 6, 7, 8, 0] rfl ?_
      exact h
    · have h := hk14 c12
      refine g_iconst (pc' := 73) dX1_showsNoMore_72 rfl ?_
      exact g_retZ rfl (by decide) dX1_showsNoMore_73 h
  refine g_icmp_ge (tgt := 80) (pc' := 12) (hob3) rg1 Iff.rfl dX1_showsNoMore_9 rfl rfl (fun c4 => ?_) (fun c4 => ?_)
  · exact hk15g c4
  · refine g_iload (pc' := 14) 5 dX1_showsNoMore_12 rfl rfl ?_
    refine g_iload (pc' := 16) 7 dX1_showsNoMore_14 rfl rfl ?_
    refine g_ishr (pc' := 17) dX1_showsNoMore_16 rfl ?_
    refine g_iconst (pc' := 18) dX1_showsNoMore_17 rfl ?_
    refine g_iand (pc' := 19) dX1_showsNoMore_18 rfl ?_
    refine g_iconst (pc' := 20) dX1_showsNoMore_19 rfl ?_
    refine g_icmp_ne (tgt := 74) (pc' := 23) (rg_iand _ _) (rg_lit rfl) Iff.rfl dX1_showsNoMore_20 rfl rfl (fun c5 => ?_) (fun c5 => ?_)
    · exact hk16g ⟨c4, c5⟩
    · exact hk17g ⟨c4, c5⟩
